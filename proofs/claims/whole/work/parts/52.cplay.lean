/-! CONTRACTS 32: acts and played on the class's side -/
section Z33
variable {X : a_X} {ad : Nat → Nat} {ca : Nat → ClassId} {d x : Nat} {M : a_M} {S : Nat → Nat} {V : Nat → Nat → Nat}
/-- what an act changes in the class: Exchange, the row beside, what waits, and the standing -/
def cA (M M' : a_M) : Prop := (∀ o, (o < 11 ∨ o = 12 ∨ 69 ≤ o) → o ≠ 99 → o ≠ 105 → o ≠ 111 → o ≠ 117 → M' o = M o) ∧ ∀ o, 19 ≤ o → o < 44 → M' o = M o
theorem cA.rfl (M : a_M) : cA M M := ⟨fun _ _ _ _ _ _ => Eq.refl _, fun _ _ _ => Eq.refl _⟩
theorem cA.trans {M M' M'' : a_M} (h : cA M M') (h2 : cA M' M'') : cA M M'' := ⟨fun o h0 h1 h3 h4 h5 => (h2.1 o h0 h1 h3 h4 h5).trans (h.1 o h0 h1 h3 h4 h5), fun o h0 h1 => (h2.2 o h0 h1).trans (h.2 o h0 h1)⟩
theorem cTx.A {M M' : a_M} {o : Nat} {T : zTx} (h : cTx M o T) (ho : zsc o) (hk : cA M M') : cTx M' o T := h.same (fun i h1 h2 => by
  have e : M' i = M i := hk.1 i (by unfold zsc at ho; omega) (by unfold zsc at ho; omega) (by unfold zsc at ho; omega) (by unfold zsc at ho; omega) (by unfold zsc at ho; omega)
  exact ⟨fun _ => by rw [e], fun _ => e⟩)
theorem cT.A {M M' : a_M} {S S' : Nat → Nat} {R : Nat} {RD : Nat → zTx} {ρ : Nat} {T : zTx} (h : cT M S R RD ρ T) (h4 : S 6 ≤ 4) (h6 : S' 6 = S 6) (hk : cA M M') : cT M' S' R RD ρ T := by
  have hz := zts_sc h4
  unfold cT
  rw [h6]
  refine ⟨?_, h.2.1, h.2.2.1, h.2.2.2.1.A hz hk, h.2.2.2.2⟩
  rw [hk.1 _ (by unfold zsc at hz; omega) (by unfold zsc at hz; omega) (by unfold zsc at hz; omega) (by unfold zsc at hz; omega) (by unfold zsc at hz; omega)]
  exact h.1
def zAf (S : Nat → Nat) (f : Nat) : Nat := if S 7 < 20 then f else (f + 1) % 21
theorem cSt_act {M M4 : a_M} {f : Nat} {W : Nat → Nat} (hS : cSt M 44 S V) (hw : wSt S V) (hf : f ≤ 20) (hr : ∀ k, k ≤ S 8 → ∀ s, s < 2 ^ S 0 → M (48 + (f + k) % 21) s = nI (V k s))
    (g1 : M4 46 3 = 0) (g2 : M4 46 2 = nI (if S 7 < 20 then S 7 + 1 else 20)) (g3 : M4 46 1 = nI (zAf S f)) (g4 : ∀ i, 44 ≤ i → i ≤ 68 → i ≠ 46 → i ≠ 48 + (zAf S f + zAc S) % 21 → M4 i = M i) (g5 : ∀ s, s < 2 ^ S 0 → M4 (48 + (zAf S f + zAc S) % 21) s = nI (W s)) : cSt M4 44 (zAcS S) (zAcV S V W) := by
  obtain ⟨h1, h2, h3, h4, h5, -⟩ := hS
  obtain ⟨-, w5, w6, w7, w8, -⟩ := hw
  have hm : (zAf S f + zAc S) % 21 < 21 := Nat.mod_lt _ (by omega)
  have eA : zAc S = if S 7 < 20 then S 7 + 1 else 20 := by
    unfold zAc
    by_cases c : S 7 = 20
    · rw [if_pos c, if_neg (by omega)]
    · rw [if_neg c, if_pos (by omega)]
  have hA20 : zAc S ≤ 20 := by rw [eA]; split <;> omega
  have hf' : zAf S f ≤ 20 := by unfold zAf; split <;> omega
  refine ⟨?_, ?_, ?_, ?_, ?_, zAf S f, hf', g3, ?_⟩
  · rw [zAcS_no _ 0 (by decide) (by decide), zAcS_no _ 1 (by decide) (by decide), zAcS_no _ 2 (by decide) (by decide), zAcS_no _ 3 (by decide) (by decide), zAcS_no _ 4 (by decide) (by decide)]
    exact h1.same (g4 45 (by omega) (by omega) (by omega) (by omega))
  · rw [zAcS_no _ 5 (by decide) (by decide), g4 44 (by omega) (by omega) (by omega) (by omega)]; exact h2
  · rw [zAcS_no _ 6 (by decide) (by decide), g4 44 (by omega) (by omega) (by omega) (by omega)]; exact h3
  · rw [zAcS_7, eA]; exact g2
  · rw [zAcS_7, zAcS_8, Nat.sub_self]; exact g1
  · rw [zAcS_8, zAcS_no _ 0 (by decide) (by decide)]
    intro k hk s hs
    unfold zAcV
    by_cases c : k = zAc S
    · rw [if_pos c, c]; exact g5 s hs
    · rw [if_neg c]
      show M4 (48 + (zAf S f + k) % 21) s = _
      have hne : (zAf S f + k) % 21 ≠ (zAf S f + zAc S) % 21 := fun q => c (row_inj (by omega) (by omega) q)
      have hlt : (zAf S f + k) % 21 < 21 := Nat.mod_lt _ (by omega)
      rw [g4 _ (by omega) (by omega) (by omega) (by omega)]
      by_cases c2 : S 7 = 20
      · rw [if_pos c2]
        have e1 : (zAf S f + k) % 21 = (f + (k + 1)) % 21 := by unfold zAf; rw [if_neg (by omega)]; omega
        rw [e1]
        exact hr (k + 1) (by omega) s hs
      · rw [if_neg c2]
        have e1 : (zAf S f + k) % 21 = (f + k) % 21 := by unfold zAf; rw [if_pos (by omega)]
        rw [e1]
        exact hr k (by rw [eA, if_pos (by omega)] at hk c; omega) s hs
theorem kX11_told (hd : 2 ≤ d) (h2 : M 44 2 = nI (S 5)) (h3 : M 44 3 = nI (S 6) - 1) (h5 : S 5 ≤ 4) (h65 : S 6 ≤ S 5) : mX11_toldScript X ad ca d x [.ref 0] M (q_r (PT x) (fun s M' => M' = M ∧ s = zts (S 6))) := by
  obtain ⟨d, rfl⟩ := a_d1 (show 1 ≤ d by omega)
  refine eX11_toldScript (bX11_toldScript_0 ⟨_, kX11_isText (by omega) h2 h5, ?_⟩)
  rintro v1 M1 ⟨rfl, rfl⟩
  rcases Nat.eq_zero_or_pos (S 6) with q | q
  · refine ⟨fun _ => ⟨_, rfl, rfl, rfl, by unfold zts; rw [if_pos q]⟩, fun h => absurd ?_ h⟩
    rw [if_neg]
    rintro ⟨t, ht, hq⟩
    rw [h3, q] at hq
    exact nI_m1 (k := t) (by omega) hq.symm
  · have h3' : M1 44 3 = nI (S 6 - 1) := by rw [h3]; exact pk_sub (b := 1) (by omega)
    refine ⟨fun h => absurd h ?_, fun _ => ?_⟩
    · rw [if_pos ⟨S 6 - 1, by omega, h3'⟩]; decide
    · rw [h3', n_cl (by omega)]
      have hz : zts (S 6) = 94 + 6 * (S 6 - 1) := by unfold zts; rw [if_neg (by omega)]
      refine ⟨n_in (by omega) (by omega), zts (S 6), 0, by rw [hz]; exact ly_scripts (by omega), ⟨rfl, (ly_scr (x := x) (zts_sc (show S 6 ≤ 4 by omega))).1⟩, _, rfl, rfl, rfl, rfl⟩
theorem kX11_enact (hd : 6 ≤ d) {R ρ : Nat} {RD : Nat → zTx} {T : zTx} {u w : Int32} (hS : cSt M 44 S V) (hw : wSt S V) (hE : cEx M R RD) (hT : cT M S R RD ρ T) :
    mX11_enact X ad ca d x [.ref 0, .int u, .int w] M (q_i (PT x) (fun s M' => ∃ S' V', rAct S V T u w s S' V' ∧ cSt M' 44 S' V' ∧ cEx M' R RD ∧ cA M M')) := by
  obtain ⟨d, rfl⟩ := a_d1 (show 1 ≤ d by omega)
  have hpb := zpl_b _ hw.1.2.2.2.1
  have h2n := z_p2 hw.1.1
  obtain ⟨w0, w5, w6, w7, w8, -⟩ := id hw
  have no : ∀ M1, M1 = M → (¬ ∃ a k, zcan S u w a k) → wX11_enact X ad ca d x (q_i (PT x) (fun s M' => ∃ S' V', rAct S V T u w s S' V' ∧ cSt M' 44 S' V' ∧ cEx M' R RD ∧ cA M M')) 51 [(0, .ref 0), (1, .int u), (2, .int w), (3, .ref 45)] M1 := by
    rintro M1 rfl h
    exact bX11_enact_51 _ _ _ rfl ⟨_, rfl, rfl, S, V, Or.inr ⟨h, rfl, rfl, rfl⟩, hS, hE, cA.rfl _⟩
  have yes : ∀ M1 a k, M1 = M → zcan S u w a k → wX11_enact X ad ca d x (q_i (PT x) (fun s M' => ∃ S' V', rAct S V T u w s S' V' ∧ cSt M' 44 S' V' ∧ cEx M' R RD ∧ cA M M')) 47 [(0, .ref 0), (1, .int u), (2, .int w), (3, .ref 45)] M1 := by
    rintro M1 a k rfl hc
    obtain ⟨f, hf, hf1, hr⟩ := hS.2.2.2.2.2
    have eA : zAc S = if S 7 < 20 then S 7 + 1 else 20 := by
      unfold zAc
      by_cases c : S 7 = 20
      · rw [if_pos c, if_neg (by omega)]
      · rw [if_neg c, if_pos (by omega)]
    have hA1 : 1 ≤ zAc S ∧ zAc S ≤ 20 := by rw [eA]; split <;> omega
    have hAf : zAf S f ≤ 20 := by unfold zAf; split <;> omega
    refine bX11_enact_47 _ _ _ rfl ⟨_, kX2_open (by omega) (σ := 44) (Or.inl rfl) hf1 hS.2.2.2.1 hf (by omega), ?_⟩
    rintro M2 ⟨o1, o2, o3, o4⟩
    have o3' : M2 46 1 = nI (zAf S f) := o3
    have o2' : M2 46 2 = nI (zAc S) := by rw [eA]; exact o2
    have o2'' : M2 (44 + 2) 2 = nI ((zAc S - 1) + 1) := by rw [show zAc S - 1 + 1 = zAc S by omega]; exact o2'
    refine ⟨_, kX2_earlier (by omega) (σ := 44) (f := zAf S f) (k := zAc S - 1) (Or.inl rfl) o3' o2'' (by omega), ?_⟩
    rintro r2 M3 ⟨rfl, rfl⟩
    have hy1 : (zAf S f + (zAc S - 1)) % 21 < 21 := Nat.mod_lt _ (by omega)
    have hy2 : (zAf S f + zAc S) % 21 < 21 := Nat.mod_lt _ (by omega)
    have hyn : (zAf S f + (zAc S - 1)) % 21 ≠ (zAf S f + zAc S) % 21 := fun q => by
      have := row_inj (by omega) (by omega) q
      omega
    have hL1 := (ly_row 44 (Or.inl rfl) x _ hy1).2
    have hL2 := (ly_row 44 (Or.inl rfl) x _ hy2).2
    refine ⟨128, hL1, _, kX2_vector (by omega) (σ := 44) (f := zAf S f) (k := zAc S) (Or.inl rfl) o3' o2' (by omega), ?_⟩
    rintro r3 M3 ⟨rfl, rfl⟩
    refine ⟨128, hL2, ?_⟩
    have eold : ∀ s, s < 2 ^ S 0 → M3 (44 + 4 + (zAf S f + (zAc S - 1)) % 21) s = nI (V (S 7) s) := fun s hs => by
      rw [o4 _ (by omega)]
      have e1 : (zAf S f + (zAc S - 1)) % 21 = (f + S 7) % 21 := by
        unfold zAf
        rw [eA]
        by_cases c : S 7 < 20
        · rw [if_pos c, if_pos c]; congr 1
        · rw [if_neg c, if_neg c]; omega
      rw [e1]
      exact hr (S 7) w7 s hs
    have hR3 : rH M3 45 (S 0) (S 1) (S 2) (S 3) (S 4) := hS.1.same (o4 45 (by omega))
    -- the end of every act
    have fin : ∀ M4 : a_M, (∀ s, s < 2 ^ S 0 → M4 (44 + 4 + (zAf S f + zAc S) % 21) s = nI (zOp S T a k (V (S 7)) s)) → (∀ i, 44 ≤ i → i ≤ 68 → i ≠ 44 + 4 + (zAf S f + zAc S) % 21 → M4 i = M3 i) → cEx M4 R RD → (∀ o, (o < 11 ∨ o = 12 ∨ 69 ≤ o) → o ≠ 99 → o ≠ 105 → o ≠ 111 → o ≠ 117 → M4 o = M3 o) → (∀ o, 19 ≤ o → o < 44 → M4 o = M3 o) → wX11_enact X ad ca d x (q_i (PT x) (fun s M' => ∃ S' V', rAct S V T u w s S' V' ∧ cSt M' 44 S' V' ∧ cEx M' R RD ∧ cA M1 M')) 182 [] M4 := by
      intro M4 q1 q2 q3 q4 q5
      refine bX11_enact_182 ⟨_, rfl, rfl, _, _, Or.inl ⟨a, k, hc, rfl, rfl, rfl⟩, cSt_act hS hw hf hr ?_ ?_ ?_ ?_ q1, q3, fun o a1 a2 a3 a4 a5 => ?_, fun o a1 a2 => ?_⟩
      · rw [q2 46 (by omega) (by omega) (by omega)]; exact o1
      · rw [q2 46 (by omega) (by omega) (by omega)]; exact o2
      · rw [q2 46 (by omega) (by omega) (by omega)]; exact o3'
      · intro i b1 b2 b3 b4
        rw [q2 i b1 b2 b4, o4 i b3]
      · rw [q4 o a1 a2 a3 a4 a5, o4 o (by omega)]
      · rw [q5 o a1 a2, o4 o (by omega)]
    have hE3 : cEx M3 R RD := hE.same (fun i a1 a2 a3 => o4 i (by omega))
    have hzt : S 6 ≤ 4 := by omega
    have u0 : ∀ b, b < 4 → (u = nI b ↔ a = b) := fun b hb => by
      rw [hc.1]
      have : a < 4 := by rcases hc.2 with q | q | q <;> omega
      exact nI_eq (by omega) (by omega)
    have k0 := u0 0 (by omega)
    have k1 := u0 1 (by omega)
    have k2 := u0 2 (by omega)
    refine ⟨fun h => ?_, fun h => ?_, fun h => ?_, fun h => ?_⟩
    · have ha : a = 0 := k0.mp h
      refine ⟨_, kX6_shiftOver (by omega) (o := 45) rfl hL1 hL2 (by omega) hR3.1 w0.1 w0.2.1, ?_⟩
      rintro M4 ⟨s1, s2⟩
      refine fin M4 (fun s hs => ?_) (fun i a1 a2 a3 => s2 i a3) (hE3.same (fun i a1 a2 a3 => s2 i (by omega))) (fun o a1 a2 a3 a4 a5 => s2 o (by omega)) (fun o a1 a2 => s2 o (by omega))
      obtain ⟨z1, z2, -⟩ := zhi_all _ w0.1 w0.2.1 s hs
      have := s1 _ z1
      rw [z2, eold _ z1] at this
      rw [this]
      unfold zOp
      rw [if_pos ha]
    · have ha : a = 1 := k1.mp h
      obtain ⟨hk, rfl⟩ : k < S 0 ∧ w = nI k := by
        rcases hc.2 with ⟨q, -⟩ | ⟨-, q2, q3⟩ | ⟨q, -⟩
        · omega
        · exact ⟨q2, q3⟩
        · omega
      refine ⟨_, kX6_turnOver (by omega) (o := 45) rfl hL1 hL2 (by omega) hR3.1 w0.1 hk, ?_⟩
      rintro M4 ⟨s1, s2⟩
      refine fin M4 (fun s hs => ?_) (fun i a1 a2 a3 => s2 i a3) (hE3.same (fun i a1 a2 a3 => s2 i (by omega))) (fun o a1 a2 a3 a4 a5 => s2 o (by omega)) (fun o a1 a2 => s2 o (by omega))
      have hlt : s ^^^ 2 ^ k < 2 ^ S 0 := Nat.xor_lt_two_pow hs (Nat.pow_lt_pow_right (by omega) hk)
      have := s1 _ hlt
      rw [Nat.xor_assoc, Nat.xor_self, Nat.xor_zero, eold _ hlt] at this
      rw [this]
      unfold zOp
      rw [if_neg (by omega), if_pos ha]
    · have ha : a = 2 := k2.mp h
      refine ⟨_, kX6_sumOver (by omega) (o := 45) rfl hL1 hL2 (by omega) hR3 w0 (fun j hj => ⟨eold j hj, hw.2.2.2.2.2 _ w7 j hj⟩), ?_⟩
      rintro M4 ⟨s1, -, s2⟩
      refine fin M4 (fun s hs => ?_) (fun i a1 a2 a3 => s2 i a3) (hE3.same (fun i a1 a2 a3 => s2 i (by omega))) (fun o a1 a2 a3 a4 a5 => s2 o (by omega)) (fun o a1 a2 => s2 o (by omega))
      rw [s1 s hs]
      unfold zOp
      rw [if_neg (by omega), if_neg (by omega), if_pos ha]
    · have ha : a = 3 := by
        have h0 : ¬ a = 0 := fun q => by have := k0.mpr q; rw [this] at h; revert h; decide
        have h1 : ¬ a = 1 := fun q => by have := k1.mpr q; rw [this] at h; revert h; decide
        have h2 : ¬ a = 2 := fun q => by have := k2.mpr q; rw [this] at h; revert h; decide
        rcases hc.2 with q | q | q <;> omega
      obtain ⟨hk, rfl⟩ : k < S 2 ∧ w = nI k := by
        rcases hc.2 with ⟨q, -⟩ | ⟨q, -⟩ | ⟨-, q2, q3⟩
        · omega
        · omega
        · exact ⟨q2, q3⟩
      -- the told script, seen from the opened history
      have hkd : M3 44 = M1 44 := o4 44 (by omega)
      have hz := zts_sc hzt
      have hzw := zts_w hzt
      refine ⟨_, kX11_told (by omega) (by rw [hkd]; exact hS.2.1) (by rw [hkd]; exact hS.2.2.1) w5 w6, ?_⟩
      rintro r7 M4 ⟨rfl, rfl⟩
      have hT3 : cT M4 S R RD ρ T := hT.A hzt rfl ⟨fun o a1 a2 a3 a4 a5 => o4 o (by omega), fun o a1 a2 => o4 o (by omega)⟩
      obtain ⟨t1, t2, t3, t4, t5, rfl⟩ := hT3
      refine ⟨0, ⟨rfl, (ly_scr (x := x) hz).1⟩, _, kX1_look (by omega) (o1 := 45) (o2 := zts (S 6)) hE3 rfl (by decide) hz hR3 w0 t1 t2 t3 t4 t5, ?_⟩
      rintro M5 ⟨l1, l2, l3⟩
      have fr : ∀ i, 44 ≤ i → i ≤ 68 → M5 i = M4 i := fun i a1 a2 => l3 i (by omega) (by omega) (by omega) (by omega) (by omega) (by omega)
      refine ⟨_, kX1_tableOver (by omega) hL1 hL2 (by omega) l2.1 l2.2.1 w0 t5 hk (fun j hj => ⟨by rw [fr _ (by omega) (by omega)]; exact eold j hj, hw.2.2.2.2.2 _ w7 j hj⟩), ?_⟩
      rintro M6 ⟨s1, s2⟩
      have hE5 : cEx M5 R RD := Or.inr ⟨ρ, _, _, _, _, _, t2, l1, w0, t5, l2⟩
      refine fin M6 (fun s hs => ?_) (fun i a1 a2 a3 => by rw [s2 i (by omega) a3, fr i a1 a2]) (hE5.same (fun i a1 a2 a3 => s2 i a3 (by omega))) (fun o a1 a2 a3 a4 a5 => by rw [s2 o (by omega) (by omega), l3 o (by omega) (by omega) (by omega) (by omega) (by omega) (by omega)]) (fun o a1 a2 => by rw [s2 o (by omega) (by omega), l3 o (by omega) (by omega) (by omega) (by omega) (by omega) (by omega)])
      rw [s1 s hs]
      unfold zOp
      rw [if_neg (by omega), if_neg (by omega), if_neg (by omega)]
      rfl
  -- who can act
  have c34 : u ≠ 0 → u ≠ 2 → ¬ (u = 1 ∧ ∃ k, k < S 0 ∧ w = nI k) → wX11_enact X ad ca d x (q_i (PT x) (fun s M' => ∃ S' V', rAct S V T u w s S' V' ∧ cSt M' 44 S' V' ∧ cEx M' R RD ∧ cA M M')) 34 [(0, .ref 0), (1, .int u), (2, .int w), (3, .ref 45)] M := by
    intro n0 n2 n1
    have hcn : ∀ a k, zcan S u w a k → a = 3 ∧ k < S 2 ∧ w = nI k ∧ u = nI 3 := by
      rintro a k ⟨rfl, q⟩
      rcases q with ⟨q | q, -⟩ | ⟨q, q2, q3⟩ | ⟨q, q2, q3⟩
      · subst q; exact absurd rfl n0
      · subst q; exact absurd rfl n2
      · subst q; exact absurd ⟨rfl, k, q2, q3⟩ n1
      · exact ⟨q, q2, q3, by rw [q]⟩
    refine bX11_enact_34 _ _ _ rfl ⟨fun h => no _ rfl ?_, fun h => ⟨_, kX6_isNumber (by omega) rfl _ hS.1.2.2.1 (by omega), ?_⟩⟩
    · rintro ⟨a, k, q⟩
      exact h (hcn a k q).2.2.2
    rintro v1 M1 ⟨rfl, hv1⟩
    refine ⟨fun h2 => no _ rfl ?_, fun h2 => ?_⟩
    · rintro ⟨a, k, q⟩
      obtain ⟨-, q1, q2, -⟩ := hcn a k q
      rw [if_pos ⟨k, q1, q2⟩] at hv1
      rw [hv1] at h2
      exact absurd h2 (by decide)
    · obtain ⟨k, q1, q2⟩ : ∃ k, k < S 2 ∧ w = nI k := Classical.byContradiction fun q => h2 (by rw [hv1, if_neg q])
      exact yes _ 3 k rfl ⟨h, Or.inr (Or.inr ⟨rfl, q1, q2⟩)⟩
  refine eX11_enact _ _ (bX11_enact_0 _ _ ⟨fun h => yes _ 0 0 rfl ⟨h, Or.inl ⟨Or.inl rfl, rfl⟩⟩, fun h0 => ⟨fun h => yes _ 2 0 rfl ⟨h, Or.inl ⟨Or.inr rfl, rfl⟩⟩, fun h2 => ⟨fun h => c34 h0 h2 (fun q => h q.1), fun h1 => ⟨fun h => c34 h0 h2 ?_, fun h => ?_⟩⟩⟩⟩)
  · rintro ⟨-, k, hk, rfl⟩
    exact nI_pos (by have := w0.1; omega) h
  rw [hS.1.1]
  refine ⟨fun h3 => ?_, fun h3 => c34 h0 h2 ?_⟩
  · obtain ⟨k, hk, rfl⟩ : ∃ k, k < S 0 ∧ w = nI k := by
      rcases pk_ix w (n := S 0) (by have := w0.1; omega) with q | q | q
      · exact absurd q h
      · exact absurd h3 (fun q2 => (fa_of_lt q2).2.1 q)
      · exact q
    exact yes _ 1 k rfl ⟨h1, Or.inr (Or.inl ⟨rfl, hk, rfl⟩)⟩
  · rintro ⟨-, k, hk, rfl⟩
    exact h3 (nI_lt hk (by have := w0.1; omega))
theorem kX11_act (hd : 7 ≤ d) {R ρ : Nat} {RD : Nat → zTx} {T : zTx} {u w : Int32} (hS : cSt M 44 S V) (hw : wSt S V) (hE : cEx M R RD) (hT : cT M S R RD ρ T) :
    mX11_act X ad ca d x [.ref 0, .int u, .int w] M (q_i (PT x) (fun s M' => ∃ S' V', rAct S V T u w s S' V' ∧ cSt M' 44 S' V' ∧ cEx M' R RD ∧ cA M M')) := by
  obtain ⟨d, rfl⟩ := a_d1 (show 1 ≤ d by omega)
  refine eX11_act _ _ (bX11_act_0 _ _ ⟨_, kX11_enact (by omega) hS hw hE hT, ?_⟩)
  rintro v1 M1 ⟨S', V', h1, h2⟩
  refine ⟨?_, _, rfl, rfl, S', V', h1, h2⟩
  rcases h1 with ⟨a, k, -, q, -⟩ | ⟨-, q, -⟩
  · exact Or.inr q
  · exact Or.inl q
theorem kX7_kindOf (hd : 1 ≤ d) {o i : Nat} {T : zTx} {q : Nat × Nat × List Int32} (ho : zsc o) (hT : cTx M o T) (hl : T.length ≤ 30) (hq : T[i]? = some q) : mX7_kindOf X ad ca d x [.ref o, .int (nI i)] M (q_i (PT x) (fun s M' => M' = M ∧ s = nI q.1)) := by
  obtain ⟨d, rfl⟩ := a_d1 (show 1 ≤ d by omega)
  have hi : i < T.length := (List.getElem?_eq_some_iff.mp hq).1
  obtain ⟨l0, l1, -, -, -, -, p1, -⟩ := ly_scr (x := x) ho
  obtain ⟨st, hst⟩ := hT.2.1
  refine eX7_kindOf _ _ (bX7_kindOf_0 _ _ _ _ l0 l1 p1 ⟨fun h => absurd h (nI_pos (by omega)), fun _ => ⟨fun h => ?_, fun _ => ⟨n_in (by omega) (by omega), _, rfl, rfl, rfl, ?_⟩⟩⟩)
  · rw [hT.1] at h; exact absurd h (nI_ge hi (by omega))
  · rw [n_cl (by omega)]; exact (hst i q hq).1
theorem kX7_argument (hd : 4 ≤ d) {o o3 i n r p t e : Nat} {T : zTx} {q : Nat × Nat × List Int32} (ho : zsc o) (hT : cTx M o T) (hwT : wTx T) (hq : T[i]? = some q) (hLr : LY[o3]? = some (6, 5)) (hH : rH M o3 n r p t e) (hw : wH n r p t e) : mX7_argument X ad ca d x [.ref o, .int (nI i), .ref o3] M (q_i (PT x) (fun s M' => (s = if q.1 = 4 then nI q.2.1 else if q.1 = 6 then nI (zval p t e 0 q.2.2) else 0) ∧ ∀ j, j ≠ o + 5 → M' j = M j)) := by
  obtain ⟨d, rfl⟩ := a_d1 (show 1 ≤ d by omega)
  have hi : i < T.length := (List.getElem?_eq_some_iff.mp hq).1
  have hl := hwT.1
  obtain ⟨l0, l1, l2, l3, l4, l5, p1, p2, p3, p4, p5⟩ := ly_scr (x := x) ho
  obtain ⟨st, hst⟩ := hT.2.1
  obtain ⟨s1, s2, s3, s4, s5⟩ := hst i q hq
  obtain ⟨w1, w2, w3, w4⟩ := hwT.2.1 i q hq
  refine eX7_argument _ _ _ (bX7_argument_0 _ _ _ _ _ _ _ l0 hLr l3 p3 l2 p2 ⟨_, kX7_kindOf (by omega) ho hT hl hq, ?_⟩)
  rintro v1 M1 ⟨rfl, rfl⟩
  have kk : ∀ b, b < 7 → (nI q.1 = nI b ↔ q.1 = b) := fun b hb => nI_eq (by omega) (by omega)
  have k4 := kk 4 (by omega)
  have k6 := kk 6 (by omega)
  refine ⟨fun h4 => ⟨fun h6 => ⟨_, rfl, rfl, ?_, fun _ _ => rfl⟩, fun h6 => ⟨_, kX7_reckoned (by omega) (k := i) (b := st i) (c := q.2.2) (u := 0) l0 l2 l3 l5 p2 p3 p5 hLr hH hw (by have := zpl_b _ hw.2.2.2.1; omega) (by omega) s2 s3 s4 s5 (w3 (Or.inr (k6.mp h6))), ?_⟩⟩, fun h4 => ⟨n_in (by omega) (by omega), ?_⟩⟩
  · rw [if_neg (fun z => h4 (k4.mpr z)), if_neg (fun z => h6 (k6.mpr z))]
  · rintro v2 M2 ⟨rfl, q2⟩
    refine ⟨_, rfl, rfl, ?_, q2⟩
    rw [if_neg (fun z => h4 (k4.mpr z)), if_pos (k6.mp h6)]
  · have e1 := w4 (k4.mp h4)
    rw [e1] at s3 s4 s5
    rw [n_cl (show i < 2 ^ 31 by omega), s2]
    have hlen : ([nI q.2.1] : List Int32).length = 1 := rfl
    rw [hlen] at s4
    rw [n_cl (show st i < 2 ^ 31 by omega)]
    refine ⟨n_in (by omega) (by omega), _, rfl, rfl, ?_, fun _ _ => rfl⟩
    rw [if_pos (k4.mp h4)]
    exact s5 0 _ rfl
theorem kX11_played (hd : 7 ≤ d) {R ρ : Nat} {RD : Nat → zTx} {T : zTx} {TX : Nat → zTx} {u : Int32} (hS : cSt M 44 S V) (hw : wSt S V) (hE : cEx M R RD) (hT : cT M S R RD ρ T) (hTX : ∀ t, t < S 5 → cTx M (94 + 6 * t) (TX t) ∧ wTx (TX t)) :
    mX11_played X ad ca d x [.ref 0, .int u] M (q_i (PT x) (fun s M' => ∃ S' V', rPlayed S V TX T u s S' V' ∧ cSt M' 44 S' V' ∧ wSt S' V' ∧ cEx M' R RD ∧ cA M M')) := by
  obtain ⟨d, rfl⟩ := a_d1 (show 1 ≤ d by omega)
  have h5 := hw.2.1
  have h65 := hw.2.2.1
  refine eX11_played _ (bX11_played_0 _ ⟨_, kX11_isText (by omega) hS.2.1 h5, ?_⟩)
  rintro v1 M1 ⟨rfl, hv1⟩
  refine ⟨fun h => ?_, fun h => ⟨_, rfl, rfl, S, V, Or.inr ⟨fun q => ?_, rfl, rfl, rfl⟩, hS, hw, hE, cA.rfl _⟩⟩
  rotate_left
  · rw [if_pos q] at hv1; rw [hv1] at h; exact absurd h (by decide)
  obtain ⟨t, ht, rfl⟩ : ∃ t, t < S 5 ∧ u = nI t := Classical.byContradiction fun q => h (by rw [hv1, if_neg q])
  obtain ⟨hTt, hwt⟩ := hTX t ht
  have hlen := hwt.1
  have hsc : zsc (94 + 6 * t) := by unfold zsc; omega
  rw [n_cl (by omega)]
  refine ⟨n_in (by omega) (by omega), 94 + 6 * t, 0, ly_scripts (by omega), ⟨rfl, (ly_scr (x := x) hsc).1⟩, ?_⟩
  refine a_loop (σ := (Nat → Nat) × (Nat → Nat → Nat) × a_M) (fun i q => wX11_played X ad ca d x _ 20 [(0, .ref 0), (2, .ref (94 + 6 * t)), (3, .int (nI i))] q.2.2) (fun i q => cSt q.2.2 44 q.1 q.2.1 ∧ wSt q.1 q.2.1 ∧ cEx q.2.2 R RD ∧ cA M1 q.2.2 ∧ q.1 6 = S 6 ∧ q.1 5 = S 5 ∧ zPl T ((TX t).drop i) i q.1 q.2.1 = zPl T (TX t) 0 S V) (TX t).length ?_ ?_ 0 (S, V, M1) (Nat.zero_le _) ⟨hS, hw, hE, cA.rfl _, rfl, rfl, rfl⟩
  · rintro ⟨S', V', M'⟩ ⟨i1, i2, iE, i3, i4, i5, i6⟩
    dsimp only at i1 i2 iE i3 i4 i5 i6 ⊢
    rw [List.drop_length] at i6
    have hTt' := hTt.A hsc i3
    refine bX11_played_20 _ _ (ly_scr (x := x) hsc).1 ?_
    rw [hTt'.1]
    refine ⟨fun _ => ⟨_, rfl, rfl, S', V', Or.inl ⟨t, ht, rfl, ?_, ?_, ?_⟩, i1, i2, iE, i3⟩, fun h => absurd (nI_le (Nat.le_refl _) (by omega)) h⟩
    · rw [← i6]; rfl
    · rw [← i6]; rfl
    · rw [← i6]; rfl
  · rintro i ⟨S', V', M'⟩ hi ⟨i1, i2, iE, i3, i4, i5, i6⟩ ih
    dsimp only at i1 i2 iE i3 i4 i5 i6 ⊢
    have hTt' := hTt.A hsc i3
    have hq : (TX t)[i]? = some (TX t)[i] := List.getElem?_eq_getElem hi
    generalize (TX t)[i] = q at hq
    have hdr : (TX t).drop i = q :: (TX t).drop (i + 1) := by
      rw [List.drop_eq_getElem_cons hi]
      congr 1
      rw [List.getElem?_eq_getElem hi] at hq
      exact Option.some.inj hq
    rw [hdr] at i6
    obtain ⟨w1, w2, w3, w4⟩ := hwt.2.1 i q hq
    have hpb := zpl_b _ i2.1.2.2.2.1
    have hnext : ∀ (S2 : Nat → Nat) (V2 : Nat → Nat → Nat) (M2 : a_M), cSt M2 44 S2 V2 → wSt S2 V2 → cEx M2 R RD → cA M1 M2 → S2 6 = S 6 → S2 5 = S 5 → zPl T ((TX t).drop (i + 1)) (i + 1) S2 V2 = zPl T (TX t) 0 S V → wX11_played X ad ca d x (q_i (PT x) (fun s M' => ∃ S' V', rPlayed S V TX T (nI t) s S' V' ∧ cSt M' 44 S' V' ∧ wSt S' V' ∧ cEx M' R RD ∧ cA M1 M')) 65 [(0, .ref 0), (2, .ref (94 + 6 * t)), (3, .int (nI i))] M2 := by
      intro S2 V2 M2 a1 a2 a3 a4 a5 a6 a7
      refine bX11_played_65 _ _ (ly_scr (x := x) hsc).1 ?_
      rw [← nI_succ]
      exact ih (S2, V2, M2) ⟨a1, a2, a3, a4, a5, a6, a7⟩
    refine bX11_played_20 _ _ (ly_scr (x := x) hsc).1 ?_
    rw [hTt'.1]
    refine ⟨fun h => absurd h (nI_ge hi (by omega)), fun _ => ⟨_, kX7_kindOf (by omega) hsc hTt' hlen hq, ?_⟩⟩
    rintro v2 M2 ⟨rfl, rfl⟩
    refine ⟨fun h3 => ?_, fun h3 => ?_⟩
    · have h3' : q.1 < 3 := by
        rcases Nat.lt_or_ge q.1 3 with z | z
        · exact z
        · rw [show nI q.1 - 3 = nI (q.1 - 3) from pk_sub (b := 3) z] at h3
          exact absurd h3 (nI_pos (by omega))
      refine hnext S' V' M2 i1 i2 iE i3 i4 i5 ?_
      rw [← i6]
      have hcl : zCl S' q = none := by
        unfold zCl
        rw [if_neg (by omega), if_neg (by omega), if_neg (by omega), if_neg (by omega)]
      simp only [zPl, hcl]
    · have h3' : 3 ≤ q.1 := by
        rcases Nat.lt_or_ge q.1 3 with z | z
        · exfalso
          apply h3
          have : q.1 = 0 ∨ q.1 = 1 ∨ q.1 = 2 := by omega
          rcases this with e | e | e <;> rw [e] <;> decide
        · exact z
      rw [show nI q.1 - 3 = nI (q.1 - 3) from pk_sub (b := 3) h3']
      refine ⟨_, kX7_argument (by omega) (o3 := 45) hsc hTt' hwt hq rfl i1.1 i2.1, ?_⟩
      rintro v4 M4 ⟨rfl, f4⟩
      have hK4 : cK M2 M4 := fun o a1 a2 a3 a4 a5 => f4 o (by omega)
      have hA4 : cA M2 M4 := ⟨fun o a1 a2 a3 a4 a5 => f4 o (by omega), fun o a1 a2 => f4 o (by omega)⟩
      have iS4 := i1.K (Or.inl rfl) hK4
      have iE4 : cEx M4 R RD := iE.same (fun j a1 a2 a3 => f4 j (by omega))
      have hT4 : cT M4 S' R RD ρ T := hT.A (by omega) i4 (i3.trans hA4)
      have hcl : ∃ a k, zCl S' q = some (a, k) ∧ a = q.1 - 3 ∧ (if q.1 = 4 then nI q.2.1 else if q.1 = 6 then nI (zval (S' 2) (S' 3) (S' 4) 0 q.2.2) else 0) = nI k := by
        unfold zCl
        rcases (show q.1 = 3 ∨ q.1 = 4 ∨ q.1 = 5 ∨ q.1 = 6 by omega) with z | z | z | z <;> rw [z]
        · exact ⟨0, 0, rfl, rfl, rfl⟩
        · exact ⟨1, q.2.1, rfl, rfl, rfl⟩
        · exact ⟨2, 0, rfl, rfl, rfl⟩
        · exact ⟨3, _, rfl, rfl, rfl⟩
      obtain ⟨a, k, hcl, rfl, ek⟩ := hcl
      rw [ek]
      refine ⟨_, kX11_enact (by omega) iS4 i2 iE4 hT4, ?_⟩
      rintro v5 M5 ⟨S5, V5, r5, s5, e5, a5⟩
      by_cases c : q.1 - 3 = 1 ∧ S' 0 ≤ k
      · have hno : ¬ ∃ a k', zcan S' (nI (q.1 - 3)) (nI k) a k' := by
          have hk9 : k = q.2.1 := by
            unfold zCl at hcl
            rw [if_neg (by omega), if_neg (by omega), if_neg (by omega), if_pos (by omega)] at hcl
            exact (Prod.mk.inj (Option.some.inj hcl)).2.symm
          rintro ⟨a, k', g1, g2⟩
          have g3 : q.1 - 3 = a := (nI_eq (by omega) (by rcases g2 with g | g | g <;> omega)).mp g1
          have hn8 := i2.1.1
          rcases g2 with g | ⟨-, g4, g5⟩ | g
          · omega
          · have := (nI_eq (by omega) (by omega)).mp g5
            omega
          · omega
        rcases r5 with ⟨a, k', g1, -⟩ | ⟨-, rfl, rfl, rfl⟩
        · exact absurd ⟨a, k', g1⟩ hno
        · refine ⟨fun h => absurd rfl h, fun _ => ⟨_, rfl, rfl, S5, V5, Or.inl ⟨t, ht, rfl, ?_, ?_, ?_⟩, s5, i2, e5, (i3.trans hA4).trans a5⟩⟩
          all_goals
            rw [← i6]
            simp [zPl, hcl, c.1, c.2]
      · have hcan := zCl_can i2 hwt hq hcl c
        have hkb : k < 2 ^ 31 := by
          rcases hcan.2 with g | g | g
          · omega
          · have := i2.1.1; omega
          · omega
        rcases r5 with ⟨a, k', g1, rfl, rfl, rfl⟩ | ⟨g, -⟩
        · have hak : a = q.1 - 3 ∧ k' = k := by
            obtain ⟨g2, g3⟩ := g1
            have g4 : q.1 - 3 = a := (nI_eq (by omega) (by rcases g3 with g | g | g <;> omega)).mp g2
            refine ⟨g4.symm, ?_⟩
            rcases hcan.2 with ⟨y1, y2⟩ | ⟨y1, y2, y3⟩ | ⟨y1, y2, y3⟩ <;> rcases g3 with ⟨y4, y5⟩ | ⟨y4, y5, y6⟩ | ⟨y4, y5, y6⟩
            all_goals first | omega | skip
            · exact ((nI_eq (by omega) (by have := i2.1.1; omega)).mp y6).symm
            · exact ((nI_eq (by omega) (by omega)).mp y6).symm
          obtain ⟨rfl, rfl⟩ := hak
          refine ⟨fun _ => hnext _ _ M5 s5 (zAc_w i2 (zOp_lt i2 hcan)) e5 ((i3.trans hA4).trans a5) ?_ ?_ ?_, fun h => absurd h (by decide)⟩
          · rw [zAcS_no _ 6 (by decide) (by decide)]; exact i4
          · rw [zAcS_no _ 5 (by decide) (by decide)]; exact i5
          · rw [← i6]
            simp only [zPl, hcl, if_neg c]
        · exact absurd ⟨_, _, hcan⟩ g
end Z33
