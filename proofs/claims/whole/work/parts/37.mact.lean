/-! CONTRACTS 18: acts on the reference's side -/
def zhi (n y : Nat) : Nat := y / 2 + y % 2 * 2 ^ (n - 1)
theorem zhi_all : ∀ n, n < 8 → 2 ≤ n → ∀ y, y < 2 ^ n → zhi n y < 2 ^ n ∧ zh n (zhi n y) = y ∧ zh n y < 2 ^ n ∧ zhi n (zh n y) = y := by decide +kernel
/-- what an act makes of the vector -/
def zOp (S : Nat → Nat) (T : zTx) (a k : Nat) (f : Nat → Nat) (y : Nat) : Nat := if a = 0 then f (zhi (S 0) y) else if a = 1 then f (y ^^^ 2 ^ k) else if a = 2 then zS (S 2) (S 0) (zbd (S 0) (S 1)) (S 4) f y else zTT (S 2) (S 0) (S 3) (S 4) T k f y
def zcan (S : Nat → Nat) (u w : Int32) (a k : Nat) : Prop := u = nI a ∧ (((a = 0 ∨ a = 2) ∧ k = 0) ∨ (a = 1 ∧ k < S 0 ∧ w = nI k) ∨ (a = 3 ∧ k < S 2 ∧ w = nI k))
def zAc (S : Nat → Nat) : Nat := if S 7 = 20 then 20 else S 7 + 1
def zAcS (S : Nat → Nat) : Nat → Nat := va_up (va_up S 7 (zAc S)) 8 (zAc S)
def zAcV (S : Nat → Nat) (V : Nat → Nat → Nat) (W : Nat → Nat) (k : Nat) : Nat → Nat := if k = zAc S then W else if S 7 = 20 then V (k + 1) else V k
theorem zAcS_no (S : Nat → Nat) (i : Nat) (h7 : i ≠ 7) (h8 : i ≠ 8) : zAcS S i = S i := by unfold zAcS; rw [vn _ _ _ _ h8, vn _ _ _ _ h7]
theorem zAcS_7 (S : Nat → Nat) : zAcS S 7 = zAc S := by unfold zAcS; rw [vn _ _ _ _ (by decide), vu]
theorem zAcS_8 (S : Nat → Nat) : zAcS S 8 = zAc S := by unfold zAcS; rw [vu]
theorem zOp_lt {S : Nat → Nat} {V : Nat → Nat → Nat} {T : zTx} {u w : Int32} {a k : Nat} (hw : wSt S V) (hc : zcan S u w a k) : ∀ y, y < 2 ^ S 0 → zOp S T a k (V (S 7)) y < S 2 := by
  intro y hy
  obtain ⟨hH, h5, h6, h78, h8, hV⟩ := hw
  have hpb := zpl_b _ hH.2.2.2.1
  have hz := zhi_all _ hH.1 hH.2.1 y hy
  unfold zOp
  split
  · exact hV _ h78 _ hz.1
  split
  · rename_i q
    refine hV _ h78 _ (Nat.xor_lt_two_pow hy (Nat.pow_lt_pow_right (by omega) ?_))
    rcases hc.2 with ⟨q1, -⟩ | ⟨-, q2, -⟩ | ⟨q1, -⟩
    · omega
    · exact q2
    · omega
  split
  · exact zS_lt (by omega)
  · exact zTT_lt (by omega)
theorem zAc_le {S : Nat → Nat} {V : Nat → Nat → Nat} (hw : wSt S V) : zAc S ≤ 20 := by
  have h1 := hw.2.2.2.1
  have h2 := hw.2.2.2.2.1
  unfold zAc; split <;> omega
theorem zAc_w {S : Nat → Nat} {V : Nat → Nat → Nat} {W : Nat → Nat} (hw : wSt S V) (hW : ∀ y, y < 2 ^ S 0 → W y < S 2) : wSt (zAcS S) (zAcV S V W) := by
  have hle := zAc_le hw
  obtain ⟨hH, h5, h6, h78, h8, hV⟩ := hw
  refine ⟨?_, ?_, ?_, ?_, ?_, ?_⟩
  · rw [zAcS_no _ 0 (by decide) (by decide), zAcS_no _ 1 (by decide) (by decide), zAcS_no _ 2 (by decide) (by decide), zAcS_no _ 3 (by decide) (by decide), zAcS_no _ 4 (by decide) (by decide)]; exact hH
  · rw [zAcS_no _ 5 (by decide) (by decide)]; exact h5
  · rw [zAcS_no _ 5 (by decide) (by decide), zAcS_no _ 6 (by decide) (by decide)]; exact h6
  · rw [zAcS_7, zAcS_8]; exact Nat.le_refl _
  · rw [zAcS_8]; exact hle
  · rw [zAcS_8, zAcS_no _ 0 (by decide) (by decide), zAcS_no _ 2 (by decide) (by decide)]
    intro k hk s hs
    unfold zAcV
    split
    · exact hW s hs
    split
    · rename_i q1 q2
      refine hV _ ?_ s hs
      unfold zAc at hk q1
      rw [if_pos q2] at hk q1
      omega
    · rename_i q1 q2
      refine hV _ ?_ s hs
      unfold zAc at hk q1
      rw [if_neg q2] at hk q1
      omega
/-- what acts change -/
def mA (M M' : a_M) : Prop := (∀ o, o < 128 → o ≠ 118 → o ≠ 119 → M' o = M o) ∧ ∀ j, j < 35 → M' 118 j = M 118 j
theorem mA.rfl (M : a_M) : mA M M := ⟨fun _ _ _ _ => Eq.refl _, fun _ _ => Eq.refl _⟩
theorem mA.trans {M M' M'' : a_M} (h : mA M M') (h2 : mA M' M'') : mA M M'' := ⟨fun o q1 q2 q3 => (h2.1 o q1 q2 q3).trans (h.1 o q1 q2 q3), fun j q => (h2.2 j q).trans (h.2 j q)⟩
theorem mK.A {M M' : a_M} (h : mK M M') : mA M M' := ⟨fun o q1 q2 _ => h.1 o q1 q2, h.2⟩
theorem mT.A {M M' : a_M} {k : Nat} {T : zTx} (h : mT M k T) (hk : mA M M') (h6 : M' 119 6 = M 119 6) : mT M' k T := h.same h6 (fun i _ _ => hk.1 i (by omega) (by omega) (by omega))
section Z19
variable {X : a_X} {ad : Nat → Nat} {ca : Nat → ClassId} {d x : Nat} {M : a_M} {S : Nat → Nat} {V : Nat → Nat → Nat}
/-- from the shift of the rows on -/
theorem wX12_acts_129 (hd : 2 ≤ d) {W : Nat → Nat} {M0 M : a_M} {Post : Option Value → a_M → a_P → Prop} (hK : mK M0 M) (hS : mSt M 119 S V) (hw : wSt S V) (hW : ∀ j, j < 2 ^ S 0 → M 140 j = nI (W j))
    (hP : ∀ M', mSt M' 119 (zAcS S) (zAcV S V W) ∧ mA M0 M' → q_v (PT x) (fun M' => Post none M' (PT x)) none M' (PT x)) : wX12_acts X ad ca d x Post 129 [(0, .ref 118)] M := by
  have hle := zAc_le hw
  have h2n := z_p2 hw.1.1
  -- the last rows: from 209 on
  have tail : ∀ N : a_M, mK M0 (va_up N 119 (M0 119)) → (∀ i, i < 9 → N 119 i = if i = 7 ∨ i = 8 then nI (zAc S) else M 119 i) → (∀ k, k < zAc S → ∀ s, s < 128 → N 119 (10 + 128 * k + s) = M 119 (10 + 128 * (if S 7 = 20 then k + 1 else k) + s)) → N 140 = M 140 → wX12_acts X ad ca d x Post 209 [(0, .ref 118), (3, .int 0)] N := by
    intro N hN hN1 hN2 hN3
    have hc : N 119 7 = nI (zAc S) := by rw [hN1 7 (by omega)]; rfl
    have key := a_loop (σ := Unit) (fun i _ => wX12_acts X ad ca d x Post 209 [(0, .ref 118), (3, .int (nI i))] (mf N 119 (10 + 128 * zAc S) (fun j => N 140 (j - (10 + 128 * zAc S))) (10 + 128 * zAc S + i))) (fun _ _ => True) 128 ?_ ?_ 0 () (by omega) trivial
    · rw [Nat.add_zero, mf_0] at key; exact key
    · intro _ _
      refine bX12_acts_209 _ ⟨fun _ => (hP _ ⟨?_, ?_⟩).2.2, fun h => absurd (nI_le (Nat.le_refl 128) (by omega)) h⟩
      · have hb : ∀ i, i < 10 → mf N 119 (10 + 128 * zAc S) (fun j => N 140 (j - (10 + 128 * zAc S))) (10 + 128 * zAc S + 128) 119 i = N 119 i := fun i hi => mf_out _ _ _ _ _ _ (by omega)
        obtain ⟨m0, m1, m2, m3, m4, m5, m6, m7, m8, m9⟩ := hS
        refine ⟨?_, ?_, ?_, ?_, ?_, ?_, ?_, ?_, ?_, ?_⟩
        · rw [hb 0 (by omega), hN1 0 (by omega), zAcS_no _ 0 (by decide) (by decide)]; exact m0
        · rw [hb 1 (by omega), hN1 1 (by omega), zAcS_no _ 1 (by decide) (by decide)]; exact m1
        · rw [hb 2 (by omega), hN1 2 (by omega), zAcS_no _ 2 (by decide) (by decide)]; exact m2
        · rw [hb 3 (by omega), hN1 3 (by omega), zAcS_no _ 3 (by decide) (by decide)]; exact m3
        · rw [hb 4 (by omega), hN1 4 (by omega), zAcS_no _ 4 (by decide) (by decide)]; exact m4
        · rw [hb 5 (by omega), hN1 5 (by omega), zAcS_no _ 5 (by decide) (by decide)]; exact m5
        · rw [hb 6 (by omega), hN1 6 (by omega), zAcS_no _ 6 (by decide) (by decide)]; exact m6
        · rw [hb 7 (by omega), hN1 7 (by omega), zAcS_7]; rfl
        · rw [hb 8 (by omega), hN1 8 (by omega), zAcS_8]; rfl
        · rw [zAcS_8, zAcS_no _ 0 (by decide) (by decide)]
          intro k hk s hs
          unfold zAcV
          by_cases e : k = zAc S
          · subst e
            rw [if_pos rfl, mf_in _ _ _ _ _ _ (by omega) (by omega), show 10 + 128 * zAc S + s - (10 + 128 * zAc S) = s by omega, hN3]
            exact hW s hs
          · rw [if_neg e, mf_out _ _ _ _ _ _ (Or.inl (by omega)), hN2 k (by omega) s (by omega)]
            have h78 := hw.2.2.2.1
            have h8 := hw.2.2.2.2.1
            by_cases e2 : S 7 = 20
            · rw [if_pos e2, if_pos e2]
              refine m9 _ ?_ s hs
              unfold zAc at hk e
              rw [if_pos e2] at hk e
              omega
            · rw [if_neg e2, if_neg e2]
              refine m9 _ ?_ s hs
              unfold zAc at hk e
              rw [if_neg e2] at hk e
              omega
      · refine ⟨fun o q1 q2 q3 => ?_, fun j hj => ?_⟩
        · have := hN.1 o q1 q2
          rw [vn _ _ _ _ q3] at this
          rw [mf_no _ _ _ _ _ _ q3]
          exact this
        · have := hN.2 j hj
          rw [vn _ _ _ _ (by decide)] at this
          rw [mf_no _ _ _ _ _ _ (by decide)]
          exact this
    · intro i _ hi _ ih
      refine bX12_acts_209 _ ⟨fun h => absurd h (nI_ge (b := 128) hi (by omega)), fun _ => ⟨_, kX12_cell (c := zAc S) (a := i) (by omega) (by rw [mf_out _ _ _ _ _ _ (Or.inl (by omega))]; exact hc), ?_⟩⟩
      rintro v1 M1 ⟨rfl, rfl⟩
      refine ⟨n_in hi (by omega), n_in (by omega) (by omega), ?_⟩
      rw [n_cl (by omega), n_cl (by omega), mf_no _ _ _ _ _ _ (show 140 ≠ 119 by decide), mf_s (by omega) (by rw [show 10 + 128 * zAc S + i - (10 + 128 * zAc S) = i by omega]), ← nI_succ]
      exact ih () trivial
  have h7 : M 119 7 = nI (S 7) := hS.2.2.2.2.2.2.2.1
  have h78 := hw.2.2.2.1
  have h820 := hw.2.2.2.2.1
  refine bX12_acts_129 ⟨fun h => bX12_acts_182 ?_, fun h => ?_⟩
  · have e20 : S 7 ≠ 20 := fun q => h (by rw [h7, q]; rfl)
    have eA : zAc S = S 7 + 1 := by unfold zAc; rw [if_neg e20]
    refine tail _ ⟨fun o q1 q2 => ?_, fun j hj => ?_⟩ (fun i hi => ?_) (fun k hk s hs => ?_) (by rw [ms_row _ _ _ _ _ (by decide), ms_row _ _ _ _ _ (by decide)])
    · by_cases e : o = 119
      · subst e; rw [vu]
      · rw [vn _ _ _ _ e, ms_row _ _ _ _ _ e, ms_row _ _ _ _ _ e]; exact hK.1 o q1 q2
    · rw [vn _ _ _ _ (by decide), ms_row _ _ _ _ _ (by decide), ms_row _ _ _ _ _ (by decide)]; exact hK.2 j hj
    · by_cases e8 : i = 8
      · subst e8; rw [ms_is, if_pos (Or.inr rfl), h7, eA, nI_succ]
      · rw [ms_no _ _ _ _ _ _ (by omega)]
        by_cases e7 : i = 7
        · subst e7; rw [ms_is, if_pos (Or.inl rfl), h7, eA, nI_succ]
        · rw [ms_no _ _ _ _ _ _ (by omega), if_neg (by omega)]
    · rw [ms_no _ _ _ _ _ _ (by omega), ms_no _ _ _ _ _ _ (by omega), if_neg e20]
  · have e20 : S 7 = 20 := by
      rw [h7] at h
      exact (nI_eq (b := 20) (by omega) (by omega)).mp h
    have eA : zAc S = 20 := by unfold zAc; rw [if_pos e20]
    have key := a_loop (σ := Unit) (fun i _ => wX12_acts X ad ca d x Post 144 [(0, .ref 118), (3, .int (nI (10 + i)))] (mf M 119 10 (fun k => M 119 (k + 128)) (10 + i))) (fun _ _ => True) 2560 ?_ ?_ 0 () (by omega) trivial
    · rw [Nat.add_zero, mf_0] at key; exact key
    · intro _ _
      refine bX12_acts_144 _ ⟨fun _ => bX12_acts_182 ?_, fun h => absurd (nI_le (Nat.le_refl 2570) (by omega)) h⟩
      refine tail _ ⟨fun o q1 q2 => ?_, fun j hj => ?_⟩ (fun i hi => ?_) (fun k hk s hs => ?_) ?_
      · by_cases e : o = 119
        · subst e; rw [vu]
        · rw [vn _ _ _ _ e, ms_row _ _ _ _ _ e, ms_row _ _ _ _ _ e, ms_row _ _ _ _ _ e, mf_no _ _ _ _ _ _ e]; exact hK.1 o q1 q2
      · rw [vn _ _ _ _ (by decide), ms_row _ _ _ _ _ (by decide), ms_row _ _ _ _ _ (by decide), ms_row _ _ _ _ _ (by decide), mf_no _ _ _ _ _ _ (by decide)]; exact hK.2 j hj
      · by_cases e8 : i = 8
        · subst e8; rw [ms_is, if_pos (Or.inr rfl), ms_is, eA]; rfl
        · rw [ms_no _ _ _ _ _ _ (by omega)]
          by_cases e7 : i = 7
          · subst e7; rw [ms_is, if_pos (Or.inl rfl), ms_is, eA]; rfl
          · rw [ms_no _ _ _ _ _ _ (by omega), ms_no _ _ _ _ _ _ (by omega), if_neg (by omega), mf_out _ _ _ _ _ _ (Or.inl (by omega))]
      · rw [ms_no _ _ _ _ _ _ (by omega), ms_no _ _ _ _ _ _ (by omega), ms_no _ _ _ _ _ _ (by omega), mf_in _ _ _ _ _ _ (by omega) (by omega), if_pos e20, show 10 + 128 * k + s + 128 = 10 + 128 * (k + 1) + s by omega]
      · rw [ms_row _ _ _ _ _ (by decide), ms_row _ _ _ _ _ (by decide), ms_row _ _ _ _ _ (by decide), mf_no _ _ _ _ _ _ (by decide)]
    · intro i _ hi _ ih
      have e1 : nI (10 + i) + 128 = nI (10 + i + 128) := by rw [fa_lit 128, nI_add]
      refine bX12_acts_144 _ ⟨fun h => absurd h (nI_ge (b := 2570) (by omega) (by omega)), fun _ => ?_⟩
      rw [e1]
      refine ⟨n_in (by omega) (by omega), n_in (by omega) (by omega), ?_⟩
      rw [n_cl (by omega), n_cl (by omega), mf_s (by omega) (by rw [mf_out _ _ _ _ _ _ (Or.inr (show 10 + i ≤ 10 + i + 128 by omega))]), ← nI_succ]
      exact ih () trivial
theorem kX12_acts (hd : 7 ≤ d) {T : zTx} {u w : Int32} {a k : Nat} (hS : mSt M 119 S V) (hw : wSt S V) (hT : mT M (S 6) T) (hc : zcan S u w a k) :
    mX12_acts X ad ca d x [.ref 118, .int u, .int w] M (q_v (PT x) (fun M' => mSt M' 119 (zAcS S) (zAcV S V (zOp S T a k (V (S 7)))) ∧ mA M M')) := by
  obtain ⟨d, rfl⟩ := a_d1 (show 1 ≤ d by omega)
  have h2n := z_p2 hw.1.1
  have hpb := zpl_b _ hw.1.2.2.2.1
  have h78 := hw.2.2.2.1
  have h820 := hw.2.2.2.2.1
  have h7 : M 119 7 = nI (S 7) := hS.2.2.2.2.2.2.2.1
  obtain ⟨rfl, hc2⟩ := hc
  have ha : a < 4 := by
    rcases hc2 with ⟨q | q, -⟩ | ⟨q, -⟩ | ⟨q, -⟩ <;> omega
  generalize hPost : q_v (PT x) (fun M' => mSt M' 119 (zAcS S) (zAcV S V (zOp S T a k (V (S 7)))) ∧ mA M M') = Post
  have hPs : ∀ M' : a_M, mSt M' 119 (zAcS S) (zAcV S V (zOp S T a k (V (S 7)))) ∧ mA M M' → q_v (PT x) (fun M' => Post none M' (PT x)) none M' (PT x) := fun M' h => ⟨rfl, rfl, by rw [← hPost]; exact ⟨rfl, rfl, h⟩⟩
  refine eX12_acts _ _ (bX12_acts_0 _ _ ?_)
  have key := a_loop (σ := Unit) (fun i _ => wX12_acts X ad ca d x Post 2 [(0, .ref 118), (1, .int (nI a)), (2, .int w), (3, .int (nI i))] (mf M 140 0 (fun j => M 119 (10 + 128 * S 7 + j)) i)) (fun _ _ => True) 128 ?_ ?_ 0 () (by omega) trivial
  · rw [mf_0] at key; exact key
  · intro _ _
    generalize hM1 : mf M 140 0 (fun j => M 119 (10 + 128 * S 7 + j)) 128 = M1
    have k1 : mK M M1 := by rw [← hM1]; exact (mK.rfl _).uf (by omega)
    have hS1 : mSt M1 119 S V := hS.K (Or.inl rfl) k1
    have hv1 : ∀ j, j < 2 ^ S 0 → M1 140 j = nI (V (S 7) j) ∧ V (S 7) j < S 2 := fun j hj => by
      refine ⟨?_, hw.2.2.2.2.2 _ h78 j hj⟩
      rw [← hM1, mf_in _ _ _ _ _ _ (Nat.zero_le _) (by omega)]
      exact hS.2.2.2.2.2.2.2.2.2 _ h78 j hj
    refine bX12_acts_2 _ _ _ ⟨fun _ => ⟨fun h2 => ⟨fun h3 => ?_, fun h3 => ?_⟩, fun h2 => ?_⟩, fun h => absurd (nI_le (Nat.le_refl 128) (by omega)) h⟩
    · -- shift and turn
      have ha2 : a ≠ 2 := fun q => h2 (by rw [q]; rfl)
      have ha3 : a ≠ 3 := fun q => h3 (by rw [q]; rfl)
      let g : Nat → Nat := fun y => if a = 0 then zhi (S 0) y else y ^^^ 2 ^ k
      let h : Nat → Nat := fun y => if a = 0 then zh (S 0) y else y ^^^ 2 ^ k
      have hk1 : a ≠ 0 → k < S 0 ∧ w = nI k := fun q => by
        rcases hc2 with ⟨q1 | q1, -⟩ | ⟨-, q2, q3⟩ | ⟨q1, -⟩
        · exact absurd q1 q
        · exact absurd q1 ha2
        · exact ⟨q2, q3⟩
        · exact absurd q1 ha3
      have hgh : ∀ y, y < 2 ^ S 0 → g y < 2 ^ S 0 ∧ h (g y) = y ∧ h y < 2 ^ S 0 ∧ g (h y) = y := by
        intro y hy
        by_cases e0 : a = 0
        · simp only [g, h, if_pos e0]
          exact zhi_all _ hw.1.1 hw.1.2.1 y hy
        · simp only [g, h, if_neg e0]
          have hx : y ^^^ 2 ^ k < 2 ^ S 0 := Nat.xor_lt_two_pow hy (Nat.pow_lt_pow_right (by omega) (hk1 e0).1)
          refine ⟨hx, ?_, hx, ?_⟩ <;> simp [Nat.xor_assoc]
      have hop : ∀ y, zOp S T a k (V (S 7)) y = V (S 7) (g y) := by
        intro y
        unfold zOp
        simp only [g]
        by_cases e0 : a = 0
        · rw [if_pos e0, if_pos e0]
        · rw [if_neg e0, if_neg e0, if_pos (by omega)]
      refine a_loop (σ := a_M) (fun i M' => wX12_acts X ad ca d x Post 58 [(0, .ref 118), (1, .int (nI a)), (2, .int w), (3, .int (nI i))] M') (fun i M' => (∀ j, j < i → M' 141 (h j) = nI (V (S 7) j)) ∧ ∀ o, o ≠ 141 → M' o = M1 o) (2 ^ S 0) ?_ ?_ 0 M1 (Nat.zero_le _) ⟨fun j hj => absurd hj (Nat.not_lt_zero j), fun _ _ => rfl⟩
      · rintro M' ⟨q1, q2⟩
        have k2 : mK M M' := k1.trans ⟨fun o p1 p2 => q2 o (by omega), fun j _ => by rw [q2 118 (by omega)]⟩
        refine bX12_acts_58 _ _ _ ⟨_, kX12_states (by omega) (hS.H.K k2).1 hw.1.1, ?_⟩
        rintro v2 M2 ⟨rfl, rfl⟩
        refine ⟨fun _ => ⟨_, kX12_states (by omega) (hS.H.K k2).1 hw.1.1, ?_⟩, fun hh => absurd (nI_le (Nat.le_refl _) (by omega)) hh⟩
        rintro v3 M3 ⟨rfl, rfl⟩
        have key2 := a_loop (σ := Unit) (fun i _ => wX12_acts X ad ca d x Post 105 [(0, .ref 118), (3, .int (nI i))] (mf M3 141 (2 ^ S 0) (fun _ => 0) i)) (fun i _ => 2 ^ S 0 ≤ i) 128 ?_ ?_ (2 ^ S 0) () (by omega) (Nat.le_refl _)
        · rw [mf_0] at key2; exact key2
        · intro _ _
          refine bX12_acts_105 _ ⟨fun _ => ⟨_, kX12_takesNext (by omega), ?_⟩, fun hh => absurd (nI_le (Nat.le_refl 128) (by omega)) hh⟩
          rintro M4 rfl
          have k4 := (k2.uf (o := 141) (lo := 2 ^ S 0) (i := 128) (f := fun _ => 0) (by omega))
          refine wX12_acts_129 (by omega) (k4.uf (by omega)) ((hS.K (Or.inl rfl) k4).same (mf_no _ _ _ _ _ _ (by decide))) hw (fun j hj => ?_) hPs
          rw [mf_in _ _ _ _ _ _ (Nat.zero_le _) (by omega), mf_out _ _ _ _ _ _ (Or.inl hj), hop]
          have := q1 (g j) (hgh j hj).1
          rw [(hgh j hj).2.1] at this
          exact this
        · intro i _ hi hi2 ih
          refine bX12_acts_105 _ ⟨fun hh => absurd hh (nI_ge (b := 128) hi (by omega)), fun _ => ⟨n_in hi (by omega), ?_⟩⟩
          rw [n_cl (by omega), mf_s hi2 rfl, ← nI_succ]
          exact ih () (by omega)
      · rintro i M' hi ⟨q1, q2⟩ ih
        have k2 : mK M M' := k1.trans ⟨fun o p1 p2 => q2 o (by omega), fun j _ => by rw [q2 118 (by omega)]⟩
        have step : wX12_acts X ad ca d x Post 58 [(0, .ref 118), (1, .int (nI a)), (2, .int w), (3, .int (nI i + 1))] (ms M' 141 (h i) (M' 140 i)) := by
          rw [← nI_succ]
          refine ih _ ⟨fun j hj => ?_, fun o ho => by rw [ms_row _ _ _ _ _ ho]; exact q2 o ho⟩
          by_cases ej : j = i
          · subst ej
            rw [ms_is, q2 140 (by decide)]
            exact (hv1 j hi).1
          · rw [ms_no _ _ _ _ _ _ ?_, q1 j (by omega)]
            rintro ⟨-, q⟩
            have h1 := (hgh j (by omega)).2.2.2
            rw [q, (hgh i hi).2.2.2] at h1
            exact ej h1.symm
        refine bX12_acts_58 _ _ _ ⟨_, kX12_states (by omega) (hS.H.K k2).1 hw.1.1, ?_⟩
        rintro v2 M2 ⟨rfl, rfl⟩
        have hhi := (hgh i hi).2.2.1
        refine ⟨fun hh => absurd hh (nI_ge hi (by omega)), fun _ => ⟨fun h0 => ?_, fun h0 => ⟨_, kX12_shifted (by omega) (hS.H.K k2).1 hw.1.1 hw.1.2.1 hi, ?_⟩⟩⟩
        · have e0 : a ≠ 0 := fun q => h0 (by rw [q]; rfl)
          obtain ⟨hk2, rfl⟩ := hk1 e0
          have hh : h i = i ^^^ 2 ^ k := if_neg e0
          rw [hh] at step hhi
          rw [z_pow k (by have := hw.1.1; omega), n_xor]
          refine ⟨n_in (by omega) (by omega), n_in (by omega) (by omega), ?_⟩
          rw [n_cl (by omega), n_cl (by omega)]
          exact step
        · have e0 : a = 0 := (nI_eq (b := 0) (by omega) (by omega)).mp h0
          have hh : h i = zh (S 0) i := if_pos e0
          rw [hh] at step hhi
          rintro v4 M4 ⟨rfl, rfl⟩
          refine ⟨n_in (by omega) (by omega), n_in (by omega) (by omega), ?_⟩
          rw [n_cl (by omega), n_cl (by omega)]
          exact step
    · -- table
      have ha3 : a = 3 := (nI_eq (b := 3) (by omega) (by omega)).mp h3
      have hk : k < S 2 ∧ w = nI k := by
        rcases hc2 with ⟨q1 | q1, -⟩ | ⟨q1, -⟩ | ⟨-, q2, q3⟩
        · omega
        · omega
        · omega
        · exact ⟨q2, q3⟩
      obtain ⟨hk2, rfl⟩ := hk
      refine ⟨_, kX12_tb (by omega) (hT.K k1) hS1.H hw.1 hk2 hv1, ?_⟩
      rintro M2 ⟨b1, b2, b3, b4⟩
      refine wX12_acts_129 (by omega) (k1.trans b3) (hS1.K (Or.inl rfl) b3) hw (fun j hj => ?_) hPs
      rw [(b1 j hj).1]
      unfold zOp
      rw [if_neg (by omega), if_neg (by omega), if_neg (by omega)]
    · have ha2 : a = 2 := (nI_eq (b := 2) (by omega) (by omega)).mp h2
      refine ⟨_, kX12_ss (by omega) hS1.H hw.1 hv1, ?_⟩
      rintro M2 ⟨b1, b2, b3, b4⟩
      refine wX12_acts_129 (by omega) (k1.trans b3) (hS1.K (Or.inl rfl) b3) hw (fun j hj => ?_) hPs
      rw [(b1 j hj).1]
      unfold zOp
      rw [if_neg (by omega), if_neg (by omega), if_pos ha2]
  · intro i _ hi _ ih
    refine bX12_acts_2 _ _ _ ⟨fun h => absurd h (nI_ge (b := 128) hi (by omega)), fun _ => ⟨_, kX12_cell (by omega) (by rw [mf_no _ _ _ _ _ _ (by decide)]; exact h7), ?_⟩⟩
    rintro v1 M1 ⟨rfl, rfl⟩
    refine ⟨n_in (by omega) (by omega), n_in hi (by omega), ?_⟩
    rw [n_cl (by omega), n_cl (by omega), mf_s (Nat.zero_le _) (by rw [mf_no _ _ _ _ _ _ (by decide)]), ← nI_succ]
    exact ih () trivial
theorem kX12_canAct (hd : 3 ≤ d) {u w : Int32} (hS : mSt M 119 S V) (hw : wSt S V) :
    mX12_canAct X ad ca d x [.ref 118, .int u, .int w] M (q_i (PT x) (fun s M' => M' = M ∧ ((s = 1 ∧ ∃ a k, zcan S u w a k) ∨ (s = 0 ∧ ¬ ∃ a k, zcan S u w a k)))) := by
  obtain ⟨d, rfl⟩ := a_d1 (show 1 ≤ d by omega)
  have hpb := zpl_b _ hw.1.2.2.2.1
  have hn := hw.1.1
  have hn2 := hw.1.2.1
  have hz : ∀ a k, zcan S u w a k → a < 4 := fun a k h => by
    rcases h.2 with ⟨q | q, -⟩ | ⟨q, -⟩ | ⟨q, -⟩ <;> omega
  refine eX12_canAct _ _ (bX12_canAct_0 _ _ ⟨fun h1 => ⟨fun h3 => ⟨fun h0 => bX12_canAct_43 ⟨_, rfl, rfl, rfl, Or.inl ⟨rfl, 0, 0, h0, Or.inl ⟨Or.inl rfl, rfl⟩⟩⟩, fun h0 => ⟨fun h2 => ⟨_, rfl, rfl, rfl, Or.inr ⟨rfl, ?_⟩⟩, fun h2 => bX12_canAct_43 ⟨_, rfl, rfl, rfl, Or.inl ⟨rfl, 2, 0, h2, Or.inl ⟨Or.inr rfl, rfl⟩⟩⟩⟩⟩, fun h3 => ⟨_, kX12_isNumber (by omega) _ hS.H.2.2.1 (by omega) (by omega), ?_⟩⟩, fun h1 => ⟨_, kX12_in (by omega) _ _ _, ?_⟩⟩)
  · rintro ⟨a, k, hc⟩
    have := hz a k hc
    obtain ⟨rfl, -⟩ := hc
    rcases (show a = 0 ∨ a = 1 ∨ a = 2 ∨ a = 3 by omega) with rfl | rfl | rfl | rfl
    · exact h0 rfl
    · exact h1 rfl
    · exact h2 rfl
    · exact h3 rfl
  · rintro v M1 ⟨rfl, rfl⟩
    subst h3
    by_cases hk : ∃ k, k < S 2 ∧ w = nI k
    · rw [if_pos hk]
      obtain ⟨k, hk1, hk2⟩ := hk
      exact ⟨Or.inr rfl, _, rfl, rfl, rfl, Or.inl ⟨rfl, 3, k, rfl, Or.inr (Or.inr ⟨rfl, hk1, hk2⟩)⟩⟩
    · rw [if_neg hk]
      refine ⟨Or.inl rfl, _, rfl, rfl, rfl, Or.inr ⟨rfl, ?_⟩⟩
      rintro ⟨a, k, hc⟩
      have := hz a k hc
      obtain ⟨ha, hc⟩ := hc
      have : 3 = a := (nI_eq (a := 3) (by omega) (by omega)).mp ha
      rcases hc with ⟨q | q, -⟩ | ⟨q, -⟩ | ⟨-, q1, q2⟩
      · omega
      · omega
      · omega
      · exact hk ⟨k, q1, q2⟩
  · rintro v M1 ⟨rfl, rfl⟩
    subst h1
    have e0 : M1 119 0 - 1 = nI (S 0 - 1) := by
      rw [hS.1]; exact pk_sub (b := 1) (by omega)
    have hiff : ((0 : Int32) ≤ w ∧ w ≤ M1 119 0 - 1) ↔ ∃ k, k < S 0 ∧ w = nI k := by
      rw [e0]
      constructor
      · rintro ⟨q1, q2⟩
        rw [fa_le] at q1 q2
        have h3 : (0 : Int32).toInt = 0 := rfl
        rw [nI_toInt (by omega)] at q2
        rw [h3] at q1
        refine ⟨w.toInt.toNat, by omega, (fa_eq _ _).mpr ?_⟩
        rw [nI_toInt (by omega)]
        omega
      · rintro ⟨k, hk, rfl⟩
        exact ⟨nI_le (a := 0) (Nat.zero_le _) (by omega), nI_le (by omega) (by omega)⟩
    by_cases hk : ∃ k, k < S 0 ∧ w = nI k
    · rw [if_pos (hiff.mpr hk)]
      obtain ⟨k, hk1, hk2⟩ := hk
      exact ⟨Or.inr rfl, _, rfl, rfl, rfl, Or.inl ⟨rfl, 1, k, rfl, Or.inr (Or.inl ⟨rfl, hk1, hk2⟩)⟩⟩
    · rw [if_neg (fun q => hk (hiff.mp q))]
      refine ⟨Or.inl rfl, _, rfl, rfl, rfl, Or.inr ⟨rfl, ?_⟩⟩
      rintro ⟨a, k, hc⟩
      have := hz a k hc
      obtain ⟨ha, hc⟩ := hc
      have : 1 = a := (nI_eq (a := 1) (by omega) (by omega)).mp ha
      rcases hc with ⟨q | q, -⟩ | ⟨-, q1, q2⟩ | ⟨q, -⟩
      · omega
      · omega
      · exact hk ⟨k, q1, q2⟩
      · omega
def rAct (S : Nat → Nat) (V : Nat → Nat → Nat) (T : zTx) (u w s : Int32) (S' : Nat → Nat) (V' : Nat → Nat → Nat) : Prop := (∃ a k, zcan S u w a k ∧ s = 1 ∧ S' = zAcS S ∧ V' = zAcV S V (zOp S T a k (V (S 7)))) ∨ ((¬ ∃ a k, zcan S u w a k) ∧ s = 0 ∧ S' = S ∧ V' = V)
theorem kX12_act (hd : 8 ≤ d) {T : zTx} {u w : Int32} (hS : mSt M 119 S V) (hw : wSt S V) (hT : mT M (S 6) T) :
    mX12_act X ad ca d x [.ref 118, .int u, .int w] M (q_i (PT x) (fun s M' => ∃ S' V', rAct S V T u w s S' V' ∧ mSt M' 119 S' V' ∧ mA M M')) := by
  obtain ⟨d, rfl⟩ := a_d1 (show 1 ≤ d by omega)
  refine eX12_act _ _ (bX12_act_0 _ _ ⟨_, kX12_canAct (by omega) hS hw, ?_⟩)
  rintro v1 M1 ⟨rfl, hv⟩
  refine ⟨fun h => ?_, fun h => ⟨_, rfl, rfl, S, V, Or.inr ⟨?_, rfl, rfl, rfl⟩, hS, mA.rfl _⟩⟩
  · rcases hv with ⟨-, a, k, hc⟩ | ⟨q, -⟩
    · refine ⟨_, kX12_acts (by omega) hS hw hT hc, ?_⟩
      rintro M2 ⟨h1, h2⟩
      exact ⟨_, rfl, rfl, _, _, Or.inl ⟨a, k, hc, rfl, rfl, rfl⟩, h1, h2⟩
    · exact absurd q h
  · rcases hv with ⟨q, -⟩ | ⟨-, q⟩
    · rw [q] at h; exact absurd h (by decide)
    · exact q
end Z19
