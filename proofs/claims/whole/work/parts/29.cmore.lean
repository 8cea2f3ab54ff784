/-! CONTRACTS 10: the class's side, goes on -/
def rSum (S : Nat → Nat) (u w s : Int32) : Prop := (∃ a b, a < 2 ^ S 0 ∧ b < 2 ^ S 0 ∧ u = nI a ∧ w = nI b ∧ s = nI (zS (S 2) (S 0) (zbd (S 0) (S 1)) (S 4) (zu a) b)) ∨ (¬ (∃ a b, a < 2 ^ S 0 ∧ b < 2 ^ S 0 ∧ u = nI a ∧ w = nI b) ∧ s = -1)
def rPower (S : Nat → Nat) (u k w s : Int32) : Prop := (∃ a j b, a < 2 ^ S 0 ∧ j < 100 ∧ b < 2 ^ S 0 ∧ u = nI a ∧ k = nI j ∧ w = nI b ∧ s = nI (zit (zS (S 2) (S 0) (zbd (S 0) (S 1)) (S 4)) j (zu a) b)) ∨ (¬ (∃ a j b, a < 2 ^ S 0 ∧ j < 100 ∧ b < 2 ^ S 0 ∧ u = nI a ∧ k = nI j ∧ w = nI b) ∧ s = -1)
section Z11
variable {X : a_X} {ad : Nat → Nat} {ca : Nat → ClassId} {d x : Nat} {M : a_M} {S : Nat → Nat} {V : Nat → Nat → Nat}
theorem kX11_prime (hd : 4 ≤ d) {u : Int32} (hS : cSt M 44 S V) (hw : wSt S V) : mX11_prime X ad ca d x [.ref 0, .int u] M (q_i (PT x) (fun s M' => ∃ S' V', rPrime S V u s S' V' ∧ cSt M' 44 S' V' ∧ ∀ i, (i < 44 ∨ 68 < i) → M' i = M i)) := by
  obtain ⟨d, rfl⟩ := a_d1 (show 1 ≤ d by omega)
  have hS' := hS
  obtain ⟨h1, h2, h3, h4, h5, f, h6, h7, h8⟩ := hS'
  obtain ⟨w1, w2, w3, w4, w5, w6⟩ := hw
  obtain ⟨g1, g2, g3, g4, g5⟩ := h1
  have h2n := z_p2 w1.1
  have hpb0 := zpl_b _ w1.2.2.2.1
  refine eX11_prime _ (bX11_prime_0 _ ⟨_, kX11_isPrime (by omega) _, ?_⟩)
  rintro v1 M1 ⟨rfl, hv⟩
  refine ⟨fun h9 => ?_, fun h9 => ⟨_, rfl, rfl, S, V, Or.inr ⟨?_, rfl, rfl, rfl⟩, hS, fun _ _ => rfl⟩⟩
  · obtain ⟨p, hp, rfl⟩ : ∃ p, p ∈ zpl ∧ u = nI p := by
      rcases hv with ⟨-, q⟩ | ⟨q, -⟩
      · exact q
      · exact absurd q h9
    have hpb := zpl_b p hp
    refine ⟨_, kX11_left (by omega) _ (by omega) (by omega), ?_⟩
    rintro v2 M2 ⟨rfl, rfl⟩
    refine ⟨_, kX11_left (by omega) _ (by omega) (by omega), ?_⟩
    rintro v3 M3 ⟨rfl, rfl⟩
    refine ⟨_, kJ9_max (by omega) _ _, ?_⟩
    rintro v4 M4 ⟨rfl, rfl⟩
    have e4 : M1 45 4 = nI (S 4) := g5
    have e3 : (ms M1 45 2 (nI p)) 45 3 = nI (S 3) := by rw [ms_no _ _ _ _ _ _ (by simp)]; exact g4
    have hS4 := w1.2.2.2.2.2.2
    have hS3 := w1.2.2.2.2.2.1
    rw [e4, e3, nI_toInt (show S 4 < 2 ^ 31 by omega), nI_toInt (show S 3 < 2 ^ 31 by omega), zm_nat, zm_nat]
    have hm3 : S 3 % p < p := Nat.mod_lt _ (by omega)
    have e5 : (if (1 : Int32) < nI (S 3 % p) then nI (S 3 % p) else 1) = nI (if S 3 % p = 0 then 1 else S 3 % p) := by
      by_cases c : S 3 % p = 0
      · rw [if_pos c, c]; rfl
      · rw [if_neg c]
        by_cases c1 : S 3 % p = 1
        · rw [c1]; rfl
        · exact if_pos (nI_lt (a := 1) (b := S 3 % p) (by omega) (by omega))
    rw [e5]
    generalize hM0 : ms (ms (ms M1 45 2 (nI p)) 45 4 (nI (S 4 % p))) 45 3 (nI (if S 3 % p = 0 then 1 else S 3 % p)) = M0
    have hrow : ∀ i, i ≠ 45 → M0 i = M1 i := fun i hi => by rw [← hM0, ms_row _ _ _ _ _ hi, ms_row _ _ _ _ _ hi, ms_row _ _ _ _ _ hi]
    refine ⟨_, kX2_takeBy (by omega) (σ := 44) (p := p) (Or.inl rfl) (by rw [hrow _ (by decide)]; exact h7) (by rw [hrow _ (by decide)]; exact h4) (by rw [hrow _ (by decide)]; exact h5) h6 (by omega) (by omega) (by omega), ?_⟩
    rintro M5 ⟨q1, q2⟩
    refine ⟨_, rfl, rfl, _, _, Or.inl ⟨p, hp, rfl, rfl, rfl, rfl⟩, ⟨⟨?_, ?_, ?_, ?_, ?_⟩, ?_, ?_, ?_, ?_, f, h6, ?_, fun k hk s hs => ?_⟩, fun i hi => ?_⟩
    · rw [q2 _ (by omega), ← hM0, ms_no _ _ _ _ _ _ (by simp), ms_no _ _ _ _ _ _ (by simp), ms_no _ _ _ _ _ _ (by simp)]; exact g1
    · rw [q2 _ (by omega), ← hM0, ms_no _ _ _ _ _ _ (by simp), ms_no _ _ _ _ _ _ (by simp), ms_no _ _ _ _ _ _ (by simp)]; exact g2
    · rw [q2 _ (by omega), ← hM0, ms_no _ _ _ _ _ _ (by simp), ms_no _ _ _ _ _ _ (by simp), ms_is]; rfl
    · rw [q2 _ (by omega), ← hM0, ms_is]; rfl
    · rw [q2 _ (by omega), ← hM0, ms_no _ _ _ _ _ _ (by simp), ms_is]; rfl
    · rw [q2 _ (by omega), hrow _ (by decide)]; exact h2
    · rw [q2 _ (by omega), hrow _ (by decide)]; exact h3
    · rw [q2 _ (by omega), hrow _ (by decide)]; exact h4
    · rw [q2 _ (by omega), hrow _ (by decide)]; exact h5
    · rw [q2 _ (by omega), hrow _ (by decide)]; exact h7
    · have hk' : k ≤ S 8 := hk
      have hs' : s < 2 ^ S 0 := hs
      rw [q1 k (by omega) s (by omega), hrow _ (by omega), h8 k hk' s hs', nI_toInt (by have := w6 k hk' s hs'; omega), zm_nat]
    · rw [q2 i (by omega), hrow i (by omega)]
  · rcases hv with ⟨q, -⟩ | ⟨-, q⟩
    · rw [q] at h9; exact absurd h9 (by decide)
    · exact q
theorem kX11_norm (hd : 4 ≤ d) (hS : cSt M 44 S V) (hw : wSt S V) : mX11_norm X ad ca d x [.ref 0] M (q_i (PT x) (fun s M' => M' = M ∧ s = nI (zNo S V))) := by
  obtain ⟨d, rfl⟩ := a_d1 (show 1 ≤ d by omega)
  obtain ⟨h1, h2, h3, h4, h5, f, h6, h7, h8⟩ := hS
  obtain ⟨w1, w2, w3, w4, w5, w6⟩ := hw
  have h2n := z_p2 w1.1
  have hpb := zpl_b _ w1.2.2.2.1
  refine eX11_norm (bX11_norm_0 ⟨_, kX2_vector (by omega) (σ := 44) (Or.inl rfl) h7 h4 (by omega), ?_⟩)
  rintro r2 M2 ⟨rfl, rfl⟩
  have hLr := (ly_row 44 (Or.inl rfl) x _ (Nat.mod_lt (f + S 7) (show 0 < 21 by omega))).2
  refine ⟨_, hLr, ?_⟩
  have hle : ∀ i, i ≤ 2 ^ S 0 → zs (fun a => V (S 7) a * V (S 7) a) i ≤ i * 16384 := fun i hi => zs_le (fun k hk => by
    have := w6 (S 7) w4 k (by omega)
    have := n_p2 this this (by omega)
    show V (S 7) k * V (S 7) k ≤ 16384
    omega)
  refine a_loop (σ := Nat) (fun i v => wX11_norm X ad ca d x _ 15 [(0, .ref 0), (1, .ref (44 + 4 + (f + S 7) % 21)), (2, .int (nI v)), (3, .int (nI i))] M2) (fun i v => v = zs (fun a => V (S 7) a * V (S 7) a) i) (2 ^ S 0) ?_ ?_ 0 0 (Nat.zero_le _) rfl
  · rintro v rfl
    refine bX11_norm_15 _ _ _ _ hLr ⟨_, kX6_states (by omega) rfl h1.1 w1.1, ?_⟩
    rintro v1 M1 ⟨rfl, rfl⟩
    refine ⟨fun _ => ?_, fun h => absurd (nI_le (Nat.le_refl _) (by omega)) h⟩
    have eP : M1 45 2 = nI (S 2) := h1.2.2.1
    rw [eP]
    refine ⟨_, kX11_left (by omega) _ (by omega) (by omega), ?_⟩
    rintro v2 M3 ⟨rfl, rfl⟩
    refine ⟨_, rfl, rfl, rfl, ?_⟩
    have := hle (2 ^ S 0) (Nat.le_refl _)
    rw [nI_toInt (by omega), zm_nat]
    rfl
  · rintro i v hi rfl ih
    refine bX11_norm_15 _ _ _ _ hLr ⟨_, kX6_states (by omega) rfl h1.1 w1.1, ?_⟩
    rintro v1 M1 ⟨rfl, rfl⟩
    refine ⟨fun h => absurd h (nI_ge hi (by omega)), fun _ => ⟨n_in (by omega) (by omega), n_in (by omega) (by omega), ?_⟩⟩
    rw [n_cl (by omega), h8 (S 7) w4 i hi, n_mul, nI_add, ← nI_succ]
    exact ih _ rfl
theorem kX11_sum (hd : 3 ≤ d) {u w : Int32} (hS : cSt M 44 S V) (hw : wSt S V) : mX11_sum X ad ca d x [.ref 0, .int u, .int w] M (q_i (PT x) (fun s M' => M' = M ∧ rSum S u w s)) := by
  obtain ⟨d, rfl⟩ := a_d1 (show 1 ≤ d by omega)
  have h1 := hS.1
  have w1 := hw.1
  refine eX11_sum _ _ (bX11_sum_0 _ _ ⟨_, kX6_isState (by omega) rfl _ h1.1 w1.1, ?_⟩)
  rintro v1 M1 ⟨rfl, rfl⟩
  refine ⟨fun h9 => bX11_sum_33 ⟨_, rfl, rfl, rfl, Or.inr ⟨?_, rfl⟩⟩, fun h9 => ⟨_, kX6_isState (by omega) rfl _ h1.1 w1.1, ?_⟩⟩
  · rintro ⟨a, b, ha, hb, rfl, rfl⟩
    rw [if_pos ⟨a, ha, rfl⟩] at h9
    exact absurd h9 (by decide)
  rintro v1 M1 ⟨rfl, rfl⟩
  refine ⟨fun h10 => bX11_sum_33 ⟨_, rfl, rfl, rfl, Or.inr ⟨?_, rfl⟩⟩, fun h10 => ?_⟩
  · rintro ⟨a, b, ha, hb, rfl, rfl⟩
    rw [if_pos ⟨b, hb, rfl⟩] at h10
    exact absurd h10 (by decide)
  · obtain ⟨a, ha, rfl⟩ : ∃ k, k < 2 ^ S 0 ∧ u = nI k := Classical.byContradiction fun q => h9 (if_neg q)
    obtain ⟨b, hb, rfl⟩ : ∃ k, k < 2 ^ S 0 ∧ w = nI k := Classical.byContradiction fun q => h10 (if_neg q)
    refine ⟨_, kX6_sumBetween (by omega) rfl h1 w1 ha hb, ?_⟩
    rintro v1 M1 ⟨rfl, rfl⟩
    exact ⟨_, rfl, rfl, rfl, Or.inl ⟨a, b, ha, hb, rfl, rfl, rfl⟩⟩
theorem kX11_power (hd : 4 ≤ d) {u k w : Int32} (hS : cSt M 44 S V) (hw : wSt S V) : mX11_power X ad ca d x [.ref 0, .int u, .int k, .int w] M (q_i (PT x) (fun s M' => (∀ i, i ≠ 42 → i ≠ 43 → M' i = M i) ∧ rPower S u k w s)) := by
  obtain ⟨d, rfl⟩ := a_d1 (show 1 ≤ d by omega)
  have h1 := hS.1
  have w1 := hw.1
  have h2n := z_p2 w1.1
  have hpb := zpl_b _ w1.2.2.2.1
  have hno : ∀ M' : a_M, M' = M → (¬ (∃ a j b, a < 2 ^ S 0 ∧ j < 100 ∧ b < 2 ^ S 0 ∧ u = nI a ∧ k = nI j ∧ w = nI b)) → wX11_power X ad ca d x (q_i (PT x) (fun s M' => (∀ i, i ≠ 42 → i ≠ 43 → M' i = M i) ∧ rPower S u k w s)) 37 [] M' := by
    rintro M' rfl h
    exact bX11_power_37 ⟨_, rfl, rfl, fun _ _ _ => rfl, Or.inr ⟨h, rfl⟩⟩
  refine eX11_power _ _ _ (bX11_power_0 _ _ _ ⟨_, kX6_isState (by omega) rfl _ h1.1 w1.1, ?_⟩)
  rintro v1 M1 ⟨rfl, rfl⟩
  refine ⟨fun h9 => hno _ rfl ?_, fun h9 => ⟨_, kX6_isState (by omega) rfl _ h1.1 w1.1, ?_⟩⟩
  · rintro ⟨a, j, b, ha, hj, hb, rfl, rfl, rfl⟩
    rw [if_pos ⟨a, ha, rfl⟩] at h9
    exact absurd h9 (by decide)
  rintro v1 M1 ⟨rfl, rfl⟩
  refine ⟨fun h10 => hno _ rfl ?_, fun h10 => ⟨fun h11 => hno _ rfl ?_, fun h11 => ⟨fun h12 => ⟨_, kX11_clear (by omega) (o := 42) (N := 128) rfl (by omega), ?_⟩, fun h12 => hno _ rfl ?_⟩⟩⟩
  · rintro ⟨a, j, b, ha, hj, hb, rfl, rfl, rfl⟩
    rw [if_pos ⟨b, hb, rfl⟩] at h10
    exact absurd h10 (by decide)
  · rintro ⟨a, j, b, ha, hj, hb, rfl, rfl, rfl⟩
    exact nI_pos (by omega) h11
  · rintro M2 rfl
    obtain ⟨a, ha, rfl⟩ : ∃ k, k < 2 ^ S 0 ∧ u = nI k := Classical.byContradiction fun q => h9 (if_neg q)
    obtain ⟨b, hb, rfl⟩ : ∃ k, k < 2 ^ S 0 ∧ w = nI k := Classical.byContradiction fun q => h10 (if_neg q)
    obtain ⟨j, hj, rfl⟩ : ∃ j, j < 100 ∧ k = nI j := by
      rcases pk_ix k (n := 100) (by omega) with q | q | q
      · exact absurd q h11
      · exact absurd h12 (fun q2 => (fa_of_lt q2).2.1 q)
      · exact q
    refine ⟨n_in (by omega) (by omega), ?_⟩
    rw [n_cl (by omega)]
    refine a_loop (σ := a_M) (fun i M' => wX11_power X ad ca d x _ 56 [(0, .ref 0), (2, .int (nI j)), (3, .int (nI b)), (4, .ref 45), (5, .int (nI i))] M') (fun i M' => (∀ o, o ≠ 42 → o ≠ 43 → M' o = M1 o) ∧ ∀ c, c < 2 ^ S 0 → M' 42 c = nI (zit (zS (S 2) (S 0) (zbd (S 0) (S 1)) (S 4)) i (zu a) c) ∧ zit (zS (S 2) (S 0) (zbd (S 0) (S 1)) (S 4)) i (zu a) c < S 2) j ?_ ?_ 0 _ (Nat.zero_le _) ?_
    · rintro M' ⟨q1, q2⟩
      refine bX11_power_56 _ _ _ _ rfl ⟨fun _ => ⟨n_in (by omega) (by omega), _, rfl, rfl, q1, Or.inl ⟨a, j, b, ha, by omega, hb, rfl, rfl, rfl, ?_⟩⟩, fun q => absurd (nI_le (Nat.le_refl j) (by omega)) q⟩
      rw [n_cl (by omega)]
      exact (q2 b hb).1
    · rintro i M' hi ⟨q1, q2⟩ ih
      refine bX11_power_56 _ _ _ _ rfl ⟨fun q => absurd q (nI_ge hi (by omega)), fun _ => ⟨_, kX6_sumOver (by omega) (o := 45) (o1 := 42) (o2 := 43) rfl rfl rfl (by decide) (h1.same (q1 45 (by decide) (by decide))) w1 q2, ?_⟩⟩
      rintro M4 ⟨q3, q5, q4⟩
      refine ⟨by decide, by decide, by decide, by decide, by decide, ?_⟩
      rw [← nI_succ]
      refine ih _ ⟨fun o g1 g2 => ?_, fun c hc => ⟨?_, zS_lt (by omega)⟩⟩
      · unfold va_up
        rw [if_neg g1, q4 o g2, q1 o g1 g2]
      · unfold va_up
        rw [if_pos rfl]
        show va_cpy (M4 43) (M4 42) 0 0 128 c = _
        rw [pk_cpy_in (Nat.zero_le _) (show c < 0 + 128 by omega), Nat.sub_zero, Nat.zero_add, q3 c hc]
        rfl
    · refine ⟨fun o g1 g2 => ?_, fun c hc => ?_⟩
      · rw [ms_row _ _ _ _ _ g1, mf_no _ _ _ _ _ _ g1]
      · show _ = nI (zu a c) ∧ zu a c < _
        unfold zu
        by_cases e : c = a
        · subst e
          rw [ms_is, if_pos rfl]
          exact ⟨rfl, by omega⟩
        · rw [ms_no _ _ _ _ _ _ (fun q => e q.2), mf_in _ _ _ _ _ _ (Nat.zero_le _) (show c < 128 by omega), if_neg e]
          exact ⟨rfl, by omega⟩
  · rintro ⟨a, j, b, ha, hj, hb, rfl, rfl, rfl⟩
    exact h12 (nI_lt (b := 100) hj (by omega))
end Z11
