/-! CONTRACTS 7: Rule's rest, History, Standing -/
theorem ly_row : ∀ σ, σ = 44 ∨ σ = 69 → ∀ x k, k < 21 → PT x (σ + 3) k = (σ + 4 + k) + 1 ∧ LY[σ + 4 + k]? = some (100, 128) := by
  intro σ hσ x k hk
  have h : ∀ k, k < 21 → (PTl.getD 47 []).getD k 0 = (48 + k) + 1 ∧ LY[48 + k]? = some (100, 128) := by decide
  have h2 : ∀ k, k < 21 → (PTl.getD 72 []).getD k 0 = (73 + k) + 1 ∧ LY[73 + k]? = some (100, 128) := by decide
  rcases hσ with rfl | rfl
  · refine ⟨?_, (h k hk).2⟩
    unfold PT
    rw [if_neg (by omega)]
    exact (h k hk).1
  · refine ⟨?_, (h2 k hk).2⟩
    unfold PT
    rw [if_neg (by omega)]
    exact (h2 k hk).1
theorem ly_hist : ∀ σ, σ = 44 ∨ σ = 69 → ∀ x, LY[σ]? = some (9, 4) ∧ LY[σ + 1]? = some (6, 5) ∧ LY[σ + 2]? = some (2, 4) ∧ LY[σ + 3]? = some (103, 21) ∧ PT x (σ + 2) 0 = (σ + 3) + 1 ∧ PT x σ 0 = (σ + 1) + 1 ∧ PT x σ 1 = (σ + 2) + 1 := by
  intro σ hσ x
  rcases hσ with rfl | rfl
  · exact ⟨rfl, rfl, rfl, rfl, rfl, rfl, rfl⟩
  · exact ⟨rfl, rfl, rfl, rfl, rfl, rfl, rfl⟩
section Z8
variable {X : a_X} {ad : Nat → Nat} {ca : Nat → ClassId} {d x : Nat} {M : a_M} {o : Nat}
theorem kX6_copyFrom (hd : 1 ≤ d) {o2 : Nat} (hL : LY[o]? = some (6, 5)) (hL2 : LY[o2]? = some (6, 5)) {n r p t e : Nat} (hH : rH M o2 n r p t e) (hr : r ≤ 1) : mX6_copyFrom X ad ca d x [.ref o, .ref o2] M (q_v (PT x) (fun M' => rH M' o n r p t e ∧ ∀ k, k ≠ o → M' k = M k)) := by
  obtain ⟨d, rfl⟩ := a_d1 hd
  obtain ⟨h0, h1, h2, h3, h4⟩ := hH
  refine eX6_copyFrom _ _ (bX6_copyFrom_0 _ _ hL hL2 ⟨?_, rfl, rfl, ?_, ?_⟩)
  · rw [h1]
    rcases (show r = 0 ∨ r = 1 by omega) with rfl | rfl
    · exact Or.inl rfl
    · exact Or.inr rfl
  · rw [h0, h1, h2, h3, h4]
    refine ⟨?_, ?_, ?_, ?_, ?_⟩
    · rw [ms_no _ _ _ _ _ _ (by simp), ms_no _ _ _ _ _ _ (by simp), ms_no _ _ _ _ _ _ (by simp), ms_no _ _ _ _ _ _ (by simp), ms_is]
    · rw [ms_no _ _ _ _ _ _ (by simp), ms_no _ _ _ _ _ _ (by simp), ms_no _ _ _ _ _ _ (by simp), ms_is]
    · rw [ms_no _ _ _ _ _ _ (by simp), ms_no _ _ _ _ _ _ (by simp), ms_is]
    · rw [ms_no _ _ _ _ _ _ (by simp), ms_is]
    · rw [ms_is]
  · intro k hk
    rw [ms_row _ _ _ _ _ hk, ms_row _ _ _ _ _ hk, ms_row _ _ _ _ _ hk, ms_row _ _ _ _ _ hk, ms_row _ _ _ _ _ hk]
theorem kX6_isLike (hd : 1 ≤ d) {o2 : Nat} (hL : LY[o]? = some (6, 5)) (hL2 : LY[o2]? = some (6, 5)) : mX6_isLike X ad ca d x [.ref o, .ref o2] M (q_i (PT x) (fun s M' => M' = M ∧ ((s = 1 ∧ ∀ k, k < 5 → M o k = M o2 k) ∨ (s = 0 ∧ ¬ ∀ k, k < 5 → M o k = M o2 k)))) := by
  obtain ⟨d, rfl⟩ := a_d1 hd
  refine eX6_isLike _ _ (bX6_isLike_0 _ _ hL hL2 ⟨fun h => bX6_isLike_59 ⟨_, rfl, rfl, rfl, Or.inr ⟨rfl, fun q => h (q 0 (by omega))⟩⟩, fun h0 => ⟨fun h => bX6_isLike_59 ⟨_, rfl, rfl, rfl, Or.inr ⟨rfl, fun q => h (q 1 (by omega))⟩⟩, fun h1 => ⟨fun h => bX6_isLike_59 ⟨_, rfl, rfl, rfl, Or.inr ⟨rfl, fun q => h (q 2 (by omega))⟩⟩, fun h2 => ⟨fun h => bX6_isLike_59 ⟨_, rfl, rfl, rfl, Or.inr ⟨rfl, fun q => h (q 3 (by omega))⟩⟩, fun h3 => ⟨fun h => bX6_isLike_59 ⟨_, rfl, rfl, rfl, Or.inr ⟨rfl, fun q => h (q 4 (by omega))⟩⟩, fun h4 => ⟨_, rfl, rfl, rfl, Or.inl ⟨rfl, fun k hk => ?_⟩⟩⟩⟩⟩⟩⟩)
  rcases (show k = 0 ∨ k = 1 ∨ k = 2 ∨ k = 3 ∨ k = 4 by omega) with rfl | rfl | rfl | rfl | rfl
  · exact h0
  · exact h1
  · exact h2
  · exact h3
  · exact h4
theorem kJ9_floorMod (hd : 1 ≤ d) {a : Nat} (ha : a < 2 ^ 30) : mJ9_floorMod_7cf53 X ad ca d x [.int (nI a), .int 21] M (q_i (PT x) (fun s M' => M' = M ∧ s = nI (a % 21))) := by
  obtain ⟨d, rfl⟩ := a_d1 hd
  have e : nI a - nI a / 21 * 21 = nI (a % 21) := n_rem (p := 21) (by omega) (by omega) (by omega)
  have hx : (0 : Int32) ≤ nI a ^^^ 21 := by
    rw [fa_lit 21, n_xor]
    apply nI_pos'
    have := Nat.xor_lt_two_pow (x := a) (y := 21) (n := 30) ha (by omega)
    omega
  refine eJ9_floorMod_7cf53 _ _ (bJ9_floorMod_7cf53_0 _ _ ⟨by decide, fun _ => bJ9_floorMod_7cf53_18 _ ⟨_, rfl, rfl, rfl, e⟩, fun h => absurd hx h⟩)
theorem kX2_row (hd : 2 ≤ d) {σ f k : Nat} (hσ : σ = 44 ∨ σ = 69) (hf : M (σ + 2) 1 = nI f) (hfk : f + k < 2 ^ 30) : mX2_row X ad ca d x [.ref (σ + 2), .int (nI k)] M (q_r (PT x) (fun s M' => M' = M ∧ s = σ + 4 + (f + k) % 21)) := by
  obtain ⟨d, rfl⟩ := a_d1 (show 1 ≤ d by omega)
  obtain ⟨h1, h2, h3, h4, h5, -, -⟩ := ly_hist σ hσ x
  have hm : (f + k) % 21 < 21 := Nat.mod_lt _ (by omega)
  have hc := kJ9_floorMod (X := X) (ad := ad) (ca := ca) (d := d) (x := x) (M := M) (a := f + k) (by omega) hfk
  rw [← nI_add, ← hf] at hc
  refine eX2_row _ _ (bX2_row_0 _ _ _ _ h3 h4 h5 ⟨_, hc, ?_⟩)
  rintro v1 M1 ⟨rfl, rfl⟩
  have hr := ly_row σ hσ x _ hm
  refine ⟨n_in hm (by omega), _, _, ?_, hr.2, _, rfl, rfl, rfl, rfl⟩
  rw [n_cl (by omega)]
  exact hr.1
theorem kX2_vector (hd : 3 ≤ d) {σ f k : Nat} (hσ : σ = 44 ∨ σ = 69) (hf : M (σ + 2) 1 = nI f) (hk : M (σ + 2) 2 = nI k) (hfk : f + k < 2 ^ 30) : mX2_vector X ad ca d x [.ref (σ + 2)] M (q_r (PT x) (fun s M' => M' = M ∧ s = σ + 4 + (f + k) % 21)) := by
  obtain ⟨d, rfl⟩ := a_d1 (show 1 ≤ d by omega)
  have hm : (f + k) % 21 < 21 := Nat.mod_lt _ (by omega)
  refine eX2_vector _ (bX2_vector_0 _ (ly_hist σ hσ x).2.2.1 ?_)
  rw [hk]
  refine ⟨_, kX2_row (by omega) hσ hf hfk, ?_⟩
  rintro r1 M1 ⟨rfl, rfl⟩
  exact ⟨_, (ly_row σ hσ x _ hm).2, _, rfl, rfl, rfl, rfl⟩
theorem kX2_earlier (hd : 3 ≤ d) {σ f k : Nat} (hσ : σ = 44 ∨ σ = 69) (hf : M (σ + 2) 1 = nI f) (hk : M (σ + 2) 2 = nI (k + 1)) (hfk : f + k < 2 ^ 30) : mX2_earlier X ad ca d x [.ref (σ + 2)] M (q_r (PT x) (fun s M' => M' = M ∧ s = σ + 4 + (f + k) % 21)) := by
  obtain ⟨d, rfl⟩ := a_d1 (show 1 ≤ d by omega)
  have hm : (f + k) % 21 < 21 := Nat.mod_lt _ (by omega)
  refine eX2_earlier _ (bX2_earlier_0 _ (ly_hist σ hσ x).2.2.1 ?_)
  rw [hk, nI_pred]
  refine ⟨_, kX2_row (by omega) hσ hf hfk, ?_⟩
  rintro r1 M1 ⟨rfl, rfl⟩
  exact ⟨_, (ly_row σ hσ x _ hm).2, _, rfl, rfl, rfl, rfl⟩
theorem kX2_open (hd : 1 ≤ d) {σ f k : Nat} (hσ : σ = 44 ∨ σ = 69) (hf : M (σ + 2) 1 = nI f) (hk : M (σ + 2) 2 = nI k) (hf2 : f ≤ 20) (hk2 : k ≤ 20) : mX2_open X ad ca d x [.ref (σ + 2)] M (q_v (PT x) (fun M' => M' (σ + 2) 3 = 0 ∧ M' (σ + 2) 2 = nI (if k < 20 then k + 1 else 20) ∧ M' (σ + 2) 1 = nI (if k < 20 then f else (f + 1) % 21) ∧ ∀ i, i ≠ σ + 2 → M' i = M i)) := by
  obtain ⟨d, rfl⟩ := a_d1 hd
  refine eX2_open _ (bX2_open_0 _ (ly_hist σ hσ x).2.2.1 ?_)
  rw [hf, hk]
  refine ⟨fun h => ?_, fun h => ?_⟩
  · have hk3 : ¬ k < 20 := fun q => nI_ge (b := 20) q (by omega) h
    rw [if_neg hk3, if_neg hk3]
    refine ⟨fun h2 => ⟨rfl, rfl, ?_, ?_, ?_, fun i hi => ?_⟩, fun h2 => ⟨rfl, rfl, ?_, ?_, ?_, fun i hi => ?_⟩⟩
    · rw [ms_no _ _ _ _ _ _ (by simp), ms_is]
    · rw [ms_no _ _ _ _ _ _ (by simp), ms_no _ _ _ _ _ _ (by simp), hk, show k = 20 by omega]
    · have : f = 20 := by
        have : ¬ f < 20 := fun q => nI_ge (b := 20) q (by omega) h2
        omega
      rw [ms_is, this]
      rfl
    · rw [ms_row _ _ _ _ _ hi, ms_row _ _ _ _ _ hi]
    · rw [ms_no _ _ _ _ _ _ (by simp), ms_is]
    · rw [ms_no _ _ _ _ _ _ (by simp), ms_no _ _ _ _ _ _ (by simp), hk, show k = 20 by omega]
    · have : f < 20 := Classical.byContradiction fun q => h2 (nI_le (a := 20) (by omega) (by omega))
      rw [ms_is, Nat.mod_eq_of_lt (by omega), nI_succ]
    · rw [ms_row _ _ _ _ _ hi, ms_row _ _ _ _ _ hi]
  · have hk3 : k < 20 := Classical.byContradiction fun q => h (nI_le (a := 20) (by omega) (by omega))
    rw [if_pos hk3, if_pos hk3]
    refine ⟨rfl, rfl, ?_, ?_, ?_, fun i hi => ?_⟩
    · rw [ms_no _ _ _ _ _ _ (by simp), ms_is]
    · rw [ms_is, nI_succ]
    · rw [ms_no _ _ _ _ _ _ (by simp), ms_no _ _ _ _ _ _ (by simp), hf]
    · rw [ms_row _ _ _ _ _ hi, ms_row _ _ _ _ _ hi]
theorem kX2_restart (hd : 2 ≤ d) {σ : Nat} (hσ : σ = 44 ∨ σ = 69) : mX2_restart X ad ca d x [.ref (σ + 2)] M (q_v (PT x) (fun M' => M' (σ + 2) 1 = 0 ∧ M' (σ + 2) 2 = 0 ∧ M' (σ + 2) 3 = 0 ∧ (∀ j, j < 128 → M' (σ + 4) j = 0) ∧ ∀ i, i ≠ σ + 2 → i ≠ σ + 4 → M' i = M i)) := by
  obtain ⟨d, rfl⟩ := a_d1 (show 1 ≤ d by omega)
  obtain ⟨h1, h2, h3, h4, h5, -, -⟩ := ly_hist σ hσ x
  have hr := ly_row σ hσ x 0 (by omega)
  refine eX2_restart _ (bX2_restart_0 _ _ _ h3 h4 h5 ⟨n_in (n := 0) (by omega) (by omega), σ + 4, 128, hr.1, hr.2, _, kX11_clear (by omega) hr.2 (by omega), ?_⟩)
  rintro M2 rfl
  have hne : σ + 2 ≠ σ + 4 := by omega
  refine ⟨rfl, rfl, ?_, ?_, ?_, fun j hj => ?_, fun i hi hi2 => ?_⟩
  · rw [mf_no _ _ _ _ _ _ hne, ms_no _ _ _ _ _ _ (by simp), ms_no _ _ _ _ _ _ (by simp), ms_is]
  · rw [mf_no _ _ _ _ _ _ hne, ms_no _ _ _ _ _ _ (by simp), ms_is]
  · rw [mf_no _ _ _ _ _ _ hne, ms_is]
  · rw [mf_in _ _ _ _ _ _ (Nat.zero_le _) hj]
  · rw [mf_no _ _ _ _ _ _ hi2, ms_row _ _ _ _ _ hi, ms_row _ _ _ _ _ hi, ms_row _ _ _ _ _ hi]
theorem kX6_shiftOver (hd : 3 ≤ d) (hL : LY[o]? = some (6, 5)) {n o1 o2 : Nat} (hL1 : LY[o1]? = some (100, 128)) (hL2 : LY[o2]? = some (100, 128)) (h12 : o1 ≠ o2) (hN : M o 0 = nI n) (hn : n < 8) (hn2 : 2 ≤ n) :
    mX6_shiftOver X ad ca d x [.ref o, .ref o1, .ref o2] M (q_v (PT x) (fun M' => (∀ j, j < 2 ^ n → M' o2 (zh n j) = M o1 j) ∧ ∀ k, k ≠ o2 → M' k = M k)) := by
  obtain ⟨d, rfl⟩ := a_d1 (show 1 ≤ d by omega)
  have hne : o ≠ o2 := ly_ne hL hL2 (by decide)
  have h2n := z_p2 hn
  have hinj : ∀ n, n < 8 → 2 ≤ n → ∀ a, a < 2 ^ n → zh n a < 2 ^ n ∧ ∀ b, b < 2 ^ n → zh n a = zh n b → a = b := by decide +kernel
  refine eX6_shiftOver _ _ _ (bX6_shiftOver_0 _ _ _ _ _ hL hL1 hL2 ?_)
  refine a_loop (σ := a_M) (fun i M' => wX6_shiftOver X ad ca d x _ 2 [(0, .ref o), (1, .ref o1), (2, .ref o2), (3, .int (nI i))] M') (fun i M' => (∀ j, j < i → M' o2 (zh n j) = M o1 j) ∧ ∀ k, k ≠ o2 → M' k = M k) (2 ^ n) ?_ ?_ 0 M (Nat.zero_le _) ⟨fun j hj => absurd hj (Nat.not_lt_zero j), fun _ _ => rfl⟩
  · rintro M' ⟨q1, q2⟩
    refine bX6_shiftOver_2 _ _ _ _ _ _ hL hL1 hL2 ⟨_, kX6_states (by omega) hL (by rw [q2 o hne]; exact hN) hn, ?_⟩
    rintro v1 M1 ⟨rfl, rfl⟩
    exact ⟨fun _ => ⟨rfl, rfl, q1, q2⟩, fun h => absurd (nI_le (Nat.le_refl _) (by omega)) h⟩
  · rintro i M' hi ⟨q1, q2⟩ ih
    have hN' : M' o 0 = nI n := by rw [q2 o hne]; exact hN
    have hz := hinj n hn hn2 i hi
    refine bX6_shiftOver_2 _ _ _ _ _ _ hL hL1 hL2 ⟨_, kX6_states (by omega) hL hN' hn, ?_⟩
    rintro v1 M1 ⟨rfl, rfl⟩
    refine ⟨fun h => absurd h (nI_ge hi (by omega)), fun _ => ⟨_, kX6_shifted (by omega) hL hN' hn hn2 hi, ?_⟩⟩
    rintro v1 M1 ⟨rfl, rfl⟩
    refine ⟨n_in (by omega) (by omega), n_in (by omega) (by omega), ?_⟩
    rw [n_cl (by omega), n_cl (by omega), ← nI_succ]
    refine ih _ ⟨fun j hj => ?_, fun k hk => by rw [ms_row _ _ _ _ _ hk]; exact q2 k hk⟩
    by_cases e : j = i
    · subst e
      rw [ms_is, q2 o1 h12]
    · rw [ms_no _ _ _ _ _ _ (fun q => e ((hinj n hn hn2 j (by omega)).2 i hi q.2)), q1 j (by omega)]
theorem kX6_turnOver (hd : 2 ≤ d) (hL : LY[o]? = some (6, 5)) {n l o1 o2 : Nat} (hL1 : LY[o1]? = some (100, 128)) (hL2 : LY[o2]? = some (100, 128)) (h12 : o1 ≠ o2) (hN : M o 0 = nI n) (hn : n < 8) (hl : l < n) :
    mX6_turnOver X ad ca d x [.ref o, .int (nI l), .ref o1, .ref o2] M (q_v (PT x) (fun M' => (∀ j, j < 2 ^ n → M' o2 (j ^^^ 2 ^ l) = M o1 j) ∧ ∀ k, k ≠ o2 → M' k = M k)) := by
  obtain ⟨d, rfl⟩ := a_d1 (show 1 ≤ d by omega)
  have hne : o ≠ o2 := ly_ne hL hL2 (by decide)
  have h2n := z_p2 hn
  have hxl : ∀ j, j < 2 ^ n → j ^^^ 2 ^ l < 2 ^ n := fun j hj => Nat.xor_lt_two_pow hj (Nat.pow_lt_pow_right (by omega) hl)
  refine eX6_turnOver _ _ _ _ (bX6_turnOver_0 _ _ _ _ _ _ hL hL1 hL2 ?_)
  refine a_loop (σ := a_M) (fun i M' => wX6_turnOver X ad ca d x _ 3 [(0, .ref o), (1, .int (nI l)), (2, .ref o1), (3, .ref o2), (4, .int (nI i))] M') (fun i M' => (∀ j, j < i → M' o2 (j ^^^ 2 ^ l) = M o1 j) ∧ ∀ k, k ≠ o2 → M' k = M k) (2 ^ n) ?_ ?_ 0 M (Nat.zero_le _) ⟨fun j hj => absurd hj (Nat.not_lt_zero j), fun _ _ => rfl⟩
  · rintro M' ⟨q1, q2⟩
    refine bX6_turnOver_3 _ _ _ _ _ _ _ hL hL1 hL2 ⟨_, kX6_states (by omega) hL (by rw [q2 o hne]; exact hN) hn, ?_⟩
    rintro v1 M1 ⟨rfl, rfl⟩
    exact ⟨fun _ => ⟨rfl, rfl, q1, q2⟩, fun h => absurd (nI_le (Nat.le_refl _) (by omega)) h⟩
  · rintro i M' hi ⟨q1, q2⟩ ih
    have hN' : M' o 0 = nI n := by rw [q2 o hne]; exact hN
    have hz := hxl i hi
    refine bX6_turnOver_3 _ _ _ _ _ _ _ hL hL1 hL2 ⟨_, kX6_states (by omega) hL hN' hn, ?_⟩
    rintro v1 M1 ⟨rfl, rfl⟩
    refine ⟨fun h => absurd h (nI_ge hi (by omega)), fun _ => ?_⟩
    rw [z_pow l (by omega), n_xor]
    refine ⟨n_in (by omega) (by omega), n_in (by omega) (by omega), ?_⟩
    rw [n_cl (by omega), n_cl (by omega), ← nI_succ]
    refine ih _ ⟨fun j hj => ?_, fun k hk => by rw [ms_row _ _ _ _ _ hk]; exact q2 k hk⟩
    by_cases e : j = i
    · subst e
      rw [ms_is, q2 o1 h12]
    · refine (ms_no _ _ _ _ _ _ (fun q => e ?_)).trans (q1 j (by omega))
      have := congrArg (fun z => z ^^^ 2 ^ l) q.2
      simpa [Nat.xor_assoc] using this
end Z8
