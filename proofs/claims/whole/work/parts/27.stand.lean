/-! CONTRACTS 8: what an image keeps, on the class's side. S: 0 letters, 1 ring, 2 prime, 3 eta, 4 d, 5 texts, 6 the told text + 1, 7 acts done, 8 acts kept; V k: the k-th vector kept -/
def cSt (M : a_M) (σ : Nat) (S : Nat → Nat) (V : Nat → Nat → Nat) : Prop :=
  rH M (σ + 1) (S 0) (S 1) (S 2) (S 3) (S 4) ∧ M σ 2 = nI (S 5) ∧ M σ 3 = nI (S 6) - 1 ∧ M (σ + 2) 2 = nI (S 7) ∧ M (σ + 2) 3 = nI (S 8 - S 7) ∧ ∃ f, f ≤ 20 ∧ M (σ + 2) 1 = nI f ∧ ∀ k, k ≤ S 8 → ∀ s, s < 2 ^ S 0 → M (σ + 4 + (f + k) % 21) s = nI (V k s)
def wSt (S : Nat → Nat) (V : Nat → Nat → Nat) : Prop :=
  wH (S 0) (S 1) (S 2) (S 3) (S 4) ∧ S 5 ≤ 4 ∧ S 6 ≤ S 5 ∧ S 7 ≤ S 8 ∧ S 8 ≤ 20 ∧ ∀ k, k ≤ S 8 → ∀ s, s < 2 ^ S 0 → V k s < S 2
theorem cSt.same {M M' : a_M} {σ : Nat} {S : Nat → Nat} {V : Nat → Nat → Nat} (h : cSt M σ S V) (hm : ∀ i, σ ≤ i → i ≤ σ + 24 → M' i = M i) : cSt M' σ S V := by
  obtain ⟨h1, h2, h3, h4, h5, f, h6, h7, h8⟩ := h
  refine ⟨h1.same (hm _ (by omega) (by omega)), by rw [hm _ (by omega) (by omega)]; exact h2, by rw [hm _ (by omega) (by omega)]; exact h3, by rw [hm _ (by omega) (by omega)]; exact h4, by rw [hm _ (by omega) (by omega)]; exact h5, f, h6, by rw [hm _ (by omega) (by omega)]; exact h7, fun k hk s hs => ?_⟩
  have := Nat.mod_lt (f + k) (show 0 < 21 by omega)
  rw [hm _ (by omega) (by omega)]
  exact h8 k hk s hs
theorem row_inj {f k j : Nat} (hk : k < 21) (hj : j < 21) (h : (f + k) % 21 = (f + j) % 21) : k = j := by omega
section Z9
variable {X : a_X} {ad : Nat → Nat} {ca : Nat → ClassId} {d x : Nat} {M : a_M}
theorem kX2_takeBy (hd : 3 ≤ d) {σ f c u p : Nat} (hσ : σ = 44 ∨ σ = 69) (hf : M (σ + 2) 1 = nI f) (hc : M (σ + 2) 2 = nI c) (hu : M (σ + 2) 3 = nI u) (hf2 : f ≤ 20) (hcu : c + u ≤ 20) (hp : 0 < p) (hp2 : p < 2 ^ 30) :
    mX2_takeBy X ad ca d x [.ref (σ + 2), .int (nI p)] M (q_v (PT x) (fun M' => (∀ k, k ≤ c + u → ∀ s, s < 128 → M' (σ + 4 + (f + k) % 21) s = nI (zm (M (σ + 4 + (f + k) % 21) s).toInt p)) ∧ ∀ i, (i < σ + 4 ∨ σ + 24 < i) → M' i = M i)) := by
  obtain ⟨d, rfl⟩ := a_d1 (show 1 ≤ d by omega)
  have hL := (ly_hist σ hσ x).2.2.1
  refine eX2_takeBy _ _ (bX2_takeBy_0 _ _ hL ?_)
  refine a_loop (σ := a_M) (fun k M' => wX2_takeBy X ad ca d x _ 2 [(0, .ref (σ + 2)), (1, .int (nI p)), (2, .int (nI k))] M') (fun k M' => (∀ j, j < k → ∀ s, s < 128 → M' (σ + 4 + (f + j) % 21) s = nI (zm (M (σ + 4 + (f + j) % 21) s).toInt p)) ∧ (∀ j, k ≤ j → j ≤ c + u → M' (σ + 4 + (f + j) % 21) = M (σ + 4 + (f + j) % 21)) ∧ ∀ i, (i < σ + 4 ∨ σ + 24 < i) → M' i = M i) (c + u + 1) ?_ ?_ 0 M (Nat.zero_le _) ⟨fun j hj => absurd hj (Nat.not_lt_zero j), fun _ _ _ => rfl, fun _ _ => rfl⟩
  · rintro M' ⟨q1, -, q2⟩
    refine bX2_takeBy_2 _ _ _ hL ?_
    rw [q2 (σ + 2) (by omega), hc, hu, nI_add]
    exact ⟨fun _ => ⟨rfl, rfl, fun k hk => q1 k (by omega), q2⟩, fun h => absurd (nI_lt (Nat.lt_succ_self _) (by omega)) h⟩
  · rintro k M' hk ⟨q1, q3, q2⟩ ih
    have hm : (f + k) % 21 < 21 := Nat.mod_lt _ (by omega)
    refine bX2_takeBy_2 _ _ _ hL ?_
    rw [q2 (σ + 2) (by omega), hc, hu, nI_add]
    refine ⟨fun h => absurd h (nI_nlt (by omega) (by omega)), fun _ => ⟨_, kX2_row (by omega) hσ (by rw [q2 (σ + 2) (by omega)]; exact hf) (by omega), ?_⟩⟩
    rintro r1 M1 ⟨rfl, rfl⟩
    have hLr := (ly_row σ hσ x _ hm).2
    refine ⟨_, hLr, ?_⟩
    generalize hr : σ + 4 + (f + k) % 21 = r at hLr ⊢
    have key := a_loop (σ := Unit) (fun i _ => wX2_takeBy X ad ca d x (q_v (PT x) (fun M' => (∀ k, k ≤ c + u → ∀ s, s < 128 → M' (σ + 4 + (f + k) % 21) s = nI (zm (M (σ + 4 + (f + k) % 21) s).toInt p)) ∧ ∀ i, (i < σ + 4 ∨ σ + 24 < i) → M' i = M i)) 24 [(0, .ref (σ + 2)), (1, .int (nI p)), (2, .int (nI k)), (3, .ref r), (4, .int (nI i))] (mf M1 r 0 (fun s => nI (zm (M1 r s).toInt p)) i)) (fun _ _ => True) 128 ?_ ?_ 0 () (by omega) trivial
    · rw [mf_0] at key; exact key
    · intro _ _
      refine bX2_takeBy_24 _ _ _ _ _ _ hL hLr ⟨fun _ => ?_, fun h => absurd (nI_le (Nat.le_refl 128) (by omega)) h⟩
      rw [← nI_succ]
      refine ih _ ⟨fun j hj s hs => ?_, fun j hj1 hj2 => ?_, fun i hi => ?_⟩
      · by_cases e : j = k
        · subst e
          rw [hr, mf_in _ _ _ _ _ _ (Nat.zero_le _) hs, ← hr, q3 j (Nat.le_refl j) (by omega)]
        · have hne : σ + 4 + (f + j) % 21 ≠ r := fun q => e (row_inj (f := f) (by omega) (by omega) (by omega))
          rw [mf_no _ _ _ _ _ _ hne]
          exact q1 j (by omega) s hs
      · have hne : σ + 4 + (f + j) % 21 ≠ r := fun q => by
          have := row_inj (f := f) (k := j) (j := k) (by omega) (by omega) (by omega)
          omega
        rw [mf_no _ _ _ _ _ _ hne]
        exact q3 j (by omega) hj2
      · rw [mf_no _ _ _ _ _ _ (by omega)]
        exact q2 i hi
    · intro i _ hi _ ih2
      refine bX2_takeBy_24 _ _ _ _ _ _ hL hLr ⟨fun h => absurd h (nI_ge (b := 128) hi (by omega)), fun _ => ⟨n_in hi (by omega), _, kX11_left (by omega) _ hp hp2, ?_⟩⟩
      rintro v1 M2 ⟨rfl, rfl⟩
      refine ⟨n_in hi (by omega), ?_⟩
      rw [n_cl (by omega), mf_out _ _ _ _ _ _ (Or.inr (Nat.le_refl i)), mf_s (Nat.zero_le _) rfl, ← nI_succ]
      exact ih2 () trivial
theorem kX2_copyFrom (hd : 3 ≤ d) {σ τ f c u : Nat} (hσ : σ = 44 ∨ σ = 69) (hτ : τ = 44 ∨ τ = 69) (hne : σ ≠ τ) (hf : M (τ + 2) 1 = nI f) (hc : M (τ + 2) 2 = nI c) (hu : M (τ + 2) 3 = nI u) (hf2 : f ≤ 20) (hcu : c + u ≤ 20) :
    mX2_copyFrom X ad ca d x [.ref (σ + 2), .ref (τ + 2)] M (q_v (PT x) (fun M' => M' (σ + 2) 1 = nI 0 ∧ M' (σ + 2) 2 = nI c ∧ M' (σ + 2) 3 = nI u ∧ (∀ k, k ≤ c + u → ∀ s, s < 128 → M' (σ + 4 + (0 + k) % 21) s = M (τ + 4 + (f + k) % 21) s) ∧ ∀ i, i ≠ σ + 2 → (i < σ + 4 ∨ σ + 24 < i) → M' i = M i)) := by
  obtain ⟨d, rfl⟩ := a_d1 (show 1 ≤ d by omega)
  have hL := (ly_hist σ hσ x).2.2.1
  have hLt := (ly_hist τ hτ x).2.2.1
  have hst : τ + 24 < σ ∨ σ + 24 < τ := by omega
  refine eX2_copyFrom _ _ (bX2_copyFrom_0 _ _ hL hLt ?_)
  rw [hc, hu]
  refine a_loop (σ := a_M) (fun k M' => wX2_copyFrom X ad ca d x _ 23 [(0, .ref (σ + 2)), (1, .ref (τ + 2)), (2, .int (nI k))] M') (fun k M' => M' (σ + 2) 1 = nI 0 ∧ M' (σ + 2) 2 = nI c ∧ M' (σ + 2) 3 = nI u ∧ (∀ j, j < k → ∀ s, s < 128 → M' (σ + 4 + (0 + j) % 21) s = M (τ + 4 + (f + j) % 21) s) ∧ ∀ i, i ≠ σ + 2 → (i < σ + 4 ∨ σ + 24 < i) → M' i = M i) (c + u + 1) ?_ ?_ 0 _ (Nat.zero_le _) ⟨?_, ?_, ?_, fun j hj => absurd hj (Nat.not_lt_zero j), fun i hi _ => ?_⟩
  · rintro M' ⟨q0, q1, q2, q3, q4⟩
    refine bX2_copyFrom_23 _ _ _ hL hLt ?_
    rw [q1, q2, nI_add]
    exact ⟨fun _ => ⟨rfl, rfl, q0, q1, q2, fun k hk => q3 k (by omega), q4⟩, fun h => absurd (nI_lt (Nat.lt_succ_self _) (by omega)) h⟩
  · rintro k M' hk ⟨q0, q1, q2, q3, q4⟩ ih
    have hm : (f + k) % 21 < 21 := Nat.mod_lt _ (by omega)
    have hm2 : (0 + k) % 21 < 21 := Nat.mod_lt _ (by omega)
    refine bX2_copyFrom_23 _ _ _ hL hLt ?_
    rw [q1, q2, nI_add]
    refine ⟨fun h => absurd h (nI_nlt (by omega) (by omega)), fun _ => ⟨_, kX2_row (by omega) hτ (by rw [q4 (τ + 2) (by omega) (by omega)]; exact hf) (by omega), ?_⟩⟩
    rintro r1 M1 ⟨rfl, rfl⟩
    refine ⟨_, (ly_row τ hτ x _ hm).2, _, kX2_row (by omega) hσ q0 (by omega), ?_⟩
    rintro r1 M1 ⟨rfl, rfl⟩
    refine ⟨_, (ly_row σ hσ x _ hm2).2, by decide, by decide, by decide, by decide, by decide, ?_⟩
    rw [← nI_succ]
    have hc0 : (0 : Int32).toNatClampNeg = 0 := rfl
    have hc1 : (128 : Int32).toNatClampNeg = 128 := rfl
    rw [hc0, hc1]
    refine ih _ ⟨?_, ?_, ?_, fun j hj s hs => ?_, fun i hi hi2 => ?_⟩
    · unfold va_up; rw [if_neg (by omega)]; exact q0
    · unfold va_up; rw [if_neg (by omega)]; exact q1
    · unfold va_up; rw [if_neg (by omega)]; exact q2
    · by_cases e : j = k
      · subst e
        unfold va_up
        rw [if_pos rfl, pk_cpy_in (Nat.zero_le _) (by omega), Nat.sub_zero, Nat.zero_add, q4 _ (by omega) (by omega)]
      · have hn2 : σ + 4 + (0 + j) % 21 ≠ σ + 4 + (0 + k) % 21 := fun q => e (row_inj (f := 0) (by omega) (by omega) (by omega))
        unfold va_up
        rw [if_neg hn2]
        exact q3 j (by omega) s hs
    · unfold va_up
      rw [if_neg (by omega)]
      exact q4 i hi hi2
  · rw [ms_no _ _ _ _ _ _ (by simp), ms_no _ _ _ _ _ _ (by simp), ms_is]; rfl
  · rw [ms_no _ _ _ _ _ _ (by simp), ms_is]
  · rw [ms_is]
  · rw [ms_row _ _ _ _ _ hi, ms_row _ _ _ _ _ hi, ms_row _ _ _ _ _ hi]
theorem kX9_copyFrom (hd : 4 ≤ d) {σ τ : Nat} {S : Nat → Nat} {V : Nat → Nat → Nat} (hσ : σ = 44 ∨ σ = 69) (hτ : τ = 44 ∨ τ = 69) (hne : σ ≠ τ) (hS : cSt M τ S V) (hw : wSt S V) :
    mX9_copyFrom X ad ca d x [.ref σ, .ref τ] M (q_v (PT x) (fun M' => cSt M' σ S V ∧ ∀ i, (i < σ ∨ σ + 24 < i) → M' i = M i)) := by
  obtain ⟨d, rfl⟩ := a_d1 (show 1 ≤ d by omega)
  obtain ⟨h1, h2, h3, h4, h5, f, h6, h7, h8⟩ := hS
  obtain ⟨w1, w2, w3, w4, w5, w6⟩ := hw
  obtain ⟨a1, a2, a3, a4, a5, a6, a7⟩ := ly_hist σ hσ x
  obtain ⟨b1, b2, b3, b4, b5, b6, b7⟩ := ly_hist τ hτ x
  have h2n := z_p2 w1.1
  have hst : τ + 24 < σ ∨ σ + 24 < τ := by omega
  refine eX9_copyFrom _ _ (bX9_copyFrom_0 _ _ _ _ _ _ a1 b1 a2 a6 b2 b6 a3 a7 b3 b7 ⟨_, kX6_copyFrom (by omega) a2 b2 h1 w1.2.2.1, ?_⟩)
  rintro M1 ⟨q1, q2⟩
  refine ⟨_, kX2_copyFrom (by omega) hσ hτ hne (by rw [q2 _ (by omega)]; exact h7) (by rw [q2 _ (by omega)]; exact h4) (by rw [q2 _ (by omega)]; exact h5) h6 (by omega), ?_⟩
  rintro M2 ⟨p0, p1, p2, p3, p4⟩
  have e1 : M2 τ 2 = nI (S 5) := by rw [p4 τ (by omega) (by omega), q2 τ (by omega)]; exact h2
  have e2 : M2 τ 3 = nI (S 6) - 1 := by rw [p4 τ (by omega) (by omega), q2 τ (by omega)]; exact h3
  rw [e1, e2]
  have hrow : ∀ i, i ≠ σ → (ms (ms M2 σ 2 (nI (S 5))) σ 3 (nI (S 6) - 1)) i = M2 i := fun i hi => by rw [ms_row _ _ _ _ _ hi, ms_row _ _ _ _ _ hi]
  refine ⟨rfl, rfl, ⟨q1.same ?_, ?_, ?_, ?_, ?_, 0, by omega, ?_, fun k hk s hs => ?_⟩, fun i hi => ?_⟩
  · rw [hrow _ (by omega), p4 _ (by omega) (by omega)]
  · rw [ms_no _ _ _ _ _ _ (by simp), ms_is]
  · rw [ms_is]
  · rw [hrow _ (by omega)]; exact p1
  · rw [hrow _ (by omega)]; exact p2
  · rw [hrow _ (by omega)]; exact p0
  · have := Nat.mod_lt (f + k) (show 0 < 21 by omega)
    rw [hrow _ (by omega), p3 k (by omega) s (by omega), q2 _ (by omega)]
    exact h8 k hk s hs
  · rw [hrow _ (by omega), p4 i (by omega) (by omega), q2 i (by omega)]
end Z9
