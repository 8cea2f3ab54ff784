/-! CONTRACTS 3: rows that are filled -/
def mf (M : a_M) (o lo : Nat) (f : Nat → Int32) (i : Nat) : a_M := va_up M o (fun j => if lo ≤ j ∧ j < i then f j else M o j)
theorem mf_0 (M : a_M) (o lo : Nat) (f : Nat → Int32) : mf M o lo f lo = M := by
  unfold mf va_up
  funext a j
  by_cases h : a = o
  · rw [if_pos h, if_neg (by omega), h]
  · rw [if_neg h]
theorem mf_no (M : a_M) (o lo : Nat) (f : Nat → Int32) (i o2 : Nat) (h : o2 ≠ o) : mf M o lo f i o2 = M o2 := by unfold mf va_up; rw [if_neg h]
theorem mf_row (M : a_M) (o lo : Nat) (f : Nat → Int32) (i : Nat) : mf M o lo f i o = fun j => if lo ≤ j ∧ j < i then f j else M o j := by unfold mf va_up; rw [if_pos rfl]
theorem mf_in (M : a_M) (o lo : Nat) (f : Nat → Int32) (i j : Nat) (h1 : lo ≤ j) (h2 : j < i) : mf M o lo f i o j = f j := by rw [mf_row]; exact if_pos ⟨h1, h2⟩
theorem mf_out (M : a_M) (o lo : Nat) (f : Nat → Int32) (i j : Nat) (h : j < lo ∨ i ≤ j) : mf M o lo f i o j = M o j := by rw [mf_row]; exact if_neg (by omega)
theorem mf_s {M : a_M} {o lo : Nat} {f : Nat → Int32} {i : Nat} {v : Int32} (h : lo ≤ i) (hv : v = f i) : ms (mf M o lo f i) o i v = mf M o lo f (i + 1) := by
  subst hv
  unfold ms mf va_up upd
  funext a j
  by_cases ha : a = o
  · rw [if_pos ha, if_pos ha, if_pos rfl]
    by_cases hj : j = i
    · rw [if_pos hj, if_pos (by omega), hj]
    · rw [if_neg hj]
      by_cases h2 : lo ≤ j ∧ j < i
      · rw [if_pos h2, if_pos (by omega)]
      · rw [if_neg h2, if_neg (by omega)]
  · rw [if_neg ha, if_neg ha, if_neg ha]
theorem n_cl {n : Nat} (h : n < 2 ^ 31) : (nI n).toNatClampNeg = n := nI_clamp h
theorem n_in {n N : Nat} (h : n < N) (hN : N < 2 ^ 31) : vp_in (nI n) N := vp_in_nI h hN
section Z4
variable {X : a_X} {ad : Nat → Nat} {ca : Nat → ClassId} {d x : Nat} {M : a_M}
theorem kX12_takesNext (hd : 1 ≤ d) : mX12_takesNext X ad ca d x [.ref 118] M (q_v (PT x) (fun M' => M' = mf M 140 0 (M 141) 128)) := by
  obtain ⟨d, rfl⟩ := a_d1 hd
  refine eX12_takesNext (bX12_takesNext_0 ?_)
  have key := a_loop (σ := Unit) (fun i _ => wX12_takesNext X ad ca d x (q_v (PT x) (fun M' => M' = mf M 140 0 (M 141) 128)) 2 [(0, .ref 118), (1, .int (nI i))] (mf M 140 0 (M 141) i)) (fun _ _ => True) 128 ?_ ?_ 0 () (by omega) trivial
  · rw [mf_0] at key; exact key
  · intro _ _
    exact bX12_takesNext_2 _ ⟨fun _ => ⟨rfl, rfl, rfl⟩, fun h => absurd (nI_le (Nat.le_refl 128) (by omega)) h⟩
  · intro i _ hi _ ih
    refine bX12_takesNext_2 _ ⟨fun h => absurd h (nI_ge (b := 128) hi (by omega)), fun _ => ⟨n_in hi (by omega), n_in hi (by omega), ?_⟩⟩
    rw [n_cl (by omega), mf_s (Nat.zero_le _) (by rw [mf_no _ _ _ _ _ _ (by decide)]), ← nI_succ]
    exact ih () trivial
theorem kX12_keepsOther (hd : 1 ≤ d) : mX12_keepsOther X ad ca d x [.ref 118] M (q_v (PT x) (fun M' => M' = mf M 142 0 (M 140) 128)) := by
  obtain ⟨d, rfl⟩ := a_d1 hd
  refine eX12_keepsOther (bX12_keepsOther_0 ?_)
  have key := a_loop (σ := Unit) (fun i _ => wX12_keepsOther X ad ca d x (q_v (PT x) (fun M' => M' = mf M 142 0 (M 140) 128)) 2 [(0, .ref 118), (1, .int (nI i))] (mf M 142 0 (M 140) i)) (fun _ _ => True) 128 ?_ ?_ 0 () (by omega) trivial
  · rw [mf_0] at key; exact key
  · intro _ _
    exact bX12_keepsOther_2 _ ⟨fun _ => ⟨rfl, rfl, rfl⟩, fun h => absurd (nI_le (Nat.le_refl 128) (by omega)) h⟩
  · intro i _ hi _ ih
    refine bX12_keepsOther_2 _ ⟨fun h => absurd h (nI_ge (b := 128) hi (by omega)), fun _ => ⟨n_in hi (by omega), n_in hi (by omega), ?_⟩⟩
    rw [n_cl (by omega), mf_s (Nat.zero_le _) (by rw [mf_no _ _ _ _ _ _ (by decide)]), ← nI_succ]
    exact ih () trivial
theorem kX12_copies1 (hd : 1 ≤ d) : mX12_copies X ad ca d x [.ref 118, .int 1] M (q_v (PT x) (fun M' => M' = mf M 120 0 (M 119) 2698)) := by
  obtain ⟨d, rfl⟩ := a_d1 hd
  refine eX12_copies _ (bX12_copies_0 _ ?_)
  have key := a_loop (σ := Unit) (fun i _ => wX12_copies X ad ca d x (q_v (PT x) (fun M' => M' = mf M 120 0 (M 119) 2698)) 2 [(0, .ref 118), (1, .int 1), (2, .int (nI i))] (mf M 120 0 (M 119) i)) (fun _ _ => True) 2698 ?_ ?_ 0 () (by omega) trivial
  · rw [mf_0] at key; exact key
  · intro _ _
    exact bX12_copies_2 _ _ ⟨fun _ => ⟨rfl, rfl, rfl⟩, fun h => absurd (nI_le (Nat.le_refl 2698) (by omega)) h⟩
  · intro i _ hi _ ih
    refine bX12_copies_2 _ _ ⟨fun h => absurd h (nI_ge (b := 2698) hi (by omega)), fun _ => ⟨fun h => absurd h (by decide), fun _ => ⟨n_in hi (by omega), n_in hi (by omega), bX12_copies_40 _ _ ?_⟩⟩⟩
    rw [n_cl (by omega), mf_s (Nat.zero_le _) (by rw [mf_no _ _ _ _ _ _ (by decide)]), ← nI_succ]
    exact ih () trivial
theorem kX12_copies0 (hd : 1 ≤ d) : mX12_copies X ad ca d x [.ref 118, .int 0] M (q_v (PT x) (fun M' => M' = mf M 119 0 (M 120) 2698)) := by
  obtain ⟨d, rfl⟩ := a_d1 hd
  refine eX12_copies _ (bX12_copies_0 _ ?_)
  have key := a_loop (σ := Unit) (fun i _ => wX12_copies X ad ca d x (q_v (PT x) (fun M' => M' = mf M 119 0 (M 120) 2698)) 2 [(0, .ref 118), (1, .int 0), (2, .int (nI i))] (mf M 119 0 (M 120) i)) (fun _ _ => True) 2698 ?_ ?_ 0 () (by omega) trivial
  · rw [mf_0] at key; exact key
  · intro _ _
    exact bX12_copies_2 _ _ ⟨fun _ => ⟨rfl, rfl, rfl⟩, fun h => absurd (nI_le (Nat.le_refl 2698) (by omega)) h⟩
  · intro i _ hi _ ih
    refine bX12_copies_2 _ _ ⟨fun h => absurd h (nI_ge (b := 2698) hi (by omega)), fun _ => ⟨fun _ => ⟨n_in hi (by omega), n_in hi (by omega), bX12_copies_40 _ _ ?_⟩, fun h => absurd rfl h⟩⟩
    rw [n_cl (by omega), mf_s (Nat.zero_le _) (by rw [mf_no _ _ _ _ _ _ (by decide)]), ← nI_succ]
    exact ih () trivial
theorem kX12_actedIs (hd : 1 ≤ d) {a : Nat} (ha : a < 2 ^ 30) : mX12_actedIs X ad ca d x [.ref 118, .int (nI a)] M (q_v (PT x) (fun M' => M' = mf M 140 0 (fun j => if j = a then 1 else 0) 128)) := by
  obtain ⟨d, rfl⟩ := a_d1 hd
  refine eX12_actedIs _ (bX12_actedIs_0 _ ?_)
  have key := a_loop (σ := Unit) (fun i _ => wX12_actedIs X ad ca d x (q_v (PT x) (fun M' => M' = mf M 140 0 (fun j => if j = a then 1 else 0) 128)) 2 [(0, .ref 118), (1, .int (nI a)), (2, .int (nI i))] (mf M 140 0 (fun j => if j = a then 1 else 0) i)) (fun _ _ => True) 128 ?_ ?_ 0 () (by omega) trivial
  · rw [mf_0] at key; exact key
  · intro _ _
    exact bX12_actedIs_2 _ _ ⟨fun _ => ⟨rfl, rfl, rfl⟩, fun h => absurd (nI_le (Nat.le_refl 128) (by omega)) h⟩
  · intro i _ hi _ ih
    refine bX12_actedIs_2 _ _ ⟨fun h => absurd h (nI_ge (b := 128) hi (by omega)), fun _ => ⟨fun h => ⟨n_in hi (by omega), ?_⟩, fun h => ⟨n_in hi (by omega), ?_⟩⟩⟩
    · have hne : i ≠ a := fun e => h (by rw [e])
      rw [n_cl (by omega), mf_s (Nat.zero_le _) (by rw [if_neg hne]), ← nI_succ]
      exact ih () trivial
    · have he : i = a := (nI_eq (by omega) (by omega)).mp h
      rw [n_cl (by omega), mf_s (Nat.zero_le _) (by rw [if_pos he]), ← nI_succ]
      exact ih () trivial
theorem kX12_rowIs (hd : 1 ≤ d) {a m : Nat} (ha : a < 2 ^ 30) (hm : m ≤ 256) : mX12_rowIs X ad ca d x [.ref 118, .int (nI a), .int (nI m)] M (q_v (PT x) (fun M' => M' = mf M 137 0 (fun j => if j = a then 1 else 0) m)) := by
  obtain ⟨d, rfl⟩ := a_d1 hd
  refine eX12_rowIs _ _ (bX12_rowIs_0 _ _ ?_)
  have key := a_loop (σ := Unit) (fun i _ => wX12_rowIs X ad ca d x (q_v (PT x) (fun M' => M' = mf M 137 0 (fun j => if j = a then 1 else 0) m)) 2 [(0, .ref 118), (1, .int (nI a)), (2, .int (nI m)), (3, .int (nI i))] (mf M 137 0 (fun j => if j = a then 1 else 0) i)) (fun _ _ => True) m ?_ ?_ 0 () (by omega) trivial
  · rw [mf_0] at key; exact key
  · intro _ _
    exact bX12_rowIs_2 _ _ _ ⟨fun _ => ⟨rfl, rfl, rfl⟩, fun h => absurd (nI_le (Nat.le_refl m) (by omega)) h⟩
  · intro i _ hi _ ih
    refine bX12_rowIs_2 _ _ _ ⟨fun h => absurd h (nI_ge hi (by omega)), fun _ => ⟨fun h => ⟨n_in (by omega) (by omega), ?_⟩, fun h => ⟨n_in (by omega) (by omega), ?_⟩⟩⟩
    · have hne : i ≠ a := fun e => h (by rw [e])
      rw [n_cl (by omega), mf_s (Nat.zero_le _) (by rw [if_neg hne]), ← nI_succ]
      exact ih () trivial
    · have he : i = a := (nI_eq (by omega) (by omega)).mp h
      rw [n_cl (by omega), mf_s (Nat.zero_le _) (by rw [if_pos he]), ← nI_succ]
      exact ih () trivial
theorem kX11_clear (hd : 1 ≤ d) {o N : Nat} (hL : LY[o]? = some (100, N)) (hN : N < 2 ^ 30) : mX11_clear X ad ca d x [.ref o] M (q_v (PT x) (fun M' => M' = mf M o 0 (fun _ => 0) N)) := by
  obtain ⟨d, rfl⟩ := a_d1 hd
  refine eX11_clear _ (bX11_clear_0 _ _ hL ?_)
  have key := a_loop (σ := Unit) (fun i _ => wX11_clear X ad ca d x (q_v (PT x) (fun M' => M' = mf M o 0 (fun _ => 0) N)) 2 [(0, .ref o), (1, .int (nI i))] (mf M o 0 (fun _ => 0) i)) (fun _ _ => True) N ?_ ?_ 0 () (by omega) trivial
  · rw [mf_0] at key; exact key
  · intro _ _
    exact bX11_clear_2 _ _ _ hL ⟨fun _ => ⟨rfl, rfl, rfl⟩, fun h => absurd (nI_le (Nat.le_refl N) (by omega)) h⟩
  · intro i _ hi _ ih
    refine bX11_clear_2 _ _ _ hL ⟨fun h => absurd h (nI_ge hi (by omega)), fun _ => ⟨n_in hi (by omega), ?_⟩⟩
    rw [n_cl (by omega), mf_s (Nat.zero_le _) rfl, ← nI_succ]
    exact ih () trivial
theorem kX12_isOther (hd : 1 ≤ d) : mX12_isOther X ad ca d x [.ref 118] M (q_i (PT x) (fun r M' => M' = M ∧ ((r = 1 ∧ ∀ j, j < 128 → M 142 j = M 140 j) ∨ (r = 0 ∧ ¬ ∀ j, j < 128 → M 142 j = M 140 j)))) := by
  obtain ⟨d, rfl⟩ := a_d1 hd
  refine eX12_isOther (bX12_isOther_0 ?_)
  refine a_loop (σ := Int32) (fun i v => wX12_isOther X ad ca d x _ 4 [(0, .ref 118), (1, .int v), (2, .int (nI i))] M) (fun i v => (v = 1 ∧ ∀ j, j < i → M 142 j = M 140 j) ∨ (v = 0 ∧ ¬ ∀ j, j < i → M 142 j = M 140 j)) 128 ?_ ?_ 0 1 (by omega) (Or.inl ⟨rfl, fun j hj => absurd hj (Nat.not_lt_zero j)⟩)
  · intro v hv
    refine bX12_isOther_4 _ _ ⟨fun _ => ⟨?_, _, rfl, rfl, rfl, hv⟩, fun h => absurd (nI_le (Nat.le_refl 128) (by omega)) h⟩
    rcases hv with ⟨h, -⟩ | ⟨h, -⟩
    · exact Or.inr h
    · exact Or.inl h
  · intro i v hi hv ih
    refine bX12_isOther_4 _ _ ⟨fun h => absurd h (nI_ge (b := 128) hi (by omega)), fun _ => ⟨fun h => bX12_isOther_34 _ ?_, fun h => ⟨n_in hi (by omega), n_in hi (by omega), fun h2 => bX12_isOther_34 _ ?_, fun h2 => ?_⟩⟩⟩
    · rw [← nI_succ]
      refine ih 0 (Or.inr ⟨rfl, fun h3 => ?_⟩)
      rcases hv with ⟨h4, -⟩ | ⟨-, h4⟩
      · rw [h4] at h; exact absurd h (by decide)
      · exact h4 (fun j hj => h3 j (by omega))
    · rw [← nI_succ]
      refine ih 0 (Or.inr ⟨rfl, fun h3 => h2 ?_⟩)
      rw [n_cl (by omega)]
      exact h3 i (by omega)
    · rw [← nI_succ]
      refine ih 1 (Or.inl ⟨rfl, fun j hj => ?_⟩)
      rw [n_cl (by omega)] at h2
      rcases hv with ⟨-, h4⟩ | ⟨h4, -⟩
      · by_cases e : j = i
        · rw [e]; exact h2
        · exact h4 j (by omega)
      · exact absurd h4 h
end Z4
