/-! CONTRACTS 21: sectors, squares and their bending on the reference's side -/
/-- those below i that f takes, in their order -/
def zfl (f : Nat → Bool) (i : Nat) : List Nat := (List.range i).filter f
theorem zfl_s (f : Nat → Bool) (i : Nat) : zfl f (i + 1) = zfl f i ++ (if f i = true then [i] else []) := by
  unfold zfl
  rw [List.range_succ, List.filter_append]
  congr 1
  by_cases h : f i = true
  · rw [if_pos h]; simp [h]
  · rw [if_neg h]; simp [h]
theorem zfl_len (f : Nat → Bool) (i : Nat) : (zfl f (i + 1)).length = (zfl f i).length + (if f i = true then 1 else 0) := by
  rw [zfl_s, List.length_append]
  congr 1
  split <;> rfl
theorem zfl_mem {f : Nat → Bool} {i k a : Nat} (h : (zfl f i)[k]? = some a) : a < i ∧ f a = true ∧ (zfl f a).length = k := by
  induction i with
  | zero => cases h
  | succ i ih =>
    rw [zfl_s] at h
    by_cases hk : k < (zfl f i).length
    · rw [List.getElem?_append_left hk] at h
      obtain ⟨h1, h2, h3⟩ := ih h
      exact ⟨by omega, h2, h3⟩
    · rw [List.getElem?_append_right (by omega)] at h
      by_cases hf : f i = true
      · rw [if_pos hf] at h
        have hk2 : k - (zfl f i).length = 0 := by
          have := (List.getElem?_eq_some_iff.mp h).1
          simp at this
          omega
        rw [hk2] at h
        cases h
        exact ⟨by omega, hf, by omega⟩
      · rw [if_neg hf] at h
        cases h
theorem zfl_mono (f : Nat → Bool) {i j : Nat} (h : i ≤ j) : (zfl f i).length ≤ (zfl f j).length := by
  obtain ⟨k, rfl⟩ : ∃ k, j = i + k := ⟨j - i, by omega⟩
  clear h
  induction k with
  | zero => exact Nat.le_refl _
  | succ k ih =>
    refine Nat.le_trans ih ?_
    show _ ≤ (zfl f (i + k + 1)).length
    rw [zfl_len]
    omega
theorem zfl_at {f : Nat → Bool} {i a : Nat} (ha : a < i) (hf : f a = true) : (zfl f i)[(zfl f a).length]? = some a := by
  obtain ⟨k, rfl⟩ : ∃ k, i = a + 1 + k := ⟨i - (a + 1), by omega⟩
  clear ha
  induction k with
  | zero =>
    rw [Nat.add_zero, zfl_s, if_pos hf, List.getElem?_append_right (Nat.le_refl _), Nat.sub_self]
    rfl
  | succ k ih =>
    show (zfl f (a + 1 + k + 1))[_]? = _
    rw [zfl_s, List.getElem?_append_left]
    · exact ih
    · exact (List.getElem?_eq_some_iff.mp ih).1
/-- the sector of count m -/
def zsf (m : Nat) : Nat → Bool := fun a => zc a == m
def zsec (n m : Nat) : List Nat := zfl (zsf m) (2 ^ n)
theorem zsec_len : ∀ n, n < 8 → ∀ m, m < 8 → (zsec n m).length ≤ 35 := by decide +kernel
/-- the reference's list of members lies -/
def mL (M : a_M) (L : List Nat) : Prop := M 118 44 = nI L.length ∧ ∀ k a, L[k]? = some a → M 143 k = nI a
/-- the square lies: w rows of 35 -/
def mQ (M : a_M) (w p : Nat) (A : Nat → Nat → Nat) : Prop := M 118 44 = nI w ∧ ∀ i k, i < w → k < w → M 145 (35 * i + k) = nI (A i k) ∧ A i k < p
/-- THE SUM among the members -/
def zA (p n b e : Nat) (L : List Nat) (i k : Nat) : Nat := zS p n b e (zu (L.getD k 0)) (L.getD i 0)
/-- what sectors and squares change -/
def mC (M M' : a_M) : Prop := (∀ o, o ≠ 118 → o ≠ 145 → M' o = M o) ∧ ∀ j, j ≠ 44 → M' 118 j = M 118 j
section Z22
variable {X : a_X} {ad : Nat → Nat} {ca : Nat → ClassId} {d x : Nat} {M : a_M}
theorem kX12_laysSector (hd : 2 ≤ d) {n r p t e m : Nat} (hH : mH M n r p t e) (hw : wH n r p t e) (hm : m ≤ n) :
    mX12_laysSector X ad ca d x [.ref 118, .int (nI m)] M (q_v (PT x) (fun M' => mL M' (zsec n m) ∧ mK M M' ∧ ∀ o, o ≠ 118 → o ≠ 143 → o ≠ 144 → M' o = M o)) := by
  obtain ⟨d, rfl⟩ := a_d1 (show 1 ≤ d by omega)
  have hn := hw.1
  have h2n := z_p2 hn
  have hlen := zsec_len n hn m (by omega)
  refine eX12_laysSector _ (bX12_laysSector_0 _ ?_)
  refine a_loop (σ := a_M) (fun i M' => wX12_laysSector X ad ca d x _ 7 [(0, .ref 118), (1, .int (nI m)), (2, .int (nI i))] M') (fun i M' => mL M' (zfl (zsf m) i) ∧ mK M M' ∧ ∀ o, o ≠ 118 → o ≠ 143 → o ≠ 144 → M' o = M o) (2 ^ n) ?_ ?_ 0 _ (Nat.zero_le _) ⟨⟨by rw [ms_is]; rfl, fun k a h => by cases h⟩, (mK.rfl _).u0 (by omega), fun o h1 _ _ => by rw [ms_row _ _ _ _ _ h1]⟩
  · rintro M' ⟨h1, h2, h3⟩
    refine bX12_laysSector_7 _ _ ⟨_, kX12_states (by omega) (hH.K h2).1 hn, ?_⟩
    rintro v1 M1 ⟨rfl, rfl⟩
    exact ⟨fun _ => ⟨rfl, rfl, h1, h2, h3⟩, fun h => absurd (nI_le (Nat.le_refl _) (by omega)) h⟩
  · rintro i M' hi ⟨h1, h2, h3⟩ ih
    refine bX12_laysSector_7 _ _ ⟨_, kX12_states (by omega) (hH.K h2).1 hn, ?_⟩
    rintro v1 M1 ⟨rfl, rfl⟩
    refine ⟨fun h => absurd h (nI_ge hi (by omega)), fun _ => ⟨n_in (by omega) (by omega), ?_⟩⟩
    rw [n_cl (by omega)]
    refine ⟨_, kX12_count (by omega) (by omega), ?_⟩
    rintro v2 M2 ⟨rfl, rfl⟩
    have hz := zc_le i
    have eq : nI (zc i) = nI m ↔ zc i = m := nI_eq (by omega) (by omega)
    refine ⟨fun h => bX12_laysSector_60 _ _ ?_, fun h => ?_⟩
    · have hf : zsf m i = false := by
        unfold zsf
        simpa using fun q => h (eq.mpr q)
      rw [← nI_succ]
      refine ih _ ⟨?_, h2.us (by omega), fun o q1 q2 q3 => by rw [ms_row _ _ _ _ _ q3]; exact h3 o q1 q2 q3⟩
      rw [zfl_s, hf]
      simp only [Bool.false_eq_true, if_false, List.append_nil]
      exact ⟨by rw [ms_row _ _ _ _ _ (by decide)]; exact h1.1, fun k a hk => by rw [ms_row _ _ _ _ _ (by decide)]; exact h1.2 k a hk⟩
    · have hf : zsf m i = true := by
        unfold zsf
        simpa using eq.mp h
      have hl1 : (zfl (zsf m) i).length < 35 := by
        have h4 := zfl_len (zsf m) i
        rw [hf] at h4
        have h5 := zfl_mono (zsf m) (show i + 1 ≤ 2 ^ n by omega)
        have h6 : (zfl (zsf m) (2 ^ n)).length ≤ 35 := hlen
        simp only [if_true] at h4
        omega
      have e44 : ms M1 144 i (-1) 118 44 = nI (zfl (zsf m) i).length := by rw [ms_row _ _ _ _ _ (by decide)]; exact h1.1
      rw [e44]
      refine ⟨n_in (by omega) (by omega), n_in (by omega) (by omega), bX12_laysSector_60 _ _ ?_⟩
      rw [n_cl (by omega), ← nI_succ, ← nI_succ]
      refine ih _ ⟨?_, ((((h2.us (by omega)).us (by omega)).us (by omega)).u0 (by omega)), fun o q1 q2 q3 => by rw [ms_row _ _ _ _ _ q1, ms_row _ _ _ _ _ q3, ms_row _ _ _ _ _ q2, ms_row _ _ _ _ _ q3]; exact h3 o q1 q2 q3⟩
      refine ⟨by rw [ms_is, zfl_len, hf]; rfl, fun k a hk => ?_⟩
      rw [ms_row _ _ _ _ _ (by decide), ms_row _ _ _ _ _ (by decide)]
      rw [zfl_s, if_pos hf] at hk
      by_cases hk2 : k < (zfl (zsf m) i).length
      · rw [List.getElem?_append_left hk2] at hk
        rw [ms_no _ _ _ _ _ _ (by omega), ms_row _ _ _ _ _ (by decide)]
        exact h1.2 k a hk
      · rw [List.getElem?_append_right (by omega)] at hk
        have hk3 : k - (zfl (zsf m) i).length = 0 := by
          have := (List.getElem?_eq_some_iff.mp hk).1
          simp at this
          omega
        rw [hk3] at hk
        cases hk
        rw [show k = (zfl (zsf m) i).length by omega, ms_is]
theorem kX12_unit2 (hd : 1 ≤ d) {a n p : Nat} (ha : a < 2 ^ n) (hn : n < 8) (hp : 1 < p) : mX12_actedIs X ad ca d x [.ref 118, .int (nI a)] M (q_v (PT x) (fun M' => (∀ j, j < 2 ^ n → M' 140 j = nI (zu a j) ∧ zu a j < p) ∧ ∀ o, o ≠ 140 → M' o = M o)) := by
  have h2n := z_p2 hn
  refine (kX12_actedIs hd (by omega)).mv ?_
  rintro M1 rfl
  exact ⟨fun j hj => ⟨by rw [mf_in _ _ _ _ _ _ (Nat.zero_le _) (by omega), z_unit], zu_lt hp⟩, fun o ho => mf_no _ _ _ _ _ _ ho⟩
theorem kX12_laysSquare (hd : 3 ≤ d) {n r p t e m e' r' : Nat} (hH : mH M n r p t e) (hw : wH n r p t e) (hm : m ≤ n) (he : e' < p) (hr : r' ≤ 1) :
    mX12_laysSquare X ad ca d x [.ref 118, .int (nI m), .int (nI e'), .int (nI r')] M (q_v (PT x) (fun M' => mQ M' (zsec n m).length p (zA p n (zbd n r') e' (zsec n m)) ∧ mK M M')) := by
  obtain ⟨d, rfl⟩ := a_d1 (show 1 ≤ d by omega)
  have hn := hw.1
  have hn2 := hw.2.1
  have h2n := z_p2 hn
  have hpb := zpl_b p hw.2.2.2.1
  have hlen := zsec_len n hn m (by omega)
  generalize hPost : q_v (PT x) (fun M' => mQ M' (zsec n m).length p (zA p n (zbd n r') e' (zsec n m)) ∧ mK M M') = Post
  refine eX12_laysSquare _ _ _ (bX12_laysSquare_0 _ _ _ ⟨_, kX12_laysSector (by omega) hH hw hm, ?_⟩)
  rintro M1 ⟨hL, hK1, hK2⟩
  have hmem : ∀ k, k < (zsec n m).length → M1 143 k = nI ((zsec n m).getD k 0) ∧ (zsec n m).getD k 0 < 2 ^ n := by
    intro k hk
    have hq : (zsec n m)[k]? = some (zsec n m)[k] := List.getElem?_eq_getElem hk
    have hg : (zsec n m).getD k 0 = (zsec n m)[k] := by rw [List.getD_eq_getElem?_getD, hq]; rfl
    rw [hg]
    exact ⟨hL.2 k _ hq, (zfl_mem hq).1⟩
  generalize hLe : zsec n m = L at *
  refine a_loop (σ := a_M) (fun k M' => wX12_laysSquare X ad ca d x Post 8 [(0, .ref 118), (2, .int (nI e')), (3, .int (nI r')), (4, .int (nI k))] M') (fun k M' => (∀ i j, i < L.length → j < k → M' 145 (35 * i + j) = nI (zA p n (zbd n r') e' L i j)) ∧ mK M M' ∧ (∀ j, M' 118 j = M1 118 j) ∧ M' 143 = M1 143) L.length ?_ ?_ 0 M1 (Nat.zero_le _) ⟨fun i j _ h => absurd h (Nat.not_lt_zero j), hK1, fun _ => rfl, rfl⟩
  · rintro M' ⟨h1, h2, h3, h4⟩
    refine bX12_laysSquare_8 _ _ _ ?_
    rw [h3, hL.1]
    refine ⟨fun _ => ?_, fun h => absurd (nI_le (Nat.le_refl _) (by omega)) h⟩
    rw [← hPost]
    exact ⟨rfl, rfl, ⟨by rw [h3]; exact hL.1, fun i k hi hk => ⟨h1 i k hi hk, zS_lt (by omega)⟩⟩, h2⟩
  · rintro k M' hk ⟨h1, h2, h3, h4⟩ ih
    refine bX12_laysSquare_8 _ _ _ ?_
    rw [h3, hL.1, n_cl (by omega), h4, (hmem k hk).1]
    have hH2 := hH.K h2
    refine ⟨fun h => absurd h (nI_ge hk (by omega)), fun _ => ⟨n_in (by omega) (by omega), _, kX12_unit2 (by omega) (hmem k hk).2 hn (show 1 < p by omega), ?_⟩⟩
    rintro M2 ⟨a1, a4⟩
    have a3 : mK M' M2 := ⟨fun o q1 q2 => a4 o (by omega), fun j _ => by rw [a4 118 (by decide)]⟩
    refine ⟨_, kX12_sumsBy (v := zu (L.getD k 0)) (by omega) (hH2.K a3).1 hn hn2 (hH2.K a3).2.2.1 hw.2.2.2.1 he hr a1, ?_⟩
    rintro M3 rfl
    generalize hM3 : mf (mf M2 141 0 (fun j => nI (zS p n (zbd n r') e' (zu (L.getD k 0)) j)) 128) 140 0 (fun j => nI (zS p n (zbd n r') e' (zu (L.getD k 0)) j)) 128 = M3
    have k3 : mK M M3 := by
      rw [← hM3]
      exact ((h2.trans a3).uf (by omega)).uf (by omega)
    have hg : ∀ o, 142 ≤ o → M3 o = M' o := fun o ho => by
      rw [← hM3, mf_no _ _ _ _ _ _ (by omega), mf_no _ _ _ _ _ _ (by omega)]
      exact a4 o (by omega)
    have h140 : ∀ j, j < 128 → M3 140 j = nI (zS p n (zbd n r') e' (zu (L.getD k 0)) j) := fun j hj => by
      rw [← hM3, mf_in _ _ _ _ _ _ (Nat.zero_le _) hj]
    have h118 : ∀ j, M3 118 j = M1 118 j := fun j => by
      rw [← hM3, mf_no _ _ _ _ _ _ (by decide), mf_no _ _ _ _ _ _ (by decide), a4 118 (by decide), h3]
    refine a_loop (σ := a_M) (fun i M' => wX12_laysSquare X ad ca d x Post 37 [(0, .ref 118), (2, .int (nI e')), (3, .int (nI r')), (4, .int (nI k)), (5, .int (nI i))] M') (fun i M' => (∀ a b, a < L.length → b < k ∨ (b = k ∧ a < i) → M' 145 (35 * a + b) = nI (zA p n (zbd n r') e' L a b)) ∧ ∀ o, o ≠ 145 → M' o = M3 o) L.length ?_ ?_ 0 M3 (Nat.zero_le _) ⟨fun a b ha hb => by rw [hg 145 (by omega)]; exact h1 a b ha (by omega), fun _ _ => rfl⟩
    · rintro M4 ⟨q1, q2⟩
      refine bX12_laysSquare_37 _ _ _ _ ?_
      rw [q2 118 (by decide), h118, hL.1]
      refine ⟨fun _ => ?_, fun h => absurd (nI_le (Nat.le_refl _) (by omega)) h⟩
      rw [← nI_succ]
      exact ih M4 ⟨fun i j hi hj => q1 i j hi (by omega), k3.trans ⟨fun o p1 p2 => q2 o (by omega), fun j _ => by rw [q2 118 (by decide)]⟩, fun j => by rw [q2 118 (by decide)]; exact h118 j, by rw [q2 143 (by decide), hg 143 (by omega)]; exact h4⟩
    · rintro i M4 hi ⟨q1, q2⟩ ih2
      refine bX12_laysSquare_37 _ _ _ _ ?_
      have hmi := hmem i hi
      have eix : 35 * nI i + nI k = nI (35 * i + k) := by rw [fa_lit 35, n_mul, nI_add]
      rw [q2 118 (by decide), h118, hL.1, n_cl (by omega), q2 143 (by decide), hg 143 (by omega), h4, hmi.1, n_cl (by omega), eix, n_cl (by omega)]
      refine ⟨fun h => absurd h (nI_ge hi (by omega)), fun _ => ⟨n_in (by omega) (by omega), n_in (by omega) (by omega), n_in (by omega) (by omega), ?_⟩⟩
      rw [← nI_succ]
      refine ih2 _ ⟨fun a b ha hb => ?_, fun o ho => by rw [ms_row _ _ _ _ _ ho]; exact q2 o ho⟩
      by_cases e2 : a = i ∧ b = k
      · obtain ⟨rfl, rfl⟩ := e2
        rw [ms_is, q2 140 (by decide), h140 _ (by omega)]
        rfl
      · rw [ms_no _ _ _ _ _ _ (by omega)]
        exact q1 a b ha (by omega)
end Z22
