/-! CONTRACTS 2: small methods of both sides -/
theorem a_lrem {x y : Int64} {p : Nat} (hy : y.toInt = (p : Int)) (hp : 0 < p) : (x - x / y * y).toInt = x.toInt.tmod p := by
  have hr := fb_rngL x
  have hb : (p : Int) < 9223372036854775808 := by rw [← hy]; exact (fb_rngL y).2
  have hd := Int.tdiv_mul_add_tmod x.toInt (p : Int)
  have h1 : x.toInt.tdiv p = x.toInt.tdiv p := rfl
  have hm1 : x.toInt.tmod p < p ∧ -(p : Int) < x.toInt.tmod p := by
    constructor
    · exact Int.tmod_lt_of_pos _ (by omega)
    · have := Int.tmod_lt_of_pos (-x.toInt) (b := (p : Int)) (by omega)
      rw [Int.neg_tmod] at this
      omega
  have hq : -9223372036854775808 ≤ x.toInt.tdiv p * p ∧ x.toInt.tdiv p * p < 9223372036854775808 := by
    rcases Int.le_total 0 x.toInt with h | h
    · have h2 := Int.tmod_nonneg (b := (p : Int)) h
      have h3 := Int.tdiv_nonneg h (show (0 : Int) ≤ p by omega)
      have h4 := Int.mul_nonneg h3 (show (0 : Int) ≤ p by omega)
      omega
    · have h2 := Int.tmod_nonneg (a := -x.toInt) (b := (p : Int)) (by omega)
      rw [Int.neg_tmod] at h2
      have h3 := Int.tdiv_nonneg (a := -x.toInt) (b := (p : Int)) (by omega) (by omega)
      rw [Int.neg_tdiv] at h3
      have h4 := Int.mul_nonneg h3 (show (0 : Int) ≤ p by omega)
      rw [Int.neg_mul] at h4
      omega
  have hqb : -9223372036854775808 ≤ x.toInt.tdiv p ∧ x.toInt.tdiv p < 9223372036854775808 := by
    have hp1 : (1 : Int) ≤ p := by omega
    rcases Int.le_total 0 (x.toInt.tdiv p) with h | h
    · have := Int.mul_le_mul_of_nonneg_left hp1 h
      omega
    · have := Int.mul_le_mul_of_nonneg_left hp1 (show 0 ≤ -x.toInt.tdiv p by omega)
      simp only [Int.neg_mul, Int.mul_one] at this
      omega
  have hdv : (x / y).toInt = x.toInt.tdiv p := by
    rw [Int64.toInt_div, hy, fb_bmodL hqb.1 hqb.2]
  have hml : (x / y * y).toInt = x.toInt.tdiv p * p := by
    rw [fb_mulL] <;> rw [hdv, hy]
    · exact hq.1
    · exact hq.2
  rw [fb_subL] <;> rw [hml] <;> omega

theorem z_leftL {v y : Int64} {z r : Int32} {p : Nat} (hp : 0 < p) (hp2 : p < 2 ^ 30) (hy : y = (nI p).toInt64) (hz : z = nI p) (hr : r = (v - v / y * y).toInt32) : (0 ≤ r → r = nI (zm v.toInt p)) ∧ (¬ 0 ≤ r → r + z = nI (zm v.toInt p)) := by
  have hyi : y.toInt = (p : Int) := by rw [hy, Int32.toInt_toInt64]; exact nI_toInt (by omega)
  have e := a_lrem (x := v) (y := y) hyi hp
  have ez := z_tmod (z := v.toInt) hp
  have hz1 := zm_lt (z := v.toInt) hp
  have hzi := zm_int (z := v.toInt) hp
  have h1 : -(p : Int) ≤ v.toInt.tmod p ∧ v.toInt.tmod p < p := by
    have h2 := Int.emod_nonneg v.toInt (show (p : Int) ≠ 0 by omega)
    have h3 := Int.emod_lt_of_pos v.toInt (show (0 : Int) < p by omega)
    split at ez <;> omega
  have er : r.toInt = v.toInt.tmod p := by
    rw [hr, Int64.toInt_toInt32, e, Int.bmod_eq_of_le (by omega) (by omega)]
  have en : (nI (zm v.toInt p)).toInt = ((zm v.toInt p : Nat) : Int) := nI_toInt (by omega)
  have ezz : z.toInt = (p : Int) := by rw [hz]; exact nI_toInt (by omega)
  constructor
  · intro h
    have h' := (fa_le 0 r).mp h
    have h0 : (0 : Int32).toInt = 0 := rfl
    rw [h0, er] at h'
    rw [if_pos h'] at ez
    apply Int32.toInt_inj.1
    omega
  · intro h
    have h' : ¬ 0 ≤ r.toInt := fun q => h ((fa_le 0 r).mpr q)
    have ez' := ez
    rw [if_neg (by omega)] at ez'
    apply Int32.toInt_inj.1
    rw [fb_addI (by omega) (by omega)]
    omega
/-- how many of the seven lowest are up -/
def zc (a : Nat) : Nat := a % 2 + a / 2 % 2 + a / 4 % 2 + a / 8 % 2 + a / 16 % 2 + a / 32 % 2 + a / 64 % 2
/-- each letter one place on -/
def zh (n a : Nat) : Nat := (2 * a + a / 2 ^ (n - 1)) % 2 ^ n
theorem z_pow : ∀ n, n < 8 → (1 : Int32) <<< (nI n &&& 31) = nI (2 ^ n) := by decide +kernel
theorem z_bit {a k : Nat} (ha : a < 2 ^ 31) (hk : k < 31) : (nI a >>> (nI k &&& 31)) &&& 1 = nI (a / 2 ^ k % 2) := by
  have e : ∀ n, n < 32 → ((nI n &&& 31).toBitVec.smod 32).toNat = n := by decide
  rw [pk_shrN ha _ k (e k (by omega))]
  exact fa_mask _ 1
theorem z_shift : ∀ n, n < 8 → 2 ≤ n → ∀ a, a < 2 ^ n → (((nI a <<< ((1 : Int32) &&& 31)) ||| (nI a >>> ((nI n - 1) &&& 31))) &&& (nI (2 ^ n) - 1)) = nI (zh n a) := by decide +kernel
theorem z_p2 {n : Nat} (h : n < 8) : 2 ^ n ≤ 128 := Nat.pow_le_pow_right (by omega) (show n ≤ 7 by omega)
section Z3
variable {X : a_X} {ad : Nat → Nat} {ca : Nat → ClassId} {d x : Nat} {M : a_M}
theorem kX12_left (hd : 1 ≤ d) (v : Int64) {p : Nat} (hP : M 119 2 = nI p) (hp : 0 < p) (hp2 : p < 2 ^ 30) : mX12_left X ad ca d x [.ref 118, .long v] M (q_i (PT x) (fun r M' => M' = M ∧ r = nI (zm v.toInt p))) := by
  obtain ⟨d, rfl⟩ := a_d1 hd
  have hz := z_leftL (v := v) hp hp2 rfl rfl rfl
  refine eX12_left _ (bX12_left_0 _ ?_)
  rw [hP]
  refine ⟨fun h => ?_, fun h2 => ⟨_, rfl, rfl, rfl, hz.1 h2⟩, fun h2 => ⟨_, rfl, rfl, rfl, hz.2 h2⟩⟩
  have h3 := congrArg Int64.toInt h
  rw [Int32.toInt_toInt64, nI_toInt (by omega)] at h3
  have h4 : (0 : Int64).toInt = 0 := rfl
  omega
theorem kX12_states (hd : 1 ≤ d) {n : Nat} (hN : M 119 0 = nI n) (hn : n < 8) : mX12_states X ad ca d x [.ref 118] M (q_i (PT x) (fun r M' => M' = M ∧ r = nI (2 ^ n))) := by
  obtain ⟨d, rfl⟩ := a_d1 hd
  refine eX12_states (bX12_states_0 ⟨_, rfl, rfl, rfl, ?_⟩)
  rw [hN, z_pow n hn]
theorem kX12_isNumber (hd : 2 ≤ d) (v : Int32) {p : Nat} (hP : M 119 2 = nI p) (hp : 0 < p) (hp2 : p < 2 ^ 30) : mX12_isNumber X ad ca d x [.ref 118, .int v] M (q_i (PT x) (fun r M' => M' = M ∧ r = if ∃ k, k < p ∧ v = nI k then 1 else 0)) := by
  obtain ⟨d, rfl⟩ := a_d1 (show 1 ≤ d by omega)
  refine eX12_isNumber _ (bX12_isNumber_0 _ ⟨_, kX12_in (by omega) _ _ _, ?_⟩)
  rintro v1 M1 ⟨rfl, rfl⟩
  have e : nI p - 1 = nI (p - 1) := pk_sub (a := p) (b := 1) (by omega)
  rw [hP, e]
  have h : (0 ≤ v ∧ v ≤ nI (p - 1)) ↔ ∃ k, k < p ∧ v = nI k := by
    constructor
    · rintro ⟨h1, h2⟩
      obtain ⟨j, hj, rfl⟩ := nI_of2 (n := p - 1) (nI_toInt (by omega)) (fun q => (fa_of_lt q).2.1 h1) h2
      exact ⟨j, by omega, rfl⟩
    · rintro ⟨k, hk, rfl⟩
      exact ⟨nI_pos' (by omega), nI_le (by omega) (by omega)⟩
  by_cases c : 0 ≤ v ∧ v ≤ nI (p - 1)
  · rw [if_pos c]
    exact ⟨Or.inr rfl, _, rfl, rfl, rfl, by rw [if_pos (h.mp c)]⟩
  · rw [if_neg c]
    exact ⟨Or.inl rfl, _, rfl, rfl, rfl, by rw [if_neg (fun q => c (h.mpr q))]⟩
theorem kX12_isState (hd : 2 ≤ d) (v : Int32) {n : Nat} (hN : M 119 0 = nI n) (hn : n < 8) : mX12_isState X ad ca d x [.ref 118, .int v] M (q_i (PT x) (fun r M' => M' = M ∧ r = if ∃ k, k < 2 ^ n ∧ v = nI k then 1 else 0)) := by
  obtain ⟨d, rfl⟩ := a_d1 (show 1 ≤ d by omega)
  refine eX12_isState _ (bX12_isState_0 _ ⟨_, kX12_states (by omega) hN hn, ?_⟩)
  rintro v1 M1 ⟨rfl, rfl⟩
  refine ⟨_, kX12_in (by omega) _ _ _, ?_⟩
  rintro v1 M1 ⟨rfl, rfl⟩
  have hb := z_p2 hn
  have h0 : 0 < 2 ^ n := Nat.pow_pos (by omega)
  have e : nI (2 ^ n) - 1 = nI (2 ^ n - 1) := pk_sub (a := 2 ^ n) (b := 1) (by omega)
  rw [e]
  have h : (0 ≤ v ∧ v ≤ nI (2 ^ n - 1)) ↔ ∃ k, k < 2 ^ n ∧ v = nI k := by
    constructor
    · rintro ⟨h1, h2⟩
      obtain ⟨j, hj, rfl⟩ := nI_of2 (n := 2 ^ n - 1) (nI_toInt (by omega)) (fun q => (fa_of_lt q).2.1 h1) h2
      exact ⟨j, by omega, rfl⟩
    · rintro ⟨k, hk, rfl⟩
      exact ⟨nI_pos' (by omega), nI_le (by omega) (by omega)⟩
  by_cases c : 0 ≤ v ∧ v ≤ nI (2 ^ n - 1)
  · rw [if_pos c]
    exact ⟨Or.inr rfl, _, rfl, rfl, rfl, by rw [if_pos (h.mp c)]⟩
  · rw [if_neg c]
    exact ⟨Or.inl rfl, _, rfl, rfl, rfl, by rw [if_neg (fun q => c (h.mpr q))]⟩
theorem kX12_isSector (hd : 2 ≤ d) (v : Int32) {n : Nat} (hN : M 119 0 = nI n) (hn : n < 8) : mX12_isSector X ad ca d x [.ref 118, .int v] M (q_i (PT x) (fun r M' => M' = M ∧ r = if ∃ k, k ≤ n ∧ v = nI k then 1 else 0)) := by
  obtain ⟨d, rfl⟩ := a_d1 (show 1 ≤ d by omega)
  refine eX12_isSector _ (bX12_isSector_0 _ ⟨_, kX12_in (by omega) _ _ _, ?_⟩)
  rintro v1 M1 ⟨rfl, rfl⟩
  rw [hN]
  have h : (0 ≤ v ∧ v ≤ nI n) ↔ ∃ k, k ≤ n ∧ v = nI k := by
    constructor
    · rintro ⟨h1, h2⟩
      obtain ⟨j, hj, rfl⟩ := nI_of2 (n := n) (nI_toInt (by omega)) (fun q => (fa_of_lt q).2.1 h1) h2
      exact ⟨j, by omega, rfl⟩
    · rintro ⟨k, hk, rfl⟩
      exact ⟨nI_pos' (by omega), nI_le (by omega) (by omega)⟩
  by_cases c : 0 ≤ v ∧ v ≤ nI n
  · rw [if_pos c]
    exact ⟨Or.inr rfl, _, rfl, rfl, rfl, by rw [if_pos (h.mp c)]⟩
  · rw [if_neg c]
    exact ⟨Or.inl rfl, _, rfl, rfl, rfl, by rw [if_neg (fun q => c (h.mpr q))]⟩
theorem kX12_forgets (hd : 1 ≤ d) : mX12_forgets X ad ca d x [.ref 118] M (q_v (PT x) (fun M' => M' = ms (ms M 119 7 0) 119 8 0)) := by
  obtain ⟨d, rfl⟩ := a_d1 hd
  exact eX12_forgets (bX12_forgets_0 ⟨rfl, rfl, rfl⟩)
theorem kX12_count (hd : 1 ≤ d) {a : Nat} (ha : a < 128) : mX12_count X ad ca d x [.int (nI a)] M (q_i (PT x) (fun r M' => M' = M ∧ r = nI (zc a))) := by
  obtain ⟨d, rfl⟩ := a_d1 hd
  refine eX12_count _ (bX12_count_0 _ ?_)
  have step : ∀ i v, i < 7 → wX12_count X ad ca d x (q_i (PT x) (fun r M' => M' = M ∧ r = nI (zc a))) 4 [(0, .int (nI a)), (1, .int (nI (v + a / 2 ^ i % 2))), (2, .int (nI (i + 1)))] M → wX12_count X ad ca d x (q_i (PT x) (fun r M' => M' = M ∧ r = nI (zc a))) 4 [(0, .int (nI a)), (1, .int (nI v)), (2, .int (nI i))] M := by
    intro i v hi h
    refine bX12_count_4 _ _ _ ⟨fun h2 => absurd h2 (nI_ge (a := i) (b := 7) hi (by omega)), fun _ => ?_⟩
    rw [z_bit (by omega) (by omega), nI_add, ← nI_succ]
    exact h
  refine step 0 0 (by omega) (step 1 _ (by omega) (step 2 _ (by omega) (step 3 _ (by omega) (step 4 _ (by omega) (step 5 _ (by omega) (step 6 _ (by omega) ?_))))))
  refine bX12_count_4 _ _ _ ⟨fun _ => ⟨_, rfl, rfl, rfl, ?_⟩, fun h => absurd (nI_le (Nat.le_refl 7) (by omega)) h⟩
  unfold zc
  simp
theorem kX12_shifted (hd : 2 ≤ d) {n a : Nat} (hN : M 119 0 = nI n) (hn : n < 8) (hn2 : 2 ≤ n) (ha : a < 2 ^ n) : mX12_shifted X ad ca d x [.ref 118, .int (nI a)] M (q_i (PT x) (fun r M' => M' = M ∧ r = nI (zh n a))) := by
  obtain ⟨d, rfl⟩ := a_d1 (show 1 ≤ d by omega)
  refine eX12_shifted _ (bX12_shifted_0 _ ⟨_, kX12_states (by omega) hN hn, ?_⟩)
  rintro v1 M1 ⟨rfl, rfl⟩
  refine ⟨_, rfl, rfl, rfl, ?_⟩
  rw [hN, z_shift n hn hn2 a ha]
theorem kX12_cell (hd : 1 ≤ d) {c a : Nat} (hC : M 119 7 = nI c) : mX12_cell X ad ca d x [.ref 118, .int (nI a)] M (q_i (PT x) (fun r M' => M' = M ∧ r = nI (10 + 128 * c + a))) := by
  obtain ⟨d, rfl⟩ := a_d1 hd
  refine eX12_cell _ (bX12_cell_0 _ ⟨_, rfl, rfl, rfl, ?_⟩)
  rw [hC, fa_lit 10, fa_lit 128, n_mul, nI_add, nI_add]
end Z3
