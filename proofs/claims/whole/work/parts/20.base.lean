/-! CONTRACTS 1: numbers -/
theorem a_loop {σ : Type} (Wk : Nat → σ → Prop) (I : Nat → σ → Prop) (b : Nat) (hx : ∀ s, I b s → Wk b s) (hs : ∀ i s, i < b → I i s → (∀ s', I (i + 1) s' → Wk (i + 1) s') → Wk i s) : ∀ i s, i ≤ b → I i s → Wk i s := by
  intro i s hi h
  generalize hk : b - i = k
  induction k generalizing i s with
  | zero =>
    have e : i = b := by omega
    subst e
    exact hx s h
  | succ k ih => exact hs i s (by omega) h (fun s' h' => ih (i + 1) s' (by omega) h' (by omega))
theorem a_d1 {d : Nat} (h : 1 ≤ d) : ∃ z, d = z + 1 := ⟨d - 1, by omega⟩
/-- what p leaves of a whole number -/
def zm (z : Int) (p : Nat) : Nat := (z % (p : Int)).toNat
theorem zm_lt {z : Int} {p : Nat} (hp : 0 < p) : zm z p < p := by
  have h1 := Int.emod_nonneg z (show (p : Int) ≠ 0 by omega)
  have h2 := Int.emod_lt_of_pos z (show (0 : Int) < p by omega)
  unfold zm
  omega
theorem zm_int {z : Int} {p : Nat} (hp : 0 < p) : ((zm z p : Nat) : Int) = z % p := by
  have h1 := Int.emod_nonneg z (show (p : Int) ≠ 0 by omega)
  unfold zm
  omega
theorem zm_nat (a p : Nat) : zm (a : Int) p = a % p := by unfold zm; omega
theorem z_tmod {z : Int} {p : Nat} (hp : 0 < p) : z % p = if 0 ≤ z.tmod p then z.tmod p else z.tmod p + p := by
  rcases Int.le_total 0 z with h | h
  · rw [Int.tmod_eq_emod_of_nonneg h, if_pos (Int.emod_nonneg z (by omega))]
  · have e := Int.tmod_eq_emod (a := z) (b := (p : Int))
    have h1 := Int.emod_nonneg z (show (p : Int) ≠ 0 by omega)
    have h2 := Int.emod_lt_of_pos z (show (0 : Int) < p by omega)
    have e3 : ((p : Int).natAbs : Int) = p := by omega
    rw [e]
    split
    · rw [if_pos (by omega)]; omega
    · rw [if_neg (by omega)]; omega
theorem z_left {v y r : Int32} {p : Nat} (hp : 0 < p) (hp2 : p < 2 ^ 30) (hy : y = nI p) (hr : r = v - v / y * y) : (0 ≤ r → r = nI (zm v.toInt p)) ∧ (¬ 0 ≤ r → r + y = nI (zm v.toInt p)) := by
  have hyi : y.toInt = (p : Int) := by rw [hy]; exact nI_toInt (by omega)
  have e := a_irem (x := v) (y := y) hyi hp
  rw [← hr] at e
  have ez := z_tmod (z := v.toInt) hp
  have hz := zm_lt (z := v.toInt) hp
  have hzi := zm_int (z := v.toInt) hp
  have en : (nI (zm v.toInt p)).toInt = ((zm v.toInt p : Nat) : Int) := nI_toInt (by omega)
  constructor
  · intro h
    have h' := (fa_le 0 r).mp h
    have h0 : (0 : Int32).toInt = 0 := rfl
    rw [h0, e] at h'
    rw [if_pos h'] at ez
    apply Int32.toInt_inj.1
    omega
  · intro h
    have h' : ¬ 0 ≤ r.toInt := fun q => h ((fa_le 0 r).mpr q)
    have ez' := ez
    rw [if_neg (by omega)] at ez'
    apply Int32.toInt_inj.1
    rw [fb_addI (by omega) (by omega)]
    omega
theorem n_rem {a p : Nat} (ha : a < 2 ^ 31) (hp : 0 < p) (hp2 : p < 2 ^ 31) : nI a - nI a / nI p * nI p = nI (a % p) := pk_rem ha hp hp2
theorem n_mul (a b : Nat) : nI a * nI b = nI (a * b) := pk_mul a b
section Z1
variable {X : a_X} {ad : Nat → Nat} {ca : Nat → ClassId} {d x : Nat} {M : a_M}
theorem kX12_in (hd : 1 ≤ d) (v lo hi : Int32) : Mt X ad ca LY d yX12_in cX12_in 3 (some FieldType.boolean) [.int v, .int lo, .int hi] M (PT x) (q_i (PT x) (fun r M' => M' = M ∧ r = if lo ≤ v ∧ v ≤ hi then 1 else 0)) := by
  obtain ⟨d, rfl⟩ := a_d1 hd
  refine eX12_in _ _ _ (bX12_in_0 _ _ _ ⟨fun h => ?_, fun h => ⟨fun h2 => ?_, fun h2 => ?_⟩⟩)
  · refine bX12_in_14 ⟨_, rfl, rfl, rfl, ?_⟩
    rw [if_neg]
    rintro ⟨h3, -⟩
    exact (fa_of_lt h).2.1 h3
  · refine bX12_in_14 ⟨_, rfl, rfl, rfl, ?_⟩
    rw [if_neg]
    rintro ⟨-, h3⟩
    exact (fa_of_lt h2).2.1 h3
  · refine ⟨_, rfl, rfl, rfl, ?_⟩
    rw [if_pos ⟨fa_of_nlt h, fa_of_nlt h2⟩]
theorem kJ9_max (hd : 1 ≤ d) (a b : Int32) : Mt X ad ca LY d yJ9_max_7cf53 cJ9_max_7cf53 2 (some FieldType.int) [.int a, .int b] M (PT x) (q_i (PT x) (fun r M' => M' = M ∧ r = if a < b then b else a)) := by
  obtain ⟨d, rfl⟩ := a_d1 hd
  refine eJ9_max_7cf53 _ _ (bJ9_max_7cf53_0 _ _ ⟨fun h => ⟨_, rfl, rfl, rfl, ?_⟩, fun h => ⟨_, rfl, rfl, rfl, ?_⟩⟩)
  · rw [if_pos h]
  · rw [if_neg h]
theorem kJ9_min (hd : 1 ≤ d) (a b : Int32) : Mt X ad ca LY d yJ9_min_7cf53 cJ9_min_7cf53 2 (some FieldType.int) [.int a, .int b] M (PT x) (q_i (PT x) (fun r M' => M' = M ∧ r = if b < a then b else a)) := by
  obtain ⟨d, rfl⟩ := a_d1 hd
  refine eJ9_min_7cf53 _ _ (bJ9_min_7cf53_0 _ _ ⟨fun h => ⟨_, rfl, rfl, rfl, ?_⟩, fun h => ⟨_, rfl, rfl, rfl, ?_⟩⟩)
  · rw [if_pos h]
  · rw [if_neg h]
theorem kX11_left (hd : 1 ≤ d) (v : Int32) {p : Nat} (hp : 0 < p) (hp2 : p < 2 ^ 30) : Mt X ad ca LY d yX11_left cX11_left 3 (some FieldType.int) [.int v, .int (nI p)] M (PT x) (q_i (PT x) (fun r M' => M' = M ∧ r = nI (zm v.toInt p))) := by
  obtain ⟨d, rfl⟩ := a_d1 hd
  have hz := z_left (v := v) hp hp2 rfl rfl
  have h0 : (0 : Int32) < nI p := by rw [← nI_0]; exact nI_lt hp (by omega)
  refine eX11_left _ _ (bX11_left_0 _ _ ⟨fun h => ⟨nI_ne0 hp (by omega), fun h2 => ⟨_, rfl, rfl, rfl, hz.1 h2⟩, fun h2 => ⟨_, rfl, rfl, rfl, hz.2 h2⟩⟩, fun h => absurd h0 h⟩)
theorem kX12_raised (hd : 1 ≤ d) {p b k : Nat} (hP : M 119 2 = nI p) (hp : 1 < p) (hp2 : p < 128) (hb : b < p) (hk : k < 2 ^ 30) : Mt X ad ca LY d yX12_raised cX12_raised 5 (some FieldType.int) [.ref 118, .int (nI b), .int (nI k)] M (PT x) (q_i (PT x) (fun r M' => M' = M ∧ r = nI (b ^ k % p))) := by
  obtain ⟨d, rfl⟩ := a_d1 hd
  refine eX12_raised _ _ (bX12_raised_0 _ _ ?_)
  have key := a_loop (σ := Nat) (fun i v => WA X ad ca LY RX12 cX12_raised 5 (some FieldType.int) (d + 1) 0 0 (a_E X ad ca LY (q_i (PT x) (fun r M' => M' = M ∧ r = nI (b ^ k % p)))) 5 [(0, .ref 118), (1, .int (nI b)), (2, .int (nI k)), (3, .int (nI v)), (4, .int (nI i))] [] M (PT x)) (fun i v => v = b ^ i % p) k ?_ ?_ 0 1 (Nat.zero_le _) (by rw [Nat.pow_zero, Nat.mod_eq_of_lt hp])
  · exact key
  · rintro s rfl
    refine bX12_raised_5 _ _ _ _ ⟨fun h => ⟨_, rfl, rfl, rfl, rfl⟩, fun h => absurd (nI_le (Nat.le_refl k) (by omega)) h⟩
  · rintro i s hi rfl ih
    refine bX12_raised_5 _ _ _ _ ⟨fun h => absurd h (nI_ge hi (by omega)), fun h => ⟨by rw [hP]; exact nI_ne0 (by omega) (by omega), ?_⟩⟩
    have hv : b ^ i % p < p := Nat.mod_lt _ (by omega)
    have hm : b ^ i % p * b < 2 ^ 31 := by
      have := Nat.mul_lt_mul'' hv hb
      have h2 : p * p < 128 * 128 := Nat.mul_lt_mul'' hp2 hp2
      omega
    rw [hP, n_mul, n_rem hm (by omega) (by omega), ← nI_succ]
    have e : b ^ i % p * b % p = b ^ (i + 1) % p := by rw [Nat.pow_succ, Nat.mod_mul_mod]
    rw [e]
    exact ih _ rfl
end Z1
/-! the primes, and division by them -/
def zpl : List Nat := [5, 7, 11, 13, 17, 19, 23, 29, 31, 37, 41, 43, 47, 53, 59, 61, 67, 71, 73, 79, 83, 89, 97]
theorem zpl_b : ∀ p ∈ zpl, 5 ≤ p ∧ p ≤ 97 := by decide
theorem zpl_inv : ∀ p ∈ zpl, ∀ y, y < p → y ≠ 0 → y * (y ^ (p - 2) % p) % p = 1 := by decide +kernel
/-- that times y which leaves x -/
def zv (p x y : Nat) : Nat := x * (y ^ (p - 2) % p) % p
theorem zv_lt {p x y : Nat} (hp : 0 < p) : zv p x y < p := Nat.mod_lt _ hp
theorem zv_0 {p x : Nat} (hp : p ∈ zpl) : zv p x 0 = 0 := by
  have := zpl_b p hp
  unfold zv
  rw [Nat.zero_pow (by omega)]
  simp
theorem zv_mul {p x y : Nat} (hp : p ∈ zpl) (hx : x < p) (hy : y < p) (h0 : y ≠ 0) : zv p x y * y % p = x := by
  have h := zpl_inv p hp y hy h0
  unfold zv
  rw [Nat.mod_mul_mod, Nat.mul_assoc, Nat.mul_comm (y ^ (p - 2) % p) y, ← Nat.mul_mod_mod, h, Nat.mul_one, Nat.mod_eq_of_lt hx]
theorem zv_one {p x y v : Nat} (hp : p ∈ zpl) (hy : y < p) (h0 : y ≠ 0) (hv : v < p) (h : v * y % p = x) : v = zv p x y := by
  have hi := zpl_inv p hp y hy h0
  unfold zv
  rw [← h, Nat.mod_mul_mod, Nat.mul_assoc, ← Nat.mul_mod_mod, hi, Nat.mul_one, Nat.mod_eq_of_lt hv]
theorem n_p2 {p a b : Nat} (ha : a < p) (hb : b < p) (hp : p < 128) : a * b < 16384 := by
  have := Nat.mul_lt_mul'' ha hb
  have h2 : p * p ≤ 127 * 127 := Nat.mul_le_mul (by omega) (by omega)
  omega
section Z2
variable {X : a_X} {ad : Nat → Nat} {ca : Nat → ClassId} {d x : Nat} {M : a_M}
theorem kX12_over (hd : 1 ≤ d) {p a b : Nat} (hP : M 119 2 = nI p) (hp : p ∈ zpl) (ha : a < p) (hb : b < p) : mX12_over X ad ca d x [.ref 118, .int (nI a), .int (nI b)] M (q_i (PT x) (fun r M' => M' = M ∧ r = nI (zv p a b))) := by
  obtain ⟨d, rfl⟩ := a_d1 hd
  have hpb := zpl_b p hp
  refine eX12_over _ _ (bX12_over_0 _ _ ⟨fun h => ?_, fun h => ?_⟩)
  · have e : b = 0 := by
      rw [← nI_0] at h
      exact (nI_eq (by omega) (by omega)).mp h
    subst e
    refine bX12_over_26 _ ⟨_, rfl, rfl, rfl, ?_⟩
    rw [zv_0 hp]
    rfl
  · have hb0 : b ≠ 0 := fun e => h (by rw [e]; rfl)
    refine a_loop (σ := Unit) (fun i _ => wX12_over X ad ca d x _ 6 [(0, .ref 118), (1, .int (nI a)), (2, .int (nI b)), (3, .int (nI i))] M) (fun i _ => True) (zv p a b) ?_ ?_ 0 () (Nat.zero_le _) trivial
    · intro _ _
      have hz := zv_lt (x := a) (y := b) (show 0 < p by omega)
      refine bX12_over_6 _ _ _ ⟨by rw [hP]; exact nI_ne0 (by omega) (by omega), fun _ => bX12_over_26 _ ⟨_, rfl, rfl, rfl, rfl⟩, fun h => absurd ?_ h⟩
      have := n_p2 hz hb (by omega)
      rw [hP, n_mul, n_rem (by omega) (by omega) (by omega), zv_mul hp ha hb hb0]
    · intro i _ hi _ ih
      have hz := zv_lt (x := a) (y := b) (show 0 < p by omega)
      have := n_p2 (show i < p by omega) hb (by omega)
      refine bX12_over_6 _ _ _ ⟨by rw [hP]; exact nI_ne0 (by omega) (by omega), fun h => ?_, fun h => ?_⟩
      · exfalso
        rw [hP, n_mul, n_rem (by omega) (by omega) (by omega)] at h
        have hm : i * b % p < p := Nat.mod_lt _ (by omega)
        have h2 := (nI_eq (by omega) (by omega)).mp h
        have := zv_one hp hb hb0 (show i < p by omega) h2
        omega
      · rw [← nI_succ]
        exact ih () trivial
theorem kX11_raised (hd : 1 ≤ d) {p b k : Nat} (hp : 1 < p) (hp2 : p < 128) (hb : b < 2 ^ 30) (hk : k < 2 ^ 30) : mX11_raised X ad ca d x [.int (nI b), .int (nI k), .int (nI p)] M (q_i (PT x) (fun r M' => M' = M ∧ r = nI (b ^ k % p))) := by
  obtain ⟨d, rfl⟩ := a_d1 hd
  have h0 : (0 : Int32) < nI p := by rw [← nI_0]; exact nI_lt (by omega) (by omega)
  refine eX11_raised _ _ _ (bX11_raised_0 _ _ _ ⟨fun _ => ⟨nI_ne0 (by omega) (by omega), ?_⟩, fun h => absurd h0 h⟩)
  rw [n_rem (by omega) (by omega) (by omega)]
  have key : ∀ (n : Nat) (k' s v : Nat), k' < 2 ^ n → k' < 2 ^ 30 → s < p → v < p → v * s ^ k' % p = b ^ k % p → wX11_raised X ad ca d x (q_i (PT x) (fun r M' => M' = M ∧ r = nI (b ^ k % p))) 16 [(2, .int (nI p)), (3, .int (nI v)), (4, .int (nI s)), (5, .int (nI k'))] M := by
    intro n
    induction n with
    | zero =>
      intro k' s v hk' _ hs hv he
      have e : k' = 0 := by simpa using hk'
      subst e
      refine bX11_raised_16 _ _ _ _ ⟨fun _ => ⟨_, rfl, rfl, rfl, ?_⟩, fun h => absurd (show nI 0 ≤ 0 by decide) h⟩
      rw [Nat.pow_zero, Nat.mul_one, Nat.mod_eq_of_lt hv] at he
      rw [he]
    | succ n ih =>
      intro k' s v hk' hk2 hs hv he
      by_cases e : k' = 0
      · subst e
        refine bX11_raised_16 _ _ _ _ ⟨fun _ => ⟨_, rfl, rfl, rfl, ?_⟩, fun h => absurd (show nI 0 ≤ 0 by decide) h⟩
        rw [Nat.pow_zero, Nat.mul_one, Nat.mod_eq_of_lt hv] at he
        rw [he]
      · have hss := n_p2 hs hs hp2
        have hvs := n_p2 hv hs hp2
        have hodd : nI k' &&& 1 = nI (k' % 2) := by
          exact fa_mask k' 1
        have hsh : nI k' >>> ((1 : Int32) &&& 31) = nI (k' / 2) := by
          have := pk_shrN (n := k') (by omega) ((1 : Int32) &&& 31) 1 (by decide)
          simpa using this
        have hss2 : s * s % p < p := Nat.mod_lt _ (by omega)
        have hpow : s ^ k' = (s * s) ^ (k' / 2) * s ^ (k' % 2) := by
          have e2 : k' = 2 * (k' / 2) + k' % 2 := by omega
          have e3 : s ^ k' = s ^ (2 * (k' / 2) + k' % 2) := by rw [← e2]
          rw [e3, Nat.pow_add, Nat.pow_mul, Nat.pow_two]
        refine bX11_raised_16 _ _ _ _ ⟨fun h => absurd h (nI_nle (by omega) (by omega)), fun _ => ⟨fun h => ?_, fun h => ?_⟩⟩
        · rw [hodd] at h
          have h1 : k' % 2 = 0 := by
            rcases Nat.mod_two_eq_zero_or_one k' with q | q
            · exact q
            · rw [q] at h; exact absurd rfl h
          refine bX11_raised_36 _ _ _ _ ⟨nI_ne0 (by omega) (by omega), ?_⟩
          rw [n_mul, n_rem (by omega) (by omega) (by omega), hsh]
          refine ih _ _ _ (by omega) (by omega) hss2 hv ?_
          rw [← he, hpow, h1, Nat.pow_zero, Nat.mul_one, ← Nat.mul_mod_mod v, ← Nat.pow_mod, Nat.mul_mod_mod]
        · rw [hodd] at h
          have h1 : k' % 2 = 1 := (nI_eq (b := 1) (by omega) (by omega)).mp h
          refine ⟨nI_ne0 (by omega) (by omega), bX11_raised_36 _ _ _ _ ⟨nI_ne0 (by omega) (by omega), ?_⟩⟩
          rw [n_mul, n_mul, n_rem (by omega) (by omega) (by omega), n_rem (by omega) (by omega) (by omega), hsh]
          refine ih _ _ _ (by omega) (by omega) hss2 (Nat.mod_lt _ (by omega)) ?_
          rw [← he, hpow, h1, Nat.pow_one, Nat.mod_mul_mod, ← Nat.mul_mod_mod (v * s), ← Nat.pow_mod, Nat.mul_mod_mod]
          congr 1
          rw [Nat.mul_comm ((s * s) ^ (k' / 2)) s, Nat.mul_assoc]
  refine key 30 k (b % p) 1 hk hk (Nat.mod_lt _ (by omega)) hp ?_
  rw [Nat.one_mul, ← Nat.pow_mod]
theorem kX11_over (hd : 2 ≤ d) {p a b : Nat} (hp : p ∈ zpl) (ha : a < 2 ^ 20) (hb : b < p) : mX11_over X ad ca d x [.int (nI a), .int (nI b), .int (nI p)] M (q_i (PT x) (fun r M' => M' = M ∧ r = nI (zv p a b))) := by
  obtain ⟨d, rfl⟩ := a_d1 (show 1 ≤ d by omega)
  have hpb := zpl_b p hp
  have e : nI p - 2 = nI (p - 2) := pk_sub (a := p) (b := 2) (by omega)
  have hc := kX11_raised (X := X) (ad := ad) (ca := ca) (d := d) (x := x) (M := M) (p := p) (b := b) (k := p - 2) (by omega) (by omega) (by omega) (by omega) (by omega)
  rw [← e] at hc
  refine eX11_over _ _ _ (bX11_over_0 _ _ _ ⟨_, hc, ?_⟩)
  · rintro v M1 ⟨rfl, rfl⟩
    have hm : b ^ (p - 2) % p < p := Nat.mod_lt _ (by omega)
    refine ⟨_, kX11_left (by omega) _ (by omega) (by omega), ?_⟩
    rintro v M2 ⟨rfl, rfl⟩
    refine ⟨_, rfl, rfl, rfl, ?_⟩
    have hb2 : a * (b ^ (p - 2) % p) < 2 ^ 31 := by
      have := Nat.mul_lt_mul'' ha (show b ^ (p - 2) % p < 128 by omega)
      omega
    rw [n_mul, nI_toInt hb2, zm_nat]
    rfl
end Z2
