/-! MATHEMATICS 6: Newton's sums of the polynomial of a square -/
/-- steps below the diagonal, none of them 0 -/
def hI (p : Nat) (H : Nat → Nat → Nat) : iMt := fun i k => if k + 1 < i then 0 else if i = k + 1 then (if H i k = 0 then (p : Int) else (H i k : Int)) else (H i k : Int)
def hG (h : iMt) : Nat → Int
  | 0 => 1
  | k + 1 => hG h k * h (k + 1) k
def hS (h : iMt) (k : Nat) : Nat → Int
  | 0 => 1
  | s + 1 => hS h k s * h (k - s) (k - s - 1)
/-- the same square over the basis of its polynomials -/
def hB (h : iMt) : iMt := fun i k => if i ≤ k then hS h k (k - i) * h i k else if i = k + 1 then 1 else 0
def hT (h : iMt) : Nat → Nat → Nat → Int
  | 0 => fun k z => if k = 0 ∧ z = 0 then 1 else 0
  | k + 1 => va_up (hT h k) (k + 1) (fun z => (if z = 0 then 0 else hT h k k (z - 1)) - zis (fun i => hB h i k * hT h k i z) (k + 1))
def hq (h : iMt) (k z : Nat) : Int := hT h k k z
theorem hT_old (h : iMt) {i : Nat} : ∀ k, i ≤ k → hT h k i = hT h i i := by
  intro k hk
  induction k with
  | zero => rw [show i = 0 by omega]
  | succ k ih =>
    by_cases e : i = k + 1
    · rw [e]
    · show va_up _ (k + 1) _ i = _
      rw [vn _ _ _ _ e, ih (by omega)]
theorem hq_s (h : iMt) (k z : Nat) : hq h (k + 1) z = (if z = 0 then 0 else hq h k (z - 1)) - zis (fun i => hB h i k * hq h i z) (k + 1) := by
  show va_up (hT h k) (k + 1) _ (k + 1) z = _
  rw [vu]
  congr 1
  exact zis_cong (fun i hi => by rw [hT_old h k (show i ≤ k by omega)]; rfl)
theorem hq_deg (h : iMt) : ∀ k z, k < z → hq h k z = 0 := by
  intro k
  induction k using Nat.strongRecOn with
  | _ k ih =>
    intro z hz
    cases k with
    | zero => show (if 0 = 0 ∧ z = 0 then (1 : Int) else 0) = 0; rw [if_neg (by omega)]
    | succ k =>
      rw [hq_s, if_neg (by omega), ih k (by omega) (z - 1) (by omega), zis_0 (fun i hi => by rw [ih i (by omega) z (by omega), Int.mul_zero])]
      rfl
theorem hq_top (h : iMt) : ∀ k, hq h k k = 1
  | 0 => rfl
  | k + 1 => by
    rw [hq_s, if_neg (by omega), show k + 1 - 1 = k by omega, hq_top h k, zis_0 (fun i hi => by rw [hq_deg h i (k + 1) (by omega), Int.mul_zero])]
    rfl
theorem hS_G (h : iMt) (k : Nat) : ∀ s, s ≤ k → hS h k s * hG h (k - s) = hG h k
  | 0, _ => by show 1 * hG h k = hG h k; rw [Int.one_mul]
  | s + 1, hs => by
    show hS h k s * h (k - s) (k - s - 1) * hG h (k - (s + 1)) = hG h k
    rw [← hS_G h k s (by omega)]
    obtain ⟨y, hy⟩ : ∃ y, k - s = y + 1 := ⟨k - s - 1, by omega⟩
    rw [show k - (s + 1) = y by omega, hy, show y + 1 - 1 = y by omega]
    show _ = hS h k s * (hG h y * h (y + 1) y)
    rw [Int.mul_assoc, Int.mul_comm (h (y + 1) y)]
theorem hB_sim {h : iMt} (hz : ∀ i k, k + 1 < i → h i k = 0) (i k : Nat) : h i k * hG h k = hG h i * hB h i k := by
  unfold hB
  by_cases c : i ≤ k
  · rw [if_pos c, ← hS_G h k (k - i) (by omega), show k - (k - i) = i by omega]
    rw [Int.mul_comm (hS h k (k - i)), Int.mul_left_comm, Int.mul_comm (h i k)]
  · rw [if_neg c]
    by_cases c2 : i = k + 1
    · rw [if_pos c2, Int.mul_one, c2]
      show _ = hG h k * h (k + 1) k
      rw [Int.mul_comm]
    · rw [if_neg c2, hz i k (by omega), Int.zero_mul, Int.mul_zero]
theorem hB_pow {h : iMt} {n : Nat} (hz : ∀ i k, k + 1 < i → h i k = 0) : ∀ j i k, iP n h j i k * hG h k = hG h i * iP n (hB h) j i k
  | 0, i, k => by
    show (if i = k then (1 : Int) else 0) * _ = _ * (if i = k then (1 : Int) else 0)
    by_cases c : i = k
    · rw [if_pos c, c, Int.one_mul, Int.mul_one]
    · rw [if_neg c, Int.zero_mul, Int.mul_zero]
  | j + 1, i, k => by
    show zis (fun z => h i z * iP n h j z k) n * hG h k = hG h i * zis (fun z => hB h i z * iP n (hB h) j z k) n
    rw [← zis_mulr, ← zis_mul]
    refine zis_cong (fun z _ => ?_)
    rw [Int.mul_assoc, hB_pow hz j z k, ← Int.mul_assoc, hB_sim hz i z, Int.mul_assoc]
theorem hB_tr {h : iMt} {n : Nat} (hz : ∀ i k, k + 1 < i → h i k = 0) (hg : ∀ k, k < n → hG h k ≠ 0) (j : Nat) : iT n (iP n h j) = iT n (iP n (hB h) j) := zis_cong (fun k hk => by
  have := hB_pow (n := n) hz j k k
  rw [Int.mul_comm] at this
  exact Int.eq_of_mul_eq_mul_left (hg k hk) this)
/-- the companion of a polynomial c of degree w -/
def hC (w : Nat) (c : Nat → Int) : iMt := fun i k => if k + 1 < w then (if i = k + 1 then 1 else 0) else - c i
theorem hC_mul {w : Nat} {c : Nat → Int} (hw : 1 ≤ w) (f : Nat → Int) {i : Nat} (hi : i < w) : zis (fun z => hC w c i z * f z) w = (if i = 0 then 0 else f (i - 1)) - c i * f (w - 1) := by
  obtain ⟨v, rfl⟩ : ∃ v, w = v + 1 := ⟨w - 1, by omega⟩
  show zis (fun z => hC (v + 1) c i z * f z) v + hC (v + 1) c i v * f v = _
  have e1 : hC (v + 1) c i v = - c i := by unfold hC; rw [if_neg (by omega)]
  have e2 : ∀ z, z < v → hC (v + 1) c i z = if i = z + 1 then 1 else 0 := fun z hz => by unfold hC; rw [if_pos (by omega)]
  rw [e1, show v + 1 - 1 = v by omega, Int.neg_mul]
  have e3 : zis (fun z => hC (v + 1) c i z * f z) v = if i = 0 then 0 else f (i - 1) := by
    rw [zis_cong (g := fun z => (if i = z + 1 then 1 else 0) * f z) (fun z hz => by rw [e2 z hz])]
    by_cases c0 : i = 0
    · rw [if_pos c0]
      exact zis_0 (fun z _ => by rw [if_neg (by omega), Int.zero_mul])
    · rw [if_neg c0, zis_one (k := i - 1) (by omega) (fun z _ hz => by rw [if_neg (by omega), Int.zero_mul]), if_pos (by omega), Int.one_mul]
  rw [e3]
  omega
theorem hC_sim {h : iMt} {w : Nat} (hw : 1 ≤ w) : iQ w (iM w (hC w (hq h w)) (fun i k => hq h k i)) (iM w (fun i k => hq h k i) (hB h)) := fun i k hi hk => by
  show zis (fun z => hC w (hq h w) i z * hq h k z) w = zis (fun z => hq h z i * hB h z k) w
  rw [hC_mul hw _ hi]
  have hs := hq_s h k i
  have e0 : ∀ m, zis (fun z => hq h z i * hB h z k) m = zis (fun z => hB h z k * hq h z i) m := fun m => zis_cong (fun z _ => Int.mul_comm _ _)
  rw [e0]
  by_cases c : k + 1 < w
  · rw [hq_deg h k (w - 1) (by omega), Int.mul_zero, Int.sub_zero]
    -- the sum ends at k + 1
    have e1 : ∀ d, zis (fun z => hB h z k * hq h z i) (k + 2 + d) = zis (fun z => hB h z k * hq h z i) (k + 2) := by
      intro d
      induction d with
      | zero => rfl
      | succ d ih =>
        show zis (fun z => hB h z k * hq h z i) (k + 2 + d) + hB h (k + 2 + d) k * hq h (k + 2 + d) i = _
        have : hB h (k + 2 + d) k = 0 := by unfold hB; rw [if_neg (by omega), if_neg (by omega)]
        rw [ih, this, Int.zero_mul, Int.add_zero]
    have e2 := e1 (w - (k + 2))
    rw [show k + 2 + (w - (k + 2)) = w by omega] at e2
    rw [e2]
    show _ = zis (fun z => hB h z k * hq h z i) (k + 1) + hB h (k + 1) k * hq h (k + 1) i
    have e3 : hB h (k + 1) k = 1 := by unfold hB; rw [if_neg (by omega), if_pos rfl]
    rw [e3, Int.one_mul, hs]
    omega
  · have hkw : w = k + 1 := by omega
    subst hkw
    rw [show k + 1 - 1 = k by omega, hq_top, Int.mul_one, hs]
    omega
theorem hC_tr {h : iMt} {w : Nat} (hw : 1 ≤ w) (j : Nat) : iT w (iP w (hC w (hq h w)) j) = iT w (iP w (hB h) j) := by
  have hu : iUt w (fun i k => hq h k i) := ⟨fun k _ => hq_top h k, fun i k _ hk => hq_deg h k i hk⟩
  obtain ⟨V, h1, h2⟩ := iUt_inv2 hu
  exact iT_sim (hC_sim hw) h1 h2 j
/-- the powers of the companion, column by column -/
def hr (w : Nat) (c : Nat → Int) : Nat → Nat → Int
  | 0, i => if i = 0 then 1 else 0
  | m + 1, i => (if i = 0 then 0 else hr w c m (i - 1)) - c i * hr w c m (w - 1)
theorem hr_unit {w : Nat} {c : Nat → Int} : ∀ m, m < w → ∀ i, i < w → hr w c m i = if i = m then 1 else 0
  | 0, _, i, _ => rfl
  | m + 1, hm, i, hi => by
    show (if i = 0 then 0 else hr w c m (i - 1)) - c i * hr w c m (w - 1) = _
    rw [hr_unit m (by omega) (w - 1) (by omega), if_neg (show ¬ w - 1 = m by omega), Int.mul_zero, Int.sub_zero]
    by_cases c0 : i = 0
    · rw [if_pos c0, if_neg (by omega)]
    · rw [if_neg c0, hr_unit m (by omega) (i - 1) (by omega)]
      by_cases c1 : i = m + 1
      · rw [if_pos c1, if_pos (by omega)]
      · rw [if_neg c1, if_neg (by omega)]
theorem hr_pow {w : Nat} {c : Nat → Int} (hw : 1 ≤ w) : ∀ j i k, i < w → k < w → iP w (hC w c) j i k = hr w c (j + k) i
  | 0, i, k, hi, hk => by
    rw [Nat.zero_add, hr_unit k hk i hi]
    rfl
  | j + 1, i, k, hi, hk => by
    show zis (fun z => hC w c i z * iP w (hC w c) j z k) w = _
    rw [zis_cong (g := fun z => hC w c i z * hr w c (j + k) z) (fun z hz => by rw [hr_pow hw j z k hz hk]), hC_mul hw _ hi, show j + 1 + k = (j + k) + 1 by omega]
    rfl
theorem hr_rec {w : Nat} {c : Nat → Int} (hw : 1 ≤ w) (hc : c w = 1) : ∀ m i, i < w → zis (fun z => c z * hr w c (m + z) i) (w + 1) = 0
  | 0, i, hi => by
    show zis (fun z => c z * hr w c (0 + z) i) w + c w * hr w c (0 + w) i = 0
    have e1 : zis (fun z => c z * hr w c (0 + z) i) w = c i := by
      rw [zis_cong (g := fun z => c z * (if i = z then 1 else 0)) (fun z hz => by rw [Nat.zero_add, hr_unit z hz i hi]), zis_one hi (fun z _ hz => by rw [if_neg (Ne.symm hz), Int.mul_zero]), if_pos rfl, Int.mul_one]
    have e2 : hr w c (0 + w) i = - c i := by
      obtain ⟨v, rfl⟩ : ∃ v, w = v + 1 := ⟨w - 1, by omega⟩
      rw [Nat.zero_add]
      show (if i = 0 then 0 else hr (v + 1) c v (i - 1)) - c i * hr (v + 1) c v (v + 1 - 1) = _
      rw [hr_unit v (by omega) (v + 1 - 1) (by omega), if_pos (show v + 1 - 1 = v by omega), Int.mul_one]
      by_cases c0 : i = 0
      · rw [if_pos c0]; omega
      · rw [if_neg c0, hr_unit v (by omega) (i - 1) (by omega), if_neg (by omega)]; omega
    rw [e1, e2, hc]; omega
  | m + 1, i, hi => by
    have ih := hr_rec (c := c) hw hc m
    have e1 : zis (fun z => c z * hr w c (m + 1 + z) i) (w + 1) = zis (fun z => (if i = 0 then 0 else c z * hr w c (m + z) (i - 1)) + (- c i) * (c z * hr w c (m + z) (w - 1))) (w + 1) := zis_cong (fun z _ => by
      rw [show m + 1 + z = (m + z) + 1 by omega]
      show c z * ((if i = 0 then 0 else hr w c (m + z) (i - 1)) - c i * hr w c (m + z) (w - 1)) = _
      rw [Int.mul_sub, Int.neg_mul, Int.mul_left_comm (c z) (c i), Int.sub_eq_add_neg]
      congr 1
      by_cases c0 : i = 0
      · rw [if_pos c0, if_pos c0, Int.mul_zero]
      · rw [if_neg c0, if_neg c0])
    rw [e1, zis_add, zis_mul, ih (w - 1) (by omega), Int.mul_zero, Int.add_zero]
    by_cases c0 : i = 0
    · exact zis_0 (fun z _ => by rw [if_pos c0])
    · rw [zis_cong (g := fun z => c z * hr w c (m + z) (i - 1)) (fun z _ => by rw [if_neg c0])]
      exact ih (i - 1) (by omega)
def hTr (w : Nat) (c : Nat → Int) (j : Nat) : Int := zis (fun k => hr w c (j + k) k) w
theorem hTr_0 {w : Nat} {c : Nat → Int} : hTr w c 0 = (w : Int) := by
  unfold hTr
  rw [zis_cong (g := fun _ => (1 : Int)) (fun k hk => by rw [Nat.zero_add, hr_unit k hk k hk, if_pos rfl]), zis_const, Int.mul_one]
/-- Newton, up to the degree -/
theorem hN1 {w : Nat} {c : Nat → Int} (hw : 1 ≤ w) (hc : c w = 1) {k : Nat} (hk : k ≤ w) : zis (fun s => c (w - k + s) * hTr w c s) (k + 1) = ((w - k : Nat) : Int) * c (w - k) := by
  have e1 : zis (fun s => c (w - k + s) * hTr w c s) (k + 1) = zis (fun κ => zis (fun s => c (w - k + s) * hr w c (s + κ) κ) (k + 1)) w := by
    rw [← zis_swap (fun s κ => c (w - k + s) * hr w c (s + κ) κ)]
    exact zis_cong (fun s _ => by unfold hTr; rw [zis_mul])
  have e2 : ∀ κ, κ < w → zis (fun s => c (w - k + s) * hr w c (s + κ) κ) (k + 1) = if κ < w - k then c (w - k) else 0 := by
    intro κ hκ
    by_cases c0 : κ < w - k
    · rw [if_pos c0, zis_one (k := 0) (by omega) (fun s hs hne => by rw [hr_unit (s + κ) (by omega) κ hκ, if_neg (by omega), Int.mul_zero]), hr_unit (0 + κ) (by omega) κ hκ, if_pos (by omega), Int.mul_one, Nat.add_zero]
    · rw [if_neg c0]
      have hr0 := hr_rec (c := c) hw hc (κ - (w - k)) κ hκ
      -- split at w - k
      have sp : ∀ (f : Nat → Int) a b, zis f (a + b) = zis f a + zis (fun s => f (a + s)) b := by
        intro f a b
        induction b with
        | zero => show zis f a = zis f a + 0; omega
        | succ b ih =>
          show zis f (a + b) + f (a + b) = zis f a + (zis (fun s => f (a + s)) b + f (a + b))
          rw [ih]; omega
      have e3 := sp (fun z => c z * hr w c (κ - (w - k) + z) κ) (w - k) (k + 1)
      rw [show w - k + (k + 1) = w + 1 by omega, hr0, zis_0 (fun z hz => by rw [hr_unit (κ - (w - k) + z) (by omega) κ hκ, if_neg (by omega), Int.mul_zero]), Int.zero_add] at e3
      rw [e3]
      exact zis_cong (fun s _ => by rw [show κ - (w - k) + (w - k + s) = s + κ by omega])
  rw [e1, zis_cong e2]
  have e3 : ∀ a b, a ≤ b → zis (fun κ => if κ < a then c (w - k) else 0) b = (a : Int) * c (w - k) := by
    intro a b hab
    induction b with
    | zero => rw [show a = 0 by omega]; show (0 : Int) = 0 * _; rw [Int.zero_mul]
    | succ b ih =>
      show zis (fun κ => if κ < a then c (w - k) else 0) b + (if b < a then c (w - k) else 0) = _
      by_cases c0 : a ≤ b
      · rw [ih c0, if_neg (by omega), Int.add_zero]
      · rw [if_pos (by omega), zis_cong (g := fun _ => c (w - k)) (fun κ hκ => by rw [if_pos (by omega)]), zis_const, show a = b + 1 by omega, Int.natCast_add, Int.add_mul]
        show _ = _ + 1 * _
        rw [Int.one_mul]
  rw [e3 _ _ (by omega)]
theorem hN2 {w : Nat} {c : Nat → Int} (hw : 1 ≤ w) (hc : c w = 1) (m : Nat) : zis (fun z => c z * hTr w c (m + z)) (w + 1) = 0 := by
  have e1 : zis (fun z => c z * hTr w c (m + z)) (w + 1) = zis (fun κ => zis (fun z => c z * hr w c (m + κ + z) κ) (w + 1)) w := by
    rw [← zis_swap (fun z κ => c z * hr w c (m + κ + z) κ)]
    refine zis_cong (fun z _ => ?_)
    unfold hTr
    rw [← zis_mul]
    exact zis_cong (fun κ _ => by rw [show m + z + κ = m + κ + z by omega])
  rw [e1]
  exact zis_0 (fun κ hκ => hr_rec hw hc (m + κ) κ hκ)
