/-! MATHEMATICS 7: the class's sums of powers are the traces -/
theorem hI_c {p w : Nat} {H : Nat → Nat → Nat} (hH : ∀ a c, c + 1 < a → a < w → H a c = 0) {i : Nat} (k : Nat) (hi : i < w) : iC p (hI p H i k) ((H i k : Nat) : Int) := by
  unfold hI
  by_cases c1 : k + 1 < i
  · rw [if_pos c1, hH i k c1 hi]; exact iC.rfl _ _
  · rw [if_neg c1]
    by_cases c2 : i = k + 1
    · rw [if_pos c2]
      by_cases c3 : H i k = 0
      · rw [if_pos c3, c3]; exact ⟨1, by simp⟩
      · rw [if_neg c3]; exact iC.rfl _ _
    · rw [if_neg c2]; exact iC.rfl _ _
theorem hS_c {p w : Nat} {H : Nat → Nat → Nat} (hH : ∀ a c, c + 1 < a → a < w → H a c = 0) {k : Nat} (hk : k < w) : ∀ s, iC p (hS (hI p H) k s) ((zsd H k s : Nat) : Int)
  | 0 => iC.rfl _ _
  | s + 1 => by
    show iC p (hS (hI p H) k s * hI p H (k - s) (k - s - 1)) ((zsd H k s * H (k - s) (k - s - 1) : Nat) : Int)
    rw [Int.natCast_mul]
    exact (hS_c hH hk s).mul (hI_c hH _ (by omega))
theorem hq_c {p w : Nat} (hp : 0 < p) {H : Nat → Nat → Nat} (hH : ∀ a c, c + 1 < a → a < w → H a c = 0) : ∀ K k, k ≤ K → k ≤ w → ∀ z, iC p (hq (hI p H) k z) ((zQ p H k k z : Nat) : Int) := by
  intro K
  have h0 : ∀ z, iC p (hq (hI p H) 0 z) ((zQ p H 0 0 z : Nat) : Int) := fun z => by
    show iC p (if 0 = 0 ∧ z = 0 then 1 else 0) (((if 0 = 0 ∧ z = 0 then 1 else 0 : Nat)) : Int)
    by_cases c : 0 = 0 ∧ z = 0
    · rw [if_pos c, if_pos c]; exact iC.rfl _ _
    · rw [if_neg c, if_neg c]; exact iC.rfl _ _
  induction K with
  | zero =>
    intro k hk _ z
    have e : k = 0 := by omega
    subst e
    exact h0 z
  | succ K ih =>
    intro k hK hk z
    cases k with
    | zero => exact h0 z
    | succ k =>
      have e : zQ p H (k + 1) (k + 1) z = zQr p H (zQ p H k) k z := by
        show va_up (zQ p H k) (k + 1) (zQr p H (zQ p H k) k) (k + 1) z = _
        rw [vu]
      rw [hq_s, e]
      unfold zQr
      refine iC.trans ?_ (iC.zm hp _).symm
      refine iC.sub ?_ ?_
      · unfold zQ0
        by_cases c : z = 0
        · rw [if_pos c, if_pos c]; exact iC.rfl _ _
        · rw [if_neg c, if_neg c]; exact ih k (by omega) (by omega) (z - 1)
      · rw [zis_rev]
        refine iC.sum (fun s hs => ?_)
        have e2 : k + 1 - 1 - s = k - s := by omega
        show iC p (hB (hI p H) (k + 1 - 1 - s) k * hq (hI p H) (k + 1 - 1 - s) z) (zQs H (zQ p H k) k z s)
        rw [e2]
        unfold zQs hB
        rw [if_pos (by omega), show k - (k - s) = s by omega, Int.natCast_mul, Int.natCast_mul, zQ_old p H k (show k - s ≤ k by omega)]
        exact ((hS_c hH (by omega) s).mul (hI_c hH _ (by omega))).mul (ih (k - s) (by omega) (by omega) z)
theorem hI_z (p : Nat) (H : Nat → Nat → Nat) : ∀ i k, k + 1 < i → hI p H i k = 0 := fun i k h => by
  unfold hI
  rw [if_pos h]
theorem hI_g {p : Nat} (hp : 0 < p) (H : Nat → Nat → Nat) : ∀ k, hG (hI p H) k ≠ 0
  | 0 => by show (1 : Int) ≠ 0; omega
  | k + 1 => by
    show hG (hI p H) k * hI p H (k + 1) k ≠ 0
    refine Int.mul_ne_zero (hI_g hp H k) ?_
    unfold hI
    rw [if_neg (by omega), if_pos rfl]
    by_cases c : H (k + 1) k = 0
    · rw [if_pos c]; omega
    · rw [if_neg c]; omega
/-- the trace of a power, out of the polynomial's whole numbers -/
theorem hTr_tr {p w : Nat} {A : Nat → Nat → Nat} (hp : p ∈ zpl) (hw : 1 ≤ w) (hA : ∀ a b, a < w → b < w → A a b < p) (j : Nat) : iC p (hTr w (hq (hI p (zbn p w A)) w) j) (iT w (iP w (iN A) j)) := by
  have hp0 : 0 < p := by have := zpl_b p hp; omega
  have hH := zbn_hess hp hA
  have e1 : hTr w (hq (hI p (zbn p w A)) w) j = iT w (iP w (hC w (hq (hI p (zbn p w A)) w)) j) := by
    unfold hTr iT
    exact zis_cong (fun k hk => (hr_pow hw j k k hk hk).symm)
  rw [e1, hC_tr hw, ← hB_tr (hI_z p _) (fun k _ => hI_g hp0 _ k)]
  refine iC.trans ?_ (iT_zbn (A := A) hp0 j)
  exact iCM.tr (fun i k hi _ => hI_c hH k hi) j
/-- Newton's sums, solved for the latest -/
theorem hN_rec {w : Nat} {c : Nat → Int} (hw : 1 ≤ w) (hc : c w = 1) (k : Nat) : hTr w c (k + 1) = -((if k + 1 ≤ w then ((k + 1 : Nat) : Int) * c (w - (k + 1)) else 0) + zis (fun i => c (w - (i + 1)) * hTr w c (k - i)) (min k w)) := by
  by_cases h : k + 1 ≤ w
  · rw [if_pos h, Nat.min_eq_left (by omega)]
    have h1 := hN1 hw hc h
    have e1 : zis (fun s => c (w - (k + 1) + s) * hTr w c s) (k + 1 + 1) = zis (fun s => c (w - (k + 1) + s) * hTr w c s) (k + 1) + c (w - (k + 1) + (k + 1)) * hTr w c (k + 1) := rfl
    rw [e1, zis_head, show w - (k + 1) + (k + 1) = w by omega, hc, Int.one_mul, hTr_0, zis_rev] at h1
    have e2 : zis (fun i => c (w - (k + 1) + (k - 1 - i + 1)) * hTr w c (k - 1 - i + 1)) k = zis (fun i => c (w - (i + 1)) * hTr w c (k - i)) k := zis_cong (fun i hi => by
      rw [show w - (k + 1) + (k - 1 - i + 1) = w - (i + 1) by omega, show k - 1 - i + 1 = k - i by omega])
    have e3 : ((w - (k + 1) : Nat) : Int) = (w : Int) - ((k + 1 : Nat) : Int) := by omega
    rw [e2, e3, Int.sub_mul, Nat.add_zero, Int.mul_comm (c (w - (k + 1))) (w : Int)] at h1
    omega
  · rw [if_neg h, Nat.min_eq_right (by omega)]
    have h1 := hN2 hw hc (k + 1 - w)
    have e1 : zis (fun z => c z * hTr w c (k + 1 - w + z)) (w + 1) = zis (fun z => c z * hTr w c (k + 1 - w + z)) w + c w * hTr w c (k + 1 - w + w) := rfl
    rw [e1, show k + 1 - w + w = k + 1 by omega, hc, Int.one_mul, zis_rev] at h1
    have e2 : zis (fun i => c (w - 1 - i) * hTr w c (k + 1 - w + (w - 1 - i))) w = zis (fun i => c (w - (i + 1)) * hTr w c (k - i)) w := zis_cong (fun i hi => by
      rw [show k + 1 - w + (w - 1 - i) = k - i by omega, show w - 1 - i = w - (i + 1) by omega])
    rw [e2] at h1
    omega
theorem zs_int (f : Nat → Nat) : ∀ n, ((zs f n : Nat) : Int) = zis (fun k => (f k : Int)) n
  | 0 => rfl
  | n + 1 => by
    show ((zs f n + f n : Nat) : Int) = zis (fun k => (f k : Int)) n + (f n : Int)
    rw [← zs_int f n]
    omega
theorem hq_P {p w : Nat} {A : Nat → Nat → Nat} (hp : p ∈ zpl) (hA : ∀ a b, a < w → b < w → A a b < p) (z : Nat) : iC p (hq (hI p (zbn p w A)) w z) ((zP p w A z : Nat) : Int) :=
  hq_c (by have := zpl_b p hp; omega) (zbn_hess hp hA) w w (Nat.le_refl _) (Nat.le_refl _) z
theorem zNw_c {p w : Nat} {A : Nat → Nat → Nat} (hp : p ∈ zpl) (hw : 1 ≤ w) (hA : ∀ a b, a < w → b < w → A a b < p) : ∀ K k, k ≤ K → iC p ((zNw p w (zP p w A) k k : Nat) : Int) (hTr w (hq (hI p (zbn p w A)) w) k) := by
  have hp0 : 0 < p := by have := zpl_b p hp; omega
  have h0 : iC p ((zNw p w (zP p w A) 0 0 : Nat) : Int) (hTr w (hq (hI p (zbn p w A)) w) 0) := by
    have e : zNw p w (zP p w A) 0 0 = w % p := by
      show va_up (fun _ => 0) 0 (w % p) 0 = _
      rw [vu]
    rw [e, hTr_0]
    exact iC.md hp0 w
  intro K
  induction K with
  | zero =>
    intro k hk
    have e : k = 0 := by omega
    subst e
    exact h0
  | succ K ih =>
    intro k hk
    cases k with
    | zero => exact h0
    | succ k =>
      have e : zNw p w (zP p w A) (k + 1) (k + 1) = zm (-(((if k + 1 ≤ w then (k + 1) * zP p w A (w - (k + 1)) else 0) + zs (fun i => zP p w A (w - (i + 1)) * zNw p w (zP p w A) k (k - i)) (min k w) : Nat) : Int)) p := by
        show va_up (zNw p w (zP p w A) k) (k + 1) _ (k + 1) = _
        rw [vu]
      rw [e, hN_rec hw (hq_top _ w) k]
      refine iC.trans (iC.zm hp0 _) (iC.neg ?_)
      rw [Int.natCast_add, zs_int]
      refine iC.add ?_ (iC.sum (fun i hi => ?_))
      · by_cases c : k + 1 ≤ w
        · rw [if_pos c, if_pos c, Int.natCast_mul]
          exact (iC.rfl _ _).mul (hq_P hp hA _).symm
        · rw [if_neg c, if_neg c]; exact iC.rfl _ _
      · have hik : i < k := by omega
        show iC p ((zP p w A (w - (i + 1)) * zNw p w (zP p w A) k (k - i) : Nat) : Int) _
        rw [Int.natCast_mul, zNw_old p w _ k (show k - i ≤ k by omega)]
        exact (hq_P hp hA _).symm.mul (ih (k - i) (by omega))
/-- the sums of powers are the traces -/
theorem zNw_tr {p w : Nat} {A : Nat → Nat → Nat} (hp : p ∈ zpl) (hw : 1 ≤ w) (hA : ∀ a b, a < w → b < w → A a b < p) (j : Nat) : iC p ((zNw p w (zP p w A) j j : Nat) : Int) (iT w (iP w (iN A) j)) :=
  (zNw_c hp hw hA j j (Nat.le_refl _)).trans (hTr_tr hp hw hA j)
theorem zP_top {p w : Nat} {A : Nat → Nat → Nat} (hp : p ∈ zpl) (hA : ∀ a b, a < w → b < w → A a b < p) : zP p w A w = 1 := by
  have hpb := zpl_b p hp
  have h := (hq_P hp hA w).symm
  rw [hq_top] at h
  exact iC.nat (zQ_lt (by omega) w w w) (by omega) h
theorem iC.cancel {p k : Nat} {a b : Int} (hp : p ∈ zpl) (hk : 1 ≤ k) (hkp : k < p) (h : iC p ((k : Int) * a) ((k : Int) * b)) : iC p a b := by
  have hpb := zpl_b p hp
  have hi := zpl_inv p hp k hkp (by omega)
  have h1 : iC p (((k ^ (p - 2) % p : Nat) : Int) * (k : Int)) 1 := by
    have h2 := (iC.md (p := p) (by omega) (k * (k ^ (p - 2) % p))).symm
    rw [hi, Int.natCast_mul, Int.mul_comm] at h2
    exact h2
  have h3 := (iC.rfl p ((k ^ (p - 2) % p : Nat) : Int)).mul h
  rw [← Int.mul_assoc, ← Int.mul_assoc] at h3
  have h4 := h1.mul (iC.rfl p a)
  have h5 := h1.mul (iC.rfl p b)
  rw [Int.one_mul] at h4 h5
  exact (h4.symm.trans h3).trans h5
/-- squares whose powers have the same traces have the same polynomial, if they are small -/
theorem zP_of_tr {p w : Nat} {A B : Nat → Nat → Nat} (hp : p ∈ zpl) (hwp : w < p) (hA : ∀ a b, a < w → b < w → A a b < p) (hB : ∀ a b, a < w → b < w → B a b < p) (ht : ∀ j, iC p (iT w (iP w (iN A) j)) (iT w (iP w (iN B) j))) : ∀ z, z ≤ w → zP p w A z = zP p w B z := by
  have hpb := zpl_b p hp
  by_cases hw : w = 0
  · subst hw
    intro z hz
    have e : z = 0 := by omega
    subst e
    rfl
  have hw1 : 1 ≤ w := by omega
  have key : ∀ K k, k ≤ K → k ≤ w → zP p w A (w - k) = zP p w B (w - k) := by
    intro K
    induction K with
    | zero =>
      intro k hk _
      have e : k = 0 := by omega
      subst e
      rw [Nat.sub_zero, zP_top hp hA, zP_top hp hB]
    | succ K ih =>
      intro k hK hk
      cases k with
      | zero => rw [Nat.sub_zero, zP_top hp hA, zP_top hp hB]
      | succ k =>
        have hT : ∀ j, iC p (hTr w (hq (hI p (zbn p w A)) w) j) (hTr w (hq (hI p (zbn p w B)) w) j) := fun j => ((hTr_tr hp hw1 hA j).trans (ht j)).trans (hTr_tr hp hw1 hB j).symm
        have hc : ∀ i, i < k → iC p (hq (hI p (zbn p w A)) w (w - (i + 1))) (hq (hI p (zbn p w B)) w (w - (i + 1))) := fun i hi => by
          refine (hq_P hp hA _).trans ?_
          rw [ih (i + 1) (by omega) (by omega)]
          exact (hq_P hp hB _).symm
        have hS := iC.sum (n := min k w) (fun i hi => (hc i (by omega)).mul (hT (k - i)))
        have eA := hN_rec hw1 (hq_top (hI p (zbn p w A)) w) k
        have eB := hN_rec hw1 (hq_top (hI p (zbn p w B)) w) k
        rw [if_pos hk] at eA eB
        have h1 : iC p (((k + 1 : Nat) : Int) * hq (hI p (zbn p w A)) w (w - (k + 1))) (((k + 1 : Nat) : Int) * hq (hI p (zbn p w B)) w (w - (k + 1))) := by
          have h2 := ((hT (k + 1)).neg).sub hS
          have q1 : ((k + 1 : Nat) : Int) * hq (hI p (zbn p w A)) w (w - (k + 1)) = - hTr w (hq (hI p (zbn p w A)) w) (k + 1) - zis (fun i => hq (hI p (zbn p w A)) w (w - (i + 1)) * hTr w (hq (hI p (zbn p w A)) w) (k - i)) (min k w) := by omega
          have q2 : ((k + 1 : Nat) : Int) * hq (hI p (zbn p w B)) w (w - (k + 1)) = - hTr w (hq (hI p (zbn p w B)) w) (k + 1) - zis (fun i => hq (hI p (zbn p w B)) w (w - (i + 1)) * hTr w (hq (hI p (zbn p w B)) w) (k - i)) (min k w) := by omega
          rw [q1, q2]
          exact h2
        have h3 := iC.cancel hp (by omega) (by omega) h1
        exact iC.nat (zQ_lt (by omega) w w _) (zQ_lt (by omega) w w _) (((hq_P hp hA _).symm.trans h3).trans (hq_P hp hB _))
  intro z hz
  have h := key (w - z) (w - z) (Nat.le_refl _) (by omega)
  rw [show w - (w - z) = z by omega] at h
  exact h
