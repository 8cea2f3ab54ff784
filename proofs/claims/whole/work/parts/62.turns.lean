/-! MATHEMATICS 8: traces in a sector; the reference's squares and the class's have one polynomial -/
theorem iP_r (n : Nat) (A : iMt) (j : Nat) : iQ n (iP n A (j + 1)) (iM n (iP n A j) A) := (iP_sim (n := n) (F := A) (G := A) (U := A) (fun _ _ _ _ => rfl) j).symm
theorem zit_sec {p n b e m : Nat} (hp : 0 < p) (hn : n < 8) (hn2 : 2 ≤ n) (hb : b ≤ n) {a : Nat} (ha : a < 2 ^ n) (hc : zc a = m) : ∀ j y, y < 2 ^ n → zc y ≠ m → zit (zS p n b e) j (zu a) y = 0
  | 0, y, hy, h => by
    show zu a y = 0
    unfold zu
    rw [if_neg (fun q => h (by rw [q, hc]))]
  | j + 1, y, hy, h => by
    show zS p n b e (zit (zS p n b e) j (zu a)) y = 0
    rw [zS_lin, zs_zero, Nat.zero_mod]
    intro z hz
    by_cases c : zc z = m
    · rw [zSg_c hn hn2 hb hz (by omega), Nat.mul_zero]
    · rw [zit_sec hp hn hn2 hb ha hc j z hz c, Nat.zero_mul]
theorem zit_P {p n r e m : Nat} (hp : 0 < p) (hn : n < 8) (hn2 : 2 ≤ n) : ∀ j i k, i < (zsec n m).length → k < (zsec n m).length → iC p (iP (zsec n m).length (iN (zSA p n r e m none)) j i k) ((zit (zS p n (zbd n r) e) j (zu ((zsec n m).getD i 0)) ((zsec n m).getD k 0) : Nat) : Int)
  | 0, i, k, hi, hk => by
    show iC p (if i = k then (1 : Int) else 0) ((zu ((zsec n m).getD i 0) ((zsec n m).getD k 0) : Nat) : Int)
    obtain ⟨a, ga, ea, -, -⟩ := zsec_get hi
    obtain ⟨b, gb, eb, -, -⟩ := zsec_get hk
    rw [ea, eb]
    unfold zu
    by_cases c : i = k
    · subst c
      rw [ga] at gb
      cases gb
      rw [if_pos rfl, if_pos rfl]; exact iC.rfl _ _
    · rw [if_neg c, if_neg]
      · exact iC.rfl _ _
      · intro q
        subst q
        have h1 := (zfl_mem ga).2.2
        have h2 := (zfl_mem gb).2.2
        omega
  | j + 1, i, k, hi, hk => by
    rw [iP_r _ _ j i k hi hk]
    obtain ⟨a, ga, ea, hal, hac⟩ := zsec_get hi
    obtain ⟨b, gb, eb, hbl, hbc⟩ := zsec_get hk
    have hbd : zbd n r ≤ n := by unfold zbd; split <;> omega
    show iC p (zis (fun z => iP (zsec n m).length (iN (zSA p n r e m none)) j i z * iN (zSA p n r e m none) z k) (zsec n m).length) ((zS p n (zbd n r) e (zit (zS p n (zbd n r) e) j (zu ((zsec n m).getD i 0))) ((zsec n m).getD k 0) : Nat) : Int)
    rw [zS_lin, zs_sec (m := m) (fun z hz hzc => by rw [ea, zit_sec hp hn hn2 hbd hal hac j z hz hzc, Nat.zero_mul])]
    refine iC.trans ?_ (iC.md hp _).symm
    rw [zs_int]
    refine iC.sum (fun z hz => ?_)
    show iC p _ ((zit (zS p n (zbd n r) e) j (zu ((zsec n m).getD i 0)) ((zsec n m).getD z 0) * zSg n (zbd n r) e ((zsec n m).getD z 0) ((zsec n m).getD k 0) : Nat) : Int)
    rw [Int.natCast_mul]
    refine (zit_P hp hn hn2 j i z hi hz).mul ?_
    show iC p ((zSA p n r e m none z k : Nat) : Int) _
    rw [zSA_sec hn hn2 hz hk]
    exact iC.md hp _
theorem zsec_pos : ∀ n, n < 8 → ∀ m, m ≤ n → 1 ≤ (zsec n m).length := by decide +kernel
theorem zSA_lt {p n r e m : Nat} {τ : Option Nat} (hp : 0 < p) (i j : Nat) : zSA p n r e m τ i j < p := Nat.mod_lt _ hp
/-- the class's trace is the reference's -/
theorem zNw_Tr {p n r e m : Nat} (hp : p ∈ zpl) (hn : n < 8) (hn2 : 2 ≤ n) (hm : m ≤ n) (j : Nat) : zNw p (zSL n m none).length (zSc p n r e m none) j j = zTr p n (zbd n r) e m j := by
  have hpb := zpl_b p hp
  have hp0 : 0 < p := by omega
  have h1 := zNw_tr (A := zSA p n r e m none) hp (zsec_pos n hn m hm) (fun a b _ _ => zSA_lt hp0 a b) j
  refine iC.nat (zNw_lt hp0 _ _) (Nat.mod_lt _ hp0) (h1.trans ?_)
  unfold zTr
  refine iC.trans ?_ (iC.md hp0 _).symm
  rw [zs_int]
  exact iC.sum (fun k hk => zit_P hp0 hn hn2 j k k hk hk)
/-- squares alike have polynomials alike -/
def zE (w : Nat) (A B : Nat → Nat → Nat) : Prop := ∀ a b, a < w → b < w → A a b = B a b
theorem zre_E {p w k m f : Nat} {A B : Nat → Nat → Nat} (hk : k < w) (hm : m < w) (h : zE w A B) : zE w (zre p k m f A) (zre p k m f B) := by
  unfold zre
  by_cases c : f = 0
  · rw [if_pos c, if_pos c]; exact h
  · rw [if_neg c, if_neg c]
    have h1 : zE w (zr1 p k m f A) (zr1 p k m f B) := fun a b ha hb => by
      unfold zr1
      by_cases c1 : a = k
      · rw [if_pos c1, if_pos c1, h k b hk hb, h m b hm hb]
      · rw [if_neg c1, if_neg c1, h a b ha hb]
    intro a b ha hb
    show (if b = m then _ else _) = (if b = m then _ else _)
    by_cases c1 : b = m
    · rw [if_pos c1, if_pos c1, h1 a m ha hm, h1 a k ha hk]
    · rw [if_neg c1, if_neg c1, h1 a b ha hb]
theorem zel_E {p w m : Nat} {A B : Nat → Nat → Nat} (hm1 : 1 ≤ m) (hm : m < w) (h : zE w A B) : ∀ j, j ≤ w - (m + 1) → zE w (zel p m A j) (zel p m B j)
  | 0, _ => h
  | j + 1, hj => by
    have ih := zel_E (p := p) hm1 hm h j (by omega)
    show zE w (zre p (m + 1 + j) m (zv p (zel p m A j (m + 1 + j) (m - 1)) (zel p m A j m (m - 1))) (zel p m A j)) (zre p (m + 1 + j) m (zv p (zel p m B j (m + 1 + j) (m - 1)) (zel p m B j m (m - 1))) (zel p m B j))
    rw [ih (m + 1 + j) (m - 1) (by omega) (by omega), ih m (m - 1) (by omega) (by omega)]
    exact zre_E (by omega) hm ih
theorem zEf_cong {f g : Nat → Bool} : ∀ {i : Nat}, (∀ k, k < i → f k = g k) → zEf f i = zEf g i
  | 0, _ => rfl
  | i + 1, h => by
    unfold zEf
    rw [zEf_cong (fun k hk => h k (by omega)), h i (by omega)]
theorem zbs_E {p w m : Nat} {A B : Nat → Nat → Nat} (hm1 : 1 ≤ m) (hm : m < w) (h : zE w A B) : zE w (zbs p w m A) (zbs p w m B) := by
  have e : zpv A m w = zpv B m w := zEf_cong (fun y hy => by
    unfold zpf
    rw [h (m + y) (m - 1) (by omega) (by omega)])
  unfold zbs
  rw [e]
  cases hz : zpv B m w with
  | none => exact h
  | some j =>
    have hj := (zpv_some hz).1
    refine zel_E hm1 hm (fun a b ha hb => ?_) _ (Nat.le_refl _)
    exact h _ _ (ztr_lt (by omega) hm ha) (ztr_lt (by omega) hm hb)
theorem zbk_E {p w : Nat} {A B : Nat → Nat → Nat} (h : zE w A B) : ∀ j, j + 1 < w ∨ j = 0 → zE w (zbk p w A j) (zbk p w B j)
  | 0, _ => h
  | j + 1, hj => zbs_E (by omega) (by omega) (zbk_E h j (by omega))
theorem zbn_E {p w : Nat} {A B : Nat → Nat → Nat} (h : zE w A B) : zE w (zbn p w A) (zbn p w B) := zbk_E h _ (by omega)
theorem zsd_E {w : Nat} {A B : Nat → Nat → Nat} (h : zE w A B) {k : Nat} (hk : k < w) : ∀ s, zsd A k s = zsd B k s
  | 0 => rfl
  | s + 1 => by
    show zsd A k s * A (k - s) (k - s - 1) = zsd B k s * B (k - s) (k - s - 1)
    rw [zsd_E h hk s, h (k - s) (k - s - 1) (by omega) (by omega)]
theorem zQ_E {p w : Nat} {A B : Nat → Nat → Nat} (h : zE w A B) : ∀ k, k ≤ w → zQ p A k = zQ p B k
  | 0, _ => rfl
  | k + 1, hk => by
    show va_up (zQ p A k) (k + 1) (zQr p A (zQ p A k) k) = va_up (zQ p B k) (k + 1) (zQr p B (zQ p B k) k)
    rw [zQ_E h k (by omega)]
    congr 1
    funext z
    unfold zQr
    rw [zis_cong (g := zQs B (zQ p B k) k z) (fun s hs => by
      unfold zQs
      rw [zsd_E h (by omega) s, h (k - s) k (by omega) (by omega)])]
theorem zP_E {p w : Nat} {A B : Nat → Nat → Nat} (h : zE w A B) (z : Nat) : zP p w A z = zP p w B z := by
  unfold zP
  rw [zQ_E (zbn_E h) w (Nat.le_refl _)]
theorem zPs_c {p n r e m : Nat} (hn : n < 8) (hn2 : 2 ≤ n) (z : Nat) : zSc p n r e m none z = zPs p n (zbd n r) e m z := by
  refine zP_E (fun i k hi hk => ?_) z
  have hbd : zbd n r ≤ n := by unfold zbd; split <;> omega
  obtain ⟨a, ga, ea, hal, hac⟩ := zsec_get (show i < (zsec n m).length from hi)
  obtain ⟨b, gb, eb, hbl, hbc⟩ := zsec_get (show k < (zsec n m).length from hk)
  rw [zSA_sec hn hn2 hi hk]
  unfold zA
  rw [ea, eb, zS_unit hbl, zSg_sym hn hn2 hbd hal hbl]
/-! turns: R i k d i = C k i d k -/
theorem tw_pow {p w : Nat} {R C : iMt} {D : Nat → Int} (h : ∀ i k, i < w → k < w → iC p (R i k * D i) (C k i * D k)) : ∀ j i k, i < w → k < w → iC p (iP w R j i k * D i) (iP w C j k i * D k)
  | 0, i, k, _, _ => by
    show iC p ((if i = k then (1 : Int) else 0) * D i) ((if k = i then (1 : Int) else 0) * D k)
    by_cases c : i = k
    · rw [if_pos c, if_pos c.symm, c]; exact iC.rfl _ _
    · rw [if_neg c, if_neg (Ne.symm c), Int.zero_mul, Int.zero_mul]; exact iC.rfl _ _
  | j + 1, i, k, hi, hk => by
    rw [iP_r w C j k i hk hi]
    show iC p (zis (fun z => R i z * iP w R j z k) w * D i) (zis (fun z => iP w C j k z * C z i) w * D k)
    rw [← zis_mulr, ← zis_mulr]
    refine iC.sum (fun z hz => ?_)
    have h1 := h i z hi hz
    have h2 := tw_pow h j z k hz hk
    have e1 : R i z * iP w R j z k * D i = R i z * D i * iP w R j z k := by rw [Int.mul_assoc, Int.mul_comm (iP w R j z k), ← Int.mul_assoc]
    have e2 : C z i * D z * iP w R j z k = C z i * (iP w R j z k * D z) := by rw [Int.mul_assoc, Int.mul_comm (D z)]
    have e3 : C z i * (iP w C j k z * D k) = iP w C j k z * C z i * D k := by rw [← Int.mul_assoc, Int.mul_comm (C z i)]
    rw [e1, ← e3]
    refine (h1.mul (iC.rfl p (iP w R j z k))).trans ?_
    rw [e2]
    exact (iC.rfl p (C z i)).mul h2
theorem tw_tr {p w : Nat} {R C : iMt} {D : Nat → Nat} (hp : p ∈ zpl) (hD : ∀ i, i < w → 1 ≤ D i ∧ D i < p) (h : ∀ i k, i < w → k < w → iC p (R i k * (D i : Int)) (C k i * (D k : Int))) (j : Nat) : iC p (iT w (iP w R j)) (iT w (iP w C j)) := by
  refine iC.sum (fun k hk => ?_)
  have h1 := tw_pow (D := fun i => (D i : Int)) h j k k hk hk
  refine iC.cancel hp (hD k hk).1 (hD k hk).2 ?_
  rw [Int.mul_comm, Int.mul_comm ((D k : Nat) : Int)]
  exact h1
theorem zrt_n : ∀ n, n < 8 → ∀ p ∈ zpl, (zrt n p).isSome = true → n < p := by decide +kernel
theorem zrd_n : ∀ n, n < 8 → 2 ≤ n → ∀ m, m ≤ n → ∀ k, k < n → (zrd n m k).length < n := by decide +kernel
theorem zrd_get {n m k i : Nat} (hi : i < (zrd n m k).length) : ∃ a, (zrd n m k)[i]? = some a ∧ (zrd n m k).getD i 0 = a ∧ a < 2 ^ n ∧ zc a = m ∧ zle n a = a ∧ zrf n m k a = true ∧ (zfl (zrf n m k) a).length = i := by
  have h1 : (zrd n m k)[i]? = some (zrd n m k)[i] := List.getElem?_eq_getElem hi
  obtain ⟨h2, h3, h4⟩ := zfl_mem h1
  refine ⟨_, h1, by rw [List.getD_eq_getElem?_getD, h1]; rfl, h2, ?_, ?_, h3, h4⟩
  · unfold zrf at h3; simp only [Bool.and_eq_true, beq_iff_eq] at h3; exact h3.1.1
  · unfold zrf at h3; simp only [Bool.and_eq_true, beq_iff_eq] at h3; exact h3.1.2
theorem zpt_iff {n m k i : Nat} (hi : i < (zrd n m k).length) (y : Nat) : zpt n m k y = some i ↔ zle n y = (zrd n m k).getD i 0 := by
  obtain ⟨a, ga, ea, -, -, -, hf, hl⟩ := zrd_get hi
  rw [ea]
  unfold zpt
  constructor
  · intro h
    by_cases c : zrf n m k (zle n y) = true
    · rw [if_pos c] at h
      have h1 := Option.some.inj h
      rcases Nat.lt_trichotomy (zle n y) a with q | q | q
      · have := zfl_lt q c; omega
      · exact q
      · have := zfl_lt q hf; omega
    · rw [if_neg c] at h; cases h
  · intro h
    rw [h, if_pos hf, hl]
/-- what the class lays for a turn, over all states -/
theorem zSA_turn {p n r e m k i j : Nat} (hp : 1 < p) (hn : n < 8) (hn2 : 2 ≤ n) (hi : i < (zrd n m k).length) (hj : j < (zrd n m k).length) :
    zSA p n r e m (some k) j i = zs (fun y => if zle n y = (zrd n m k).getD i 0 then zSg n (zbd n r) e ((zrd n m k).getD j 0) y * zSf n p (some k) y else 0) (2 ^ n) % p := by
  obtain ⟨a, ga, ea, hal, hac, hle, -, -⟩ := zrd_get hj
  have hbd : zbd n r ≤ n := by unfold zbd; split <;> omega
  have hfa : zfa n a = 0 := by
    have h1 := ((zle_f hn hn2 hal).2.2 0 (by have := (zro_f hn hn2 hal).1; omega)).2.2 hle
    exact h1
  show zs (zFt n e (zrd n m k) (zpt n m k) (zSf n p (some k)) j i) (zbd n r) % p = _
  have e1 : ∀ y, y < 2 ^ n → (if zle n y = (zrd n m k).getD i 0 then zSg n (zbd n r) e ((zrd n m k).getD j 0) y * zSf n p (some k) y else 0) = zs (fun q => if zle n y = (zrd n m k).getD i 0 ∧ ztg n a q = y then zwt n e a q * zSf n p (some k) y else 0) (zbd n r) := by
    intro y hy
    rw [ea]
    by_cases c : zle n y = (zrd n m k).getD i 0
    · rw [if_pos c]
      unfold zSg
      rw [Nat.mul_comm, ← zs_mul]
      refine zs_cong (fun q hq => ?_)
      by_cases c2 : ztg n a q = y
      · rw [if_pos c2, if_pos ⟨c, c2⟩, Nat.mul_comm]
      · rw [if_neg c2, if_neg (fun z => c2 z.2), Nat.mul_zero]
    · rw [if_neg c]
      exact (zs_zero (fun q hq => by rw [if_neg (fun z => c z.1)])).symm
  rw [zs_cong e1, zs_swap (fun y q => if zle n y = (zrd n m k).getD i 0 ∧ ztg n a q = y then zwt n e a q * zSf n p (some k) y else 0)]
  refine congrArg (· % p) (zs_cong (fun q hq => ?_))
  have hq2 : q < n := by omega
  rw [zs_one (k := ztg n a q) (ztg_lt n hn hn2 a hal q hq2) (fun y hy hne => by rw [if_neg (fun z => hne z.2.symm)])]
  unfold zFt
  rw [ea]
  by_cases c : zle n (ztg n a q) = (zrd n m k).getD i 0
  · rw [if_pos ((zpt_iff hi _).mpr c), if_pos (show zle n (ztg n a q) = (zrd n m k).getD i 0 ∧ ztg n a q = ztg n a q from ⟨c, rfl⟩)]
    unfold zwt
    by_cases c2 : zal n a q = true
    · rw [if_pos c2, if_pos c2]
      have e3 : ztg n a q = a := by unfold ztg; rw [if_pos c2]
      rw [e3]
      show e = e * (((zrt n p).getD 0 ^ k % p) ^ zfa n a % p)
      rw [hfa, Nat.pow_zero, Nat.mod_eq_of_lt hp, Nat.mul_one]
    · rw [if_neg c2, if_neg c2, Nat.one_mul]
  · rw [if_neg (fun z => c ((zpt_iff hi _).mp z)), if_neg (fun z => c z.1)]
/-- the reference's polynomial of a turn is the class's -/
theorem zPt_c {p n r e m k ω : Nat} (hp : p ∈ zpl) (hn : n < 8) (hn2 : 2 ≤ n) (hm : m ≤ n) (hk : k < n) (hω : zrt n p = some ω) {z : Nat} (hz : z ≤ (zrd n m k).length) :
    zSc p n r e m (some k) z = zP p (zrd n m k).length (zTA p n (zbd n r) e (ω ^ k % p) (zrd n m k)) z := by
  have hpb := zpl_b p hp
  have hp0 : 0 < p := by omega
  have hnp := zrt_n n hn p hp (by rw [hω]; rfl)
  have hwn := zrd_n n hn hn2 m hm k hk
  refine (zP_of_tr hp (by omega) (fun a b _ _ => Nat.mod_lt _ hp0) (fun a b _ _ => zSA_lt hp0 a b) (fun j => ?_) z hz).symm
  have hro : ∀ i, i < (zrd n m k).length → 1 ≤ zro n ((zrd n m k).getD i 0) ∧ zro n ((zrd n m k).getD i 0) < p := fun i hi => by
    obtain ⟨a, ga, ea, hal, -⟩ := zrd_get hi
    have h1 := zro_f hn hn2 hal
    rw [ea]
    omega
  refine tw_tr (D := fun i => zro n ((zrd n m k).getD i 0)) hp hro (fun i j hi hj => ?_) j
  have hgi := hro i hi
  have hgj := hro j hj
  obtain ⟨a, ga, ea, hal, -⟩ := zrd_get hj
  show iC p (((zTA p n (zbd n r) e (ω ^ k % p) (zrd n m k) i j : Nat) : Int) * ((zro n ((zrd n m k).getD i 0) : Nat) : Int)) (((zSA p n r e m (some k) j i : Nat) : Int) * ((zro n ((zrd n m k).getD j 0) : Nat) : Int))
  rw [zSA_turn (by omega) hn hn2 hi hj]
  have hv := zv_mul hp (show zro n ((zrd n m k).getD j 0) % p < p from Nat.mod_lt _ hp0) (show zro n ((zrd n m k).getD i 0) % p < p from Nat.mod_lt _ hp0) (by rw [Nat.mod_eq_of_lt hgi.2]; omega)
  have hvc : iC p (((zv p (zro n ((zrd n m k).getD j 0) % p) (zro n ((zrd n m k).getD i 0) % p) : Nat) : Int) * ((zro n ((zrd n m k).getD i 0) : Nat) : Int)) ((zro n ((zrd n m k).getD j 0) : Nat) : Int) := by
    have h1 := (iC.md hp0 (zv p (zro n ((zrd n m k).getD j 0) % p) (zro n ((zrd n m k).getD i 0) % p) * (zro n ((zrd n m k).getD i 0) % p))).symm
    rw [hv, Int.natCast_mul, Nat.mod_eq_of_lt hgi.2, Nat.mod_eq_of_lt hgj.2] at h1
    rw [Nat.mod_eq_of_lt hgi.2, Nat.mod_eq_of_lt hgj.2]
    exact h1
  have hT : iC p ((zTA p n (zbd n r) e (ω ^ k % p) (zrd n m k) i j : Nat) : Int) (((zs (fun y => if zle n y = (zrd n m k).getD i 0 then zSg n (zbd n r) e ((zrd n m k).getD j 0) y * zSf n p (some k) y else 0) (2 ^ n) : Nat) : Int) * ((zv p (zro n ((zrd n m k).getD j 0) % p) (zro n ((zrd n m k).getD i 0) % p) : Nat) : Int)) := by
    unfold zTA
    refine (iC.md hp0 _).trans ?_
    rw [zs_int, zs_int, ← zis_mulr]
    refine iC.sum (fun y hy => ?_)
    unfold zTt
    by_cases c : zle n y = (zrd n m k).getD i 0
    · rw [if_pos c, if_pos c, Int.natCast_mul, Int.natCast_mul, Int.natCast_mul]
      refine iC.mul (iC.mul ?_ ?_) (iC.rfl _ _)
      · rw [ea, zS_unit hal]
        exact iC.md hp0 _
      · show iC p (((ω ^ k % p) ^ zfa n y % p : Nat) : Int) ((((zrt n p).getD 0 ^ k % p) ^ zfa n y % p : Nat) : Int)
        rw [hω]
        exact iC.rfl _ _
    · rw [if_neg c, if_neg c]
      show iC p 0 (0 * _)
      rw [Int.zero_mul]
      exact iC.rfl _ _
  refine (hT.mul (iC.rfl p _)).trans ?_
  rw [Int.mul_assoc]
  refine iC.mul (iC.md hp0 _).symm hvc
