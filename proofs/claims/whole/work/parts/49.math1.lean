/-! MATHEMATICS 1: the exchange equation by three conditions -/
def zxI (i j : Nat) (A B C : Int) (f : Nat → Int) (y : Nat) : Int := if zxa i j y = true then A * f y else B * f y + C * f (zxp i j y)
def zuI (a y : Nat) : Int := if y = a then 1 else 0
def zc1 (Av Bv Cv Au Bu Cu Aw Bw Cw : Int) : Int := Av * Bu * Cw - Bv * Au * Cw - Cv * Cu * Bw
def zc2 (Av Bv Cv Au Bu Cu Aw Bw Cw : Int) : Int := Av * Cu * Aw - Cv * Au * Cw - Bv * Cu * Bw
def zc3 (Av Bv Cv Au Bu Cu Aw Bw Cw : Int) : Int := Cv * Bu * Aw - Cv * Au * Bw - Bv * Cu * Cw
def zct (Av Bv Cv Au Bu Cu Aw Bw Cw : Int) (x y : Nat) : Int :=
  if x = 1 ∧ y = 2 ∨ x = 6 ∧ y = 5 then zc1 Av Bv Cv Au Bu Cu Aw Bw Cw
  else if x = 2 ∧ y = 1 ∨ x = 5 ∧ y = 6 then - zc1 Av Bv Cv Au Bu Cu Aw Bw Cw
  else if x = 1 ∧ y = 4 ∨ x = 6 ∧ y = 3 then zc2 Av Bv Cv Au Bu Cu Aw Bw Cw
  else if x = 4 ∧ y = 1 ∨ x = 3 ∧ y = 6 then - zc2 Av Bv Cv Au Bu Cu Aw Bw Cw
  else if x = 2 ∧ y = 4 ∨ x = 5 ∧ y = 3 then zc3 Av Bv Cv Au Bu Cu Aw Bw Cw
  else if x = 4 ∧ y = 2 ∨ x = 3 ∧ y = 5 then - zc3 Av Bv Cv Au Bu Cu Aw Bw Cw
  else 0
theorem z8 {x : Nat} (h : x < 8) : x = 0 ∨ x = 1 ∨ x = 2 ∨ x = 3 ∨ x = 4 ∨ x = 5 ∨ x = 6 ∨ x = 7 := by omega
theorem zeq_tab (Av Bv Cv Au Bu Cu Aw Bw Cw : Int) {x y : Nat} (hx : x < 8) (hy : y < 8) :
    zxI 0 1 Aw Bw Cw (zxI 0 2 Au Bu Cu (zxI 1 2 Av Bv Cv (zuI x))) y = zxI 1 2 Av Bv Cv (zxI 0 2 Au Bu Cu (zxI 0 1 Aw Bw Cw (zuI x))) y + zct Av Bv Cv Au Bu Cu Aw Bw Cw x y := by
  rcases z8 hx with rfl | rfl | rfl | rfl | rfl | rfl | rfl | rfl <;> rcases z8 hy with rfl | rfl | rfl | rfl | rfl | rfl | rfl | rfl <;> simp [zxI, zxa, zxp, zb, zuI, zct, zc1, zc2, zc3] <;> grind
theorem zx_I {p i j A B C : Nat} {f : Nat → Nat} {g : Nat → Int} (hp : 0 < p) (h : ∀ y, ∃ k : Int, (f y : Int) = g y + (p : Int) * k) : ∀ y, ∃ k : Int, (zx p i j A B C f y : Int) = zxI i j A B C g y + (p : Int) * k := by
  intro y
  unfold zx zxI
  split
  · obtain ⟨k, hk⟩ := h y
    obtain ⟨l, hl⟩ := zn_d (A * f y) hp
    refine ⟨A * k + l, ?_⟩
    rw [hl, Int.natCast_mul, hk]
    grind
  · obtain ⟨k, hk⟩ := h y
    obtain ⟨k', hk'⟩ := h (zxp i j y)
    obtain ⟨l, hl⟩ := zn_d (B * f y + C * f (zxp i j y)) hp
    refine ⟨B * k + C * k' + l, ?_⟩
    rw [hl, Int.natCast_add, Int.natCast_mul, Int.natCast_mul, hk, hk']
    grind
theorem zu_I (a : Nat) (p : Nat) : ∀ y, ∃ k : Int, (zu a y : Int) = zuI a y + (p : Int) * k := by
  intro y
  refine ⟨0, ?_⟩
  unfold zu zuI
  split <;> simp
theorem zm_z {z : Int} {p : Nat} (hp : 0 < p) : zm z p = 0 ↔ ∃ k : Int, z = (p : Int) * k := by
  constructor
  · intro h
    obtain ⟨k, hk⟩ := zm_d (z := z) hp
    rw [h] at hk
    exact ⟨-k, by simp at hk; rw [Int.mul_neg]; omega⟩
  · rintro ⟨k, rfl⟩
    unfold zm
    simp
theorem z_eqm {a b p : Nat} {z w : Int} (ha : a < p) (hb : b < p) (hz : ∃ k : Int, (a : Int) = z + (p : Int) * k) (hw : ∃ k : Int, (b : Int) = w + (p : Int) * k) : a = b ↔ ∃ k : Int, z - w = (p : Int) * k := by
  obtain ⟨k, hk⟩ := hz
  obtain ⟨l, hl⟩ := hw
  constructor
  · rintro rfl
    exact ⟨l - k, by rw [Int.mul_sub]; omega⟩
  · rintro ⟨m, hm⟩
    have h1 : (a : Int) - b = (p : Int) * (k - l + m) := by
      rw [hk, hl]
      have : z = w + p * m := by omega
      rw [this]
      grind
    have h2 : k - l + m = 0 := by
      rcases Int.lt_trichotomy (k - l + m) 0 with q | q | q
      · exfalso
        have : (p : Int) * (k - l + m) ≤ (p : Int) * (-1) := Int.mul_le_mul_of_nonneg_left (by omega) (by omega)
        omega
      · exact q
      · exfalso
        have : (p : Int) * 1 ≤ (p : Int) * (k - l + m) := Int.mul_le_mul_of_nonneg_left (by omega) (by omega)
        omega
    rw [h2] at h1
    omega
theorem zHd_eq {p t e u v : Nat} {T : zTx} (hp : 0 < p) : zHb p t e T u v = zHd p t e T u v := by
  have key : zHb p t e T u v = true ↔ zHd p t e T u v = true := by
    unfold zHb zHd zHc
    simp only [List.all_eq_true, List.mem_range, beq_iff_eq, Bool.and_eq_true]
    unfold zxw
    generalize zW T p t e 0 v = Av
    generalize zW T p t e 1 v = Bv
    generalize zW T p t e 2 v = Cv
    generalize zW T p t e 0 u = Au
    generalize zW T p t e 1 u = Bu
    generalize zW T p t e 2 u = Cu
    generalize zW T p t e 0 (zls p u v) = Aw
    generalize zW T p t e 1 (zls p u v) = Bw
    generalize zW T p t e 2 (zls p u v) = Cw
    have cell : ∀ a, a < 8 → ∀ y, y < 8 → (zx p 0 1 Aw Bw Cw (fun y => zx p 0 2 Au Bu Cu (fun y => zx p 1 2 Av Bv Cv (zu a) y) y) y = zx p 1 2 Av Bv Cv (fun y => zx p 0 2 Au Bu Cu (fun y => zx p 0 1 Aw Bw Cw (zu a) y) y) y ↔ ∃ k : Int, zct Av Bv Cv Au Bu Cu Aw Bw Cw a y = (p : Int) * k) := by
      intro a ha y hy
      rw [z_eqm (zx_lt hp) (zx_lt hp) (zx_I hp (zx_I hp (zx_I hp (zu_I a p))) y) (zx_I hp (zx_I hp (zx_I hp (zu_I a p))) y), zeq_tab _ _ _ _ _ _ _ _ _ ha hy]
      constructor
      · rintro ⟨k, hk⟩; exact ⟨k, by rw [← hk]; omega⟩
      · rintro ⟨k, hk⟩; exact ⟨k, by rw [← hk]; omega⟩
    have q1 := zm_z (z := zc1 Av Bv Cv Au Bu Cu Aw Bw Cw) hp
    have q2 := zm_z (z := zc2 Av Bv Cv Au Bu Cu Aw Bw Cw) hp
    have q3 := zm_z (z := zc3 Av Bv Cv Au Bu Cu Aw Bw Cw) hp
    have e1 : ((Av * Bu * Cw : Nat) - (Bv * Au * Cw : Nat) - (Cv * Cu * Bw : Nat) : Int) = zc1 Av Bv Cv Au Bu Cu Aw Bw Cw := by unfold zc1; simp
    have e2 : ((Av * Cu * Aw : Nat) - (Cv * Au * Cw : Nat) - (Bv * Cu * Bw : Nat) : Int) = zc2 Av Bv Cv Au Bu Cu Aw Bw Cw := by unfold zc2; simp
    have e3 : ((Cv * Bu * Aw : Nat) - (Cv * Au * Bw : Nat) - (Bv * Cu * Cw : Nat) : Int) = zc3 Av Bv Cv Au Bu Cu Aw Bw Cw := by unfold zc3; simp
    rw [e1, e2, e3, q1, q2, q3]
    constructor
    · intro h
      exact ⟨⟨(cell 1 (by omega) 2 (by omega)).mp (h 1 (by omega) 2 (by omega)), (cell 1 (by omega) 4 (by omega)).mp (h 1 (by omega) 4 (by omega))⟩, (cell 2 (by omega) 4 (by omega)).mp (h 2 (by omega) 4 (by omega))⟩
    · rintro ⟨⟨⟨k1, h1⟩, ⟨k2, h2⟩⟩, ⟨k3, h3⟩⟩ a ha y hy
      refine (cell a ha y hy).mpr ?_
      unfold zct
      split
      · exact ⟨k1, h1⟩
      split
      · exact ⟨-k1, by rw [h1, Int.mul_neg]⟩
      split
      · exact ⟨k2, h2⟩
      split
      · exact ⟨-k2, by rw [h2, Int.mul_neg]⟩
      split
      · exact ⟨k3, h3⟩
      split
      · exact ⟨-k3, by rw [h3, Int.mul_neg]⟩
      · exact ⟨0, by simp⟩
  cases h1 : zHb p t e T u v <;> cases h2 : zHd p t e T u v
  · rfl
  · rw [key.mpr h2] at h1; exact h1.symm
  · rw [key.mp h1] at h2; exact h2
  · rfl
/-! MATHEMATICS 2: the table by one way -/
theorem zb_t (a i : Nat) : zb a i = (a.testBit i).toNat := by unfold zb; rw [Nat.toNat_testBit]
theorem zb_le (a i : Nat) : zb a i ≤ 1 := by unfold zb; omega
theorem zb_eq (a b i : Nat) : zb a i = zb b i ↔ a.testBit i = b.testBit i := by
  rw [zb_t, zb_t]
  cases a.testBit i <;> cases b.testBit i <;> simp
theorem zb_xp {n k y i : Nat} (hk : k ≠ n) : zb (zxp n k y) i = if i = n ∨ i = k then 1 - zb y i else zb y i := by
  unfold zxp
  rw [zb_t, zb_t, Nat.testBit_xor, Nat.testBit_xor, Nat.testBit_two_pow, Nat.testBit_two_pow]
  by_cases h1 : i = n
  · subst h1
    rw [if_pos (Or.inl rfl)]
    cases y.testBit i <;> simp [hk]
  · by_cases h2 : i = k
    · subst h2
      rw [if_pos (Or.inr rfl)]
      cases y.testBit i <;> simp [Ne.symm h1]
    · rw [if_neg (by omega)]
      simp [Ne.symm h1, Ne.symm h2]
theorem zwy_cong {p A B C a b b' f : Nat} : ∀ k, (∀ i, i < k → zb b i = zb b' i) → zwy p A B C a b f k = zwy p A B C a b' f k
  | 0, _ => rfl
  | k + 1, h => by
    have ih := zwy_cong (p := p) (A := A) (B := B) (C := C) (a := a) (f := f) k (fun i hi => h i (by omega))
    unfold zwy
    rw [ih, h k (by omega)]
/-- bits from k on are a's -/
def zup (n k a z : Nat) : Prop := ∀ i, k ≤ i → i < n → zb z i = zb a i
theorem zup_s {n k a z : Nat} (hk : k < n) : zup n k a z ↔ zb z k = zb a k ∧ zup n (k + 1) a z := by
  constructor
  · exact fun h => ⟨h k (Nat.le_refl _) hk, fun i h1 h2 => h i (by omega) h2⟩
  · rintro ⟨h1, h2⟩ i h3 h4
    by_cases e : i = k
    · rw [e]; exact h1
    · exact h2 i (by omega) h4
theorem zti_way {p n A B C a f : Nat} (hp : 1 < p) (hn : n < 8) (ha : a < 2 ^ n) (hf : f ≤ 1) : ∀ k, k ≤ n → ∀ z, z < 2 ^ (n + 1) → (zup n k a z ∧ zb z n = (zwy p A B C a z f k).1 → zti p n A B C k (zt0 n (zu a) f) z = (zwy p A B C a z f k).2) ∧ (¬ (zup n k a z ∧ zb z n = (zwy p A B C a z f k).1) → zti p n A B C k (zt0 n (zu a) f) z = 0) := by
  intro k
  induction k with
  | zero =>
    intro _ z hz
    have hsn : 2 ^ (n + 1) = 2 * 2 ^ n := by rw [Nat.pow_succ, Nat.mul_comm]
    have h0 : 0 < 2 ^ n := Nat.pow_pos (by omega)
    have hd : z / 2 ^ n < 2 := by rw [Nat.div_lt_iff_lt_mul h0]; omega
    have hb : zb z n = z / 2 ^ n := by unfold zb; rw [Nat.mod_eq_of_lt hd]
    have hu : zup n 0 a z ↔ z % 2 ^ n = a := by
      constructor
      · intro h
        apply Nat.eq_of_testBit_eq
        intro i
        rw [Nat.testBit_mod_two_pow]
        by_cases hi : i < n
        · have := (zb_eq _ _ _).mp (h i (Nat.zero_le _) hi)
          simp [hi, this]
        · have : a.testBit i = false := Nat.testBit_lt_two_pow (Nat.lt_of_lt_of_le ha (Nat.pow_le_pow_right (by omega) (by omega)))
          simp [hi, this]
      · rintro rfl i - hi
        rw [zb_eq, Nat.testBit_mod_two_pow]
        simp [hi]
    show (zup n 0 a z ∧ zb z n = f → zt0 n (zu a) f z = 1) ∧ (¬ (zup n 0 a z ∧ zb z n = f) → zt0 n (zu a) f z = 0)
    rw [hu, hb]
    unfold zt0 zu
    constructor
    · rintro ⟨h1, h2⟩; rw [if_pos h2, if_pos h1]
    · intro h
      split
      · split
        · exact absurd ⟨by assumption, by assumption⟩ h
        · rfl
      · rfl
  | succ k ih =>
    intro hk z hz
    have ihz := ih (by omega) z hz
    have hz' : zxp n k z < 2 ^ (n + 1) := zxp_lt (by omega) (by omega) hz
    have ihz' := ih (by omega) (zxp n k z) hz'
    have hcg : zwy p A B C a (zxp n k z) f k = zwy p A B C a z f k := zwy_cong k (fun i hi => by rw [zb_xp (by omega), if_neg (by omega)])
    rw [hcg] at ihz'
    have hE := (zwy_lt (A := A) (B := B) (C := C) (a := a) (b := z) hp hf k).1
    have bz := zb_le z k
    have bn := zb_le z n
    have ba := zb_le a k
    have xk : zb (zxp n k z) k = 1 - zb z k := by rw [zb_xp (by omega), if_pos (Or.inr rfl)]
    have xn : zb (zxp n k z) n = 1 - zb z n := by rw [zb_xp (by omega), if_pos (Or.inl rfl)]
    have xu : zup n (k + 1) a (zxp n k z) ↔ zup n (k + 1) a z := by
      unfold zup
      constructor
      · intro h i h1 h2
        have := h i h1 h2
        rw [zb_xp (by omega), if_neg (by omega)] at this
        exact this
      · intro h i h1 h2
        rw [zb_xp (by omega), if_neg (by omega)]
        exact h i h1 h2
    rw [zup_s (by omega), xk, xn, xu] at ihz'
    rw [zup_s (by omega)] at ihz
    have hstep : zti p n A B C (k + 1) (zt0 n (zu a) f) z = if zxa n k z = true then A * zti p n A B C k (zt0 n (zu a) f) z % p else (B * zti p n A B C k (zt0 n (zu a) f) z + C * zti p n A B C k (zt0 n (zu a) f) (zxp n k z)) % p := rfl
    have hxa : zxa n k z = true ↔ zb z n = zb z k := by unfold zxa; rw [beq_iff_eq]
    rw [hstep]
    have hw : zwy p A B C a z f (k + 1) = if zb a k = zb z k then ((zwy p A B C a z f k).1, (zwy p A B C a z f k).2 * (if zb a k = (zwy p A B C a z f k).1 then A else B) % p) else if zb a k ≠ (zwy p A B C a z f k).1 then (zb a k, (zwy p A B C a z f k).2 * C % p) else ((zwy p A B C a z f k).1, 0) := rfl
    rw [hw]
    generalize (zwy p A B C a z f k).1 = E at *
    generalize (zwy p A B C a z f k).2 = Mu at *
    generalize zti p n A B C k (zt0 n (zu a) f) z = Fz at *
    generalize zti p n A B C k (zt0 n (zu a) f) (zxp n k z) = Fx at *
    generalize zup n (k + 1) a z = U at *
    by_cases hal : zb z n = zb z k
    · rw [if_pos (hxa.mpr hal)]
      by_cases hab : zb a k = zb z k
      · rw [if_pos hab]
        constructor
        · rintro ⟨h1, h2⟩
          have h2' : zb z n = E := h2
          have h3 : zb a k = E := by omega
          show _ = Mu * (if zb a k = E then A else B) % p
          rw [if_pos h3, ihz.1 ⟨⟨hab.symm, h1⟩, h2'⟩, Nat.mul_comm]
        · intro h
          have : ¬ ((zb z k = zb a k ∧ U) ∧ zb z n = E) := fun q => h ⟨q.1.2, q.2⟩
          rw [ihz.2 this, Nat.mul_zero, Nat.zero_mod]
      · have hF : Fz = 0 := ihz.2 (fun q => hab q.1.1.symm)
        rw [if_neg hab, hF, Nat.mul_zero, Nat.zero_mod]
        by_cases hae : zb a k ≠ E
        · rw [if_pos hae]
          constructor
          · rintro ⟨-, h2⟩
            have h2' : zb z n = zb a k := h2
            omega
          · intro _; rfl
        · rw [if_neg hae]
          exact ⟨fun _ => rfl, fun _ => rfl⟩
    · rw [if_neg (fun q => hal (hxa.mp q))]
      by_cases hab : zb a k = zb z k
      · have hF : Fx = 0 := ihz'.2 (fun q => by have := q.1.1; omega)
        rw [if_pos hab, hF, Nat.mul_zero, Nat.add_zero]
        constructor
        · rintro ⟨h1, h2⟩
          have h2' : zb z n = E := h2
          have h3 : ¬ zb a k = E := by omega
          show _ = Mu * (if zb a k = E then A else B) % p
          rw [if_neg h3, ihz.1 ⟨⟨hab.symm, h1⟩, h2'⟩, Nat.mul_comm]
        · intro h
          have : ¬ ((zb z k = zb a k ∧ U) ∧ zb z n = E) := fun q => h ⟨q.1.2, q.2⟩
          rw [ihz.2 this, Nat.mul_zero, Nat.zero_mod]
      · have hF : Fz = 0 := ihz.2 (fun q => hab q.1.1.symm)
        rw [if_neg hab, hF, Nat.mul_zero, Nat.zero_add]
        by_cases hae : zb a k ≠ E
        · rw [if_pos hae]
          constructor
          · rintro ⟨h1, -⟩
            show _ = Mu * C % p
            rw [ihz'.1 ⟨⟨by omega, h1⟩, by omega⟩, Nat.mul_comm]
          · intro h
            have : ¬ ((1 - zb z k = zb a k ∧ U) ∧ 1 - zb z n = E) := fun q => h ⟨q.1.2, show zb z n = zb a k by omega⟩
            rw [ihz'.2 this, Nat.mul_zero, Nat.zero_mod]
        · rw [if_neg hae]
          have : ¬ ((1 - zb z k = zb a k ∧ U) ∧ 1 - zb z n = E) := fun q => by have := q.2; omega
          rw [ihz'.2 this, Nat.mul_zero, Nat.zero_mod]
          exact ⟨fun _ => rfl, fun _ => rfl⟩
theorem zti_wr {p n A B C a f y : Nat} (hp : 1 < p) (hn : n < 8) (ha : a < 2 ^ n) (hf : f ≤ 1) (hy : y < 2 ^ n) : zti p n A B C n (zt0 n (zu a) f) (f * 2 ^ n + y) = zwr p n A B C a y f := by
  have h0 : 0 < 2 ^ n := Nat.pow_pos (by omega)
  have hsn : 2 ^ (n + 1) = 2 * 2 ^ n := by rw [Nat.pow_succ, Nat.mul_comm]
  have hfy : f * 2 ^ n + y < 2 ^ (n + 1) := by
    have : f * 2 ^ n ≤ 1 * 2 ^ n := Nat.mul_le_mul_right _ hf
    omega
  have hbn : zb (f * 2 ^ n + y) n = f := by
    unfold zb
    rw [Nat.add_comm, Nat.add_mul_div_right _ _ h0, Nat.div_eq_of_lt hy, Nat.zero_add, Nat.mod_eq_of_lt (by omega)]
  have hbi : ∀ i, i < n → zb (f * 2 ^ n + y) i = zb y i := by
    intro i hi
    rw [zb_eq]
    have : (f * 2 ^ n + y) % 2 ^ n = y % 2 ^ n := by rw [Nat.add_comm, Nat.add_mul_mod_self_right]
    have h1 := congrArg (fun z => z.testBit i) this
    simp only [Nat.testBit_mod_two_pow, hi, decide_true, Bool.true_and] at h1
    exact h1
  have hcg : zwy p A B C a (f * 2 ^ n + y) f n = zwy p A B C a y f n := zwy_cong n hbi
  have hup : zup n n a (f * 2 ^ n + y) := fun i h1 h2 => by omega
  have := zti_way (A := A) (B := B) (C := C) hp hn ha hf n (Nat.le_refl _) _ hfy
  rw [hcg, hbn] at this
  unfold zwr
  split
  · rename_i h; exact this.1 ⟨hup, h.symm⟩
  · rename_i h; exact this.2 (fun q => h q.2.symm)
/-- the letters' sum -/
def zsb (a k : Nat) : Nat := zs (zb a) k
theorem zsb_c {a n : Nat} (hn : n < 8) (ha : a < 2 ^ n) : zsb a n = zc a := by
  have h7 : zc a = zsb a 7 := by
    unfold zc zsb zb
    simp [zs]
  rw [h7]
  have h : ∀ k, n ≤ k → zsb a k = zsb a n := by
    intro k hk
    obtain ⟨j, rfl⟩ : ∃ j, k = n + j := ⟨k - n, by omega⟩
    clear hk
    induction j with
    | zero => rfl
    | succ j ih =>
      show zsb a (n + j) + zb a (n + j) = _
      rw [ih]
      have : zb a (n + j) = 0 := by
        unfold zb
        rw [Nat.div_eq_of_lt (Nat.lt_of_lt_of_le ha (Nat.pow_le_pow_right (by omega) (by omega)))]
      rw [this, Nat.add_zero]
  exact (h 7 (by omega)).symm
theorem zwy_keep {p A B C a b f : Nat} (hp : 1 < p) (hf : f ≤ 1) : ∀ k, (zwy p A B C a b f k).2 ≠ 0 → zsb a k + f = zsb b k + (zwy p A B C a b f k).1
  | 0, _ => rfl
  | k + 1, h => by
    have ih := zwy_keep (A := A) (B := B) (C := C) (a := a) (b := b) hp hf k
    have hE := (zwy_lt (A := A) (B := B) (C := C) (a := a) (b := b) hp hf k).1
    have ba := zb_le a k
    have bb := zb_le b k
    have sa : zsb a (k + 1) = zsb a k + zb a k := rfl
    have sb : zsb b (k + 1) = zsb b k + zb b k := rfl
    rw [sa, sb]
    have hw : zwy p A B C a b f (k + 1) = if zb a k = zb b k then ((zwy p A B C a b f k).1, (zwy p A B C a b f k).2 * (if zb a k = (zwy p A B C a b f k).1 then A else B) % p) else if zb a k ≠ (zwy p A B C a b f k).1 then (zb a k, (zwy p A B C a b f k).2 * C % p) else ((zwy p A B C a b f k).1, 0) := rfl
    rw [hw] at h ⊢
    have hm : (zwy p A B C a b f k).2 ≠ 0 := by
      intro q
      rw [q] at h
      revert h
      split
      · simp
      split
      · simp
      · simp
    have ih := ih hm
    generalize (zwy p A B C a b f k).1 = E at *
    generalize (zwy p A B C a b f k).2 = Mu at *
    split
    · show _ = _ + E; omega
    · rename_i hab
      rw [if_neg hab] at h
      split
      · show _ = _ + zb a k; omega
      · rename_i hae
        rw [if_neg hae] at h
        exact absurd rfl h
theorem ztb_eq {p n A B C a y : Nat} (hp : 1 < p) (hn : n < 8) (ha : a < 2 ^ n) (hy : y < 2 ^ n) : ztb p n A B C a y = zTb p n A B C (zu a) y := by
  have h0 := zti_wr (A := A) (B := B) (C := C) (f := 0) hp hn ha (by omega) hy
  have h1 := zti_wr (A := A) (B := B) (C := C) (f := 1) hp hn ha (by omega) hy
  rw [Nat.zero_mul, Nat.zero_add] at h0
  rw [Nat.one_mul] at h1
  unfold ztb zTb
  rw [h0, h1]
  split
  · rfl
  · rename_i hc
    have hz : ∀ f, f ≤ 1 → zwr p n A B C a y f = 0 := by
      intro f hf
      unfold zwr
      split
      · rename_i he
        refine Classical.byContradiction fun hne => hc ?_
        have := zwy_keep hp hf n hne
        rw [he, zsb_c hn ha, zsb_c hn hy] at this
        omega
      · rfl
    rw [hz 0 (by omega), hz 1 (by omega), Nat.add_zero, Nat.zero_mod]
