/-! CONTRACTS 35: Spectrum: the polynomial -/
/-- the steps lie -/
def sPo (M : a_M) (Q : Nat → Nat → Nat) : Prop := ∀ i z, i < 36 → z < 36 → M 26 (36 * i + z) = nI (Q i z)
theorem sPo.cong {M : a_M} {Q Q' : Nat → Nat → Nat} (h : sPo M Q) (he : ∀ i z, i < 36 → z < 36 → Q i z = Q' i z) : sPo M Q' := fun i z hi hz => by rw [← he i z hi hz]; exact h i z hi hz
theorem sPo.set {M : a_M} {Q : Nat → Nat → Nat} {a b v : Nat} (h : sPo M Q) (hb : b < 36) : sPo (ms M 26 (36 * a + b) (nI v)) (fun i z => if i = a ∧ z = b then v else Q i z) := by
  intro i z hi hz
  dsimp only
  by_cases c : i = a ∧ z = b
  · rw [if_pos c, c.1, c.2, ms_is]
  · rw [if_neg c, ms_no _ _ _ _ _ _ (by omega)]; exact h i z hi hz
/-- nothing comes behind a step that is 0 -/
theorem zsd_z {p : Nat} {A : Nat → Nat → Nat} {k s : Nat} (h : zsd A k s % p = 0) : ∀ j, zsd A k (s + j) % p = 0
  | 0 => h
  | j + 1 => by
    show zsd A k (s + j) * A (k - (s + j)) (k - (s + j) - 1) % p = 0
    rw [← Nat.mod_mul_mod, zsd_z h j, Nat.zero_mul, Nat.zero_mod]
theorem zis_z {p : Nat} (hp : 0 < p) {A Q : Nat → Nat → Nat} {k z s : Nat} (h : zsd A k s % p = 0) : ∀ j, ∃ e : Int, zis (zQs A Q k z) (s + j) = zis (zQs A Q k z) s + (p : Int) * e
  | 0 => ⟨0, by simp⟩
  | j + 1 => by
    obtain ⟨e, he⟩ := zis_z hp (Q := Q) (z := z) h j
    have h1 := zsd_z h j
    have h2 := Nat.div_add_mod (zsd A k (s + j)) p
    rw [h1, Nat.add_zero] at h2
    refine ⟨e + (zsd A k (s + j) / p * A (k - (s + j)) k * Q (k - (s + j)) z : Nat), ?_⟩
    show zis (zQs A Q k z) (s + j) + zQs A Q k z (s + j) = _
    rw [he]
    unfold zQs
    rw [Int.mul_add, ← Int.natCast_mul, Int.add_assoc]
    congr 3
    rw [← Nat.mul_assoc, ← Nat.mul_assoc, h2]
theorem zm_step {X Y c : Int} {f q p : Nat} (hp : 0 < p) (hf : ∃ e : Int, (f : Int) = c + (p : Int) * e) : zm ((zm (X - Y) p : Int) - (f : Int) * (q : Int)) p = zm (X - (Y + c * (q : Int))) p := by
  obtain ⟨e, he⟩ := hf
  obtain ⟨k, hk⟩ := zm_d (z := X - Y) hp
  refine zm_c (k - e * (q : Int)) ?_
  rw [hk, he, Int.add_mul, Int.mul_sub, Int.mul_assoc]
  omega
section Z36
variable {X : a_X} {ad : Nat → Nat} {ca : Nat → ClassId} {d x : Nat} {M : a_M}
theorem kX8_takeStepOff (hd : 2 ≤ d) {p k i f : Nat} {Q : Nat → Nat → Nat} (hP : M 24 2 = nI p) (hp0 : 0 < p) (hp : p ≤ 97) (hQ : sPo M Q) (hQp : ∀ a z, Q a z < p) (hk : k < 36) (hik : i < k) (hf : f < p) (hz : ∀ z, i < z → Q i z = 0) :
    mX8_takeStepOff X ad ca d x [.ref 23, .int (nI k), .int (nI i), .int (nI f)] M (q_v (PT x) (fun M' => sPo M' (va_up Q k (fun z => zm ((Q k z : Int) - (f : Int) * (Q i z : Int)) p)) ∧ ∀ o, o ≠ 26 → M' o = M o)) := by
  obtain ⟨d, rfl⟩ := a_d1 (show 1 ≤ d by omega)
  refine eX8_takeStepOff _ _ _ (bX8_takeStepOff_0 _ _ _ ⟨fun h => ⟨rfl, rfl, hQ.cong (fun a z _ _ => ?_), fun _ _ => rfl⟩, fun h => ?_⟩)
  · have h0 : f = 0 := (nI_eq (b := 0) (by omega) (by omega)).mp h
    unfold va_up
    by_cases c : a = k
    · rw [if_pos c, h0, c]
      show Q k z = zm ((Q k z : Int) - (0 : Int) * (Q i z : Int)) p
      rw [Int.zero_mul, Int.sub_zero, zm_small (hQp k z)]
    · rw [if_neg c]
  refine a_loop (σ := a_M) (fun y M' => wX8_takeStepOff X ad ca d x _ 7 [(0, .ref 23), (1, .int (nI k)), (2, .int (nI i)), (3, .int (nI f)), (4, .int (nI y))] M') (fun y M' => sPo M' (fun a z => if a = k ∧ z < y then zm ((Q k z : Int) - (f : Int) * (Q i z : Int)) p else Q a z) ∧ ∀ o, o ≠ 26 → M' o = M o) (i + 1) ?_ ?_ 0 M (Nat.zero_le _) ⟨hQ.cong (fun a z _ _ => by rw [if_neg (by omega)]), fun _ _ => rfl⟩
  · rintro M1 ⟨i1, i2⟩
    refine bX8_takeStepOff_7 _ _ _ _ ⟨fun _ => ⟨rfl, rfl, i1.cong (fun a z _ _ => ?_), i2⟩, fun h => absurd (nI_lt (by omega) (by omega)) h⟩
    unfold va_up
    by_cases c : a = k
    · rw [if_pos c]
      by_cases c2 : z < i + 1
      · rw [if_pos ⟨c, c2⟩]
      · rw [if_neg (fun q => c2 q.2), hz z (by omega), c]
        show Q k z = zm ((Q k z : Int) - (f : Int) * 0) p
        rw [Int.mul_zero, Int.sub_zero, zm_small (hQp k z)]
    · rw [if_neg c, if_neg (fun q => c q.1)]
  · rintro y M1 hy ⟨i1, i2⟩ ih
    refine bX8_takeStepOff_7 _ _ _ _ ⟨fun h => absurd h (nI_nlt (by omega) (by omega)), fun _ => ?_⟩
    have e1 : nI k * 36 + nI y = nI (36 * k + y) := by rw [fa_lit 36, n_mul, nI_add, Nat.mul_comm]
    have e2 : nI i * 36 + nI y = nI (36 * i + y) := by rw [fa_lit 36, n_mul, nI_add, Nat.mul_comm]
    rw [e1, e2, n_cl (show 36 * k + y < 2 ^ 31 by omega), n_cl (show 36 * i + y < 2 ^ 31 by omega), i2 24 (by decide), hP]
    have y1 := i1 k y hk (by omega)
    have y2 := i1 i y (by omega) (by omega)
    dsimp only at y1 y2
    rw [if_neg (by omega)] at y1 y2
    have hb := n_p2 hf (hQp i y) (by omega)
    have hq := hQp k y
    rw [y1, y2, n_mul]
    refine ⟨n_in (by omega) (by omega), n_in (by omega) (by omega), _, kX11_left (by omega) _ hp0 (by omega), ?_⟩
    rintro v2 M2 ⟨rfl, rfl⟩
    rw [n_sub0 (by omega) (by omega), ← nI_succ]
    refine ⟨n_in (by omega) (by omega), ih _ ⟨(i1.set (show y < 36 by omega)).cong (fun a z _ _ => ?_), fun o ho => by rw [ms_row _ _ _ _ _ ho]; exact i2 o ho⟩⟩
    by_cases c : a = k ∧ z = y
    · rw [if_pos c, if_pos ⟨c.1, by omega⟩, c.2, Int.natCast_mul]
    · rw [if_neg c]
      by_cases c2 : a = k ∧ z < y
      · rw [if_pos c2, if_pos ⟨c2.1, by omega⟩]
      · rw [if_neg c2, if_neg (by omega)]
theorem kX8_findTerms (hd : 3 ≤ d) {w p : Nat} {A : Nat → Nat → Nat} (h9 : M 23 9 = nI w) (hP : M 24 2 = nI p) (hw35 : w ≤ 35) (hp : p ∈ zpl) (hB : mB M 25 w p A) :
    mX8_findTerms X ad ca d x [.ref 23] M (q_v (PT x) (fun M' => (∀ z, z ≤ w → M' 29 z = nI (zQ p A w w z)) ∧ ∀ o, o ≠ 26 → o ≠ 29 → M' o = M o)) := by
  obtain ⟨d, rfl⟩ := a_d1 (show 1 ≤ d by omega)
  have hpb := zpl_b p hp
  have hp0 : 0 < p := by omega
  have hA := hB.lt
  refine eX8_findTerms (bX8_findTerms_0 ⟨_, kX11_clear (by omega) (o := 26) (N := 1296) rfl (by omega), ?_⟩)
  rintro M0 rfl
  refine a_loop (σ := a_M) (fun k M' => wX8_findTerms X ad ca d x _ 16 [(0, .ref 23), (1, .int (nI k))] M') (fun k M' => sPo M' (zQ p A k) ∧ ∀ o, o ≠ 26 → M' o = M o) w ?_ ?_ 0 _ (Nat.zero_le _) ⟨fun i z hi hz => ?_, fun o ho => by rw [ms_row _ _ _ _ _ ho, mf_no _ _ _ _ _ _ ho]⟩
  · rintro M1 ⟨i1, i2⟩
    refine bX8_findTerms_16 _ ?_
    have e1 : nI w * 36 = nI (36 * w) := by rw [fa_lit 36, n_mul, Nat.mul_comm]
    rw [i2 23 (by decide), h9, e1, ← nI_succ, n_cl (show 36 * w < 2 ^ 31 by omega), n_cl (show w + 1 < 2 ^ 31 by omega)]
    refine ⟨fun _ => ⟨nI_pos (by omega), by decide, nI_pos (by omega), by omega, by show 0 + (w + 1) ≤ 36; omega, rfl, rfl, fun z hz => ?_, fun o h1 h2 => by rw [vn _ _ _ _ h2]; exact i2 o h1⟩, fun q => absurd (nI_le (Nat.le_refl _) (by omega)) q⟩
    rw [vu]
    show va_cpy (M1 26) (M1 29) (36 * w) 0 (w + 1) z = _
    rw [pk_cpy_in (Nat.zero_le _) (show z < 0 + (w + 1) by omega), Nat.sub_zero]
    exact i1 w z (by omega) (by omega)
  · rintro k M1 hk ⟨i1, i2⟩ ih
    refine bX8_findTerms_16 _ ?_
    rw [i2 23 (by decide), h9]
    refine ⟨fun q => absurd q (nI_ge hk (by omega)), fun _ => ?_⟩
    generalize hQ : zQ p A k = Q at i1
    have hQp : ∀ i z, Q i z < p := fun i z => by rw [← hQ]; exact zQ_lt (by omega) k i z
    have hQd : ∀ i z, i < z → Q i z = 0 := fun i z h => by rw [← hQ]; exact zQ_deg k i z h
    have hQz : ∀ i z, k < i → Q i z = 0 := fun i z h => by rw [← hQ]; exact zQ_z k i z h
    have hQ0 : ∀ z, zm (zQ0 Q k z) p = if z = 0 then 0 else Q k (z - 1) := fun z => by rw [← hQ]; exact zQ0_lt (by omega)
    -- the shift
    refine a_loop (σ := a_M) (fun y M' => wX8_findTerms X ad ca d x _ 26 [(0, .ref 23), (1, .int (nI k)), (2, .int (nI y))] M') (fun y M' => sPo M' (fun i z => if i = k + 1 ∧ 1 ≤ z ∧ z < y + 1 then Q k (z - 1) else Q i z) ∧ ∀ o, o ≠ 26 → M' o = M o) (k + 1) ?_ ?_ 0 M1 (Nat.zero_le _) ⟨i1.cong (fun i z _ _ => by rw [if_neg (by omega)]), i2⟩
    rotate_left
    · rintro y M2 hy ⟨j1, j2⟩ ih2
      refine bX8_findTerms_26 _ _ ⟨fun h => absurd h (nI_nlt (by omega) (by omega)), fun _ => ?_⟩
      have e1 : nI k * 36 + nI y = nI (36 * k + y) := by rw [fa_lit 36, n_mul, nI_add, Nat.mul_comm]
      have e2 : (nI k + 1) * 36 + nI y + 1 = nI (36 * (k + 1) + (y + 1)) := by rw [← nI_succ, fa_lit 36, n_mul, nI_add, ← nI_succ, Nat.mul_comm, Nat.add_assoc]
      rw [e1, e2, n_cl (show 36 * k + y < 2 ^ 31 by omega), n_cl (show 36 * (k + 1) + (y + 1) < 2 ^ 31 by omega)]
      have y1 := j1 k y (by omega) (by omega)
      dsimp only at y1
      rw [if_neg (by omega)] at y1
      rw [y1, ← nI_succ]
      refine ⟨n_in (by omega) (by omega), n_in (by omega) (by omega), ih2 _ ⟨(j1.set (show y + 1 < 36 by omega)).cong (fun i z _ _ => ?_), fun o ho => by rw [ms_row _ _ _ _ _ ho]; exact j2 o ho⟩⟩
      by_cases c : i = k + 1 ∧ z = y + 1
      · rw [if_pos c, if_pos (by omega), c.2]; rfl
      · rw [if_neg c]
        by_cases c2 : i = k + 1 ∧ 1 ≤ z ∧ z < y + 1
        · rw [if_pos c2, if_pos (by omega)]
        · rw [if_neg c2, if_neg (by omega)]
    rintro M2 ⟨j1, j2⟩
    refine bX8_findTerms_26 _ _ ⟨fun _ => ?_, fun h => absurd (nI_lt (by omega) (by omega)) h⟩
    -- the terms above the diagonal
    let R : Nat → Nat → Nat := fun s z => zm (zQ0 Q k z - zis (zQs A Q k z) s) p
    have j1' : sPo M2 (va_up Q (k + 1) (R 0)) := j1.cong (fun i z _ hz => by
      unfold va_up
      by_cases c : i = k + 1
      · rw [if_pos c]
        show _ = zm (zQ0 Q k z - 0) p
        rw [Int.sub_zero, hQ0]
        by_cases c0 : z = 0
        · rw [if_pos c0, if_neg (by omega), hQz i z (by omega)]
        · rw [if_neg c0]
          by_cases c2 : z < k + 1 + 1
          · rw [if_pos ⟨c, by omega, c2⟩]
          · rw [if_neg (fun q => c2 q.2.2), hQz i z (by omega), hQd k (z - 1) (by omega)]
      · rw [if_neg c, if_neg (fun q => c q.1)])
    have hRl : ∀ s z, R s z < p := fun s z => zm_lt hp0
    -- the end of a step
    have hend : ∀ M4 : a_M, sPo M4 (va_up Q (k + 1) (R (k + 1))) → (∀ o, o ≠ 26 → M4 o = M o) → wX8_findTerms X ad ca d x (q_v (PT x) (fun M' => (∀ z, z ≤ w → M' 29 z = nI (zQ p A w w z)) ∧ ∀ o, o ≠ 26 → o ≠ 29 → M' o = M o)) 150 [(0, .ref 23), (1, .int (nI k))] M4 := by
      intro M4 h1 h2
      refine bX8_findTerms_150 _ ?_
      rw [← nI_succ]
      refine ih M4 ⟨?_, h2⟩
      show sPo M4 (va_up (zQ p A k) (k + 1) (zQr p A (zQ p A k) k))
      rw [hQ]
      exact h1
    have hmain := a_loop (σ := a_M) (fun s M' => (s = k + 1 → wX8_findTerms X ad ca d x (q_v (PT x) (fun M' => (∀ z, z ≤ w → M' 29 z = nI (zQ p A w w z)) ∧ ∀ o, o ≠ 26 → o ≠ 29 → M' o = M o)) 67 [(0, .ref 23), (1, .int (nI k)), (2, .int 0), (3, .int (-1))] M') ∧ (s ≤ k → wX8_findTerms X ad ca d x (q_v (PT x) (fun M' => (∀ z, z ≤ w → M' 29 z = nI (zQ p A w w z)) ∧ ∀ o, o ≠ 26 → o ≠ 29 → M' o = M o)) 67 [(0, .ref 23), (1, .int (nI k)), (2, .int (nI (zsd A k s % p))), (3, .int (nI (k - s)))] M')) (fun s M' => sPo M' (va_up Q (k + 1) (R s)) ∧ ∀ o, o ≠ 26 → M' o = M o) (k + 1) ?_ ?_ 0 M2 (Nat.zero_le _) ⟨j1', j2⟩
    · have := hmain.2 (Nat.zero_le _)
      rw [show zsd A k 0 % p = 1 from Nat.mod_eq_of_lt (show 1 < p by omega), Nat.sub_zero] at this
      exact this
    · rintro M3 ⟨k1, k2⟩
      refine ⟨fun _ => bX8_findTerms_67 _ _ _ ⟨fun _ => hend M3 k1 k2, fun q => absurd (show (-1 : Int32) < 0 by decide) q⟩, fun q => by omega⟩
    · rintro s M3 hs ⟨k1, k2⟩ ih3
      refine ⟨fun q => by omega, fun _ => ?_⟩
      have hsdl : zsd A k s % p < p := Nat.mod_lt _ hp0
      refine bX8_findTerms_67 _ _ _ ⟨fun q => absurd q (nI_pos (by omega)), fun _ => ⟨fun q => ?_, fun q => ?_⟩⟩
      · have h0 : zsd A k s % p = 0 := (nI_eq (b := 0) (by omega) (by omega)).mp q
        refine hend M3 (k1.cong (fun i z _ _ => ?_)) k2
        unfold va_up
        split
        · obtain ⟨e, he⟩ := zis_z hp0 (Q := Q) (z := z) h0 (k + 1 - s)
          rw [show s + (k + 1 - s) = k + 1 by omega] at he
          refine zm_c e ?_
          rw [he]
          omega
        · rfl
      have c1 := z_cellb (i := k - s) (j := k) (w := w) (by omega) (by omega) hw35
      have e1 : nI (k - s) * nI w + nI k = nI ((k - s) * w + k) := by rw [n_mul, nI_add]
      rw [k2 23 (by decide), h9, k2 24 (by decide), hP, k2 25 (by decide), e1, n_cl (show (k - s) * w + k < 2 ^ 31 by omega)]
      obtain ⟨b1, b2⟩ := hB (k - s) k (by omega) (by omega)
      have hb3 := n_p2 b2 hsdl (by omega)
      rw [b1, n_mul]
      refine ⟨n_in c1 (by omega), _, kX11_left (by omega) _ hp0 (by omega), ?_⟩
      rintro v4 M3 ⟨rfl, rfl⟩
      rw [zm_nI (by omega), ← nI_succ]
      have hQ' : ∀ a z, va_up Q (k + 1) (R s) a z < p := fun a z => by
        unfold va_up
        split
        · exact hRl s z
        · exact hQp a z
      refine ⟨_, kX8_takeStepOff (by omega) (by rw [k2 24 (by decide)]; exact hP) hp0 hpb.2 k1 hQ' (by omega) (show k - s < k + 1 by omega) (Nat.mod_lt _ hp0) (fun z hz => by rw [vn _ _ _ _ (show k - s ≠ k + 1 by omega)]; exact hQd _ z hz), ?_⟩
      rintro M4 ⟨t1, t2⟩
      have f4 : ∀ o, o ≠ 26 → M4 o = M o := fun o ho => by rw [t2 o ho, k2 o ho]
      have t1' : sPo M4 (va_up Q (k + 1) (R (s + 1))) := t1.cong (fun i z _ _ => by
        by_cases c : i = k + 1
        · rw [c, vu, vu, vu, vn _ _ _ _ (show k - s ≠ k + 1 by omega)]
          show zm ((zm (zQ0 Q k z - zis (zQs A Q k z) s) p : Int) - _) p = zm (zQ0 Q k z - (zis (zQs A Q k z) s + zQs A Q k z s)) p
          rw [zm_step (c := ((zsd A k s * A (k - s) k : Nat) : Int)) hp0 ?_]
          · unfold zQs
            rw [Int.natCast_mul (zsd A k s * A (k - s) k)]
          · obtain ⟨e, he⟩ := zn_d (A (k - s) k * (zsd A k s % p)) hp0
            obtain ⟨e', he'⟩ := zn_d (zsd A k s) hp0
            refine ⟨e + A (k - s) k * e', ?_⟩
            rw [he, Int.natCast_mul, he', Int.natCast_mul, Int.mul_add, Int.mul_add, Int.mul_comm (zsd A k s : Int), Int.add_assoc]
            congr 1
            rw [Int.add_comm, Int.mul_left_comm]
        · rw [vn _ _ _ _ c, vn _ _ _ _ c, vn _ _ _ _ c])
      have e3 : nI (k - s) + -1 = nI (k - s) - 1 := n_mm _
      rw [e3]
      obtain ⟨y1, y2⟩ := ih3 M4 ⟨t1', f4⟩
      refine ⟨fun q => ?_, fun q => ?_⟩
      · have hks : k - s = 0 := by
          rcases Nat.eq_zero_or_pos (k - s) with z | z
          · exact z
          · exact absurd q (nI_nle z (by omega))
        rw [hks, show nI 0 - 1 = (-1 : Int32) by decide]
        exact y1 (by omega)
      · have hks : 1 ≤ k - s := by
          rcases Nat.eq_zero_or_pos (k - s) with z | z
          · rw [z] at q; exact absurd (show nI 0 ≤ 0 by decide) q
          · exact z
        have c2 := z_cellb (i := k - s) (j := k - s - 1) (w := w) (by omega) (by omega) hw35
        have e4 : nI (k - s) * nI w + nI (k - s) - 1 = nI ((k - s) * w + (k - s - 1)) := by
          rw [n_mul, nI_add, show (k - s) * w + (k - s - 1) = (k - s) * w + (k - s) - 1 by omega]
          exact pk_sub (b := 1) (by omega)
        rw [f4 23 (by decide), h9, f4 24 (by decide), hP, f4 25 (by decide), e4, n_cl (show (k - s) * w + (k - s - 1) < 2 ^ 31 by omega)]
        obtain ⟨b3, b4⟩ := hB (k - s) (k - s - 1) (by omega) (by omega)
        have hb5 := n_p2 hsdl b4 (by omega)
        rw [b3, n_mul]
        refine ⟨n_in c2 (by omega), _, kX11_left (by omega) _ hp0 (by omega), ?_⟩
        rintro v5 M5 ⟨rfl, rfl⟩
        rw [zm_nI (by omega), Nat.mod_mul_mod, show nI (k - s) - 1 = nI (k - (s + 1)) from by rw [show k - (s + 1) = k - s - 1 by omega]; exact pk_sub (b := 1) hks]
        exact y2 (by omega)
  · show (ms (mf M 26 0 (fun _ => 0) 1296) 26 0 1) 26 (36 * i + z) = nI (if i = 0 ∧ z = 0 then 1 else 0)
    by_cases c : i = 0 ∧ z = 0
    · rw [if_pos c, c.1, c.2]
      exact ms_is _ _ _ _
    · rw [if_neg c, ms_no _ _ _ _ _ _ (by omega), mf_in _ _ _ _ _ _ (Nat.zero_le _) (by omega)]
      rfl
end Z36
