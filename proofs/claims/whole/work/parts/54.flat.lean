/-! MATHEMATICS 3: bending leaves a square with nothing two below the diagonal -/
theorem zr1_no {p k m f : Nat} {A : Nat → Nat → Nat} {a b : Nat} (h : a ≠ k) : zr1 p k m f A a b = A a b := by unfold zr1; rw [if_neg h]
theorem zr1_is {p k m f : Nat} {A : Nat → Nat → Nat} {b : Nat} : zr1 p k m f A k b = zm ((A k b : Int) - (f : Int) * (A m b : Int)) p := by unfold zr1; rw [if_pos rfl]
theorem zr2_no {p k m f : Nat} {A : Nat → Nat → Nat} {a b : Nat} (h : b ≠ m) : zr2 p k m f A a b = A a b := by unfold zr2; rw [if_neg h]
theorem zr2_is {p k m f : Nat} {A : Nat → Nat → Nat} {a : Nat} : zr2 p k m f A a m = zm ((A a m : Int) + (f : Int) * (A a k : Int)) p := by unfold zr2; rw [if_pos rfl]
theorem zm_0 (p : Nat) : zm 0 p = 0 := by unfold zm; simp
theorem zv_off {p a b : Nat} (hp : p ∈ zpl) (ha : a < p) (hb : b < p) (h0 : b ≠ 0) : zm ((a : Int) - (zv p a b : Int) * (b : Int)) p = 0 := by
  have h := zv_mul hp ha hb h0
  have hp0 : 0 < p := by have := zpl_b p hp; omega
  have h2 := Nat.div_add_mod (zv p a b * b) p
  rw [h] at h2
  rw [zm_z hp0]
  refine ⟨-((zv p a b * b / p : Nat) : Int), ?_⟩
  have h3 : ((p * (zv p a b * b / p) + a : Nat) : Int) = ((zv p a b * b : Nat) : Int) := by rw [h2]
  rw [Int.natCast_add, Int.natCast_mul, Int.natCast_mul (zv p a b)] at h3
  rw [Int.mul_neg]
  omega
theorem zv_zero {p a b : Nat} (hp : p ∈ zpl) (ha : a < p) (hb : b < p) (h0 : b ≠ 0) (h : zv p a b = 0) : a = 0 := by
  have h1 := zv_mul hp ha hb h0
  rw [h, Nat.zero_mul, Nat.zero_mod] at h1
  exact h1.symm
theorem zel_hess {p w m : Nat} {B : Nat → Nat → Nat} (hp : p ∈ zpl) (hm : 1 ≤ m) (hmw : m < w) (hB : ∀ a b, a < w → b < w → B a b < p) (h0 : B m (m - 1) ≠ 0) (hz : ∀ c, c < m - 1 → ∀ a, c + 1 < a → a < w → B a c = 0) : ∀ j, j ≤ w - (m + 1) → (∀ a c, (a ≤ m ∨ m + 1 + j ≤ a) → c < m → zel p m B j a c = B a c) ∧ (∀ c, c < m - 1 → ∀ a, c + 1 < a → a < w → zel p m B j a c = 0) ∧ (∀ a, m + 1 ≤ a → a < m + 1 + j → zel p m B j a (m - 1) = 0)
  | 0, _ => ⟨fun _ _ _ _ => rfl, hz, fun a h1 h2 => by omega⟩
  | j + 1, hj => by
    have hp0 : 0 < p := by have := zpl_b p hp; omega
    obtain ⟨i1, i2, i3⟩ := zel_hess hp hm hmw hB h0 hz j (by omega)
    have hlt := zel_lt (m := m) hp0 hB j
    show (∀ a c, _ → _ → zre p (m + 1 + j) m _ (zel p m B j) a c = _) ∧ (∀ c, _ → ∀ a, _ → _ → zre p (m + 1 + j) m _ (zel p m B j) a c = 0) ∧ (∀ a, _ → _ → zre p (m + 1 + j) m _ (zel p m B j) a (m - 1) = 0)
    have hmm : zel p m B j m (m - 1) = B m (m - 1) := i1 m (m - 1) (Or.inl (Nat.le_refl _)) (by omega)
    have hne : zel p m B j m (m - 1) ≠ 0 := by rw [hmm]; exact h0
    have hl1 := hlt (m + 1 + j) (m - 1) (by omega) (by omega)
    have hl2 := hlt m (m - 1) (by omega) (by omega)
    generalize hf : zv p (zel p m B j (m + 1 + j) (m - 1)) (zel p m B j m (m - 1)) = f
    by_cases c0 : f = 0
    · have ez : zre p (m + 1 + j) m f (zel p m B j) = zel p m B j := by unfold zre; rw [if_pos c0]
      rw [ez]
      refine ⟨fun a c h1 h2 => i1 a c (by omega) h2, i2, fun a h1 h2 => ?_⟩
      by_cases c1 : a = m + 1 + j
      · rw [c1]
        exact zv_zero hp hl1 hl2 hne (by rw [hf]; exact c0)
      · exact i3 a h1 (by omega)
    · have ez : zre p (m + 1 + j) m f (zel p m B j) = zr2 p (m + 1 + j) m f (zr1 p (m + 1 + j) m f (zel p m B j)) := by unfold zre; rw [if_neg c0]
      rw [ez]
      refine ⟨fun a c h1 h2 => ?_, fun c hc a h1 h2 => ?_, fun a h1 h2 => ?_⟩
      · rw [zr2_no (by omega), zr1_no (by omega)]
        exact i1 a c (by omega) h2
      · rw [zr2_no (by omega)]
        by_cases c1 : a = m + 1 + j
        · subst c1
          rw [zr1_is, i2 c hc _ h1 h2, i2 c hc m (by omega) hmw]
          show zm ((0 : Int) - (f : Int) * 0) p = 0
          rw [Int.mul_zero]
          exact zm_0 p
        · rw [zr1_no c1]; exact i2 c hc a h1 h2
      · rw [zr2_no (by omega)]
        by_cases c1 : a = m + 1 + j
        · subst c1
          rw [zr1_is, ← hf]
          exact zv_off hp hl1 hl2 hne
        · rw [zr1_no c1]; exact i3 a h1 (by omega)
theorem zsw_hess {w m j : Nat} {A : Nat → Nat → Nat} (hm : 1 ≤ m) (hmw : m + j < w) (hz : ∀ c, c < m - 1 → ∀ a, c + 1 < a → a < w → A a c = 0) : (∀ c, c < m - 1 → ∀ a, c + 1 < a → a < w → zsw (m + j) m A a c = 0) ∧ zsw (m + j) m A m (m - 1) = A (m + j) (m - 1) := by
  have ht : ∀ c, c < m → ztr (m + j) m c = c := fun c hc => by unfold ztr; rw [if_neg (by omega), if_neg (by omega)]
  refine ⟨fun c hc a h1 h2 => ?_, ?_⟩
  · unfold zsw
    rw [ht c (by omega)]
    refine hz c hc _ ?_ ?_ <;> unfold ztr <;> split <;> try split
    all_goals omega
  · unfold zsw
    rw [ht (m - 1) (by omega)]
    congr 1
    unfold ztr
    split
    · omega
    · rw [if_pos rfl]
theorem zpv_some {A : Nat → Nat → Nat} {m w j : Nat} (h : zpv A m w = some j) : j < w - m ∧ A (m + j) (m - 1) ≠ 0 := by
  have h1 := zEf_lt _ _ _ h
  refine ⟨h1, fun q => ?_⟩
  have hb : ∀ (f : Nat → Bool) i q, zEf f i = some q → f q = false := by
    intro f i
    induction i with
    | zero => intro q h; cases h
    | succ i ih =>
      intro q h
      unfold zEf at h
      cases h2 : zEf f i with
      | some q' => rw [h2] at h; cases h; exact ih q h2
      | none =>
        rw [h2] at h
        dsimp only at h
        split at h
        · cases h
        · rename_i hc
          cases h
          exact Bool.eq_false_iff.mpr hc
  have h2 := hb _ _ _ h
  have h3 : zpf A m j = false := by unfold zpf; rw [q]; rfl
  rw [h3] at h2
  cases h2
theorem zpv_none {A : Nat → Nat → Nat} {m w : Nat} (h : zpv A m w = none) : ∀ j, j < w - m → A (m + j) (m - 1) = 0 := by
  intro j hj
  refine Classical.byContradiction fun q => ?_
  have hp : zpf A m j = true := by unfold zpf; rw [Bool.not_eq_true', beq_eq_false_iff_ne]; exact q
  have hs : ∀ (i : Nat), j < i → zEf (fun y => !zpf A m y) i ≠ none := by
    intro i
    induction i with
    | zero => intro h; omega
    | succ i ih =>
      intro h h2
      unfold zEf at h2
      cases h3 : zEf (fun y => !zpf A m y) i with
      | some q' => rw [h3] at h2; cases h2
      | none =>
        by_cases c : j = i
        · subst c
          rw [h3] at h2
          dsimp only at h2
          rw [hp] at h2
          cases h2
        · exact ih (by omega) h3
  exact hs _ hj h
theorem zbs_hess {p w m : Nat} {A : Nat → Nat → Nat} (hp : p ∈ zpl) (hm : 1 ≤ m) (hmw : m < w) (hA : ∀ a b, a < w → b < w → A a b < p) (hz : ∀ c, c < m - 1 → ∀ a, c + 1 < a → a < w → A a c = 0) : ∀ c, c < m → ∀ a, c + 1 < a → a < w → zbs p w m A a c = 0 := by
  unfold zbs
  cases h : zpv A m w with
  | none =>
    dsimp only
    intro c hc a h1 h2
    by_cases c1 : c = m - 1
    · have := zpv_none h (a - m) (by omega)
      rw [show m + (a - m) = a by omega] at this
      rw [c1]; exact this
    · exact hz c (by omega) a h1 h2
  | some j =>
    dsimp only
    obtain ⟨hj, hne⟩ := zpv_some h
    obtain ⟨s1, s2⟩ := zsw_hess hm (show m + j < w by omega) hz
    obtain ⟨-, e2, e3⟩ := zel_hess hp hm hmw (zsw_lt (show m + j < w by omega) hmw hA) (by rw [s2]; exact hne) s1 (w - (m + 1)) (Nat.le_refl _)
    intro c hc a h1 h2
    by_cases c1 : c = m - 1
    · rw [c1]; exact e3 a (by omega) (by omega)
    · exact e2 c (by omega) a h1 h2
theorem zbk_hess {p w : Nat} {A : Nat → Nat → Nat} (hp : p ∈ zpl) (hA : ∀ a b, a < w → b < w → A a b < p) : ∀ j, j + 1 < w ∨ j = 0 → ∀ c, c < j → ∀ a, c + 1 < a → a < w → zbk p w A j a c = 0
  | 0, _ => fun c hc => absurd hc (Nat.not_lt_zero _)
  | j + 1, hj => zbs_hess hp (by omega) (by omega) (zbk_lt (by have := zpl_b p hp; omega) hA j (by omega)) (fun c hc => zbk_hess hp hA j (by omega) c (by omega))
theorem zbn_hess {p w : Nat} {A : Nat → Nat → Nat} (hp : p ∈ zpl) (hA : ∀ a b, a < w → b < w → A a b < p) : ∀ a c, c + 1 < a → a < w → zbn p w A a c = 0 := fun a c h1 h2 => zbk_hess hp hA (w - 2) (by omega) c (by omega) a h1 h2
/-! CONTRACTS 34: Spectrum: bending -/
theorem mB.set {M : a_M} {o w p a1 b1 v : Nat} {F : Nat → Nat → Nat} (h : mB M o w p F) (h2 : b1 < w) (hv : v < p) : mB (ms M o (a1 * w + b1) (nI v)) o w p (fun a b => if a = a1 ∧ b = b1 then v else F a b) := by
  intro i j hi hj
  dsimp only
  by_cases c : i = a1 ∧ j = b1
  · rw [if_pos c, c.1, c.2, ms_is]; exact ⟨rfl, hv⟩
  · rw [if_neg c, ms_no _ _ _ _ _ _ (fun q => c (z_cell hj h2 q.2))]; exact h i j hi hj
theorem mB.cong {M : a_M} {o w p : Nat} {F G : Nat → Nat → Nat} (h : mB M o w p F) (he : ∀ i j, i < w → j < w → F i j = G i j) : mB M o w p G := fun i j hi hj => by rw [← he i j hi hj]; exact h i j hi hj
theorem mB.same {M M' : a_M} {o w p : Nat} {F : Nat → Nat → Nat} (h : mB M o w p F) (he : M' o = M o) : mB M' o w p F := fun i j hi hj => by rw [he]; exact h i j hi hj
theorem mB.lt {M : a_M} {o w p : Nat} {F : Nat → Nat → Nat} (h : mB M o w p F) : ∀ a b, a < w → b < w → F a b < p := fun a b ha hb => (h a b ha hb).2
theorem n_sub0 {a b : Nat} (ha : a < 2 ^ 30) (hb : b < 2 ^ 30) : (nI a - nI b).toInt = (a : Int) - (b : Int) := by
  have h1 : (nI a).toInt = (a : Int) := nI_toInt (by omega)
  have h2 : (nI b).toInt = (b : Int) := nI_toInt (by omega)
  rw [fb_subI (by omega) (by omega), h1, h2]
theorem ztr_lt {i m a w : Nat} (hi : i < w) (hm : m < w) (ha : a < w) : ztr i m a < w := by unfold ztr; split <;> try split
                                                                                            all_goals omega
section Z35
variable {X : a_X} {ad : Nat → Nat} {ca : Nat → ClassId} {d x : Nat} {M : a_M}
theorem kX8_pivotFor (hd : 1 ≤ d) {w p m : Nat} {A : Nat → Nat → Nat} (h9 : M 23 9 = nI w) (hw35 : w ≤ 35) (hB : mB M 25 w p A) (hp : p ≤ 97) (hm : 1 ≤ m) (hmw : m < w) :
    mX8_pivotFor X ad ca d x [.ref 23, .int (nI m)] M (q_i (PT x) (fun s M' => M' = M ∧ s = match zpv A m w with | some j => nI (m + j) | none => -1)) := by
  obtain ⟨d, rfl⟩ := a_d1 hd
  refine eX8_pivotFor _ (bX8_pivotFor_0 _ ?_)
  have key := a_loop (σ := Unit) (fun y _ => wX8_pivotFor X ad ca d x (q_i (PT x) (fun s M' => M' = M ∧ s = match zpv A m w with | some j => nI (m + j) | none => -1)) 2 [(0, .ref 23), (1, .int (nI m)), (2, .int (nI (m + y)))] M) (fun y _ => ∀ y', y' < y → zpf A m y' = false) (w - m) ?_ ?_ 0 () (Nat.zero_le _) (fun y' h => absurd h (Nat.not_lt_zero _))
  · exact key
  · rintro _ h
    refine bX8_pivotFor_2 _ _ ?_
    rw [h9]
    refine ⟨fun _ => ⟨_, rfl, rfl, rfl, ?_⟩, fun q => absurd (nI_le (by omega) (by omega)) q⟩
    have hz : zpv A m w = none := zff_succ _ _ h
    rw [hz]
  · rintro y _ hy h ih
    have hcell := z_cellb (i := m + y) (j := m - 1) (w := w) (by omega) (by omega) hw35
    have ec : nI (m + y) * nI w + nI m - 1 = nI ((m + y) * w + (m - 1)) := by
      rw [n_mul, nI_add, show (m + y) * w + (m - 1) = (m + y) * w + m - 1 by omega]
      exact pk_sub (b := 1) (by omega)
    refine bX8_pivotFor_2 _ _ ?_
    rw [h9, ec, n_cl (show (m + y) * w + (m - 1) < 2 ^ 31 by omega)]
    obtain ⟨b1, b2⟩ := hB (m + y) (m - 1) (by omega) (by omega)
    rw [b1]
    refine ⟨fun q => absurd q (nI_ge (by omega) (by omega)), fun _ => ⟨n_in hcell (by omega), fun q => ?_, fun q => ⟨_, rfl, rfl, rfl, ?_⟩⟩⟩
    · rw [← nI_succ]
      refine ih () (fun y' hy' => ?_)
      by_cases c : y' = y
      · have : A (m + y) (m - 1) = 0 := (nI_eq (b := 0) (by omega) (by omega)).mp q
        rw [c]; unfold zpf; rw [this]; rfl
      · exact h y' (by omega)
    · have hne : A (m + y) (m - 1) ≠ 0 := fun z => q (by rw [z]; rfl)
      have hz : zpv A m w = some y := zff_at (zpf A m) y (w - m) h (by unfold zpf; rw [Bool.not_eq_true', beq_eq_false_iff_ne]; exact hne) hy
      rw [hz]
theorem kX8_swapCells (hd : 1 ≤ d) {a b : Nat} (ha : a < 1225) (hb : b < 1225) : mX8_swapCells X ad ca d x [.ref 23, .int (nI a), .int (nI b)] M (q_v (PT x) (fun M' => M' = ms (ms M 25 a (M 25 b)) 25 b (M 25 a))) := by
  obtain ⟨d, rfl⟩ := a_d1 hd
  refine eX8_swapCells _ _ (bX8_swapCells_0 _ _ ?_)
  rw [n_cl (by omega), n_cl (by omega)]
  exact ⟨n_in ha (by omega), n_in hb (by omega), n_in ha (by omega), n_in hb (by omega), rfl, rfl, rfl⟩
theorem kX8_swapBoth (hd : 2 ≤ d) {w p i k : Nat} {A : Nat → Nat → Nat} (h9 : M 23 9 = nI w) (hw35 : w ≤ 35) (hB : mB M 25 w p A) (hi : i < w) (hk : k < w) :
    mX8_swapBoth X ad ca d x [.ref 23, .int (nI k), .int (nI i)] M (q_v (PT x) (fun M' => mB M' 25 w p (zsw i k A) ∧ ∀ o, o ≠ 25 → M' o = M o)) := by
  obtain ⟨d, rfl⟩ := a_d1 (show 1 ≤ d by omega)
  refine eX8_swapBoth _ _ (bX8_swapBoth_0 _ _ ⟨fun h => ?_, fun h => ⟨rfl, rfl, ?_, fun _ _ => rfl⟩⟩)
  rotate_left
  · have : i = k := (nI_eq (by omega) (by omega)).mp h
    subst this
    rw [zsw_same]; exact hB
  have hik : i ≠ k := fun q => h (by rw [q])
  refine a_loop (σ := a_M) (fun z M' => wX8_swapBoth X ad ca d x _ 8 [(0, .ref 23), (1, .int (nI k)), (2, .int (nI i)), (3, .int (nI z))] M') (fun z M' => mB M' 25 w p (fun a b => if b < z then A (ztr i k a) b else A a b) ∧ ∀ o, o ≠ 25 → M' o = M o) w ?_ ?_ 0 M (Nat.zero_le _) ⟨hB.cong (fun a b _ _ => by rw [if_neg (by omega)]), fun _ _ => rfl⟩
  rotate_left
  · rintro z M1 hz ⟨i1, i2⟩ ih
    refine bX8_swapBoth_8 _ _ _ ?_
    rw [i2 23 (by decide), h9]
    refine ⟨fun q => absurd q (nI_ge hz (by omega)), fun _ => ?_⟩
    rw [n_mul, n_mul, nI_add, nI_add]
    refine ⟨_, kX8_swapCells (by omega) (z_cellb hk hz hw35) (z_cellb hi hz hw35), ?_⟩
    rintro M2 rfl
    obtain ⟨y1, y2⟩ := i1 k z hk hz
    obtain ⟨y3, y4⟩ := i1 i z hi hz
    dsimp only at y1 y2 y3 y4
    rw [if_neg (by omega)] at y1 y2 y3 y4
    rw [y1, y3, ← nI_succ]
    refine ih _ ⟨((i1.set hz y4).set hz y2).cong (fun a b ha hb => ?_), fun o ho => by rw [ms_row _ _ _ _ _ ho, ms_row _ _ _ _ _ ho]; exact i2 o ho⟩
    by_cases c1 : b = z
    · subst c1
      rw [if_pos (show b < b + 1 by omega)]
      by_cases c2 : a = i
      · have e1 : ztr i k a = k := by unfold ztr; rw [if_pos c2]
        rw [if_pos ⟨c2, rfl⟩, e1]
      · rw [if_neg (fun q => c2 q.1)]
        by_cases c3 : a = k
        · have e1 : ztr i k a = i := by unfold ztr; rw [if_neg c2, if_pos c3]
          rw [if_pos ⟨c3, rfl⟩, e1]
        · have e1 : ztr i k a = a := by unfold ztr; rw [if_neg c2, if_neg c3]
          rw [if_neg (fun q => c3 q.1), if_neg (by omega), e1]
    · rw [if_neg (fun q => c1 q.2), if_neg (fun q => c1 q.2)]
      by_cases c2 : b < z
      · rw [if_pos c2, if_pos (by omega)]
      · rw [if_neg c2, if_neg (by omega)]
  rintro M1 ⟨i1, i2⟩
  refine bX8_swapBoth_8 _ _ _ ?_
  rw [i2 23 (by decide), h9]
  refine ⟨fun _ => ?_, fun q => absurd (nI_le (Nat.le_refl _) (by omega)) q⟩
  have i1' : mB M1 25 w p (fun a b => A (ztr i k a) b) := i1.cong (fun a b _ hb => by rw [if_pos hb])
  refine a_loop (σ := a_M) (fun z M' => wX8_swapBoth X ad ca d x _ 44 [(0, .ref 23), (1, .int (nI k)), (2, .int (nI i)), (3, .int (nI z))] M') (fun z M' => mB M' 25 w p (fun a b => if a < z then A (ztr i k a) (ztr i k b) else A (ztr i k a) b) ∧ ∀ o, o ≠ 25 → M' o = M o) w ?_ ?_ 0 M1 (Nat.zero_le _) ⟨i1'.cong (fun a b _ _ => by rw [if_neg (by omega)]), i2⟩
  · rintro M2 ⟨j1, j2⟩
    refine bX8_swapBoth_44 _ _ _ ?_
    rw [j2 23 (by decide), h9]
    exact ⟨fun _ => ⟨rfl, rfl, j1.cong (fun a b ha _ => by rw [if_pos ha]; rfl), j2⟩, fun q => absurd (nI_le (Nat.le_refl _) (by omega)) q⟩
  · rintro z M2 hz ⟨j1, j2⟩ ih
    refine bX8_swapBoth_44 _ _ _ ?_
    rw [j2 23 (by decide), h9]
    refine ⟨fun q => absurd q (nI_ge hz (by omega)), fun _ => ?_⟩
    rw [n_mul, nI_add, nI_add]
    refine ⟨_, kX8_swapCells (by omega) (z_cellb hz hk hw35) (z_cellb hz hi hw35), ?_⟩
    rintro M3 rfl
    obtain ⟨y1, y2⟩ := j1 z k hz hk
    obtain ⟨y3, y4⟩ := j1 z i hz hi
    dsimp only at y1 y2 y3 y4
    rw [if_neg (by omega)] at y1 y2 y3 y4
    rw [y1, y3, ← nI_succ]
    refine ih _ ⟨((j1.set hk y4).set hi y2).cong (fun a b ha hb => ?_), fun o ho => by rw [ms_row _ _ _ _ _ ho, ms_row _ _ _ _ _ ho]; exact j2 o ho⟩
    by_cases c1 : a = z
    · subst c1
      rw [if_pos (show a < a + 1 by omega)]
      by_cases c2 : b = i
      · have e1 : ztr i k b = k := by unfold ztr; rw [if_pos c2]
        rw [if_pos ⟨rfl, c2⟩, e1]
      · rw [if_neg (fun q => c2 q.2)]
        by_cases c3 : b = k
        · have e1 : ztr i k b = i := by unfold ztr; rw [if_neg c2, if_pos c3]
          rw [if_pos ⟨rfl, c3⟩, e1]
        · have e1 : ztr i k b = b := by unfold ztr; rw [if_neg c2, if_neg c3]
          rw [if_neg (fun q => c3 q.2), if_neg (by omega), e1]
    · rw [if_neg (fun q => c1 q.1), if_neg (fun q => c1 q.1)]
      by_cases c2 : a < z
      · rw [if_pos c2, if_pos (by omega)]
      · rw [if_neg c2, if_neg (by omega)]
theorem kX8_takeRowOff (hd : 2 ≤ d) {w p i k f : Nat} {A : Nat → Nat → Nat} (h9 : M 23 9 = nI w) (hP : M 24 2 = nI p) (hw35 : w ≤ 35) (hp0 : 0 < p) (hp : p ≤ 97) (hB : mB M 25 w p A) (hk1 : 1 ≤ k) (hki : k < i) (hi : i < w) (hf : f < p) (hz : ∀ b, b < k - 1 → A k b = 0) :
    mX8_takeRowOff X ad ca d x [.ref 23, .int (nI k), .int (nI i), .int (nI f)] M (q_v (PT x) (fun M' => mB M' 25 w p (zr2 p i k f (zr1 p i k f A)) ∧ ∀ o, o ≠ 25 → M' o = M o)) := by
  obtain ⟨d, rfl⟩ := a_d1 (show 1 ≤ d by omega)
  refine eX8_takeRowOff _ _ _ (bX8_takeRowOff_0 _ _ _ ?_)
  rw [show nI k - 1 = nI (k - 1) from pk_sub (b := 1) hk1]
  refine a_loop (σ := a_M) (fun z M' => wX8_takeRowOff X ad ca d x _ 5 [(0, .ref 23), (1, .int (nI k)), (2, .int (nI i)), (3, .int (nI f)), (4, .int (nI z))] M') (fun z M' => k - 1 ≤ z ∧ mB M' 25 w p (fun a b => if a = i ∧ b < z then zm ((A i b : Int) - (f : Int) * (A k b : Int)) p else A a b) ∧ ∀ o, o ≠ 25 → M' o = M o) w ?_ ?_ (k - 1) M (by omega) ⟨Nat.le_refl _, hB.cong (fun a b ha hb => ?_), fun _ _ => rfl⟩
  rotate_left
  · rintro z M1 hzw ⟨hz1, i1, i2⟩ ih
    refine bX8_takeRowOff_5 _ _ _ _ ?_
    rw [i2 23 (by decide), h9, i2 24 (by decide), hP]
    refine ⟨fun q => absurd q (nI_ge hzw (by omega)), fun _ => ?_⟩
    have c1 := z_cellb hi hzw hw35
    have c2 := z_cellb (show k < w by omega) hzw hw35
    rw [n_mul, n_mul, nI_add, nI_add, n_cl (by omega), n_cl (by omega)]
    obtain ⟨y1, y2⟩ := i1 i z hi hzw
    obtain ⟨y3, y4⟩ := i1 k z (by omega) hzw
    dsimp only at y1 y2 y3 y4
    rw [if_neg (by omega)] at y1 y2 y3 y4
    rw [y1, y3, n_mul]
    have hb := n_p2 hf y4 (by omega)
    refine ⟨n_in c1 (by omega), n_in c2 (by omega), _, kX11_left (by omega) _ hp0 (by omega), ?_⟩
    rintro v2 M2 ⟨rfl, rfl⟩
    rw [n_sub0 (by omega) (by omega), ← nI_succ]
    refine ⟨n_in c1 (by omega), ih _ ⟨by omega, (i1.set hzw (zm_lt hp0)).cong (fun a b ha hb2 => ?_), fun o ho => by rw [ms_row _ _ _ _ _ ho]; exact i2 o ho⟩⟩
    by_cases c : a = i ∧ b = z
    · rw [if_pos c, if_pos ⟨c.1, by omega⟩, c.2, Int.natCast_mul]
    · rw [if_neg c]
      by_cases c3 : a = i ∧ b < z
      · rw [if_pos c3, if_pos ⟨c3.1, by omega⟩]
      · rw [if_neg c3, if_neg (by omega)]
  · by_cases c : a = i ∧ b < k - 1
    · rw [if_pos c, hz b c.2, c.1]
      show A i b = zm ((A i b : Int) - (f : Int) * 0) p
      rw [Int.mul_zero, Int.sub_zero, zm_small (hB i b hi hb).2]
    · rw [if_neg c]
  rintro M1 ⟨-, i1, i2⟩
  have i1' : mB M1 25 w p (zr1 p i k f A) := i1.cong (fun a b ha hb => by
    unfold zr1
    by_cases c : a = i
    · rw [if_pos ⟨c, hb⟩, if_pos c]
    · rw [if_neg (fun q => c q.1), if_neg c])
  refine bX8_takeRowOff_5 _ _ _ _ ?_
  rw [i2 23 (by decide), h9]
  refine ⟨fun _ => ?_, fun q => absurd (nI_le (Nat.le_refl _) (by omega)) q⟩
  generalize hG : zr1 p i k f A = G at i1'
  refine a_loop (σ := a_M) (fun z M' => wX8_takeRowOff X ad ca d x _ 78 [(0, .ref 23), (1, .int (nI k)), (2, .int (nI i)), (3, .int (nI f)), (4, .int (nI z))] M') (fun z M' => mB M' 25 w p (fun a b => if b = k ∧ a < z then zm ((G a k : Int) + (f : Int) * (G a i : Int)) p else G a b) ∧ ∀ o, o ≠ 25 → M' o = M o) w ?_ ?_ 0 M1 (Nat.zero_le _) ⟨i1'.cong (fun a b _ _ => by rw [if_neg (by omega)]), i2⟩
  · rintro M2 ⟨j1, j2⟩
    refine bX8_takeRowOff_78 _ _ _ _ ?_
    rw [j2 23 (by decide), h9]
    refine ⟨fun _ => ⟨rfl, rfl, j1.cong (fun a b ha _ => ?_), j2⟩, fun q => absurd (nI_le (Nat.le_refl _) (by omega)) q⟩
    unfold zr2
    by_cases c : b = k
    · rw [if_pos ⟨c, ha⟩, if_pos c]
    · rw [if_neg (fun q => c q.1), if_neg c]
  · rintro z M2 hzw ⟨j1, j2⟩ ih
    refine bX8_takeRowOff_78 _ _ _ _ ?_
    rw [j2 23 (by decide), h9, j2 24 (by decide), hP]
    refine ⟨fun q => absurd q (nI_ge hzw (by omega)), fun _ => ?_⟩
    have c1 := z_cellb hzw (show k < w by omega) hw35
    have c2 := z_cellb hzw hi hw35
    rw [n_mul, nI_add, nI_add, n_cl (by omega), n_cl (by omega)]
    obtain ⟨y1, y2⟩ := j1 z k hzw (by omega)
    obtain ⟨y3, y4⟩ := j1 z i hzw hi
    dsimp only at y1 y2 y3 y4
    rw [if_neg (by omega)] at y1 y2 y3 y4
    rw [y1, y3, n_mul, nI_add]
    have hb := n_p2 hf y4 (by omega)
    refine ⟨n_in c1 (by omega), n_in c2 (by omega), _, kX11_left (by omega) _ hp0 (by omega), ?_⟩
    rintro v2 M3 ⟨rfl, rfl⟩
    rw [nI_toInt (by omega), ← nI_succ]
    refine ⟨n_in c1 (by omega), ih _ ⟨(j1.set (show k < w by omega) (zm_lt hp0)).cong (fun a b ha hb2 => ?_), fun o ho => by rw [ms_row _ _ _ _ _ ho]; exact j2 o ho⟩⟩
    by_cases c : a = z ∧ b = k
    · rw [if_pos c, if_pos ⟨c.2, by omega⟩, c.1, Int.natCast_add, Int.natCast_mul]
    · rw [if_neg c]
      by_cases c3 : b = k ∧ a < z
      · rw [if_pos c3, if_pos ⟨c3.1, by omega⟩]
      · rw [if_neg c3, if_neg (by omega)]
theorem kX8_flatten (hd : 3 ≤ d) {w p : Nat} {A : Nat → Nat → Nat} (h9 : M 23 9 = nI w) (hP : M 24 2 = nI p) (hw35 : w ≤ 35) (hp : p ∈ zpl) (hB : mB M 25 w p A) :
    mX8_flatten X ad ca d x [.ref 23] M (q_v (PT x) (fun M' => mB M' 25 w p (zbn p w A) ∧ ∀ o, o ≠ 25 → M' o = M o)) := by
  obtain ⟨d, rfl⟩ := a_d1 (show 1 ≤ d by omega)
  have hpb := zpl_b p hp
  have hp0 : 0 < p := by omega
  have hA := hB.lt
  refine eX8_flatten (bX8_flatten_0 ?_)
  refine a_loop (σ := a_M) (fun j M' => wX8_flatten X ad ca d x _ 2 [(0, .ref 23), (1, .int (nI (j + 1)))] M') (fun j M' => mB M' 25 w p (zbk p w A j) ∧ ∀ o, o ≠ 25 → M' o = M o) (w - 2) ?_ ?_ 0 M (Nat.zero_le _) ⟨hB, fun _ _ => rfl⟩
  · rintro M1 ⟨i1, i2⟩
    refine bX8_flatten_2 _ ?_
    rw [i2 23 (by decide), h9, ← nI_succ]
    exact ⟨fun _ => ⟨rfl, rfl, i1, i2⟩, fun q => absurd (nI_le (by omega) (by omega)) q⟩
  · rintro j M1 hj ⟨i1, i2⟩ ih
    have hnx : ∀ M2 : a_M, (mB M2 25 w p (zbs p w (j + 1) (zbk p w A j)) ∧ ∀ o, o ≠ 25 → M2 o = M o) → wX8_flatten X ad ca d x (q_v (PT x) (fun M' => mB M' 25 w p (zbn p w A) ∧ ∀ o, o ≠ 25 → M' o = M o)) 102 [(0, .ref 23), (1, .int (nI (j + 1)))] M2 := fun M2 h2 => by
      refine bX8_flatten_102 _ ?_
      rw [← nI_succ]
      exact ih M2 h2
    have hBl := i1.lt
    have hBz := zbk_hess hp hA j (by omega)
    generalize zbk p w A j = B at i1 hBl hBz hnx
    refine bX8_flatten_2 _ ?_
    rw [i2 23 (by decide), h9, ← nI_succ]
    refine ⟨fun q => absurd q (nI_ge (by omega) (by omega)), fun _ => ⟨_, kX8_pivotFor (by omega) (by rw [i2 23 (by decide)]; exact h9) hw35 i1 hpb.2 (by omega) (by omega), ?_⟩⟩
    rintro v1 M1 ⟨rfl, hv1⟩
    cases hpv : zpv B (j + 1) w with
    | none =>
      rw [hpv] at hv1
      dsimp only at hv1
      subst hv1
      refine ⟨fun _ => hnx M1 ⟨?_, i2⟩, fun q => absurd rfl q⟩
      unfold zbs
      rw [hpv]
      exact i1
    | some y =>
      rw [hpv] at hv1
      dsimp only at hv1
      subst hv1
      obtain ⟨hy, hne⟩ := zpv_some hpv
      refine ⟨fun q => absurd q (nI_m1 (by omega)), fun _ => ⟨_, kX8_swapBoth (by omega) (by rw [i2 23 (by decide)]; exact h9) hw35 i1 (by omega) (by omega), ?_⟩⟩
      rintro M2 ⟨s1, s2⟩
      have s2' : ∀ o, o ≠ 25 → M2 o = M o := fun o ho => by rw [s2 o ho, i2 o ho]
      obtain ⟨z1, z2⟩ := zsw_hess (A := B) (show 1 ≤ j + 1 by omega) (show j + 1 + y < w by omega) (fun c hc => hBz c (by omega))
      have hne' : zsw (j + 1 + y) (j + 1) B (j + 1) (j + 1 - 1) ≠ 0 := by rw [z2]; exact hne
      have hSl := s1.lt
      have ebs : zbs p w (j + 1) B = zel p (j + 1) (zsw (j + 1 + y) (j + 1) B) (w - (j + 1 + 1)) := by
        show (match zpv B (j + 1) w with | none => B | some j' => _) = _
        rw [hpv]
      rw [ebs] at hnx
      generalize zsw (j + 1 + y) (j + 1) B = G at s1 z1 hne' hSl hnx
      -- the rows below
      have heh := zel_hess hp (show 1 ≤ j + 1 by omega) (show j + 1 < w by omega) hSl hne' z1
      refine a_loop (σ := a_M) (fun i M' => wX8_flatten X ad ca d x _ 33 [(0, .ref 23), (1, .int (nI (j + 1))), (3, .int (nI (j + 1 + 1 + i)))] M') (fun i M' => mB M' 25 w p (zel p (j + 1) G i) ∧ ∀ o, o ≠ 25 → M' o = M o) (w - (j + 1 + 1)) ?_ ?_ 0 M2 (Nat.zero_le _) ⟨s1, s2'⟩
      · rintro M3 ⟨k1, k2⟩
        refine bX8_flatten_33 _ _ ?_
        rw [k2 23 (by decide), h9]
        exact ⟨fun _ => hnx M3 ⟨k1, k2⟩, fun q => absurd (nI_le (by omega) (by omega)) q⟩
      · rintro i M3 hi ⟨k1, k2⟩ ih2
        obtain ⟨e1, e2, e3⟩ := heh i (by omega)
        have hnx2 : ∀ M4 : a_M, (mB M4 25 w p (zel p (j + 1) G (i + 1)) ∧ ∀ o, o ≠ 25 → M4 o = M o) → wX8_flatten X ad ca d x (q_v (PT x) (fun M' => mB M' 25 w p (zbn p w A) ∧ ∀ o, o ≠ 25 → M' o = M o)) 96 [(0, .ref 23), (1, .int (nI (j + 1))), (3, .int (nI (j + 1 + 1 + i)))] M4 := fun M4 h4 => by
          refine bX8_flatten_96 _ _ ?_
          rw [← nI_succ]
          exact ih2 M4 h4
        have c1 := z_cellb (i := j + 1 + 1 + i) (j := j) (w := w) (by omega) (by omega) hw35
        have c2 := z_cellb (i := j + 1) (j := j) (w := w) (by omega) (by omega) hw35
        have ec1 : nI (j + 1 + 1 + i) * nI w + nI (j + 1) - 1 = nI ((j + 1 + 1 + i) * w + j) := by
          rw [n_mul, nI_add, show (j + 1 + 1 + i) * w + j = (j + 1 + 1 + i) * w + (j + 1) - 1 by omega]
          exact pk_sub (b := 1) (by omega)
        have ec2 : nI (j + 1) * nI w + nI (j + 1) - 1 = nI ((j + 1) * w + j) := by
          rw [n_mul, nI_add, show (j + 1) * w + j = (j + 1) * w + (j + 1) - 1 by omega]
          exact pk_sub (b := 1) (by omega)
        obtain ⟨y1, y2⟩ := k1 (j + 1 + 1 + i) j (by omega) (by omega)
        obtain ⟨y3, y4⟩ := k1 (j + 1) j (by omega) (by omega)
        refine bX8_flatten_33 _ _ ?_
        rw [k2 23 (by decide), h9, k2 24 (by decide), hP, ec1, ec2, n_cl (show (j + 1 + 1 + i) * w + j < 2 ^ 31 by omega), n_cl (show (j + 1) * w + j < 2 ^ 31 by omega), y1, y3]
        refine ⟨fun q => absurd q (nI_ge (by omega) (by omega)), fun _ => ⟨n_in c1 (by omega), n_in c2 (by omega), _, kX11_over (by omega) hp (by omega) y4, ?_⟩⟩
        rintro v4 M3 ⟨rfl, rfl⟩
        have hfl := zv_lt (x := zel p (j + 1) G i (j + 1 + 1 + i) j) (y := zel p (j + 1) G i (j + 1) j) hp0
        have ez : zel p (j + 1) G (i + 1) = zre p (j + 1 + 1 + i) (j + 1) (zv p (zel p (j + 1) G i (j + 1 + 1 + i) j) (zel p (j + 1) G i (j + 1) j)) (zel p (j + 1) G i) := rfl
        rw [ez] at hnx2
        have hf0 : ∀ b, b < j → zel p (j + 1) G i (j + 1) b = 0 := fun b hb => e2 b (by omega) (j + 1) (by omega) (by omega)
        generalize zv p (zel p (j + 1) G i (j + 1 + 1 + i) j) (zel p (j + 1) G i (j + 1) j) = f at hfl hnx2 ⊢
        refine ⟨fun q => hnx2 M3 ⟨?_, k2⟩, fun q => ⟨_, kX8_takeRowOff (by omega) (by rw [k2 23 (by decide)]; exact h9) (by rw [k2 24 (by decide)]; exact hP) hw35 hp0 hpb.2 k1 (by omega) (by omega) (by omega) hfl (fun b hb => hf0 b (by omega)), ?_⟩⟩
        · have : f = 0 := (nI_eq (b := 0) (by omega) (by omega)).mp q
          unfold zre
          rw [if_pos this]; exact k1
        · rintro M4 ⟨t1, t2⟩
          refine hnx2 M4 ⟨?_, fun o ho => by rw [t2 o ho, k2 o ho]⟩
          unfold zre
          rw [if_neg (fun z => q (by rw [z]; rfl))]; exact t1
end Z35
