/-! CONTRACTS 36: Spectrum: what it tells -/
/-- a turn, or none, as the class writes it -/
def zTu (τ : Option Nat) : Int32 := match τ with | some k => nI k | none => -1
def zSL (n m : Nat) (τ : Option Nat) : List Nat := match τ with | some k => zrd n m k | none => zsec n m
def zSp (n m : Nat) (τ : Option Nat) : Nat → Option Nat := match τ with | some k => zpt n m k | none => zpn m
def zSf (n p : Nat) (τ : Option Nat) : Nat → Nat := match τ with | some k => fun a => ((zrt n p).getD 0 ^ k % p) ^ zfa n a % p | none => fun _ => 1
/-- the class's square, and its polynomial -/
def zSA (p n r e m : Nat) (τ : Option Nat) : Nat → Nat → Nat := zFs p n (zbd n r) e (zSL n m τ) (zSp n m τ) (zSf n p τ)
def zSc (p n r e m : Nat) (τ : Option Nat) : Nat → Nat := zP p (zSL n m τ).length (zSA p n r e m τ)
def zTo (n p : Nat) (τ : Option Nat) : Prop := ∀ k, τ = some k → k < n ∧ (zrt n p).isSome = true
/-- Spectrum holds the polynomial of what it has seen -/
def spS (M : a_M) (n r p t e m : Nat) (τ : Option Nat) : Prop := rH M 24 n r p t e ∧ M 23 9 = nI (zSL n m τ).length ∧ ∀ z, z ≤ (zSL n m τ).length → M 29 z = nI (zSc p n r e m τ z)
def cSp (M : a_M) : Prop := M 23 2 = -1 ∨ ∃ n r p t e m τ, wH n r p t e ∧ m ≤ n ∧ zTo n p τ ∧ M 23 2 = nI m ∧ M 23 3 = zTu τ ∧ spS M n r p t e m τ
theorem spS.same {M M' : a_M} {n r p t e m : Nat} {τ : Option Nat} (h : spS M n r p t e m τ) (hm : ∀ i, i = 23 ∨ i = 24 ∨ i = 29 → M' i = M i) : spS M' n r p t e m τ := ⟨h.1.same (hm 24 (by omega)), by rw [hm 23 (by omega)]; exact h.2.1, fun z hz => by rw [hm 29 (by omega)]; exact h.2.2 z hz⟩
theorem cSp.same {M M' : a_M} (h : cSp M) (hm : ∀ i, i = 23 ∨ i = 24 ∨ i = 29 → M' i = M i) : cSp M' := by
  rcases h with h | ⟨n, r, p, t, e, m, τ, h1, h2, h3, h4, h5, h6⟩
  · exact Or.inl (by rw [hm 23 (by omega)]; exact h)
  · exact Or.inr ⟨n, r, p, t, e, m, τ, h1, h2, h3, by rw [hm 23 (by omega)]; exact h4, by rw [hm 23 (by omega)]; exact h5, h6.same hm⟩
theorem zSL_len {n m : Nat} {τ : Option Nat} (hn : n < 8) (hm : m ≤ n) : (zSL n m τ).length ≤ 35 := by
  cases τ with
  | none => exact zsec_len n hn m (by omega)
  | some k => exact zrd_len hn (by omega)
theorem zSL_mem {n m : Nat} {τ : Option Nat} : ∀ (k a : Nat), (zSL n m τ)[k]? = some a → a < 2 ^ n ∧ zc a = m := by
  intro k a h
  cases τ with
  | none =>
    obtain ⟨h1, h2, -⟩ := zfl_mem h
    exact ⟨h1, beq_iff_eq.mp h2⟩
  | some k =>
    obtain ⟨h1, h2, -⟩ := zfl_mem h
    unfold zrf at h2
    rw [Bool.and_eq_true, Bool.and_eq_true, beq_iff_eq] at h2
    exact ⟨h1, h2.1.1⟩
theorem zSp_ok {n p m : Nat} {τ : Option Nat} (hn : n < 8) (hn2 : 2 ≤ n) (hp : 1 < p) : ∀ a j, a < 2 ^ n → zc a = m → zSp n m τ a = some j → j < (zSL n m τ).length ∧ zSf n p τ a < p := by
  intro a j ha hc h
  cases τ with
  | none =>
    cases h
    exact ⟨zfl_lt ha (beq_iff_eq.mpr hc), hp⟩
  | some k =>
    refine ⟨?_, Nat.mod_lt _ (by omega)⟩
    have h' : zpt n m k a = some j := h
    unfold zpt at h'
    split at h'
    · rename_i hf
      cases h'
      exact zfl_lt (zro_f hn hn2 ha).2.2.2.2.1 hf
    · cases h'
theorem zTu_inj {n : Nat} {τ τ' : Option Nat} (hn : n < 8) (h1 : ∀ k, τ = some k → k < n) (h2 : ∀ k, τ' = some k → k < n) (h : zTu τ = zTu τ') : τ = τ' := by
  cases τ with
  | none =>
    cases τ' with
    | none => rfl
    | some k => exact absurd h.symm (nI_m1 (by have := h2 k rfl; omega))
  | some k =>
    cases τ' with
    | none => exact absurd h (nI_m1 (by have := h1 k rfl; omega))
    | some k' =>
      have := (nI_eq (a := k) (b := k') (by have := h1 k rfl; omega) (by have := h2 k' rfl; omega)).mp h
      rw [this]
/-- the sums of powers, by Newton -/
def zNw (p w : Nat) (c : Nat → Nat) : Nat → Nat → Nat
  | 0 => va_up (fun _ => 0) 0 (w % p)
  | k + 1 => va_up (zNw p w c k) (k + 1) (zm (-(((if k + 1 ≤ w then (k + 1) * c (w - (k + 1)) else 0) + zs (fun i => c (w - (i + 1)) * zNw p w c k (k - i)) (min k w) : Nat) : Int)) p)
theorem zNw_old (p w : Nat) (c : Nat → Nat) {i : Nat} : ∀ k, i ≤ k → zNw p w c k i = zNw p w c i i := by
  intro k hk
  induction k with
  | zero => rw [show i = 0 by omega]
  | succ k ih =>
    by_cases e : i = k + 1
    · rw [e]
    · show va_up _ (k + 1) _ i = _
      rw [vn _ _ _ _ e, ih (by omega)]
theorem zNw_lt {p w : Nat} {c : Nat → Nat} (hp : 0 < p) : ∀ k i, zNw p w c k i < p
  | 0, i => by
    unfold zNw va_up
    split
    · exact Nat.mod_lt _ hp
    · exact hp
  | k + 1, i => by
    unfold zNw va_up
    split
    · exact zm_lt hp
    · exact zNw_lt hp k i
section Z37
variable {X : a_X} {ad : Nat → Nat} {ca : Nat → ClassId} {d x : Nat} {M : a_M}
theorem kX0_gather (hd : 4 ≤ d) {o n r p t e m : Nat} {τ : Option Nat} (hL : LY[o]? = some (6, 5)) (hH : rH M o n r p t e) (hw : wH n r p t e) (hm : m ≤ n) (hτ : zTo n p τ) :
    mX0_gather X ad ca d x [.ref 19, .ref o, .int (nI m), .int (zTu τ)] M (q_v (PT x) (fun M' => bS M' n m (zSL n m τ) (zSp n m τ) (zSf n p τ) ∧ ∀ i, (i < 19 ∨ 22 < i) → M' i = M i)) := by
  cases τ with
  | none => exact kX0_gatherN (by omega) hL hH hw hm
  | some k =>
    obtain ⟨h1, h2⟩ := hτ k rfl
    obtain ⟨ω, hω⟩ := Option.isSome_iff_exists.mp h2
    have := kX0_gatherT (X := X) (ad := ad) (ca := ca) (x := x) hd hL hH hw hm h1 hω
    unfold zSf
    rw [hω]
    exact this
theorem kX8_look (hd : 5 ≤ d) {o n r p t e m : Nat} {τ : Option Nat} (hL : LY[o]? = some (6, 5)) (ho : o ≠ 24) (hC : cSp M) (hH : rH M o n r p t e) (hw : wH n r p t e) (hm : m ≤ n) (hτ : zTo n p τ) :
    mX8_look X ad ca d x [.ref 23, .ref o, .int (nI m), .int (zTu τ)] M (q_v (PT x) (fun M' => spS M' n r p t e m τ ∧ cSp M' ∧ ∀ i, (i < 19 ∨ 29 < i) → M' i = M i)) := by
  obtain ⟨d, rfl⟩ := a_d1 (show 1 ≤ d by omega)
  have hpb := zpl_b _ hw.2.2.2.1
  have hlen := zSL_len (τ := τ) hw.1 hm
  have hoo : o < 19 ∨ 29 < o := by
    rcases Nat.lt_or_ge o 19 with q | q
    · exact Or.inl q
    · rcases Nat.lt_or_ge 29 o with q2 | q2
      · exact Or.inr q2
      · exfalso
        have : o = 19 ∨ o = 20 ∨ o = 21 ∨ o = 22 ∨ o = 23 ∨ o = 24 ∨ o = 25 ∨ o = 26 ∨ o = 27 ∨ o = 28 ∨ o = 29 := by omega
        rcases this with e | e | e | e | e | e | e | e | e | e | e <;> subst e <;> first | exact absurd rfl ho | (cases hL)
  have anew : wX8_look X ad ca d x (q_v (PT x) (fun M' => spS M' n r p t e m τ ∧ cSp M' ∧ ∀ i, (i < 19 ∨ 29 < i) → M' i = M i)) 28 [(0, .ref 23), (1, .ref o), (2, .int (nI m)), (3, .int (zTu τ))] M := by
    refine bX8_look_28 _ _ _ hL ⟨_, kX6_copyFrom (by omega) (o := 24) (o2 := o) rfl hL (hH.same (by rw [ms_row _ _ _ _ _ (by omega), ms_row _ _ _ _ _ (by omega)])) hw.2.2.1, ?_⟩
    rintro M1 ⟨a1, a2⟩
    have f1 : ∀ i, i ≠ 23 → i ≠ 24 → M1 i = M i := fun i h1 h2 => by rw [a2 i h2, ms_row _ _ _ _ _ h1, ms_row _ _ _ _ _ h1]
    have hH1 : rH M1 o n r p t e := hH.same (f1 o (by omega) (by omega))
    refine ⟨_, kX0_gather (by omega) hL hH1 hw hm hτ, ?_⟩
    rintro M2 ⟨b1, b2⟩
    refine ⟨_, kX0_fillSum (by omega) (o2 := 25) hL rfl (hH1.same (b2 o (by omega))) hw b1 hlen zSL_mem (zSp_ok hw.1 hw.2.1 (by omega)), ?_⟩
    rintro M3 ⟨c1, c2⟩
    have e19 : M3 19 3 = nI (zSL n m τ).length := by rw [c2 19 (by decide)]; exact b1.1
    rw [e19]
    have g24 : (ms M3 23 9 (nI (zSL n m τ).length)) 24 = M1 24 := by rw [ms_row _ _ _ _ _ (by decide), c2 24 (by decide), b2 24 (by omega)]
    refine ⟨_, kX8_flatten (by omega) (w := (zSL n m τ).length) (p := p) (A := zSA p n r e m τ) (ms_is _ _ _ _) (by rw [g24]; exact a1.2.2.1) hlen hw.2.2.2.1 (c1.same (ms_row _ _ _ _ _ (by decide))), ?_⟩
    rintro M4 ⟨d1, d2⟩
    refine ⟨_, kX8_findTerms (by omega) (w := (zSL n m τ).length) (p := p) (by rw [d2 23 (by decide), ms_is]) (by rw [d2 24 (by decide), g24]; exact a1.2.2.1) hlen hw.2.2.2.1 d1, ?_⟩
    rintro M5 ⟨e1, e2⟩
    have h24 : M5 24 = M1 24 := by rw [e2 24 (by decide) (by decide), d2 24 (by decide), g24]
    have h23 : M5 23 = (ms M3 23 9 (nI (zSL n m τ).length)) 23 := by rw [e2 23 (by decide) (by decide), d2 23 (by decide)]
    have h23b : ∀ j, j ≠ 9 → M5 23 j = M1 23 j := fun j hj => by rw [h23, ms_no _ _ _ _ _ _ (by omega), c2 23 (by decide), b2 23 (by omega)]
    have hS : spS M5 n r p t e m τ := ⟨a1.same h24, by rw [h23, ms_is], e1⟩
    refine ⟨rfl, rfl, hS, Or.inr ⟨n, r, p, t, e, m, τ, hw, hm, hτ, ?_, ?_, hS⟩, fun i hi => ?_⟩
    · rw [h23b 2 (by decide), a2 23 (by decide), ms_no _ _ _ _ _ _ (by decide), ms_is]
    · rw [h23b 3 (by decide), a2 23 (by decide), ms_is]
    · rw [e2 i (by omega) (by omega), d2 i (by omega), ms_row _ _ _ _ _ (by omega), c2 i (by omega), b2 i (by omega), f1 i (by omega) (by omega)]
  refine eX8_look _ _ _ (bX8_look_0 _ _ _ hL ⟨fun _ => anew, fun h2 => ⟨fun _ => anew, fun h3 => ⟨_, kX6_isLike (by omega) (o := 24) (o2 := o) rfl hL, ?_⟩⟩⟩)
  rintro v1 M ⟨rfl, hv⟩
  refine ⟨fun _ => anew, fun hv0 => ?_⟩
  have hq : ∀ k, k < 5 → M 24 k = M o k := by
    rcases hv with ⟨-, q⟩ | ⟨q, -⟩
    · exact q
    · exact absurd q hv0
  rcases hC with hC | ⟨n', r', p', t', e', m', τ', w', hm', hτ', q2, q3, hS⟩
  · rw [hC] at h2; exact absurd h2 (nI_m1 (by have := hw.1; omega))
  · obtain ⟨rfl, rfl, rfl, rfl, rfl⟩ := rH_one hS.1 hH w' hw hq
    have e1 : m = m' := (nI_eq (by have := hw.1; omega) (by have := hw.1; omega)).mp (by rw [← q2]; exact h2)
    subst e1
    have e2 : τ = τ' := zTu_inj hw.1 (fun k hk => (hτ k hk).1) (fun k hk => (hτ' k hk).1) (by rw [← q3]; exact h3)
    subst e2
    exact ⟨rfl, rfl, hS, Or.inr ⟨_, _, _, _, _, m, τ, hw, hm, hτ, q2, q3, hS⟩, fun _ _ => rfl⟩
theorem kX8_valueAt (hd : 2 ≤ d) {w p a : Nat} {c : Nat → Nat} (h9 : M 23 9 = nI w) (hP : M 24 2 = nI p) (hw35 : w ≤ 35) (hp0 : 0 < p) (hp : p ≤ 97) (hc : ∀ z, z ≤ w → M 29 z = nI (c z) ∧ c z < p) (ha : a < p) :
    mX8_valueAt X ad ca d x [.ref 23, .int (nI a)] M (q_i (PT x) (fun s M' => M' = M ∧ s = nI (zhr p a c w (w + 1)))) := by
  obtain ⟨d, rfl⟩ := a_d1 (show 1 ≤ d by omega)
  refine eX8_valueAt _ (bX8_valueAt_0 _ ?_)
  rw [h9]
  have hmain := a_loop (σ := Unit) (fun t _ => (t = w + 1 → wX8_valueAt X ad ca d x (q_i (PT x) (fun s M' => M' = M ∧ s = nI (zhr p a c w (w + 1)))) 7 [(0, .ref 23), (1, .int (nI a)), (2, .int (nI (zhr p a c w t))), (3, .int (-1))] M) ∧ (t ≤ w → wX8_valueAt X ad ca d x (q_i (PT x) (fun s M' => M' = M ∧ s = nI (zhr p a c w (w + 1)))) 7 [(0, .ref 23), (1, .int (nI a)), (2, .int (nI (zhr p a c w t))), (3, .int (nI (w - t)))] M)) (fun _ _ => True) (w + 1) ?_ ?_ 0 () (Nat.zero_le _) trivial
  · exact hmain.2 (Nat.zero_le _)
  · intro _ _
    exact ⟨fun _ => bX8_valueAt_7 _ _ _ ⟨fun _ => ⟨_, rfl, rfl, rfl, rfl⟩, fun q => absurd (show (-1 : Int32) < 0 by decide) q⟩, fun q => by omega⟩
  · intro t _ ht _ ih
    refine ⟨fun q => by omega, fun _ => bX8_valueAt_7 _ _ _ ⟨fun q => absurd q (nI_pos (by omega)), fun _ => ?_⟩⟩
    obtain ⟨c1, c2⟩ := hc (w - t) (by omega)
    have hl := zhr_lt (x := a) (c := c) (D := w) hp0 t
    have hb := n_p2 hl ha (by omega)
    rw [n_cl (show w - t < 2 ^ 31 by omega), c1, hP, n_mul, nI_add]
    refine ⟨n_in (by omega) (by omega), _, kX11_left (by omega) _ hp0 (by omega), ?_⟩
    rintro v1 M1 ⟨rfl, rfl⟩
    rw [zm_nI (by omega), n_mm]
    obtain ⟨y1, y2⟩ := ih () trivial
    rcases Nat.lt_or_ge t w with q | q
    · rw [show nI (w - t) - 1 = nI (w - (t + 1)) from by rw [show w - (t + 1) = w - t - 1 by omega]; exact pk_sub (b := 1) (by omega)]
      exact y2 (by omega)
    · rw [show w - t = 0 by omega, show nI 0 - 1 = (-1 : Int32) by decide]
      have := y1 (by omega)
      have e : zhr p a c w (t + 1) = (zhr p a c w t * a + c (w - t)) % p := rfl
      rw [e, show w - t = 0 by omega] at this
      exact this
/-- the numbers at which the polynomial is 0 -/
def zro0 (p w : Nat) (c : Nat → Nat) (a : Nat) : Bool := zhr p a c w (w + 1) == 0
theorem kX8_howManyOwn (hd : 3 ≤ d) {w p : Nat} {c : Nat → Nat} (h9 : M 23 9 = nI w) (hP : M 24 2 = nI p) (hw35 : w ≤ 35) (hp0 : 0 < p) (hp : p ≤ 97) (hc : ∀ z, z ≤ w → M 29 z = nI (c z) ∧ c z < p) :
    mX8_howManyOwn X ad ca d x [.ref 23] M (q_i (PT x) (fun s M' => M' = M ∧ s = nI (zfl (zro0 p w c) p).length)) := by
  obtain ⟨d, rfl⟩ := a_d1 (show 1 ≤ d by omega)
  refine eX8_howManyOwn (bX8_howManyOwn_0 ?_)
  refine a_loop (σ := Unit) (fun a _ => wX8_howManyOwn X ad ca d x (q_i (PT x) (fun s M' => M' = M ∧ s = nI (zfl (zro0 p w c) p).length)) 4 [(0, .ref 23), (1, .int (nI (zfl (zro0 p w c) a).length)), (2, .int (nI a))] M) (fun _ _ => True) p ?_ ?_ 0 () (Nat.zero_le _) trivial
  · intro _ _
    refine bX8_howManyOwn_4 _ _ ?_
    rw [hP]
    exact ⟨fun _ => ⟨_, rfl, rfl, rfl, rfl⟩, fun q => absurd (nI_le (Nat.le_refl _) (by omega)) q⟩
  · intro a _ ha _ ih
    refine bX8_howManyOwn_4 _ _ ?_
    rw [hP]
    refine ⟨fun q => absurd q (nI_ge ha (by omega)), fun _ => ⟨_, kX8_valueAt (by omega) h9 hP hw35 hp0 hp hc ha, ?_⟩⟩
    rintro v1 M1 ⟨rfl, rfl⟩
    have hl := zhr_lt (x := a) (c := c) (D := w) hp0 (w + 1)
    have hz : nI (zhr p a c w (w + 1)) = 0 ↔ zro0 p w c a = true := by
      unfold zro0
      rw [beq_iff_eq]
      exact nI_eq (b := 0) (by omega) (by omega)
    have := ih () trivial
    rw [zfl_len] at this
    refine ⟨fun q => bX8_howManyOwn_26 _ _ ?_, fun q => bX8_howManyOwn_26 _ _ ?_⟩
    · rw [if_neg (fun z => q (hz.mpr z)), Nat.add_zero] at this
      rw [← nI_succ]; exact this
    · rw [if_pos (hz.mp q)] at this
      rw [← nI_succ, ← nI_succ]; exact this
theorem kX8_ownAt (hd : 3 ≤ d) {w p i : Nat} {c : Nat → Nat} (h9 : M 23 9 = nI w) (hP : M 24 2 = nI p) (hw35 : w ≤ 35) (hp0 : 0 < p) (hp : p ≤ 97) (hc : ∀ z, z ≤ w → M 29 z = nI (c z) ∧ c z < p) (hi : i < 2 ^ 31) :
    mX8_ownAt X ad ca d x [.ref 23, .int (nI i)] M (q_i (PT x) (fun s M' => M' = M ∧ s = match (zfl (zro0 p w c) p)[i]? with | some a => nI a | none => -1)) := by
  obtain ⟨d, rfl⟩ := a_d1 (show 1 ≤ d by omega)
  refine eX8_ownAt _ (bX8_ownAt_0 _ ?_)
  have key := a_loop (σ := Unit) (fun a _ => wX8_ownAt X ad ca d x (q_i (PT x) (fun s M' => M' = M ∧ s = match (zfl (zro0 p w c) p)[i]? with | some a => nI a | none => -1)) 4 [(0, .ref 23), (2, .int (nI (i - (zfl (zro0 p w c) a).length))), (3, .int (nI a))] M) (fun a _ => (zfl (zro0 p w c) a).length ≤ i) p ?_ ?_ 0 () (Nat.zero_le _) (Nat.zero_le _)
  · exact key
  · intro _ h
    refine bX8_ownAt_4 _ _ ?_
    rw [hP]
    refine ⟨fun _ => ⟨_, rfl, rfl, rfl, ?_⟩, fun q => absurd (nI_le (Nat.le_refl _) (by omega)) q⟩
    rw [List.getElem?_eq_none h]
  · intro a _ ha h ih
    refine bX8_ownAt_4 _ _ ?_
    rw [hP]
    refine ⟨fun q => absurd q (nI_ge ha (by omega)), fun _ => ⟨_, kX8_valueAt (by omega) h9 hP hw35 hp0 hp hc ha, ?_⟩⟩
    rintro v1 M1 ⟨rfl, rfl⟩
    have hl := zhr_lt (x := a) (c := c) (D := w) hp0 (w + 1)
    have hz : nI (zhr p a c w (w + 1)) = 0 ↔ zro0 p w c a = true := by
      unfold zro0
      rw [beq_iff_eq]
      exact nI_eq (b := 0) (by omega) (by omega)
    have hs := zfl_len (zro0 p w c) a
    refine ⟨fun q => bX8_ownAt_32 _ _ ?_, fun q => ⟨fun q2 => bX8_ownAt_32 _ _ ?_, fun q2 => ⟨_, rfl, rfl, rfl, ?_⟩⟩⟩
    · rw [if_neg (fun z => q (hz.mpr z))] at hs
      have hs' : (zfl (zro0 p w c) (a + 1)).length = (zfl (zro0 p w c) a).length := hs
      rw [← nI_succ, ← hs']
      exact ih () (by omega)
    · rw [if_pos (hz.mp q)] at hs
      have hne : i - (zfl (zro0 p w c) a).length ≠ 0 := fun z => q2 (by rw [z]; rfl)
      rw [n_mm, ← nI_succ, show nI (i - (zfl (zro0 p w c) a).length) - 1 = nI (i - (zfl (zro0 p w c) (a + 1)).length) from by rw [hs, ← Nat.sub_sub]; exact pk_sub (b := 1) (by omega)]
      exact ih () (by omega)
    · have h0 : i - (zfl (zro0 p w c) a).length = 0 := (nI_eq (b := 0) (by omega) (by omega)).mp q2
      have e : i = (zfl (zro0 p w c) a).length := by omega
      rw [e, zfl_at ha (hz.mp q)]
theorem kX8_dividesRest (hd : 2 ≤ d) {w p a l : Nat} {c : Nat → Nat} (h9 : M 23 9 = nI w) (hP : M 24 2 = nI p) (hw35 : w ≤ 35) (hp0 : 0 < p) (hp : p ≤ 97) (ha : a < p) (hl : l < w) (hc : ∀ i, i ≤ w - l → M 27 (l + i) = nI (c i) ∧ c i < p) :
    mX8_dividesRest X ad ca d x [.ref 23, .int (nI a), .int (nI l)] M (q_i (PT x) (fun s M' => (s = if zhr p a c (w - l) (w - l + 1) = 0 then 1 else 0) ∧ (∀ i, i ≤ w - l → M' 27 (l + i) = nI (zhr p a c (w - l) (w - l + 1 - i))) ∧ ∀ o, o ≠ 27 → M' o = M o)) := by
  obtain ⟨d, rfl⟩ := a_d1 (show 1 ≤ d by omega)
  generalize hD : w - l = D at hc
  have hD1 : 1 ≤ D := by omega
  refine eX8_dividesRest _ _ (bX8_dividesRest_0 _ _ ?_)
  rw [h9, show nI w - 1 = nI (w - 1) from pk_sub (b := 1) (by omega)]
  have hmain := a_loop (σ := a_M) (fun t M' => (t = D + 1 → ∀ v, (l = 0 ∧ v = -1 ∨ 1 ≤ l ∧ v = nI (l - 1)) → wX8_dividesRest X ad ca d x (q_i (PT x) (fun s M' => (s = if zhr p a c D (D + 1) = 0 then 1 else 0) ∧ (∀ i, i ≤ D → M' 27 (l + i) = nI (zhr p a c D (D + 1 - i))) ∧ ∀ o, o ≠ 27 → M' o = M o)) 7 [(0, .ref 23), (1, .int (nI a)), (2, .int (nI l)), (3, .int v)] M') ∧ (t ≤ D → wX8_dividesRest X ad ca d x (q_i (PT x) (fun s M' => (s = if zhr p a c D (D + 1) = 0 then 1 else 0) ∧ (∀ i, i ≤ D → M' 27 (l + i) = nI (zhr p a c D (D + 1 - i))) ∧ ∀ o, o ≠ 27 → M' o = M o)) 7 [(0, .ref 23), (1, .int (nI a)), (2, .int (nI l)), (3, .int (nI (w - t)))] M')) (fun t M' => 1 ≤ t ∧ (∀ i, i ≤ D → M' 27 (l + i) = nI (if D - i < t then zhr p a c D (D + 1 - i) else c i)) ∧ ∀ o, o ≠ 27 → M' o = M o) (D + 1) ?_ ?_ 1 M (by omega) ⟨Nat.le_refl _, fun i hi => ?_, fun _ _ => rfl⟩
  · exact hmain.2 hD1
  · rintro M1 ⟨-, i1, i2⟩
    refine ⟨fun _ v hv => bX8_dividesRest_7 _ _ _ ⟨fun _ => ?_, fun q => absurd ?_ q⟩, fun q => by omega⟩
    · have y1 := i1 0 (Nat.zero_le _)
      rw [if_pos (by omega), Nat.add_zero, Nat.sub_zero] at y1
      rw [n_cl (show l < 2 ^ 31 by omega), y1]
      have hlt := zhr_lt (x := a) (c := c) (D := D) hp0 (D + 1)
      have hz : nI (zhr p a c D (D + 1)) = 0 ↔ zhr p a c D (D + 1) = 0 := nI_eq (b := 0) (by omega) (by omega)
      have i1' : ∀ i, i ≤ D → M1 27 (l + i) = nI (zhr p a c D (D + 1 - i)) := fun i hi => by rw [i1 i hi, if_pos (by omega)]
      refine ⟨n_in (by omega) (by omega), fun q => ⟨_, rfl, rfl, ?_, i1', i2⟩, fun q => ⟨_, rfl, rfl, ?_, i1', i2⟩⟩
      · rw [if_neg (fun z => q (hz.mpr z))]
      · rw [if_pos (hz.mp q)]
    · rcases hv with ⟨h1, rfl⟩ | ⟨h1, rfl⟩
      · rw [h1]; decide
      · exact nI_lt (by omega) (by omega)
  · rintro t M1 ht ⟨h1, i1, i2⟩ ih
    refine ⟨fun q => by omega, fun _ => bX8_dividesRest_7 _ _ _ ⟨fun q => absurd q (nI_nlt (by omega) (by omega)), fun _ => ?_⟩⟩
    have y1 := i1 (D - t) (by omega)
    have y2 := i1 (D - t + 1) (by omega)
    rw [if_neg (by omega)] at y1
    rw [if_pos (by omega)] at y2
    have e1 : l + (D - t) = w - t := by omega
    have e2 : l + (D - t + 1) = w - t + 1 := by omega
    rw [e1] at y1
    rw [e2, show D + 1 - (D - t + 1) = t by omega] at y2
    have hlt := zhr_lt (x := a) (c := c) (D := D) hp0 t
    have hcl := (hc (D - t) (by omega)).2
    have hb := n_p2 ha hlt (by omega)
    rw [n_cl (show w - t < 2 ^ 31 by omega), ← nI_succ, n_cl (show w - t + 1 < 2 ^ 31 by omega), y1, y2, i2 24 (by decide), hP, n_mul, nI_add]
    refine ⟨n_in (by omega) (by omega), n_in (by omega) (by omega), _, kX11_left (by omega) _ hp0 (by omega), ?_⟩
    rintro v1 M2 ⟨rfl, rfl⟩
    rw [zm_nI (by omega), n_mm]
    have ev : (c (D - t) + a * zhr p a c D t) % p = zhr p a c D (t + 1) := by
      show _ = (zhr p a c D t * a + c (D - t)) % p
      rw [Nat.add_comm, Nat.mul_comm]
    rw [ev]
    refine ⟨n_in (by omega) (by omega), ?_⟩
    have hI : ∀ i, i ≤ D → (ms M2 27 (w - t) (nI (zhr p a c D (t + 1)))) 27 (l + i) = nI (if D - i < t + 1 then zhr p a c D (D + 1 - i) else c i) := fun i hi => by
      by_cases c1 : i = D - t
      · rw [c1, e1, ms_is, if_pos (by omega), show D + 1 - (D - t) = t + 1 by omega]
      · rw [ms_no _ _ _ _ _ _ (by omega), i1 i hi]
        by_cases c2 : D - i < t
        · rw [if_pos c2, if_pos (by omega)]
        · rw [if_neg c2, if_neg (by omega)]
    obtain ⟨z1, z2⟩ := ih (ms M2 27 (w - t) (nI (zhr p a c D (t + 1)))) ⟨by omega, hI, fun o ho => by rw [ms_row _ _ _ _ _ ho]; exact i2 o ho⟩
    rcases Nat.lt_or_ge t D with q | q
    · rw [show nI (w - t) - 1 = nI (w - (t + 1)) from by rw [show w - (t + 1) = w - t - 1 by omega]; exact pk_sub (b := 1) (by omega)]
      exact z2 (by omega)
    · refine z1 (by omega) _ ?_
      rw [show w - t = l by omega]
      rcases Nat.eq_zero_or_pos l with q2 | q2
      · exact Or.inl ⟨q2, by rw [q2]; decide⟩
      · exact Or.inr ⟨q2, pk_sub (b := 1) q2⟩
  · by_cases c1 : i = D
    · rw [c1, if_pos (by omega), show D + 1 - D = 1 by omega, (hc D (Nat.le_refl _)).1]
      show _ = nI ((0 * a + c (D - 0)) % p)
      rw [Nat.zero_mul, Nat.zero_add, Nat.sub_zero, Nat.mod_eq_of_lt (hc D (Nat.le_refl _)).2]
    · rw [if_neg (by omega), (hc i hi).1]
theorem kX8_howOften (hd : 3 ≤ d) {w p a : Nat} {c : Nat → Nat} (h9 : M 23 9 = nI w) (hP : M 24 2 = nI p) (hw35 : w ≤ 35) (hp0 : 0 < p) (hp : p ≤ 97) (hc : ∀ z, z ≤ w → M 29 z = nI (c z) ∧ c z < p) (ha : a < p) :
    mX8_howOften X ad ca d x [.ref 23, .int (nI a)] M (q_i (PT x) (fun s M' => s = nI (zof p a w c) ∧ ∀ o, o ≠ 27 → M' o = M o)) := by
  obtain ⟨d, rfl⟩ := a_d1 (show 1 ≤ d by omega)
  refine eX8_howOften _ (bX8_howOften_0 _ ?_)
  rw [h9, ← nI_succ, n_cl (show w + 1 < 2 ^ 31 by omega)]
  refine ⟨by decide, by decide, nI_pos (by omega), by show 0 + (w + 1) ≤ 36; omega, by show 0 + (w + 1) ≤ 36; omega, ?_⟩
  refine a_loop (σ := a_M × (Nat → Nat)) (fun l q => wX8_howOften X ad ca d x _ 21 [(0, .ref 23), (1, .int (nI a)), (2, .int (nI l))] q.1) (fun l q => zof p a w c = l + zof p a (w - l) q.2 ∧ (∀ i, i ≤ w - l → q.1 27 (l + i) = nI (q.2 i) ∧ q.2 i < p) ∧ ∀ o, o ≠ 27 → q.1 o = M o) w ?_ ?_ 0 (_, c) (Nat.zero_le _) ⟨by rw [Nat.zero_add, Nat.sub_zero], fun i hi => ?_, fun o ho => vn _ _ _ _ ho⟩
  · rintro ⟨M1, c1⟩ ⟨i1, i2, i3⟩
    dsimp only at i1 i2 i3 ⊢
    refine bX8_howOften_21 _ _ ?_
    rw [i3 23 (by decide), h9]
    refine ⟨fun _ => bX8_howOften_44 _ ⟨_, rfl, rfl, ?_, i3⟩, fun q => absurd (nI_le (Nat.le_refl _) (by omega)) q⟩
    rw [i1, Nat.sub_self]
    rfl
  · rintro l ⟨M1, c1⟩ hl ⟨i1, i2, i3⟩ ih
    dsimp only at i1 i2 i3 ⊢
    refine bX8_howOften_21 _ _ ?_
    rw [i3 23 (by decide), h9]
    refine ⟨fun q => absurd q (nI_ge hl (by omega)), fun _ => ⟨_, kX8_dividesRest (by omega) (by rw [i3 23 (by decide)]; exact h9) (by rw [i3 24 (by decide)]; exact hP) hw35 hp0 hp ha hl i2, ?_⟩⟩
    rintro v1 M2 ⟨rfl, j1, j2⟩
    obtain ⟨D, hD⟩ : ∃ D, w - l = D + 1 := ⟨w - l - 1, by omega⟩
    rw [hD] at i1 i2 j1 ⊢
    have f2 : ∀ o, o ≠ 27 → M2 o = M o := fun o ho => by rw [j2 o ho, i3 o ho]
    by_cases c0 : zhr p a c1 (D + 1) (D + 1 + 1) = 0
    · rw [if_pos c0]
      refine ⟨fun q => absurd q (by decide), fun _ => ?_⟩
      rw [← nI_succ]
      refine ih (M2, fun i => zhr p a c1 (D + 1) (D + 1 - i)) ⟨?_, fun i hi => ?_, f2⟩
      · rw [i1]
        show l + zof p a (D + 1) c1 = l + 1 + zof p a (w - (l + 1)) _
        rw [show w - (l + 1) = D by omega]
        show l + (if zhr p a c1 (D + 1) (D + 2) = 0 then zof p a D (fun i => zhr p a c1 (D + 1) (D + 1 - i)) + 1 else 0) = l + 1 + zof p a D (fun i => zhr p a c1 (D + 1) (D + 1 - i))
        rw [if_pos c0]
        omega
      · have := j1 (i + 1) (by omega)
        rw [show l + (i + 1) = l + 1 + i by omega, show D + 1 + 1 - (i + 1) = D + 1 - i by omega] at this
        exact ⟨this, zhr_lt hp0 _⟩
    · rw [if_neg c0]
      refine ⟨fun _ => bX8_howOften_44 _ ⟨_, rfl, rfl, ?_, f2⟩, fun q => absurd rfl q⟩
      rw [i1]
      show nI l = nI (l + (if zhr p a c1 (D + 1) (D + 2) = 0 then zof p a D (fun i => zhr p a c1 (D + 1) (D + 1 - i)) + 1 else 0))
      rw [if_neg c0, Nat.add_zero]
  · show (va_up M 27 (va_cpy (M 29) (M 27) 0 0 (w + 1)) : a_M) 27 (0 + i) = nI (c i) ∧ c i < p
    rw [vu]
    rw [Nat.zero_add, pk_cpy_in (Nat.zero_le _) (show i < 0 + (w + 1) by omega), Nat.sub_zero, Nat.zero_add]
    exact hc i (by omega)
theorem kX8_traceOf (hd : 2 ≤ d) {w p j : Nat} {c : Nat → Nat} (h9 : M 23 9 = nI w) (hP : M 24 2 = nI p) (hw35 : w ≤ 35) (hp0 : 0 < p) (hp : p ≤ 97) (hc : ∀ z, z ≤ w → M 29 z = nI (c z) ∧ c z < p) (hj : j < 100) :
    mX8_traceOf X ad ca d x [.ref 23, .int (nI j)] M (q_i (PT x) (fun s M' => s = nI (zNw p w c j j) ∧ ∀ o, o ≠ 28 → M' o = M o)) := by
  obtain ⟨d, rfl⟩ := a_d1 (show 1 ≤ d by omega)
  refine eX8_traceOf _ (bX8_traceOf_0 _ ?_)
  rw [h9, hP]
  refine ⟨_, kX11_left (by omega) _ hp0 (by omega), ?_⟩
  rintro v1 M ⟨rfl, rfl⟩
  rw [zm_nI (by omega)]
  refine a_loop (σ := a_M) (fun k M' => wX8_traceOf X ad ca d x _ 22 [(0, .ref 23), (1, .int (nI j)), (2, .int (nI (k + 1)))] M') (fun k M' => (∀ i, i ≤ k → M' 28 i = nI (zNw p w c k i)) ∧ ∀ o, o ≠ 28 → M' o = M o) j ?_ ?_ 0 _ (Nat.zero_le _) ⟨fun i hi => ?_, fun o ho => ms_row _ _ _ _ _ ho⟩
  · rintro M1 ⟨i1, i2⟩
    refine bX8_traceOf_22 _ _ ⟨fun _ => bX8_traceOf_132 _ ⟨fun q => absurd q (nI_pos (by omega)), fun _ => ⟨fun q => absurd q (nI_ge (b := 100) hj (by omega)), fun _ => ⟨n_in hj (by omega), _, rfl, rfl, ?_, i2⟩⟩⟩, fun q => absurd (nI_lt (by omega) (by omega)) q⟩
    rw [n_cl (by omega)]
    exact i1 j (Nat.le_refl _)
  · rintro k M1 hk ⟨i1, i2⟩ ih
    have m9 : M1 23 9 = nI w := by rw [i2 23 (by decide)]; exact h9
    have mP : M1 24 2 = nI p := by rw [i2 24 (by decide)]; exact hP
    have hcs : ∀ z, z ≤ w → M1 29 z = nI (c z) ∧ c z < p := fun z hz => by rw [i2 29 (by decide)]; exact hc z hz
    generalize hB0 : (if k + 1 ≤ w then (k + 1) * c (w - (k + 1)) else 0) = B0
    have hB0b : B0 < 5000 := by
      rw [← hB0]
      split
      · have h1 := (hc (w - (k + 1)) (by omega)).2
        have : (k + 1) * c (w - (k + 1)) ≤ 35 * 97 := Nat.mul_le_mul (by omega) (by omega)
        omega
      · omega
    have hsb : ∀ i, i ≤ min k w → zs (fun i => c (w - (i + 1)) * zNw p w c k (k - i)) i ≤ i * 16384 := fun i hi => zs_le (fun z hz => by
      have h1 := (hc (w - (z + 1)) (by omega)).2
      have h2 := zNw_lt (w := w) (c := c) hp0 k (k - z)
      have := n_p2 h1 h2 (by omega)
      omega)
    -- the inner sum
    have inner : wX8_traceOf X ad ca d x (q_i (PT x) (fun s M' => s = nI (zNw p w c j j) ∧ ∀ o, o ≠ 28 → M' o = M o)) 62 [(0, .ref 23), (1, .int (nI j)), (2, .int (nI (k + 1))), (3, .int (nI B0)), (4, .int 1)] M1 := by
      refine a_loop (σ := Unit) (fun i _ => wX8_traceOf X ad ca d x _ 62 [(0, .ref 23), (1, .int (nI j)), (2, .int (nI (k + 1))), (3, .int (nI (B0 + zs (fun i => c (w - (i + 1)) * zNw p w c k (k - i)) i))), (4, .int (nI (i + 1)))] M1) (fun _ _ => True) (min k w) ?_ ?_ 0 () (Nat.zero_le _) trivial
      · intro _ _
        have hb := hsb (min k w) (Nat.le_refl _)
        have hend : wX8_traceOf X ad ca d x (q_i (PT x) (fun s M' => s = nI (zNw p w c j j) ∧ ∀ o, o ≠ 28 → M' o = M o)) 108 [(0, .ref 23), (1, .int (nI j)), (2, .int (nI (k + 1))), (3, .int (nI (B0 + zs (fun i => c (w - (i + 1)) * zNw p w c k (k - i)) (min k w))))] M1 := by
          have hb2 : B0 + zs (fun i => c (w - (i + 1)) * zNw p w c k (k - i)) (min k w) < 2 ^ 30 := by
            have : min k w * 16384 ≤ 35 * 16384 := Nat.mul_le_mul_right _ (by omega)
            omega
          refine bX8_traceOf_108 _ _ _ ?_
          rw [mP]
          refine ⟨_, kX11_left (by omega) _ hp0 (by omega), ?_⟩
          rintro v2 M2 ⟨rfl, rfl⟩
          have et : (nI (B0 + zs (fun i => c (w - (i + 1)) * zNw p w c k (k - i)) (min k w))).toInt = ((B0 + zs (fun i => c (w - (i + 1)) * zNw p w c k (k - i)) (min k w) : Nat) : Int) := nI_toInt (by omega)
          rw [fb_negI (by rw [et]; omega), et, n_cl (by omega), ← nI_succ]
          refine ⟨n_in (by omega) (by omega), ih _ ⟨fun i hi => ?_, fun o ho => by rw [ms_row _ _ _ _ _ ho]; exact i2 o ho⟩⟩
          show _ = nI (va_up (zNw p w c k) (k + 1) (zm (-(((if k + 1 ≤ w then (k + 1) * c (w - (k + 1)) else 0) + zs (fun i => c (w - (i + 1)) * zNw p w c k (k - i)) (min k w) : Nat) : Int)) p) i)
          rw [hB0]
          by_cases c1 : i = k + 1
          · rw [c1, ms_is, vu]
          · rw [ms_no _ _ _ _ _ _ (by omega), vn _ _ _ _ c1]
            exact i1 i (by omega)
        refine bX8_traceOf_62 _ _ _ _ ⟨fun _ => hend, fun q => ⟨fun _ => hend, fun q2 => ?_⟩⟩
        exfalso
        rw [m9] at q2
        have h1 : ¬ k + 1 ≤ min k w + 1 := fun z => q (nI_le z (by omega))
        have h2 : ¬ w < min k w + 1 := fun z => q2 (nI_lt z (by omega))
        omega
      · intro i _ hi _ ih2
        refine bX8_traceOf_62 _ _ _ _ ⟨fun q => absurd q (nI_ge (by omega) (by omega)), fun _ => ?_⟩
        rw [m9]
        refine ⟨fun q => absurd q (nI_nlt (by omega) (by omega)), fun _ => ?_⟩
        rw [show nI w - nI (i + 1) = nI (w - (i + 1)) from pk_sub (by omega), show nI (k + 1) - nI (i + 1) = nI (k - i) from by rw [show k - i = k + 1 - (i + 1) by omega]; exact pk_sub (by omega), n_cl (by omega), n_cl (by omega), (hcs (w - (i + 1)) (by omega)).1, i1 (k - i) (by omega), n_mul, nI_add, ← nI_succ]
        refine ⟨n_in (by omega) (by omega), n_in (by omega) (by omega), ?_⟩
        have := ih2 () trivial
        rw [show zs (fun i => c (w - (i + 1)) * zNw p w c k (k - i)) (i + 1) = zs (fun i => c (w - (i + 1)) * zNw p w c k (k - i)) i + c (w - (i + 1)) * zNw p w c k (k - i) from rfl, ← Nat.add_assoc] at this
        exact this
    refine bX8_traceOf_22 _ _ ⟨fun q => absurd q (nI_nlt (by omega) (by omega)), fun _ => ⟨fun q => absurd q (nI_ge (b := 100) (by omega) (by omega)), fun _ => ?_⟩⟩
    rw [m9]
    refine ⟨fun q => ?_, fun q => ?_⟩
    · have h1 : ¬ k + 1 ≤ w := fun z => absurd q (nI_nlt z (by omega))
      rw [if_neg h1] at hB0
      rw [← hB0] at inner
      exact inner
    · have h1 : k + 1 ≤ w := by
        rcases Nat.lt_or_ge w (k + 1) with z | z
        · exact absurd (nI_lt z (by omega)) q
        · exact z
      rw [if_pos h1] at hB0
      rw [show nI w - nI (k + 1) = nI (w - (k + 1)) from pk_sub h1, n_cl (by omega), (hcs (w - (k + 1)) (by omega)).1, n_mul, hB0]
      exact ⟨n_in (by omega) (by omega), inner⟩
  · rw [show i = 0 by omega, ms_is]
    rfl
end Z37
