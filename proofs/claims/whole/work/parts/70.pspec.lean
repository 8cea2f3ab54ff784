/-! PARSER 1: what a text is, token by token. A token is the class's number for it: -1 the end, a byte, 256 none, 257 .. 263 the words of clauses, 270 u, 271 eta, 272 d, from 300 on numbers -/
abbrev pR : Type := (Nat × Nat) ⊕ (Nat × List Int32)
def pNum (tk : Nat → Int32) (most : Nat) (i : Nat) : pR := if 300 ≤ tk i then (if tk i - 300 ≤ nI most then .inr (i + 1, [tk i - 300]) else .inl (2, i)) else .inl (1, i)
def pName (tk : Nat → Int32) (inT : Bool) (i : Nat) : pR := if tk i = 270 ∨ tk i = 271 ∨ tk i = 272 then (if tk i = 270 ∧ inT = true then .inl (5, i) else .inr (i + 1, [if tk i = 270 then -1 else if tk i = 271 then -2 else -3])) else .inl (1, i)
def pLp (tk : Nat → Int32) (a b wa wb : Int32) (F : Nat → pR) : Nat → Nat → List Int32 → pR
  | 0, j, c => .inr (j, c)
  | f + 1, j, c => if tk j = a ∨ tk j = b then (match F (j + 1) with
    | .inl e => .inl e
    | .inr (j', c') => pLp tk a b wa wb F f j' (c ++ (c' ++ [if tk j = a then wa else wb]))) else .inr (j, c)
def pCh (tk : Nat → Int32) (a b wa wb : Int32) (F : Nat → pR) (i : Nat) : pR := match F i with
  | .inl e => .inl e
  | .inr (j, c) => pLp tk a b wa wb F 300 j c
def pProd (tk : Nat → Int32) (F : Nat → pR) : Nat → pR := pCh tk 42 47 (-7) (-8) F
def pSum (tk : Nat → Int32) (F : Nat → pR) : Nat → pR := pCh tk 43 45 (-5) (-6) (pProd tk F)
def pPass (tk : Nat → Int32) (s : Int32) (r : pR) : pR := match r with
  | .inl e => .inl e
  | .inr (j, c) => if tk j = s then .inr (j + 1, c) else .inl (1, j)
def pNeg (r : pR) : pR := match r with
  | .inl e => .inl e
  | .inr (j, c) => .inr (j, c ++ [-4])
def pAt (tk : Nat → Int32) (inT : Bool) (i : Nat) (r : pR) : pR := if 300 ≤ tk i then pNum tk 9999 i else if tk i = 40 ∨ tk i = 45 then r else pName tk inT i
def pOne (tk : Nat → Int32) (inT : Bool) : Nat → Nat → pR
  | 0, i => pAt tk inT i (.inl (3, i))
  | k + 1, i => pAt tk inT i (if tk i = 40 then pPass tk 41 (pSum tk (pOne tk inT k) (i + 1)) else pNeg (pOne tk inT k (i + 1)))
def pBody (tk : Nat → Int32) (k i : Nat) : pR := if k = 4 then pNum tk 6 i else if k = 3 ∨ k = 5 then .inr (i, []) else pSum tk (pOne tk (k == 6) 8) i
/-- the kind of a clause by its token -/
def pKd (w : Int32) : Option Nat := if 257 ≤ w ∧ w ≤ 263 then some (w - 257).toNatClampNeg else none
def pCl (tk : Nat → Int32) (T : zTx) (i : Nat) : (Nat × Nat) ⊕ (Nat × zTx) := match pKd (tk i) with
  | none => .inl (1, i)
  | some k => if k ≤ 2 ∧ (zix T k).isSome = true then .inl (4, i) else if 30 ≤ T.length then .inl (6, i) else
    match pPass tk 59 (pBody tk k (i + 1)) with
    | .inl e => .inl e
    | .inr (j, c) => .inr (j, T ++ [(k, if k = 4 then (c.headD 0).toNatClampNeg else 0, c)])
def pTx (tk : Nat → Int32) : Nat → Nat → zTx → (Nat × Nat) ⊕ zTx
  | 0, _, T => .inr T
  | f + 1, i, T => if tk i = -1 then .inr T else match pCl tk T i with
    | .inl e => .inl e
    | .inr (j, T') => pTx tk f j T'
/-- code that leaves one number more, within D places -/
def zgd (D : Nat) (c : List Int32) : Prop := ∀ k rest, k + D ≤ 40 → zok rest (k + 1) → zok (c ++ rest) k
theorem zgd_up {D : Nat} {c : List Int32} (h : zgd D c) : zgd (D + 1) c := fun k rest hk hr => h k rest (by omega) hr
theorem zgd_one {w : Int32} (hw : zwd w) (h3 : ¬ w < -3) : zgd 1 [w] := fun k rest hk hr => by
  show zwd w ∧ _
  rw [if_neg h3]
  exact ⟨hw, by omega, hr⟩
theorem zgd_neg {D : Nat} {c : List Int32} (h : zgd D c) : zgd D (c ++ [-4]) := fun k rest hk hr => by
  rw [List.append_assoc]
  refine h k _ hk ?_
  show zwd (-4) ∧ _
  rw [if_pos (by decide), if_pos rfl]
  exact ⟨Or.inr (Or.inr (Or.inr (Or.inr (Or.inl rfl)))), by omega, hr⟩
theorem zgd_op {D : Nat} {c c' : List Int32} {w : Int32} (h : zgd (D + 1) c) (h' : zgd D c') (hw : zwd w) (h3 : w < -3) (h4 : w ≠ -4) : zgd (D + 1) (c ++ (c' ++ [w])) := fun k rest hk hr => by
  rw [List.append_assoc, List.append_assoc]
  refine h k _ hk (h' (k + 1) _ (by omega) ?_)
  show zwd w ∧ _
  rw [if_pos h3, if_neg h4]
  exact ⟨hw, by omega, hr⟩
/-- what holds of a reader that begins at i -/
def pGo (K D : Nat) (i : Nat) (r : pR) : Prop := match r with
  | .inl (f, j) => i ≤ j ∧ j ≤ K ∧ 1 ≤ f ∧ f ≤ 6
  | .inr (j, c) => i < j ∧ j ≤ K ∧ c.length ≤ j - i ∧ zgd D c
def pG (K D : Nat) (F : Nat → pR) : Prop := ∀ i, i ≤ K → pGo K D i (F i)
def pEnd (tk : Nat → Int32) (K : Nat) : Prop := tk K = -1 ∧ (∀ i, i < K → tk i ≠ -1) ∧ K ≤ 300 ∧ ∀ i, tk i ≤ 10300
theorem pEnd.lt {tk : Nat → Int32} {K i : Nat} (h : pEnd tk K) (hi : i ≤ K) (ht : tk i ≠ -1) : i < K := by
  rcases Nat.lt_or_ge i K with q | q
  · exact q
  · have e : i = K := by omega
    rw [e] at ht
    exact absurd h.1 ht
theorem p_num {w : Int32} (h : 300 ≤ w) (h2 : w ≤ 10300) : ∃ v, v ≤ 10000 ∧ w = nI (300 + v) := by
  obtain ⟨k, h1, h3, rfl⟩ := (n_btw (u := w) (lo := 300) (hi := 10300) (a := 300) (b := 10300) rfl rfl (by omega) (by omega)).mp ⟨h, h2⟩
  exact ⟨k - 300, by omega, by rw [show 300 + (k - 300) = k by omega]⟩
theorem p_num2 (v : Nat) : nI (300 + v) - 300 = nI v := by
  rw [fa_lit 300, pk_sub (by omega), show 300 + v - 300 = v by omega]
theorem pNum_go {tk : Nat → Int32} {K most i : Nat} (hE : pEnd tk K) (hm : most ≤ 9999) (hi : i ≤ K) : pGo K 1 i (pNum tk most i) := by
  unfold pNum
  by_cases c : 300 ≤ tk i
  · rw [if_pos c]
    have hlt := hE.lt hi (fun q => by rw [q] at c; exact absurd c (by decide))
    by_cases c2 : tk i - 300 ≤ nI most
    · rw [if_pos c2]
      refine ⟨by omega, by omega, by simp, ?_⟩
      obtain ⟨v, hv, ev⟩ := p_num c (hE.2.2.2 i)
      rw [ev, p_num2] at c2 ⊢
      have hv2 := (nI_leI (by omega) (by omega)).mp c2
      refine zgd_one (Or.inl ⟨v, by omega, rfl⟩) (fun q => ?_)
      have := fa_of_lt q
      exact this.2.1 (Int32.le_trans (by decide) (nI_pos' (n := v) (by omega)))
    · rw [if_neg c2]
      exact ⟨Nat.le_refl _, hi, by omega, by omega⟩
  · rw [if_neg c]
    exact ⟨Nat.le_refl _, hi, by omega, by omega⟩
theorem pName_go {tk : Nat → Int32} {K i : Nat} {inT : Bool} (hE : pEnd tk K) (hi : i ≤ K) : pGo K 1 i (pName tk inT i) := by
  unfold pName
  by_cases c : tk i = 270 ∨ tk i = 271 ∨ tk i = 272
  · rw [if_pos c]
    have hlt := hE.lt hi (fun q => by rw [q] at c; exact absurd c (by decide))
    by_cases c2 : tk i = 270 ∧ inT = true
    · rw [if_pos c2]
      exact ⟨Nat.le_refl _, hi, by omega, by omega⟩
    · rw [if_neg c2]
      refine ⟨by omega, by omega, by simp, ?_⟩
      by_cases c3 : tk i = 270
      · rw [if_pos c3]; exact zgd_one (Or.inr (Or.inl rfl)) (by decide)
      · rw [if_neg c3]
        by_cases c4 : tk i = 271
        · rw [if_pos c4]; exact zgd_one (Or.inr (Or.inr (Or.inl rfl))) (by decide)
        · rw [if_neg c4]; exact zgd_one (Or.inr (Or.inr (Or.inr (Or.inl rfl)))) (by decide)
  · rw [if_neg c]
    exact ⟨Nat.le_refl _, hi, by omega, by omega⟩
theorem pLp_go {tk : Nat → Int32} {a b wa wb : Int32} {F : Nat → pR} {K D i : Nat} (hE : pEnd tk K) (ha : a ≠ -1) (hb : b ≠ -1) (hwa : zwd wa ∧ wa < -3 ∧ wa ≠ -4) (hwb : zwd wb ∧ wb < -3 ∧ wb ≠ -4) (hF : pG K D F) : ∀ f j c, i < j → j ≤ K → c.length ≤ j - i → zgd (D + 1) c → pGo K (D + 1) i (pLp tk a b wa wb F f j c)
  | 0, j, c, h1, h2, h3, h4 => ⟨h1, h2, h3, h4⟩
  | f + 1, j, c, h1, h2, h3, h4 => by
    unfold pLp
    by_cases q : tk j = a ∨ tk j = b
    · rw [if_pos q]
      have hlt := hE.lt h2 (fun z => by rcases q with q | q <;> (rw [q] at z; contradiction))
      have hg := hF (j + 1) (by omega)
      cases hr : F (j + 1) with
      | inl e =>
        rw [hr] at hg
        obtain ⟨g1, g2, g3⟩ := hg
        exact ⟨by omega, g2, g3⟩
      | inr e =>
        obtain ⟨j', c'⟩ := e
        rw [hr] at hg
        obtain ⟨g1, g2, g3, g4⟩ := hg
        refine pLp_go hE ha hb hwa hwb hF f j' _ (by omega) g2 (by simp; omega) ?_
        by_cases q2 : tk j = a
        · rw [if_pos q2]; exact zgd_op h4 g4 hwa.1 hwa.2.1 hwa.2.2
        · rw [if_neg q2]; exact zgd_op h4 g4 hwb.1 hwb.2.1 hwb.2.2
    · rw [if_neg q]
      exact ⟨h1, h2, h3, h4⟩
theorem pCh_go {tk : Nat → Int32} {a b wa wb : Int32} {F : Nat → pR} {K D : Nat} (hE : pEnd tk K) (ha : a ≠ -1) (hb : b ≠ -1) (hwa : zwd wa ∧ wa < -3 ∧ wa ≠ -4) (hwb : zwd wb ∧ wb < -3 ∧ wb ≠ -4) (hF : pG K D F) : pG K (D + 1) (pCh tk a b wa wb F) := fun i hi => by
  unfold pCh
  have hg := hF i hi
  cases hr : F i with
  | inl e => rw [hr] at hg; exact hg
  | inr e =>
    obtain ⟨j, c⟩ := e
    rw [hr] at hg
    obtain ⟨g1, g2, g3, g4⟩ := hg
    exact pLp_go hE ha hb hwa hwb hF 300 j c g1 g2 g3 (zgd_up g4)
theorem pProd_go {tk : Nat → Int32} {F : Nat → pR} {K D : Nat} (hE : pEnd tk K) (hF : pG K D F) : pG K (D + 1) (pProd tk F) := pCh_go hE (by decide) (by decide) ⟨by unfold zwd; simp, by decide, by decide⟩ ⟨by unfold zwd; simp, by decide, by decide⟩ hF
theorem pSum_go {tk : Nat → Int32} {F : Nat → pR} {K D : Nat} (hE : pEnd tk K) (hF : pG K D F) : pG K (D + 2) (pSum tk F) := pCh_go hE (by decide) (by decide) ⟨by unfold zwd; simp, by decide, by decide⟩ ⟨by unfold zwd; simp, by decide, by decide⟩ (pProd_go hE hF)
theorem pPass_go {tk : Nat → Int32} {s : Int32} {r : pR} {K D i : Nat} (hE : pEnd tk K) (hs : s ≠ -1) (h : pGo K D i r) : pGo K D i (pPass tk s r) := by
  unfold pPass
  cases r with
  | inl e => exact h
  | inr e =>
    obtain ⟨j, c⟩ := e
    obtain ⟨g1, g2, g3, g4⟩ := h
    show pGo K D i (if tk j = s then .inr (j + 1, c) else .inl (1, j))
    by_cases q : tk j = s
    · rw [if_pos q]
      have hlt := hE.lt g2 (fun z => by rw [q] at z; contradiction)
      exact ⟨by omega, by omega, by omega, g4⟩
    · rw [if_neg q]
      exact ⟨by omega, g2, by omega, by omega⟩
theorem pGo_up {K D i j : Nat} {r : pR} (hij : i ≤ j) (h : pGo K D j r) : pGo K D i r := by
  cases r with
  | inl e => exact ⟨by have := h.1; omega, h.2⟩
  | inr e => exact ⟨by have := h.1; omega, h.2.1, by have := h.2.2.1; have := h.1; omega, h.2.2.2⟩
theorem pGo_D {K D D' i : Nat} {r : pR} (hD : D ≤ D') (h : pGo K D i r) : pGo K D' i r := by
  cases r with
  | inl e => exact h
  | inr e => exact ⟨h.1, h.2.1, h.2.2.1, fun k rest hk hr => h.2.2.2 k rest (by omega) hr⟩
theorem pOne_go {tk : Nat → Int32} {K : Nat} {inT : Bool} (hE : pEnd tk K) : ∀ k, pG K (1 + 2 * k) (pOne tk inT k)
  | 0 => fun i hi => by
    show pGo K 1 i (pAt tk inT i (.inl (3, i)))
    unfold pAt
    by_cases c : 300 ≤ tk i
    · rw [if_pos c]; exact pNum_go hE (by omega) hi
    · rw [if_neg c]
      by_cases c2 : tk i = 40 ∨ tk i = 45
      · rw [if_pos c2]; exact ⟨Nat.le_refl _, hi, by omega, by omega⟩
      · rw [if_neg c2]; exact pName_go hE hi
  | k + 1 => fun i hi => by
    show pGo K (1 + 2 * (k + 1)) i (pAt tk inT i _)
    unfold pAt
    by_cases c : 300 ≤ tk i
    · rw [if_pos c]; exact pGo_D (by omega) (pNum_go hE (by omega) hi)
    · rw [if_neg c]
      by_cases c2 : tk i = 40 ∨ tk i = 45
      · rw [if_pos c2]
        have hlt := hE.lt hi (fun z => by rw [z] at c2; exact absurd c2 (by decide))
        have ih := pOne_go (inT := inT) hE k
        by_cases c3 : tk i = 40
        · rw [if_pos c3]
          exact pPass_go hE (by decide) (pGo_up (by omega) (pSum_go hE ih (i + 1) (by omega)))
        · rw [if_neg c3]
          have hg := ih (i + 1) (by omega)
          unfold pNeg
          cases hr : pOne tk inT k (i + 1) with
          | inl e => rw [hr] at hg; exact pGo_up (by omega) (pGo_D (by omega) hg)
          | inr e =>
            obtain ⟨j, c'⟩ := e
            rw [hr] at hg
            obtain ⟨g1, g2, g3, g4⟩ := hg
            exact ⟨by omega, g2, by simp; omega, fun k rest hk hr => zgd_neg g4 k rest (by omega) hr⟩
      · rw [if_neg c2]; exact pGo_D (by omega) (pName_go hE hi)
theorem pLp_stop {tk : Nat → Int32} {a b wa wb : Int32} {F : Nat → pR} {K D : Nat} (hE : pEnd tk K) (ha : a ≠ -1) (hb : b ≠ -1) (hF : pG K D F) : ∀ f j c, j ≤ K → K < f + j → ∀ j' c', pLp tk a b wa wb F f j c = .inr (j', c') → tk j' ≠ a ∧ tk j' ≠ b
  | 0, j, c, h1, h2, j', c', _ => by omega
  | f + 1, j, c, h1, h2, j', c', h => by
    unfold pLp at h
    by_cases q : tk j = a ∨ tk j = b
    · rw [if_pos q] at h
      have hlt := hE.lt h1 (fun z => by rcases q with q | q <;> (rw [q] at z; contradiction))
      have hg := hF (j + 1) (by omega)
      cases hr : F (j + 1) with
      | inl e => rw [hr] at h; cases h
      | inr e =>
        obtain ⟨j2, c2⟩ := e
        rw [hr] at hg h
        obtain ⟨g1, g2, g3, g4⟩ := hg
        exact pLp_stop hE ha hb hF f j2 _ g2 (by omega) j' c' h
    · rw [if_neg q] at h
      cases h
      exact ⟨fun z => q (Or.inl z), fun z => q (Or.inr z)⟩
