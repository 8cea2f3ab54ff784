/-! THE LAW 3: what holds of both sides at the head of the loop -/
def CX (M : a_M) (n : Nat) (TX : Nat → zTx) (R : Nat) (RD : Nat → zTx) : Prop := M 12 5 = nI R ∧ (∀ t, t < n → cTx M (94 + 6 * t) (TX t) ∧ ∃ ρ, ρ ≤ R ∧ M (94 + 6 * t) 6 = nI ρ ∧ RD ρ = TX t) ∧ cTx M 6 [] ∧ M 6 6 = 0 ∧ RD 0 = []
def CI (M : a_M) (S : Nat → Nat) (V : Nat → Nat → Nat) (S2 : Nat → Nat) (V2 : Nat → Nat → Nat) (tl : Nat) (B : Nat → Int32) (fa fb : Int32) (TX : Nat → zTx) (R : Nat) (RD : Nat → zTx) : Prop := cSt M 44 S V ∧ cSt M 69 S2 V2 ∧ cTp M tl B ∧ cFa M fa fb ∧ cEx M R RD ∧ cSp M ∧ cPa M ∧ CX M (S 5) TX R RD
def MI (M : a_M) (S : Nat → Nat) (V : Nat → Nat → Nat) (S2 : Nat → Nat) (V2 : Nat → Nat → Nat) (tl : Nat) (B : Nat → Int32) (fa fb : Int32) (TX : Nat → zTx) : Prop := mSt M 119 S V ∧ mSt M 120 S2 V2 ∧ mTp M tl B ∧ (M 118 4 = fa ∧ M 118 5 = fb) ∧ ∀ t, t < S 5 → mTy M t (TX t)
def WI (S : Nat → Nat) (V : Nat → Nat → Nat) (S2 : Nat → Nat) (V2 : Nat → Nat → Nat) (TX : Nat → zTx) : Prop := wSt S V ∧ wSt S2 V2 ∧ S2 5 ≤ S 5 ∧ ∀ t, t < S 5 → wTx (TX t)
def LI (i : Nat) (M : a_M) : Prop := ∃ S V S2 V2 tl B fa fb TX R RD, WI S V S2 V2 TX ∧ CI M S V S2 V2 tl B fa fb TX R RD ∧ MI M S V S2 V2 tl B fa fb TX ∧ R ≤ i
def zTd (S : Nat → Nat) (TX : Nat → zTx) : zTx := if S 6 = 0 then [] else TX (S 6 - 1)
section INV
variable {M M' : a_M} {S S' S2 : Nat → Nat} {V V' V2 : Nat → Nat → Nat} {tl : Nat} {B : Nat → Int32} {fa fb : Int32} {TX : Nat → zTx} {R : Nat} {RD : Nat → zTx}
theorem cTp.same (h : cTp M tl B) (h1 : M' 1 = M 1) (h2 : M' 2 = M 2) : cTp M' tl B := ⟨by rw [h1]; exact h.1, h.2.1, fun i hi => by rw [h2]; exact h.2.2 i hi⟩
theorem cFa.same (h : cFa M fa fb) (h1 : M' 12 = M 12) : cFa M' fa fb := by unfold cFa; rw [h1]; exact h
def zsK (i : Nat) : Prop := (6 ≤ i ∧ i ≤ 10) ∨ i = 12 ∨ (94 ≤ i ∧ i < 117 ∧ i ≠ 99 ∧ i ≠ 105 ∧ i ≠ 111)
theorem CX.same {n : Nat} (h : CX M n TX R RD) (hn : n ≤ 4) (hm : ∀ i, zsK i → M' i = M i) : CX M' n TX R RD := by
  obtain ⟨h1, h2, h3, h4, h5⟩ := h
  refine ⟨by rw [hm 12 (by unfold zsK; omega)]; exact h1, fun t ht => ?_, h3.same (fun z a b => ?_), by rw [hm 6 (by unfold zsK; omega)]; exact h4, h5⟩
  · obtain ⟨k1, ρ, k2, k3, k4⟩ := h2 t ht
    refine ⟨k1.same (fun z a b => ?_), ρ, k2, by rw [hm _ (by unfold zsK; omega)]; exact k3, k4⟩
    have e : M' z = M z := hm z (by unfold zsK; omega)
    exact ⟨fun _ => by rw [e], fun _ => e⟩
  · have e : M' z = M z := hm z (by unfold zsK; omega)
    exact ⟨fun _ => by rw [e], fun _ => e⟩
theorem CI.make (h : CI M S V S2 V2 tl B fa fb TX R RD) (hn : S 5 ≤ 4) (h5 : S' 5 = S 5) (c44 : cSt M' 44 S' V') (c69 : ∀ i, 69 ≤ i → i ≤ 93 → M' i = M i) (c1 : M' 1 = M 1) (c2 : M' 2 = M 2) (ce : cEx M' R RD) (cs : cSp M') (cp : cPa M') (cx : ∀ i, zsK i → M' i = M i) : CI M' S' V' S2 V2 tl B fa fb TX R RD := by
  obtain ⟨a1, a2, a3, a4, a5, a6, a7, a8⟩ := h
  exact ⟨c44, a2.same c69, a3.same c1 c2, a4.same (cx 12 (by unfold zsK; omega)), ce, cs, cp, by rw [h5]; exact a8.same hn cx⟩
theorem CI.st (h : CI M S V S2 V2 tl B fa fb TX R RD) (hn : S 5 ≤ 4) (h5 : S' 5 = S 5) (c44 : cSt M' 44 S' V') (hm : ∀ i, (i < 44 ∨ 68 < i) → M' i = M i) : CI M' S' V' S2 V2 tl B fa fb TX R RD :=
  h.make hn h5 c44 (fun i a b => hm i (by omega)) (hm 1 (by omega)) (hm 2 (by omega)) (h.2.2.2.2.1.same (fun i a b _ => hm i (by omega))) (h.2.2.2.2.2.1.same (fun i a => hm i (by omega))) (h.2.2.2.2.2.2.1.same (fun i a => hm i (by omega))) (fun i a => hm i (by unfold zsK at a; omega))
theorem CI.same (h : CI M S V S2 V2 tl B fa fb TX R RD) (hn : S 5 ≤ 4) (hm : ∀ i, i < 118 → M' i = M i) : CI M' S V S2 V2 tl B fa fb TX R RD :=
  h.make hn rfl (h.1.same (fun i a b => hm i (by omega))) (fun i a b => hm i (by omega)) (hm 1 (by omega)) (hm 2 (by omega)) (h.2.2.2.2.1.same (fun i a b _ => hm i (by omega))) (h.2.2.2.2.2.1.same (fun i a => hm i (by omega))) (h.2.2.2.2.2.2.1.same (fun i a => hm i (by omega))) (fun i a => hm i (by unfold zsK at a; omega))
/-- what is kept but for slots in which the class reckons -/
theorem CI.few (h : CI M S V S2 V2 tl B fa fb TX R RD) (hn : S 5 ≤ 4) (hm : ∀ i, i ≠ 11 → i ≠ 42 → i ≠ 43 → i ≠ 99 → i ≠ 105 → i ≠ 111 → i ≠ 117 → M' i = M i) : CI M' S V S2 V2 tl B fa fb TX R RD :=
  have q : ∀ i, i < 11 ∨ (11 < i ∧ i < 42) ∨ (43 < i ∧ i < 99) ∨ zsK i → M' i = M i := fun i a => hm i (by unfold zsK at a; omega) (by unfold zsK at a; omega) (by unfold zsK at a; omega) (by unfold zsK at a; omega) (by unfold zsK at a; omega) (by unfold zsK at a; omega) (by unfold zsK at a; omega)
  h.make hn rfl (h.1.same (fun i a b => q i (by omega))) (fun i a b => q i (by omega)) (q 1 (by omega)) (q 2 (by omega)) (h.2.2.2.2.1.same (fun i a b _ => q i (by omega))) (h.2.2.2.2.2.1.same (fun i a => q i (by omega))) (h.2.2.2.2.2.2.1.same (fun i a => q i (by omega))) (fun i a => q i (Or.inr (Or.inr (Or.inr a))))
theorem CI.ex (h : CI M S V S2 V2 tl B fa fb TX R RD) (hn : S 5 ≤ 4) (hk : cK M M') (he : cEx M' R RD) (hm : ∀ i, 23 ≤ i → i < 94 → i ≠ 31 → i ≠ 32 → M' i = M i) : CI M' S V S2 V2 tl B fa fb TX R RD :=
  h.make hn rfl (h.1.same (fun i a b => hm i (by omega) (by omega) (by omega) (by omega))) (fun i a b => hm i (by omega) (by omega) (by omega) (by omega)) (hk 1 (by omega) (by omega) (by omega) (by omega) (by omega)) (hk 2 (by omega) (by omega) (by omega) (by omega) (by omega)) he (h.2.2.2.2.2.1.same (fun i a => hm i (by omega) (by omega) (by omega) (by omega))) (h.2.2.2.2.2.2.1.same (fun i a => hm i (by omega) (by omega) (by omega) (by omega))) (fun i a => hk i (by unfold zsK at a; omega) (by unfold zsK at a; omega) (by unfold zsK at a; omega) (by unfold zsK at a; omega) (by unfold zsK at a; omega))
theorem CI.ac (h : CI M S V S2 V2 tl B fa fb TX R RD) (hn : S 5 ≤ 4) (h5 : S' 5 = S 5) (c44 : cSt M' 44 S' V') (he : cEx M' R RD) (hk : cA M M') : CI M' S' V' S2 V2 tl B fa fb TX R RD :=
  h.make hn h5 c44 (fun i a b => hk.1 i (by omega) (by omega) (by omega) (by omega) (by omega)) (hk.1 1 (by omega) (by omega) (by omega) (by omega) (by omega)) (hk.1 2 (by omega) (by omega) (by omega) (by omega) (by omega)) he (h.2.2.2.2.2.1.same (fun i a => hk.2 i (by omega) (by omega))) (h.2.2.2.2.2.2.1.same (fun i a => hk.2 i (by omega) (by omega))) (fun i a => hk.1 i (by unfold zsK at a; omega) (by unfold zsK at a; omega) (by unfold zsK at a; omega) (by unfold zsK at a; omega) (by unfold zsK at a; omega))
theorem CI.pf (h : CI M S V S2 V2 tl B fa fb TX R RD) (hn : S 5 ≤ 4) (hs : cSp M') (hp : cPa M') (hm : ∀ i, (i < 19 ∨ 29 < i) → (i < 33 ∨ 41 < i) → M' i = M i) : CI M' S V S2 V2 tl B fa fb TX R RD :=
  h.make hn rfl (h.1.same (fun i a b => hm i (by omega) (by omega))) (fun i a b => hm i (by omega) (by omega)) (hm 1 (by omega) (by omega)) (hm 2 (by omega) (by omega)) (h.2.2.2.2.1.same (fun i a b _ => hm i (by omega) (by omega))) hs hp (fun i a => hm i (by unfold zsK at a; omega) (by unfold zsK at a; omega))
theorem CI.w (h : CI M S V S2 V2 tl B fa fb TX R RD) (hn : S 5 ≤ 4) (hk : cW M M') : CI M' S V S2 V2 tl B fa fb TX R RD :=
  h.pf hn hk.1 (h.2.2.2.2.2.2.1.same (fun i a => hk.2 i (by omega))) (fun i a b => hk.2 i (by omega))
theorem CI.tp {tl' : Nat} {B' : Nat → Int32} (h : CI M S V S2 V2 tl B fa fb TX R RD) (hn : S 5 ≤ 4) (ht : cTp M' tl' B') (hk : cF M M') : CI M' S V S2 V2 tl' B' fa fb TX R RD := by
  obtain ⟨a1, a2, a3, a4, a5, a6, a7, a8⟩ := h
  have q : ∀ i, 3 ≤ i → M' i = M i := fun i a => hk.1 i (by omega) (by omega)
  exact ⟨a1.same (fun i a b => q i (by omega)), a2.same (fun i a b => q i (by omega)), ht, a4.same (q 12 (by omega)), a5.same (fun i a b _ => q i (by omega)), a6.same (fun i a => q i (by omega)), a7.same (fun i a => q i (by omega)), a8.same hn (fun i a => q i (by unfold zsK at a; omega))⟩
theorem CI.im (h : CI M S V S2 V2 tl B fa fb TX R RD) (hn : S 5 ≤ 4) (hc : cSt M' 69 S V) (hm : ∀ i, (i < 69 ∨ 93 < i) → M' i = M i) : CI M' S V S V tl B fa fb TX R RD := by
  obtain ⟨a1, a2, a3, a4, a5, a6, a7, a8⟩ := h
  exact ⟨a1.same (fun i a b => hm i (by omega)), hc, a3.same (hm 1 (by omega)) (hm 2 (by omega)), a4.same (hm 12 (by omega)), a5.same (fun i a b _ => hm i (by omega)), a6.same (fun i a => hm i (by omega)), a7.same (fun i a => hm i (by omega)), a8.same hn (fun i a => hm i (by unfold zsK at a; omega))⟩
theorem CI.bk (h : CI M S V S2 V2 tl B fa fb TX R RD) (hn : S2 5 ≤ S 5) (hn4 : S 5 ≤ 4) (hc : cSt M' 44 S2 V2) (hm : ∀ i, (i < 44 ∨ 68 < i) → M' i = M i) : CI M' S2 V2 S2 V2 tl B fa fb TX R RD := by
  obtain ⟨a1, a2, a3, a4, a5, a6, a7, a8⟩ := h
  refine ⟨hc, a2.same (fun i a b => hm i (by omega)), a3.same (hm 1 (by omega)) (hm 2 (by omega)), a4.same (hm 12 (by omega)), a5.same (fun i a b _ => hm i (by omega)), a6.same (fun i a => hm i (by omega)), a7.same (fun i a => hm i (by omega)), ?_⟩
  obtain ⟨k1, k2, k3⟩ := a8.same hn4 (M' := M') (fun i a => hm i (by unfold zsK at a; omega))
  exact ⟨k1, fun t ht => k2 t (by omega), k3⟩
theorem CI.told (h : CI M S V S2 V2 tl B fa fb TX R RD) (hw : WI S V S2 V2 TX) (hR : R < 2 ^ 30) : ∃ ρ, cT M S R RD ρ (zTd S TX) := by
  obtain ⟨k1, k2, k3, k4, k5⟩ := h.2.2.2.2.2.2.2
  have h6 := hw.1.2.2.1
  by_cases c : S 6 = 0
  · refine ⟨0, ?_, Nat.zero_le _, hR, ?_, ?_, ?_⟩
    · unfold zts; rw [if_pos c]; exact k4
    · unfold zts zTd; rw [if_pos c, if_pos c]; exact k3
    · unfold zTd; rw [if_pos c]; exact wTx_nil
    · unfold zTd; rw [if_pos c]; exact k5
  · obtain ⟨j1, ρ, j2, j3, j4⟩ := k2 (S 6 - 1) (by omega)
    refine ⟨ρ, ?_, j2, hR, ?_, ?_, ?_⟩
    · unfold zts; rw [if_neg c]; exact j3
    · unfold zts zTd; rw [if_neg c, if_neg c]; exact j1
    · unfold zTd; rw [if_neg c]; exact hw.2.2.2 _ (by omega)
    · unfold zTd; rw [if_neg c]; exact j4
/-! the reference -/
theorem mTy.same {t : Nat} {T : zTx} (h : mTy M t T) (hm : ∀ i, 122 ≤ i → i ≤ 127 → M' i = M i) : mTy M' t T := by
  unfold mTy
  rw [hm 122 (by omega) (by omega), hm 123 (by omega) (by omega), hm 124 (by omega) (by omega), hm 125 (by omega) (by omega), hm 126 (by omega) (by omega), hm 127 (by omega) (by omega)]
  exact h
theorem mTp.same (h : mTp M tl B) (h1 : M' 118 3 = M 118 3) (h2 : M' 121 = M 121) : mTp M' tl B := ⟨by rw [h1]; exact h.1, h.2.1, fun i hi => by rw [h2]; exact h.2.2 i hi⟩
theorem MI.ac (h : MI M S V S2 V2 tl B fa fb TX) (h5 : S' 5 = S 5) (c : mSt M' 119 S' V') (hk : mA M M') : MI M' S' V' S2 V2 tl B fa fb TX := by
  obtain ⟨a1, a2, a3, a4, a5⟩ := h
  refine ⟨c, a2.same (hk.1 120 (by omega) (by omega) (by omega)), a3.same (hk.2 3 (by omega)) (hk.1 121 (by omega) (by omega) (by omega)), ⟨by rw [hk.2 4 (by omega)]; exact a4.1, by rw [hk.2 5 (by omega)]; exact a4.2⟩, fun t ht => (a5 t (by omega)).same (fun i a b => hk.1 i (by omega) (by omega) (by omega))⟩
theorem MI.K (h : MI M S V S2 V2 tl B fa fb TX) (hk : mK M M') : MI M' S V S2 V2 tl B fa fb TX := h.ac rfl (h.1.K (Or.inl rfl) hk) hk.A
theorem MI.st (h : MI M S V S2 V2 tl B fa fb TX) (h5 : S' 5 = S 5) (c : mSt M' 119 S' V') (hm : ∀ i, i ≠ 119 → M' i = M i) : MI M' S' V' S2 V2 tl B fa fb TX := h.ac h5 c ⟨fun o _ _ b => hm o b, fun j _ => by rw [hm 118 (by decide)]⟩
theorem MI.same (h : MI M S V S2 V2 tl B fa fb TX) (hm : ∀ i, 118 ≤ i → i ≤ 127 → M' i = M i) : MI M' S V S2 V2 tl B fa fb TX := by
  obtain ⟨a1, a2, a3, a4, a5⟩ := h
  exact ⟨a1.same (hm 119 (by omega) (by omega)), a2.same (hm 120 (by omega) (by omega)), a3.same (by rw [hm 118 (by omega) (by omega)]) (hm 121 (by omega) (by omega)), ⟨by rw [hm 118 (by omega) (by omega)]; exact a4.1, by rw [hm 118 (by omega) (by omega)]; exact a4.2⟩, fun t ht => (a5 t ht).same (fun i a b => hm i (by omega) (by omega))⟩
theorem MI.tp {tl' : Nat} {B' : Nat → Int32} (h : MI M S V S2 V2 tl B fa fb TX) (ht : mTp M' tl' B') (hk : mF M M') : MI M' S V S2 V2 tl' B' fa fb TX := by
  obtain ⟨a1, a2, a3, a4, a5⟩ := h
  exact ⟨a1.same (hk.1 119 (by decide) (by decide)), a2.same (hk.1 120 (by decide) (by decide)), ht, ⟨by rw [hk.2 4 (by decide)]; exact a4.1, by rw [hk.2 5 (by decide)]; exact a4.2⟩, fun t h9 => (a5 t h9).same (fun i a b => hk.1 i (by omega) (by omega))⟩
theorem MI.im (h : MI M S V S2 V2 tl B fa fb TX) (c : mSt M' 120 S V) (hm : ∀ i, i ≠ 120 → M' i = M i) : MI M' S V S V tl B fa fb TX := by
  obtain ⟨a1, a2, a3, a4, a5⟩ := h
  exact ⟨a1.same (hm 119 (by decide)), c, a3.same (by rw [hm 118 (by decide)]) (hm 121 (by decide)), ⟨by rw [hm 118 (by decide)]; exact a4.1, by rw [hm 118 (by decide)]; exact a4.2⟩, fun t ht => (a5 t ht).same (fun i a b => hm i (by omega))⟩
theorem MI.bk (h : MI M S V S2 V2 tl B fa fb TX) (hn : S2 5 ≤ S 5) (c : mSt M' 119 S2 V2) (hm : ∀ i, i ≠ 119 → M' i = M i) : MI M' S2 V2 S2 V2 tl B fa fb TX := by
  obtain ⟨a1, a2, a3, a4, a5⟩ := h
  exact ⟨c, a2.same (hm 120 (by decide)), a3.same (by rw [hm 118 (by decide)]) (hm 121 (by decide)), ⟨by rw [hm 118 (by decide)]; exact a4.1, by rw [hm 118 (by decide)]; exact a4.2⟩, fun t ht => (a5 t (by omega)).same (fun i a b => hm i (by omega))⟩
theorem MI.told (h : MI M S V S2 V2 tl B fa fb TX) (hw : WI S V S2 V2 TX) : mT M (S 6) (zTd S TX) := by
  have h6 := hw.1.2.2.1
  have h5 := hw.1.2.1
  refine ⟨h.1.2.2.2.2.2.2.1, by omega, fun j hj => ?_, fun hz => by unfold zTd; rw [if_pos hz], ?_⟩
  · have e : zTd S TX = TX j := by unfold zTd; rw [if_neg (by omega), show S 6 - 1 = j by omega]
    rw [e]
    exact (h.2.2.2.2 j (by omega)).tx (by omega)
  · unfold zTd
    split
    · exact wTx_nil
    · exact hw.2.2.2 _ (by omega)
end INV
