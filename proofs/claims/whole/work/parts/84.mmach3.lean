/-! PARSER 9: the reference's machine: begins, goesOn -/
def zPw (w : Int32) : Int32 × Int32 := (zor w, zvl w)
theorem zPw_num {v : Nat} (h : v ≤ 9999) : zPw (nI v) = (400, nI v) := by
  unfold zPw zor zvl
  rw [if_neg (nI_pos (by omega)), if_neg (nI_pos (by omega))]
/-- signs end a token where it ends -/
theorem tk_pos {w : Int32} {b : Nat} (h : w = nI b) (hb : b < 2 ^ 30) (h1 : b ≠ 60) (h2 : b ≠ 62) : w ≠ nI 60 ∧ w ≠ nI 62 := by
  rw [h]
  exact ⟨fun z => h1 ((nI_eq (by omega) (by omega)).mp z), fun z => h2 ((nI_eq (by omega) (by omega)).mp z)⟩
section MM3
variable {X : a_X} {ad : Nat → Nat} {ca : Nat → ClassId} {d x : Nat} {M : a_M} {Y : Nat → Nat} {tl i st : Nat} {op : Nat} {fr : List Nat} {wt : List (Nat × Nat)} {e : List (Int32 × Int32)}
/-- behind a token that is a one -/
theorem over_one (hd : 3 ≤ d) {b0 : List Nat} {f q : Nat} {o v : Int32} (hf : f ≠ 7) (hf9 : f < 10) (h : gY M Y tl op ((b0 ++ [f]) ++ List.replicate q 7) wt e) (hT : nT M Y tl i) (h6 : lTk Y tl i ≠ nI 60 ∧ lTk Y tl i ≠ nI 62) (hq : q ≤ op) (hop : op < 9) (hl : e.length + q + 1 < 400) (hfr : ((b0 ++ [f]) ++ List.replicate q 7).length ≤ 40) :
    ∃ Q1 : a_M → Prop, mX12_emits X ad ca d x [.ref 118, .int o, .int v] M (q_v (PT x) Q1) ∧ ∀ M1, Q1 M1 → ∃ Q2 : a_M → Prop, mX12_next X ad ca d x [.ref 118] M1 (q_v (PT x) Q2) ∧ ∀ M2, Q2 M2 → ∃ Q3 : a_M → Prop, mX12_oneIsOver X ad ca d x [.ref 118] M2 (q_v (PT x) Q3) ∧ ∀ M3, Q3 M3 → (gX M3 Y tl (i + 1) 2 (op - q) (b0 ++ [f]) wt ((e ++ [(o, v)]) ++ List.replicate q (402, 0)) ∧ xF M M3) := by
  refine ⟨_, kX12_emits (by omega) o v h (by omega), ?_⟩
  rintro M1 ⟨k1, k2, k3⟩
  refine ⟨_, kX12_nx (i := i) (by omega) k1 (by rw [k3 13 (by decide)]; exact hT.pos h6.1 h6.2), ?_⟩
  rintro M2 ⟨j1, j2, j3⟩
  refine ⟨_, kX12_oneIsOver (by omega) hf hf9 j1 j2 hq hop (by simp; omega) hfr, ?_⟩
  rintro M3 ⟨n1, n2⟩
  exact ⟨n1, (k2.trans j3.x).trans n2⟩
theorem kX12_opensSign (hd : 4 ≤ d) {f : Nat} (h : gX M Y tl i 1 op fr wt e) (h6 : lTk Y tl i ≠ nI 60 ∧ lTk Y tl i ≠ nI 62) (hop : op ≤ 8) (hfl : fr.length < 40) : mX12_opensSign X ad ca d x [.ref 118, .int (nI f)] M (q_i (PT x) (fun _ M' => (op = 8 ∧ gE M M' Y tl 3 i) ∨ (op < 8 ∧ gX M' Y tl (i + 1) 1 (op + 1) (fr ++ [f]) wt e ∧ xF M M'))) := by
  obtain ⟨d, rfl⟩ := a_d1 (show 1 ≤ d by omega)
  obtain ⟨g1, g2, g3, g4, g5, g6, g7, g8⟩ := h
  refine eX12_opensSign _ (bX12_opensSign_0 _ ?_)
  rw [g5]
  refine ⟨fun q => ?_, fun q => ⟨_, kX12_errs (f := 3) (by omega) g3.1 g2, ?_⟩⟩
  · have h8 : op < 8 := by
      have : op ≠ 8 := fun z => q (by rw [z]; rfl)
      omega
    rw [nI_1]
    have r : ∀ z, z ≠ 118 → ms M 118 19 (nI (op + 1)) z = M z := fun z hz => ms_row _ _ _ _ _ hz
    have r8 : ∀ j, j ≠ 19 → ms M 118 19 (nI (op + 1)) 118 j = M 118 j := fun j hj => ms_no _ _ _ _ _ _ (fun z => hj z.2)
    refine ⟨_, kX12_opensFrame (f := f) (fr := fr) (by omega) ⟨by rw [r8 20 (by decide)]; exact g6.1, fun z g hz => by rw [r 128 (by decide)]; exact g6.2 z g hz⟩ hfl, ?_⟩
    rintro M1 ⟨k1, k2, k3⟩
    have s8 : ∀ j, j ≠ 19 → j ≠ 20 → M1 118 j = M 118 j := fun j a b => by rw [k3 j b, r8 j a]
    have s : ∀ z, z ≠ 118 → z ≠ 128 → M1 z = M z := fun z a b => by rw [k2 z a b, r z a]
    have gy : gY M1 Y tl (op + 1) (fr ++ [f]) wt e := ⟨⟨by rw [s8 12 (by decide) (by decide)]; exact g1.1, g1.2.1, fun z hz => by rw [s 121 (by decide) (by decide)]; exact g1.2.2.1 z hz, g1.2.2.2⟩, ⟨by rw [s8 17 (by decide) (by decide)]; exact g3.1, by rw [s8 18 (by decide) (by decide)]; exact g3.2⟩, by rw [k3 19 (by decide), ms_is], k1, ⟨by rw [s8 22 (by decide) (by decide)]; exact g7.1, fun z q hz => by rw [s 129 (by decide) (by decide), s 130 (by decide) (by decide)]; exact g7.2 z q hz⟩, ⟨by rw [s8 31 (by decide) (by decide)]; exact g8.1, fun z q hz => by rw [s 134 (by decide) (by decide), s 135 (by decide) (by decide)]; exact g8.2 z q hz⟩⟩
    have hx1 : xF M M1 := ⟨fun q a b c d e f => s q a b, fun j hj => s8 j (by omega) (by omega)⟩
    refine ⟨_, kX12_nx (i := i) (by omega) gy (by rw [s8 13 (by decide) (by decide)]; exact g2.pos h6.1 h6.2), ?_⟩
    rintro M2 ⟨j1, j2, j3⟩
    exact ⟨_, rfl, rfl, Or.inr ⟨h8, ⟨j1.1, j2, j1.2.1, by rw [j3.2 25 (by omega), s8 25 (by decide) (by decide)]; exact g4, j1.2.2.1, j1.2.2.2⟩, hx1.trans j3.x⟩⟩
  · intro M3 h3
    exact ⟨_, rfl, rfl, Or.inl ⟨(nI_eq (b := 8) (by omega) (by omega)).mp q, h3⟩⟩
theorem kX12_begins (hd : 5 ≤ d) {b0 : List Nat} {f q nk : Nat} (hf : f ≠ 7) (hf9 : f < 10) (hfr : fr = (b0 ++ [f]) ++ List.replicate q 7) (h : gX M Y tl i 1 op fr wt e) (hnk : M 118 27 = nI nk) (hnk6 : nk ≤ 6) (hq : q ≤ op) (hop : op ≤ 8) (hl : e.length + q + 1 < 400) (hfl : fr.length < 40) :
    mX12_begins X ad ca d x [.ref 118] M (q_v (PT x) (fun M' => (¬ (lTk Y tl i = 40 ∨ lTk Y tl i = 45) ∧ match pAt (lTk Y tl) (nk == 6) i (.inl (3, i)) with
      | .inr (j, c) => gX M' Y tl j 2 (op - q) (b0 ++ [f]) wt (e ++ (c ++ List.replicate q (-4)).map zPw) ∧ xF M M'
      | .inl (fl, j) => gE M M' Y tl fl j) ∨ ((lTk Y tl i = 40 ∨ lTk Y tl i = 45) ∧ ((op = 8 ∧ gE M M' Y tl 3 i) ∨ (op < 8 ∧ gX M' Y tl (i + 1) 1 (op + 1) (fr ++ [if lTk Y tl i = 40 then 6 else 7]) wt e ∧ xF M M'))))) := by
  obtain ⟨d, rfl⟩ := a_d1 (show 1 ≤ d by omega)
  have gy := h.y
  obtain ⟨g1, g2, g3, g4, g5, g6, g7, g8⟩ := id h
  have hn := rTok_num g2.2.1
  have hwd := rTok_word g2.2.1
  subst hfr
  have erep : ∀ (w : Int32), e ++ ([w] ++ List.replicate q (-4)).map zPw = (e ++ [zPw w]) ++ List.replicate q (402, 0) := fun w => by
    rw [List.map_append, List.map_replicate, ← List.append_assoc]
    rfl
  refine eX12_begins (bX12_begins_0 ?_)
  -- signs and others
  have p112 : ¬ 300 ≤ lTk Y tl i → (lTk Y tl i ≠ 270 ∧ lTk Y tl i ≠ 271 ∧ lTk Y tl i ≠ 272) → wX12_begins X ad ca d x (q_v (PT x) (fun M' => (¬ (lTk Y tl i = 40 ∨ lTk Y tl i = 45) ∧ match pAt (lTk Y tl) (nk == 6) i (.inl (3, i)) with
      | .inr (j, c) => gX M' Y tl j 2 (op - q) (b0 ++ [f]) wt (e ++ (c ++ List.replicate q (-4)).map zPw) ∧ xF M M'
      | .inl (fl, j) => gE M M' Y tl fl j) ∨ ((lTk Y tl i = 40 ∨ lTk Y tl i = 45) ∧ ((op = 8 ∧ gE M M' Y tl 3 i) ∨ (op < 8 ∧ gX M' Y tl (i + 1) 1 (op + 1) (((b0 ++ [f]) ++ List.replicate q 7) ++ [if lTk Y tl i = 40 then 6 else 7]) wt e ∧ xF M M'))))) 112 [(0, .ref 118)] M := by
    intro n3 n7
    refine bX12_begins_112 ⟨_, kX12_isSign (s := 40) (by omega) g2 (Or.inl rfl), ?_⟩
    rintro v1 M1 ⟨rfl, rfl⟩
    refine ⟨fun q1 => ⟨_, kX12_isSign (s := 45) (by omega) g2 (by unfold zsg; omega), ?_⟩, fun q1 => ⟨_, kX12_opensSign (f := 6) (by omega) h ?_ hop hfl, ?_⟩⟩
    · rintro v2 M2 ⟨rfl, rfl⟩
      have m1 : ¬ lTk Y tl i = 40 := fun z => by rw [if_pos (show lTk Y tl i = nI 40 from z)] at q1; exact absurd q1 (by decide)
      refine ⟨fun q2 => ⟨_, kX12_errs (f := 1) (by omega) g3.1 g2, ?_⟩, fun q2 => ⟨_, kX12_opensSign (f := 7) (by omega) h ?_ hop hfl, ?_⟩⟩
      · intro M3 h3
        have m2 : ¬ lTk Y tl i = 45 := fun z => by rw [if_pos (show lTk Y tl i = nI 45 from z)] at q2; exact absurd q2 (by decide)
        refine ⟨rfl, rfl, Or.inl ⟨fun z => z.elim m1 m2, ?_⟩⟩
        have ep : pAt (lTk Y tl) (nk == 6) i (.inl (3, i)) = .inl (1, i) := by
          unfold pAt
          rw [if_neg n3, if_neg (fun z => z.elim m1 m2)]
          unfold pName
          rw [if_neg]
          rintro (z | z | z)
          · exact n7.1 z
          · exact n7.2.1 z
          · exact n7.2.2 z
        rw [ep]
        exact h3
      · have m2 : lTk Y tl i = nI 45 := Classical.byContradiction fun z => q2 (if_neg z)
        exact tk_pos m2 (by omega) (by omega) (by omega)
      · rintro v4 M4 h4
        have m2 : lTk Y tl i = 45 := Classical.byContradiction fun z => q2 (if_neg z)
        refine ⟨rfl, rfl, Or.inr ⟨Or.inr m2, ?_⟩⟩
        rw [if_neg m1]
        exact h4
    · have m2 : lTk Y tl i = nI 40 := Classical.byContradiction fun z => q1 (if_neg z)
      exact tk_pos m2 (by omega) (by omega) (by omega)
    · rintro v4 M4 h4
      have m2 : lTk Y tl i = 40 := Classical.byContradiction fun z => q1 (if_neg z)
      refine ⟨rfl, rfl, Or.inr ⟨Or.inl m2, ?_⟩⟩
      rw [if_pos m2]
      exact h4
  refine ⟨fun q2 => ?_, fun q2 => ?_⟩
  · have n3 : ¬ 300 ≤ lTk Y tl i := fun z => q2 (hn.1.mpr z)
    refine ⟨fun q1 => p112 n3 (hwd.2 q1).2, fun q1 => ?_⟩
    obtain ⟨k, hk, hk1, hk2⟩ := hwd.1 q1
    have hb := lTw_b k hk
    rw [hk1, hnk]
    refine ⟨fun q3 => p112 n3 ?_, fun q3 => ?_⟩
    · have h7 : k < 7 := (nI_ltI (b := 7) (by omega) (by omega)).mp q3
      have hw7 : lTw k = 257 + k := by unfold lTw; rw [if_pos (by omega)]
      rw [hk2, hw7]
      refine ⟨fun z => ?_, fun z => ?_, fun z => ?_⟩
      · have := (nI_eq (b := 270) (by omega) (by omega)).mp z; omega
      · have := (nI_eq (b := 271) (by omega) (by omega)).mp z; omega
      · have := (nI_eq (b := 272) (by omega) (by omega)).mp z; omega
    · have h7 : 7 ≤ k := Nat.not_lt.mp fun z => q3 (nI_lt (b := 7) z (by omega))
      have hw7 : lTw k = 263 + k := by unfold lTw; rw [if_neg (by omega)]
      rw [hw7] at hk2
      have n40 : ¬ (lTk Y tl i = 40 ∨ lTk Y tl i = 45) := fun z => by
        rcases z with z | z
        · rw [hk2] at z; have := (nI_eq (b := 40) (by omega) (by omega)).mp z; omega
        · rw [hk2] at z; have := (nI_eq (b := 45) (by omega) (by omega)).mp z; omega
      have hname : lTk Y tl i = 270 ∨ lTk Y tl i = 271 ∨ lTk Y tl i = 272 := by
        rw [hk2]
        have : k = 7 ∨ k = 8 ∨ k = 9 := by omega
        rcases this with rfl | rfl | rfl
        · exact Or.inl rfl
        · exact Or.inr (Or.inl rfl)
        · exact Or.inr (Or.inr rfl)
      have epn : pAt (lTk Y tl) (nk == 6) i (.inl (3, i)) = pName (lTk Y tl) (nk == 6) i := by unfold pAt; rw [if_neg n3, if_neg n40]
      have p87 : ¬ (lTk Y tl i = 270 ∧ (nk == 6) = true) → wX12_begins X ad ca d x (q_v (PT x) (fun M' => (¬ (lTk Y tl i = 40 ∨ lTk Y tl i = 45) ∧ match pAt (lTk Y tl) (nk == 6) i (.inl (3, i)) with
          | .inr (j, c) => gX M' Y tl j 2 (op - q) (b0 ++ [f]) wt (e ++ (c ++ List.replicate q (-4)).map zPw) ∧ xF M M'
          | .inl (fl, j) => gE M M' Y tl fl j) ∨ ((lTk Y tl i = 40 ∨ lTk Y tl i = 45) ∧ ((op = 8 ∧ gE M M' Y tl 3 i) ∨ (op < 8 ∧ gX M' Y tl (i + 1) 1 (op + 1) (((b0 ++ [f]) ++ List.replicate q 7) ++ [if lTk Y tl i = 40 then 6 else 7]) wt e ∧ xF M M'))))) 87 [(0, .ref 118)] M := by
        intro n5
        have ep : pAt (lTk Y tl) (nk == 6) i (.inl (3, i)) = .inr (i + 1, [if lTk Y tl i = 270 then -1 else if lTk Y tl i = 271 then -2 else -3]) := by
          rw [epn]; unfold pName; rw [if_pos hname, if_neg n5]
        refine bX12_begins_87 ?_
        rw [hk1]
        have e7 : nI k - 7 = nI (k - 7) := by rw [fa_lit 7, pk_sub h7]
        rw [e7]
        obtain ⟨Q1, a1, a2⟩ := over_one (X := X) (ad := ad) (ca := ca) (d := d) (x := x) (o := 401) (v := nI (k - 7)) (by omega) hf hf9 gy g2 (tk_pos hk2 (by omega) (by omega) (by omega)) hq (by omega) hl (by omega)
        refine ⟨Q1, a1, fun M1 hM1 => ?_⟩
        obtain ⟨Q2, c1, c2⟩ := a2 M1 hM1
        refine ⟨Q2, c1, fun M2 hM2 => ?_⟩
        obtain ⟨Q3, c3, c4⟩ := c2 M2 hM2
        refine ⟨Q3, c3, fun M3 hM3 => ?_⟩
        obtain ⟨r1, r2⟩ := c4 M3 hM3
        refine ⟨rfl, rfl, Or.inl ⟨n40, ?_⟩⟩
        rw [ep]
        refine ⟨?_, r2⟩
        rw [erep]
        have ez : zPw (if lTk Y tl i = 270 then -1 else if lTk Y tl i = 271 then -2 else -3) = (401, nI (k - 7)) := by
          rw [hk2]
          have : k = 7 ∨ k = 8 ∨ k = 9 := by omega
          rcases this with rfl | rfl | rfl <;> decide
        rw [ez]
        exact r1
      refine ⟨fun q4 => p87 (fun z => q4 ?_), fun q4 => ⟨fun q5 => p87 (fun z => q5 ?_), fun q5 => ⟨_, kX12_errs (f := 5) (by omega) g3.1 g2, ?_⟩⟩⟩
      · have z1 := z.1
        rw [hk2] at z1
        have := (nI_eq (b := 270) (by omega) (by omega)).mp z1
        rw [show k = 7 by omega]; rfl
      · have : nk = 6 := by simpa using z.2
        rw [this]; rfl
      · intro M3 h3
        refine ⟨rfl, rfl, Or.inl ⟨n40, ?_⟩⟩
        have hk7 : k = 7 := (nI_eq (b := 7) (by omega) (by omega)).mp q4
        have hn6 : nk = 6 := (nI_eq (b := 6) (by omega) (by omega)).mp q5
        have ep : pAt (lTk Y tl) (nk == 6) i (.inl (3, i)) = .inl (5, i) := by
          rw [epn]; unfold pName
          rw [if_pos hname, if_pos ⟨by rw [hk2, hk7]; rfl, by rw [hn6]; rfl⟩]
        rw [ep]
        exact h3
  · have n3 := hn.1.mp q2
    obtain ⟨v, hv, hv1, hv2⟩ := hn.2 q2
    rw [hv1]
    have n40 : ¬ (lTk Y tl i = 40 ∨ lTk Y tl i = 45) := fun z => by
      rcases z with z | z
      · rw [z] at n3; exact absurd n3 (by decide)
      · rw [z] at n3; exact absurd n3 (by decide)
    have epn : pAt (lTk Y tl) (nk == 6) i (.inl (3, i)) = pNum (lTk Y tl) 9999 i := by unfold pAt; rw [if_pos n3]
    have e3 : lTk Y tl i - 300 = nI (min 10000 v) := by rw [hv2, p_num2]
    refine ⟨fun q3 => ?_, fun q3 => ⟨_, kX12_errs (f := 2) (by omega) g3.1 g2, ?_⟩⟩
    · have h9 : v ≤ 9999 := (nI_leI (b := 9999) (by omega) (by omega)).mp q3
      have em : min 10000 v = v := by omega
      rw [em] at e3 hv2
      have ep : pAt (lTk Y tl) (nk == 6) i (.inl (3, i)) = .inr (i + 1, [nI v]) := by
        rw [epn]; unfold pNum
        rw [if_pos n3, e3, if_pos (nI_le h9 (by omega))]
      obtain ⟨Q1, a1, a2⟩ := over_one (X := X) (ad := ad) (ca := ca) (d := d) (x := x) (o := 400) (v := nI v) (by omega) hf hf9 gy g2 (tk_pos hv2 (by omega) (by omega) (by omega)) hq (by omega) hl (by omega)
      refine ⟨Q1, a1, fun M1 hM1 => ?_⟩
      obtain ⟨Q2, c1, c2⟩ := a2 M1 hM1
      refine ⟨Q2, c1, fun M2 hM2 => ?_⟩
      obtain ⟨Q3, c3, c4⟩ := c2 M2 hM2
      refine ⟨Q3, c3, fun M3 hM3 => ?_⟩
      obtain ⟨r1, r2⟩ := c4 M3 hM3
      refine ⟨rfl, rfl, Or.inl ⟨n40, ?_⟩⟩
      rw [ep]
      refine ⟨?_, r2⟩
      rw [erep, zPw_num h9]
      exact r1
    · intro M3 h3
      refine ⟨rfl, rfl, Or.inl ⟨n40, ?_⟩⟩
      have h9 : 9999 < v := Nat.not_le.mp fun z => q3 (nI_le (b := 9999) z (by omega))
      have ep : pAt (lTk Y tl) (nk == 6) i (.inl (3, i)) = .inl (2, i) := by
        rw [epn]; unfold pNum
        rw [if_pos n3, e3, if_neg (nI_ge (show 9999 < min 10000 v by omega) (by omega))]
      rw [ep]
      exact h3
end MM3
