/-! PARSER 13: the reference's machine: a clause begins -/
theorem pCl_k {tk : Nat → Int32} {T : zTx} {i k : Nat} (hk : pKd (tk i) = some k) (h1 : ¬ (k ≤ 2 ∧ (zix T k).isSome = true)) (h2 : ¬ 30 ≤ T.length) : pCl tk T i = match pPass tk 59 (pBody tk k (i + 1)) with
    | .inl e => .inl e
    | .inr (j, c) => .inr (j, T ++ [(k, if k = 4 then (c.headD 0).toNatClampNeg else 0, c)]) := by
  unfold pCl
  rw [hk]
  show (if _ then _ else _) = _
  rw [if_neg h1, if_neg h2]
  rfl
theorem pPass_y {tk : Nat → Int32} {s : Int32} {j : Nat} {c : List Int32} (h : tk j = s) : pPass tk s (.inr (j, c)) = .inr (j + 1, c) := by
  show (if tk j = s then Sum.inr (j + 1, c) else .inl (1, j)) = _
  rw [if_pos h]
theorem pPass_n {tk : Nat → Int32} {s : Int32} {j : Nat} {c : List Int32} (h : ¬ tk j = s) : pPass tk s (.inr (j, c)) = .inl (1, j) := by
  show (if tk j = s then Sum.inr (j + 1, c) else .inl (1, j)) = _
  rw [if_neg h]
theorem mCl.add {M M' : a_M} {T : zTx} {e e' : List (Int32 × Int32)} {q : Nat × Nat × List Int32} (h : mCl M T e) (hm : ∀ a, a < T.length → M' 131 a = M 131 a ∧ M' 132 a = M 132 a ∧ M' 133 a = M 133 a) (h1 : M' 131 T.length = nI q.1) (h2 : q.1 = 4 → M' 133 T.length = nI q.2.1) (h3 : M' 132 T.length = nI e.length) (h4 : (q.1 ≤ 2 ∨ q.1 = 6) → e' = q.2.2.map zPw ++ [(408, 0)]) : mCl M' (T ++ [q]) (e ++ e') := by
  intro a q' hq
  rcases getq_app hq with hq | ⟨rfl, rfl⟩
  · exact h.mono hm a q' hq
  · refine ⟨h1, h2, e.length, h3, by rw [List.length_append]; omega, fun z => ?_⟩
    rw [h4 z]
    refine ⟨by simp, fun y w hy => ?_, ?_⟩
    · have hy2 : y < q'.2.2.length := (List.getElem?_eq_some_iff.mp hy).1
      rw [List.getElem?_append_right (by omega), List.getElem?_append_left (by simp; omega), Nat.add_sub_cancel_left, List.getElem?_map, hy]
      rfl
    · rw [List.getElem?_append_right (by omega), List.getElem?_append_right (by simp), List.length_map, Nat.add_sub_cancel_left, Nat.sub_self]
      rfl
theorem gY.w {M M' : a_M} {Y : Nat → Nat} {tl op : Nat} {fr : List Nat} {wt : List (Nat × Nat)} {e : List (Int32 × Int32)} (h : gY M Y tl op fr wt e) (hm : ∀ q, q ≠ 118 → q ≠ 131 → q ≠ 132 → q ≠ 133 → M' q = M q) (h8 : ∀ j, j ≠ 25 → j ≠ 26 → j ≠ 27 → M' 118 j = M 118 j) : gY M' Y tl op fr wt e := by
  obtain ⟨h1, h2, h3, h4, h5, h6⟩ := h
  have r : ∀ q, q = 121 ∨ (128 ≤ q ∧ q ≤ 130) ∨ q = 134 ∨ q = 135 → M' q = M q := fun q hq => hm q (by omega) (by omega) (by omega) (by omega)
  refine ⟨⟨by rw [h8 12 (by decide) (by decide) (by decide)]; exact h1.1, h1.2.1, fun i hi => by rw [r 121 (by omega)]; exact h1.2.2.1 i hi, h1.2.2.2⟩, ⟨by rw [h8 17 (by decide) (by decide) (by decide)]; exact h2.1, by rw [h8 18 (by decide) (by decide) (by decide)]; exact h2.2⟩, by rw [h8 19 (by decide) (by decide) (by decide)]; exact h3, ⟨by rw [h8 20 (by decide) (by decide) (by decide)]; exact h4.1, fun z f hz => by rw [r 128 (by omega)]; exact h4.2 z f hz⟩, ⟨by rw [h8 22 (by decide) (by decide) (by decide)]; exact h5.1, fun z q hz => by rw [r 129 (by omega), r 130 (by omega)]; exact h5.2 z q hz⟩, ⟨by rw [h8 31 (by decide) (by decide) (by decide)]; exact h6.1, fun z q hz => by rw [r 134 (by omega), r 135 (by omega)]; exact h6.2 z q hz⟩⟩
/-- the rows of the clauses before -/
def mRw (M M' : a_M) (N : Nat) : Prop := ∀ a, a < N → M' 131 a = M 131 a ∧ M' 132 a = M 132 a ∧ M' 133 a = M 133 a
/-- what the beginning of a clause leaves -/
def clX (M M' : a_M) (Y : Nat → Nat) (tl i : Nat) (T : zTx) (e : List (Int32 × Int32)) (k : Nat) : Prop := gX M' Y tl (i + 1) 1 0 [1] [] e ∧ M' 118 26 = nI T.length ∧ M' 118 27 = nI k ∧ M' 131 T.length = nI k ∧ M' 132 T.length = nI e.length ∧ mRw M M' T.length ∧ tF M M'
def clO (M M' : a_M) (Y : Nat → Nat) (tl i : Nat) (T : zTx) (e : List (Int32 × Int32)) : Prop :=
  (∃ f j, pCl (lTk Y tl) T i = .inl (f, j) ∧ gE2 M M' Y tl f j) ∨ (∃ j T', pCl (lTk Y tl) T i = .inr (j, T') ∧ gT M' Y tl j T' (e ++ [(408, 0)]) ∧ tF M M') ∨ ∃ k, pKd (lTk Y tl i) = some k ∧ (k ≤ 2 ∨ k = 6) ∧ ¬ (k ≤ 2 ∧ (zix T k).isSome = true) ∧ T.length < 30 ∧ clX M M' Y tl i T e k
section MC2
variable {X : a_X} {ad : Nat → Nat} {ca : Nat → ClassId} {d x : Nat} {M : a_M} {Y : Nat → Nat} {tl i : Nat} {e : List (Int32 × Int32)}
theorem gE2.pre {M M2 M' : a_M} {f j : Nat} (hx : tF M M2) (h : gE M2 M' Y tl f j) : gE2 M M' Y tl f j := ⟨h.1, h.2.1, hx.trans h.2.2.t⟩
theorem kX12_clause (hd : 5 ≤ d) {T : zTx} (hw : wTx T) (h : gT M Y tl i T e) (hl : e.length ≤ 300) : mX12_clause X ad ca d x [.ref 118] M (q_v (PT x) (fun M' => clO M M' Y tl i T e)) := by
  obtain ⟨d, rfl⟩ := a_d1 (show 1 ≤ d by omega)
  obtain ⟨g1, g2, g3, g4, g5⟩ := h
  have h17 := g1.2.1.1
  have hwd := rTok_word g2.2.1
  have hN := hw.1
  have p17 : pKd (lTk Y tl i) = none → wX12_clause X ad ca d x (q_v (PT x) (fun M' => clO M M' Y tl i T e)) 17 [(0, .ref 118)] M := fun hn => bX12_clause_17 ⟨_, kX12_errs (f := 1) (by omega) h17 g2, fun M1 h1 => ⟨rfl, rfl, Or.inl ⟨1, i, by unfold pCl; rw [hn], h1.1, h1.2.1, h1.2.2.t⟩⟩⟩
  refine eX12_clause (bX12_clause_0 ⟨fun q => p17 (hwd.2 q).1, fun q => ?_⟩)
  obtain ⟨k, hk9, ht, hto⟩ := hwd.1 q
  rw [ht]
  have hb := lTw_b k hk9
  by_cases hk6 : k ≤ 6
  rotate_left
  · refine ⟨fun q6 => absurd ((nI_leI (b := 6) (by omega) (by omega)).mp q6) hk6, fun q6 => p17 ?_⟩
    cases hp : pKd (lTk Y tl i) with
    | none => rfl
    | some c =>
      obtain ⟨c1, c2⟩ := pKd_some hp
      rw [hto] at c2
      have := (nI_eq (by omega) (by omega)).mp c2
      have := hb.2.2.1 (by omega)
      omega
  have htw : lTw k = 257 + k := by unfold lTw; rw [if_pos hk6]
  have hkd : pKd (lTk Y tl i) = some k := by rw [hto, htw]; exact pKd_of hk6
  have h6 : lTk Y tl i ≠ nI 60 ∧ lTk Y tl i ≠ nI 62 := tk_pos hto (by omega) (by omega) (by omega)
  generalize hM0 : ms M 118 27 (nI k) = M0
  have r0 : ∀ q, q ≠ 118 → M0 q = M q := fun q hq => by rw [← hM0, ms_row _ _ _ _ _ hq]
  have r08 : ∀ j, j ≠ 27 → M0 118 j = M 118 j := fun j hj => by rw [← hM0, ms_no _ _ _ _ _ _ (fun z => hj z.2)]
  have e27 : M0 118 27 = nI k := by rw [← hM0, ms_is]
  have t0 : tF M M0 := ⟨fun q a _ => r0 q a, fun j a => r08 j (by omega)⟩
  have h17' : M0 118 17 = 0 := by rw [r08 17 (by decide)]; exact h17
  have g2' : nT M0 Y tl i := g2.w (fun j a b => r08 j (by omega))
  -- an error
  have p73e : ∀ (M1 : a_M) (f j : Nat), gE2 M M1 Y tl f j → 1 ≤ f → f < 10 → pCl (lTk Y tl) T i = .inl (f, j) → wX12_clause X ad ca d x (q_v (PT x) (fun M' => clO M M' Y tl i T e)) 73 [(0, .ref 118)] M1 := fun M1 f j he hf1 hf2 hp => by
    refine bX12_clause_73 ⟨fun z => ?_, fun _ => ⟨rfl, rfl, Or.inl ⟨f, j, hp, he⟩⟩⟩
    rw [he.1] at z
    exact absurd z (nI_ge (a := 0) (by omega) (by omega))
  have p194e : ∀ (M1 : a_M) (f j : Nat), gE2 M M1 Y tl f j → 1 ≤ f → f < 10 → pCl (lTk Y tl) T i = .inl (f, j) → wX12_clause X ad ca d x (q_v (PT x) (fun M' => clO M M' Y tl i T e)) 194 [(0, .ref 118)] M1 := fun M1 f j he hf1 hf2 hp => by
    refine bX12_clause_194 ⟨fun _ => ⟨rfl, rfl, Or.inl ⟨f, j, hp, he⟩⟩, fun z => ?_⟩
    rw [he.1] at z
    exact absurd ((nI_eq (b := 0) (by omega) (by omega)).mp z) (by omega)
  have p73 : ¬ (k ≤ 2 ∧ (zix T k).isSome = true) → ¬ 30 ≤ T.length → wX12_clause X ad ca d x (q_v (PT x) (fun M' => clO M M' Y tl i T e)) 73 [(0, .ref 118)] M0 := fun hno hlt => by
    have hpk := pCl_k hkd hno hlt
    have e26 : M0 118 26 = nI T.length := by rw [r08 26 (by decide)]; exact g4
    have e31 : M0 118 31 = nI e.length := by rw [r08 31 (by decide)]; exact g1.2.2.2.2.2.1
    refine bX12_clause_73 ⟨fun _ => ?_, fun z => absurd (by rw [h17']; decide) z⟩
    rw [e26, e27, e31, n_cl (by omega)]
    have hin : vp_in (nI T.length) 30 := n_in (by omega) (by omega)
    refine ⟨hin, hin, hin, ?_⟩
    generalize hMx : ms (ms (ms M0 131 T.length (nI k)) 132 T.length (nI e.length)) 133 T.length (-1) = Mx
    have rx : ∀ q, q ≠ 131 → q ≠ 132 → q ≠ 133 → Mx q = M0 q := fun q a b c => by rw [← hMx, ms_row _ _ _ _ _ c, ms_row _ _ _ _ _ b, ms_row _ _ _ _ _ a]
    have gx : gY Mx Y tl 0 [] [] e := g1.w (fun q a b c d => by rw [rx q b c d, r0 q a]) (fun j a b c => by rw [rx 118 (by decide) (by decide) (by decide), r08 j c])
    have x131 : Mx 131 T.length = nI k := by rw [← hMx, ms_row _ _ _ _ _ (by decide), ms_row _ _ _ _ _ (by decide), ms_is]
    have x132 : Mx 132 T.length = nI e.length := by rw [← hMx, ms_row _ _ _ _ _ (by decide), ms_is]
    have xrw : mRw M Mx T.length := fun a ha => by
      refine ⟨?_, ?_, ?_⟩
      · rw [← hMx, ms_row _ _ _ _ _ (by decide), ms_row _ _ _ _ _ (by decide), ms_no _ _ _ _ _ _ (fun z => by omega), r0 131 (by decide)]
      · rw [← hMx, ms_row _ _ _ _ _ (by decide), ms_no _ _ _ _ _ _ (fun z => by omega), ms_row _ _ _ _ _ (by decide), r0 132 (by decide)]
      · rw [← hMx, ms_no _ _ _ _ _ _ (fun z => by omega), ms_row _ _ _ _ _ (by decide), ms_row _ _ _ _ _ (by decide), r0 133 (by decide)]
    have tx : tF M Mx := ⟨fun q a b => by rw [rx q (by omega) (by omega) (by omega), r0 q a], fun j a => by rw [rx 118 (by decide) (by decide) (by decide), r08 j (by omega)]⟩
    refine ⟨_, kX12_nx (i := i) (by omega) gx (by rw [rx 118 (by decide) (by decide) (by decide), r08 13 (by decide)]; exact g2.pos h6.1 h6.2), ?_⟩
    rintro M1 ⟨n1, n2, n3⟩
    have m26 : M1 118 26 = nI T.length := by rw [n3.2 26 (by omega), rx 118 (by decide) (by decide) (by decide)]; exact e26
    have m27 : M1 118 27 = nI k := by rw [n3.2 27 (by omega), rx 118 (by decide) (by decide) (by decide)]; exact e27
    have m131 : M1 131 T.length = nI k := by rw [n3.1 131 (by decide)]; exact x131
    have m132 : M1 132 T.length = nI e.length := by rw [n3.1 132 (by decide)]; exact x132
    have mrw : mRw M M1 T.length := fun a ha => by rw [n3.1 131 (by decide), n3.1 132 (by decide), n3.1 133 (by decide)]; exact xrw a ha
    have m1 : tF M M1 := tx.trans n3.x.t
    have p138 : (k ≤ 2 ∨ k = 6) → wX12_clause X ad ca d x (q_v (PT x) (fun M' => clO M M' Y tl i T e)) 138 [(0, .ref 118)] M1 := fun hk => by
      refine bX12_clause_138 ⟨_, kX12_opensFrame (f := 1) (by omega) n1.2.2.2.1 (by simp), ?_⟩
      rintro M2 ⟨f1, f2, f3⟩
      have s : ∀ q, q ≠ 118 → q ≠ 128 → ms M2 118 25 1 q = M1 q := fun q a b => by rw [ms_row _ _ _ _ _ a, f2 q a b]
      have s8 : ∀ j, j ≠ 25 → j ≠ 20 → ms M2 118 25 1 118 j = M1 118 j := fun j a b => by rw [ms_no _ _ _ _ _ _ (fun z => a z.2), f3 j b]
      obtain ⟨a1, a2, a3, a4, a5, a6⟩ := n1
      refine ⟨rfl, rfl, Or.inr (Or.inr ⟨k, hkd, hk, hno, by omega, ⟨?_, ?_, ?_, ?_, ?_, ?_, ?_, ?_⟩, ?_, ?_, ?_, ?_, ?_, ?_⟩)⟩
      · exact ⟨by rw [s8 12 (by decide) (by decide)]; exact a1.1, a1.2.1, fun z hz => by rw [s 121 (by decide) (by decide)]; exact a1.2.2.1 z hz, a1.2.2.2⟩
      · exact n2.w (fun j a b => s8 j (by omega) (by omega))
      · exact ⟨by rw [s8 17 (by decide) (by decide)]; exact a2.1, by rw [s8 18 (by decide) (by decide)]; exact a2.2⟩
      · exact ms_is _ _ _ _
      · rw [s8 19 (by decide) (by decide)]; exact a3
      · exact ⟨by rw [ms_no _ _ _ _ _ _ (by omega)]; exact f1.1, fun z f hz => by rw [ms_row _ _ _ _ _ (by decide)]; exact f1.2 z f hz⟩
      · exact ⟨by rw [s8 22 (by decide) (by decide)]; exact a5.1, fun z q hz => by cases hz⟩
      · exact ⟨by rw [s8 31 (by decide) (by decide)]; exact a6.1, fun z q hz => by rw [s 134 (by decide) (by decide), s 135 (by decide) (by decide)]; exact a6.2 z q hz⟩
      · rw [s8 26 (by decide) (by decide)]; exact m26
      · rw [s8 27 (by decide) (by decide)]; exact m27
      · rw [s 131 (by decide) (by decide)]; exact m131
      · rw [s 132 (by decide) (by decide)]; exact m132
      · exact fun a ha => by rw [s 131 (by decide) (by decide), s 132 (by decide) (by decide), s 133 (by decide) (by decide)]; exact mrw a ha
      · exact ⟨fun q a b => by rw [s q a (by omega)]; exact m1.1 q a b, fun j a => by rw [s8 j (by omega) (by omega)]; exact m1.2 j a⟩
    have p173 : ∀ (M2 : a_M) (j : Nat) (c : List Int32), pBody (lTk Y tl) k (i + 1) = .inr (j, c) → (k = 3 ∨ k = 4 ∨ k = 5) → gY M2 Y tl 0 [] [] e → nT M2 Y tl j → M2 118 26 = nI T.length → M2 131 T.length = nI k → M2 132 T.length = nI e.length → (k = 4 → M2 133 T.length = nI (c.headD 0).toNatClampNeg) → mRw M M2 T.length → tF M M2 → wX12_clause X ad ca d x (q_v (PT x) (fun M' => clO M M' Y tl i T e)) 173 [(0, .ref 118)] M2 := by
      intro M2 j c hbody hk3 b1 b2 b3 b4 b5 b6 b7 b8
      rw [hbody] at hpk
      refine bX12_clause_173 ⟨fun z => absurd b1.2.1.1 z, fun _ => ⟨_, kX12_isSign (s := 59) (by omega) b2 (by unfold zsg; omega), ?_⟩⟩
      rintro v M3 ⟨rfl, rfl⟩
      by_cases c59 : lTk Y tl j = nI 59
      · rw [if_pos c59]
        rw [pPass_y (show lTk Y tl j = 59 from c59)] at hpk
        refine ⟨fun _ => bX12_clause_194 ⟨fun z => absurd b1.2.1.1 z, fun _ => ⟨_, kX12_clauseIsOver (i := j) (D := 0) (N := T.length) (by omega) b1 b2 (tk_pos c59 (by omega) (by omega) (by omega)) rfl (by omega) (fun p hp => by simp at hp) b3 (by simp; omega) (by simp), ?_⟩⟩, fun z => absurd z (by decide)⟩
        rintro M4 ⟨k1, k2, k3, k4, k5, k6⟩
        have k1' : gY M4 Y tl 0 [] [] (e ++ [(408, 0)]) := by simpa using k1
        refine ⟨rfl, rfl, Or.inr (Or.inl ⟨_, _, hpk, ⟨k1', k2, k3, by rw [k4, List.length_append]; rfl, ?_⟩, b8.trans ⟨fun q a b => k5 q a (by omega) (by omega) (by omega) (by omega) (by omega), fun j a => k6 j (by omega)⟩⟩)⟩
        have q131 : M4 131 = M3 131 := k5 131 (by decide) (by decide) (by decide) (by decide) (by decide) (by decide)
        have q132 : M4 132 = M3 132 := k5 132 (by decide) (by decide) (by decide) (by decide) (by decide) (by decide)
        have q133 : M4 133 = M3 133 := k5 133 (by decide) (by decide) (by decide) (by decide) (by decide) (by decide)
        refine g5.add (fun a ha => by rw [q131, q132, q133]; exact b7 a ha) (by rw [q131]; exact b4) (fun z => ?_) (by rw [q132]; exact b5) (fun z => ?_)
        · have z' : k = 4 := z
          show M4 133 T.length = nI (if k = 4 then (c.headD 0).toNatClampNeg else 0)
          rw [if_pos z', q133]
          exact b6 z'
        · have z' : k ≤ 2 ∨ k = 6 := z
          omega
      · rw [if_neg c59]
        rw [pPass_n (show ¬ lTk Y tl j = 59 from c59)] at hpk
        refine ⟨fun z => absurd rfl z, fun _ => ⟨_, kX12_errs (f := 1) (by omega) b1.2.1.1 b2, fun M4 h4 => p194e M4 1 j (gE2.pre b8 h4) (by omega) (by omega) hpk⟩⟩
    rw [m27]
    refine ⟨fun z => p138 (Or.inl ((nI_leI (b := 2) (by omega) (by omega)).mp z)), fun z => ⟨fun z6 => ⟨fun z4 => ?_, fun z4 => ?_⟩, fun z6 => p138 (Or.inr ((nI_eq (b := 6) (by omega) (by omega)).mp z6))⟩⟩
    · have hk2 : ¬ k ≤ 2 := fun y => z (nI_le (b := 2) y (by omega))
      have hk6' : k ≠ 6 := fun y => z6 (by rw [y]; rfl)
      have hk4 : k ≠ 4 := fun y => z4 (by rw [y]; rfl)
      refine p173 M1 (i + 1) [] ?_ (by omega) n1 n2 m26 m131 m132 (fun y => absurd y hk4) mrw m1
      unfold pBody
      rw [if_neg hk4, if_pos (by omega)]
    · have hk4 : k = 4 := (nI_eq (b := 4) (by omega) (by omega)).mp z4
      refine ⟨_, kX12_number (by omega) n1 n2, ?_⟩
      intro v2 M2 h2
      rw [m26]
      refine ⟨hin, ?_⟩
      rw [n_cl (by omega)]
      have ebody : pBody (lTk Y tl) k (i + 1) = pNum (lTk Y tl) 6 (i + 1) := by unfold pBody; rw [if_pos hk4]
      cases hnum : pNum (lTk Y tl) 6 (i + 1) with
      | inl y =>
        obtain ⟨f, j⟩ := y
        rw [hnum] at h2 ebody
        rw [ebody] at hpk
        have hf : 1 ≤ f ∧ f < 10 := by
          unfold pNum at hnum
          by_cases c1 : 300 ≤ lTk Y tl (i + 1)
          · rw [if_pos c1] at hnum
            by_cases c2 : lTk Y tl (i + 1) - 300 ≤ nI 6
            · rw [if_pos c2] at hnum; cases hnum
            · rw [if_neg c2] at hnum; cases hnum; omega
          · rw [if_neg c1] at hnum; cases hnum; omega
        have he := gE2.pre m1 h2
        have he' : gE2 M (ms M2 133 T.length v2) Y tl f j := ⟨by rw [ms_row _ _ _ _ _ (by decide)]; exact he.1, by rw [ms_row _ _ _ _ _ (by decide)]; exact he.2.1, fun q a b => by rw [ms_row _ _ _ _ _ (by omega)]; exact he.2.2.1 q a b, fun j a => by rw [ms_row _ _ _ _ _ (by decide)]; exact he.2.2.2 j a⟩
        refine bX12_clause_173 ⟨fun _ => p194e _ f j he' hf.1 hf.2 hpk, fun y => ?_⟩
        rw [he'.1] at y
        exact absurd ((nI_eq (b := 0) (by omega) (by omega)).mp y) (by omega)
      | inr y =>
        obtain ⟨j, c⟩ := y
        rw [hnum] at h2 ebody
        obtain ⟨v, hv, hc, rfl, hj, q1, q2, q3⟩ := h2
        have s : ∀ q, q ≠ 118 → q ≠ 133 → ms M2 133 T.length (nI v) q = M1 q := fun q a b => by rw [ms_row _ _ _ _ _ b, q3.1 q a]
        have s8 : ∀ j, ms M2 133 T.length (nI v) 118 j = M2 118 j := fun j => by rw [ms_row _ _ _ _ _ (by decide)]
        refine p173 (ms M2 133 T.length (nI v)) j c ebody (by omega) (q1.w (fun q a b c d => by rw [ms_row _ _ _ _ _ d]) (fun j a b c => s8 j)) (q2.w (fun j a b => s8 j)) (by rw [s8, q3.2 26 (by omega)]; exact m26) (by rw [s 131 (by decide) (by decide)]; exact m131) (by rw [s 132 (by decide) (by decide)]; exact m132) (fun _ => ?_) (fun a ha => ?_) (m1.trans (q3.x.t.trans ⟨fun q a b => ms_row _ _ _ _ _ (by omega), fun j a => s8 j⟩))
        · rw [ms_is, hc]
          show nI v = nI (nI v).toNatClampNeg
          rw [n_cl (by omega)]
        · rw [s 131 (by decide) (by decide), s 132 (by decide) (by decide), ms_no _ _ _ _ _ _ (fun z => by omega), q3.1 133 (by decide)]
          exact mrw a ha
  have p58 : ¬ (k ≤ 2 ∧ (zix T k).isSome = true) → wX12_clause X ad ca d x (q_v (PT x) (fun M' => clO M M' Y tl i T e)) 58 [(0, .ref 118)] M0 := fun hno => by
    refine bX12_clause_58 ⟨fun z => p73 hno (fun y => z ?_), fun z => ⟨_, kX12_errs (f := 6) (by omega) h17' g2', fun M1 h1 => p73e M1 6 i (gE2.pre t0 h1) (by omega) (by omega) ?_⟩⟩
    · rw [r08 26 (by decide), g4, show T.length = 30 by omega]; rfl
    · rw [r08 26 (by decide), g4] at z
      have hT30 : T.length = 30 := (nI_eq (b := 30) (by omega) (by omega)).mp z
      unfold pCl
      rw [hkd]
      show (if _ then _ else _) = _
      rw [if_neg hno, if_pos (by omega)]
  refine ⟨fun _ => ⟨fun z => p58 (fun y => ?_), fun z => ⟨_, kX12_wasTold (T := T) (by omega) (by rw [r08 26 (by decide)]; exact g4) hN (fun a q hq => by rw [r0 131 (by decide)]; exact (g5 a q hq).1) (fun a q hq => (hw.2.1 a q hq).1) hk6, ?_⟩⟩, fun z => absurd (nI_le (b := 6) hk6 (by omega)) z⟩
  · exact absurd z (nI_nlt (a := 2) (b := k) (by omega) (by omega))
  · rintro v M1 ⟨rfl, rfl⟩
    have hk2 : k ≤ 2 := by
      rcases Nat.lt_or_ge 2 k with y | y
      · exact absurd (nI_lt (a := 2) y (by omega)) z
      · exact y
    by_cases cs : (zix T k).isSome = true
    · rw [if_pos cs]
      refine ⟨fun z => absurd z (by decide), fun _ => ⟨_, kX12_errs (f := 4) (by omega) h17' g2', fun M2 h2 => p73e M2 4 i (gE2.pre t0 h2) (by omega) (by omega) ?_⟩⟩
      unfold pCl
      rw [hkd]
      show (if _ then _ else _) = _
      rw [if_pos ⟨hk2, cs⟩]
    · rw [if_neg cs]
      exact ⟨fun _ => p58 (fun y => cs y.2), fun z => absurd rfl z⟩
theorem kX12_goesOn_end (hd : 5 ≤ d) {pd : List (Nat × Nat)} {N : Nat} (h : gX M Y tl i 2 0 [1] pd e) (htk : lTk Y tl i = 59) (hpd : zhi2 1 3 pd) (h26 : M 118 26 = nI N) (hl : e.length + pd.length + 1 < 400) (hw : pd.length < 80) :
    mX12_goesOn X ad ca d x [.ref 118] M (q_v (PT x) (fun M' => gY M' Y tl 0 [] [] ((e ++ pd.reverse.map zpr2) ++ [(408, 0)]) ∧ nT M' Y tl (i + 1) ∧ M' 118 25 = nI 4 ∧ M' 118 26 = nI (N + 1) ∧ (∀ q, q ≠ 118 → q ≠ 128 → q ≠ 129 → q ≠ 130 → q ≠ 134 → q ≠ 135 → M' q = M q) ∧ ∀ j, (j < 13 ∨ j = 27 ∨ 34 ≤ j) → M' 118 j = M 118 j)) := by
  obtain ⟨d, rfl⟩ := a_d1 (show 1 ≤ d by omega)
  have g2 := h.2.1
  refine eX12_goesOn (bX12_goesOn_0 ⟨_, kX12_top (f := 1) (base := []) (by omega) h.2.2.2.2.2.1 rfl (by simp), ?_⟩)
  rintro v M1 ⟨rfl, rfl⟩
  have htk' : lTk Y tl i = nI 59 := htk
  refine wX12_goesOn_no (f := 1) (by omega) g2 (fun o ho z => ?_) (bX12_goesOn_65 _ ⟨fun _ => bX12_goesOn_116 _ ⟨fun z => absurd rfl z, fun _ => ⟨_, kX12_isSign (s := 59) (by omega) g2 (by unfold zsg; omega), ?_⟩⟩, fun z => absurd z (by decide)⟩)
  · rw [htk'] at z
    have ho' : o < 50 := by unfold zop4 at ho; omega
    have := (nI_eq (by omega) (by omega)).mp z
    omega
  · rintro v M2 ⟨rfl, rfl⟩
    rw [if_pos htk']
    refine ⟨fun z => absurd z (by decide), fun _ => ⟨_, kX12_clauseIsOver (i := i) (D := 1) (N := N) (by omega) h.y g2 (tk_pos htk' (by omega) (by omega) (by omega)) rfl (by omega) (fun p hp => ⟨(hpd p hp).1, (hpd p hp).2.1, by have := (hpd p hp).2.2; omega⟩) h26 hl hw, fun M3 h3 => ⟨rfl, rfl, h3⟩⟩⟩
end MC2
