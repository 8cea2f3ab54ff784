/-! PARSER 12: the reference's machine: clauses -/
def tF (M M' : a_M) : Prop := (∀ q, q ≠ 118 → (q < 128 ∨ 135 < q) → M' q = M q) ∧ ∀ j, (j < 13 ∨ 34 ≤ j) → M' 118 j = M 118 j
theorem tF.rfl (M : a_M) : tF M M := ⟨fun _ _ _ => Eq.refl _, fun _ _ => Eq.refl _⟩
theorem tF.trans {M M' M'' : a_M} (h : tF M M') (h2 : tF M' M'') : tF M M'' := ⟨fun q a b => by rw [h2.1 q a b, h.1 q a b], fun j a => by rw [h2.2 j a, h.2 j a]⟩
theorem xF.t {M M' : a_M} (h : xF M M') : tF M M' := ⟨fun q a b => h.1 q a (by omega) (by omega) (by omega) (by omega) (by omega), fun j a => h.2 j (by omega)⟩
def gE2 (M M' : a_M) (Y : Nat → Nat) (tl f j : Nat) : Prop := M' 118 17 = nI f ∧ M' 118 18 = nI (lSt Y tl j) ∧ tF M M'
/-- the clauses that were read lie -/
def mCl (M : a_M) (T : zTx) (e : List (Int32 × Int32)) : Prop := ∀ (a : Nat) (q : Nat × Nat × List Int32), T[a]? = some q → M 131 a = nI q.1 ∧ (q.1 = 4 → M 133 a = nI q.2.1) ∧ ∃ b, M 132 a = nI b ∧ b ≤ e.length ∧ ((q.1 ≤ 2 ∨ q.1 = 6) → b + q.2.2.length < e.length ∧ (∀ z w, q.2.2[z]? = some w → e[b + z]? = some (zPw w)) ∧ e[b + q.2.2.length]? = some (408, 0))
theorem mCl.mono {M M' : a_M} {T : zTx} {e e' : List (Int32 × Int32)} (h : mCl M T e) (hm : ∀ a, a < T.length → M' 131 a = M 131 a ∧ M' 132 a = M 132 a ∧ M' 133 a = M 133 a) : mCl M' T (e ++ e') := by
  intro a q hq
  have hlt : a < T.length := (List.getElem?_eq_some_iff.mp hq).1
  obtain ⟨h1, h2, b, h3, h4, h5⟩ := h a q hq
  obtain ⟨m1, m2, m3⟩ := hm a hlt
  refine ⟨by rw [m1]; exact h1, fun z => by rw [m3]; exact h2 z, b, by rw [m2]; exact h3, by rw [List.length_append]; omega, fun z => ?_⟩
  obtain ⟨g1, g2, g3⟩ := h5 z
  refine ⟨by rw [List.length_append]; omega, fun y w hy => ?_, ?_⟩
  · have : b + y < e.length := (List.getElem?_eq_some_iff.mp (g2 y w hy)).1
    rw [List.getElem?_append_left this]
    exact g2 y w hy
  · rw [List.getElem?_append_left g1]; exact g3
/-- the machine between clauses -/
def gT (M : a_M) (Y : Nat → Nat) (tl i : Nat) (T : zTx) (e : List (Int32 × Int32)) : Prop := gY M Y tl 0 [] [] e ∧ nT M Y tl i ∧ M 118 25 = nI 4 ∧ M 118 26 = nI T.length ∧ mCl M T e
section MC
variable {X : a_X} {ad : Nat → Nat} {ca : Nat → ClassId} {d x : Nat} {M : a_M} {Y : Nat → Nat} {tl i : Nat} {op : Nat} {fr : List Nat} {e : List (Int32 × Int32)}
theorem kX12_clauseIsOver (hd : 4 ≤ d) {pd : List (Nat × Nat)} {D N : Nat} (h : gY M Y tl op fr pd e) (hT : nT M Y tl i) (h6 : lTk Y tl i ≠ nI 60 ∧ lTk Y tl i ≠ nI 62) (hD : fr.length = D) (hD40 : D < 40) (hpd : zhi2 D 1 pd) (h26 : M 118 26 = nI N) (hl : e.length + pd.length + 1 < 400) (hw : pd.length < 80) :
    mX12_clauseIsOver X ad ca d x [.ref 118] M (q_v (PT x) (fun M' => gY M' Y tl op [] [] ((e ++ pd.reverse.map zpr2) ++ [(408, 0)]) ∧ nT M' Y tl (i + 1) ∧ M' 118 25 = nI 4 ∧ M' 118 26 = nI (N + 1) ∧ (∀ q, q ≠ 118 → q ≠ 128 → q ≠ 129 → q ≠ 130 → q ≠ 134 → q ≠ 135 → M' q = M q) ∧ ∀ j, (j < 13 ∨ j = 27 ∨ 34 ≤ j) → M' 118 j = M 118 j)) := by
  obtain ⟨d, rfl⟩ := a_d1 (show 1 ≤ d by omega)
  refine eX12_clauseIsOver (bX12_clauseIsOver_0 ⟨_, kX12_works (rk := 1) (D := D) (w0 := []) (pm := pd) (by omega) hD (by omega) (by omega) h (by omega) (by simpa using hw) hpd (Or.inl rfl), ?_⟩)
  rintro M1 ⟨k1, k2, k3⟩
  obtain ⟨a1, a2, a3, a4, a5, a6⟩ := k1
  have r : ∀ z, z ≠ 118 → ms M1 118 20 0 z = M1 z := fun z hz => ms_row _ _ _ _ _ hz
  have r8 : ∀ j, j ≠ 20 → ms M1 118 20 0 118 j = M1 118 j := fun j a => ms_no _ _ _ _ _ _ (fun z => a z.2)
  have gy : gY (ms M1 118 20 0) Y tl op [] [] (e ++ pd.reverse.map zpr2) := ⟨⟨by rw [r8 12 (by decide)]; exact a1.1, a1.2.1, fun z hz => by rw [r 121 (by decide)]; exact a1.2.2.1 z hz, a1.2.2.2⟩, ⟨by rw [r8 17 (by decide)]; exact a2.1, by rw [r8 18 (by decide)]; exact a2.2⟩, by rw [r8 19 (by decide)]; exact a3, ⟨by rw [ms_is]; rfl, fun z g hz => by cases hz⟩, ⟨by rw [r8 22 (by decide)]; exact a5.1, fun z q hz => by cases hz⟩, ⟨by rw [r8 31 (by decide)]; exact a6.1, fun z q hz => by rw [r 134 (by decide), r 135 (by decide)]; exact a6.2 z q hz⟩⟩
  refine ⟨_, kX12_emits (by omega) 408 0 gy (by simp; omega), ?_⟩
  rintro M2 ⟨j1, j2, j3⟩
  have e26 : M2 118 26 = nI N := by rw [j3 26 (by decide), r8 26 (by decide), k3 26 (by decide) (by decide)]; exact h26
  rw [e26, nI_1]
  have s : ∀ z, z ≠ 118 → ms M2 118 26 (nI (N + 1)) z = M2 z := fun z hz => ms_row _ _ _ _ _ hz
  have s8 : ∀ j, j ≠ 26 → ms M2 118 26 (nI (N + 1)) 118 j = M2 118 j := fun j a => ms_no _ _ _ _ _ _ (fun z => a z.2)
  obtain ⟨b1, b2, b3, b4, b5, b6⟩ := j1
  have gy2 : gY (ms M2 118 26 (nI (N + 1))) Y tl op [] [] ((e ++ pd.reverse.map zpr2) ++ [(408, 0)]) := ⟨⟨by rw [s8 12 (by decide)]; exact b1.1, b1.2.1, fun z hz => by rw [s 121 (by decide)]; exact b1.2.2.1 z hz, b1.2.2.2⟩, ⟨by rw [s8 17 (by decide)]; exact b2.1, by rw [s8 18 (by decide)]; exact b2.2⟩, by rw [s8 19 (by decide)]; exact b3, ⟨by rw [s8 20 (by decide)]; exact b4.1, fun z g hz => by cases hz⟩, ⟨by rw [s8 22 (by decide)]; exact b5.1, fun z q hz => by cases hz⟩, ⟨by rw [s8 31 (by decide)]; exact b6.1, fun z q hz => by rw [s 134 (by decide), s 135 (by decide)]; exact b6.2 z q hz⟩⟩
  refine ⟨_, kX12_nx (i := i) (by omega) gy2 (by rw [s8 13 (by decide), j3 13 (by decide), r8 13 (by decide), k3 13 (by decide) (by decide)]; exact hT.pos h6.1 h6.2), ?_⟩
  rintro M3 ⟨n1, n2, n3⟩
  refine ⟨rfl, rfl, n1.s (v := 4), n2.w (fun j a b => ms_no _ _ _ _ _ _ (fun z => by omega)), ms_is _ _ _ _, ?_, fun q c1 c2 c3 c4 c5 c6 => ?_, fun j hj => ?_⟩
  · rw [ms_no _ _ _ _ _ _ (by omega), n3.2 26 (by omega), ms_is]
  · rw [ms_row _ _ _ _ _ c1, n3.1 q c1, s q c1, j2.1 q c1 c2 c3 c4 c5 c6, r q c1, k2.1 q c1 c2 c3 c4 c5 c6]
  · rw [ms_no _ _ _ _ _ _ (fun z => by omega), n3.2 j (by omega), s8 j (by omega), j3 j (by omega), r8 j (by omega), k3 j (by omega) (by omega)]
theorem kX12_wasTold (hd : 1 ≤ d) {T : zTx} {k : Nat} (hN : M 118 26 = nI T.length) (hl : T.length ≤ 30) (hr : ∀ (a : Nat) (q : Nat × Nat × List Int32), T[a]? = some q → M 131 a = nI q.1) (h6 : ∀ (a : Nat) (q : Nat × Nat × List Int32), T[a]? = some q → q.1 ≤ 6) (hk : k ≤ 6) : mX12_wasTold X ad ca d x [.ref 118, .int (nI k)] M (q_i (PT x) (fun s M' => M' = M ∧ s = if (zix T k).isSome = true then 1 else 0)) := by
  obtain ⟨d, rfl⟩ := a_d1 hd
  refine eX12_wasTold _ (bX12_wasTold_0 _ ?_)
  have key := a_loop (σ := Int32) (fun a v => wX12_wasTold X ad ca d x (q_i (PT x) (fun s M' => M' = M ∧ s = if (zix T k).isSome = true then 1 else 0)) 4 [(0, .ref 118), (1, .int (nI k)), (2, .int v), (3, .int (nI a))] M) (fun a v => (v = 0 ∧ ∀ (z : Nat) (q : Nat × Nat × List Int32), z < a → T[z]? = some q → q.1 ≠ k) ∨ (v = 1 ∧ ∃ (z : Nat) (q : Nat × Nat × List Int32), T[z]? = some q ∧ q.1 = k)) T.length ?_ ?_ 0 0 (Nat.zero_le _) (Or.inl ⟨rfl, fun z q hz => absurd hz (Nat.not_lt_zero _)⟩)
  · exact key
  · intro v hv
    refine bX12_wasTold_4 _ _ _ ?_
    rw [hN]
    refine ⟨fun _ => ⟨?_, _, rfl, rfl, rfl, ?_⟩, fun q => absurd (nI_le (Nat.le_refl _) (by omega)) q⟩
    · rcases hv with ⟨h, -⟩ | ⟨h, -⟩
      · exact Or.inl h
      · exact Or.inr h
    · cases hz : zix T k with
      | none =>
        rcases hv with ⟨h, -⟩ | ⟨-, z, q, h1, h2⟩
        · rw [h]; rfl
        · exact absurd h2 (zix_none hz z q h1)
      | some c =>
        obtain ⟨q, h1, h2⟩ := zix_some hz
        rcases hv with ⟨-, h⟩ | ⟨h, -⟩
        · exact absurd h2 (h c q (List.getElem?_eq_some_iff.mp h1).1 h1)
        · rw [h]; rfl
  · intro a v ha hv ih
    refine bX12_wasTold_4 _ _ _ ?_
    rw [hN]
    have hq : T[a]? = some T[a] := List.getElem?_eq_getElem ha
    have hq6 := h6 a _ hq
    refine ⟨fun q => absurd q (nI_ge ha (by omega)), fun _ => ⟨fun q => ?_, fun q => ⟨n_in (by omega) (by omega), ?_⟩⟩⟩
    · refine bX12_wasTold_26 _ _ ?_
      rw [nI_1]
      refine ih 1 (Or.inr ⟨rfl, ?_⟩)
      rcases hv with ⟨h, -⟩ | ⟨-, h⟩
      · exact absurd h q
      · exact h
    · rw [n_cl (by omega), hr a _ hq]
      refine ⟨fun q2 => ?_, fun q2 => bX12_wasTold_26 _ _ ?_⟩
      · rw [nI_1]
        refine ih 0 (Or.inl ⟨rfl, fun z q' hz h1 => ?_⟩)
        by_cases c : z = a
        · subst c
          rw [hq] at h1
          cases h1
          exact fun z => q2 (by rw [z])
        · rcases hv with ⟨-, h⟩ | ⟨h, -⟩
          · exact h z q' (by omega) h1
          · rw [h] at q; exact absurd q (by decide)
      · rw [nI_1]
        exact ih 1 (Or.inr ⟨rfl, a, _, hq, (nI_eq (by omega) (by omega)).mp q2⟩)
/-- a number of a flip -/
theorem kX12_number (hd : 4 ≤ d) (h : gY M Y tl op fr [] e) (hT : nT M Y tl i) : mX12_number X ad ca d x [.ref 118, .int 0, .int 6] M (q_i (PT x) (fun s M' => match pNum (lTk Y tl) 6 i with
    | .inr (j, c) => ∃ v, v ≤ 6 ∧ c = [nI v] ∧ s = nI v ∧ j = i + 1 ∧ gY M' Y tl op fr [] e ∧ nT M' Y tl j ∧ nF M M'
    | .inl (f, j) => gE M M' Y tl f j)) := by
  obtain ⟨d, rfl⟩ := a_d1 (show 1 ≤ d by omega)
  have hn := rTok_num hT.2.1
  have h17 := h.2.1.1
  have p15 : ¬ 300 ≤ lTk Y tl i → wX12_number X ad ca d x (q_i (PT x) (fun s M' => match pNum (lTk Y tl) 6 i with
      | .inr (j, c) => ∃ v, v ≤ 6 ∧ c = [nI v] ∧ s = nI v ∧ j = i + 1 ∧ gY M' Y tl op fr [] e ∧ nT M' Y tl j ∧ nF M M'
      | .inl (f, j) => gE M M' Y tl f j)) 15 [(0, .ref 118), (1, .int 0)] M := fun n3 => by
    refine bX12_number_15 _ ⟨_, kX12_errs (f := 1) (by omega) h17 hT, fun M1 h1 => ⟨_, rfl, rfl, ?_⟩⟩
    have ep : pNum (lTk Y tl) 6 i = .inl (1, i) := by unfold pNum; rw [if_neg n3]
    rw [ep]; exact h1
  refine eX12_number _ _ (bX12_number_0 _ _ ?_)
  rw [h17]
  refine ⟨fun z => absurd z (by decide), fun _ => ⟨fun q => ?_, fun q => p15 (fun z => q (hn.1.mpr z))⟩⟩
  have n3 := hn.1.mp q
  obtain ⟨v, hv, hv1, hv2⟩ := hn.2 q
  have e3 : lTk Y tl i - 300 = nI (min 10000 v) := by rw [hv2, p_num2]
  refine ⟨_, kX12_in (by omega) _ _ _, ?_⟩
  rintro v1 M1 ⟨rfl, rfl⟩
  rw [hv1]
  have hin : ((0 : Int32) ≤ nI v ∧ nI v ≤ 6) ↔ v ≤ 6 := ⟨fun z => (nI_leI (b := 6) (by omega) (by omega)).mp z.2, fun z => ⟨nI_pos' (by omega), nI_le (b := 6) z (by omega)⟩⟩
  by_cases c : v ≤ 6
  · rw [if_pos (hin.mpr c)]
    have em : min 10000 v = v := by omega
    rw [em] at e3 hv2
    refine ⟨fun _ => ⟨_, kX12_nx (i := i) (by omega) h (hT.pos (tk_pos hv2 (by omega) (by omega) (by omega)).1 (tk_pos hv2 (by omega) (by omega) (by omega)).2), ?_⟩, fun z => absurd z (by decide)⟩
    rintro M2 ⟨n1, n2, n4⟩
    refine ⟨_, rfl, rfl, ?_⟩
    have ep : pNum (lTk Y tl) 6 i = .inr (i + 1, [nI v]) := by unfold pNum; rw [if_pos n3, e3, if_pos (nI_le c (by omega))]
    rw [ep]
    exact ⟨v, c, rfl, rfl, rfl, n1, n2, n4⟩
  · rw [if_neg (fun z => c (hin.mp z))]
    refine ⟨fun z => absurd rfl z, fun _ => ⟨_, kX12_errs (f := 2) (by omega) h17 hT, fun M2 h2 => ⟨_, rfl, rfl, ?_⟩⟩⟩
    have ep : pNum (lTk Y tl) 6 i = .inl (2, i) := by unfold pNum; rw [if_pos n3, e3, if_neg (nI_ge (show 6 < min 10000 v by omega) (by omega))]
    rw [ep]; exact h2
end MC
