/-! PARSER 8: the reference's machine: signs, ones -/
def zsg (s : Nat) : Prop := s = 40 ∨ s = 41 ∨ s = 42 ∨ s = 43 ∨ s = 45 ∨ s = 47 ∨ s = 59
theorem lTw_b (k : Nat) (h : k ≤ 9) : 257 ≤ lTw k ∧ lTw k ≤ 272 ∧ (lTw k ≤ 263 → k ≤ 6 ∧ lTw k = 257 + k) ∧ (263 < lTw k → 7 ≤ k ∧ lTw k = 263 + k) := by
  unfold lTw
  split <;> omega
theorem rTok_sign {w so to : Int32} {s : Nat} (h : rTok w so to) (hs : zsg s) : (so = 3 ∧ to = nI s) ↔ w = nI s := by
  have hs128 : s < 128 := by unfold zsg at hs; omega
  rcases h with ⟨rfl, rfl⟩ | ⟨rfl, k, hk, -, rfl⟩ | ⟨rfl, v, hv, -, rfl⟩ | ⟨-, b, hb, rfl, h⟩
  · exact ⟨fun z => absurd z.1 (by decide), fun z => absurd z.symm (nI_m1 (by omega))⟩
  · have := lTw_b k hk
    exact ⟨fun z => absurd z.1 (by decide), fun z => by have := (nI_eq (by omega) (by omega)).mp z; omega⟩
  · exact ⟨fun z => absurd z.1 (by decide), fun z => by have := (nI_eq (by omega) (by omega)).mp z; omega⟩
  · rw [h s hs, nI_eq (by omega) (by omega)]
theorem rTok_end {w so to : Int32} (h : rTok w so to) : so = 0 ↔ w = -1 := by
  rcases h with ⟨rfl, rfl⟩ | ⟨rfl, k, hk, -, rfl⟩ | ⟨rfl, v, hv, -, rfl⟩ | ⟨h1, b, hb, rfl, -⟩
  · exact ⟨fun _ => rfl, fun _ => rfl⟩
  · have := lTw_b k hk
    exact ⟨fun z => absurd z (by decide), fun z => absurd z (nI_m1 (by omega))⟩
  · exact ⟨fun z => absurd z (by decide), fun z => absurd z (nI_m1 (by omega))⟩
  · exact ⟨fun z => by rcases h1 with h1 | h1 <;> (rw [h1] at z; exact absurd z (by decide)), fun z => absurd z (nI_m1 (by omega))⟩
theorem rTok_num {w so to : Int32} (h : rTok w so to) : (so = 2 ↔ 300 ≤ w) ∧ (so = 2 → ∃ v, v < 2 ^ 30 ∧ to = nI v ∧ w = nI (300 + min 10000 v)) := by
  rcases h with ⟨rfl, rfl⟩ | ⟨rfl, k, hk, -, rfl⟩ | ⟨rfl, v, hv, h1, rfl⟩ | ⟨h1, b, hb, rfl, -⟩
  · exact ⟨⟨fun z => absurd z (by decide), fun z => absurd z (by decide)⟩, fun z => absurd z (by decide)⟩
  · have := lTw_b k hk
    exact ⟨⟨fun z => absurd z (by decide), fun z => absurd z (nI_ge (b := 300) (by omega) (by omega))⟩, fun z => absurd z (by decide)⟩
  · exact ⟨⟨fun _ => nI_le (a := 300) (by omega) (by omega), fun _ => rfl⟩, fun _ => ⟨v, hv, h1, rfl⟩⟩
  · have hn : so ≠ 2 := fun z => by rcases h1 with h1 | h1 <;> (rw [h1] at z; exact absurd z (by decide))
    exact ⟨⟨fun z => absurd z hn, fun z => absurd z (nI_ge (b := 300) (by omega) (by omega))⟩, fun z => absurd z hn⟩
theorem rTok_word {w so to : Int32} (h : rTok w so to) : (so = 1 → ∃ k, k ≤ 9 ∧ to = nI k ∧ w = nI (lTw k)) ∧ (so ≠ 1 → pKd w = none ∧ w ≠ 270 ∧ w ≠ 271 ∧ w ≠ 272) := by
  have far : ∀ b, (b ≤ 256 ∨ 300 ≤ b) → b < 2 ^ 31 → pKd (nI b) = none ∧ nI b ≠ 270 ∧ nI b ≠ 271 ∧ nI b ≠ 272 := fun b hb hb2 => by
    refine ⟨?_, fun z => ?_, fun z => ?_, fun z => ?_⟩
    · cases hp : pKd (nI b) with
      | none => rfl
      | some k =>
        obtain ⟨h1, h2⟩ := pKd_some hp
        have := (nI_eq (by omega) (by omega)).mp h2
        omega
    · have := (nI_eq (b := 270) (by omega) (by omega)).mp z; omega
    · have := (nI_eq (b := 271) (by omega) (by omega)).mp z; omega
    · have := (nI_eq (b := 272) (by omega) (by omega)).mp z; omega
  rcases h with ⟨rfl, rfl⟩ | ⟨rfl, k, hk, h1, rfl⟩ | ⟨rfl, v, hv, h1, rfl⟩ | ⟨h1, b, hb, rfl, -⟩
  · exact ⟨fun z => absurd z (by decide), fun _ => ⟨by decide, by decide, by decide, by decide⟩⟩
  · exact ⟨fun _ => ⟨k, hk, h1, rfl⟩, fun z => absurd rfl z⟩
  · exact ⟨fun z => absurd z (by decide), fun _ => far _ (by omega) (by omega)⟩
  · exact ⟨fun z => by rcases h1 with h1 | h1 <;> (rw [h1] at z; exact absurd z (by decide)), fun _ => far _ (by omega) (by omega)⟩
theorem nT.w {M M' : a_M} {Y : Nat → Nat} {tl i : Nat} (h : nT M Y tl i) (hm : ∀ j, 13 ≤ j → j ≤ 16 → M' 118 j = M 118 j) : nT M' Y tl i := by
  obtain ⟨h1, h2, h3⟩ := h
  exact ⟨by rw [hm 14 (by omega) (by omega)]; exact h1, by rw [hm 15 (by omega) (by omega), hm 16 (by omega) (by omega)]; exact h2, by rw [hm 13 (by omega) (by omega)]; exact h3⟩
theorem nT.pos {M : a_M} {Y : Nat → Nat} {tl i : Nat} (h : nT M Y tl i) (h1 : lTk Y tl i ≠ nI 60) (h2 : lTk Y tl i ≠ nI 62) : M 118 13 = nI (lPos Y tl (i + 1)) := by
  rcases h.2.2 with z | z | z
  · exact z
  · exact absurd z h1
  · exact absurd z h2
section MM2
variable {X : a_X} {ad : Nat → Nat} {ca : Nat → ClassId} {d x : Nat} {M : a_M} {Y : Nat → Nat} {tl i st : Nat} {op : Nat} {fr : List Nat} {wt : List (Nat × Nat)} {e : List (Int32 × Int32)}
/-- a fault is told -/
def gE (M M' : a_M) (Y : Nat → Nat) (tl f j : Nat) : Prop := M' 118 17 = nI f ∧ M' 118 18 = nI (lSt Y tl j) ∧ xF M M'
theorem kX12_errs (hd : 1 ≤ d) {f : Nat} (h17 : M 118 17 = 0) (hT : nT M Y tl i) : mX12_errs X ad ca d x [.ref 118, .int (nI f)] M (q_v (PT x) (fun M' => gE M M' Y tl f i)) := by
  obtain ⟨d, rfl⟩ := a_d1 hd
  refine eX12_errs _ (bX12_errs_0 _ ⟨fun q => absurd h17 q, fun _ => ⟨rfl, rfl, ?_, ?_, ((xF.rfl M).s (by omega)).s (by omega)⟩⟩)
  · rw [ms_no _ _ _ _ _ _ (by omega), ms_is]
  · rw [ms_is, hT.1]
theorem kX12_isSign (hd : 1 ≤ d) {s : Nat} (hT : nT M Y tl i) (hs : zsg s) : mX12_isSign X ad ca d x [.ref 118, .int (nI s)] M (q_i (PT x) (fun v M' => M' = M ∧ v = if lTk Y tl i = nI s then 1 else 0)) := by
  obtain ⟨d, rfl⟩ := a_d1 hd
  have e := rTok_sign hT.2.1 hs
  have no : ¬ (M 118 15 = 3 ∧ M 118 16 = nI s) → wX12_isSign X ad ca d x (q_i (PT x) (fun v M' => M' = M ∧ v = if lTk Y tl i = nI s then 1 else 0)) 20 [] M := fun h => bX12_isSign_20 ⟨_, rfl, rfl, rfl, by rw [if_neg (fun z => h (e.mpr z))]⟩
  exact eX12_isSign _ (bX12_isSign_0 _ ⟨fun q => no (fun z => q z.1), fun q => ⟨fun q2 => no (fun z => q2 z.2), fun q2 => ⟨_, rfl, rfl, rfl, by rw [if_pos (e.mp ⟨q, q2⟩)]⟩⟩⟩)
theorem kX12_oneIsOver (hd : 2 ≤ d) {b0 : List Nat} {f q : Nat} (hf : f ≠ 7) (hf9 : f < 10) (h : gY M Y tl op ((b0 ++ [f]) ++ List.replicate q 7) wt e) (hT : nT M Y tl i) (hq : q ≤ op) (hop : op < 9) (hl : e.length + q < 400) (hfr : ((b0 ++ [f]) ++ List.replicate q 7).length ≤ 40) : mX12_oneIsOver X ad ca d x [.ref 118] M (q_v (PT x) (fun M' => gX M' Y tl i 2 (op - q) (b0 ++ [f]) wt (e ++ List.replicate q (402, 0)) ∧ xF M M')) := by
  obtain ⟨d, rfl⟩ := a_d1 (show 1 ≤ d by omega)
  have key : ∀ (q op : Nat) (e' : List (Int32 × Int32)) (M1 : a_M), gY M1 Y tl op ((b0 ++ [f]) ++ List.replicate q 7) wt e' → nT M1 Y tl i → q ≤ op → op < 9 → e'.length + q < 400 → ((b0 ++ [f]) ++ List.replicate q 7).length ≤ 40 → xF M M1 → wX12_oneIsOver X ad ca d x (q_v (PT x) (fun M' => gX M' Y tl i 2 (op - q) (b0 ++ [f]) wt (e' ++ List.replicate q (402, 0)) ∧ xF M M')) 0 [(0, .ref 118)] M1 := by
    intro q
    induction q with
    | zero =>
      intro op e' M1 g hT hq hop hl hfr hx
      have g' : gY M1 Y tl op (b0 ++ [f]) wt e' := by simpa using g
      have hfr' : (b0 ++ [f]).length ≤ 40 := by simpa using hfr
      refine bX12_oneIsOver_0 ⟨_, kX12_top (by omega) g'.2.2.2.1 rfl hfr', ?_⟩
      rintro v M2 ⟨rfl, rfl⟩
      refine ⟨fun _ => ⟨rfl, rfl, ?_, hx.s (by omega)⟩, fun z => absurd ((nI_eq (b := 7) (by omega) (by omega)).mp z) hf⟩
      have h1 := g'.s (v := 2)
      refine ⟨h1.1, hT.w (fun j a b => ms_no _ _ _ _ _ _ (fun z => by omega)), h1.2.1, ms_is _ _ _ _, h1.2.2.1, h1.2.2.2.1, h1.2.2.2.2.1, ?_⟩
      simpa using h1.2.2.2.2.2
    | succ q ih =>
      intro op e' M1 g hT hq hop hl hfr hx
      have el : (b0 ++ [f]) ++ List.replicate (q + 1) 7 = ((b0 ++ [f]) ++ List.replicate q 7) ++ [7] := by
        rw [List.replicate_succ', ← List.append_assoc]
      rw [el] at g hfr
      have hlen : (((b0 ++ [f]) ++ List.replicate q 7) ++ [7]).length = ((b0 ++ [f]) ++ List.replicate q 7).length + 1 := by rw [List.length_append]; rfl
      refine bX12_oneIsOver_0 ⟨_, kX12_top (by omega) g.2.2.2.1 rfl hfr, ?_⟩
      rintro v M2 ⟨rfl, rfl⟩
      refine ⟨fun z => absurd rfl z, fun _ => ?_⟩
      obtain ⟨g1, g2, g3, g4, g5, g6⟩ := g
      obtain ⟨o1, ho1⟩ := a_d1 (show 1 ≤ op by omega)
      rw [g4.1, hlen, nI_pred, g3, ho1, nI_pred]
      have r : ∀ z, z ≠ 118 → ms (ms M2 118 20 (nI ((b0 ++ [f]) ++ List.replicate q 7).length)) 118 19 (nI o1) z = M2 z := fun z hz => by rw [ms_row _ _ _ _ _ hz, ms_row _ _ _ _ _ hz]
      have r8 : ∀ j, j ≠ 20 → j ≠ 19 → ms (ms M2 118 20 (nI ((b0 ++ [f]) ++ List.replicate q 7).length)) 118 19 (nI o1) 118 j = M2 118 j := fun j a b => by rw [ms_no _ _ _ _ _ _ (fun z => b z.2), ms_no _ _ _ _ _ _ (fun z => a z.2)]
      have gy : gY (ms (ms M2 118 20 (nI ((b0 ++ [f]) ++ List.replicate q 7).length)) 118 19 (nI o1)) Y tl o1 ((b0 ++ [f]) ++ List.replicate q 7) wt e' := by
        refine ⟨⟨by rw [r8 12 (by decide) (by decide)]; exact g1.1, g1.2.1, fun z hz => by rw [r 121 (by decide)]; exact g1.2.2.1 z hz, g1.2.2.2⟩, ⟨by rw [r8 17 (by decide) (by decide)]; exact g2.1, by rw [r8 18 (by decide) (by decide)]; exact g2.2⟩, ms_is _ _ _ _, ⟨by rw [ms_no _ _ _ _ _ _ (by omega), ms_is], fun z g9 hz => ?_⟩, ⟨by rw [r8 22 (by decide) (by decide)]; exact g5.1, fun z q hz => by rw [r 129 (by decide), r 130 (by decide)]; exact g5.2 z q hz⟩, ⟨by rw [r8 31 (by decide) (by decide)]; exact g6.1, fun z q hz => by rw [r 134 (by decide), r 135 (by decide)]; exact g6.2 z q hz⟩⟩
        rw [r 128 (by decide)]
        have hlt : z < ((b0 ++ [f]) ++ List.replicate q 7).length := (List.getElem?_eq_some_iff.mp hz).1
        exact g4.2 z g9 (by rw [List.getElem?_append_left hlt]; exact hz)
      refine ⟨_, kX12_emits (by omega) 402 0 gy (by omega), ?_⟩
      rintro M3 ⟨k1, k2, k3⟩
      have h9 := ih o1 (e' ++ [(402, 0)]) M3 k1 (hT.w (fun j a b => by rw [k3 j (by omega), r8 j (by omega) (by omega)])) (by omega) (by omega) (by simp; omega) (by omega) (((hx.s (by omega)).s (by omega)).trans k2)
      have e9 : (e' ++ [(402, 0)]) ++ List.replicate q ((402 : Int32), (0 : Int32)) = e' ++ List.replicate (q + 1) (402, 0) := by
        rw [List.append_assoc, List.replicate_succ]
        rfl
      rw [e9, show o1 - q = o1 + 1 - (q + 1) by omega] at h9
      exact h9
  exact eX12_oneIsOver (key q op e M h hT hq hop hl hfr (xF.rfl M))
/-- the next token, if this one is no sign of order -/
theorem kX12_nx (hd : 3 ≤ d) (h : gY M Y tl op fr wt e) (hp : M 118 13 = nI (lPos Y tl (i + 1))) : mX12_next X ad ca d x [.ref 118] M (q_v (PT x) (fun M' => gY M' Y tl op fr wt e ∧ nT M' Y tl (i + 1) ∧ nF M M')) :=
  Mt.mv (kX12_next hd h.1 hp) (fun M' g => ⟨h.n g.2, g.1, g.2⟩)
end MM2
