/-! PARSER 7: the reference's machine: its small steps -/
def mEm (M : a_M) (e : List (Int32 × Int32)) : Prop := M 118 31 = nI e.length ∧ ∀ z q, e[z]? = some q → M 134 z = q.1 ∧ M 135 z = q.2
def mFr (M : a_M) (fr : List Nat) : Prop := M 118 20 = nI fr.length ∧ ∀ z f, fr[z]? = some f → M 128 z = nI f
def mWt (M : a_M) (wt : List (Nat × Nat)) : Prop := M 118 22 = nI wt.length ∧ ∀ z q, wt[z]? = some q → M 129 z = nI q.1 ∧ M 130 z = nI q.2
/-- what the machine changes within an expression -/
def xF (M M' : a_M) : Prop := (∀ q, q ≠ 118 → q ≠ 128 → q ≠ 129 → q ≠ 130 → q ≠ 134 → q ≠ 135 → M' q = M q) ∧ ∀ j, (j < 13 ∨ j = 26 ∨ j = 27 ∨ 34 ≤ j) → M' 118 j = M 118 j
theorem xF.rfl (M : a_M) : xF M M := ⟨fun _ _ _ _ _ _ _ => Eq.refl _, fun _ _ => Eq.refl _⟩
theorem xF.trans {M M' M'' : a_M} (h : xF M M') (h2 : xF M' M'') : xF M M'' := ⟨fun q a b c d e f => by rw [h2.1 q a b c d e f, h.1 q a b c d e f], fun j a => by rw [h2.2 j a, h.2 j a]⟩
theorem nF.x {M M' : a_M} (h : nF M M') : xF M M' := ⟨fun q a _ _ _ _ _ => h.1 q a, fun j a => h.2 j (by omega)⟩
theorem xF.s {M M' : a_M} {k : Nat} {v : Int32} (h : xF M M') (hk : 13 ≤ k ∧ k ≠ 26 ∧ k ≠ 27 ∧ k < 34) : xF M (ms M' 118 k v) := ⟨fun q a b c d e f => by rw [ms_row _ _ _ _ _ a]; exact h.1 q a b c d e f, fun j a => by rw [ms_no _ _ _ _ _ _ (fun z => by omega)]; exact h.2 j a⟩
/-- the machine within an expression -/
def gX (M : a_M) (Y : Nat → Nat) (tl i st op : Nat) (fr : List Nat) (wt : List (Nat × Nat)) (e : List (Int32 × Int32)) : Prop := nB M Y tl ∧ nT M Y tl i ∧ (M 118 17 = 0 ∧ M 118 18 = -1) ∧ M 118 25 = nI st ∧ M 118 19 = nI op ∧ mFr M fr ∧ mWt M wt ∧ mEm M e
/-- the same but for tokens -/
def gY (M : a_M) (Y : Nat → Nat) (tl op : Nat) (fr : List Nat) (wt : List (Nat × Nat)) (e : List (Int32 × Int32)) : Prop := nB M Y tl ∧ (M 118 17 = 0 ∧ M 118 18 = -1) ∧ M 118 19 = nI op ∧ mFr M fr ∧ mWt M wt ∧ mEm M e
theorem gX.y {M : a_M} {Y : Nat → Nat} {tl i st op : Nat} {fr : List Nat} {wt : List (Nat × Nat)} {e : List (Int32 × Int32)} (h : gX M Y tl i st op fr wt e) : gY M Y tl op fr wt e := ⟨h.1, h.2.2.1, h.2.2.2.2.1, h.2.2.2.2.2⟩
/-- tokens and state are other ones -/
theorem gY.n {M M' : a_M} {Y : Nat → Nat} {tl op : Nat} {fr : List Nat} {wt : List (Nat × Nat)} {e : List (Int32 × Int32)} (h : gY M Y tl op fr wt e) (hf : nF M M') : gY M' Y tl op fr wt e := by
  obtain ⟨h1, h2, h3, h4, h5, h6⟩ := h
  refine ⟨h1.F hf, ⟨by rw [hf.2 17 (by omega)]; exact h2.1, by rw [hf.2 18 (by omega)]; exact h2.2⟩, by rw [hf.2 19 (by omega)]; exact h3, ⟨by rw [hf.2 20 (by omega)]; exact h4.1, fun z f hz => by rw [hf.1 128 (by decide)]; exact h4.2 z f hz⟩, ⟨by rw [hf.2 22 (by omega)]; exact h5.1, fun z q hz => by rw [hf.1 129 (by decide), hf.1 130 (by decide)]; exact h5.2 z q hz⟩, ⟨by rw [hf.2 31 (by omega)]; exact h6.1, fun z q hz => by rw [hf.1 134 (by decide), hf.1 135 (by decide)]; exact h6.2 z q hz⟩⟩
theorem gY.s {M : a_M} {Y : Nat → Nat} {tl op : Nat} {fr : List Nat} {wt : List (Nat × Nat)} {e : List (Int32 × Int32)} {v : Int32} (h : gY M Y tl op fr wt e) : gY (ms M 118 25 v) Y tl op fr wt e := by
  obtain ⟨h1, h2, h3, h4, h5, h6⟩ := h
  have r : ∀ q, q ≠ 118 → ms M 118 25 v q = M q := fun q hq => ms_row _ _ _ _ _ hq
  have r8 : ∀ j, j ≠ 25 → ms M 118 25 v 118 j = M 118 j := fun j hj => ms_no _ _ _ _ _ _ (fun z => hj z.2)
  refine ⟨⟨by rw [r8 12 (by decide)]; exact h1.1, h1.2.1, fun i hi => by rw [r 121 (by decide)]; exact h1.2.2.1 i hi, h1.2.2.2⟩, ⟨by rw [r8 17 (by decide)]; exact h2.1, by rw [r8 18 (by decide)]; exact h2.2⟩, by rw [r8 19 (by decide)]; exact h3, ⟨by rw [r8 20 (by decide)]; exact h4.1, fun z f hz => by rw [r 128 (by decide)]; exact h4.2 z f hz⟩, ⟨by rw [r8 22 (by decide)]; exact h5.1, fun z q hz => by rw [r 129 (by decide), r 130 (by decide)]; exact h5.2 z q hz⟩, ⟨by rw [r8 31 (by decide)]; exact h6.1, fun z q hz => by rw [r 134 (by decide), r 135 (by decide)]; exact h6.2 z q hz⟩⟩
theorem getq_app {α : Type} {l : List α} {a q : α} {z : Nat} (h : (l ++ [a])[z]? = some q) : l[z]? = some q ∨ (z = l.length ∧ q = a) := by
  by_cases c : z < l.length
  · rw [List.getElem?_append_left c] at h
    exact Or.inl h
  · rw [List.getElem?_append_right (by omega)] at h
    have h0 : z - l.length < 1 := (List.getElem?_eq_some_iff.mp h).1
    rw [show z - l.length = 0 by omega] at h
    cases h
    exact Or.inr ⟨by omega, rfl⟩
section MM
variable {X : a_X} {ad : Nat → Nat} {ca : Nat → ClassId} {d x : Nat} {M : a_M} {Y : Nat → Nat} {tl : Nat} {op : Nat} {fr : List Nat} {wt : List (Nat × Nat)} {e : List (Int32 × Int32)}
theorem kX12_emits (hd : 1 ≤ d) (o v : Int32) (h : gY M Y tl op fr wt e) (hl : e.length < 400) : mX12_emits X ad ca d x [.ref 118, .int o, .int v] M (q_v (PT x) (fun M' => gY M' Y tl op fr wt (e ++ [(o, v)]) ∧ xF M M' ∧ ∀ j, j ≠ 31 → M' 118 j = M 118 j)) := by
  obtain ⟨d, rfl⟩ := a_d1 hd
  obtain ⟨h1, h2, h3, h4, h5, h6⟩ := h
  refine eX12_emits _ _ (bX12_emits_0 _ _ ?_)
  rw [h6.1, n_cl (by omega), nI_1]
  refine ⟨n_in hl (by omega), n_in hl (by omega), rfl, rfl, ?_⟩
  generalize hM : ms (ms (ms M 134 e.length o) 135 e.length v) 118 31 (nI (e.length + 1)) = M1
  have r : ∀ q, q ≠ 118 → q ≠ 134 → q ≠ 135 → M1 q = M q := fun q a b c => by rw [← hM, ms_row _ _ _ _ _ a, ms_row _ _ _ _ _ c, ms_row _ _ _ _ _ b]
  have r8 : ∀ j, j ≠ 31 → M1 118 j = M 118 j := fun j hj => by rw [← hM, ms_no _ _ _ _ _ _ (fun z => hj z.2), ms_row _ _ _ _ _ (by decide), ms_row _ _ _ _ _ (by decide)]
  refine ⟨⟨⟨by rw [r8 12 (by decide)]; exact h1.1, h1.2.1, fun i hi => by rw [r 121 (by decide) (by decide) (by decide)]; exact h1.2.2.1 i hi, h1.2.2.2⟩, ⟨by rw [r8 17 (by decide)]; exact h2.1, by rw [r8 18 (by decide)]; exact h2.2⟩, by rw [r8 19 (by decide)]; exact h3, ⟨by rw [r8 20 (by decide)]; exact h4.1, fun z f hz => by rw [r 128 (by decide) (by decide) (by decide)]; exact h4.2 z f hz⟩, ⟨by rw [r8 22 (by decide)]; exact h5.1, fun z q hz => by rw [r 129 (by decide) (by decide) (by decide), r 130 (by decide) (by decide) (by decide)]; exact h5.2 z q hz⟩, ⟨?_, fun z q hz => ?_⟩⟩, ⟨fun q a b c d' e' f => r q a e' f, fun j hj => r8 j (by omega)⟩, r8⟩
  · rw [← hM, ms_is, List.length_append]; rfl
  · rcases getq_app hz with hz | ⟨rfl, rfl⟩
    · have hlt : z < e.length := (List.getElem?_eq_some_iff.mp hz).1
      have h9 := h6.2 z q hz
      rw [← hM, ms_row _ _ _ _ _ (show 134 ≠ 118 by decide), ms_row _ _ _ _ _ (show 134 ≠ 135 by decide), ms_no _ _ _ _ _ _ (fun y => by omega), ms_row _ _ _ _ _ (show 135 ≠ 118 by decide), ms_no _ _ _ _ _ _ (fun y => by omega), ms_row _ _ _ _ _ (show 135 ≠ 134 by decide)]
      exact h9
    · rw [← hM, ms_row _ _ _ _ _ (show 134 ≠ 118 by decide), ms_row _ _ _ _ _ (show 134 ≠ 135 by decide), ms_is, ms_row _ _ _ _ _ (show 135 ≠ 118 by decide), ms_is]
      exact ⟨rfl, rfl⟩
theorem kX12_top (hd : 1 ≤ d) {base : List Nat} {f : Nat} (h : mFr M fr) (hb : fr = base ++ [f]) (hl : fr.length ≤ 40) : mX12_top X ad ca d x [.ref 118] M (q_i (PT x) (fun s M' => M' = M ∧ s = nI f)) := by
  obtain ⟨d, rfl⟩ := a_d1 hd
  have hlen : fr.length = base.length + 1 := by rw [hb, List.length_append]; rfl
  refine eX12_top (bX12_top_0 ?_)
  rw [h.1, hlen, nI_pred]
  refine ⟨n_in (by omega) (by omega), _, rfl, rfl, rfl, ?_⟩
  rw [n_cl (by omega)]
  refine h.2 base.length f ?_
  rw [hb, List.getElem?_append_right (Nat.le_refl _), Nat.sub_self]
  rfl
/-- a frame is opened; open too if it is a sign's -/
theorem kX12_opensFrame (hd : 1 ≤ d) {f : Nat} (h : mFr M fr) (hl : fr.length < 40) : mX12_opensFrame X ad ca d x [.ref 118, .int (nI f)] M (q_v (PT x) (fun M' => mFr M' (fr ++ [f]) ∧ (∀ q, q ≠ 118 → q ≠ 128 → M' q = M q) ∧ ∀ j, j ≠ 20 → M' 118 j = M 118 j)) := by
  obtain ⟨d, rfl⟩ := a_d1 hd
  refine eX12_opensFrame _ (bX12_opensFrame_0 _ ?_)
  rw [h.1, n_cl (by omega), nI_1]
  refine ⟨n_in hl (by omega), rfl, rfl, ⟨by rw [ms_is, List.length_append]; rfl, fun z g hz => ?_⟩, fun q a b => by rw [ms_row _ _ _ _ _ a, ms_row _ _ _ _ _ b], fun j hj => by rw [ms_no _ _ _ _ _ _ (fun z => hj z.2), ms_row _ _ _ _ _ (by decide)]⟩
  rw [ms_row _ _ _ _ _ (by decide)]
  rcases getq_app hz with hz | ⟨rfl, rfl⟩
  · have hlt : z < fr.length := (List.getElem?_eq_some_iff.mp hz).1
    rw [ms_no _ _ _ _ _ _ (fun y => by omega)]
    exact h.2 z g hz
  · rw [ms_is]
theorem kX12_rank (hd : 1 ≤ d) {o : Nat} (ho : o = 43 ∨ o = 45 ∨ o = 42 ∨ o = 47) : mX12_rank X ad ca d x [.int (nI o)] M (q_i (PT x) (fun s M' => M' = M ∧ s = nI (if o = 43 ∨ o = 45 then 3 else 4))) := by
  obtain ⟨d, rfl⟩ := a_d1 hd
  have p34 : (o = 43 ∨ o = 45) → wX12_rank X ad ca d x (q_i (PT x) (fun s M' => M' = M ∧ s = nI (if o = 43 ∨ o = 45 then 3 else 4))) 34 [] M := fun h => bX12_rank_34 ⟨_, rfl, rfl, rfl, by rw [if_pos h]; rfl⟩
  refine eX12_rank _ (bX12_rank_0 _ ?_)
  rcases ho with rfl | rfl | rfl | rfl
  · exact ⟨fun _ => ⟨fun _ => ⟨fun _ => p34 (Or.inl rfl), fun q => absurd rfl q⟩, fun q => absurd q (by decide)⟩, fun q => absurd q (by decide)⟩
  · exact ⟨fun _ => ⟨fun _ => ⟨fun q => absurd q (by decide), fun _ => ⟨fun q => absurd rfl q, fun _ => p34 (Or.inr rfl)⟩⟩, fun q => absurd q (by decide)⟩, fun q => absurd q (by decide)⟩
  · exact ⟨fun _ => ⟨fun _ => ⟨fun q => absurd q (by decide), fun _ => ⟨fun _ => ⟨_, rfl, rfl, rfl, rfl⟩, fun q => absurd q (by decide)⟩⟩, fun q => absurd q (by decide)⟩, fun q => absurd q (by decide)⟩
  · exact ⟨fun _ => ⟨fun _ => ⟨fun q => absurd q (by decide), fun _ => ⟨fun _ => ⟨_, rfl, rfl, rfl, rfl⟩, fun q => absurd q (by decide)⟩⟩, fun q => absurd q (by decide)⟩, fun q => absurd q (by decide)⟩
def zrk (o : Nat) : Nat := if o = 43 ∨ o = 45 then 3 else 4
def zop4 (o : Nat) : Prop := o = 43 ∨ o = 45 ∨ o = 42 ∨ o = 47
/-- the waiting operators of this frame that are worked off -/
theorem kX12_works (hd : 2 ≤ d) {rk D : Nat} {w0 pm : List (Nat × Nat)} (hfr : fr.length = D) (hD : D < 41) (hrk : rk ≤ 4) (h : gY M Y tl op fr (w0 ++ pm) e) (hl : e.length + pm.length < 400) (hw : (w0 ++ pm).length < 80) (hpm : ∀ q, q ∈ pm → zop4 q.1 ∧ q.2 = D ∧ rk ≤ zrk q.1) (hw0 : w0 = [] ∨ ∃ w1 q, w0 = w1 ++ [q] ∧ zop4 q.1 ∧ q.2 < 41 ∧ (q.2 ≠ D ∨ zrk q.1 < rk)) :
    mX12_works X ad ca d x [.ref 118, .int (nI rk)] M (q_v (PT x) (fun M' => gY M' Y tl op fr w0 (e ++ pm.reverse.map (fun q => (nI q.1, 0))) ∧ xF M M' ∧ ∀ j, j ≠ 31 → j ≠ 22 → M' 118 j = M 118 j)) := by
  obtain ⟨d, rfl⟩ := a_d1 (show 1 ≤ d by omega)
  have hfl : ∀ (q : Nat × Nat), zop4 q.1 → q.1 < 48 := fun q h => by unfold zop4 at h; omega
  have stop : ∀ (e' : List (Int32 × Int32)) (M1 : a_M), gY M1 Y tl op fr w0 e' → w0.length < 80 → ((q_v (PT x) (fun M' => gY M' Y tl op fr w0 (e ++ pm.reverse.map (fun q => (nI q.1, 0))) ∧ xF M M' ∧ ∀ j, j ≠ 31 → j ≠ 22 → M' 118 j = M 118 j)) none M1 (PT x)) → wX12_works X ad ca d x (q_v (PT x) (fun M' => gY M' Y tl op fr w0 (e ++ pm.reverse.map (fun q => (nI q.1, 0))) ∧ xF M M' ∧ ∀ j, j ≠ 31 → j ≠ 22 → M' 118 j = M 118 j)) 0 [(0, .ref 118), (1, .int (nI rk))] M1 := by
    intro e' M1 g hlen hpost
    refine bX12_works_0 _ ?_
    obtain ⟨g1, g2, g3, g4, g5, g6⟩ := g
    rw [g5.1, g4.1]
    rcases hw0 with rfl | ⟨w1, q, rfl, q1, q2, q3⟩
    · exact ⟨fun _ => hpost, fun z => absurd (show nI 0 ≤ 0 by decide) z⟩
    · have hl1 : (w1 ++ [q]).length = w1.length + 1 := by rw [List.length_append]; rfl
      have hq := g5.2 w1.length q (by rw [List.getElem?_append_right (Nat.le_refl _), Nat.sub_self]; rfl)
      have := hfl q q1
      rw [hl1, nI_pred, n_cl (by omega), hq.1, hq.2]
      refine ⟨fun z => absurd z (nI_nle (by omega) (by omega)), fun _ => ⟨n_in (by omega) (by omega), fun _ => hpost, fun z => ⟨n_in (by omega) (by omega), _, kX12_rank (by omega) q1, ?_⟩⟩⟩
      rintro v1 M2 ⟨rfl, rfl⟩
      have hqD : q.2 = D := by rw [hfr] at z; exact (nI_eq (by omega) (by omega)).mp z
      have hlt : zrk q.1 < rk := by
        rcases q3 with q3 | q3
        · exact absurd hqD q3
        · exact q3
      exact ⟨fun _ => hpost, fun z2 => absurd (nI_lt hlt (by omega)) z2⟩
  have key : ∀ (n : Nat) (pm' : List (Nat × Nat)) (e' : List (Int32 × Int32)) (M1 : a_M), pm'.length = n → gY M1 Y tl op fr (w0 ++ pm') e' → (∀ q, q ∈ pm' → zop4 q.1 ∧ q.2 = D ∧ rk ≤ zrk q.1) → e' ++ pm'.reverse.map (fun q => ((nI q.1, 0) : Int32 × Int32)) = e ++ pm.reverse.map (fun q => (nI q.1, 0)) → e'.length + pm'.length < 400 → (w0 ++ pm').length < 80 → xF M M1 → (∀ j, j ≠ 31 → j ≠ 22 → M1 118 j = M 118 j) → wX12_works X ad ca d x (q_v (PT x) (fun M' => gY M' Y tl op fr w0 (e ++ pm.reverse.map (fun q => (nI q.1, 0))) ∧ xF M M' ∧ ∀ j, j ≠ 31 → j ≠ 22 → M' 118 j = M 118 j)) 0 [(0, .ref 118), (1, .int (nI rk))] M1 := by
    intro n
    induction n with
    | zero =>
      intro pm' e' M1 hn g hp he hlen hwl hx h8
      have e0 : pm' = [] := List.length_eq_zero_iff.mp hn
      subst e0
      rw [List.append_nil] at g hwl
      have he' : e' = e ++ pm.reverse.map (fun q => (nI q.1, 0)) := by simpa using he
      refine stop e' M1 g hwl ⟨rfl, rfl, ?_, hx, h8⟩
      rw [← he']; exact g
    | succ n ih =>
      intro pm' e' M1 hn g hp he hlen hwl hx h8
      obtain ⟨pm1, q, rfl⟩ : ∃ pm1 q, pm' = pm1 ++ [q] := by
        have hne : pm' ≠ [] := fun z => by rw [z] at hn; cases hn
        exact ⟨pm'.dropLast, pm'.getLast hne, (List.dropLast_concat_getLast hne).symm⟩
      obtain ⟨q1, q2, q3⟩ := hp q (by simp)
      have hl1 : (w0 ++ (pm1 ++ [q])).length = (w0 ++ pm1).length + 1 := by simp; omega
      obtain ⟨g1, g2, g3, g4, g5, g6⟩ := id g
      have hq := g5.2 (w0 ++ pm1).length q (by rw [← List.append_assoc, List.getElem?_append_right (Nat.le_refl _), Nat.sub_self]; rfl)
      have hq48 := hfl q q1
      refine bX12_works_0 _ ?_
      rw [g5.1, g4.1, hl1, nI_pred, n_cl (by omega), hq.1, hq.2]
      refine ⟨fun z => absurd z (nI_nle (by omega) (by omega)), fun _ => ⟨n_in (by omega) (by omega), fun z => absurd (by rw [q2, hfr]) z, fun z => ⟨n_in (by omega) (by omega), _, kX12_rank (by omega) q1, ?_⟩⟩⟩
      rintro v1 M2 ⟨rfl, rfl⟩
      have hzr : zrk q.1 ≤ 4 := by unfold zrk; split <;> omega
      refine ⟨fun z2 => absurd z2 (nI_nlt q3 (show zrk q.1 < 2 ^ 31 by omega)), fun _ => ?_⟩
      rw [g5.1, hl1, nI_pred, n_cl (by omega), hq.1]
      have gy : gY (ms M2 118 22 (nI (w0 ++ pm1).length)) Y tl op fr (w0 ++ pm1) e' := by
        have r : ∀ q, q ≠ 118 → ms M2 118 22 (nI (w0 ++ pm1).length) q = M2 q := fun q hq => ms_row _ _ _ _ _ hq
        have r8 : ∀ j, j ≠ 22 → ms M2 118 22 (nI (w0 ++ pm1).length) 118 j = M2 118 j := fun j hj => ms_no _ _ _ _ _ _ (fun z => hj z.2)
        refine ⟨⟨by rw [r8 12 (by decide)]; exact g1.1, g1.2.1, fun i hi => by rw [r 121 (by decide)]; exact g1.2.2.1 i hi, g1.2.2.2⟩, ⟨by rw [r8 17 (by decide)]; exact g2.1, by rw [r8 18 (by decide)]; exact g2.2⟩, by rw [r8 19 (by decide)]; exact g3, ⟨by rw [r8 20 (by decide)]; exact g4.1, fun z f hz => by rw [r 128 (by decide)]; exact g4.2 z f hz⟩, ⟨ms_is _ _ _ _, fun z q' hz => ?_⟩, ⟨by rw [r8 31 (by decide)]; exact g6.1, fun z q hz => by rw [r 134 (by decide), r 135 (by decide)]; exact g6.2 z q hz⟩⟩
        rw [r 129 (by decide), r 130 (by decide)]
        refine g5.2 z q' ?_
        have hlt : z < (w0 ++ pm1).length := (List.getElem?_eq_some_iff.mp hz).1
        rw [← List.append_assoc, List.getElem?_append_left hlt]
        exact hz
      have hln : (pm1 ++ [q]).length = pm1.length + 1 := by simp
      refine ⟨n_in (by omega) (by omega), _, kX12_emits (by omega) (nI q.1) 0 gy (by omega), ?_⟩
      rintro M3 ⟨k1, k2, k3⟩
      refine ih pm1 (e' ++ [(nI q.1, 0)]) M3 (by omega) k1 (fun q' hq' => hp q' (by simp [hq'])) ?_ ?_ (by omega) ((hx.s (by omega)).trans k2) (fun j a b => by rw [k3 j a, ms_no _ _ _ _ _ _ (fun z => b z.2), h8 j a b])
      · rw [← he]
        simp
      · simp
        omega
  exact eX12_works _ (key pm.length pm e M rfl h hpm rfl hl hw (xF.rfl M) (fun _ _ _ => rfl))
end MM
