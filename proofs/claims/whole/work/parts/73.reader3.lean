/-! PARSER 4: the class's Reader: clauses -/
theorem zix_app (T : zTx) (q : Nat × Nat × List Int32) (w : Nat) : zix (T ++ [q]) w = match zix T w with | some i => some i | none => if q.1 = w then some T.length else none := by
  unfold zix
  rw [List.findIdx?_append]
  cases h : T.findIdx? (fun q => q.1 == w) with
  | some i => rfl
  | none =>
    simp only [Option.none_or]
    by_cases c : q.1 = w
    · rw [if_pos c]
      simp [List.findIdx?_cons, c]
    · rw [if_neg c]
      simp [List.findIdx?_cons, c]
theorem pKd_some {w : Int32} {k : Nat} (h : pKd w = some k) : k ≤ 6 ∧ w = nI (257 + k) := by
  unfold pKd at h
  by_cases c : 257 ≤ w ∧ w ≤ 263
  · rw [if_pos c] at h
    obtain ⟨j, h1, h3, rfl⟩ := (n_btw (u := w) (lo := 257) (hi := 263) (a := 257) (b := 263) rfl rfl (by omega) (by omega)).mp c
    rw [fa_lit 257, pk_sub h1, n_cl (by omega)] at h
    have h9 := Option.some.inj h
    subst h9
    exact ⟨by omega, by rw [show 257 + (j - 257) = j by omega]⟩
  · rw [if_neg c] at h; cases h
theorem pKd_of {k : Nat} (h : k ≤ 6) : pKd (nI (257 + k)) = some k := by
  unfold pKd
  rw [if_pos ⟨nI_le (a := 257) (by omega) (by omega), nI_le (b := 263) (by omega) (by omega)⟩, fa_lit 257, pk_sub (by omega), n_cl (by omega), show 257 + k - 257 = k by omega]
theorem pKd_none {w : Int32} (h : pKd w = none) (k : Nat) (hk : k ≤ 6) : w ≠ nI (257 + k) := fun e => by
  rw [e, pKd_of hk] at h
  cases h
/-- the body of a clause -/
theorem pBody_go {tk : Nat → Int32} {K k i : Nat} (hE : pEnd tk K) (hi : i ≤ K) : match pBody tk k i with
    | .inl (f, j) => i ≤ j ∧ j ≤ K ∧ 1 ≤ f ∧ f ≤ 6
    | .inr (j, c) => i ≤ j ∧ j ≤ K ∧ c.length ≤ j - i ∧ (k ≠ 3 → k ≠ 4 → k ≠ 5 → zok c 0) ∧ (k = 4 → ∃ v, v ≤ 6 ∧ c = [nI v]) := by
  unfold pBody
  by_cases c4 : k = 4
  · rw [if_pos c4]
    have hg := pNum_go (most := 6) hE (by omega) hi
    cases hr : pNum tk 6 i with
    | inl e => rw [hr] at hg; exact hg
    | inr e =>
      obtain ⟨j, c⟩ := e
      rw [hr] at hg
      obtain ⟨g1, g2, g3, -⟩ := hg
      refine ⟨by omega, g2, g3, fun _ q => absurd c4 q, fun _ => ?_⟩
      unfold pNum at hr
      by_cases q : 300 ≤ tk i
      · rw [if_pos q] at hr
        by_cases q2 : tk i - 300 ≤ nI 6
        · rw [if_pos q2] at hr
          cases hr
          obtain ⟨v, hv, ev⟩ := p_num q (hE.2.2.2 i)
          rw [ev, p_num2] at q2 ⊢
          exact ⟨v, (nI_leI (by omega) (by omega)).mp q2, rfl⟩
        · rw [if_neg q2] at hr; cases hr
      · rw [if_neg q] at hr; cases hr
  · rw [if_neg c4]
    by_cases c3 : k = 3 ∨ k = 5
    · rw [if_pos c3]
      exact ⟨Nat.le_refl _, hi, by simp, fun a b c => by omega, fun q => absurd q c4⟩
    · rw [if_neg c3]
      have hg := pSum_go hE (pOne_go (inT := k == 6) hE 8) i hi
      cases hr : pSum tk (pOne tk (k == 6) 8) i with
      | inl e => rw [hr] at hg; exact hg
      | inr e =>
        obtain ⟨j, c⟩ := e
        rw [hr] at hg
        obtain ⟨g1, g2, g3, g4⟩ := hg
        refine ⟨by omega, g2, g3, fun _ _ _ => ?_, fun q => absurd q c4⟩
        have h := g4 0 [] (by omega) rfl
        rw [List.append_nil] at h
        exact h
theorem pPass_in {tk : Nat → Int32} {s : Int32} {r : pR} {j : Nat} {c : List Int32} (h : pPass tk s r = .inr (j, c)) : ∃ j', r = .inr (j', c) ∧ j = j' + 1 ∧ tk j' = s := by
  unfold pPass at h
  cases r with
  | inl e => cases h
  | inr e =>
    obtain ⟨j', c'⟩ := e
    change (if tk j' = s then Sum.inr (j' + 1, c') else .inl (1, j')) = _ at h
    by_cases q : tk j' = s
    · rw [if_pos q] at h
      cases h
      exact ⟨j', rfl, rfl, q⟩
    · rw [if_neg q] at h; cases h
/-- a clause that was read -/
theorem pCl_in {tk : Nat → Int32} {K i j : Nat} {T T' : zTx} (hE : pEnd tk K) (hi : i ≤ K) (hT : wTx T) (h : pCl tk T i = .inr (j, T')) : i < j ∧ j ≤ K ∧ wTx T' ∧ ∃ k l c, T' = T ++ [(k, l, c)] ∧ pKd (tk i) = some k ∧ T.length < 30 ∧ c.length + 2 ≤ j - i ∧ (k ≤ 2 → zix T k = none) := by
  unfold pCl at h
  cases hk : pKd (tk i) with
  | none => rw [hk] at h; cases h
  | some k =>
    rw [hk] at h
    obtain ⟨k6, ek⟩ := pKd_some hk
    change (if k ≤ 2 ∧ (zix T k).isSome = true then _ else _) = _ at h
    by_cases c1 : k ≤ 2 ∧ (zix T k).isSome = true
    · rw [if_pos c1] at h; cases h
    rw [if_neg c1] at h
    by_cases c2 : 30 ≤ T.length
    · rw [if_pos c2] at h; cases h
    rw [if_neg c2] at h
    have hlt : i < K := hE.lt hi (fun z => by rw [z] at hk; cases hk)
    cases hb : pPass tk 59 (pBody tk k (i + 1)) with
    | inl e => rw [hb] at h; cases h
    | inr e =>
      obtain ⟨j2, c⟩ := e
      rw [hb] at h
      obtain ⟨j3, e1, e2, e3⟩ := pPass_in hb
      have hg := pBody_go (k := k) hE (show i + 1 ≤ K by omega)
      rw [e1] at hg
      obtain ⟨g1, g2, g3, g4, g5⟩ := hg
      have hlt3 : j3 < K := hE.lt g2 (by rw [e3]; decide)
      have b1 : i < j2 := by omega
      have b2 : j2 ≤ K := by omega
      have b3 : c.length + 2 ≤ j2 - i := by omega
      have b4 : T.length < 30 := by omega
      cases h
      have hnone : k ≤ 2 → zix T k = none := fun q => by
        cases hz : zix T k with
        | none => rfl
        | some z => exact absurd ⟨q, by rw [hz]; rfl⟩ c1
      obtain ⟨t1, t2, t3⟩ := hT
      refine ⟨b1, b2, ⟨by rw [List.length_append]; exact b4, ?_, ?_⟩, k, _, c, rfl, rfl, b4, b3, hnone⟩
      · intro a q ha
        by_cases c9 : a < T.length
        · rw [List.getElem?_append_left c9] at ha
          exact t2 a q ha
        · rw [List.getElem?_append_right (by omega)] at ha
          have h0 : a - T.length < 1 := (List.getElem?_eq_some_iff.mp ha).1
          rw [show a - T.length = 0 by omega] at ha
          cases ha
          refine ⟨k6, ?_, fun z => g4 (by omega) (by omega) (by omega), fun z => ?_⟩
          · show (if k = 4 then (c.headD 0).toNatClampNeg else 0) ≤ 6
            by_cases c4 : k = 4
            · obtain ⟨v, hv, rfl⟩ := g5 c4
              rw [if_pos c4]
              show (nI v).toNatClampNeg ≤ 6
              rw [n_cl (by omega)]
              exact hv
            · rw [if_neg c4]; omega
          · have z4 : k = 4 := z
            obtain ⟨v, hv, rfl⟩ := g5 z4
            show [nI v] = [nI (if k = 4 then (nI v).toNatClampNeg else 0)]
            rw [if_pos z4, n_cl (by omega)]
      · intro a a' q q' ha ha' hqq hq2
        have old : ∀ (b : Nat) (r : Nat × Nat × List Int32), (T ++ [(k, (if k = 4 then (c.headD 0).toNatClampNeg else 0), c)])[b]? = some r → ¬ b < T.length → b = T.length ∧ r.1 = k := fun b r hb hn => by
          rw [List.getElem?_append_right (by omega)] at hb
          have h0 : b - T.length < 1 := (List.getElem?_eq_some_iff.mp hb).1
          rw [show b - T.length = 0 by omega] at hb
          cases hb
          exact ⟨by omega, rfl⟩
        have clash : ∀ (b : Nat) (r : Nat × Nat × List Int32), T[b]? = some r → r.1 = k → k ≤ 2 → False := fun b r hb hr hk2 => zix_none (hnone hk2) b r hb hr
        by_cases c9 : a < T.length
        · by_cases c8 : a' < T.length
          · rw [List.getElem?_append_left c9] at ha
            rw [List.getElem?_append_left c8] at ha'
            exact t3 a a' q q' ha ha' hqq hq2
          · obtain ⟨e5, e6⟩ := old a' q' ha' c8
            rw [List.getElem?_append_left c9] at ha
            exact absurd (clash a q ha (by rw [hqq, e6]) (by omega)) id
        · obtain ⟨e5, e6⟩ := old a q ha c9
          by_cases c8 : a' < T.length
          · rw [List.getElem?_append_left c8] at ha'
            exact absurd (clash a' q' ha' (by rw [← hqq, e6]) (by omega)) id
          · have := (old a' q' ha' c8).1
            omega
/-- the script as far as it is read -/
def rdT (M : a_M) (o : Nat) (T : zTx) (b : Nat) : Prop := M o 0 = nI T.length ∧ M (o + 2) T.length = nI b ∧ (∃ st : Nat → Nat, ∀ (i : Nat) (q : Nat × Nat × List Int32), T[i]? = some q → M (o + 1) i = nI q.1 ∧ M (o + 2) i = nI (st i) ∧ M (o + 2) (i + 1) = nI (st i + q.2.2.length) ∧ st i + q.2.2.length ≤ b ∧ wds (M (o + 3)) (st i) q.2.2) ∧ ∀ w, w < 3 → M (o + 4) w = match zix T w with | some i => nI i | none => -1
theorem rdT.tx {M : a_M} {o b : Nat} {T : zTx} (h : rdT M o T b) (hb : b ≤ 300) : cTx M o T := by
  obtain ⟨h1, h2, ⟨st, h3⟩, h4⟩ := h
  refine ⟨h1, ⟨st, fun i q hq => ?_⟩, h4⟩
  obtain ⟨g1, g2, g3, g5, g6⟩ := h3 i q hq
  exact ⟨g1, g2, g3, by omega, g6⟩
section RD3
variable {X : a_X} {ad : Nat → Nat} {ca : Nat → ClassId} {d x : Nat} {M : a_M} {tk : Nat → Int32} {K N b : Nat} {inT : Bool}
theorem kX7_restart (hd : 1 ≤ d) {o : Nat} (ho : zsc o) (u : Int32) : mX7_restart X ad ca d x [.ref o, .int u] M (q_v (PT x) (fun M' => rdT M' o [] 0 ∧ M' o 6 = u ∧ ∀ i, (i < o ∨ o + 4 < i) → M' i = M i)) := by
  obtain ⟨d, rfl⟩ := a_d1 hd
  obtain ⟨l1, l2, l3, l4, l5, l6, p1, p2, p3, p4, p5⟩ := ly_scr (x := x) ho
  refine eX7_restart _ _ (bX7_restart_0 _ _ _ _ l1 l3 p2 ⟨n_in (n := 0) (by omega) (by omega), ?_⟩)
  refine a_loop (σ := a_M) (fun w M' => wX7_restart X ad ca d x _ 14 [(0, .ref o), (1, .int u), (2, .int (nI w))] M') (fun w M' => M' o 0 = nI 0 ∧ M' (o + 2) 0 = nI 0 ∧ (∀ j, j < w → M' (o + 4) j = -1) ∧ ∀ i, (i < o ∨ o + 4 < i) → M' i = M i) 3 ?_ ?_ 0 _ (Nat.zero_le _) ⟨?_, ?_, fun j hj => absurd hj (Nat.not_lt_zero _), fun i hi => ?_⟩
  · rintro M' ⟨g1, g2, g3, g4⟩
    refine bX7_restart_14 _ _ _ _ _ l1 l5 p4 ⟨fun _ => ⟨rfl, rfl, ⟨?_, ?_, ⟨fun _ => 0, fun i q hq => by cases hq⟩, fun w hw => ?_⟩, ms_is _ _ _ _, fun i hi => ?_⟩, fun q => absurd (nI_le (Nat.le_refl 3) (by omega)) q⟩
    · rw [ms_no _ _ _ _ _ _ (by omega)]; exact g1
    · rw [ms_row _ _ _ _ _ (by omega)]; exact g2
    · rw [ms_row _ _ _ _ _ (by omega)]; exact g3 w hw
    · rw [ms_row _ _ _ _ _ (by omega)]; exact g4 i hi
  · rintro w M' hw ⟨g1, g2, g3, g4⟩ ih
    refine bX7_restart_14 _ _ _ _ _ l1 l5 p4 ⟨fun q => absurd q (nI_ge hw (by omega)), fun _ => ⟨n_in hw (by omega), ?_⟩⟩
    rw [n_cl (by omega), nI_1]
    refine ih _ ⟨?_, ?_, fun j hj => ?_, fun i hi => ?_⟩
    · rw [ms_row _ _ _ _ _ (by omega)]; exact g1
    · rw [ms_row _ _ _ _ _ (by omega)]; exact g2
    · by_cases c : j = w
      · subst c; rw [ms_is]
      · rw [ms_no _ _ _ _ _ _ (fun q => c q.2)]; exact g3 j (by omega)
    · rw [ms_row _ _ _ _ _ (by omega)]; exact g4 i hi
  · rw [ms_row _ _ _ _ _ (by omega), ms_is]; rfl
  · show ms (ms M o 0 0) (o + 2) 0 0 (o + 2) 0 = nI 0
    rw [ms_is]; rfl
  · rw [ms_row _ _ _ _ _ (by omega), ms_row _ _ _ _ _ (by omega)]
theorem kX7_hasW (hd : 1 ≤ d) {o k : Nat} {T : zTx} (ho : zsc o) (h4 : ∀ w, w < 3 → M (o + 4) w = match zix T w with | some i => nI i | none => -1) (hl : T.length ≤ 30) (hk : k ≤ 6) : mX7_hasWeight X ad ca d x [.ref o, .int (nI k)] M (q_i (PT x) (fun s M' => M' = M ∧ s = if k ≤ 2 ∧ (zix T k).isSome = true then 1 else 0)) := by
  obtain ⟨d, rfl⟩ := a_d1 hd
  obtain ⟨l1, l2, l3, l4, l5, l6, p1, p2, p3, p4, p5⟩ := ly_scr (x := x) ho
  refine eX7_hasWeight _ _ (bX7_hasWeight_0 _ _ _ _ l1 l5 p4 ⟨fun q => absurd q (nI_pos (by omega)), fun _ => ⟨fun q => bX7_hasWeight_27 ⟨_, rfl, rfl, rfl, ?_⟩, fun q => ?_⟩⟩)
  · rw [if_neg]
    rintro ⟨z, -⟩
    exact nI_ge (b := 3) (by omega) (by omega) q
  · have hk3 : k < 3 := Nat.not_le.mp fun z => q (nI_le z (by omega))
    refine ⟨n_in hk3 (by omega), ?_⟩
    rw [n_cl (by omega), h4 k hk3]
    cases hz : zix T k with
    | none => exact ⟨fun _ => bX7_hasWeight_27 ⟨_, rfl, rfl, rfl, by rw [if_neg (fun z => by simp at z)]⟩, fun z => absurd rfl z⟩
    | some i =>
      have hi : i < T.length := by
        obtain ⟨q', hq', -⟩ := zix_some hz
        exact (List.getElem?_eq_some_iff.mp hq').1
      exact ⟨fun z => absurd z (nI_m1 (by omega)), fun _ => ⟨_, rfl, rfl, rfl, by rw [if_pos ⟨by omega, rfl⟩]⟩⟩
theorem kX7_open (hd : 1 ≤ d) {o k n e : Nat} (ho : zsc o) (h0 : M o 0 = nI n) (hn : n < 30) (h2 : M (o + 2) n = nI e) (hk : k ≤ 6) : mX7_open X ad ca d x [.ref o, .int (nI k)] M (q_v (PT x) (fun M' => M' o 0 = nI (n + 1) ∧ (∀ j, j ≠ 0 → M' o j = M o j) ∧ M' (o + 1) n = nI k ∧ (∀ j, j ≠ n → M' (o + 1) j = M (o + 1) j) ∧ M' (o + 2) (n + 1) = nI e ∧ (∀ j, j ≠ n + 1 → M' (o + 2) j = M (o + 2) j) ∧ M' (o + 3) = M (o + 3) ∧ (k < 3 → M' (o + 4) k = nI n) ∧ (∀ j, (k < 3 → j ≠ k) → M' (o + 4) j = M (o + 4) j) ∧ ∀ i, (i < o ∨ o + 4 < i) → M' i = M i)) := by
  obtain ⟨d, rfl⟩ := a_d1 hd
  obtain ⟨l1, l2, l3, l4, l5, l6, p1, p2, p3, p4, p5⟩ := ly_scr (x := x) ho
  have go : ∀ M1 : a_M, M1 o = M o → M1 (o + 1) n = nI k → (∀ j, j ≠ n → M1 (o + 1) j = M (o + 1) j) → M1 (o + 2) = M (o + 2) → M1 (o + 3) = M (o + 3) → (k < 3 → M1 (o + 4) k = nI n) → (∀ j, (k < 3 → j ≠ k) → M1 (o + 4) j = M (o + 4) j) → (∀ i, (i < o ∨ o + 4 < i) → M1 i = M i) → wX7_open X ad ca d x (q_v (PT x) (fun M' => M' o 0 = nI (n + 1) ∧ (∀ j, j ≠ 0 → M' o j = M o j) ∧ M' (o + 1) n = nI k ∧ (∀ j, j ≠ n → M' (o + 1) j = M (o + 1) j) ∧ M' (o + 2) (n + 1) = nI e ∧ (∀ j, j ≠ n + 1 → M' (o + 2) j = M (o + 2) j) ∧ M' (o + 3) = M (o + 3) ∧ (k < 3 → M' (o + 4) k = nI n) ∧ (∀ j, (k < 3 → j ≠ k) → M' (o + 4) j = M (o + 4) j) ∧ ∀ i, (i < o ∨ o + 4 < i) → M' i = M i)) 42 [(0, .ref o)] M1 := by
    intro M1 e0 e1 e1' e2 e3 e4 e4' e5
    refine bX7_open_42 _ _ _ l1 l3 p2 ?_
    rw [e0, h0, nI_1, nI_pred]
    refine ⟨n_in (by omega) (by omega), n_in (by omega) (by omega), rfl, rfl, ?_⟩
    rw [n_cl (by omega), n_cl (by omega), ms_row _ _ _ _ _ (show o + 2 ≠ o by omega), e2, h2]
    refine ⟨?_, fun j hj => ?_, ?_, fun j hj => ?_, ?_, fun j hj => ?_, ?_, fun q => ?_, fun j hj => ?_, fun i hi => ?_⟩
    · rw [ms_row _ _ _ _ _ (by omega), ms_is]
    · rw [ms_row _ _ _ _ _ (by omega), ms_no _ _ _ _ _ _ (fun q => hj q.2), e0]
    · rw [ms_row _ _ _ _ _ (by omega), ms_row _ _ _ _ _ (by omega), e1]
    · rw [ms_row _ _ _ _ _ (by omega), ms_row _ _ _ _ _ (by omega), e1' j hj]
    · rw [ms_is]
    · rw [ms_no _ _ _ _ _ _ (fun q => hj q.2), ms_row _ _ _ _ _ (by omega), e2]
    · rw [ms_row _ _ _ _ _ (by omega), ms_row _ _ _ _ _ (by omega), e3]
    · rw [ms_row _ _ _ _ _ (by omega), ms_row _ _ _ _ _ (by omega), e4 q]
    · rw [ms_row _ _ _ _ _ (by omega), ms_row _ _ _ _ _ (by omega), e4' j hj]
    · rw [ms_row _ _ _ _ _ (by omega), ms_row _ _ _ _ _ (by omega), e5 i hi]
  refine eX7_open _ _ (bX7_open_0 _ _ _ _ _ _ l1 l2 p1 l5 p4 ?_)
  rw [h0, n_cl (by omega)]
  refine ⟨fun q => absurd q (nI_ge (b := 30) (by omega) (by omega)), fun _ => ⟨n_in hn (by omega), fun q => absurd q (nI_pos (by omega)), fun _ => ⟨fun q => ?_, fun q => ?_⟩⟩⟩
  · have hk3 : ¬ k < 3 := fun z => nI_ge z (by omega) q
    refine go _ (ms_row _ _ _ _ _ (by omega)) (ms_is _ _ _ _) (fun j hj => ms_no _ _ _ _ _ _ (fun z => hj z.2)) (ms_row _ _ _ _ _ (by omega)) (ms_row _ _ _ _ _ (by omega)) (fun z => absurd z hk3) (fun j _ => by rw [ms_row _ _ _ _ _ (by omega)]) (fun i hi => ms_row _ _ _ _ _ (by omega))
  · have hk3 : k < 3 := Nat.not_le.mp fun z => q (nI_le z (by omega))
    refine ⟨n_in hk3 (by omega), ?_⟩
    rw [n_cl (by omega), ms_row _ _ _ _ _ (show o ≠ o + 1 by omega), h0]
    refine go _ ?_ ?_ (fun j hj => ?_) ?_ ?_ (fun _ => ms_is _ _ _ _) (fun j hj => ?_) (fun i hi => ?_)
    · rw [ms_row _ _ _ _ _ (by omega), ms_row _ _ _ _ _ (by omega)]
    · rw [ms_row _ _ _ _ _ (by omega), ms_is]
    · rw [ms_row _ _ _ _ _ (by omega), ms_no _ _ _ _ _ _ (fun z => hj z.2)]
    · rw [ms_row _ _ _ _ _ (by omega), ms_row _ _ _ _ _ (by omega)]
    · rw [ms_row _ _ _ _ _ (by omega), ms_row _ _ _ _ _ (by omega)]
    · rw [ms_no _ _ _ _ _ _ (fun z => hj hk3 z.2), ms_row _ _ _ _ _ (by omega)]
    · rw [ms_row _ _ _ _ _ (by omega), ms_row _ _ _ _ _ (by omega)]
end RD3
