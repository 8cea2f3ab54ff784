/-! CONTRACTS 13: texts and their weights. A clause: kind (0 a, 1 b, 2 c, 3 shift, 4 flip, 5 sum, 6 table), letter, words -/
abbrev zTx : Type := List (Nat × Nat × List Int32)
def zix (T : zTx) (w : Nat) : Option Nat := T.findIdx? (fun q => q.1 == w)
def zW (T : zTx) (p t e w u : Nat) : Nat := match zix T w with
  | some i => zval p t e u (T.getD i (0, 0, [])).2.2
  | none => if w = 0 then (u + t) % p else if w = 1 then u else t
def wTx (T : zTx) : Prop := T.length ≤ 30 ∧ (∀ (i : Nat) (q : Nat × Nat × List Int32), T[i]? = some q → q.1 ≤ 6 ∧ q.2.1 ≤ 6 ∧ (q.1 ≤ 2 ∨ q.1 = 6 → zok q.2.2 0) ∧ (q.1 = 4 → q.2.2 = [nI q.2.1])) ∧ ∀ (i j : Nat) (q q' : Nat × Nat × List Int32), T[i]? = some q → T[j]? = some q' → q.1 = q'.1 → q.1 ≤ 2 → i = j
def cTx (M : a_M) (o : Nat) (T : zTx) : Prop :=
  M o 0 = nI T.length ∧ (∃ st : Nat → Nat, ∀ (i : Nat) (q : Nat × Nat × List Int32), T[i]? = some q → M (o + 1) i = nI q.1 ∧ M (o + 2) i = nI (st i) ∧ M (o + 2) (i + 1) = nI (st i + q.2.2.length) ∧ st i + q.2.2.length ≤ 300 ∧ wds (M (o + 3)) (st i) q.2.2) ∧ ∀ w, w < 3 → M (o + 4) w = match zix T w with | some i => nI i | none => -1
def mTx (M : a_M) (t : Nat) (T : zTx) : Prop :=
  M 122 t = nI T.length ∧ ∀ (i : Nat) (q : Nat × Nat × List Int32), T[i]? = some q → M 123 (30 * t + i) = nI q.1 ∧ (q.1 = 4 → M 125 (30 * t + i) = nI q.2.1) ∧ ((q.1 ≤ 2 ∨ q.1 = 6) → ∃ b, M 124 (30 * t + i) = nI b ∧ b + q.2.2.length < 1600 ∧ wds (M 126) b (q.2.2.map zor) ∧ wds (M 127) b (q.2.2.map zvl) ∧ M 126 (b + q.2.2.length) = 408)
theorem cTx.same {M M' : a_M} {o : Nat} {T : zTx} (h : cTx M o T) (hm : ∀ i, o ≤ i → i ≤ o + 4 → (i = o → M' i 0 = M i 0) ∧ (i ≠ o → M' i = M i)) : cTx M' o T := by
  obtain ⟨h1, ⟨st, h2⟩, h3⟩ := h
  have e1 : M' (o + 1) = M (o + 1) := (hm _ (by omega) (by omega)).2 (by omega)
  have e2 : M' (o + 2) = M (o + 2) := (hm _ (by omega) (by omega)).2 (by omega)
  have e3 : M' (o + 3) = M (o + 3) := (hm _ (by omega) (by omega)).2 (by omega)
  have e4 : M' (o + 4) = M (o + 4) := (hm _ (by omega) (by omega)).2 (by omega)
  refine ⟨by rw [(hm o (by omega) (by omega)).1 rfl]; exact h1, ⟨st, fun i q hq => ?_⟩, fun w hw => by rw [e4]; exact h3 w hw⟩
  rw [e1, e2, e3]
  exact h2 i q hq
theorem mTx.same {M M' : a_M} {t : Nat} {T : zTx} (h : mTx M t T) (hm : ∀ i, 122 ≤ i → i ≤ 127 → M' i = M i) : mTx M' t T := by
  unfold mTx
  rw [hm 122 (by omega) (by omega), hm 123 (by omega) (by omega), hm 124 (by omega) (by omega), hm 125 (by omega) (by omega), hm 126 (by omega) (by omega), hm 127 (by omega) (by omega)]
  exact h
def zsc (o : Nat) : Prop := o = 6 ∨ o = 94 ∨ o = 100 ∨ o = 106 ∨ o = 112
theorem ly_scr {o x : Nat} (h : zsc o) : LY[o]? = some (7, 7) ∧ LY[o + 1]? = some (100, 30) ∧ LY[o + 2]? = some (100, 31) ∧ LY[o + 3]? = some (100, 300) ∧ LY[o + 4]? = some (100, 3) ∧ LY[o + 5]? = some (100, 40) ∧ PT x o 1 = (o + 1) + 1 ∧ PT x o 2 = (o + 2) + 1 ∧ PT x o 3 = (o + 3) + 1 ∧ PT x o 4 = (o + 4) + 1 ∧ PT x o 5 = (o + 5) + 1 := by
  rcases h with rfl | rfl | rfl | rfl | rfl <;> exact ⟨rfl, rfl, rfl, rfl, rfl, rfl, rfl, rfl, rfl, rfl, rfl⟩
theorem zix_some {T : zTx} {w i : Nat} (h : zix T w = some i) : ∃ q : Nat × Nat × List Int32, T[i]? = some q ∧ q.1 = w := by
  unfold zix at h
  obtain ⟨h1, h2, -⟩ := List.findIdx?_eq_some_iff_getElem.mp h
  exact ⟨T[i], List.getElem?_eq_getElem h1, beq_iff_eq.mp h2⟩
theorem zix_none {T : zTx} {w : Nat} (h : zix T w = none) : ∀ (i : Nat) (q : Nat × Nat × List Int32), T[i]? = some q → q.1 ≠ w := by
  unfold zix at h
  intro i q hq e
  have := List.findIdx?_eq_none_iff.mp h q (List.mem_of_getElem? hq)
  rw [e] at this
  simp at this
theorem zW_lt {T : zTx} {p t e w u : Nat} (hp : 0 < p) (ht : t < p) (hu : u < p) (hv : ∀ (i : Nat) (q : Nat × Nat × List Int32), T[i]? = some q → q.1 = w → zval p t e u q.2.2 < p) : zW T p t e w u < p := by
  unfold zW
  cases h : zix T w with
  | none =>
    show (if w = 0 then (u + t) % p else if w = 1 then u else t) < p
    split
    · exact Nat.mod_lt _ hp
    · split
      · exact hu
      · exact ht
  | some i =>
    obtain ⟨q, hq, hqw⟩ := zix_some h
    show zval p t e u (T.getD i (0, 0, [])).2.2 < p
    rw [List.getD_eq_getElem?_getD, hq]
    exact hv i q hq hqw
theorem zrun_ok {p t e u : Nat} (hp : 0 < p) (ht : t < p) (he : e < p) (hu : u < p) : ∀ (c : List Int32) (q : Nat × (Nat → Nat)), (∀ j, j < q.1 → q.2 j < p) → zok c q.1 → (zrun p t e u c q).1 = 1 ∧ ∀ j, j < (zrun p t e u c q).1 → (zrun p t e u c q).2 j < p := by
  intro c
  induction c with
  | nil => intro q hq hk; exact ⟨hk, hq⟩
  | cons w c ih =>
    intro q hq hk
    have hs := zstep_ok (w := w) hp ht he hu hq
    refine ih _ hs ?_
    obtain ⟨-, hk⟩ := hk
    unfold zstep
    by_cases c1 : w < -3
    · rw [if_pos c1] at hk ⊢
      by_cases c2 : w = -4
      · rw [if_pos c2] at hk ⊢; exact hk.2
      · rw [if_neg c2] at hk ⊢; exact hk.2
    · rw [if_neg c1] at hk ⊢; exact hk.2
theorem zval_lt {p t e u : Nat} {c : List Int32} (hp : 0 < p) (ht : t < p) (he : e < p) (hu : u < p) (hok : zok c 0) : zval p t e u c < p := by
  obtain ⟨h1, h2⟩ := zrun_ok hp ht he hu c (0, fun _ => 0) (fun j hj => absurd hj (Nat.not_lt_zero j)) hok
  exact h2 0 (by omega)
theorem zW_ok {T : zTx} {n r p t e w u : Nat} (hw : wH n r p t e) (hT : wTx T) (hw3 : w < 3) (hu : u < p) : zW T p t e w u < p := by
  have hpb := zpl_b p hw.2.2.2.1
  refine zW_lt (by omega) hw.2.2.2.2.2.1 hu (fun i q hq hqw => zval_lt (by omega) hw.2.2.2.2.2.1 hw.2.2.2.2.2.2 hu ((hT.2.1 i q hq).2.2.1 (Or.inl (by omega))))
section Z14
variable {X : a_X} {ad : Nat → Nat} {ca : Nat → ClassId} {d x : Nat} {M : a_M}
theorem kX7_hasWeight (hd : 1 ≤ d) {o w : Nat} {T : zTx} (ho : zsc o) (hT : cTx M o T) (hw : w < 3) (hl : T.length ≤ 30) : mX7_hasWeight X ad ca d x [.ref o, .int (nI w)] M (q_i (PT x) (fun s M' => M' = M ∧ s = if (zix T w).isSome = true then 1 else 0)) := by
  obtain ⟨d, rfl⟩ := a_d1 hd
  obtain ⟨l0, l1, l2, l3, l4, l5, p1, p2, p3, p4, p5⟩ := ly_scr (x := x) ho
  have h4 := hT.2.2 w hw
  refine eX7_hasWeight _ _ (bX7_hasWeight_0 _ _ _ _ l0 l4 p4 ⟨fun h => absurd h (nI_pos (by omega)), fun _ => ⟨fun h => absurd h (nI_ge hw (by omega)), fun _ => ⟨n_in hw (by omega), ?_⟩⟩⟩)
  rw [n_cl (by omega), h4]
  cases h : zix T w with
  | none => exact ⟨fun _ => bX7_hasWeight_27 ⟨_, rfl, rfl, rfl, rfl⟩, fun g => absurd rfl g⟩
  | some i =>
    obtain ⟨q, hq, -⟩ := zix_some h
    have hi : i < T.length := (List.getElem?_eq_some_iff.mp hq).1
    refine ⟨fun g => absurd g ?_, fun _ => ⟨_, rfl, rfl, rfl, rfl⟩⟩
    intro g
    have g1 := congrArg Int32.toInt g
    rw [nI_toInt (by omega)] at g1
    have : (-1 : Int32).toInt = -1 := rfl
    omega
theorem kX7_worth (hd : 4 ≤ d) {o o3 n r p t e w u : Nat} {T : zTx} (ho : zsc o) (hT : cTx M o T) (hwT : wTx T) (hLr : LY[o3]? = some (6, 5)) (hH : rH M o3 n r p t e) (hw : wH n r p t e) (hw3 : w < 3) (hu : u < p) :
    mX7_worth X ad ca d x [.ref o, .int (nI w), .int (nI u), .ref o3] M (q_i (PT x) (fun s M' => s = nI (zW T p t e w u) ∧ ∀ i, i ≠ o + 5 → M' i = M i)) := by
  obtain ⟨d, rfl⟩ := a_d1 (show 1 ≤ d by omega)
  obtain ⟨l0, l1, l2, l3, l4, l5, p1, p2, p3, p4, p5⟩ := ly_scr (x := x) ho
  have hpb := zpl_b p hw.2.2.2.1
  have ht := hw.2.2.2.2.2.1
  have h4 := hT.2.2 w hw3
  refine eX7_worth _ _ _ _ (bX7_worth_0 _ _ _ _ _ _ l0 hLr l4 p4 ⟨_, kX7_hasWeight (by omega) ho hT hw3 hwT.1, ?_⟩)
  rintro v1 M1 ⟨rfl, rfl⟩
  rw [hH.2.2.1, hH.2.2.2.1]
  cases h : zix T w with
  | none =>
    have hdef : ∀ v : Nat, v < 2 ^ 30 → v % p = zW T p t e w u → ∃ Q : Int32 → a_M → Prop, mX11_left X ad ca d x [.int (nI v), .int (nI p)] M1 (q_i (PT x) Q) ∧ ∀ v2 M2, Q v2 M2 → q_i (PT x) (fun s M' => s = nI (zW T p t e w u) ∧ ∀ i, i ≠ o + 5 → M' i = M1 i) (some (.int v2)) M2 (PT x) := by
      intro v hv hvz
      refine ⟨_, kX11_left (by omega) _ (by omega) (by omega), ?_⟩
      rintro v2 M2 ⟨rfl, rfl⟩
      refine ⟨_, rfl, rfl, ?_, fun _ _ => rfl⟩
      rw [nI_toInt (by omega), zm_nat, hvz]
    refine ⟨fun _ => ⟨fun g1 => ⟨fun g2 => hdef t (by omega) ?_, fun g2 => hdef u (by omega) ?_⟩, fun g1 => ?_⟩, fun g => absurd rfl g⟩
    · have : w ≠ 0 := fun q => g1 (by rw [q]; rfl)
      have : w ≠ 1 := fun q => g2 (by rw [q]; rfl)
      rw [Nat.mod_eq_of_lt ht]
      unfold zW
      rw [h]
      show t = if w = 0 then _ else if w = 1 then _ else t
      rw [if_neg (by assumption), if_neg (by assumption)]
    · have g0 : w = 1 := (nI_eq (b := 1) (by omega) (by omega)).mp g2
      rw [Nat.mod_eq_of_lt hu]
      unfold zW
      rw [h, g0]
      rfl
    · have g0 : w = 0 := by
        rw [← nI_0] at g1
        exact (nI_eq (by omega) (by omega)).mp g1
      rw [nI_add]
      refine hdef (u + t) (by omega) ?_
      unfold zW
      rw [h, g0]
      rfl
  | some i =>
    obtain ⟨q, hq, hqw⟩ := zix_some h
    have hi : i < T.length := (List.getElem?_eq_some_iff.mp hq).1
    have hl := hwT.1
    obtain ⟨st, hst⟩ := hT.2.1
    obtain ⟨s1, s2, s3, s4, s5⟩ := hst i q hq
    refine ⟨fun g => absurd (show (1 : Int32) = 0 from g) (by decide), fun _ => ⟨n_in hw3 (by omega), ?_⟩⟩
    rw [n_cl (by omega), h4, h]
    refine ⟨_, kX7_reckoned (by omega) l0 l2 l3 l5 p2 p3 p5 hLr hH hw hu (show i < 30 by omega) s2 s3 s4 s5 ((hwT.2.1 i q hq).2.2.1 (Or.inl (by omega))), ?_⟩
    rintro v5 M5 ⟨rfl, q5⟩
    refine ⟨_, rfl, rfl, ?_, q5⟩
    unfold zW
    rw [h]
    show nI _ = nI (zval p t e u (T.getD i (0, 0, [])).2.2)
    rw [List.getD_eq_getElem?_getD, hq]
    rfl
theorem kX12_weightOf (hd : 4 ≤ d) {k n r p t e w u : Nat} {T : zTx} (hk : M 119 6 = nI k - 1) (hk4 : k ≤ 4) (hT : ∀ j, k = j + 1 → mTx M j T) (hT0 : k = 0 → T = []) (hwT : wTx T) (hH : mH M n r p t e) (hw : wH n r p t e) (hw3 : w < 3) (hu : u < p) :
    mX12_weightOf X ad ca d x [.ref 118, .int (nI w), .int (nI u)] M (q_i (PT x) (fun s M' => s = nI (zW T p t e w u) ∧ ∀ i, i ≠ 136 → M' i = M i)) := by
  obtain ⟨d, rfl⟩ := a_d1 (show 1 ≤ d by omega)
  have hpb := zpl_b p hw.2.2.2.1
  have ht := hw.2.2.2.2.2.1
  have hl := hwT.1
  let dv : Nat := if w = 0 then (u + t) % p else if w = 1 then u else t
  -- the value behind the first i clauses
  let vv : Nat → Nat := fun i => match zix T w with | some j => if j < i then zval p t e u (T.getD j (0, 0, [])).2.2 else dv | none => dv
  have hstart : wX12_weightOf X ad ca d x (q_i (PT x) (fun s M' => s = nI (zW T p t e w u) ∧ ∀ i, i ≠ 136 → M' i = M i)) 41 [(0, .ref 118), (1, .int (nI w)), (2, .int (nI u)), (3, .int (nI (vv 0))), (4, .int (nI 0))] M := by
    by_cases hk0 : k = 0
    · have e1 : M 119 6 = -1 := by rw [hk, hk0]; rfl
      refine bX12_weightOf_41 _ _ _ _ ⟨fun _ => bX12_weightOf_118 _ ⟨_, rfl, rfl, ?_, fun _ _ => rfl⟩, fun h => absurd e1 h⟩
      have : T = [] := hT0 hk0
      subst this
      rfl
    · obtain ⟨j, rfl⟩ : ∃ j, k = j + 1 := ⟨k - 1, by omega⟩
      rw [nI_pred] at hk
      obtain ⟨m1, m2⟩ := hT j rfl
      have hne : ∀ M' : a_M, (∀ i, i ≠ 136 → M' i = M i) → ¬ M' 119 6 = -1 := by
        intro M' hf g
        rw [hf 119 (by decide), hk] at g
        have g1 := congrArg Int32.toInt g
        rw [nI_toInt (by omega)] at g1
        have : (-1 : Int32).toInt = -1 := rfl
        omega
      refine a_loop (σ := a_M) (fun i M' => wX12_weightOf X ad ca d x (q_i (PT x) (fun s M' => s = nI (zW T p t e w u) ∧ ∀ i, i ≠ 136 → M' i = M i)) 41 [(0, .ref 118), (1, .int (nI w)), (2, .int (nI u)), (3, .int (nI (vv i))), (4, .int (nI i))] M') (fun i M' => ∀ i, i ≠ 136 → M' i = M i) T.length ?_ ?_ 0 M (Nat.zero_le _) (fun _ _ => rfl)
      · intro M' hf
        refine bX12_weightOf_41 _ _ _ _ ⟨fun g => absurd g (hne M' hf), fun _ => ?_⟩
        rw [hf 119 (by decide), hk, n_cl (show j < 2 ^ 31 by omega), hf 122 (by decide), m1]
        refine ⟨n_in (by omega) (by omega), fun _ => bX12_weightOf_118 _ ⟨_, rfl, rfl, ?_, hf⟩, fun g => absurd (nI_le (Nat.le_refl _) (by omega)) g⟩
        show nI (match zix T w with | some j => if j < T.length then zval p t e u (T.getD j (0, 0, [])).2.2 else dv | none => dv) = _
        unfold zW
        cases h : zix T w with
        | none => rfl
        | some i =>
          obtain ⟨q, hq, -⟩ := zix_some h
          have hi : i < T.length := (List.getElem?_eq_some_iff.mp hq).1
          show nI (if i < T.length then _ else dv) = _
          rw [if_pos hi]
      · intro i M' hi hf ih
        obtain ⟨q, hq⟩ : ∃ q, T[i]? = some q := ⟨T[i], List.getElem?_eq_getElem hi⟩
        obtain ⟨k1, k2, k3⟩ := m2 i q hq
        have hq6 := (hwT.2.1 i q hq).1
        have e30 : (30 : Int32) * nI j + nI i = nI (30 * j + i) := by rw [fa_lit 30, n_mul, nI_add]
        refine bX12_weightOf_41 _ _ _ _ ⟨fun g => absurd g (hne M' hf), fun _ => ?_⟩
        rw [hf 119 (by decide), hk, n_cl (show j < 2 ^ 31 by omega), hf 122 (by decide), m1, e30, n_cl (show 30 * j + i < 2 ^ 31 by omega), hf 123 (by decide), k1, ← nI_succ]
        refine ⟨n_in (by omega) (by omega), fun g => absurd g (nI_ge hi (by omega)), fun _ => ⟨n_in (by omega) (by omega), fun g => ?_, fun g => ⟨n_in (by omega) (by omega), ?_⟩⟩⟩
        · have hqw : q.1 ≠ w := fun z => g (by rw [z])
          have ev : vv (i + 1) = vv i := by
            show (match zix T w with | some j => if j < i + 1 then zval p t e u (T.getD j (0, 0, [])).2.2 else dv | none => dv) = (match zix T w with | some j => if j < i then zval p t e u (T.getD j (0, 0, [])).2.2 else dv | none => dv)
            cases h : zix T w with
            | none => rfl
            | some i' =>
              obtain ⟨q', hq', hqw'⟩ := zix_some h
              have hne' : i' ≠ i := fun z => by
                subst z
                rw [hq] at hq'
                cases hq'
                exact hqw hqw'
              show (if i' < i + 1 then _ else dv) = if i' < i then _ else dv
              by_cases c : i' < i
              · rw [if_pos c, if_pos (by omega)]
              · rw [if_neg c, if_neg (by omega)]
          rw [← ev]
          exact ih M' hf
        · have hqw : q.1 = w := (nI_eq (by omega) (by omega)).mp g
          obtain ⟨b, b1, b2, b3, b4, b5⟩ := k3 (Or.inl (by omega))
          have hcp : ∀ o, o ≠ 136 → M' o = M o := hf
          rw [hf 124 (by decide), b1]
          refine ⟨_, kX12_saysOf (by omega) (hH.same (hf 119 (by decide))) hw hu b2 (by rw [hf 126 (by decide)]; exact b3) (by rw [hf 127 (by decide)]; exact b4) (by rw [hf 126 (by decide)]; exact b5) ((hwT.2.1 i q hq).2.2.1 (Or.inl (by omega))), ?_⟩
          rintro v1 M1 ⟨rfl, q5⟩
          have ev : vv (i + 1) = zval p t e u q.2.2 := by
            show (match zix T w with | some j => if j < i + 1 then zval p t e u (T.getD j (0, 0, [])).2.2 else dv | none => dv) = _
            cases h : zix T w with
            | none => exact absurd hqw (zix_none h i q hq)
            | some i' =>
              obtain ⟨q', hq', hqw'⟩ := zix_some h
              have he' : i' = i := hwT.2.2 i' i q' q hq' hq (by rw [hqw', hqw]) (by omega)
              subst he'
              rw [hq] at hq'
              cases hq'
              show (if i' < i' + 1 then _ else dv) = _
              rw [if_pos (by omega), List.getD_eq_getElem?_getD, hq]
              rfl
          rw [← ev]
          exact ih M1 (fun o ho => (q5 o ho).trans (hf o ho))
  have hv0 : vv 0 = dv := by
    show (match zix T w with | some j => if j < 0 then zval p t e u (T.getD j (0, 0, [])).2.2 else dv | none => dv) = dv
    cases h : zix T w with
    | none => rfl
    | some i => exact if_neg (Nat.not_lt_zero _)
  rw [hv0] at hstart
  refine eX12_weightOf _ _ (bX12_weightOf_0 _ _ ?_)
  rw [hH.2.2.1, hH.2.2.2.1]
  refine ⟨fun g1 => ⟨fun g2 => ?_, fun g2 => ?_⟩, fun g1 => ⟨nI_ne0 (by omega) (by omega), ?_⟩⟩
  · have h0 : w ≠ 0 := fun q => g1 (by rw [q]; rfl)
    have h1 : w ≠ 1 := fun q => g2 (by rw [q]; rfl)
    have : dv = t := by show (if w = 0 then (u + t) % p else if w = 1 then u else t) = t; rw [if_neg h0, if_neg h1]
    rw [this] at hstart
    exact hstart
  · have g0 : w = 1 := (nI_eq (b := 1) (by omega) (by omega)).mp g2
    have : dv = u := by show (if w = 0 then (u + t) % p else if w = 1 then u else t) = u; rw [if_neg (by omega), if_pos g0]
    rw [this] at hstart
    exact hstart
  · have g0 : w = 0 := by
      rw [← nI_0] at g1
      exact (nI_eq (by omega) (by omega)).mp g1
    have : dv = (u + t) % p := by show (if w = 0 then (u + t) % p else if w = 1 then u else t) = _; rw [if_pos g0]
    rw [this] at hstart
    rw [nI_add, n_rem (by omega) (by omega) (by omega)]
    exact hstart
end Z14
