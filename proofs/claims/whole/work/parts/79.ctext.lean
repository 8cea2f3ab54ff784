/-! PARSER 6: text on the class's side -/
theorem pCl_no {tk : Nat → Int32} {K i f j : Nat} {T : zTx} (hE : pEnd tk K) (hi : i ≤ K) (h : pCl tk T i = .inl (f, j)) : j ≤ K ∧ 1 ≤ f ∧ f ≤ 6 := by
  unfold pCl at h
  cases hk : pKd (tk i) with
  | none =>
    rw [hk] at h
    cases h
    exact ⟨hi, by omega, by omega⟩
  | some k =>
    rw [hk] at h
    have hlt : i < K := hE.lt hi (fun z => by rw [z, show pKd (-1) = none by decide] at hk; cases hk)
    change (if k ≤ 2 ∧ (zix T k).isSome = true then _ else _) = _ at h
    by_cases c1 : k ≤ 2 ∧ (zix T k).isSome = true
    · rw [if_pos c1] at h; cases h; exact ⟨hi, by omega, by omega⟩
    rw [if_neg c1] at h
    by_cases c2 : 30 ≤ T.length
    · rw [if_pos c2] at h; cases h; exact ⟨hi, by omega, by omega⟩
    rw [if_neg c2] at h
    have hg := pBody_go (k := k) hE (show i + 1 ≤ K from hlt)
    cases hb : pBody tk k (i + 1) with
    | inl e =>
      obtain ⟨f', j'⟩ := e
      rw [hb] at h hg
      cases h
      exact ⟨hg.2.1, hg.2.2⟩
    | inr e =>
      obtain ⟨j', c⟩ := e
      rw [hb] at h hg
      by_cases q : tk j' = 59
      · have ep : pPass tk 59 (.inr (j', c)) = .inr (j' + 1, c) := by
          show (if tk j' = 59 then Sum.inr (j' + 1, c) else .inl (1, j')) = _
          rw [if_pos q]
        rw [ep] at h
        cases h
      · have ep : pPass tk 59 (.inr (j', c)) = .inl (1, j') := by
          show (if tk j' = 59 then Sum.inr (j' + 1, c) else .inl (1, j')) = _
          rw [if_neg q]
        rw [ep] at h
        cases h
        exact ⟨hg.2.1, by omega, by omega⟩
/-- what reading a text leaves in the class -/
def rtO (M M' : a_M) (o R : Nat) (Y : Nat → Nat) (tl : Nat) (s : Int32) : Prop := M' 12 5 = nI (R + 1) ∧ M' o 6 = nI (R + 1) ∧ (∀ q, q ≠ 12 → q ≠ 3 → q ≠ 4 → (q < o ∨ o + 4 < q) → M' q = M q) ∧ match pTx (lTk Y tl) 31 0 [] with
  | .inr T => s = 1 ∧ M' 12 6 = 0 ∧ M' 12 7 = -1 ∧ cTx M' o T ∧ wTx T
  | .inl (f, j) => s = 0 ∧ M' 12 6 = nI f ∧ M' 12 7 = nI (lSt Y tl j)
theorem wTx_nil : wTx [] := ⟨Nat.zero_le _, fun i q h => (by cases h), fun i j q q' h => (by cases h)⟩
section CT
variable {X : a_X} {ad : Nat → Nat} {ca : Nat → ClassId} {d x : Nat} {M : a_M} {Y : Nat → Nat} {tl : Nat} {S : Nat → Nat} {V : Nat → Nat → Nat}
theorem kX10_start (hd : 1 ≤ d) {i : Nat} (hi : i ≤ 300) : mX10_start X ad ca d x [.ref 1, .int (nI i)] M (q_i (PT x) (fun s M' => M' = M ∧ s = M 4 i)) := by
  obtain ⟨d, rfl⟩ := a_d1 hd
  refine eX10_start _ (bX10_start_0 _ ⟨fun q => absurd q (nI_pos (by omega)), fun _ => ⟨fun q => absurd q (nI_ge (b := 301) (by omega) (by omega)), fun _ => ⟨n_in (by omega) (by omega), _, rfl, rfl, rfl, ?_⟩⟩⟩)
  rw [n_cl (by omega)]
theorem kX5_readInto (hd : 32 ≤ d) {o R : Nat} (ho : zsc o) (hB : tB M Y tl) (hR : M 12 5 = nI R) : mX5_readInto X ad ca d x [.ref 12, .ref o] M (q_i (PT o) (fun s M' => rtO M M' o R Y tl s)) := by
  obtain ⟨d, rfl⟩ := a_d1 (show 1 ≤ d by omega)
  have hLo := (ly_scr (x := x) ho).1
  have hne := zsc_ne ho
  have h12o : 12 < o ∨ o + 4 < 12 := by unfold zsc at ho; omega
  have h1o : 1 < o ∨ o + 4 < 1 := by unfold zsc at ho; omega
  have h2o : 2 < o ∨ o + 4 < 2 := by unfold zsc at ho; omega
  have h3o : 3 < o ∨ o + 4 < 3 := by unfold zsc at ho; omega
  have h4o : 4 < o ∨ o + 4 < 4 := by unfold zsc at ho; omega
  obtain ⟨K, hE, hK1, hK2, hK3⟩ := lex_end hB.2.2.2 hB.2.1
  have hK := hE.2.2.1
  refine eX5_readInto _ (bX5_readInto_0 _ hLo ?_)
  rw [hR, nI_1]
  refine ⟨_, kX7_restart (by omega) ho _, ?_⟩
  rintro M1 ⟨r1, r2, r3⟩
  have r12 : M1 12 = ms M 12 5 (nI (R + 1)) 12 := r3 12 h12o
  have hB1 : tB (ms M1 12 6 0) Y tl := ⟨by rw [ms_row _ _ _ _ _ (by decide), r3 1 h1o, ms_row _ _ _ _ _ (by decide)]; exact hB.1, hB.2.1, fun z hz => by rw [ms_row _ _ _ _ _ (by decide), r3 2 h2o, ms_row _ _ _ _ _ (by decide)]; exact hB.2.2.1 z hz, hB.2.2.2⟩
  refine ⟨_, kX10_split (by omega) hB1 hK1 hK2 hK3, ?_⟩
  rintro M2 ⟨t1, t2⟩
  have e12 : M2 12 = ms M1 12 6 0 12 := t2 12 (by decide) (by decide)
  refine ⟨_, kX5_advance (by omega) (tk := lTk Y tl) (K := K) (i := 0) (by rw [ms_is]; rfl) (Nat.zero_le _) hK (fun j hj => by rw [ms_row _ _ _ _ _ (by decide)]; exact (t1 j hj).1), ?_⟩
  rintro M3 rfl
  -- the loop
  have key : ∀ f n i (T : zTx) b (M4 : a_M), n + f = 31 → T.length = n → wTx T → rdT M4 o T b → b ≤ i → i ≤ K → M4 12 2 = nI i → M4 12 3 = lTk Y tl i → M4 12 6 = 0 → M4 12 5 = nI (R + 1) → M4 o 6 = nI (R + 1) → tT M4 Y tl K → (∀ q, q ≠ 12 → q ≠ 3 → q ≠ 4 → (q < o ∨ o + 4 < q) → M4 q = M q) → pTx (lTk Y tl) 31 0 [] = pTx (lTk Y tl) f i T → wX5_readInto X ad ca d o (q_i (PT o) (fun s M' => rtO M M' o R Y tl s)) 51 [(0, .ref 12), (2, .int 1), (3, .int (nI n))] M4 := by
    intro f
    induction f with
    | zero =>
      intro n i T b M4 hn hT hw
      have := hw.1
      omega
    | succ f ih =>
      intro n i T b M4 hn hT hw hr hb hi h2 h3 h6 h5 ho6 htT hf he
      refine bX5_readInto_51 _ _ ⟨fun q => absurd q (by decide), fun _ => ?_⟩
      rw [h3]
      refine ⟨fun q => ?_, fun q => ⟨fun q2 => absurd q2 (nI_nlt (a := 30) (b := n) (by have := hw.1; omega) (by omega)), fun _ => ⟨_, kX5_readClause (by omega) ho hE hr hw h2 h3 (fun j hj => (htT j hj).1) hi hb, ?_⟩⟩⟩
      · refine bX5_readInto_80 _ ⟨fun z => absurd z (by decide), fun _ => ⟨Or.inr rfl, _, rfl, rfl, ?_⟩⟩
        have e : pTx (lTk Y tl) 31 0 [] = .inr T := by
          rw [he]
          show (if lTk Y tl i = -1 then _ else _) = _
          rw [if_pos q]
        refine ⟨by rw [ms_no _ _ _ _ _ _ (by omega)]; exact h5, by rw [ms_row _ _ _ _ _ hne.2.2.1]; exact ho6, fun z a1 a2 a3 a4 => by rw [ms_row _ _ _ _ _ a1]; exact hf z a1 a2 a3 a4, ?_⟩
        rw [e]
        refine ⟨rfl, by rw [ms_no _ _ _ _ _ _ (by omega)]; exact h6, ms_is _ _ _ _, ?_, hw⟩
        refine (hr.tx (by omega)).same (fun z a1 a2 => ?_)
        have hz : z ≠ 12 := by omega
        rw [ms_row _ _ _ _ _ hz]
        exact ⟨fun _ => rfl, fun _ => rfl⟩
      · intro v1 M5 h
        cases hc : pCl (lTk Y tl) T i with
        | inl e =>
          obtain ⟨f2, j⟩ := e
          rw [hc] at h
          obtain ⟨c1, rfl, c3, c4⟩ := h
          have hjK := (pCl_no hE hi hc).1
          refine bX5_readInto_51 _ _ ⟨fun _ => bX5_readInto_80 _ ⟨fun _ => ?_, fun z => absurd rfl z⟩, fun z => absurd rfl z⟩
          rw [c4]
          refine ⟨_, kX10_start (by omega) (by omega), ?_⟩
          rintro v2 M6 ⟨rfl, rfl⟩
          refine ⟨Or.inl rfl, _, rfl, rfl, ?_⟩
          have e : pTx (lTk Y tl) 31 0 [] = .inl (f2, j) := by
            rw [he]
            show (if lTk Y tl i = -1 then _ else _) = _
            rw [if_neg q, hc]
          have e4 : M6 4 j = nI (lSt Y tl j) := by rw [c1.1 4 (by decide) h4o]; exact (htT j hjK).2
          refine ⟨by rw [ms_no _ _ _ _ _ _ (by omega), c1.2.1 5 (by decide) (by decide) (by decide) (by decide)]; exact h5, by rw [ms_row _ _ _ _ _ hne.2.2.1, c1.2.2 6 (by decide)]; exact ho6, fun z a1 a2 a3 a4 => by rw [ms_row _ _ _ _ _ a1, c1.1 z a1 a4]; exact hf z a1 a2 a3 a4, ?_⟩
          rw [e]
          exact ⟨rfl, by rw [ms_no _ _ _ _ _ _ (by omega)]; exact c3, by rw [ms_is, e4]⟩
        | inr e =>
          obtain ⟨j, T'⟩ := e
          rw [hc] at h
          obtain ⟨c1, rfl, c3, c4, c5, b', c6, c7⟩ := h
          obtain ⟨p1, p2, p3, k9, l9, c9, p4, -⟩ := pCl_in hE hi hw hc
          have hlen : T'.length = n + 1 := by rw [p4, List.length_append, hT]; rfl
          rw [nI_1]
          refine ih (n + 1) j T' b' M5 (by omega) hlen p3 c7 c6 p2 c4 c5 (by rw [c3, h6]) (by rw [c1.2.1 5 (by decide) (by decide) (by decide) (by decide)]; exact h5) (by rw [c1.2.2 6 (by decide)]; exact ho6) (fun z hz => by rw [c1.1 3 (by decide) h3o, c1.1 4 (by decide) h4o]; exact htT z hz) (fun z a1 a2 a3 a4 => by rw [c1.1 z a1 a4]; exact hf z a1 a2 a3 a4) ?_
          rw [he]
          show (if lTk Y tl i = -1 then _ else _) = _
          rw [if_neg q, hc]
  have er : ∀ q, q ≠ 12 → ms (ms (ms M2 12 2 (-1)) 12 2 (nI 0)) 12 3 (lTk Y tl 0) q = M2 q := fun q hq => by rw [ms_row _ _ _ _ _ hq, ms_row _ _ _ _ _ hq, ms_row _ _ _ _ _ hq]
  have eo : ∀ q, q ≠ 12 → (q < o ∨ o + 4 < q ∨ (o ≤ q ∧ q ≤ o + 4)) → q ≠ 3 → q ≠ 4 → ms (ms (ms M2 12 2 (-1)) 12 2 (nI 0)) 12 3 (lTk Y tl 0) q = M1 q := fun q hq _ h3 h4 => by rw [er q hq, t2 q h3 h4, ms_row _ _ _ _ _ hq]
  have ein : ∀ z, o ≤ z → z ≤ o + 4 → ms (ms (ms M2 12 2 (-1)) 12 2 (nI 0)) 12 3 (lTk Y tl 0) z = M1 z := fun z h1 h2 => eo z (by omega) (by omega) (by omega) (by omega)
  have hr0 : rdT (ms (ms (ms M2 12 2 (-1)) 12 2 (nI 0)) 12 3 (lTk Y tl 0)) o [] 0 := by
    obtain ⟨g1, g2, -, g4⟩ := r1
    refine ⟨by rw [ein o (by omega) (by omega)]; exact g1, by rw [ein (o + 2) (by omega) (by omega)]; exact g2, ⟨fun _ => 0, fun i q hq => by cases hq⟩, fun w hw => by rw [ein (o + 4) (by omega) (by omega)]; exact g4 w hw⟩
  refine key 31 0 0 [] 0 _ rfl rfl wTx_nil hr0 (Nat.le_refl _) (Nat.zero_le _) ?_ ?_ ?_ ?_ ?_ (fun k hk => ?_) (fun q a1 a2 a3 a4 => ?_) rfl
  · rw [ms_no _ _ _ _ _ _ (by omega), ms_is]
  · rw [ms_is]
  · rw [ms_no _ _ _ _ _ _ (by omega), ms_no _ _ _ _ _ _ (by omega), ms_no _ _ _ _ _ _ (by omega), e12, ms_is]
  · rw [ms_no _ _ _ _ _ _ (by omega), ms_no _ _ _ _ _ _ (by omega), ms_no _ _ _ _ _ _ (by omega), e12, ms_no _ _ _ _ _ _ (by omega), r12, ms_is]
  · rw [ein o (by omega) (by omega)]; exact r2
  · rw [er 3 (by decide), er 4 (by decide)]; exact t1 k hk
  · rw [eo q a1 (by omega) a2 a3, r3 q a4, ms_row _ _ _ _ _ a1]
/-- the bytes as small numbers -/
def lY (B : Nat → Int32) (i : Nat) : Nat := (B i &&& 255).toNatClampNeg
theorem lY_f (B : Nat → Int32) (i : Nat) : B i &&& 255 = nI (lY B i) ∧ lY B i < 256 := by
  obtain ⟨j, hj, e⟩ := pk_andE (B i) (m := 255) 8 (by decide)
  have hj' : j < 256 := by
    have : (2 : Nat) ^ 8 = 256 := by decide
    omega
  have e2 : lY B i = j := by
    unfold lY
    rw [e, n_cl (by omega)]
  rw [e2]
  exact ⟨e, hj'⟩
theorem cTp.tB {M : a_M} {tl : Nat} {B : Nat → Int32} (h : cTp M tl B) : tB M (lY B) tl := ⟨h.1, h.2.1, fun i hi => by rw [h.2.2 i hi]; exact (lY_f B i).1, fun i => (lY_f B i).2⟩
/-- what text does to the class -/
def ctO (M M' : a_M) (x x' R : Nat) (S : Nat → Nat) (V : Nat → Nat → Nat) (Y : Nat → Nat) (tl : Nat) (s : Int32) : Prop :=
  (S 5 = 4 ∧ s = -1 ∧ M' = M ∧ x' = x) ∨ (S 5 < 4 ∧ M' 12 5 = nI (R + 1) ∧ M' 1 3 = 0 ∧ (∀ k, k ≠ 3 → M' 1 k = M 1 k) ∧ (∀ q, q ≠ 1 → q ≠ 3 → q ≠ 4 → q ≠ 12 → q ≠ 44 → (q < 94 + 6 * S 5 ∨ 94 + 6 * S 5 + 4 < q) → M' q = M q) ∧ match pTx (lTk Y tl) 31 0 [] with
    | .inr T => s = nI (S 5) ∧ M' 12 6 = 0 ∧ M' 12 7 = -1 ∧ cTx M' (94 + 6 * S 5) T ∧ wTx T ∧ M' (94 + 6 * S 5) 6 = nI (R + 1) ∧ cSt M' 44 (va_up S 5 (S 5 + 1)) V
    | .inl (f, j) => s = -1 ∧ M' 12 6 = nI f ∧ M' 12 7 = nI (lSt Y tl j) ∧ cSt M' 44 S V)
theorem kX11_text (hd : 33 ≤ d) {R : Nat} (hS : cSt M 44 S V) (hw : wSt S V) (hB : tB M Y tl) (hR : M 12 5 = nI R) : mX11_text X ad ca d x [.ref 0] M (fun r M' P' => ∃ v x', r = some (.int v) ∧ P' = PT x' ∧ ctO M M' x x' R S V Y tl v) := by
  obtain ⟨d, rfl⟩ := a_d1 (show 1 ≤ d by omega)
  obtain ⟨hw0, w5, w6, w7⟩ := id hw
  refine eX11_text (bX11_text_0 ?_)
  rw [hS.2.1]
  have no : S 5 = 4 → wX11_text X ad ca d x (fun r M' P' => ∃ v x', r = some (.int v) ∧ P' = PT x' ∧ ctO M M' x x' R S V Y tl v) 21 [] M := fun h => bX11_text_21 ⟨_, x, rfl, rfl, Or.inl ⟨h, rfl, rfl, rfl⟩⟩
  refine ⟨fun q => absurd q (nI_pos (by omega)), fun _ => ⟨fun q => ?_, fun q => no ?_⟩⟩
  · have h4 : S 5 < 4 := (nI_ltI (b := 4) (by omega) (by omega)).mp q
    have ho : zsc (94 + 6 * S 5) := by unfold zsc; omega
    refine ⟨n_in h4 (by omega), 94 + 6 * S 5, 0, ?_, ⟨rfl, (ly_scr (x := x) ho).1⟩, ?_⟩
    · rw [n_cl (by omega)]
      exact ly_scripts h4
    refine ⟨_, kX5_readInto (by omega) ho hB hR, ?_⟩
    rintro v2 M2 ⟨g1, g2, g3, g4⟩
    have st : ∀ (M3 : a_M), (∀ q, q ≠ 1 → q ≠ 44 → M3 q = M2 q) → (∀ k, k ≠ 3 → M3 1 k = M2 1 k) → M3 1 3 = 0 → M3 12 5 = nI (R + 1) ∧ M3 1 3 = 0 ∧ (∀ k, k ≠ 3 → M3 1 k = M 1 k) ∧ (∀ q, q ≠ 1 → q ≠ 3 → q ≠ 4 → q ≠ 12 → q ≠ 44 → (q < 94 + 6 * S 5 ∨ 94 + 6 * S 5 + 4 < q) → M3 q = M q) := fun M3 e1 e2 e3 =>
      ⟨by rw [e1 12 (by decide) (by decide)]; exact g1, e3, fun k hk => by rw [e2 k hk, g3 1 (by decide) (by decide) (by decide) (by omega)], fun q a1 a2 a3 a4 a5 a6 => by rw [e1 q a1 a5, g3 q a4 a2 a3 a6]⟩
    have old : ∀ i, 44 ≤ i → i ≤ 68 → M2 i = M i := fun i h1 h2 => g3 i (by omega) (by omega) (by omega) (by omega)
    refine ⟨fun z => ?_, fun z => ?_⟩
    · cases hp : pTx (lTk Y tl) 31 0 [] with
      | inl e =>
        rw [hp] at g4
        exact absurd g4.1 z
      | inr T =>
        rw [hp] at g4
        obtain ⟨rfl, k1, k2, k3, k4⟩ := g4
        rw [nI_1]
        have e1 : ∀ q, q ≠ 1 → q ≠ 44 → ms (ms M2 1 3 0) 44 2 (nI (S 5 + 1)) q = M2 q := fun q h1 h2 => by rw [ms_row _ _ _ _ _ h2, ms_row _ _ _ _ _ h1]
        obtain ⟨f1, f2, f3, f4⟩ := st (ms (ms M2 1 3 0) 44 2 (nI (S 5 + 1))) e1 (fun k hk => by rw [ms_row _ _ _ _ _ (by decide), ms_no _ _ _ _ _ _ (fun z => hk z.2)]) (by rw [ms_row _ _ _ _ _ (by decide), ms_is])
        refine ⟨_, _, rfl, rfl, Or.inr ⟨h4, f1, f2, f3, f4, ?_⟩⟩
        rw [hp]
        refine ⟨rfl, by rw [e1 12 (by decide) (by decide)]; exact k1, by rw [e1 12 (by decide) (by decide)]; exact k2, ?_, k4, by rw [e1 _ (by omega) (by omega)]; exact g2, ?_⟩
        · refine k3.same (fun z a1 a2 => ?_)
          rw [e1 z (by omega) (by omega)]
          exact ⟨fun _ => rfl, fun _ => rfl⟩
        · obtain ⟨s1, s2, s3, s4, s5, ff, s6, s7, s8⟩ := hS
          have e44 : ∀ k, k ≠ 2 → ms (ms M2 1 3 0) 44 2 (nI (S 5 + 1)) 44 k = M 44 k := fun k hk => by rw [ms_no _ _ _ _ _ _ (fun z => hk z.2), ms_row _ _ _ _ _ (by decide), old 44 (by omega) (by omega)]
          have e45 : ∀ i, 45 ≤ i → i ≤ 68 → ms (ms M2 1 3 0) 44 2 (nI (S 5 + 1)) i = M i := fun i h1 h2 => by rw [e1 i (by omega) (by omega), old i (by omega) h2]
          refine ⟨?_, ?_, ?_, ?_, ?_, ff, s6, ?_, ?_⟩
          · exact s1.same (e45 45 (by omega) (by omega))
          · show ms (ms M2 1 3 0) 44 2 (nI (S 5 + 1)) 44 2 = nI (va_up S 5 (S 5 + 1) 5)
            rw [ms_is, vu]
          · rw [e44 3 (by decide)]; exact s3
          · rw [e45 46 (by omega) (by omega)]; exact s4
          · rw [e45 46 (by omega) (by omega)]; exact s5
          · rw [e45 46 (by omega) (by omega)]; exact s7
          · intro k hk s hs
            have hlt : (ff + k) % 21 < 21 := Nat.mod_lt _ (by omega)
            rw [e45 (44 + 4 + (ff + k) % 21) (by omega) (by omega)]
            exact s8 k hk s hs
    · cases hp : pTx (lTk Y tl) 31 0 [] with
      | inr T =>
        rw [hp] at g4
        rw [g4.1] at z
        exact absurd z (by decide)
      | inl e =>
        obtain ⟨f, j⟩ := e
        rw [hp] at g4
        obtain ⟨rfl, k1, k2⟩ := g4
        have e1 : ∀ q, q ≠ 1 → q ≠ 44 → ms M2 1 3 0 q = M2 q := fun q h1 h2 => ms_row _ _ _ _ _ h1
        obtain ⟨f1, f2, f3, f4⟩ := st (ms M2 1 3 0) e1 (fun k hk => by rw [ms_no _ _ _ _ _ _ (fun z => hk z.2)]) (ms_is _ _ _ _)
        refine ⟨_, _, rfl, rfl, Or.inr ⟨h4, f1, f2, f3, f4, ?_⟩⟩
        rw [hp]
        exact ⟨rfl, by rw [e1 12 (by decide) (by decide)]; exact k1, by rw [e1 12 (by decide) (by decide)]; exact k2, hS.same (fun i h1 h2 => by rw [ms_row _ _ _ _ _ (by omega), old i h1 (by omega)])⟩
  · have : ¬ S 5 < 4 := fun z => q (nI_lt (b := 4) z (by omega))
    omega
end CT
