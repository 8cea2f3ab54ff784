/-! PARSER 5: the class's Reader: a clause -/
def rcF (M M' : a_M) (o : Nat) : Prop := (∀ q, q ≠ 12 → (q < o ∨ o + 4 < q) → M' q = M q) ∧ (∀ k, k ≠ 2 → k ≠ 3 → k ≠ 4 → k ≠ 6 → M' 12 k = M 12 k) ∧ ∀ k, k ≠ 0 → M' o k = M o k
theorem rcF.rfl (M : a_M) (o : Nat) : rcF M M o := ⟨fun _ _ _ => Eq.refl _, fun _ _ _ _ _ => Eq.refl _, fun _ _ => Eq.refl _⟩
theorem rcF.trans {M M' M'' : a_M} {o : Nat} (h : rcF M M' o) (h2 : rcF M' M'' o) : rcF M M'' o := ⟨fun q a b => by rw [h2.1 q a b, h.1 q a b], fun k a b c e => by rw [h2.2.1 k a b c e, h.2.1 k a b c e], fun k a => by rw [h2.2.2 k a, h.2.2 k a]⟩
theorem rdF.rc {M M' : a_M} {o N e : Nat} (h : rdF M M' o N e) (ho : zsc o) : rcF M M' o := by
  have hne := zsc_ne ho
  exact ⟨fun q a b => h.1 q a (by omega) (by omega), fun k a b _ c => h.2.1 k a b c, fun k _ => by rw [h.1 o hne.2.2.1 (by omega) (by omega)]⟩
def rcO (M M' : a_M) (o : Nat) (tk : Nat → Int32) (r : (Nat × Nat) ⊕ (Nat × zTx)) (s : Int32) : Prop := rcF M M' o ∧ match r with
  | .inr (j, T') => s = 1 ∧ M' 12 6 = M 12 6 ∧ M' 12 2 = nI j ∧ M' 12 3 = tk j ∧ ∃ b', b' ≤ j ∧ rdT M' o T' b'
  | .inl (f, j) => s = 0 ∧ M' 12 6 = nI f ∧ M' 12 2 = nI j
section RD4
variable {X : a_X} {ad : Nat → Nat} {ca : Nat → ClassId} {d x : Nat} {M : a_M} {tk : Nat → Int32} {K b : Nat}
theorem rcO_no {i f : Nat} (ho : zsc x) (h2 : M 12 2 = nI i) : rcO M (ms M 12 6 (nI f)) x tk (.inl (f, i)) 0 := by
  have hne := zsc_ne ho
  exact ⟨⟨fun q a _ => ms_row _ _ _ _ _ a, fun k _ _ _ a => ms_no _ _ _ _ _ _ (fun q => a q.2), fun k _ => by rw [ms_row _ _ _ _ _ hne.2.2.1]⟩, rfl, ms_is _ _ _ _, by rw [ms_no _ _ _ _ _ _ (by omega)]; exact h2⟩
theorem kX5_readClause (hd : 31 ≤ d) {i : Nat} {T : zTx} (ho : zsc x) (hE : pEnd tk K) (hT : rdT M x T b) (hw : wTx T) (h2 : M 12 2 = nI i) (h3 : M 12 3 = tk i) (ht : rTk M tk K) (hi : i ≤ K) (hb : b ≤ i) :
    mX5_readClause X ad ca d x [.ref 12] M (q_i (PT x) (fun s M' => rcO M M' x tk (pCl tk T i) s)) := by
  obtain ⟨d, rfl⟩ := a_d1 (show 1 ≤ d by omega)
  have hLx := (ly_scr (x := x) ho).1
  have hne := zsc_ne ho
  have hK := hE.2.2.1
  refine eX5_readClause (bX5_readClause_0 hLx ?_)
  rw [h3]
  cases hk : pKd (tk i) with
  | none =>
    have e : pCl tk T i = .inl (1, i) := by unfold pCl; rw [hk]
    rw [e]
    have go : wX5_readClause X ad ca d x (q_i (PT x) (fun s M' => rcO M M' x tk (.inl (1, i)) s)) 19 [(0, .ref 12)] M := bX5_readClause_19 ⟨_, kX5_refuse (by omega) _, by
      rintro v M1 ⟨rfl, rfl⟩
      exact ⟨Or.inl rfl, _, rfl, rfl, rcO_no ho h2⟩⟩
    refine ⟨fun _ => go, fun q1 => ⟨fun q2 => ?_, fun _ => go⟩⟩
    exfalso
    obtain ⟨k, hk6, ek⟩ := nI_of2 (n := 6) (nI_toInt (by omega)) q1 q2
    refine pKd_none hk k hk6 ?_
    rw [← nI_add, ← ek]
    show tk i = 257 + (tk i - 257)
    grind
  | some k =>
    obtain ⟨hk6, ek⟩ := pKd_some hk
    have htn : tk i ≠ -1 := fun z => by
      rw [z, show pKd (-1) = none by decide] at hk
      cases hk
    have hlt := hE.lt hi htn
    have e7 : tk i - 257 = nI k := by rw [ek, fa_lit 257, pk_sub (by omega), show 257 + k - 257 = k by omega]
    rw [e7]
    refine ⟨fun q => absurd q (nI_pos (by omega)), fun _ => ⟨fun _ => ⟨_, kX7_hasW (by omega) ho hT.2.2.2 hw.1 hk6, ?_⟩, fun q => absurd (nI_le (b := 6) hk6 (by omega)) q⟩⟩
    rintro v1 M1 ⟨rfl, hv1⟩
    by_cases c1 : k ≤ 2 ∧ (zix T k).isSome = true
    · rw [if_pos c1] at hv1
      refine ⟨fun q => absurd (hv1.symm.trans q) (by decide), fun _ => ⟨_, kX5_refuse (by omega) _, ?_⟩⟩
      rintro v M2 ⟨rfl, rfl⟩
      have e : pCl tk T i = .inl (4, i) := by
        unfold pCl; rw [hk]
        show (if k ≤ 2 ∧ (zix T k).isSome = true then _ else _) = _
        rw [if_pos c1]
      rw [e]
      exact ⟨Or.inl rfl, _, rfl, rfl, rcO_no ho h2⟩
    rw [if_neg c1] at hv1
    refine ⟨fun _ => ?_, fun q => absurd hv1 q⟩
    rw [hT.1]
    by_cases c2 : 30 ≤ T.length
    · refine ⟨fun q => absurd q (nI_nlt (b := 30) c2 (by have := hw.1; omega)), fun _ => ⟨_, kX5_refuse (by omega) _, ?_⟩⟩
      rintro v M2 ⟨rfl, rfl⟩
      have e : pCl tk T i = .inl (6, i) := by
        unfold pCl; rw [hk]
        show (if k ≤ 2 ∧ (zix T k).isSome = true then _ else _) = _
        rw [if_neg c1, if_pos c2]
      rw [e]
      exact ⟨Or.inl rfl, _, rfl, rfl, rcO_no ho h2⟩
    refine ⟨fun _ => ⟨_, kX7_open (by omega) ho hT.1 (by omega) hT.2.1 hk6, ?_⟩, fun q => absurd (nI_lt (b := 30) (by omega) (by omega)) q⟩
    rintro M2 ⟨a0, a0', a1, a1', a2, a2', a3, a4, a4', a5⟩
    have a12 : M2 12 = M1 12 := a5 12 (by unfold zsc at ho; omega)
    have a3r : M2 3 = M1 3 := a5 3 (by unfold zsc at ho; omega)
    refine ⟨_, kX5_advance (by omega) (tk := tk) (K := K) (i := i + 1) (by rw [a12, h2, nI_1]) hlt hK (fun j hj => by rw [a3r]; exact ht j hj), ?_⟩
    rintro M3 rfl
    -- the state behind inTable
    have st : ∀ iT : Bool, rdP (ms (ms (ms M2 12 2 (nI (i + 1))) 12 3 (tk (i + 1))) 12 4 (if iT = true then 1 else 0)) x (T.length + 1) b tk K iT (i + 1) [] := fun iT => by
      have er : ∀ q, q ≠ 12 → ms (ms (ms M2 12 2 (nI (i + 1))) 12 3 (tk (i + 1))) 12 4 (if iT = true then 1 else 0) q = M2 q := fun q hq => by rw [ms_row _ _ _ _ _ hq, ms_row _ _ _ _ _ hq, ms_row _ _ _ _ _ hq]
      refine ⟨⟨?_, ?_, ?_, ?_, ?_⟩, fun j hj => ?_, ms_is _ _ _ _, hlt, ?_⟩
      · rw [ms_no _ _ _ _ _ _ (by omega), ms_no _ _ _ _ _ _ (by omega), ms_is]
      · rw [ms_no _ _ _ _ _ _ (by omega), ms_is]
      · rw [er x hne.2.2.1]; exact a0
      · rw [er _ hne.1]; exact a2
      · intro z w hz; cases hz
      · rw [er 3 (by decide), a3r]; exact ht j hj
      · show b + 0 ≤ i + 1
        omega
    have base : ∀ iT : Bool, rcF M1 (ms (ms (ms M2 12 2 (nI (i + 1))) 12 3 (tk (i + 1))) 12 4 (if iT = true then 1 else 0)) x ∧ ms (ms (ms M2 12 2 (nI (i + 1))) 12 3 (tk (i + 1))) 12 4 (if iT = true then 1 else 0) 12 6 = M1 12 6 := fun iT => by
      have er : ∀ q, q ≠ 12 → ms (ms (ms M2 12 2 (nI (i + 1))) 12 3 (tk (i + 1))) 12 4 (if iT = true then 1 else 0) q = M2 q := fun q hq => by rw [ms_row _ _ _ _ _ hq, ms_row _ _ _ _ _ hq, ms_row _ _ _ _ _ hq]
      refine ⟨⟨fun q h1 h2 => by rw [er q h1, a5 q h2], fun k h1 h2 h3 h4 => ?_, fun k hk => by rw [er x hne.2.2.1, a0' k hk]⟩, ?_⟩
      · rw [ms_no _ _ _ _ _ _ (fun q => h3 q.2), ms_no _ _ _ _ _ _ (fun q => h2 q.2), ms_no _ _ _ _ _ _ (fun q => h1 q.2), a12]
      · rw [ms_no _ _ _ _ _ _ (by omega), ms_no _ _ _ _ _ _ (by omega), ms_no _ _ _ _ _ _ (by omega), a12]
    have epc : pCl tk T i = match pPass tk 59 (pBody tk k (i + 1)) with
        | .inl e => .inl e
        | .inr (j, c) => .inr (j, T ++ [(k, if k = 4 then (c.headD 0).toNatClampNeg else 0, c)]) := by
      unfold pCl; rw [hk]
      show (if k ≤ 2 ∧ (zix T k).isSome = true then _ else _) = _
      rw [if_neg c1, if_neg c2]
      cases pPass tk 59 (pBody tk k (i + 1)) with
      | inl e => rfl
      | inr e => rfl
    -- behind the body
    have h121 : ∀ (iT : Bool) (v : Int32) (M4 : a_M), rdO (ms (ms (ms M2 12 2 (nI (i + 1))) 12 3 (tk (i + 1))) 12 4 (if iT = true then 1 else 0)) M4 x (T.length + 1) b tk [] (pBody tk k (i + 1)) v → wX5_readClause X ad ca d x (q_i (PT x) (fun s M' => rcO M1 M' x tk (pCl tk T i) s)) 121 [(0, .ref 12), (2, .int v)] M4 := by
      intro iT v M4 hr
      rw [epc]
      obtain ⟨b1, b2⟩ := base iT
      have hg := pBody_go (k := k) hE (show i + 1 ≤ K from hlt)
      cases hb2 : pBody tk k (i + 1) with
      | inl e =>
        obtain ⟨f, j⟩ := e
        rw [hb2] at hr
        obtain ⟨r1, rfl, r3, r4, -⟩ := hr
        refine bX5_readClause_121 _ ⟨fun _ => bX5_readClause_138 ⟨_, rfl, rfl, b1.trans (r1.rc ho), rfl, r3, r4⟩, fun q => absurd rfl q⟩
      | inr e =>
        obtain ⟨j, c⟩ := e
        rw [hb2] at hr hg
        obtain ⟨r1, rfl, r3, r4⟩ := hr
        obtain ⟨g1, g2, g3, g4, g5⟩ := hg
        rw [List.nil_append] at r4
        have hP4 : rdP M4 x (T.length + 1) b tk K iT j c := ⟨r4, fun q hq => by rw [r1.1 3 (by decide) (Ne.symm hne.2.2.2.1) (Ne.symm hne.2.2.2.2.1)]; exact (st iT).2.1 q hq, by rw [r1.2.1 4 (by decide) (by decide) (by decide)]; exact (st iT).2.2.1, g2, by omega⟩
        refine bX5_readClause_121 _ ⟨fun q => absurd q (by decide), fun _ => ⟨_, kX5_pass (by omega) ho (by decide) hE hP4, ?_⟩⟩
        rintro v3 M5 (⟨rfl, q3, rfl⟩ | ⟨rfl, q3, rfl⟩)
        · refine ⟨fun z => absurd z (by decide), fun _ => ⟨_, rfl, rfl, ?_⟩⟩
          obtain ⟨n1, n2, n3⟩ := rdP_next ho hP4 hE (by rw [q3]; decide)
          have ep : pPass tk 59 (.inr (j, c)) = .inr (j + 1, c) := by
            show (if tk j = 59 then Sum.inr (j + 1, c) else .inl (1, j)) = _
            rw [if_pos q3]
          rw [ep]
          generalize hM5 : ms (ms M4 12 2 (nI (j + 1))) 12 3 (tk (j + 1)) = M5 at n1 n2 n3
          have e5 : ∀ q, q ≠ 12 → M5 q = M4 q := fun q hq => by rw [← hM5, ms_row _ _ _ _ _ hq, ms_row _ _ _ _ _ hq]
          refine ⟨(b1.trans (r1.rc ho)).trans (n2.rc ho), rfl, by rw [n3, r3, b2], n1.1.1, n1.1.2.1, b + c.length, by omega, ?_⟩
          have er : ∀ q, q ≠ 12 → ms (ms (ms M2 12 2 (nI (i + 1))) 12 3 (tk (i + 1))) 12 4 (if iT = true then 1 else 0) q = M2 q := fun q hq => by rw [ms_row _ _ _ _ _ hq, ms_row _ _ _ _ _ hq, ms_row _ _ _ _ _ hq]
          have f1 : M5 (x + 1) = M2 (x + 1) := by
            have h12 : x + 1 ≠ 12 := by unfold zsc at ho; omega
            rw [e5 _ h12, r1.1 _ h12 (by omega) (by omega), er _ h12]
          have f2 : ∀ z, z ≠ T.length + 1 → M5 (x + 2) z = M1 (x + 2) z := fun z hz => by rw [e5 _ hne.1, r1.2.2.1 z hz, er _ hne.1, a2' z hz]
          have f2' : M5 (x + 2) (T.length + 1) = nI (b + c.length) := by rw [e5 _ hne.1]; exact r4.2.2.2.1
          have f3 : ∀ z, z < b → M5 (x + 3) z = M1 (x + 3) z := fun z hz => by rw [e5 _ hne.2.1, r1.2.2.2 z (by show z < b + 0; omega), er _ hne.2.1, a3]
          have f3' : wds (M5 (x + 3)) b c := by rw [e5 _ hne.2.1]; exact r4.2.2.2.2
          have f4 : M5 (x + 4) = M2 (x + 4) := by
            have h12 : x + 4 ≠ 12 := by unfold zsc at ho; omega
            rw [e5 _ h12, r1.1 _ h12 (by omega) (by omega), er _ h12]
          have f0 : M5 x 0 = nI (T.length + 1) := n1.1.2.2.1
          obtain ⟨t0, t1, ⟨sT, t2⟩, t3⟩ := hT
          have hlen : (T ++ [(k, (if k = 4 then (c.headD 0).toNatClampNeg else 0), c)]).length = T.length + 1 := by rw [List.length_append]; rfl
          refine ⟨by rw [hlen]; exact f0, by rw [hlen]; exact f2', ⟨fun a => if a < T.length then sT a else b, fun a q ha => ?_⟩, fun w hw3 => ?_⟩
          · by_cases c9 : a < T.length
            · rw [List.getElem?_append_left c9] at ha
              obtain ⟨u1, u2, u3, u4, u5⟩ := t2 a q ha
              dsimp only
              rw [if_pos c9]
              refine ⟨by rw [f1, a1' a (by omega)]; exact u1, by rw [f2 a (by omega)]; exact u2, by rw [f2 (a + 1) (by omega)]; exact u3, by omega, wds_lt u5 (fun z hz => f3 z (by omega))⟩
            · rw [List.getElem?_append_right (by omega)] at ha
              have h0 : a - T.length < 1 := (List.getElem?_eq_some_iff.mp ha).1
              have ea : a = T.length := by omega
              subst ea
              rw [Nat.sub_self] at ha
              cases ha
              dsimp only
              rw [if_neg c9]
              exact ⟨by rw [f1]; exact a1, by rw [f2 _ (by omega)]; exact t1, f2', Nat.le_refl _, f3'⟩
          · rw [f4, zix_app]
            by_cases c8 : k = w
            · subst c8
              have hn : zix T k = none := by
                cases hz : zix T k with
                | none => rfl
                | some z => exact absurd ⟨by omega, by rw [hz]; rfl⟩ c1
              rw [hn]
              show M2 (x + 4) k = match (if k = k then some T.length else none) with | some i => nI i | none => -1
              rw [if_pos rfl]
              exact a4 hw3
            · rw [a4' w (fun _ z => c8 z.symm), t3 w hw3]
              cases hz : zix T w with
              | none =>
                show _ = match (if k = w then some T.length else none) with | some i => nI i | none => -1
                rw [if_neg c8]
              | some z => rfl
        · have ep : pPass tk 59 (.inr (j, c)) = .inl (1, j) := by
            show (if tk j = 59 then Sum.inr (j + 1, c) else .inl (1, j)) = _
            rw [if_neg q3]
          rw [ep]
          refine ⟨fun _ => bX5_readClause_138 ⟨_, rfl, rfl, ?_⟩, fun z => absurd rfl z⟩
          have h9 := rcO_no (f := 1) (tk := tk) ho hP4.1.1
          exact ⟨(b1.trans (r1.rc ho)).trans h9.1, h9.2⟩
    have eT : ∀ (iT : Bool), (k == 6) = iT → pBody tk k (i + 1) = if k = 4 then pNum tk 6 (i + 1) else if k = 3 ∨ k = 5 then .inr (i + 1, []) else pSum tk (pOne tk iT 8) (i + 1) := fun iT hi => by unfold pBody; rw [hi]
    have nk : ∀ z, z ≤ 6 → (nI k = nI z ↔ k = z) := fun z hz => nI_eq (by omega) (by omega)
    have plain : (k = 3 ∨ k = 5) → wX5_readClause X ad ca d x (q_i (PT x) (fun s M' => rcO M1 M' x tk (pCl tk T i) s)) 121 [(0, .ref 12), (2, .int 1)] (ms (ms (ms M2 12 2 (nI (i + 1))) 12 3 (tk (i + 1))) 12 4 (if false = true then 1 else 0)) := fun q => h121 false 1 _ (by
      rw [eT false (by rcases q with rfl | rfl <;> rfl), if_neg (show ¬ k = 4 by omega), if_pos q]
      exact ⟨rdF.rfl _ _ _ _, rfl, rfl, (st false).1⟩)
    have sum : ∀ iT : Bool, (k == 6) = iT → k ≠ 3 → k ≠ 4 → k ≠ 5 → ∃ Q4 : Int32 → a_M → Prop, mX5_readSum X ad ca d x [.ref 12, .int 0] (ms (ms (ms M2 12 2 (nI (i + 1))) 12 3 (tk (i + 1))) 12 4 (if iT = true then 1 else 0)) (q_i (PT x) Q4) ∧ ∀ v4 M4, Q4 v4 M4 → wX5_readClause X ad ca d x (q_i (PT x) (fun s M' => rcO M1 M' x tk (pCl tk T i) s)) 121 [(0, .ref 12), (2, .int v4)] M4 := by
      intro iT h6 h3 h4 h5
      refine ⟨_, kX5_expr (by omega) ho (by omega) hE (st iT), ?_⟩
      intro v4 M4 h
      refine h121 iT v4 M4 ?_
      rw [eT iT h6, if_neg h4, if_neg (show ¬ (k = 3 ∨ k = 5) by omega)]
      exact h
    refine ⟨fun q6 => ⟨fun q4 => ⟨fun q3 => plain (Or.inl ((nk 3 (by omega)).mp q3)), fun q3 => ⟨fun q5 => plain (Or.inr ((nk 5 (by omega)).mp q5)), fun q5 => ?_⟩⟩, fun q4 => ?_⟩, fun q6 => ?_⟩
    · have h6 : (k == 6) = false := by
        rw [beq_eq_false_iff_ne]
        exact fun z => q6 ((nk 6 (by omega)).mpr z)
      exact sum false h6 (fun z => q3 ((nk 3 (by omega)).mpr z)) (fun z => q4 ((nk 4 (by omega)).mpr z)) (fun z => q5 ((nk 5 (by omega)).mpr z))
    · have hk4 : k = 4 := (nk 4 (by omega)).mp q4
      refine ⟨_, kX5_readNumber (most := 6) (by omega) ho (by omega) hE (st false), ?_⟩
      intro v4 M4 h
      refine h121 false v4 M4 ?_
      rw [eT false (by rw [hk4]; rfl), if_pos hk4]
      exact h
    · have hk6' : k = 6 := (nk 6 (by omega)).mp q6
      subst hk6'
      exact ⟨fun _ => ⟨fun q => absurd q (by decide), fun _ => ⟨fun q => absurd q (by decide), fun _ => sum true rfl (by omega) (by omega) (by omega)⟩⟩, fun q => absurd q (by decide)⟩
end RD4
