/-! PARSER 3: the class's Reader: ones, clauses -/
theorem rdO.pre {M M2 M3 : a_M} {o N b : Nat} {tk : Nat → Int32} {c : List Int32} {r : pR} {s : Int32} (h : rdF M M2 o N (b + c.length)) (h6 : M2 12 6 = M 12 6) (h2 : rdO M2 M3 o N b tk c r s) : rdO M M3 o N b tk c r s := by
  refine ⟨h.trans h2.1 (Nat.le_refl _), ?_⟩
  cases r with
  | inl e => exact h2.2
  | inr e => exact ⟨h2.2.1, by rw [h2.2.2.1, h6], h2.2.2.2⟩
section RD2
variable {X : a_X} {ad : Nat → Nat} {ca : Nat → ClassId} {d x : Nat} {M : a_M} {tk : Nat → Int32} {K N b : Nat} {inT : Bool}
theorem wX5_readOne_at (hd : 2 ≤ d) {i : Nat} {c : List Int32} {u : Int32} {r : pR} (ho : zsc x) (hN : N ≤ 30) (hE : pEnd tk K) (hP : rdP M x N b tk K inT i c)
    (h41 : (tk i = 40 ∨ tk i = 45) → pAt tk inT i r = r → wX5_readOne X ad ca d x (q_i (PT x) (fun s M' => rdO M M' x N b tk c (pAt tk inT i r) s)) 41 [(0, .ref 12), (1, .int u)] M) :
    wX5_readOne X ad ca d x (q_i (PT x) (fun s M' => rdO M M' x N b tk c (pAt tk inT i r) s)) 0 [(0, .ref 12), (1, .int u)] M := by
  refine bX5_readOne_0 _ ?_
  rw [hP.1.2.1]
  have c01 : ∀ {M1 : a_M} {r : pR} {s : Int32}, rdO M M1 x N b tk c r s → s = 0 ∨ s = 1 := fun {M1 r s} h => by
    cases r with
    | inl e => exact Or.inl h.2.1
    | inr e => exact Or.inr h.2.1
  refine ⟨fun q => ?_, fun q => ⟨_, kX5_readNumber (most := 9999) (by omega) ho hN hE hP, ?_⟩⟩
  · have q0 : ¬ 300 ≤ tk i := (fa_of_lt q).2.1
    refine ⟨fun q2 => h41 (Or.inl q2) ?_, fun q2 => ⟨fun q3 => h41 (Or.inr q3) ?_, fun q3 => ⟨_, kX5_readName (by omega) ho hN hE hP, ?_⟩⟩⟩
    · unfold pAt; rw [if_neg q0, if_pos (Or.inl q2)]
    · unfold pAt; rw [if_neg q0, if_pos (Or.inr q3)]
    · intro v M1 h
      have e : pAt tk inT i r = pName tk inT i := by unfold pAt; rw [if_neg q0, if_neg (fun z => z.elim q2 q3)]
      rw [e]
      exact ⟨c01 h, _, rfl, rfl, h⟩
  · intro v M1 h
    have e : pAt tk inT i r = pNum tk 9999 i := by unfold pAt; rw [if_pos (fa_of_nlt q)]
    rw [e]
    exact ⟨c01 h, _, rfl, rfl, h⟩
theorem kX5_readOne (ho : zsc x) (hN : N ≤ 30) (hE : pEnd tk K) : ∀ k, k ≤ 8 → ∀ (d : Nat), 3 + 3 * k ≤ d → ∀ (M : a_M) (i : Nat) (c : List Int32), rdP M x N b tk K inT i c → mX5_readOne X ad ca d x [.ref 12, .int (nI (8 - k))] M (q_i (PT x) (fun s M' => rdO M M' x N b tk c (pOne tk inT k i) s)) := by
  intro k
  have hLx := (ly_scr (x := x) ho).1
  have hne := zsc_ne ho
  have hK := hE.2.2.1
  induction k with
  | zero =>
    intro _ d hd M i c hP
    obtain ⟨d, rfl⟩ := a_d1 (show 1 ≤ d by omega)
    refine eX5_readOne _ ?_
    show wX5_readOne X ad ca d x (q_i (PT x) (fun s M' => rdO M M' x N b tk c (pAt tk inT i (.inl (3, i))) s)) 0 _ M
    refine wX5_readOne_at (by omega) ho hN hE hP (fun _ e => ?_)
    rw [e]
    refine bX5_readOne_41 _ hLx ⟨fun q => absurd q (by decide), fun _ => ⟨_, kX5_refuse (by omega) _, ?_⟩⟩
    rintro v M1 ⟨rfl, rfl⟩
    exact ⟨Or.inl rfl, _, rfl, rfl, rdO_no ho hP.1 (by have := hP.2.2.2.1; omega) hP.2.2.2.2⟩
  | succ k ih =>
    intro hk d hd M i c hP
    obtain ⟨d, rfl⟩ := a_d1 (show 1 ≤ d by omega)
    have ih' := ih (by omega)
    refine eX5_readOne _ ?_
    show wX5_readOne X ad ca d x (q_i (PT x) (fun s M' => rdO M M' x N b tk c (pAt tk inT i (if tk i = 40 then pPass tk 41 (pSum tk (pOne tk inT k) (i + 1)) else pNeg (pOne tk inT k (i + 1)))) s)) 0 _ M
    refine wX5_readOne_at (by omega) ho hN hE hP (fun q40 e => ?_)
    rw [e]
    have ht : tk i ≠ -1 := fun z => by rw [z] at q40; exact absurd q40 (by decide)
    have hlt := hE.lt hP.2.2.2.1 ht
    obtain ⟨a1, a2, a3⟩ := rdP_next ho hP hE ht
    have hG := pOne_go (inT := inT) hE k
    refine bX5_readOne_41 _ hLx ⟨fun _ => ?_, fun q => absurd (nI_lt (b := 8) (show 8 - (k + 1) < 8 by omega) (by omega)) q⟩
    rw [hP.1.2.1, nI_1, show 8 - (k + 1) + 1 = 8 - k by omega]
    refine ⟨fun q => ⟨_, rdP_adv (by omega) hP hE ht, ?_⟩, fun q => ⟨_, rdP_adv (by omega) hP hE ht, ?_⟩⟩
    · rintro M1 rfl
      rw [if_neg q]
      refine ⟨_, ih' d (by omega) _ (i + 1) c a1, ?_⟩
      intro v2 M2 h2
      have hg := hG (i + 1) hlt
      cases hr : pOne tk inT k (i + 1) with
      | inl e =>
        obtain ⟨f2, j2⟩ := e
        rw [hr] at h2
        obtain ⟨m1, rfl, m3, m4, e9, m5, m6, m7⟩ := h2
        have hN3 : M2 x 0 = nI N := by rw [m1.1 x hne.2.2.1 hne.2.2.2.2.2.2.2.2.1 hne.2.2.2.2.2.2.2.2.2.1]; exact a1.1.2.2.1
        refine ⟨_, kX7_add (by omega) ho hN hN3 m7 m6 _, ?_⟩
        intro M4 hM4
        refine ⟨Or.inl rfl, _, rfl, rfl, ?_⟩
        refine rdO.pre a2 a3 ?_
        show rdO _ M4 x N b tk c (.inl (f2, j2)) 0
        by_cases c9 : e9 < 300
        · rw [if_pos c9] at hM4
          have er : ∀ z, z ≠ x + 2 → z ≠ x + 3 → M4 z = M2 z := fun z h1 h2 => by rw [hM4, ms_row _ _ _ _ _ h1, ms_row _ _ _ _ _ h2]
          refine ⟨⟨fun z b1 b2 b3 => by rw [er z b2 b3]; exact m1.1 z b1 b2 b3, fun k b1 b2 b3 => by rw [er 12 (Ne.symm hne.1) (Ne.symm hne.2.1)]; exact m1.2.1 k b1 b2 b3, fun k hk => ?_, fun k hk => ?_⟩, rfl, by rw [er 12 (Ne.symm hne.1) (Ne.symm hne.2.1)]; exact m3, by rw [er 12 (Ne.symm hne.1) (Ne.symm hne.2.1)]; exact m4, e9 + 1, by omega, by omega, by rw [hM4, ms_is]⟩
          · rw [hM4, ms_no _ _ _ _ _ _ (fun z => hk z.2), ms_row _ _ _ _ _ (Ne.symm hne.2.2.2.2.2.2.2.1)]; exact m1.2.2.1 k hk
          · rw [hM4, ms_row _ _ _ _ _ hne.2.2.2.2.2.2.2.1, ms_no _ _ _ _ _ _ (fun z => by omega)]; exact m1.2.2.2 k hk
        · rw [if_neg c9] at hM4
          subst hM4
          exact ⟨m1, rfl, m3, m4, e9, by omega, m6, m7⟩
      | inr e =>
        obtain ⟨j2, c2⟩ := e
        rw [hr] at h2 hg
        obtain ⟨m1, rfl, m3, m4⟩ := h2
        obtain ⟨g4, g5, g6, -⟩ := hg
        have el2 : (c ++ c2).length = c.length + c2.length := List.length_append
        have hb := hP.2.2.2.2
        refine ⟨_, kX7_add (by omega) ho hN m4.2.2.1 m4.2.2.2.1 (by omega) _, ?_⟩
        intro M4 hM4
        obtain ⟨n1, n2, n3⟩ := rdS_add ho m4 rfl (by omega) hM4
        rw [List.append_assoc] at n1
        exact ⟨Or.inr rfl, _, rfl, rfl, (a2.trans m1 (Nat.le_refl _)).trans n3 (by rw [el2]; omega), rfl, by rw [n2, m3, a3], n1⟩
    · rintro M1 rfl
      rw [if_pos q]
      refine ⟨_, kX5_readSum (b := b) (inT := inT) (by omega) ho hN hE (pProd_go hE hG) (fun M i c hP => kX5_readProduct (by omega) ho hN hE hG (fun M i c hP => ih' _ (by omega) M i c hP) hP) a1, ?_⟩
      intro v2 M2 h2
      have hg := pSum_go hE hG (i + 1) hlt
      cases hr : pSum tk (pOne tk inT k) (i + 1) with
      | inl e =>
        have hr' : pCh tk 43 45 (-5) (-6) (pProd tk (pOne tk inT k)) (i + 1) = .inl e := hr
        change rdO _ M2 x N b tk c (pCh tk 43 45 (-5) (-6) (pProd tk (pOne tk inT k)) (i + 1)) v2 at h2
        rw [hr'] at h2
        refine ⟨fun _ => bX5_readOne_99 ⟨_, rfl, rfl, ?_⟩, fun q => absurd h2.2.1 q⟩
        have h3 := rdO.pre a2 a3 h2
        rw [h2.2.1] at h3
        exact h3
      | inr e =>
        obtain ⟨j2, c2⟩ := e
        have hr' : pCh tk 43 45 (-5) (-6) (pProd tk (pOne tk inT k)) (i + 1) = .inr (j2, c2) := hr
        change rdO _ M2 x N b tk c (pCh tk 43 45 (-5) (-6) (pProd tk (pOne tk inT k)) (i + 1)) v2 at h2
        rw [hr'] at h2
        rw [hr] at hg
        obtain ⟨m1, rfl, m3, m4⟩ := h2
        obtain ⟨g4, g5, g6, -⟩ := hg
        have el2 : (c ++ c2).length = c.length + c2.length := List.length_append
        have hb := hP.2.2.2.2
        have hP2 : rdP M2 x N b tk K inT j2 (c ++ c2) := ⟨m4, fun q hq => by rw [m1.1 3 (by decide) (Ne.symm hne.2.2.2.1) (Ne.symm hne.2.2.2.2.1)]; exact a1.2.1 q hq, by rw [m1.2.1 4 (by decide) (by decide) (by decide)]; exact a1.2.2.1, g5, by omega⟩
        refine ⟨fun q => absurd q (by decide), fun _ => ⟨_, kX5_pass (by omega) ho (by decide) hE hP2, ?_⟩⟩
        rintro v3 M3 (⟨rfl, q3, rfl⟩ | ⟨rfl, q3, rfl⟩)
        · refine ⟨fun z => absurd z (by decide), fun _ => ⟨_, rfl, rfl, ?_⟩⟩
          obtain ⟨n1, n2, n3⟩ := rdP_next ho hP2 hE (by rw [q3]; decide)
          show rdO M _ x N b tk c (if tk j2 = 41 then .inr (j2 + 1, c2) else .inl (1, j2)) 1
          rw [if_pos q3]
          exact ⟨(a2.trans m1 (Nat.le_refl _)).trans n2 (by rw [el2]; omega), rfl, by rw [n3, m3, a3], n1.1⟩
        · refine ⟨fun _ => bX5_readOne_99 ⟨_, rfl, rfl, ?_⟩, fun z => absurd rfl z⟩
          show rdO M _ x N b tk c (if tk j2 = 41 then .inr (j2 + 1, c2) else .inl (1, j2)) 0
          rw [if_neg q3]
          have h9 := rdO_no (f := 1) ho hP2.1 (by omega) hP2.2.2.2.2
          obtain ⟨k1, k2, k3, k4, e9, k5, k6, k7⟩ := h9
          exact ⟨(a2.trans m1 (Nat.le_refl _)).trans k1 (by rw [el2]; omega), rfl, k3, k4, e9, by omega, k6, k7⟩
/-- an expression from the top -/
theorem kX5_expr (hd : 29 ≤ d) (ho : zsc x) (hN : N ≤ 30) (hE : pEnd tk K) {i : Nat} {c : List Int32} (hP : rdP M x N b tk K inT i c) : mX5_readSum X ad ca d x [.ref 12, .int 0] M (q_i (PT x) (fun s M' => rdO M M' x N b tk c (pSum tk (pOne tk inT 8) i) s)) :=
  kX5_readSum (by omega) ho hN hE (pProd_go hE (pOne_go hE 8)) (fun M i c hP => kX5_readProduct (by omega) ho hN hE (pOne_go hE 8) (fun M i c hP => kX5_readOne ho hN hE 8 (by omega) _ (by omega) M i c hP) hP) hP
end RD2
