/-! PARSER 2: the class's Reader over its tokens -/
def rTk (M : a_M) (tk : Nat → Int32) (K : Nat) : Prop := ∀ j, j ≤ K → M 3 j = tk j
def rdS (M : a_M) (o N b : Nat) (tk : Nat → Int32) (i : Nat) (c : List Int32) : Prop := M 12 2 = nI i ∧ M 12 3 = tk i ∧ M o 0 = nI N ∧ M (o + 2) N = nI (b + c.length) ∧ wds (M (o + 3)) b c
def rdF (M M' : a_M) (o N e : Nat) : Prop := (∀ q, q ≠ 12 → q ≠ o + 2 → q ≠ o + 3 → M' q = M q) ∧ (∀ k, k ≠ 2 → k ≠ 3 → k ≠ 6 → M' 12 k = M 12 k) ∧ (∀ k, k ≠ N → M' (o + 2) k = M (o + 2) k) ∧ ∀ k, k < e → M' (o + 3) k = M (o + 3) k
theorem rdF.rfl (M : a_M) (o N e : Nat) : rdF M M o N e := ⟨fun _ _ _ _ => Eq.refl _, fun _ _ _ _ => Eq.refl _, fun _ _ => Eq.refl _, fun _ _ => Eq.refl _⟩
theorem rdF.trans {M M' M'' : a_M} {o N e e' : Nat} (h : rdF M M' o N e) (h2 : rdF M' M'' o N e') (he : e ≤ e') : rdF M M'' o N e := ⟨fun q a b c => by rw [h2.1 q a b c, h.1 q a b c], fun k a b c => by rw [h2.2.1 k a b c, h.2.1 k a b c], fun k a => by rw [h2.2.2.1 k a, h.2.2.1 k a], fun k a => by rw [h2.2.2.2 k (by omega), h.2.2.2 k a]⟩
def rdO (M M' : a_M) (o N b : Nat) (tk : Nat → Int32) (c : List Int32) (r : pR) (s : Int32) : Prop := rdF M M' o N (b + c.length) ∧ match r with
  | .inr (j, c') => s = 1 ∧ M' 12 6 = M 12 6 ∧ rdS M' o N b tk j (c ++ c')
  | .inl (f, j) => s = 0 ∧ M' 12 6 = nI f ∧ M' 12 2 = nI j ∧ ∃ e, b + c.length ≤ e ∧ e ≤ 300 ∧ M' (o + 2) N = nI e
def rdP (M : a_M) (o N b : Nat) (tk : Nat → Int32) (K : Nat) (inT : Bool) (i : Nat) (c : List Int32) : Prop := rdS M o N b tk i c ∧ rTk M tk K ∧ M 12 4 = (if inT = true then 1 else 0) ∧ i ≤ K ∧ b + c.length ≤ i
theorem wds_app {f : Nat → Int32} {b : Nat} {c : List Int32} {w : Int32} (h : wds f b c) (hw : f (b + c.length) = w) : wds f b (c ++ [w]) := by
  intro i v hv
  by_cases q : i < c.length
  · rw [List.getElem?_append_left q] at hv
    exact h i v hv
  · rw [List.getElem?_append_right (by omega)] at hv
    have h0 : i - c.length < 1 := (List.getElem?_eq_some_iff.mp hv).1
    have e : i = c.length := by omega
    subst e
    rw [Nat.sub_self] at hv
    cases hv
    exact hw
theorem wds_lt {f g : Nat → Int32} {b : Nat} {c : List Int32} (h : wds f b c) (hg : ∀ k, k < b + c.length → g k = f k) : wds g b c := fun i v hv => by
  have hl : i < c.length := (List.getElem?_eq_some_iff.mp hv).1
  rw [hg (b + i) (by omega)]
  exact h i v hv
theorem zsc_ne {o : Nat} (h : zsc o) : o + 2 ≠ 12 ∧ o + 3 ≠ 12 ∧ o ≠ 12 ∧ o + 2 ≠ 3 ∧ o + 3 ≠ 3 ∧ o + 2 ≠ 4 ∧ o + 3 ≠ 4 ∧ o + 3 ≠ o + 2 ∧ o ≠ o + 2 ∧ o ≠ o + 3 ∧ o ≠ 3 ∧ o ≠ 4 := by
  unfold zsc at h
  omega
section RD
variable {X : a_X} {ad : Nat → Nat} {ca : Nat → ClassId} {d x : Nat} {M : a_M} {tk : Nat → Int32} {K N b : Nat} {inT : Bool}
theorem kX5_advance (hd : 1 ≤ d) {i : Nat} (hM : M 12 2 + 1 = nI i) (hi : i ≤ K) (hK : K ≤ 300) (ht : rTk M tk K) : mX5_advance X ad ca d x [.ref 12] M (q_v (PT x) (fun M' => M' = ms (ms M 12 2 (nI i)) 12 3 (tk i))) := by
  obtain ⟨d, rfl⟩ := a_d1 hd
  refine eX5_advance (bX5_advance_0 ?_)
  rw [hM]
  refine ⟨fun q => absurd q (nI_ge (b := 301) (by omega) (by omega)), fun _ => ⟨n_in (by omega) (by omega), rfl, rfl, ?_⟩⟩
  rw [n_cl (by omega), ht i hi]
theorem kX5_refuse (hd : 1 ≤ d) (u : Int32) : mX5_refuse X ad ca d x [.ref 12, .int u] M (q_i (PT x) (fun s M' => s = 0 ∧ M' = ms M 12 6 u)) := by
  obtain ⟨d, rfl⟩ := a_d1 hd
  exact eX5_refuse _ (bX5_refuse_0 _ ⟨_, rfl, rfl, rfl, rfl⟩)
theorem kX7_add (hd : 1 ≤ d) {o e : Nat} (ho : zsc o) (hN : N ≤ 30) (h0 : M o 0 = nI N) (he : M (o + 2) N = nI e) (he3 : e ≤ 300) (w : Int32) : mX7_add X ad ca d x [.ref o, .int w] M (q_v (PT x) (fun M' => M' = if e < 300 then ms (ms M (o + 3) e w) (o + 2) N (nI (e + 1)) else M)) := by
  obtain ⟨d, rfl⟩ := a_d1 hd
  obtain ⟨l1, l2, l3, l4, l5, l6, p1, p2, p3, p4, p5⟩ := ly_scr (x := x) ho
  have hne := zsc_ne ho
  refine eX7_add _ _ (bX7_add_0 _ _ _ _ _ _ l1 l3 p2 l4 p3 ?_)
  rw [h0, n_cl (by omega), he, n_cl (by omega), ms_row _ _ _ _ _ hne.2.2.2.2.2.2.2.2.2.1, h0, n_cl (by omega)]
  refine ⟨n_in (by omega) (by omega), fun q => ⟨rfl, rfl, ?_⟩, fun q => ?_⟩
  · rw [if_neg]
    intro z
    exact nI_ge z (by omega) q
  · have hlt : e < 300 := Nat.not_le.mp fun z => q (nI_le z (by omega))
    refine ⟨n_in hlt (by omega), n_in (by omega) (by omega), rfl, rfl, ?_⟩
    rw [if_pos hlt, nI_1]
/-- a word is added behind what was read -/
theorem rdS_add {o i e : Nat} {c : List Int32} {w : Int32} {M' : a_M} (ho : zsc o) (h : rdS M o N b tk i c) (he : e = b + c.length) (hl : e < 300) (hM : M' = if e < 300 then ms (ms M (o + 3) e w) (o + 2) N (nI (e + 1)) else M) : rdS M' o N b tk i (c ++ [w]) ∧ M' 12 = M 12 ∧ rdF M M' o N (b + c.length) := by
  have hne := zsc_ne ho
  rw [if_pos hl] at hM
  have e12 : M' 12 = M 12 := by rw [hM, ms_row _ _ _ _ _ (Ne.symm hne.1), ms_row _ _ _ _ _ (Ne.symm hne.2.1)]
  refine ⟨⟨by rw [e12]; exact h.1, by rw [e12]; exact h.2.1, ?_, ?_, ?_⟩, e12, ⟨fun q a1 a2 a3 => ?_, fun k _ _ _ => by rw [e12], fun k hk => ?_, fun k hk => ?_⟩⟩
  · rw [hM, ms_row _ _ _ _ _ hne.2.2.2.2.2.2.2.2.1, ms_row _ _ _ _ _ hne.2.2.2.2.2.2.2.2.2.1]; exact h.2.2.1
  · rw [hM, ms_is, he]
    simp [Nat.add_assoc]
  · have hr : M' (o + 3) = ms M (o + 3) e w (o + 3) := by rw [hM, ms_row _ _ _ _ _ hne.2.2.2.2.2.2.2.1]
    rw [hr]
    refine wds_app (wds_lt h.2.2.2.2 (fun k hk => ?_)) ?_
    · rw [ms_no _ _ _ _ _ _ (fun q => by omega)]
    · rw [← he, ms_is]
  · rw [hM, ms_row _ _ _ _ _ a2, ms_row _ _ _ _ _ a3]
  · rw [hM, ms_no _ _ _ _ _ _ (fun q => hk q.2), ms_row _ _ _ _ _ (Ne.symm hne.2.2.2.2.2.2.2.1)]
  · rw [hM, ms_row _ _ _ _ _ hne.2.2.2.2.2.2.2.1, ms_no _ _ _ _ _ _ (fun q => by omega)]
/-- one token on -/
theorem rdS_adv {o i : Nat} {c : List Int32} (ho : zsc o) (h : rdS M o N b tk i c) : rdS (ms (ms M 12 2 (nI (i + 1))) 12 3 (tk (i + 1))) o N b tk (i + 1) c ∧ rdF M (ms (ms M 12 2 (nI (i + 1))) 12 3 (tk (i + 1))) o N (b + c.length) ∧ ms (ms M 12 2 (nI (i + 1))) 12 3 (tk (i + 1)) 12 6 = M 12 6 ∧ ms (ms M 12 2 (nI (i + 1))) 12 3 (tk (i + 1)) 12 4 = M 12 4 := by
  have hne := zsc_ne ho
  have er : ∀ q, q ≠ 12 → ms (ms M 12 2 (nI (i + 1))) 12 3 (tk (i + 1)) q = M q := fun q hq => by rw [ms_row _ _ _ _ _ hq, ms_row _ _ _ _ _ hq]
  refine ⟨⟨?_, ?_, ?_, ?_, ?_⟩, ⟨fun q a1 _ _ => er q a1, fun k a1 a2 _ => ?_, fun k _ => by rw [er _ hne.1], fun k _ => by rw [er _ hne.2.1]⟩, ?_, ?_⟩
  · rw [ms_no _ _ _ _ _ _ (by omega), ms_is]
  · rw [ms_is]
  · rw [er _ hne.2.2.1]; exact h.2.2.1
  · rw [er _ hne.1]; exact h.2.2.2.1
  · rw [er _ hne.2.1]; exact h.2.2.2.2
  · rw [ms_no _ _ _ _ _ _ (fun q => a2 q.2), ms_no _ _ _ _ _ _ (fun q => a1 q.2)]
  · rw [ms_no _ _ _ _ _ _ (by omega), ms_no _ _ _ _ _ _ (by omega)]
  · rw [ms_no _ _ _ _ _ _ (by omega), ms_no _ _ _ _ _ _ (by omega)]
/-- a refusal -/
theorem rdO_no {i f : Nat} {c : List Int32} (ho : zsc x) (h : rdS M x N b tk i c) (hi : i ≤ 300) (hb : b + c.length ≤ i) : rdO M (ms M 12 6 (nI f)) x N b tk c (.inl (f, i)) 0 := by
  have hne := zsc_ne ho
  have er : ∀ q, q ≠ 12 → ms M 12 6 (nI f) q = M q := fun q hq => ms_row _ _ _ _ _ hq
  refine ⟨⟨fun q a1 _ _ => er q a1, fun k a1 a2 a3 => ms_no _ _ _ _ _ _ (fun q => a3 q.2), fun k _ => by rw [er _ hne.1], fun k _ => by rw [er _ hne.2.1]⟩, rfl, ms_is _ _ _ _, ?_, b + c.length, Nat.le_refl _, by omega, ?_⟩
  · rw [ms_no _ _ _ _ _ _ (by omega)]; exact h.1
  · rw [er _ hne.1]; exact h.2.2.2.1
theorem rdP_next {i : Nat} {c : List Int32} (ho : zsc x) (h : rdP M x N b tk K inT i c) (hE : pEnd tk K) (ht : tk i ≠ -1) : rdP (ms (ms M 12 2 (nI (i + 1))) 12 3 (tk (i + 1))) x N b tk K inT (i + 1) c ∧ rdF M (ms (ms M 12 2 (nI (i + 1))) 12 3 (tk (i + 1))) x N (b + c.length) ∧ ms (ms M 12 2 (nI (i + 1))) 12 3 (tk (i + 1)) 12 6 = M 12 6 := by
  obtain ⟨h1, h2, h3, h4, h5⟩ := h
  have hlt := hE.lt h4 ht
  obtain ⟨a1, a2, a3, a4⟩ := rdS_adv ho h1
  exact ⟨⟨a1, fun j hj => by rw [ms_row _ _ _ _ _ (by decide), ms_row _ _ _ _ _ (by decide)]; exact h2 j hj, by rw [a4]; exact h3, by omega, by omega⟩, a2, a3⟩
theorem rdP_adv (hd : 1 ≤ d) {i : Nat} {c : List Int32} (h : rdP M x N b tk K inT i c) (hE : pEnd tk K) (ht : tk i ≠ -1) : mX5_advance X ad ca d x [.ref 12] M (q_v (PT x) (fun M' => M' = ms (ms M 12 2 (nI (i + 1))) 12 3 (tk (i + 1)))) :=
  kX5_advance hd (by rw [h.1.1, nI_1]) (hE.lt h.2.2.2.1 ht) hE.2.2.1 h.2.1
theorem kX5_readNumber (hd : 2 ≤ d) {i most : Nat} {c : List Int32} (ho : zsc x) (hN : N ≤ 30) (hE : pEnd tk K) (hP : rdP M x N b tk K inT i c) : mX5_readNumber X ad ca d x [.ref 12, .int (nI most)] M (q_i (PT x) (fun s M' => rdO M M' x N b tk c (pNum tk most i) s)) := by
  obtain ⟨d, rfl⟩ := a_d1 (show 1 ≤ d by omega)
  obtain ⟨h1, h2, h3, h4, h5⟩ := id hP
  have hK := hE.2.2.1
  refine eX5_readNumber _ (bX5_readNumber_0 _ (ly_scr (x := x) ho).1 ?_)
  rw [h1.2.1]
  unfold pNum
  refine ⟨fun q => ?_, fun q => ⟨_, kX5_refuse (by omega) _, ?_⟩⟩
  · have hlt := hE.lt h4 (fun z => by rw [z] at q; exact absurd q (by decide))
    rw [if_pos q]
    refine ⟨fun q2 => ?_, fun q2 => ⟨_, kX5_refuse (by omega) _, ?_⟩⟩
    · rw [if_pos q2]
      refine ⟨_, kX7_add (by omega) ho hN h1.2.2.1 h1.2.2.2.1 (by omega) _, ?_⟩
      intro M1 hM1
      obtain ⟨a1, a2, a3⟩ := rdS_add ho h1 rfl (by omega) hM1
      have hne := zsc_ne ho
      refine ⟨_, kX5_advance (by omega) (tk := tk) (K := K) (i := i + 1) (by rw [a1.1, nI_1]) hlt hK (fun j hj => by rw [a3.1 3 (by decide) (Ne.symm hne.2.2.2.1) (Ne.symm hne.2.2.2.2.1)]; exact h2 j hj), ?_⟩
      rintro M2 rfl
      obtain ⟨b1, b2, b3, -⟩ := rdS_adv ho a1
      refine ⟨_, rfl, rfl, a3.trans b2 (by simp), rfl, ?_, b1⟩
      rw [b3, a2]
    · rintro v M1 ⟨rfl, rfl⟩
      rw [if_neg q2]
      exact ⟨Or.inl rfl, _, rfl, rfl, rdO_no ho h1 (by omega) h5⟩
  · rintro v M1 ⟨rfl, rfl⟩
    rw [if_neg q]
    exact ⟨Or.inl rfl, _, rfl, rfl, rdO_no ho h1 (by omega) h5⟩
theorem kX5_readName (hd : 2 ≤ d) {i : Nat} {c : List Int32} (ho : zsc x) (hN : N ≤ 30) (hE : pEnd tk K) (hP : rdP M x N b tk K inT i c) : mX5_readName X ad ca d x [.ref 12] M (q_i (PT x) (fun s M' => rdO M M' x N b tk c (pName tk inT i) s)) := by
  obtain ⟨d, rfl⟩ := a_d1 (show 1 ≤ d by omega)
  obtain ⟨h1, h2, h3, h4, h5⟩ := id hP
  have hK := hE.2.2.1
  have hne := zsc_ne ho
  have yes : ∀ w : Int32, (tk i ≠ -1) → pName tk inT i = .inr (i + 1, [w]) → ∃ Q1 : a_M → Prop, mX7_add X ad ca d x [.ref x, .int w] M (q_v (PT x) Q1) ∧ ∀ M1, Q1 M1 → ∃ Q2 : a_M → Prop, mX5_advance X ad ca d x [.ref 12] M1 (q_v (PT x) Q2) ∧ ∀ M2, Q2 M2 → q_i (PT x) (fun s M' => rdO M M' x N b tk c (pName tk inT i) s) (some (.int 1)) M2 (PT x) := by
    intro w ht hw
    have hlt := hE.lt h4 ht
    refine ⟨_, kX7_add (by omega) ho hN h1.2.2.1 h1.2.2.2.1 (by omega) _, ?_⟩
    intro M1 hM1
    obtain ⟨a1, a2, a3⟩ := rdS_add ho h1 rfl (by omega) hM1
    refine ⟨_, kX5_advance (by omega) (tk := tk) (K := K) (i := i + 1) (by rw [a1.1, nI_1]) hlt hK (fun j hj => by rw [a3.1 3 (by decide) (Ne.symm hne.2.2.2.1) (Ne.symm hne.2.2.2.2.1)]; exact h2 j hj), ?_⟩
    rintro M2 rfl
    obtain ⟨b1, b2, b3, -⟩ := rdS_adv ho a1
    refine ⟨_, rfl, rfl, ?_⟩
    rw [hw]
    exact ⟨a3.trans b2 (by simp), rfl, by rw [b3, a2], b1⟩
  have go59 : (tk i = 270 ∨ tk i = 271 ∨ tk i = 272) → ¬ (tk i = 270 ∧ inT = true) → wX5_readName X ad ca d x (q_i (PT x) (fun s M' => rdO M M' x N b tk c (pName tk inT i) s)) 59 [(0, .ref 12)] M := by
    intro q1 q2
    have e : pName tk inT i = .inr (i + 1, [if tk i = 270 then -1 else if tk i = 271 then -2 else -3]) := by unfold pName; rw [if_pos q1, if_neg q2]
    have ht : tk i ≠ -1 := fun z => by rw [z] at q1; exact absurd q1 (by decide)
    refine bX5_readName_59 (ly_scr (x := x) ho).1 ?_
    rw [h1.2.1]
    refine ⟨fun c1 => ⟨fun c2 => ?_, fun c2 => ?_⟩, fun c1 => ?_⟩
    · rw [if_neg c1, if_neg c2] at e; exact yes _ ht e
    · rw [if_neg c1, if_pos c2] at e; exact yes _ ht e
    · rw [if_pos c1] at e; exact yes _ ht e
  have go36 : (tk i = 270 ∨ tk i = 271 ∨ tk i = 272) → wX5_readName X ad ca d x (q_i (PT x) (fun s M' => rdO M M' x N b tk c (pName tk inT i) s)) 36 [(0, .ref 12)] M := by
    intro q1
    refine bX5_readName_36 ?_
    rw [h1.2.1, h3]
    refine ⟨fun c1 => go59 q1 (fun z => c1 z.1), fun c1 => ⟨fun c2 => go59 q1 (fun z => ?_), fun c2 => ⟨_, kX5_refuse (by omega) _, ?_⟩⟩⟩
    · rw [if_pos z.2] at c2; exact absurd c2 (by decide)
    · rintro v M1 ⟨rfl, rfl⟩
      have e : pName tk inT i = .inl (5, i) := by
        unfold pName
        have hin : inT = true := by
          cases inT
          · exact absurd rfl c2
          · rfl
        rw [if_pos q1, if_pos ⟨c1, hin⟩]
      rw [e]
      exact ⟨Or.inl rfl, _, rfl, rfl, rdO_no ho h1 (by omega) h5⟩
  refine eX5_readName (bX5_readName_0 ?_)
  rw [h1.2.1]
  refine ⟨fun c1 => go36 (Or.inl c1), fun c1 => ⟨fun c2 => go36 (Or.inr (Or.inl c2)), fun c2 => ⟨fun c3 => go36 (Or.inr (Or.inr c3)), fun c3 => ⟨_, kX5_refuse (by omega) _, ?_⟩⟩⟩⟩
  rintro v M1 ⟨rfl, rfl⟩
  have e : pName tk inT i = .inl (1, i) := by
    unfold pName
    rw [if_neg]
    rintro (z | z | z)
    · exact c1 z
    · exact c2 z
    · exact c3 z
  rw [e]
  exact ⟨Or.inl rfl, _, rfl, rfl, rdO_no ho h1 (by omega) h5⟩
theorem kX5_pass (hd : 2 ≤ d) {i : Nat} {c : List Int32} {s : Int32} (ho : zsc x) (hs : s ≠ -1) (hE : pEnd tk K) (hP : rdP M x N b tk K inT i c) : mX5_pass X ad ca d x [.ref 12, .int s] M (q_i (PT x) (fun v M' => (v = 1 ∧ tk i = s ∧ M' = ms (ms M 12 2 (nI (i + 1))) 12 3 (tk (i + 1))) ∨ (v = 0 ∧ tk i ≠ s ∧ M' = ms M 12 6 1))) := by
  obtain ⟨d, rfl⟩ := a_d1 (show 1 ≤ d by omega)
  refine eX5_pass _ (bX5_pass_0 _ ?_)
  rw [hP.1.2.1]
  refine ⟨fun q => ⟨_, rdP_adv (by omega) hP hE (by rw [q]; exact hs), ?_⟩, fun q => ⟨_, kX5_refuse (by omega) _, ?_⟩⟩
  · rintro M1 rfl
    exact ⟨_, rfl, rfl, Or.inl ⟨rfl, q, rfl⟩⟩
  · rintro v M1 ⟨rfl, rfl⟩
    exact ⟨Or.inl rfl, _, rfl, rfl, Or.inr ⟨rfl, q, rfl⟩⟩
theorem kX5_readProduct (hd : 2 ≤ d) {F : Nat → pR} {D : Nat} {u : Int32} (ho : zsc x) (hN : N ≤ 30) (hE : pEnd tk K) (hF : pG K D F) (hC : ∀ (M : a_M) (i : Nat) (c : List Int32), rdP M x N b tk K inT i c → mX5_readOne X ad ca (d - 1) x [.ref 12, .int u] M (q_i (PT x) (fun s M' => rdO M M' x N b tk c (F i) s))) {i : Nat} {c : List Int32} (hP : rdP M x N b tk K inT i c) : mX5_readProduct X ad ca d x [.ref 12, .int u] M (q_i (PT x) (fun s M' => rdO M M' x N b tk c (pCh tk 42 47 (-7) (-8) F i) s)) := by
  obtain ⟨d, rfl⟩ := a_d1 (show 1 ≤ d by omega)
  rw [show d + 1 - 1 = d by omega] at hC
  have hK := hE.2.2.1
  have hne := zsc_ne ho
  have hLx := (ly_scr (x := x) ho).1
  have ovr : ∀ (s : Int32) (M1 : a_M), (s = 0 ∨ s = 1) → rdO M M1 x N b tk c (pCh tk 42 47 (-7) (-8) F i) s → wX5_readProduct X ad ca d x (q_i (PT x) (fun s M' => rdO M M' x N b tk c (pCh tk 42 47 (-7) (-8) F i) s)) 80 [(2, .int s)] M1 := fun s M1 hs h => bX5_readProduct_80 _ ⟨hs, _, rfl, rfl, h⟩
  have bad : ∀ (n : Nat) (M1 : a_M), rdO M M1 x N b tk c (pCh tk 42 47 (-7) (-8) F i) 0 → wX5_readProduct X ad ca d x (q_i (PT x) (fun s M' => rdO M M' x N b tk c (pCh tk 42 47 (-7) (-8) F i) s)) 8 [(0, .ref 12), (1, .int u), (2, .int 0), (3, .int (nI n))] M1 := fun n M1 h => bX5_readProduct_8 _ _ _ ⟨fun _ => ovr _ _ (Or.inl rfl) h, fun _ => ⟨fun _ => ovr _ _ (Or.inl rfl) h, fun q => absurd rfl q⟩⟩
  refine eX5_readProduct _ (bX5_readProduct_0 _ ⟨_, hC M i c hP, ?_⟩)
  intro v1 M1 h1
  have hg := hF i hP.2.2.2.1
  cases hr : F i with
  | inl e =>
    rw [hr] at h1
    obtain ⟨f, j⟩ := e
    obtain ⟨k1, rfl, k3⟩ := h1
    refine bad 0 M1 ?_
    unfold pCh
    rw [hr]
    exact ⟨k1, rfl, k3⟩
  | inr e =>
    obtain ⟨j, c1⟩ := e
    rw [hr] at h1 hg
    obtain ⟨k1, rfl, k3, k4⟩ := h1
    obtain ⟨g1, g2, g3, -⟩ := hg
    have key : ∀ (f n j : Nat) (c1 : List Int32) (M1 : a_M), n + f = 300 → rdF M M1 x N (b + c.length) → M1 12 6 = M 12 6 → rdS M1 x N b tk j (c ++ c1) → j ≤ K → b + (c ++ c1).length ≤ j → pCh tk 42 47 (-7) (-8) F i = pLp tk 42 47 (-7) (-8) F f j c1 → wX5_readProduct X ad ca d x (q_i (PT x) (fun s M' => rdO M M' x N b tk c (pCh tk 42 47 (-7) (-8) F i) s)) 8 [(0, .ref 12), (1, .int u), (2, .int 1), (3, .int (nI n))] M1 := by
      intro f
      induction f with
      | zero =>
        intro n j c1 M1 hn hf h6 hs hj hb he
        refine bX5_readProduct_8 _ _ _ ⟨fun _ => ovr _ _ (Or.inr rfl) ?_, fun q => absurd (nI_le (show 300 ≤ n by omega) (by omega)) q⟩
        rw [he]
        exact ⟨hf, rfl, h6, hs⟩
      | succ f ih =>
        intro n j c1 M1 hn hf h6 hs hj hb he
        have hP1 : rdP M1 x N b tk K inT j (c ++ c1) := ⟨hs, fun q hq => by rw [hf.1 3 (by decide) (Ne.symm hne.2.2.2.1) (Ne.symm hne.2.2.2.2.1)]; exact hP.2.1 q hq, by rw [hf.2.1 4 (by decide) (by decide) (by decide)]; exact hP.2.2.1, hj, hb⟩
        refine bX5_readProduct_8 _ _ _ ⟨fun q => absurd q (nI_ge (b := 300) (by omega) (by omega)), fun _ => ⟨fun q => absurd q (by decide), fun _ => ?_⟩⟩
        rw [hs.2.1]
        have stop : tk j ≠ 42 → tk j ≠ 47 → wX5_readProduct X ad ca d x (q_i (PT x) (fun s M' => rdO M M' x N b tk c (pCh tk 42 47 (-7) (-8) F i) s)) 80 [(2, .int 1)] M1 := fun q1 q2 => ovr _ _ (Or.inr rfl) (by
          rw [he]
          unfold pLp
          rw [if_neg (fun z => z.elim q1 q2)]
          exact ⟨hf, rfl, h6, hs⟩)
        have more : ∀ w : Int32, (tk j = 42 ∨ tk j = 47) → w = (if tk j = 42 then (-7) else (-8)) → ∃ Q1 : a_M → Prop, mX5_advance X ad ca d x [.ref 12] M1 (q_v (PT x) Q1) ∧ ∀ M2, Q1 M2 → ∃ Q2 : Int32 → a_M → Prop, mX5_readOne X ad ca d x [.ref 12, .int u] M2 (q_i (PT x) Q2) ∧ ∀ v2 M3, Q2 v2 M3 → ∃ Q3 : a_M → Prop, mX7_add X ad ca d x [.ref x, .int w] M3 (q_v (PT x) Q3) ∧ ∀ M4, Q3 M4 → wX5_readProduct X ad ca d x (q_i (PT x) (fun s M' => rdO M M' x N b tk c (pCh tk 42 47 (-7) (-8) F i) s)) 8 [(0, .ref 12), (1, .int u), (2, .int v2), (3, .int (nI n + 1))] M4 := by
          intro w q hw
          have ht : tk j ≠ -1 := fun z => by rw [z] at q; exact absurd q (by decide)
          have hlt := hE.lt hj ht
          refine ⟨_, rdP_adv (by omega) hP1 hE ht, ?_⟩
          rintro M2 rfl
          obtain ⟨a1, a2, a3⟩ := rdP_next ho hP1 hE ht
          refine ⟨_, hC _ (j + 1) (c ++ c1) a1, ?_⟩
          intro v2 M3 h3
          have hg2 := hF (j + 1) hlt
          rw [nI_1]
          have el : b + c.length ≤ b + (c ++ c1).length := by simp
          cases hr2 : F (j + 1) with
          | inl e =>
            obtain ⟨f2, j2⟩ := e
            rw [hr2] at h3
            obtain ⟨m1, rfl, m3, m4, e9, m5, m6, m7⟩ := h3
            have hN3 : M3 x 0 = nI N := by rw [m1.1 x hne.2.2.1 hne.2.2.2.2.2.2.2.2.1 hne.2.2.2.2.2.2.2.2.2.1, a2.1 x hne.2.2.1 hne.2.2.2.2.2.2.2.2.1 hne.2.2.2.2.2.2.2.2.2.1]; exact hs.2.2.1
            refine ⟨_, kX7_add (by omega) ho hN hN3 m7 m6 w, ?_⟩
            intro M4 hM4
            refine bad (n + 1) M4 ?_
            have e10 : pCh tk 42 47 (-7) (-8) F i = .inl (f2, j2) := by
              rw [he]
              unfold pLp
              rw [if_pos q, hr2]
            rw [e10]
            have hf3 := (hf.trans a2 el).trans m1 el
            by_cases c9 : e9 < 300
            · rw [if_pos c9] at hM4
              have er : ∀ z, z ≠ x + 2 → z ≠ x + 3 → M4 z = M3 z := fun z h1 h2 => by rw [hM4, ms_row _ _ _ _ _ h1, ms_row _ _ _ _ _ h2]
              refine ⟨⟨fun z b1 b2 b3 => by rw [er z b2 b3]; exact hf3.1 z b1 b2 b3, fun k b1 b2 b3 => by rw [er 12 (Ne.symm hne.1) (Ne.symm hne.2.1)]; exact hf3.2.1 k b1 b2 b3, fun k hk => ?_, fun k hk => ?_⟩, rfl, by rw [er 12 (Ne.symm hne.1) (Ne.symm hne.2.1)]; exact m3, by rw [er 12 (Ne.symm hne.1) (Ne.symm hne.2.1)]; exact m4, e9 + 1, by omega, by omega, by rw [hM4, ms_is]⟩
              · rw [hM4, ms_no _ _ _ _ _ _ (fun z => hk z.2), ms_row _ _ _ _ _ (Ne.symm hne.2.2.2.2.2.2.2.1)]; exact hf3.2.2.1 k hk
              · rw [hM4, ms_row _ _ _ _ _ hne.2.2.2.2.2.2.2.1, ms_no _ _ _ _ _ _ (fun z => by omega)]; exact hf3.2.2.2 k hk
            · rw [if_neg c9] at hM4
              subst hM4
              exact ⟨hf3, rfl, m3, m4, e9, by omega, m6, m7⟩
          | inr e =>
            obtain ⟨j2, c2⟩ := e
            rw [hr2] at h3 hg2
            obtain ⟨m1, rfl, m3, m4⟩ := h3
            obtain ⟨g4, g5, g6, -⟩ := hg2
            have el2 : ((c ++ c1) ++ c2).length = (c ++ c1).length + c2.length := List.length_append
            refine ⟨_, kX7_add (by omega) ho hN m4.2.2.1 m4.2.2.2.1 (by omega) w, ?_⟩
            intro M4 hM4
            obtain ⟨n1, n2, n3⟩ := rdS_add ho m4 rfl (by omega) hM4
            have ea : ((c ++ c1) ++ c2) ++ [w] = c ++ (c1 ++ (c2 ++ [w])) := by simp
            rw [ea] at n1
            refine ih (n + 1) j2 (c1 ++ (c2 ++ [w])) M4 (by omega) (((hf.trans a2 el).trans m1 el).trans n3 (by rw [el2]; omega)) (by rw [n2, m3, a3, h6]) n1 g5 ?_ ?_
            · rw [← ea]
              simp at hb g6 ⊢
              omega
            · rw [he, hw]
              conv => lhs; unfold pLp
              rw [if_pos q, hr2]
        refine ⟨fun q => bX5_readProduct_37 _ _ hLx ?_, fun q => ⟨fun q2 => stop q q2, fun q2 => bX5_readProduct_37 _ _ hLx ?_⟩⟩
        · rw [hs.2.1]
          exact ⟨fun z => absurd q z, fun _ => more _ (Or.inl q) (by rw [if_pos q])⟩
        · rw [hs.2.1]
          exact ⟨fun _ => more _ (Or.inr q2) (by rw [if_neg q]), fun z => absurd z q⟩
    refine key 300 0 j c1 M1 rfl k1 k3 k4 g2 ?_ ?_
    · have := hP.2.2.2.2
      simp
      omega
    · unfold pCh
      rw [hr]
theorem kX5_readSum (hd : 2 ≤ d) {F : Nat → pR} {D : Nat} {u : Int32} (ho : zsc x) (hN : N ≤ 30) (hE : pEnd tk K) (hF : pG K D F) (hC : ∀ (M : a_M) (i : Nat) (c : List Int32), rdP M x N b tk K inT i c → mX5_readProduct X ad ca (d - 1) x [.ref 12, .int u] M (q_i (PT x) (fun s M' => rdO M M' x N b tk c (F i) s))) {i : Nat} {c : List Int32} (hP : rdP M x N b tk K inT i c) : mX5_readSum X ad ca d x [.ref 12, .int u] M (q_i (PT x) (fun s M' => rdO M M' x N b tk c (pCh tk 43 45 (-5) (-6) F i) s)) := by
  obtain ⟨d, rfl⟩ := a_d1 (show 1 ≤ d by omega)
  rw [show d + 1 - 1 = d by omega] at hC
  have hK := hE.2.2.1
  have hne := zsc_ne ho
  have hLx := (ly_scr (x := x) ho).1
  have ovr : ∀ (s : Int32) (M1 : a_M), (s = 0 ∨ s = 1) → rdO M M1 x N b tk c (pCh tk 43 45 (-5) (-6) F i) s → wX5_readSum X ad ca d x (q_i (PT x) (fun s M' => rdO M M' x N b tk c (pCh tk 43 45 (-5) (-6) F i) s)) 80 [(2, .int s)] M1 := fun s M1 hs h => bX5_readSum_80 _ ⟨hs, _, rfl, rfl, h⟩
  have bad : ∀ (n : Nat) (M1 : a_M), rdO M M1 x N b tk c (pCh tk 43 45 (-5) (-6) F i) 0 → wX5_readSum X ad ca d x (q_i (PT x) (fun s M' => rdO M M' x N b tk c (pCh tk 43 45 (-5) (-6) F i) s)) 8 [(0, .ref 12), (1, .int u), (2, .int 0), (3, .int (nI n))] M1 := fun n M1 h => bX5_readSum_8 _ _ _ ⟨fun _ => ovr _ _ (Or.inl rfl) h, fun _ => ⟨fun _ => ovr _ _ (Or.inl rfl) h, fun q => absurd rfl q⟩⟩
  refine eX5_readSum _ (bX5_readSum_0 _ ⟨_, hC M i c hP, ?_⟩)
  intro v1 M1 h1
  have hg := hF i hP.2.2.2.1
  cases hr : F i with
  | inl e =>
    rw [hr] at h1
    obtain ⟨f, j⟩ := e
    obtain ⟨k1, rfl, k3⟩ := h1
    refine bad 0 M1 ?_
    unfold pCh
    rw [hr]
    exact ⟨k1, rfl, k3⟩
  | inr e =>
    obtain ⟨j, c1⟩ := e
    rw [hr] at h1 hg
    obtain ⟨k1, rfl, k3, k4⟩ := h1
    obtain ⟨g1, g2, g3, -⟩ := hg
    have key : ∀ (f n j : Nat) (c1 : List Int32) (M1 : a_M), n + f = 300 → rdF M M1 x N (b + c.length) → M1 12 6 = M 12 6 → rdS M1 x N b tk j (c ++ c1) → j ≤ K → b + (c ++ c1).length ≤ j → pCh tk 43 45 (-5) (-6) F i = pLp tk 43 45 (-5) (-6) F f j c1 → wX5_readSum X ad ca d x (q_i (PT x) (fun s M' => rdO M M' x N b tk c (pCh tk 43 45 (-5) (-6) F i) s)) 8 [(0, .ref 12), (1, .int u), (2, .int 1), (3, .int (nI n))] M1 := by
      intro f
      induction f with
      | zero =>
        intro n j c1 M1 hn hf h6 hs hj hb he
        refine bX5_readSum_8 _ _ _ ⟨fun _ => ovr _ _ (Or.inr rfl) ?_, fun q => absurd (nI_le (show 300 ≤ n by omega) (by omega)) q⟩
        rw [he]
        exact ⟨hf, rfl, h6, hs⟩
      | succ f ih =>
        intro n j c1 M1 hn hf h6 hs hj hb he
        have hP1 : rdP M1 x N b tk K inT j (c ++ c1) := ⟨hs, fun q hq => by rw [hf.1 3 (by decide) (Ne.symm hne.2.2.2.1) (Ne.symm hne.2.2.2.2.1)]; exact hP.2.1 q hq, by rw [hf.2.1 4 (by decide) (by decide) (by decide)]; exact hP.2.2.1, hj, hb⟩
        refine bX5_readSum_8 _ _ _ ⟨fun q => absurd q (nI_ge (b := 300) (by omega) (by omega)), fun _ => ⟨fun q => absurd q (by decide), fun _ => ?_⟩⟩
        rw [hs.2.1]
        have stop : tk j ≠ 43 → tk j ≠ 45 → wX5_readSum X ad ca d x (q_i (PT x) (fun s M' => rdO M M' x N b tk c (pCh tk 43 45 (-5) (-6) F i) s)) 80 [(2, .int 1)] M1 := fun q1 q2 => ovr _ _ (Or.inr rfl) (by
          rw [he]
          unfold pLp
          rw [if_neg (fun z => z.elim q1 q2)]
          exact ⟨hf, rfl, h6, hs⟩)
        have more : ∀ w : Int32, (tk j = 43 ∨ tk j = 45) → w = (if tk j = 43 then (-5) else (-6)) → ∃ Q1 : a_M → Prop, mX5_advance X ad ca d x [.ref 12] M1 (q_v (PT x) Q1) ∧ ∀ M2, Q1 M2 → ∃ Q2 : Int32 → a_M → Prop, mX5_readProduct X ad ca d x [.ref 12, .int u] M2 (q_i (PT x) Q2) ∧ ∀ v2 M3, Q2 v2 M3 → ∃ Q3 : a_M → Prop, mX7_add X ad ca d x [.ref x, .int w] M3 (q_v (PT x) Q3) ∧ ∀ M4, Q3 M4 → wX5_readSum X ad ca d x (q_i (PT x) (fun s M' => rdO M M' x N b tk c (pCh tk 43 45 (-5) (-6) F i) s)) 8 [(0, .ref 12), (1, .int u), (2, .int v2), (3, .int (nI n + 1))] M4 := by
          intro w q hw
          have ht : tk j ≠ -1 := fun z => by rw [z] at q; exact absurd q (by decide)
          have hlt := hE.lt hj ht
          refine ⟨_, rdP_adv (by omega) hP1 hE ht, ?_⟩
          rintro M2 rfl
          obtain ⟨a1, a2, a3⟩ := rdP_next ho hP1 hE ht
          refine ⟨_, hC _ (j + 1) (c ++ c1) a1, ?_⟩
          intro v2 M3 h3
          have hg2 := hF (j + 1) hlt
          rw [nI_1]
          have el : b + c.length ≤ b + (c ++ c1).length := by simp
          cases hr2 : F (j + 1) with
          | inl e =>
            obtain ⟨f2, j2⟩ := e
            rw [hr2] at h3
            obtain ⟨m1, rfl, m3, m4, e9, m5, m6, m7⟩ := h3
            have hN3 : M3 x 0 = nI N := by rw [m1.1 x hne.2.2.1 hne.2.2.2.2.2.2.2.2.1 hne.2.2.2.2.2.2.2.2.2.1, a2.1 x hne.2.2.1 hne.2.2.2.2.2.2.2.2.1 hne.2.2.2.2.2.2.2.2.2.1]; exact hs.2.2.1
            refine ⟨_, kX7_add (by omega) ho hN hN3 m7 m6 w, ?_⟩
            intro M4 hM4
            refine bad (n + 1) M4 ?_
            have e10 : pCh tk 43 45 (-5) (-6) F i = .inl (f2, j2) := by
              rw [he]
              unfold pLp
              rw [if_pos q, hr2]
            rw [e10]
            have hf3 := (hf.trans a2 el).trans m1 el
            by_cases c9 : e9 < 300
            · rw [if_pos c9] at hM4
              have er : ∀ z, z ≠ x + 2 → z ≠ x + 3 → M4 z = M3 z := fun z h1 h2 => by rw [hM4, ms_row _ _ _ _ _ h1, ms_row _ _ _ _ _ h2]
              refine ⟨⟨fun z b1 b2 b3 => by rw [er z b2 b3]; exact hf3.1 z b1 b2 b3, fun k b1 b2 b3 => by rw [er 12 (Ne.symm hne.1) (Ne.symm hne.2.1)]; exact hf3.2.1 k b1 b2 b3, fun k hk => ?_, fun k hk => ?_⟩, rfl, by rw [er 12 (Ne.symm hne.1) (Ne.symm hne.2.1)]; exact m3, by rw [er 12 (Ne.symm hne.1) (Ne.symm hne.2.1)]; exact m4, e9 + 1, by omega, by omega, by rw [hM4, ms_is]⟩
              · rw [hM4, ms_no _ _ _ _ _ _ (fun z => hk z.2), ms_row _ _ _ _ _ (Ne.symm hne.2.2.2.2.2.2.2.1)]; exact hf3.2.2.1 k hk
              · rw [hM4, ms_row _ _ _ _ _ hne.2.2.2.2.2.2.2.1, ms_no _ _ _ _ _ _ (fun z => by omega)]; exact hf3.2.2.2 k hk
            · rw [if_neg c9] at hM4
              subst hM4
              exact ⟨hf3, rfl, m3, m4, e9, by omega, m6, m7⟩
          | inr e =>
            obtain ⟨j2, c2⟩ := e
            rw [hr2] at h3 hg2
            obtain ⟨m1, rfl, m3, m4⟩ := h3
            obtain ⟨g4, g5, g6, -⟩ := hg2
            have el2 : ((c ++ c1) ++ c2).length = (c ++ c1).length + c2.length := List.length_append
            refine ⟨_, kX7_add (by omega) ho hN m4.2.2.1 m4.2.2.2.1 (by omega) w, ?_⟩
            intro M4 hM4
            obtain ⟨n1, n2, n3⟩ := rdS_add ho m4 rfl (by omega) hM4
            have ea : ((c ++ c1) ++ c2) ++ [w] = c ++ (c1 ++ (c2 ++ [w])) := by simp
            rw [ea] at n1
            refine ih (n + 1) j2 (c1 ++ (c2 ++ [w])) M4 (by omega) (((hf.trans a2 el).trans m1 el).trans n3 (by rw [el2]; omega)) (by rw [n2, m3, a3, h6]) n1 g5 ?_ ?_
            · rw [← ea]
              simp at hb g6 ⊢
              omega
            · rw [he, hw]
              conv => lhs; unfold pLp
              rw [if_pos q, hr2]
        refine ⟨fun q => bX5_readSum_37 _ _ hLx ?_, fun q => ⟨fun q2 => stop q q2, fun q2 => bX5_readSum_37 _ _ hLx ?_⟩⟩
        · rw [hs.2.1]
          exact ⟨fun z => absurd q z, fun _ => more _ (Or.inl q) (by rw [if_pos q])⟩
        · rw [hs.2.1]
          exact ⟨fun _ => more _ (Or.inr q2) (by rw [if_neg q]), fun z => absurd z q⟩
    refine key 300 0 j c1 M1 rfl k1 k3 k4 g2 ?_ ?_
    · have := hP.2.2.2.2
      simp
      omega
    · unfold pCh
      rw [hr]
end RD
