/-! PARSER 11: the reference's machine does what the recursive reading does -/
section SIM
variable {X : a_X} {ad : Nat → Nat} {ca : Nat → ClassId} {d x : Nat} {Post : Option Value → a_M → a_P → Prop} {Y : Nat → Nat} {tl K nk : Nat}
theorem lp_1 {M : a_M} (h17 : M 118 17 = 0) (h25 : M 118 25 = nI 1) {Q : a_M → Prop} (hm : mX12_begins X ad ca d x [.ref 118] M (q_v (PT x) Q)) (hk : ∀ M1, Q M1 → wX12_text X ad ca d x Post 74 [(0, .ref 118)] M1) : wX12_text X ad ca d x Post 74 [(0, .ref 118)] M :=
  bX12_text_74 ⟨fun q => absurd h17 q, fun _ => ⟨fun _ => bX12_text_96 ⟨fun _ => ⟨_, hm, hk⟩, fun z => absurd (h25.symm.trans z) (by decide), fun z => absurd h25 z.1⟩, fun z => absurd (h25.symm.trans z) (by decide)⟩⟩
theorem lp_2 {M : a_M} (h17 : M 118 17 = 0) (h25 : M 118 25 = nI 2) {Q : a_M → Prop} (hm : mX12_goesOn X ad ca d x [.ref 118] M (q_v (PT x) Q)) (hk : ∀ M1, Q M1 → wX12_text X ad ca d x Post 74 [(0, .ref 118)] M1) : wX12_text X ad ca d x Post 74 [(0, .ref 118)] M :=
  bX12_text_74 ⟨fun q => absurd h17 q, fun _ => ⟨fun _ => bX12_text_96 ⟨fun z => absurd (h25.symm.trans z) (by decide), fun _ => ⟨_, hm, hk⟩, fun z => absurd h25 z.2⟩, fun z => absurd (h25.symm.trans z) (by decide)⟩⟩
def Sim1 (X : a_X) (ad : Nat → Nat) (ca : Nat → ClassId) (d x : Nat) (Post : Option Value → a_M → a_P → Prop) (Y : Nat → Nat) (tl K nk k : Nat) : Prop :=
  ∀ (i q : Nat) (b0 : List Nat) (f : Nat) (wt : List (Nat × Nat)) (e : List (Int32 × Int32)) (M : a_M), gX M Y tl i 1 (8 - k) ((b0 ++ [f]) ++ List.replicate q 7) wt e → M 118 27 = nI nk → (f = 1 ∨ f = 6) → q ≤ 8 - k → ((b0 ++ [f]) ++ List.replicate q 7).length = 8 - k + 1 → e.length + wt.length + ((b0 ++ [f]) ++ List.replicate q 7).length ≤ i → i ≤ K → wt.length ≤ 2 * (b0.length + 1) → (∀ p, p ∈ wt → zop4 p.1 ∧ p.2 ≤ b0.length + 1) →
    (match pOne (lTk Y tl) (nk == 6) k i with
      | .inr (j, c) => ∀ M', gX M' Y tl j 2 (8 - k - q) (b0 ++ [f]) wt (e ++ (c ++ List.replicate q (-4)).map zPw) → xF M M' → wX12_text X ad ca d x Post 74 [(0, .ref 118)] M'
      | .inl (fl, j) => ∀ M', gE M M' Y tl fl j → wX12_text X ad ca d x Post 74 [(0, .ref 118)] M') → wX12_text X ad ca d x Post 74 [(0, .ref 118)] M
theorem gE.pre {M M2 M' : a_M} {f j : Nat} (hx : xF M M2) (h : gE M2 M' Y tl f j) : gE M M' Y tl f j := ⟨h.1, h.2.1, hx.trans h.2.2⟩
theorem zlo_app {D rk b : Nat} {w0 pa : List (Nat × Nat)} (hb : b < D) (hD : D < 41) (hw0 : ∀ p, p ∈ w0 → zop4 p.1 ∧ p.2 ≤ b) (hpa : ∀ p, p ∈ pa → zop4 p.1 ∧ p.2 = D ∧ zrk p.1 < rk) : zlo D rk (w0 ++ pa) := by
  by_cases c : w0 ++ pa = []
  · exact Or.inl c
  · right
    refine ⟨(w0 ++ pa).dropLast, (w0 ++ pa).getLast c, (List.dropLast_concat_getLast c).symm, ?_⟩
    have hm := List.getLast_mem c
    rcases List.mem_append.mp hm with h | h
    · have := hw0 _ h
      exact ⟨this.1, by omega, Or.inl (by omega)⟩
    · have := hpa _ h
      exact ⟨this.1, by omega, Or.inr this.2.2⟩
theorem pCh_stop {tk : Nat → Int32} {a b wa wb : Int32} {F : Nat → pR} {D i j : Nat} {c : List Int32} (hE : pEnd tk K) (ha : a ≠ -1) (hb : b ≠ -1) (hF : pG K D F) (hi : i ≤ K) (h : pCh tk a b wa wb F i = .inr (j, c)) : tk j ≠ a ∧ tk j ≠ b := by
  unfold pCh at h
  have hg := hF i hi
  cases hr : F i with
  | inl e => rw [hr] at h; cases h
  | inr e =>
    obtain ⟨j1, c1⟩ := e
    rw [hr] at h hg
    exact pLp_stop hE ha hb hF 300 j1 c1 hg.2.1 (by have := hE.2.2.1; have := hg.1; omega) j c h
theorem simProd (hd : 5 ≤ d) (hE : pEnd (lTk Y tl) K) {k : Nat} (hk : k ≤ 8) (H : Sim1 X ad ca d x Post Y tl K nk k) {b0 : List Nat} {f : Nat} (hf : f = 1 ∨ f = 6) (hD : b0.length + 1 = 8 - k + 1) : ∀ (i : Nat) (w0 pa : List (Nat × Nat)) (e : List (Int32 × Int32)) (M : a_M), gX M Y tl i 1 (8 - k) (b0 ++ [f]) (w0 ++ pa) e → M 118 27 = nI nk → e.length + (w0 ++ pa).length + (b0.length + 1) ≤ i → i ≤ K → w0.length ≤ 2 * b0.length → (∀ p, p ∈ w0 → zop4 p.1 ∧ p.2 ≤ b0.length) → (∀ p, p ∈ pa → zop4 p.1 ∧ p.2 = b0.length + 1 ∧ zrk p.1 < 4) → pa.length ≤ 1 →
    (match pProd (lTk Y tl) (pOne (lTk Y tl) (nk == 6) k) i with
      | .inr (j, c) => ∀ M' pm e', gX M' Y tl j 2 (8 - k) (b0 ++ [f]) ((w0 ++ pa) ++ pm) e' → zhi2 (b0.length + 1) 4 pm → pm.length ≤ 1 → e' ++ pm.reverse.map zpr2 = e ++ c.map zPw → xF M M' → wX12_text X ad ca d x Post 74 [(0, .ref 118)] M'
      | .inl (fl, j) => ∀ M', gE M M' Y tl fl j → wX12_text X ad ca d x Post 74 [(0, .ref 118)] M') → wX12_text X ad ca d x Post 74 [(0, .ref 118)] M := by
  intro i w0 pa e M hg hnk hlen hi hw0l hw0 hpa hpal hgoal
  have hK := hE.2.2.1
  have hF := pOne_go (inT := nk == 6) hE k
  have hlb : (b0 ++ [f]).length = b0.length + 1 := by rw [List.length_append]; rfl
  have hwal : (w0 ++ pa).length ≤ 2 * b0.length + 1 := by rw [List.length_append]; omega
  have hall : ∀ p, p ∈ w0 ++ pa → zop4 p.1 ∧ p.2 ≤ b0.length + 1 := fun p hp => by
    rcases List.mem_append.mp hp with h | h
    · have := hw0 p h; exact ⟨this.1, by omega⟩
    · have := hpa p h; exact ⟨this.1, by omega⟩
  have hzlo : zlo (b0.length + 1) 4 (w0 ++ pa) := zlo_app (by omega) (by omega) hw0 hpa
  have key : ∀ (fu j : Nat) (c : List Int32) (pm : List (Nat × Nat)) (e' : List (Int32 × Int32)) (M1 : a_M), gX M1 Y tl j 2 (8 - k) (b0 ++ [f]) ((w0 ++ pa) ++ pm) e' → zhi2 (b0.length + 1) 4 pm → pm.length ≤ 1 → e' ++ pm.reverse.map zpr2 = e ++ c.map zPw → i < j → j ≤ K → c.length ≤ j - i → xF M M1 →
      (match pLp (lTk Y tl) 42 47 (-7) (-8) (pOne (lTk Y tl) (nk == 6) k) fu j c with
        | .inr (j, c) => ∀ M' pm e', gX M' Y tl j 2 (8 - k) (b0 ++ [f]) ((w0 ++ pa) ++ pm) e' → zhi2 (b0.length + 1) 4 pm → pm.length ≤ 1 → e' ++ pm.reverse.map zpr2 = e ++ c.map zPw → xF M M' → wX12_text X ad ca d x Post 74 [(0, .ref 118)] M'
        | .inl (fl, j) => ∀ M', gE M M' Y tl fl j → wX12_text X ad ca d x Post 74 [(0, .ref 118)] M') → wX12_text X ad ca d x Post 74 [(0, .ref 118)] M1 := by
    intro fu
    induction fu with
    | zero => intro j c pm e' M1 g h1 h2 h3 h4 h5 h6 h7 hG; exact hG M1 pm e' g h1 h2 h3 h7
    | succ fu ih =>
      intro j c pm e' M1 g h1 h2 h3 h4 h5 h6 h7 hG
      unfold pLp at hG
      by_cases q : lTk Y tl j = 42 ∨ lTk Y tl j = 47
      · rw [if_pos q] at hG
        have elen : e'.length + pm.length = e.length + c.length := by
          have := congrArg List.length h3
          simpa using this
        obtain ⟨o, w, ho, ho4, hto, hw, hzw⟩ : ∃ o w, zop4 o ∧ zrk o = 4 ∧ lTk Y tl j = nI o ∧ (if lTk Y tl j = 42 then (-7 : Int32) else -8) = w ∧ zPw w = (nI o, 0) := by
          by_cases q1 : lTk Y tl j = 42
          · exact ⟨42, -7, by unfold zop4; omega, rfl, q1, by rw [if_pos q1], by decide⟩
          · have q2 : lTk Y tl j = 47 := q.elim (fun z => absurd z q1) id
            exact ⟨47, -8, by unfold zop4; omega, rfl, q2, by rw [if_neg q1], by decide⟩
        rw [hw] at hG
        have htn : lTk Y tl j ≠ -1 := fun z => by rw [z] at q; exact absurd q (by decide)
        have hjK := hE.lt h5 htn
        have hop := kX12_goesOn_op (X := X) (ad := ad) (ca := ca) (d := d) (x := x) (D := b0.length + 1) (w1 := w0 ++ pa) (pm := pm) (by omega) ho rfl hlb (by omega) g hto (by omega) (by rw [List.length_append]; omega) (by rw [ho4]; exact h1) (by rw [ho4]; exact hzlo) (by omega)
        refine lp_2 g.2.2.1.1 g.2.2.2.1 hop ?_
        rintro M2 ⟨k1, k2⟩
        have hx2 := h7.trans k2
        have hnk2 : M2 118 27 = nI nk := by rw [hx2.2 27 (by omega)]; exact hnk
        have hg2 := hF (j + 1) hjK
        have k1' : gX M2 Y tl (j + 1) 1 (8 - k) ((b0 ++ [f]) ++ List.replicate 0 7) ((w0 ++ pa) ++ [(o, b0.length + 1)]) (e' ++ pm.reverse.map zpr2) := by simpa using k1
        refine H (j + 1) 0 b0 f ((w0 ++ pa) ++ [(o, b0.length + 1)]) (e' ++ pm.reverse.map zpr2) M2 k1' hnk2 hf (Nat.zero_le _) (by simp; omega) ?_ hjK (by rw [List.length_append]; simp at hwal ⊢; omega) (fun p hp => ?_) ?_
        · simp at hlen elen hwal ⊢
          omega
        · rcases List.mem_append.mp hp with h | h
          · exact hall p h
          · simp at h
            subst h
            exact ⟨ho, Nat.le_refl _⟩
        · cases hr : pOne (lTk Y tl) (nk == 6) k (j + 1) with
          | inl z =>
            obtain ⟨fl, j2⟩ := z
            rw [hr] at hG
            exact fun M3 h9 => hG M3 (gE.pre hx2 h9)
          | inr z =>
            obtain ⟨j2, c2⟩ := z
            rw [hr] at hG hg2
            obtain ⟨g4, g5, g6, -⟩ := hg2
            intro M3 n1 n2
            have n1' : gX M3 Y tl j2 2 (8 - k) (b0 ++ [f]) ((w0 ++ pa) ++ [(o, b0.length + 1)]) ((e' ++ pm.reverse.map zpr2) ++ c2.map zPw) := by simpa using n1
            refine ih j2 (c ++ (c2 ++ [w])) [(o, b0.length + 1)] ((e' ++ pm.reverse.map zpr2) ++ c2.map zPw) M3 n1' (fun p hp => ?_) (by simp) ?_ (by omega) g5 (by simp; omega) (hx2.trans n2) hG
            · simp at hp
              subst hp
              exact ⟨ho, rfl, by rw [ho4]; exact Nat.le_refl _⟩
            · rw [h3]
              simp [hzw, zpr2]
      · rw [if_neg q] at hG
        exact hG M1 pm e' g h1 h2 h3 h7
  have hg0 : gX M Y tl i 1 (8 - k) ((b0 ++ [f]) ++ List.replicate 0 7) (w0 ++ pa) e := by simpa using hg
  have hgi := hF i hi
  refine H i 0 b0 f (w0 ++ pa) e M hg0 hnk hf (Nat.zero_le _) (by simp; omega) (by simpa using hlen) hi (by omega) hall ?_
  unfold pProd pCh at hgoal
  cases hr : pOne (lTk Y tl) (nk == 6) k i with
  | inl z =>
    obtain ⟨fl, j2⟩ := z
    rw [hr] at hgoal
    exact hgoal
  | inr z =>
    obtain ⟨j2, c2⟩ := z
    rw [hr] at hgoal hgi
    obtain ⟨g4, g5, g6, -⟩ := hgi
    intro M3 n1 n2
    have n1' : gX M3 Y tl j2 2 (8 - k) (b0 ++ [f]) ((w0 ++ pa) ++ []) (e ++ c2.map zPw) := by simpa using n1
    exact key 300 j2 c2 [] (e ++ c2.map zPw) M3 n1' (fun p hp => by simp at hp) (by simp) (by simp) g4 g5 g6 n2 hgoal
theorem simSum (hd : 5 ≤ d) (hE : pEnd (lTk Y tl) K) {k : Nat} (hk : k ≤ 8) (H : Sim1 X ad ca d x Post Y tl K nk k) {b0 : List Nat} {f : Nat} (hf : f = 1 ∨ f = 6) (hD : b0.length + 1 = 8 - k + 1) : ∀ (i : Nat) (w0 : List (Nat × Nat)) (e : List (Int32 × Int32)) (M : a_M), gX M Y tl i 1 (8 - k) (b0 ++ [f]) w0 e → M 118 27 = nI nk → e.length + w0.length + (b0.length + 1) ≤ i → i ≤ K → w0.length ≤ 2 * b0.length → (∀ p, p ∈ w0 → zop4 p.1 ∧ p.2 ≤ b0.length) →
    (match pSum (lTk Y tl) (pOne (lTk Y tl) (nk == 6) k) i with
      | .inr (j, c) => ∀ M' pd e', gX M' Y tl j 2 (8 - k) (b0 ++ [f]) (w0 ++ pd) e' → zhi2 (b0.length + 1) 3 pd → pd.length ≤ 2 → e' ++ pd.reverse.map zpr2 = e ++ c.map zPw → (∀ o, zop4 o → lTk Y tl j ≠ nI o) → xF M M' → wX12_text X ad ca d x Post 74 [(0, .ref 118)] M'
      | .inl (fl, j) => ∀ M', gE M M' Y tl fl j → wX12_text X ad ca d x Post 74 [(0, .ref 118)] M') → wX12_text X ad ca d x Post 74 [(0, .ref 118)] M := by
  intro i w0 e M hg hnk hlen hi hw0l hw0 hgoal
  have hK := hE.2.2.1
  have hF1 := pOne_go (inT := nk == 6) hE k
  have hF := pProd_go hE hF1
  have hlb : (b0 ++ [f]).length = b0.length + 1 := by rw [List.length_append]; rfl
  have hzlo : zlo (b0.length + 1) 3 w0 := by
    have := zlo_app (D := b0.length + 1) (rk := 3) (b := b0.length) (w0 := w0) (pa := []) (by omega) (by omega) hw0 (fun p hp => by simp at hp)
    rwa [List.append_nil] at this
  have prodStop : ∀ i j c, i ≤ K → pProd (lTk Y tl) (pOne (lTk Y tl) (nk == 6) k) i = .inr (j, c) → lTk Y tl j ≠ 42 ∧ lTk Y tl j ≠ 47 := fun i j c hi h => pCh_stop hE (by decide) (by decide) hF1 hi h
  have key : ∀ (fu j : Nat) (c : List Int32) (pd : List (Nat × Nat)) (e' : List (Int32 × Int32)) (M1 : a_M), gX M1 Y tl j 2 (8 - k) (b0 ++ [f]) (w0 ++ pd) e' → zhi2 (b0.length + 1) 3 pd → pd.length ≤ 2 → e' ++ pd.reverse.map zpr2 = e ++ c.map zPw → (lTk Y tl j ≠ 42 ∧ lTk Y tl j ≠ 47) → i < j → j ≤ K → c.length ≤ j - i → K < fu + j → xF M M1 →
      (match pLp (lTk Y tl) 43 45 (-5) (-6) (pProd (lTk Y tl) (pOne (lTk Y tl) (nk == 6) k)) fu j c with
        | .inr (j, c) => ∀ M' pd e', gX M' Y tl j 2 (8 - k) (b0 ++ [f]) (w0 ++ pd) e' → zhi2 (b0.length + 1) 3 pd → pd.length ≤ 2 → e' ++ pd.reverse.map zpr2 = e ++ c.map zPw → (∀ o, zop4 o → lTk Y tl j ≠ nI o) → xF M M' → wX12_text X ad ca d x Post 74 [(0, .ref 118)] M'
        | .inl (fl, j) => ∀ M', gE M M' Y tl fl j → wX12_text X ad ca d x Post 74 [(0, .ref 118)] M') → wX12_text X ad ca d x Post 74 [(0, .ref 118)] M1 := by
    intro fu
    induction fu with
    | zero => intro j c pd e' M1 g h1 h2 h3 hm h4 h5 h6 hfu h7 hG; omega
    | succ fu ih =>
      intro j c pd e' M1 g h1 h2 h3 hm h4 h5 h6 hfu h7 hG
      unfold pLp at hG
      by_cases q : lTk Y tl j = 43 ∨ lTk Y tl j = 45
      · rw [if_pos q] at hG
        have elen : e'.length + pd.length = e.length + c.length := by
          have := congrArg List.length h3
          simpa using this
        obtain ⟨o, w, ho, ho4, hto, hw, hzw⟩ : ∃ o w, zop4 o ∧ zrk o = 3 ∧ lTk Y tl j = nI o ∧ (if lTk Y tl j = 43 then (-5 : Int32) else -6) = w ∧ zPw w = (nI o, 0) := by
          by_cases q1 : lTk Y tl j = 43
          · exact ⟨43, -5, by unfold zop4; omega, rfl, q1, by rw [if_pos q1], by decide⟩
          · have q2 : lTk Y tl j = 45 := q.elim (fun z => absurd z q1) id
            exact ⟨45, -6, by unfold zop4; omega, rfl, q2, by rw [if_neg q1], by decide⟩
        rw [hw] at hG
        have htn : lTk Y tl j ≠ -1 := fun z => by rw [z] at q; exact absurd q (by decide)
        have hjK := hE.lt h5 htn
        have hop := kX12_goesOn_op (X := X) (ad := ad) (ca := ca) (d := d) (x := x) (D := b0.length + 1) (w1 := w0) (pm := pd) (by omega) ho rfl hlb (by omega) g hto (by omega) (by rw [List.length_append]; omega) (by rw [ho4]; exact h1) (by rw [ho4]; exact hzlo) (by omega)
        refine lp_2 g.2.2.1.1 g.2.2.2.1 hop ?_
        rintro M2 ⟨k1, k2⟩
        have hx2 := h7.trans k2
        have hnk2 : M2 118 27 = nI nk := by rw [hx2.2 27 (by omega)]; exact hnk
        have hg2 := hF (j + 1) hjK
        refine simProd hd hE hk H hf hD (j + 1) w0 [(o, b0.length + 1)] (e' ++ pd.reverse.map zpr2) M2 k1 hnk2 ?_ hjK hw0l hw0 (fun p hp => ?_) (by simp) ?_
        · simp at hlen elen ⊢
          omega
        · simp at hp
          subst hp
          exact ⟨ho, rfl, by rw [ho4]; omega⟩
        · cases hr : pProd (lTk Y tl) (pOne (lTk Y tl) (nk == 6) k) (j + 1) with
          | inl z =>
            obtain ⟨fl, j2⟩ := z
            rw [hr] at hG
            exact fun M3 h9 => hG M3 (gE.pre hx2 h9)
          | inr z =>
            obtain ⟨j2, c2⟩ := z
            rw [hr] at hG hg2
            obtain ⟨g4, g5, g6, -⟩ := hg2
            intro M3 pm e3 n1 n2 n3 n4 n5
            rw [List.append_assoc] at n1
            refine ih j2 (c ++ (c2 ++ [w])) ([(o, b0.length + 1)] ++ pm) e3 M3 n1 (fun p hp => ?_) (by simp; omega) ?_ (prodStop (j + 1) j2 c2 hjK hr) (by omega) g5 (by simp; omega) (by omega) (hx2.trans n5) hG
            · rcases List.mem_append.mp hp with h | h
              · simp at h
                subst h
                exact ⟨ho, rfl, by rw [ho4]; exact Nat.le_refl _⟩
              · have := n2 p h
                exact ⟨this.1, this.2.1, by omega⟩
            · rw [List.reverse_append, List.map_append, ← List.append_assoc, n4, h3]
              simp [hzw, zpr2]
      · rw [if_neg q] at hG
        refine hG M1 pd e' g h1 h2 h3 (fun o ho z => ?_) h7
        rcases ho with rfl | rfl | rfl | rfl
        · exact q (Or.inl z)
        · exact q (Or.inr z)
        · exact hm.1 z
        · exact hm.2 z
  have hgi := hF i hi
  have hg' : gX M Y tl i 1 (8 - k) (b0 ++ [f]) (w0 ++ []) e := by rw [List.append_nil]; exact hg
  refine simProd hd hE hk H hf hD i w0 [] e M hg' hnk (by simpa using hlen) hi hw0l hw0 (fun p hp => by simp at hp) (by simp) ?_
  unfold pSum pCh at hgoal
  cases hr : pProd (lTk Y tl) (pOne (lTk Y tl) (nk == 6) k) i with
  | inl z =>
    obtain ⟨fl, j2⟩ := z
    rw [hr] at hgoal
    exact hgoal
  | inr z =>
    obtain ⟨j2, c2⟩ := z
    rw [hr] at hgoal hgi
    obtain ⟨g4, g5, g6, -⟩ := hgi
    intro M3 pm e3 n1 n2 n3 n4 n5
    rw [List.append_nil] at n1
    exact key 300 j2 c2 pm e3 M3 n1 (fun p hp => ⟨(n2 p hp).1, (n2 p hp).2.1, by have := (n2 p hp).2.2; omega⟩) (by omega) n4 (prodStop i j2 c2 hi hr) g4 g5 g6 (by omega) n5 hgoal
theorem sim1 (hd : 5 ≤ d) (hE : pEnd (lTk Y tl) K) (hnk6 : nk ≤ 6) : ∀ k, k ≤ 8 → Sim1 X ad ca d x Post Y tl K nk k := by
  intro k
  induction k with
  | zero =>
    intro _ i q b0 f wt e M hg hnk hf hq hfl hlen hi hwl hw hgoal
    have hK := hE.2.2.1
    refine lp_1 hg.2.2.1.1 hg.2.2.2.1 (kX12_begins (by omega) (by omega) (by omega) rfl hg hnk hnk6 hq (by omega) (by simp at hlen; omega) (by omega)) ?_
    rintro M1 (⟨h1, h2⟩ | ⟨h1, h2⟩)
    · have e0 : pOne (lTk Y tl) (nk == 6) 0 i = pAt (lTk Y tl) (nk == 6) i (.inl (3, i)) := rfl
      rw [e0] at hgoal
      cases hr : pAt (lTk Y tl) (nk == 6) i (.inl (3, i)) with
      | inl z => rw [hr] at hgoal h2; exact hgoal M1 h2
      | inr z => rw [hr] at hgoal h2; exact hgoal M1 h2.1 h2.2
    · rcases h2 with ⟨-, h2⟩ | ⟨h2, -⟩
      · have e0 : pOne (lTk Y tl) (nk == 6) 0 i = .inl (3, i) := by
          show pAt (lTk Y tl) (nk == 6) i (.inl (3, i)) = _
          unfold pAt
          rw [if_neg (fun z => by rcases h1 with h1 | h1 <;> (rw [h1] at z; exact absurd z (by decide))), if_pos h1]
        rw [e0] at hgoal
        exact hgoal M1 h2
      · omega
  | succ k ih =>
    intro hk i q b0 f wt e M hg hnk hf hq hfl hlen hi hwl hw hgoal
    have hK := hE.2.2.1
    have H := ih (by omega)
    have hG := pOne_go (inT := nk == 6) hE k
    refine lp_1 hg.2.2.1.1 hg.2.2.2.1 (kX12_begins (by omega) (by omega) (by omega) rfl hg hnk hnk6 hq (by omega) (by simp at hlen; omega) (by omega)) ?_
    rintro M1 (⟨h1, h2⟩ | ⟨h1, h2⟩)
    · have e0 : pOne (lTk Y tl) (nk == 6) (k + 1) i = pAt (lTk Y tl) (nk == 6) i (.inl (3, i)) := by
        show pAt (lTk Y tl) (nk == 6) i _ = _
        unfold pAt
        by_cases c : 300 ≤ lTk Y tl i
        · rw [if_pos c, if_pos c]
        · rw [if_neg c, if_neg c, if_neg h1, if_neg h1]
      rw [e0] at hgoal
      cases hr : pAt (lTk Y tl) (nk == 6) i (.inl (3, i)) with
      | inl z => rw [hr] at hgoal h2; exact hgoal M1 h2
      | inr z => rw [hr] at hgoal h2; exact hgoal M1 h2.1 h2.2
    · rcases h2 with ⟨h2, -⟩ | ⟨h2, g2, x2⟩
      · omega
      have htn : lTk Y tl i ≠ -1 := fun z => by rw [z] at h1; exact absurd h1 (by decide)
      have hiK := hE.lt hi htn
      have hnk2 : M1 118 27 = nI nk := by rw [x2.2 27 (by omega)]; exact hnk
      have e0 : pOne (lTk Y tl) (nk == 6) (k + 1) i = if lTk Y tl i = 40 then pPass (lTk Y tl) 41 (pSum (lTk Y tl) (pOne (lTk Y tl) (nk == 6) k) (i + 1)) else pNeg (pOne (lTk Y tl) (nk == 6) k (i + 1)) := by
        show pAt (lTk Y tl) (nk == 6) i _ = _
        unfold pAt
        rw [if_neg (fun z => by rcases h1 with h1 | h1 <;> (rw [h1] at z; exact absurd z (by decide))), if_pos h1]
      rw [e0] at hgoal
      rw [show 8 - (k + 1) + 1 = 8 - k by omega] at g2
      by_cases c : lTk Y tl i = 40
      · rw [if_pos c] at hgoal g2
        have hlb : (((b0 ++ [f]) ++ List.replicate q 7) ++ [6]).length = ((b0 ++ [f]) ++ List.replicate q 7).length + 1 := by rw [List.length_append]; rfl
        have hbq : ((b0 ++ [f]) ++ List.replicate q 7).length = b0.length + 1 + q := by simp; omega
        refine simSum hd hE (by omega) H (b0 := (b0 ++ [f]) ++ List.replicate q 7) (f := 6) (Or.inr rfl) (by omega) (i + 1) wt e M1 g2 hnk2 (by omega) hiK (by omega) (fun p hp => ⟨(hw p hp).1, by have := (hw p hp).2; omega⟩) ?_
        have hgs := pSum_go hE hG (i + 1) hiK
        cases hr : pSum (lTk Y tl) (pOne (lTk Y tl) (nk == 6) k) (i + 1) with
        | inl z =>
          obtain ⟨fl, j2⟩ := z
          rw [hr] at hgoal
          exact fun M3 h9 => hgoal M3 (gE.pre x2 h9)
        | inr z =>
          obtain ⟨j2, c2⟩ := z
          rw [hr] at hgoal hgs
          obtain ⟨g4, g5, g6, -⟩ := hgs
          intro M3 pd e3 n1 n2 n3 n4 n5 n6
          have elen : e3.length + pd.length = e.length + c2.length := by
            have := congrArg List.length n4
            simpa using this
          by_cases c41 : lTk Y tl j2 = 41
          · have ep : pPass (lTk Y tl) 41 (.inr (j2, c2)) = .inr (j2 + 1, c2) := by
              show (if lTk Y tl j2 = 41 then Sum.inr (j2 + 1, c2) else .inl (1, j2)) = _
              rw [if_pos c41]
            rw [ep] at hgoal
            have hz3 : zlo (b0.length + 1 + q + 1) 3 wt := by
              have := zlo_app (D := b0.length + 1 + q + 1) (rk := 3) (b := b0.length + 1) (w0 := wt) (pa := []) (by omega) (by omega) hw (fun p hp => by simp at hp)
              rwa [List.append_nil] at this
            refine lp_2 n1.2.2.1.1 n1.2.2.2.1 (kX12_goesOn_close (D := b0.length + 1 + q + 1) (by omega) (by omega) (by omega) rfl (by omega) (by omega) n1 c41 (by omega) (by omega) (by omega) (by rw [List.length_append]; omega) (by rw [hbq] at n2; exact n2) hz3) ?_
            rintro M4 ⟨r1, r2⟩
            refine hgoal M4 ?_ ((x2.trans n6).trans r2)
            rw [n4, show 8 - k - 1 - q = 8 - (k + 1) - q by omega] at r1
            have er : (e ++ c2.map zPw) ++ List.replicate q ((402 : Int32), (0 : Int32)) = e ++ (c2 ++ List.replicate q (-4)).map zPw := by
              rw [List.map_append, List.map_replicate, List.append_assoc]
              rfl
            rw [er] at r1
            exact r1
          · have ep : pPass (lTk Y tl) 41 (.inr (j2, c2)) = .inl (1, j2) := by
              show (if lTk Y tl j2 = 41 then Sum.inr (j2 + 1, c2) else .inl (1, j2)) = _
              rw [if_neg c41]
            rw [ep] at hgoal
            refine lp_2 n1.2.2.1.1 n1.2.2.2.1 (kX12_goesOn_bad (f := 6) (by omega) rfl (by omega) (by omega) n1 n5 (fun _ => c41) (fun z => absurd z (by decide))) ?_
            intro M4 h9
            exact hgoal M4 (gE.pre (x2.trans n6) h9)
      · rw [if_neg c] at hgoal g2
        have el : ((b0 ++ [f]) ++ List.replicate q 7) ++ [7] = (b0 ++ [f]) ++ List.replicate (q + 1) 7 := by
          rw [List.replicate_succ', ← List.append_assoc]
        rw [el] at g2
        have hl7 : ((b0 ++ [f]) ++ List.replicate (q + 1) 7).length = ((b0 ++ [f]) ++ List.replicate q 7).length + 1 := by simp; omega
        refine H (i + 1) (q + 1) b0 f wt e M1 g2 hnk2 hf (by omega) (by omega) (by omega) hiK hwl hw ?_
        cases hr : pOne (lTk Y tl) (nk == 6) k (i + 1) with
        | inl z =>
          obtain ⟨fl, j2⟩ := z
          rw [hr] at hgoal
          exact fun M3 h9 => hgoal M3 (gE.pre x2 h9)
        | inr z =>
          obtain ⟨j2, c2⟩ := z
          rw [hr] at hgoal
          intro M3 n1 n2
          refine hgoal M3 ?_ (x2.trans n2)
          have er : c2 ++ List.replicate (q + 1) (-4 : Int32) = (c2 ++ [-4]) ++ List.replicate q (-4) := by
            rw [List.append_assoc, List.replicate_succ]
            rfl
          rw [er, show 8 - k - (q + 1) = 8 - (k + 1) - q by omega] at n1
          exact n1
end SIM
