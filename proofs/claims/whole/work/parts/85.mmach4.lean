/-! PARSER 10: the reference's machine: goesOn -/
def zpr2 (q : Nat × Nat) : Int32 × Int32 := (nI q.1, 0)
section MM4
variable {X : a_X} {ad : Nat → Nat} {ca : Nat → ClassId} {d x : Nat} {M : a_M} {Y : Nat → Nat} {tl i st : Nat} {op : Nat} {fr : List Nat} {wt : List (Nat × Nat)} {e : List (Int32 × Int32)}
/-- what waits below stays -/
def zlo (D rk : Nat) (w0 : List (Nat × Nat)) : Prop := w0 = [] ∨ ∃ w1 q, w0 = w1 ++ [q] ∧ zop4 q.1 ∧ q.2 < 41 ∧ (q.2 ≠ D ∨ zrk q.1 < rk)
def zhi2 (D rk : Nat) (pm : List (Nat × Nat)) : Prop := ∀ q, q ∈ pm → zop4 q.1 ∧ q.2 = D ∧ rk ≤ zrk q.1
theorem kX12_waitsFor (hd : 4 ≤ d) {o D : Nat} {w1 pm : List (Nat × Nat)} (ho : zop4 o) (hfr : fr.length = D) (hD : D < 41) (h : gX M Y tl i 2 op fr (w1 ++ pm) e) (htk : lTk Y tl i = nI o) (hl : e.length + pm.length < 400) (hw : (w1 ++ pm).length < 80) (hpm : zhi2 D (zrk o) pm) (hw1 : zlo D (zrk o) w1) (hw1l : w1.length < 79) :
    mX12_waitsFor X ad ca d x [.ref 118, .int (nI o)] M (q_v (PT x) (fun M' => gY M' Y tl op fr (w1 ++ [(o, D)]) (e ++ pm.reverse.map zpr2) ∧ nT M' Y tl (i + 1) ∧ xF M M')) := by
  obtain ⟨d, rfl⟩ := a_d1 (show 1 ≤ d by omega)
  have ho48 : o < 48 := by unfold zop4 at ho; omega
  have hr4 : zrk o ≤ 4 := by unfold zrk; split <;> omega
  have gy := h.y
  have g2 := h.2.1
  refine eX12_waitsFor _ (bX12_waitsFor_0 _ ⟨_, kX12_rank (by omega) ho, ?_⟩)
  rintro v M1 ⟨rfl, rfl⟩
  refine ⟨_, kX12_works (rk := zrk o) (D := D) (by omega) hfr hD hr4 gy hl hw hpm hw1, ?_⟩
  rintro M2 ⟨k1, k2, k3⟩
  obtain ⟨a1, a2, a3, a4, a5, a6⟩ := k1
  rw [a5.1, n_cl (by omega), nI_1, a4.1, hfr]
  refine ⟨n_in (by omega) (by omega), n_in (by omega) (by omega), ?_⟩
  generalize hM3 : ms (ms (ms M2 129 w1.length (nI o)) 130 w1.length (nI D)) 118 22 (nI (w1.length + 1)) = M3
  have r : ∀ z, z ≠ 118 → z ≠ 129 → z ≠ 130 → M3 z = M2 z := fun z a b c => by rw [← hM3, ms_row _ _ _ _ _ a, ms_row _ _ _ _ _ c, ms_row _ _ _ _ _ b]
  have r8 : ∀ j, j ≠ 22 → M3 118 j = M2 118 j := fun j hj => by rw [← hM3, ms_no _ _ _ _ _ _ (fun z => hj z.2), ms_row _ _ _ _ _ (by decide), ms_row _ _ _ _ _ (by decide)]
  have gy3 : gY M3 Y tl op fr (w1 ++ [(o, D)]) (e ++ pm.reverse.map zpr2) := by
    refine ⟨⟨by rw [r8 12 (by decide)]; exact a1.1, a1.2.1, fun z hz => by rw [r 121 (by decide) (by decide) (by decide)]; exact a1.2.2.1 z hz, a1.2.2.2⟩, ⟨by rw [r8 17 (by decide)]; exact a2.1, by rw [r8 18 (by decide)]; exact a2.2⟩, by rw [r8 19 (by decide)]; exact a3, ⟨by rw [r8 20 (by decide)]; exact a4.1, fun z g hz => by rw [r 128 (by decide) (by decide) (by decide)]; exact a4.2 z g hz⟩, ⟨by rw [← hM3, ms_is, List.length_append]; rfl, fun z q hz => ?_⟩, ⟨by rw [r8 31 (by decide)]; exact a6.1, fun z q hz => by rw [r 134 (by decide) (by decide) (by decide), r 135 (by decide) (by decide) (by decide)]; exact a6.2 z q hz⟩⟩
    rcases getq_app hz with hz | ⟨rfl, rfl⟩
    · have hlt : z < w1.length := (List.getElem?_eq_some_iff.mp hz).1
      have h9 := a5.2 z q hz
      rw [← hM3, ms_row _ _ _ _ _ (show 129 ≠ 118 by decide), ms_row _ _ _ _ _ (show 129 ≠ 130 by decide), ms_no _ _ _ _ _ _ (fun y => by omega), ms_row _ _ _ _ _ (show 130 ≠ 118 by decide), ms_no _ _ _ _ _ _ (fun y => by omega), ms_row _ _ _ _ _ (show 130 ≠ 129 by decide)]
      exact h9
    · rw [← hM3, ms_row _ _ _ _ _ (show 129 ≠ 118 by decide), ms_row _ _ _ _ _ (show 129 ≠ 130 by decide), ms_is, ms_row _ _ _ _ _ (show 130 ≠ 118 by decide), ms_is]
      exact ⟨rfl, rfl⟩
  have h6 := tk_pos htk (by omega) (by unfold zop4 at ho; omega) (by unfold zop4 at ho; omega)
  have hx3 : xF M1 M3 := k2.trans ⟨fun q a b c d e f => r q a c d, fun j hj => r8 j (by omega)⟩
  refine ⟨_, kX12_nx (i := i) (by omega) gy3 (by rw [r8 13 (by decide), k3 13 (by decide) (by decide)]; exact g2.pos h6.1 h6.2), ?_⟩
  rintro M4 ⟨j1, j2, j3⟩
  exact ⟨rfl, rfl, j1, j2, hx3.trans j3.x⟩
theorem zop4_sg {o : Nat} (h : zop4 o) : zsg o := by unfold zop4 at h; unfold zsg; omega
theorem kX12_goesOn_op (hd : 5 ≤ d) {o D f : Nat} {b0 : List Nat} {w1 pm : List (Nat × Nat)} (ho : zop4 o) (hb : fr = b0 ++ [f]) (hfr : fr.length = D) (hD : D < 40) (h : gX M Y tl i 2 op fr (w1 ++ pm) e) (htk : lTk Y tl i = nI o) (hl : e.length + pm.length < 400) (hw : (w1 ++ pm).length < 80) (hpm : zhi2 D (zrk o) pm) (hw1 : zlo D (zrk o) w1) (hw1l : w1.length < 79) :
    mX12_goesOn X ad ca d x [.ref 118] M (q_v (PT x) (fun M' => gX M' Y tl (i + 1) 1 op fr (w1 ++ [(o, D)]) (e ++ pm.reverse.map zpr2) ∧ xF M M')) := by
  obtain ⟨d, rfl⟩ := a_d1 (show 1 ≤ d by omega)
  have g2 := h.2.1
  obtain ⟨s1, s2⟩ := (rTok_sign g2.2.1 (zop4_sg ho)).mpr htk
  have ho48 : o < 48 := by unfold zop4 at ho; omega
  refine eX12_goesOn (bX12_goesOn_0 ⟨_, kX12_top (by omega) h.2.2.2.2.2.1 hb (by omega), ?_⟩)
  rintro v M1 ⟨rfl, rfl⟩
  have p49 : wX12_goesOn X ad ca d x (q_v (PT x) (fun M' => gX M' Y tl (i + 1) 1 op fr (w1 ++ [(o, D)]) (e ++ pm.reverse.map zpr2) ∧ xF M1 M')) 49 [(0, .ref 118)] M1 := by
    refine bX12_goesOn_49 ?_
    rw [s2]
    refine ⟨_, kX12_waitsFor (by omega) ho hfr (by omega) h htk hl hw hpm hw1 hw1l, ?_⟩
    rintro M2 ⟨k1, k2, k3⟩
    have k1' := k1.s (v := 1)
    exact ⟨rfl, rfl, ⟨k1'.1, k2.w (fun j a b => ms_no _ _ _ _ _ _ (fun z => by omega)), k1'.2.1, ms_is _ _ _ _, k1'.2.2.1, k1'.2.2.2⟩, k3.s (by omega)⟩
  rw [s1, s2]
  have eq : ∀ a, a < 50 → (nI o = nI a ↔ o = a) := fun a ha => nI_eq (by omega) (by omega)
  refine ⟨fun z => absurd rfl z, fun _ => ⟨fun _ => p49, fun z1 => ⟨fun _ => p49, fun z2 => ⟨fun _ => p49, fun z3 => ⟨fun z4 => ?_, fun _ => p49⟩⟩⟩⟩⟩
  exfalso
  rcases ho with rfl | rfl | rfl | rfl
  · exact z1 rfl
  · exact z2 rfl
  · exact z3 rfl
  · exact z4 rfl
/-- no operator -/
theorem wX12_goesOn_no (hd : 1 ≤ d) {Post : Option Value → a_M → a_P → Prop} {f : Nat} (g2 : nT M Y tl i) (hno : ∀ o, zop4 o → lTk Y tl i ≠ nI o) (h65 : wX12_goesOn X ad ca d x Post 65 [(0, .ref 118), (1, .int (nI f))] M) : ((¬ (M 118 15) = 3 → wX12_goesOn X ad ca d x Post 65 [(0, .ref 118), (1, .int (nI f))] M) ∧ ((M 118 15) = 3 → (((M 118 16) = 43 → wX12_goesOn X ad ca d x Post 49 [(0, .ref 118)] M) ∧ (¬ (M 118 16) = 43 → (((M 118 16) = 45 → wX12_goesOn X ad ca d x Post 49 [(0, .ref 118)] M) ∧ (¬ (M 118 16) = 45 → (((M 118 16) = 42 → wX12_goesOn X ad ca d x Post 49 [(0, .ref 118)] M) ∧ (¬ (M 118 16) = 42 → ((¬ (M 118 16) = 47 → wX12_goesOn X ad ca d x Post 65 [(0, .ref 118), (1, .int (nI f))] M) ∧ ((M 118 16) = 47 → wX12_goesOn X ad ca d x Post 49 [(0, .ref 118)] M)))))))))) := by
  have no : ∀ o, zop4 o → M 118 15 = 3 → M 118 16 = nI o → False := fun o ho h1 h2 => hno o ho ((rTok_sign g2.2.1 (zop4_sg ho)).mp ⟨h1, h2⟩)
  exact ⟨fun _ => h65, fun q => ⟨fun z => (no 43 (by unfold zop4; omega) q z).elim, fun _ => ⟨fun z => (no 45 (by unfold zop4; omega) q z).elim, fun _ => ⟨fun z => (no 42 (by unfold zop4; omega) q z).elim, fun _ => ⟨fun _ => h65, fun z => (no 47 (by unfold zop4; omega) q z).elim⟩⟩⟩⟩⟩
theorem kX12_goesOn_bad (hd : 3 ≤ d) {f : Nat} {b0 : List Nat} (hb : fr = b0 ++ [f]) (hf9 : f < 10) (hfl : fr.length ≤ 40) (h : gX M Y tl i 2 op fr wt e) (hno : ∀ o, zop4 o → lTk Y tl i ≠ nI o) (h41 : f = 6 → lTk Y tl i ≠ 41) (h59 : f = 1 → lTk Y tl i ≠ 59) :
    mX12_goesOn X ad ca d x [.ref 118] M (q_v (PT x) (fun M' => gE M M' Y tl 1 i)) := by
  obtain ⟨d, rfl⟩ := a_d1 (show 1 ≤ d by omega)
  have g2 := h.2.1
  have g3 := h.2.2.1
  refine eX12_goesOn (bX12_goesOn_0 ⟨_, kX12_top (by omega) h.2.2.2.2.2.1 hb hfl, ?_⟩)
  rintro v M1 ⟨rfl, rfl⟩
  have p137 : wX12_goesOn X ad ca d x (q_v (PT x) (fun M' => gE M1 M' Y tl 1 i)) 137 [(0, .ref 118)] M1 := bX12_goesOn_137 ⟨_, kX12_errs (f := 1) (by omega) g3.1 g2, fun M2 h2 => ⟨rfl, rfl, h2⟩⟩
  have p116 : wX12_goesOn X ad ca d x (q_v (PT x) (fun M' => gE M1 M' Y tl 1 i)) 116 [(0, .ref 118), (1, .int (nI f))] M1 := by
    refine bX12_goesOn_116 _ ⟨fun _ => p137, fun z => ⟨_, kX12_isSign (s := 59) (by omega) g2 (by unfold zsg; omega), ?_⟩⟩
    rintro v M2 ⟨rfl, rfl⟩
    have hf1 : f = 1 := (nI_eq (b := 1) (by omega) (by omega)).mp z
    rw [if_neg (show ¬ lTk Y tl i = nI 59 from h59 hf1)]
    exact ⟨fun _ => p137, fun z => absurd rfl z⟩
  refine wX12_goesOn_no (by omega) g2 hno (bX12_goesOn_65 _ ⟨fun _ => p116, fun z => ⟨_, kX12_isSign (s := 41) (by omega) g2 (by unfold zsg; omega), ?_⟩⟩)
  rintro v M2 ⟨rfl, rfl⟩
  have hf6 : f = 6 := (nI_eq (b := 6) (by omega) (by omega)).mp z
  rw [if_neg (show ¬ lTk Y tl i = nI 41 from h41 hf6)]
  exact ⟨fun _ => p116, fun z => absurd rfl z⟩
theorem kX12_goesOn_close (hd : 4 ≤ d) {f q D : Nat} {b0 : List Nat} {w0 pd : List (Nat × Nat)} (hf : f ≠ 7) (hf9 : f < 10) (hfr : fr = ((b0 ++ [f]) ++ List.replicate q 7) ++ [6]) (hD : fr.length = D) (hD40 : D < 40) (h : gX M Y tl i 2 op fr (w0 ++ pd) e) (htk : lTk Y tl i = 41) (hq : q + 1 ≤ op) (hop : op < 9) (hl : e.length + pd.length + q < 400) (hw : (w0 ++ pd).length < 80) (hpd : zhi2 D 3 pd) (hw0 : zlo D 3 w0) :
    mX12_goesOn X ad ca d x [.ref 118] M (q_v (PT x) (fun M' => gX M' Y tl (i + 1) 2 (op - 1 - q) (b0 ++ [f]) w0 ((e ++ pd.reverse.map zpr2) ++ List.replicate q (402, 0)) ∧ xF M M')) := by
  obtain ⟨d, rfl⟩ := a_d1 (show 1 ≤ d by omega)
  have g2 := h.2.1
  have hno : ∀ o, zop4 o → lTk Y tl i ≠ nI o := fun o ho z => by
    rw [htk] at z
    have := (nI_eq (a := 41) (by omega) (by unfold zop4 at ho; omega)).mp z
    unfold zop4 at ho; omega
  refine eX12_goesOn (bX12_goesOn_0 ⟨_, kX12_top (by omega) h.2.2.2.2.2.1 hfr (by omega), ?_⟩)
  rintro v M1 ⟨rfl, rfl⟩
  refine wX12_goesOn_no (f := 6) (by omega) g2 hno (bX12_goesOn_65 _ ⟨fun z => absurd rfl z, fun _ => ⟨_, kX12_isSign (s := 41) (by omega) g2 (by unfold zsg; omega), ?_⟩⟩)
  rintro v M2 ⟨rfl, rfl⟩
  rw [if_pos (show lTk Y tl i = nI 41 from htk)]
  refine ⟨fun z => absurd z (by decide), fun _ => ⟨_, kX12_works (rk := 3) (D := D) (by omega) hD (by omega) (by omega) h.y (by omega) hw hpd hw0, ?_⟩⟩
  rintro M3 ⟨k1, k2, k3⟩
  obtain ⟨a1, a2, a3, a4, a5, a6⟩ := k1
  have hlen : fr.length = ((b0 ++ [f]) ++ List.replicate q 7).length + 1 := by rw [hfr, List.length_append]; rfl
  obtain ⟨o1, ho1⟩ := a_d1 (show 1 ≤ op by omega)
  rw [a4.1, hlen, nI_pred, a3, ho1, nI_pred]
  generalize hM4 : ms (ms M3 118 20 (nI ((b0 ++ [f]) ++ List.replicate q 7).length)) 118 19 (nI o1) = M4
  have r : ∀ z, z ≠ 118 → M4 z = M3 z := fun z hz => by rw [← hM4, ms_row _ _ _ _ _ hz, ms_row _ _ _ _ _ hz]
  have r8 : ∀ j, j ≠ 20 → j ≠ 19 → M4 118 j = M3 118 j := fun j a b => by rw [← hM4, ms_no _ _ _ _ _ _ (fun z => b z.2), ms_no _ _ _ _ _ _ (fun z => a z.2)]
  have gy : gY M4 Y tl o1 ((b0 ++ [f]) ++ List.replicate q 7) w0 (e ++ pd.reverse.map zpr2) := by
    refine ⟨⟨by rw [r8 12 (by decide) (by decide)]; exact a1.1, a1.2.1, fun z hz => by rw [r 121 (by decide)]; exact a1.2.2.1 z hz, a1.2.2.2⟩, ⟨by rw [r8 17 (by decide) (by decide)]; exact a2.1, by rw [r8 18 (by decide) (by decide)]; exact a2.2⟩, by rw [← hM4, ms_is], ⟨by rw [← hM4, ms_no _ _ _ _ _ _ (by omega), ms_is], fun z g9 hz => ?_⟩, ⟨by rw [r8 22 (by decide) (by decide)]; exact a5.1, fun z q hz => by rw [r 129 (by decide), r 130 (by decide)]; exact a5.2 z q hz⟩, ⟨by rw [r8 31 (by decide) (by decide)]; exact a6.1, fun z q hz => by rw [r 134 (by decide), r 135 (by decide)]; exact a6.2 z q hz⟩⟩
    rw [r 128 (by decide)]
    have hlt : z < ((b0 ++ [f]) ++ List.replicate q 7).length := (List.getElem?_eq_some_iff.mp hz).1
    exact a4.2 z g9 (by rw [hfr, List.getElem?_append_left hlt]; exact hz)
  have h6 := tk_pos (b := 41) htk (by omega) (by omega) (by omega)
  have hx4 : xF M2 M4 := k2.trans ⟨fun q a b c d e f => r q a, fun j hj => r8 j (by omega) (by omega)⟩
  refine ⟨_, kX12_nx (i := i) (by omega) gy (by rw [r8 13 (by decide) (by decide), k3 13 (by decide) (by decide)]; exact g2.pos h6.1 h6.2), ?_⟩
  rintro M5 ⟨j1, j2, j3⟩
  refine ⟨_, kX12_oneIsOver (by omega) hf hf9 j1 j2 (by omega) (by omega) (by simp; omega) (by omega), ?_⟩
  rintro M6 ⟨n1, n2⟩
  exact ⟨rfl, rfl, by rw [show o1 + 1 - 1 - q = o1 - q by omega]; exact n1, (hx4.trans j3.x).trans n2⟩
end MM4
