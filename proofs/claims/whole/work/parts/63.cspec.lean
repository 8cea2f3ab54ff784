/-! CONTRACTS 38: size, trace, poly, own, often, commute, keeps on the class's side -/
/-- what Spectrum and Basis change -/
def cW (M M' : a_M) : Prop := cSp M' ∧ ∀ i, (i < 19 ∨ 29 < i) → M' i = M i
theorem cW.rfl {M : a_M} (h : cSp M) : cW M M := ⟨h, fun _ _ => Eq.refl _⟩
theorem zHt_tu {n p : Nat} {u w : Int32} (h : zHt n p u w) : ∃ m τ, m ≤ n ∧ u = nI m ∧ w = zTu τ ∧ zTo n p τ := by
  obtain ⟨m, hm, hu, hw | ⟨k, hk, hw, hr⟩⟩ := h
  · exact ⟨m, none, hm, hu, hw, fun k hk => by cases hk⟩
  · exact ⟨m, some k, hm, hu, hw, fun k' hk' => by cases hk'; exact ⟨hk, hr⟩⟩
theorem zcf_cong {D : Nat} {c c' : Nat → Nat} {i s : Int32} (h : ∀ z, z ≤ D → c z = c' z) (hz : zcf D c i s) : zcf D c' i s := by
  rcases hz with ⟨z, h1, h2, h3⟩ | hz
  · exact Or.inl ⟨z, h1, h2, by rw [← h z h1]; exact h3⟩
  · exact Or.inr hz
theorem zof1_eq {p w : Nat} {c : Nat → Nat} (hw : 1 ≤ w) : zro0 p w c = zof1 p w c := by
  funext a
  obtain ⟨D, rfl⟩ := a_d1 hw
  unfold zro0 zof1
  show (zhr p a c (D + 1) (D + 2) == 0) = decide (0 < (if zhr p a c (D + 1) (D + 2) = 0 then zof p a D (fun i => zhr p a c (D + 1) (D + 1 - i)) + 1 else 0))
  by_cases h : zhr p a c (D + 1) (D + 2) = 0
  · rw [if_pos h, h]; simp
  · rw [if_neg h]; simp [h]
theorem zSc_lt {p n r e m : Nat} {τ : Option Nat} (hp : 1 < p) (z : Nat) : zSc p n r e m τ z < p := zQ_lt hp _ _ _
theorem zSc_N {p n r e m : Nat} (hn : n < 8) (hn2 : 2 ≤ n) : zSc p n r e m none = zPs p n (zbd n r) e m := funext fun z => zPs_c hn hn2 z
section CS
variable {X : a_X} {ad : Nat → Nat} {ca : Nat → ClassId} {d x : Nat} {M : a_M} {S : Nat → Nat} {V : Nat → Nat → Nat}
theorem kX11_size (hd : 5 ≤ d) (u w : Int32) (hS : cSt M 44 S V) (hw : wSt S V) (hC : cSp M) : mX11_size X ad ca d x [.ref 0, .int u, .int w] M (q_i (PT x) (fun s M' => cW M M' ∧ rSize (S 0) (S 2) u w s)) := by
  obtain ⟨d, rfl⟩ := a_d1 (show 1 ≤ d by omega)
  refine eX11_size _ _ (bX11_size_0 _ _ ⟨_, kX11_hasSector (by omega) hS hw, ?_⟩)
  rintro v1 M ⟨rfl, hv⟩
  refine ⟨fun h => ?_, fun h => ⟨_, rfl, rfl, cW.rfl hC, Or.inr ⟨?_, rfl⟩⟩⟩
  · rcases hv with ⟨rfl, hz⟩ | ⟨rfl, hv⟩
    · obtain ⟨m, τ, hm, rfl, rfl, hτ⟩ := zHt_tu hz
      refine ⟨_, kX0_gather (by omega) (o := 45) rfl hS.1 hw.1 hm hτ, ?_⟩
      rintro M2 ⟨b1, b2⟩
      refine ⟨_, rfl, rfl, ⟨hC.same (fun i hi => b2 i (by omega)), fun i hi => b2 i (by omega)⟩, Or.inl ⟨m, hm, rfl, ?_⟩⟩
      cases τ with
      | none => exact Or.inl ⟨rfl, b1.1⟩
      | some k => exact Or.inr ⟨k, (hτ k rfl).1, rfl, (hτ k rfl).2, b1.1⟩
    · exact absurd rfl h
  · rcases hv with ⟨rfl, -⟩ | ⟨-, hv⟩
    · exact absurd h (by decide)
    · exact hv
/-- the look of Spectrum, with the class's own rule -/
theorem kX8_lk (hd : 5 ≤ d) {m : Nat} {τ : Option Nat} (hS : cSt M 44 S V) (hw : wSt S V) (hC : cSp M) (hm : m ≤ S 0) (hτ : zTo (S 0) (S 2) τ) :
    mX8_look X ad ca d x [.ref 23, .ref 45, .int (nI m), .int (zTu τ)] M (q_v (PT x) (fun M' => cW M M' ∧ M' 23 9 = nI (zSL (S 0) m τ).length ∧ M' 24 2 = nI (S 2) ∧ (zSL (S 0) m τ).length ≤ 35 ∧ 0 < S 2 ∧ S 2 ≤ 97 ∧ ∀ z, z ≤ (zSL (S 0) m τ).length → M' 29 z = nI (zSc (S 2) (S 0) (S 1) (S 4) m τ z) ∧ zSc (S 2) (S 0) (S 1) (S 4) m τ z < S 2)) := by
  have hpb := zpl_b _ hw.1.2.2.2.1
  refine Mt.mv (kX8_look hd (o := 45) rfl (by decide) hC hS.1 hw.1 hm hτ) ?_
  rintro M' ⟨g1, g2, g3⟩
  exact ⟨⟨g2, g3⟩, g1.2.1, g1.1.2.2.1, zSL_len hw.1.1 hm, by omega, by omega, fun z hz => ⟨g1.2.2 z hz, zSc_lt (by omega) z⟩⟩
theorem kX11_trace (hd : 6 ≤ d) (u w : Int32) (hS : cSt M 44 S V) (hw : wSt S V) (hC : cSp M) : mX11_trace X ad ca d x [.ref 0, .int u, .int w] M (q_i (PT x) (fun s M' => cW M M' ∧ rTrace (S 2) (S 0) (zbd (S 0) (S 1)) (S 4) u w s)) := by
  obtain ⟨d, rfl⟩ := a_d1 (show 1 ≤ d by omega)
  have no : (¬ ∃ m j, m ≤ S 0 ∧ j < 100 ∧ u = nI m ∧ w = nI j) → wX11_trace X ad ca d x (q_i (PT x) (fun s M' => cW M M' ∧ rTrace (S 2) (S 0) (zbd (S 0) (S 1)) (S 4) u w s)) 24 [] M := fun h => bX11_trace_24 ⟨_, rfl, rfl, cW.rfl hC, Or.inr ⟨h, rfl⟩⟩
  refine eX11_trace _ _ (bX11_trace_0 _ _ ⟨_, kX6_isCount (by omega) rfl _ hS.1.1 hw.1.1, ?_⟩)
  rintro v1 M ⟨rfl, rfl⟩
  refine ⟨fun h => no ?_, fun h => ⟨fun h2 => no ?_, fun h2 => ⟨fun h3 => ?_, fun h3 => no ?_⟩⟩⟩
  · rintro ⟨m, j, hm, hj, rfl, rfl⟩
    rw [if_pos ⟨m, hm, rfl⟩] at h
    exact absurd h (by decide)
  · rintro ⟨m, j, hm, hj, rfl, rfl⟩
    exact nI_pos (by omega) h2
  · obtain ⟨m, hm, rfl⟩ : ∃ k, k ≤ S 0 ∧ u = nI k := Classical.byContradiction fun q => h (if_neg q)
    obtain ⟨j, hj, rfl⟩ : ∃ j, j < 100 ∧ w = nI j := by
      rcases pk_ix w (n := 100) (by omega) with q | q | q
      · exact absurd q h2
      · exact absurd h3 (fun q2 => (fa_of_lt q2).2.1 q)
      · exact q
    refine ⟨_, kX8_lk (τ := none) (by omega) hS hw hC hm (fun k hk => by cases hk), ?_⟩
    rintro M2 ⟨g1, g2, g3, g4, g5, g6, g7⟩
    refine ⟨_, kX8_traceOf (by omega) g2 g3 g4 g5 g6 g7 hj, ?_⟩
    rintro v3 M3 ⟨rfl, k2⟩
    refine ⟨_, rfl, rfl, ⟨g1.1.same (fun i hi => k2 i (by omega)), fun i hi => by rw [k2 i (by omega), g1.2 i hi]⟩, Or.inl ⟨m, j, hm, hj, rfl, rfl, ?_⟩⟩
    rw [zNw_Tr hw.1.2.2.2.1 hw.1.1 hw.1.2.1 hm j]
  · rintro ⟨m, j, hm, hj, rfl, rfl⟩
    exact h3 (nI_lt (b := 100) hj (by omega))
theorem kX11_poly (hd : 6 ≤ d) (u w i : Int32) (hS : cSt M 44 S V) (hw : wSt S V) (hC : cSp M) : mX11_poly X ad ca d x [.ref 0, .int u, .int w, .int i] M (q_i (PT x) (fun s M' => cW M M' ∧ rPoly (S 2) (S 0) (S 1) (S 4) u w i s)) := by
  obtain ⟨d, rfl⟩ := a_d1 (show 1 ≤ d by omega)
  obtain ⟨hn, hn2, hr1, hp, -⟩ := id hw.1
  have hring : M 45 1 = nI (S 1) := hS.1.2.1
  have no : (¬ (zHt (S 0) (S 2) u w ∧ (w = -1 ∨ S 1 = 1))) → wX11_poly X ad ca d x (q_i (PT x) (fun s M' => cW M M' ∧ rPoly (S 2) (S 0) (S 1) (S 4) u w i s)) 27 [] M := fun h => bX11_poly_27 ⟨_, rfl, rfl, cW.rfl hC, Or.inr ⟨h, rfl⟩⟩
  have go : zHt (S 0) (S 2) u w → (w = -1 ∨ S 1 = 1) → wX11_poly X ad ca d x (q_i (PT x) (fun s M' => cW M M' ∧ rPoly (S 2) (S 0) (S 1) (S 4) u w i s)) 29 [(0, .ref 0), (1, .int u), (2, .int w), (3, .int i)] M := by
    intro hz hwr
    obtain ⟨m, τ, hm, rfl, rfl, hτ⟩ := zHt_tu hz
    refine bX11_poly_29 _ _ _ ⟨_, kX8_lk (by omega) hS hw hC hm hτ, ?_⟩
    rintro M2 ⟨g1, g2, g3, g4, g5, g6, g7⟩
    have res : ∀ s, zcf (zSL (S 0) m τ).length (zSc (S 2) (S 0) (S 1) (S 4) m τ) i s → rPoly (S 2) (S 0) (S 1) (S 4) (nI m) (zTu τ) i s := by
      intro s hs
      refine Or.inl ⟨m, hm, rfl, ?_⟩
      cases τ with
      | none => exact Or.inl ⟨rfl, zcf_cong (fun z _ => zPs_c hn hn2 z) hs⟩
      | some k =>
        have hk := hτ k rfl
        obtain ⟨ω, hω⟩ := Option.isSome_iff_exists.mp hk.2
        have hr : S 1 = 1 := by
          rcases hwr with q | q
          · exact absurd q (nI_m1 (by omega))
          · exact q
        exact Or.inr ⟨k, ω, hk.1, rfl, hω, hr, zcf_cong (fun z hz => zPt_c hp hn hn2 hm hk.1 hω hz) hs⟩
    have no2 : (¬ ∃ z, z ≤ (zSL (S 0) m τ).length ∧ i = nI z) → wX11_poly X ad ca d x (q_i (PT x) (fun s M' => cW M M' ∧ rPoly (S 2) (S 0) (S 1) (S 4) (nI m) (zTu τ) i s)) 72 [] M2 := fun h => bX11_poly_72 ⟨_, rfl, rfl, g1, res _ (Or.inr ⟨h, rfl⟩)⟩
    rw [g2]
    refine ⟨fun h1 => no2 ?_, fun h1 => ⟨fun h2 => no2 ?_, fun h2 => ?_⟩⟩
    · rintro ⟨z, hz, rfl⟩
      exact nI_pos (by omega) h1
    · rintro ⟨z, hz, rfl⟩
      exact nI_nlt hz (by omega) h2
    · obtain ⟨z, hz, rfl⟩ := nI_of2 (n := (zSL (S 0) m τ).length) (nI_toInt (by omega)) h1 (fa_of_nlt h2)
      refine ⟨n_in (by omega) (by omega), _, rfl, rfl, g1, res _ (Or.inl ⟨z, hz, rfl, ?_⟩)⟩
      rw [n_cl (by omega)]
      exact (g7 z hz).1
  refine eX11_poly _ _ _ (bX11_poly_0 _ _ _ ⟨_, kX11_hasSector (by omega) hS hw, ?_⟩)
  rintro v1 M1 ⟨rfl, hv⟩
  refine ⟨fun h => no ?_, fun h => ?_⟩
  · rintro ⟨q, -⟩
    rcases hv with ⟨rfl, -⟩ | ⟨-, hv⟩
    · exact absurd h (by decide)
    · exact hv q
  have hz : zHt (S 0) (S 2) u w := by
    rcases hv with ⟨-, q⟩ | ⟨q, -⟩
    · exact q
    · exact absurd q h
  refine ⟨fun h2 => go hz (Or.inl h2), fun h2 => ⟨fun h3 => go hz (Or.inr ?_), fun h3 => no ?_⟩⟩
  · rw [hring] at h3
    have : S 1 ≠ 0 := fun q => h3 (by rw [q]; rfl)
    omega
  · rintro ⟨-, q | q⟩
    · exact h2 q
    · rw [hring, q] at h3
      exact absurd h3 (by decide)
theorem kX11_often (hd : 6 ≤ d) (u w : Int32) (hS : cSt M 44 S V) (hw : wSt S V) (hC : cSp M) : mX11_often X ad ca d x [.ref 0, .int u, .int w] M (q_i (PT x) (fun s M' => cW M M' ∧ rOften (S 2) (S 0) (zbd (S 0) (S 1)) (S 4) u w s)) := by
  obtain ⟨d, rfl⟩ := a_d1 (show 1 ≤ d by omega)
  have hpb := zpl_b _ hw.1.2.2.2.1
  have no : (¬ ∃ m k, m ≤ S 0 ∧ k < S 2 ∧ u = nI m ∧ w = nI k) → wX11_often X ad ca d x (q_i (PT x) (fun s M' => cW M M' ∧ rOften (S 2) (S 0) (zbd (S 0) (S 1)) (S 4) u w s)) 28 [] M := fun h => bX11_often_28 ⟨_, rfl, rfl, cW.rfl hC, Or.inr ⟨h, rfl⟩⟩
  refine eX11_often _ _ (bX11_often_0 _ _ ⟨_, kX6_isCount (by omega) rfl _ hS.1.1 hw.1.1, ?_⟩)
  rintro v1 M ⟨rfl, rfl⟩
  refine ⟨fun h => no ?_, fun h => ⟨_, kX6_isNumber (by omega) rfl _ hS.1.2.2.1 (by omega), ?_⟩⟩
  · rintro ⟨m, j, hm, hj, rfl, rfl⟩
    rw [if_pos ⟨m, hm, rfl⟩] at h
    exact absurd h (by decide)
  rintro v2 M ⟨rfl, rfl⟩
  refine ⟨fun h2 => ?_, fun h2 => no ?_⟩
  · obtain ⟨m, hm, rfl⟩ : ∃ k, k ≤ S 0 ∧ u = nI k := Classical.byContradiction fun q => h (if_neg q)
    obtain ⟨k, hk, rfl⟩ : ∃ k, k < S 2 ∧ w = nI k := Classical.byContradiction fun q => h2 (if_neg q)
    refine ⟨_, kX8_lk (τ := none) (by omega) hS hw hC hm (fun k hk => by cases hk), ?_⟩
    rintro M2 ⟨g1, g2, g3, g4, g5, g6, g7⟩
    refine ⟨_, kX8_howOften (by omega) g2 g3 g4 g5 g6 g7 hk, ?_⟩
    rintro v3 M3 ⟨rfl, k2⟩
    refine ⟨_, rfl, rfl, ⟨g1.1.same (fun i hi => k2 i (by omega)), fun i hi => by rw [k2 i (by omega), g1.2 i hi]⟩, Or.inl ⟨m, k, hm, hk, rfl, rfl, ?_⟩⟩
    rw [zSc_N hw.1.1 hw.1.2.1]
    rfl
  · rintro ⟨m, j, hm, hj, rfl, rfl⟩
    rw [if_pos ⟨j, hj, rfl⟩] at h2
    exact absurd h2 (by decide)
theorem kX11_own (hd : 6 ≤ d) (u w : Int32) (hS : cSt M 44 S V) (hw : wSt S V) (hC : cSp M) : mX11_own X ad ca d x [.ref 0, .int u, .int w] M (q_i (PT x) (fun s M' => cW M M' ∧ rOwn (S 2) (S 0) (zbd (S 0) (S 1)) (S 4) u w s)) := by
  obtain ⟨d, rfl⟩ := a_d1 (show 1 ≤ d by omega)
  have no : (¬ ∃ m, m ≤ S 0 ∧ u = nI m ∧ -1 ≤ w) → wX11_own X ad ca d x (q_i (PT x) (fun s M' => cW M M' ∧ rOwn (S 2) (S 0) (zbd (S 0) (S 1)) (S 4) u w s)) 19 [] M := fun h => bX11_own_19 ⟨_, rfl, rfl, cW.rfl hC, Or.inr ⟨h, rfl⟩⟩
  refine eX11_own _ _ (bX11_own_0 _ _ ⟨_, kX6_isCount (by omega) rfl _ hS.1.1 hw.1.1, ?_⟩)
  rintro v1 M ⟨rfl, rfl⟩
  refine ⟨fun h => no ?_, fun h => ⟨fun h1 => ?_, fun h1 => no ?_⟩⟩
  · rintro ⟨m, hm, rfl, -⟩
    rw [if_pos ⟨m, hm, rfl⟩] at h
    exact absurd h (by decide)
  · obtain ⟨m, hm, rfl⟩ : ∃ k, k ≤ S 0 ∧ u = nI k := Classical.byContradiction fun q => h (if_neg q)
    have ez : zro0 (S 2) (zSL (S 0) m none).length (zSc (S 2) (S 0) (S 1) (S 4) m none) = zof1 (S 2) (zsec (S 0) m).length (zPs (S 2) (S 0) (zbd (S 0) (S 1)) (S 4) m) := by
      rw [zSc_N hw.1.1 hw.1.2.1]
      exact zof1_eq (zsec_pos _ hw.1.1 m hm)
    refine ⟨_, kX8_lk (τ := none) (by omega) hS hw hC hm (fun k hk => by cases hk), ?_⟩
    rintro M2 ⟨g1, g2, g3, g4, g5, g6, g7⟩
    refine ⟨fun h2 => ?_, fun h2 => ⟨_, kX8_howManyOwn (by omega) g2 g3 g4 g5 g6 g7, ?_⟩⟩
    · obtain ⟨i, hi, rfl⟩ : ∃ i, i < 2 ^ 31 ∧ w = nI i := by
        rcases n_m1_or h1 with q | q
        · exact absurd q h2
        · exact q
      refine ⟨_, kX8_ownAt (by omega) g2 g3 g4 g5 g6 g7 hi, ?_⟩
      rintro v3 M3 ⟨rfl, rfl⟩
      refine ⟨_, rfl, rfl, g1, Or.inl ⟨m, hm, rfl, h1, Or.inr ⟨i, rfl, hi, ?_⟩⟩⟩
      rw [ez]
      cases (zfl (zof1 (S 2) (zsec (S 0) m).length (zPs (S 2) (S 0) (zbd (S 0) (S 1)) (S 4) m)) (S 2))[i]? <;> rfl
    · rintro v3 M3 ⟨rfl, rfl⟩
      refine ⟨_, rfl, rfl, g1, Or.inl ⟨m, hm, rfl, h1, Or.inl ⟨h2, ?_⟩⟩⟩
      rw [ez]
  · rintro ⟨m, hm, rfl, q⟩
    exact h1 q
/-- what commute and keeps change -/
def cZ (M M' : a_M) (R : Nat) (RD : Nat → zTx) : Prop := cK M M' ∧ cEx M' R RD ∧ ∀ i, 23 ≤ i → i < 94 → i ≠ 31 → i ≠ 32 → M' i = M i
theorem cZ.rfl {M : a_M} {R : Nat} {RD : Nat → zTx} (h : cEx M R RD) : cZ M M R RD := ⟨cK.rfl M, h, fun _ _ _ _ _ => Eq.refl _⟩
theorem kX11_commute (hd : 8 ≤ d) {R ρ : Nat} {RD : Nat → zTx} {T : zTx} (u w : Int32) (hS : cSt M 44 S V) (hw : wSt S V) (hE : cEx M R RD) (hT : cT M S R RD ρ T) : mX11_commute X ad ca d x [.ref 0, .int u, .int w] M (q_i (PT x) (fun s M' => cZ M M' R RD ∧ rCommute (S 2) (S 0) (S 3) (S 4) T u w s)) := by
  obtain ⟨d, rfl⟩ := a_d1 (show 1 ≤ d by omega)
  have hpb := zpl_b _ hw.1.2.2.2.1
  have no : (¬ (∃ k l, k < S 2 ∧ l < S 2 ∧ u = nI k ∧ w = nI l)) → wX11_commute X ad ca d x (q_i (PT x) (fun s M' => cZ M M' R RD ∧ rCommute (S 2) (S 0) (S 3) (S 4) T u w s)) 24 [] M := fun h => bX11_commute_24 ⟨_, rfl, rfl, cZ.rfl hE, Or.inr ⟨h, rfl⟩⟩
  refine eX11_commute _ _ (bX11_commute_0 _ _ ⟨_, kX6_isNumber (by omega) rfl _ hS.1.2.2.1 (by omega), ?_⟩)
  rintro v1 M ⟨rfl, rfl⟩
  refine ⟨fun h => no ?_, fun h => ⟨_, kX6_isNumber (by omega) rfl _ hS.1.2.2.1 (by omega), ?_⟩⟩
  · rintro ⟨m, j, hm, hj, rfl, rfl⟩
    rw [if_pos ⟨m, hm, rfl⟩] at h
    exact absurd h (by decide)
  rintro v2 M ⟨rfl, rfl⟩
  refine ⟨fun h2 => ?_, fun h2 => no ?_⟩
  · obtain ⟨m, hm, rfl⟩ : ∃ k, k < S 2 ∧ u = nI k := Classical.byContradiction fun q => h (if_neg q)
    obtain ⟨k, hk, rfl⟩ : ∃ k, k < S 2 ∧ w = nI k := Classical.byContradiction fun q => h2 (if_neg q)
    refine ⟨_, kX11_agreesInSectors (v := some k) (by omega) hS hw hE hT hm (fun k' hk' => by cases hk'; exact hk), ?_⟩
    rintro v3 M3 ⟨k1, k2, k3, k4⟩
    refine ⟨?_, _, rfl, rfl, ⟨k1, k2, k3⟩, Or.inl ⟨m, k, hm, hk, rfl, rfl, ?_⟩⟩
    · rcases k4 with ⟨q, -⟩ | ⟨q, -⟩
      · exact Or.inr q
      · exact Or.inl q
    · rw [zAS_T hw.1] at k4
      exact k4
  · rintro ⟨m, j, hm, hj, rfl, rfl⟩
    rw [if_pos ⟨j, hj, rfl⟩] at h2
    exact absurd h2 (by decide)
theorem kX11_keeps (hd : 8 ≤ d) {R ρ : Nat} {RD : Nat → zTx} {T : zTx} (u : Int32) (hS : cSt M 44 S V) (hw : wSt S V) (hE : cEx M R RD) (hT : cT M S R RD ρ T) : mX11_keeps X ad ca d x [.ref 0, .int u] M (q_i (PT x) (fun s M' => cZ M M' R RD ∧ rKeeps (S 2) (S 0) (S 1) (S 3) (S 4) T u s)) := by
  obtain ⟨d, rfl⟩ := a_d1 (show 1 ≤ d by omega)
  have hpb := zpl_b _ hw.1.2.2.2.1
  refine eX11_keeps _ (bX11_keeps_0 _ ⟨_, kX6_isNumber (by omega) rfl _ hS.1.2.2.1 (by omega), ?_⟩)
  rintro v1 M ⟨rfl, rfl⟩
  refine ⟨fun h => bX11_keeps_27 ⟨_, rfl, rfl, cZ.rfl hE, Or.inr ⟨?_, rfl⟩⟩, fun h => ?_⟩
  · rintro ⟨m, hm, rfl⟩
    rw [if_pos ⟨m, hm, rfl⟩] at h
    exact absurd h (by decide)
  obtain ⟨m, hm, rfl⟩ : ∃ k, k < S 2 ∧ u = nI k := Classical.byContradiction fun q => h (if_neg q)
  refine ⟨_, kX11_agreesInSectors (v := none) (by omega) hS hw hE hT hm (fun k' hk' => by cases hk'), ?_⟩
  rintro v3 M3 ⟨k1, k2, k3, k4⟩
  rw [zAS_S hw.1] at k4
  refine ⟨fun h3 => bX11_keeps_27 ⟨_, rfl, rfl, ⟨k1, k2, k3⟩, Or.inl ⟨m, hm, rfl, Or.inr ⟨rfl, ?_⟩⟩⟩, fun h3 => ⟨_, rfl, rfl, ⟨k1, k2, k3⟩, Or.inl ⟨m, hm, rfl, Or.inl ⟨rfl, ?_⟩⟩⟩⟩
  · rcases k4 with ⟨q, -⟩ | ⟨-, q⟩
    · rw [q] at h3; exact absurd h3 (by decide)
    · exact q
  · rcases k4 with ⟨-, q⟩ | ⟨q, -⟩
    · exact q
    · exact absurd q h3
end CS
