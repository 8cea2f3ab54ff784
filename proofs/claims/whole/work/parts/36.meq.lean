/-! CONTRACTS 17: the exchange equation on the reference's side -/
def zxw (p t e : Nat) (T : zTx) (i j u : Nat) (f : Nat → Nat) (y : Nat) : Nat := zx p i j (zW T p t e 0 u) (zW T p t e 1 u) (zW T p t e 2 u) f y
def zls (p u v : Nat) : Nat := (u + p - v) % p
/-- the exchange equation for u and v, as the document states it -/
def zHb (p t e : Nat) (T : zTx) (u v : Nat) : Bool := (List.range 8).all fun a => (List.range 8).all fun y => zxw p t e T 0 1 (zls p u v) (zxw p t e T 0 2 u (zxw p t e T 1 2 v (zu a))) y == zxw p t e T 1 2 v (zxw p t e T 0 2 u (zxw p t e T 0 1 (zls p u v) (zu a))) y
def zEn (hb : Nat → Bool) : Nat → Nat
  | 0 => 0
  | i + 1 => zEn hb i + (if hb i = true then 1 else 0)
def zEf (hb : Nat → Bool) : Nat → Option Nat
  | 0 => none
  | i + 1 => match zEf hb i with
    | some q => some q
    | none => if hb i = true then none else some i
theorem zEn_le (hb : Nat → Bool) : ∀ i, zEn hb i ≤ i
  | 0 => Nat.le_refl _
  | i + 1 => by have := zEn_le hb i; unfold zEn; split <;> omega
theorem zEf_lt (hb : Nat → Bool) : ∀ i q, zEf hb i = some q → q < i
  | 0, q => fun h => by cases h
  | i + 1, q => fun h => by
    unfold zEf at h
    split at h
    · rename_i q' hq
      have := zEf_lt hb i q' hq
      cases h
      omega
    · split at h
      · cases h
      · cases h; omega
/-- pairs (u, v) in a row -/
def zHq (p t e : Nat) (T : zTx) (q : Nat) : Bool := zHb p t e T (q / p) (q % p)
def rEq (p t e : Nat) (T : zTx) (w s : Int32) : Prop := (w = 0 ∧ s = nI (zEn (zHq p t e T) (p * p))) ∨ (w = 1 ∧ s = match zEf (zHq p t e T) (p * p) with | some q => nI (q / p) | none => -1) ∨ (w = 2 ∧ s = match zEf (zHq p t e T) (p * p) with | some q => nI (q % p) | none => -1) ∨ (w ≠ 0 ∧ w ≠ 1 ∧ w ≠ 2 ∧ s = -1)
section Z18
variable {X : a_X} {ad : Nat → Nat} {ca : Nat → ClassId} {d x : Nat} {M : a_M}
/-- weights laid -/
def mLw (M : a_M) (p t e : Nat) (T : zTx) (u : Nat) : Prop := M 118 35 = nI (zW T p t e 0 u) ∧ M 118 36 = nI (zW T p t e 1 u) ∧ M 118 37 = nI (zW T p t e 2 u)
theorem kX12_lw (hd : 5 ≤ d) {k n r p t e u : Nat} {T : zTx} (hT : mT M k T) (hH : mH M n r p t e) (hw : wH n r p t e) (hu : u < p) :
    mX12_laysWeights X ad ca d x [.ref 118, .int (nI u)] M (q_v (PT x) (fun M' => mLw M' p t e T u ∧ mK M M' ∧ ∀ o, 137 ≤ o → M' o = M o)) := by
  refine (kX12_laysWeights hd hT hH hw hu).mv ?_
  rintro M1 ⟨h1, h2, h3, h4, h5⟩
  exact ⟨⟨h1, h2, h3⟩, ⟨fun o q1 q2 => h5 o q2 (by omega), fun j hj => h4 j (by omega)⟩, fun o ho => h5 o (by omega) (by omega)⟩
theorem kX12_ex8 (hd : 1 ≤ d) {k n r p t e u i j : Nat} {T : zTx} {f : Nat → Nat} (hT : mT M k T) (hH : mH M n r p t e) (hw : wH n r p t e) (hu : u < p) (hl : mLw M p t e T u) (hi : i < 3) (hj : j < 3) (hij : i ≠ j) (hf : ∀ y, y < 8 → M 137 y = nI (f y) ∧ f y < p) :
    mX12_exchanges X ad ca d x [.ref 118, .int (nI i), .int (nI j), .int 8] M (q_v (PT x) (fun M' => (∀ y, y < 8 → M' 137 y = nI (zxw p t e T i j u f y) ∧ zxw p t e T i j u f y < p) ∧ mK M M' ∧ M' 118 = M 118 ∧ ∀ o, 139 ≤ o → M' o = M o)) := by
  have hpb := zpl_b p hw.2.2.2.1
  have hA := zW_ok hw hT.2.2.2.2 (show 0 < 3 by omega) hu
  have hB := zW_ok hw hT.2.2.2.2 (show 1 < 3 by omega) hu
  have hC := zW_ok hw hT.2.2.2.2 (show 2 < 3 by omega) hu
  refine (kX12_exchanges (m := 3) hd hH.2.2.1 hw.2.2.2.1 (by omega) hi hj hij hl.1 hl.2.1 hl.2.2 hA hB hC hf).mv ?_
  rintro M1 ⟨h1, h2⟩
  exact ⟨fun y hy => ⟨h1 y hy, zx_lt (by omega)⟩, ⟨fun o q1 q2 => h2 o (by omega) (by omega), fun j _ => by rw [h2 118 (by omega) (by omega)]⟩, h2 118 (by omega) (by omega), fun o ho => h2 o (by omega) (by omega)⟩
theorem kX12_row8 (hd : 1 ≤ d) {a p : Nat} (ha : a < 8) (hp : 1 < p) : mX12_rowIs X ad ca d x [.ref 118, .int (nI a), .int 8] M (q_v (PT x) (fun M' => (∀ y, y < 8 → M' 137 y = nI (zu a y) ∧ zu a y < p) ∧ mK M M' ∧ M' 118 = M 118 ∧ ∀ o, 138 ≤ o → M' o = M o)) := by
  refine (kX12_rowIs (m := 8) hd (by omega) (by omega)).mv ?_
  rintro M1 rfl
  exact ⟨fun y hy => ⟨by rw [mf_in _ _ _ _ _ _ (Nat.zero_le _) hy, z_unit], zu_lt hp⟩, (mK.rfl _).uf (by omega), mf_no _ _ _ _ _ _ (by omega), fun o ho => mf_no _ _ _ _ _ _ (by omega)⟩
theorem kX12_holds (hd : 6 ≤ d) {k n r p t e u v : Nat} {T : zTx} (hT : mT M k T) (hH : mH M n r p t e) (hw : wH n r p t e) (hu : u < p) (hv : v < p) :
    mX12_holds X ad ca d x [.ref 118, .int (nI u), .int (nI v)] M (q_i (PT x) (fun s M' => mK M M' ∧ s = if zHb p t e T u v = true then 1 else 0)) := by
  obtain ⟨d, rfl⟩ := a_d1 (show 1 ≤ d by omega)
  have hpb := zpl_b p hw.2.2.2.1
  have hl : zls p u v < p := Nat.mod_lt _ (by omega)
  generalize hle : zls p u v = l at hl
  let good : Nat → Nat → Prop := fun a y => zxw p t e T 0 1 l (zxw p t e T 0 2 u (zxw p t e T 1 2 v (zu a))) y = zxw p t e T 1 2 v (zxw p t e T 0 2 u (zxw p t e T 0 1 l (zu a))) y
  have hgood : zHb p t e T u v = true ↔ ∀ a, a < 8 → ∀ y, y < 8 → good a y := by
    unfold zHb
    rw [hle]
    simp only [List.all_eq_true, List.mem_range, beq_iff_eq]
    rfl
  refine eX12_holds _ _ (bX12_holds_0 _ _ ?_)
  have e1 : (nI u - nI v) + nI p = nI (u + p - v) := by
    rw [← pk_sub (show v ≤ u + p by omega), ← nI_add]
    exact (by grind : nI u - nI v + nI p = nI u + nI p - nI v)
  rw [hH.2.2.1, e1, n_rem (by omega) (by omega) (by omega), show (u + p - v) % p = l from hle]
  refine ⟨nI_ne0 (by omega) (by omega), ?_⟩
  refine a_loop (σ := Int32 × a_M) (fun i q => wX12_holds X ad ca d x _ 24 [(0, .ref 118), (1, .int (nI u)), (2, .int (nI v)), (3, .int (nI l)), (4, .int q.1), (5, .int (nI i))] q.2) (fun i q => mK M q.2 ∧ ((q.1 = 1 ∧ ∀ a, a < i → ∀ y, y < 8 → good a y) ∨ (q.1 = 0 ∧ ¬ ∀ a, a < 8 → ∀ y, y < 8 → good a y))) 8 ?_ ?_ 0 (1, M) (Nat.zero_le _) ⟨mK.rfl _, Or.inl ⟨rfl, fun a ha => absurd ha (Nat.not_lt_zero a)⟩⟩
  · rintro ⟨f, M'⟩ ⟨hK, hf⟩
    refine bX12_holds_24 _ _ _ _ _ ⟨fun _ => bX12_holds_206 _ ⟨?_, _, rfl, rfl, hK, ?_⟩, fun h => absurd (nI_le (Nat.le_refl 8) (by omega)) h⟩
    · rcases hf with ⟨q, -⟩ | ⟨q, -⟩
      · exact Or.inr q
      · exact Or.inl q
    · rcases hf with ⟨q1, q2⟩ | ⟨q1, q2⟩
      · rw [if_pos (hgood.mpr q2)]; exact q1
      · rw [if_neg (fun q => q2 (hgood.mp q))]; exact q1
  · rintro i ⟨f, M'⟩ hi ⟨hK, hf⟩ ih
    refine bX12_holds_24 _ _ _ _ _ ⟨fun h => absurd h (nI_ge (b := 8) hi (by omega)), fun _ => ⟨fun hz => bX12_holds_206 _ ⟨Or.inl hz, _, rfl, rfl, hK, ?_⟩, fun hz => ?_⟩⟩
    · rcases hf with ⟨q, -⟩ | ⟨q1, q2⟩
      · exact absurd (q.symm.trans hz) (by decide)
      · rw [if_neg (fun q => q2 (hgood.mp q))]; exact q1
    have hf1 : f = 1 ∧ ∀ a, a < i → ∀ y, y < 8 → good a y := by
      rcases hf with q | ⟨q, -⟩
      · exact q
      · exact absurd q hz
    refine ⟨_, kX12_row8 (by omega) hi (show 1 < p by omega), ?_⟩
    rintro M1 ⟨a1, a2, a3, a4⟩
    have k1 := hK.trans a2
    refine ⟨_, kX12_lw (by omega) (hT.K k1) (hH.K k1) hw hl, ?_⟩
    rintro M2 ⟨b1, b2, b3⟩
    have k2 := k1.trans b2
    refine ⟨_, kX12_ex8 (i := 0) (j := 1) (by omega) (hT.K k2) (hH.K k2) hw hl b1 (by omega) (by omega) (by omega) (fun y hy => by rw [b3 137 (by omega)]; exact a1 y hy), ?_⟩
    rintro M3 ⟨c1, c2, c3, c4⟩
    have k3 := k2.trans c2
    refine ⟨_, kX12_lw (by omega) (hT.K k3) (hH.K k3) hw hu, ?_⟩
    rintro M4 ⟨d1, d2, d3⟩
    have k4 := k3.trans d2
    refine ⟨_, kX12_ex8 (i := 0) (j := 2) (by omega) (hT.K k4) (hH.K k4) hw hu d1 (by omega) (by omega) (by omega) (fun y hy => by rw [d3 137 (by omega)]; exact c1 y hy), ?_⟩
    rintro M5 ⟨e1, e2, e3, e4⟩
    have k5 := k4.trans e2
    refine ⟨_, kX12_lw (by omega) (hT.K k5) (hH.K k5) hw hv, ?_⟩
    rintro M6 ⟨f1, f2, f3⟩
    have k6 := k5.trans f2
    refine ⟨_, kX12_ex8 (i := 1) (j := 2) (by omega) (hT.K k6) (hH.K k6) hw hv f1 (by omega) (by omega) (by omega) (fun y hy => by rw [f3 137 (by omega)]; exact e1 y hy), ?_⟩
    rintro M7 ⟨g1, g2, g3, g4⟩
    have k7 := k6.trans g2
    have key := a_loop (σ := Unit) (fun j _ => wX12_holds X ad ca d x (q_i (PT x) (fun s M' => mK M M' ∧ s = if zHb p t e T u v = true then 1 else 0)) 86 [(0, .ref 118), (1, .int (nI u)), (2, .int (nI v)), (3, .int (nI l)), (4, .int f), (5, .int (nI i)), (6, .int (nI j))] (mf M7 139 0 (M7 137) j)) (fun _ _ => True) 8 ?_ ?_ 0 () (Nat.zero_le _) trivial
    · rw [mf_0] at key; exact key
    · intro _ _
      refine bX12_holds_86 _ _ _ _ _ _ ⟨fun _ => ⟨_, kX12_row8 (by omega) hi (show 1 < p by omega), ?_⟩, fun h => absurd (nI_le (Nat.le_refl 8) (by omega)) h⟩
      have k8 := k7.uf (o := 139) (lo := 0) (i := 8) (f := M7 137) (by omega)
      rintro N1 ⟨a1, a2, a3, a4⟩
      have l1 := k8.trans a2
      have hL1 : mLw N1 p t e T v := by
        unfold mLw
        rw [a3, mf_no _ _ _ _ _ _ (by decide), g3]
        exact f1
      refine ⟨_, kX12_ex8 (i := 1) (j := 2) (by omega) (hT.K l1) (hH.K l1) hw hv hL1 (by omega) (by omega) (by omega) a1, ?_⟩
      rintro N2 ⟨b1, b2, b3, b4⟩
      have l2 := l1.trans b2
      refine ⟨_, kX12_lw (by omega) (hT.K l2) (hH.K l2) hw hu, ?_⟩
      rintro N3 ⟨c1, c2, c3⟩
      have l3 := l2.trans c2
      refine ⟨_, kX12_ex8 (i := 0) (j := 2) (by omega) (hT.K l3) (hH.K l3) hw hu c1 (by omega) (by omega) (by omega) (fun y hy => by rw [c3 137 (by omega)]; exact b1 y hy), ?_⟩
      rintro N4 ⟨d1, d2, d3, d4⟩
      have l4 := l3.trans d2
      refine ⟨_, kX12_lw (by omega) (hT.K l4) (hH.K l4) hw hl, ?_⟩
      rintro N5 ⟨e1, e2, e3⟩
      have l5 := l4.trans e2
      refine ⟨_, kX12_ex8 (i := 0) (j := 1) (by omega) (hT.K l5) (hH.K l5) hw hl e1 (by omega) (by omega) (by omega) (fun y hy => by rw [e3 137 (by omega)]; exact d1 y hy), ?_⟩
      rintro N6 ⟨f1, f2, f3, f4⟩
      have l6 := l5.trans f2
      have h139 : ∀ y, y < 8 → N6 139 y = nI (zxw p t e T 1 2 v (zxw p t e T 0 2 u (zxw p t e T 0 1 l (zu i))) y) := fun y hy => by
        rw [f4 139 (by omega), e3 139 (by omega), d4 139 (by omega), c3 139 (by omega), b4 139 (by omega), a4 139 (by omega), mf_in _ _ _ _ _ _ (Nat.zero_le _) hy]
        exact (g1 y hy).1
      have hcmp : ∀ y, y < 8 → (N6 137 y = N6 139 y ↔ good i y) := fun y hy => by
        rw [h139 y hy, (f1 y hy).1]
        exact nI_eq (by have := (f1 y hy).2; omega) (by have := (g1 y hy).2; omega)
      refine a_loop (σ := Int32) (fun j f' => wX12_holds X ad ca d x (q_i (PT x) (fun s M' => mK M M' ∧ s = if zHb p t e T u v = true then 1 else 0)) 158 [(0, .ref 118), (1, .int (nI u)), (2, .int (nI v)), (3, .int (nI l)), (4, .int f'), (5, .int (nI i)), (6, .int (nI j))] N6) (fun j f' => (f' = 1 ∧ ∀ y, y < j → good i y) ∨ (f' = 0 ∧ ¬ ∀ y, y < 8 → good i y)) 8 ?_ ?_ 0 f (Nat.zero_le _) (Or.inl ⟨hf1.1, fun y hy => absurd hy (Nat.not_lt_zero y)⟩)
      · intro f' hf'
        refine bX12_holds_158 _ _ _ _ _ _ ⟨fun _ => ?_, fun h => absurd (nI_le (Nat.le_refl 8) (by omega)) h⟩
        rw [← nI_succ]
        refine ih (f', N6) ⟨l6, ?_⟩
        rcases hf' with ⟨q1, q2⟩ | ⟨q1, q2⟩
        · refine Or.inl ⟨q1, fun a ha => ?_⟩
          by_cases ea : a = i
          · rw [ea]; exact q2
          · exact hf1.2 a (by omega)
        · exact Or.inr ⟨q1, fun hh => q2 (hh i hi)⟩
      · intro j f' hj hf' ih2
        refine bX12_holds_158 _ _ _ _ _ _ ⟨fun h => absurd h (nI_ge (b := 8) hj (by omega)), fun _ => ⟨fun hz => bX12_holds_191 _ _ _ _ _ ?_, fun hz => ⟨n_in (by omega) (by omega), n_in (by omega) (by omega), fun hq => bX12_holds_191 _ _ _ _ _ ?_, fun hq => ?_⟩⟩⟩
        · rw [← nI_succ]
          refine ih2 0 (Or.inr ⟨rfl, ?_⟩)
          rcases hf' with ⟨q, -⟩ | ⟨-, q⟩
          · rw [q] at hz; exact absurd hz (by decide)
          · exact q
        · rw [n_cl (by omega), hcmp j hj] at hq
          rw [← nI_succ]
          exact ih2 0 (Or.inr ⟨rfl, fun hh => hq (hh j hj)⟩)
        · rw [n_cl (by omega), hcmp j hj] at hq
          rw [← nI_succ]
          refine ih2 1 (Or.inl ⟨rfl, fun y hy => ?_⟩)
          by_cases ey : y = j
          · rw [ey]; exact hq
          · rcases hf' with ⟨-, q⟩ | ⟨q, -⟩
            · exact q y (by omega)
            · exact absurd q hz
    · intro j _ hj _ ih2
      refine bX12_holds_86 _ _ _ _ _ _ ⟨fun h => absurd h (nI_ge (b := 8) hj (by omega)), fun _ => ⟨n_in (by omega) (by omega), n_in (by omega) (by omega), ?_⟩⟩
      rw [n_cl (by omega), mf_s (Nat.zero_le _) (mf_no M7 139 0 (M7 137) j 137 (by decide) ▸ rfl), ← nI_succ]
      exact ih2 () trivial
theorem kX12_equation (hd : 7 ≤ d) {k n r p t e : Nat} {T : zTx} (hT : mT M k T) (hH : mH M n r p t e) (hw : wH n r p t e) (u : Int32) :
    mX12_equation X ad ca d x [.ref 118, .int u] M (q_i (PT x) (fun s M' => mK M M' ∧ rEq p t e T u s)) := by
  obtain ⟨d, rfl⟩ := a_d1 (show 1 ≤ d by omega)
  have hpb := zpl_b p hw.2.2.2.1
  refine eX12_equation _ (bX12_equation_0 _ ⟨_, kX12_in (by omega) _ _ _, ?_⟩)
  rintro v1 M1 ⟨rfl, rfl⟩
  refine ⟨fun h => ?_, fun h => ⟨_, rfl, rfl, mK.rfl _, Or.inr (Or.inr (Or.inr ⟨?_, ?_, ?_, rfl⟩))⟩⟩
  rotate_left
  · rintro rfl; exact absurd h (by decide)
  · rintro rfl; exact absurd h (by decide)
  · rintro rfl; exact absurd h (by decide)
  have hu : u = 0 ∨ u = 1 ∨ u = 2 := by
    have h2 : (0 : Int32) ≤ u ∧ u ≤ 2 := Classical.byContradiction fun q => h (if_neg q)
    rw [fa_le, fa_le] at h2
    have h3 : (0 : Int32).toInt = 0 := rfl
    have h4 : (2 : Int32).toInt = 2 := rfl
    rw [h3, h4] at h2
    rcases (show u.toInt = 0 ∨ u.toInt = 1 ∨ u.toInt = 2 by omega) with q | q | q
    · exact Or.inl ((fa_eq _ _).mpr q)
    · exact Or.inr (Or.inl ((fa_eq _ _).mpr q))
    · exact Or.inr (Or.inr ((fa_eq _ _).mpr q))
  have hpp : p * p < 16384 := Nat.lt_of_le_of_lt (Nat.mul_le_mul hpb.2 hpb.2) (by decide)
  generalize hbe : zHq p t e T = hb
  let fst : Nat → Int32 := fun i => match zEf hb i with | some q => nI (100 * (q / p) + q % p) | none => -1
  have key := a_loop (σ := a_M) (fun i M' => wX12_equation X ad ca d x (q_i (PT x) (fun s M' => mK M1 M' ∧ rEq p t e T u s)) 18 [(0, .ref 118), (1, .int u), (2, .int (nI (zEn hb (i * p)))), (3, .int (fst (i * p))), (4, .int (nI i))] M') (fun i M' => mK M1 M') p ?_ ?_ 0 M1 (Nat.zero_le _) (mK.rfl _)
  · rw [Nat.zero_mul] at key; exact key
  · intro M' hK
    refine bX12_equation_18 _ _ _ _ ?_
    rw [(hH.K hK).2.2.1]
    refine ⟨fun _ => ⟨fun h0 => ⟨fun h1 => ⟨fun h2 => ⟨_, rfl, rfl, hK, ?_⟩, fun h2 => ⟨_, rfl, rfl, hK, ?_⟩⟩, fun h1 => ⟨_, rfl, rfl, hK, ?_⟩⟩, fun h0 => ⟨_, rfl, rfl, hK, ?_⟩⟩, fun h => absurd (nI_le (Nat.le_refl _) (by omega)) h⟩
    · refine Or.inr (Or.inr (Or.inl ⟨?_, ?_⟩))
      · rcases hu with q | q | q
        · exact absurd q h0
        · exact absurd q h2
        · exact q
      · rw [hbe]
        show fst (p * p) - _ = _
        revert h1
        show fst (p * p) ≠ -1 → fst (p * p) - fst (p * p) / 100 * 100 = _
        simp only [fst]
        cases hq : zEf hb (p * p) with
        | none => intro h1; exact absurd rfl h1
        | some q =>
          intro _
          have hq2 := zEf_lt hb _ _ hq
          have hd2 : q / p < p := Nat.div_lt_of_lt_mul hq2
          have hm2 : q % p < p := Nat.mod_lt _ (by omega)
          show nI (100 * (q / p) + q % p) - nI (100 * (q / p) + q % p) / nI 100 * nI 100 = nI (q % p)
          rw [n_rem (by omega) (by omega) (by omega)]
          congr 1
          omega
    · refine Or.inr (Or.inl ⟨h2, ?_⟩)
      rw [hbe]
      revert h1
      show fst (p * p) ≠ -1 → fst (p * p) / 100 = _
      simp only [fst]
      cases hq : zEf hb (p * p) with
      | none => intro h1; exact absurd rfl h1
      | some q =>
        intro _
        have hq2 := zEf_lt hb _ _ hq
        have hd2 : q / p < p := Nat.div_lt_of_lt_mul hq2
        have hm2 : q % p < p := Nat.mod_lt _ (by omega)
        show nI (100 * (q / p) + q % p) / nI 100 = nI (q / p)
        rw [pk_div (by omega) (by omega) (by omega)]
        congr 1
        omega
    · have hn : zEf hb (p * p) = none := by
        revert h1
        show fst (p * p) = -1 → _
        simp only [fst]
        cases hq : zEf hb (p * p) with
        | none => intro _; rfl
        | some q =>
          intro h1
          exfalso
          have hq2 := zEf_lt hb _ _ hq
          have hd2 : q / p < p := Nat.div_lt_of_lt_mul hq2
          have hm2 : q % p < p := Nat.mod_lt _ (by omega)
          have h3 := congrArg Int32.toInt h1
          have h4 : (nI (100 * (q / p) + q % p)).toInt = ((100 * (q / p) + q % p : Nat) : Int) := nI_toInt (by omega)
          have h5 : (-1 : Int32).toInt = -1 := by decide
          have h6 : (nI (100 * (q / p) + q % p)).toInt = (-1 : Int32).toInt := h3
          rw [h4, h5] at h6
          omega
      rcases hu with q | q | q
      · exact absurd q h0
      · exact Or.inr (Or.inl ⟨q, by rw [hbe, hn]⟩)
      · exact Or.inr (Or.inr (Or.inl ⟨q, by rw [hbe, hn]⟩))
    · exact Or.inl ⟨h0, by rw [hbe]⟩
  · intro i M' hi hK ih
    refine bX12_equation_18 _ _ _ _ ?_
    rw [(hH.K hK).2.2.1]
    refine ⟨fun h => absurd h (nI_ge hi (by omega)), fun _ => ?_⟩
    refine a_loop (σ := a_M) (fun j M' => wX12_equation X ad ca d x _ 32 [(0, .ref 118), (1, .int u), (2, .int (nI (zEn hb (i * p + j)))), (3, .int (fst (i * p + j))), (4, .int (nI i)), (5, .int (nI j))] M') (fun j M' => mK M1 M') p ?_ ?_ 0 M' (Nat.zero_le _) hK
    · intro M'' hK2
      refine bX12_equation_32 _ _ _ _ _ ?_
      rw [(hH.K hK2).2.2.1]
      refine ⟨fun _ => ?_, fun h => absurd (nI_le (Nat.le_refl _) (by omega)) h⟩
      rw [← nI_succ, show i * p + p = (i + 1) * p by rw [Nat.succ_mul]]
      exact ih M'' hK2
    · intro j M'' hj hK2 ih2
      refine bX12_equation_32 _ _ _ _ _ ?_
      rw [(hH.K hK2).2.2.1]
      have e1 : hb (i * p + j) = zHb p t e T i j := by
        rw [← hbe]
        unfold zHq
        rw [show i * p + j = j + i * p by omega, Nat.add_mul_div_right _ _ (by omega), Nat.div_eq_of_lt hj, Nat.zero_add, Nat.add_mul_mod_self_right, Nat.mod_eq_of_lt hj]
      have hb1 : ∀ b : Int32, zEn hb (i * p + (j + 1)) = zEn hb (i * p + j) + (if hb (i * p + j) = true then 1 else 0) := fun _ => rfl
      have hf1 : zEf hb (i * p + (j + 1)) = match zEf hb (i * p + j) with | some q => some q | none => if hb (i * p + j) = true then none else some (i * p + j) := rfl
      refine ⟨fun h => absurd h (nI_ge hj (by omega)), fun _ => ⟨_, kX12_holds (by omega) (hT.K hK2) (hH.K hK2) hw hi hj, ?_⟩⟩
      rintro v3 M3 ⟨hK3, hv3⟩
      have hK4 := hK2.trans hK3
      refine ⟨fun hz => ⟨fun hz2 => absurd hz hz2, fun _ => ⟨fun hn => bX12_equation_87 _ _ _ _ _ ?_, fun hn => ?_⟩⟩, fun hz => ⟨fun _ => bX12_equation_87 _ _ _ _ _ ?_, fun hz2 => absurd hz2 hz⟩⟩
      · have hb2 : hb (i * p + j) = false := by
          rw [e1]
          cases hq : zHb p t e T i j with
          | false => rfl
          | true => rw [hv3, hq, if_pos rfl] at hz; exact absurd hz (by decide)
        have hfe : fst (i * p + (j + 1)) = fst (i * p + j) := by
          revert hn
          show fst (i * p + j) ≠ -1 → _
          simp only [fst, hf1]
          cases zEf hb (i * p + j) with
          | none => intro h; exact absurd rfl h
          | some q => intro _; rfl
        rw [← nI_succ, Int32.add_zero, ← hfe]
        have := ih2 M3 hK4
        rw [hb1 0, hb2] at this
        exact this
      · have hb2 : hb (i * p + j) = false := by
          rw [e1]
          cases hq : zHb p t e T i j with
          | false => rfl
          | true => rw [hv3, hq, if_pos rfl] at hz; exact absurd hz (by decide)
        have hfe : fst (i * p + (j + 1)) = 100 * nI i + nI j := by
          have hn2 : zEf hb (i * p + j) = none := by
            revert hn
            show fst (i * p + j) = -1 → _
            simp only [fst]
            cases hq : zEf hb (i * p + j) with
            | none => intro _; rfl
            | some q =>
              intro h1
              exfalso
              have hq2 := zEf_lt hb _ _ hq
              have hle : i * p + j < p * p := by
                have h1 : (i + 1) * p ≤ p * p := Nat.mul_le_mul_right p (by omega)
                rw [Nat.succ_mul] at h1
                omega
              have hd2 : q / p < p := Nat.div_lt_of_lt_mul (by omega)
              have hm2 : q % p < p := Nat.mod_lt _ (by omega)
              have h4 : (nI (100 * (q / p) + q % p)).toInt = ((100 * (q / p) + q % p : Nat) : Int) := nI_toInt (by omega)
              have h5 : (-1 : Int32).toInt = -1 := by decide
              have h6 : (nI (100 * (q / p) + q % p)).toInt = (-1 : Int32).toInt := congrArg Int32.toInt h1
              rw [h4, h5] at h6
              omega
          simp only [fst, hf1, hn2, hb2]
          show nI (100 * ((i * p + j) / p) + (i * p + j) % p) = nI 100 * nI i + nI j
          rw [show i * p + j = j + i * p by omega, Nat.add_mul_div_right _ _ (by omega), Nat.div_eq_of_lt hj, Nat.zero_add, Nat.add_mul_mod_self_right, Nat.mod_eq_of_lt hj, n_mul, nI_add]
        rw [← nI_succ, Int32.add_zero, ← hfe]
        have := ih2 M3 hK4
        rw [hb1 0, hb2] at this
        exact this
      · have hb2 : hb (i * p + j) = true := by
          rw [e1]
          cases hq : zHb p t e T i j with
          | true => rfl
          | false => rw [hv3, hq, if_neg (by decide)] at hz; exact absurd rfl hz
        have hfe : fst (i * p + (j + 1)) = fst (i * p + j) := by
          simp only [fst, hf1]
          cases zEf hb (i * p + j) with
          | none => rw [hb2]; rfl
          | some q => rfl
        rw [← nI_succ, ← nI_succ, ← hfe]
        have := ih2 M3 hK4
        rw [hb1 0, hb2] at this
        exact this
end Z18
