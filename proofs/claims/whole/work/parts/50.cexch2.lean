/-! CONTRACTS 30: the equation and the table on the class's side -/
section Z31
variable {X : a_X} {ad : Nat → Nat} {ca : Nat → ClassId} {d x : Nat} {M : a_M} {S : Nat → Nat} {V : Nat → Nat → Nat}
def zfU (p : Nat) (hb : Nat → Bool) (i : Nat) : Int32 := match zEf hb i with | some q => nI (q / p) | none => -1
def zfV (p : Nat) (hb : Nat → Bool) (i : Nat) : Int32 := match zEf hb i with | some q => nI (q % p) | none => -1
theorem kX1_askAllPairs (hd : 3 ≤ d) {n r p t e : Nat} {T : zTx} (hS : exS M n r p t e T) (hw : wH n r p t e) (hT : wTx T) :
    mX1_askAllPairs X ad ca d x [.ref 13] M (q_v (PT x) (fun M' => exS M' n r p t e T ∧ exQ M' p t e T ∧ M' 13 5 = M 13 5 ∧ ∀ o, o ≠ 13 → M' o = M o)) := by
  obtain ⟨d, rfl⟩ := a_d1 (show 1 ≤ d by omega)
  have hpb := zpl_b p hw.2.2.2.1
  have hp0 : 0 < p := by omega
  have hpp : p * p < 16384 := Nat.lt_of_le_of_lt (Nat.mul_le_mul hpb.2 hpb.2) (by decide)
  refine eX1_askAllPairs (bX1_askAllPairs_0 ⟨fun h0 => ?_, fun h0 => ?_⟩)
  rotate_left
  · refine ⟨rfl, rfl, hS, ?_, rfl, fun _ _ => rfl⟩
    rcases hS.2.2 with q | ⟨-, q⟩
    · exact absurd q h0
    · exact q
  have hRM := hS.1
  have hAM := hS.2.1
  generalize hM0 : ms (ms (ms (ms M 13 6 1) 13 7 0) 13 8 (-1)) 13 9 (-1) = M0
  have f0 : ∀ o, o ≠ 13 → M0 o = M o := fun o ho => by rw [← hM0, ms_row _ _ _ _ _ ho, ms_row _ _ _ _ _ ho, ms_row _ _ _ _ _ ho, ms_row _ _ _ _ _ ho]
  have g5 : M0 13 5 = M 13 5 := by rw [← hM0, ms_no _ _ _ _ _ _ (by decide), ms_no _ _ _ _ _ _ (by decide), ms_no _ _ _ _ _ _ (by decide), ms_no _ _ _ _ _ _ (by decide)]
  have g6 : M0 13 6 = 1 := by rw [← hM0, ms_no _ _ _ _ _ _ (by decide), ms_no _ _ _ _ _ _ (by decide), ms_no _ _ _ _ _ _ (by decide), ms_is]
  have g7 : M0 13 7 = 0 := by rw [← hM0, ms_no _ _ _ _ _ _ (by decide), ms_no _ _ _ _ _ _ (by decide), ms_is]
  have g8 : M0 13 8 = -1 := by rw [← hM0, ms_no _ _ _ _ _ _ (by decide), ms_is]
  have g9 : M0 13 9 = -1 := by rw [← hM0, ms_is]
  generalize hbe : zHq p t e T = hb
  -- the state behind q pairs
  let I : Nat → a_M → Prop := fun q M' => M' 13 7 = nI (zEn hb q) ∧ M' 13 8 = zfU p hb q ∧ M' 13 9 = zfV p hb q ∧ M' 13 5 = M 13 5 ∧ M' 13 6 = 1 ∧ ∀ o, o ≠ 13 → M' o = M o
  have hIS : ∀ q M', I q M' → rH M' 18 n r p t e ∧ exA M' p t e T := fun q M' h => ⟨hRM.same (h.2.2.2.2.2 18 (by decide)), fun u hu => by rw [h.2.2.2.2.2 14 (by decide), h.2.2.2.2.2 15 (by decide), h.2.2.2.2.2 16 (by decide)]; exact hAM u hu⟩
  have hI0 : I 0 M0 := ⟨g7, g8, g9, g5, g6, f0⟩
  refine a_loop (σ := a_M) (fun i M' => wX1_askAllPairs X ad ca d x _ 30 [(0, .ref 13), (1, .int (nI i))] M') (fun i M' => I (i * p) M') p ?_ ?_ 0 M0 (Nat.zero_le _) (by rw [Nat.zero_mul]; exact hI0)
  · intro M1 hI
    obtain ⟨hR1, hA1⟩ := hIS _ _ hI
    refine bX1_askAllPairs_30 _ ?_
    rw [hR1.2.2.1]
    refine ⟨fun _ => ?_, fun h => absurd (nI_le (Nat.le_refl _) (by omega)) h⟩
    have hq : exQ M1 p t e T := by
      unfold exQ
      rw [hbe]
      exact ⟨hI.1, hI.2.1, hI.2.2.1⟩
    exact ⟨rfl, rfl, ⟨hR1, hA1, Or.inr ⟨hI.2.2.2.2.1, hq⟩⟩, hq, hI.2.2.2.1, hI.2.2.2.2.2⟩
  · intro i M1 hi hI ih
    obtain ⟨hR1, -⟩ := hIS _ _ hI
    refine bX1_askAllPairs_30 _ ?_
    rw [hR1.2.2.1]
    refine ⟨fun h => absurd h (nI_ge hi (by omega)), fun _ => ⟨fun h => absurd h (nI_ge (b := 97) (by omega) (by omega)), fun _ => ?_⟩⟩
    refine a_loop (σ := a_M) (fun j M' => wX1_askAllPairs X ad ca d x _ 49 [(0, .ref 13), (1, .int (nI i)), (2, .int (nI j))] M') (fun j M' => I (i * p + j) M') p ?_ ?_ 0 M1 (Nat.zero_le _) hI
    · intro M2 hI2
      obtain ⟨hR2, -⟩ := hIS _ _ hI2
      refine bX1_askAllPairs_49 _ _ ?_
      rw [hR2.2.2.1]
      refine ⟨fun _ => bX1_askAllPairs_112 _ ?_, fun h => absurd (nI_le (Nat.le_refl _) (by omega)) h⟩
      rw [← nI_succ]
      refine ih M2 ?_
      rw [Nat.succ_mul]
      exact hI2
    · intro j M2 hj hI2 ih2
      obtain ⟨hR2, hA2⟩ := hIS _ _ hI2
      have e1 : hb (i * p + j) = zHb p t e T i j := by
        rw [← hbe]
        unfold zHq
        rw [show i * p + j = j + i * p by omega, Nat.add_mul_div_right _ _ (by omega), Nat.div_eq_of_lt hj, Nat.zero_add, Nat.add_mul_mod_self_right, Nat.mod_eq_of_lt hj]
      have ed : (i * p + j) / p = i ∧ (i * p + j) % p = j := by
        rw [show i * p + j = j + i * p by omega, Nat.add_mul_div_right _ _ (by omega), Nat.div_eq_of_lt hj, Nat.zero_add, Nat.add_mul_mod_self_right, Nat.mod_eq_of_lt hj]
        exact ⟨rfl, rfl⟩
      have hqb : i * p + j < p * p := by
        have h1 : (i + 1) * p ≤ p * p := Nat.mul_le_mul_right p (by omega)
        rw [Nat.succ_mul] at h1
        omega
      have hn1 : zEn hb (i * p + (j + 1)) = zEn hb (i * p + j) + (if hb (i * p + j) = true then 1 else 0) := rfl
      have hf1 : zEf hb (i * p + (j + 1)) = match zEf hb (i * p + j) with | some q => some q | none => if hb (i * p + j) = true then none else some (i * p + j) := rfl
      obtain ⟨i7, i8, i9, i5, i6, iF⟩ := hI2
      refine bX1_askAllPairs_49 _ _ ?_
      rw [hR2.2.2.1]
      refine ⟨fun h => absurd h (nI_ge hj (by omega)), fun _ => ⟨fun h => absurd h (nI_ge (b := 97) (by omega) (by omega)), fun _ => ⟨_, kX1_holds (by omega) ⟨hR2, hA2⟩ hw hT hi hj, ?_⟩⟩⟩
      rintro v3 M3 ⟨rfl, hv3⟩
      rw [← zHd_eq hp0, ← e1] at hv3
      have hnx : ∀ M4, I (i * p + (j + 1)) M4 → wX1_askAllPairs X ad ca d x (q_v (PT x) (fun M' => exS M' n r p t e T ∧ exQ M' p t e T ∧ M' 13 5 = M 13 5 ∧ ∀ o, o ≠ 13 → M' o = M o)) 106 [(0, .ref 13), (1, .int (nI i)), (2, .int (nI j))] M4 := fun M4 h4 => by
        refine bX1_askAllPairs_106 _ _ ?_
        rw [← nI_succ]
        exact ih2 M4 h4
      by_cases c : hb (i * p + j) = true
      · rw [if_pos c] at hv3
        subst hv3
        refine ⟨fun h => absurd h (by decide), fun _ => hnx _ ?_⟩
        refine ⟨?_, ?_, ?_, ?_, ?_, fun o ho => ?_⟩
        · rw [ms_is, i7, hn1, if_pos c]; exact (nI_succ _).symm
        · rw [ms_no _ _ _ _ _ _ (by decide), i8]
          unfold zfU
          rw [hf1]
          cases zEf hb (i * p + j) with
          | some q => rfl
          | none => simp only [c, if_true]
        · rw [ms_no _ _ _ _ _ _ (by decide), i9]
          unfold zfV
          rw [hf1]
          cases zEf hb (i * p + j) with
          | some q => rfl
          | none => simp only [c, if_true]
        · rw [ms_no _ _ _ _ _ _ (by decide), i5]
        · rw [ms_no _ _ _ _ _ _ (by decide), i6]
        · rw [ms_row _ _ _ _ _ ho]; exact iF o ho
      · rw [if_neg c] at hv3
        subst hv3
        refine ⟨fun _ => ?_, fun h => absurd rfl h⟩
        have hn2 : zEn hb (i * p + (j + 1)) = zEn hb (i * p + j) := by rw [hn1, if_neg c, Nat.add_zero]
        rw [i8]
        cases hz : zEf hb (i * p + j) with
        | some q =>
          have hz2 : zEf hb (i * p + (j + 1)) = some q := by rw [hf1, hz]
          have hq := zEf_lt hb _ _ hz
          have hq2 : q / p < p := (Nat.div_lt_iff_lt_mul hp0).mpr (by omega)
          have hne : ¬ zfU p hb (i * p + j) = -1 := by
            unfold zfU; rw [hz]; exact nI_m1 (by omega)
          refine ⟨fun _ => hnx _ ⟨?_, ?_, ?_, i5, i6, iF⟩, fun h => absurd h hne⟩
          · rw [hn2]; exact i7
          · rw [i8]; unfold zfU; rw [hz, hz2]
          · rw [i9]; unfold zfV; rw [hz, hz2]
        | none =>
          have hz2 : zEf hb (i * p + (j + 1)) = some (i * p + j) := by rw [hf1, hz]; exact if_neg c
          have hne : zfU p hb (i * p + j) = -1 := by unfold zfU; rw [hz]
          refine ⟨fun h => absurd hne h, fun _ => hnx _ ⟨?_, ?_, ?_, ?_, ?_, fun o ho => ?_⟩⟩
          · rw [ms_no _ _ _ _ _ _ (by decide), ms_no _ _ _ _ _ _ (by decide), hn2]; exact i7
          · rw [ms_no _ _ _ _ _ _ (by decide), ms_is]; unfold zfU; rw [hz2]; show _ = nI ((i * p + j) / p); rw [ed.1]
          · rw [ms_is]; unfold zfV; rw [hz2]; show _ = nI ((i * p + j) % p); rw [ed.2]
          · rw [ms_no _ _ _ _ _ _ (by decide), ms_no _ _ _ _ _ _ (by decide), i5]
          · rw [ms_no _ _ _ _ _ _ (by decide), ms_no _ _ _ _ _ _ (by decide), i6]
          · rw [ms_row _ _ _ _ _ ho, ms_row _ _ _ _ _ ho]; exact iF o ho
/-- what no question changes in the class -/
def cK (M M' : a_M) : Prop := ∀ o, (o < 11 ∨ o = 12 ∨ 44 ≤ o) → o ≠ 99 → o ≠ 105 → o ≠ 111 → o ≠ 117 → M' o = M o
theorem cK.rfl (M : a_M) : cK M M := fun _ _ _ _ _ _ => Eq.refl _
theorem cK.trans {M M' M'' : a_M} (h : cK M M') (h2 : cK M' M'') : cK M M'' := fun o h0 h1 h3 h4 h5 => (h2 o h0 h1 h3 h4 h5).trans (h o h0 h1 h3 h4 h5)
theorem zts_w {k : Nat} (h : k ≤ 4) : zts k + 5 = 11 ∨ zts k + 5 = 99 ∨ zts k + 5 = 105 ∨ zts k + 5 = 111 ∨ zts k + 5 = 117 := by
  unfold zts
  split <;> omega
theorem cSt.K {M M' : a_M} {σ : Nat} {S : Nat → Nat} {V : Nat → Nat → Nat} (h : cSt M σ S V) (hσ : σ = 44 ∨ σ = 69) (hk : cK M M') : cSt M' σ S V := h.same (fun i h1 h2 => hk i (by omega) (by omega) (by omega) (by omega) (by omega))
theorem cTx.K {M M' : a_M} {o : Nat} {T : zTx} (h : cTx M o T) (ho : zsc o) (hk : cK M M') : cTx M' o T := h.same (fun i h1 h2 => by
  have e : M' i = M i := hk i (by unfold zsc at ho; omega) (by unfold zsc at ho; omega) (by unfold zsc at ho; omega) (by unfold zsc at ho; omega) (by unfold zsc at ho; omega)
  exact ⟨fun _ => by rw [e], fun _ => e⟩)
/-- the told text, as the class holds it -/
def cT (M : a_M) (S : Nat → Nat) (R : Nat) (RD : Nat → zTx) (ρ : Nat) (T : zTx) : Prop := M (zts (S 6)) 6 = nI ρ ∧ ρ ≤ R ∧ R < 2 ^ 30 ∧ cTx M (zts (S 6)) T ∧ wTx T ∧ RD ρ = T
theorem cT.K {M M' : a_M} {S : Nat → Nat} {R : Nat} {RD : Nat → zTx} {ρ : Nat} {T : zTx} (h : cT M S R RD ρ T) (h4 : S 6 ≤ 4) (hk : cK M M') : cT M' S R RD ρ T := by
  have hz := zts_sc h4
  refine ⟨?_, h.2.1, h.2.2.1, h.2.2.2.1.K hz hk, h.2.2.2.2⟩
  rw [hk _ (by unfold zsc at hz; omega) (by unfold zsc at hz; omega) (by unfold zsc at hz; omega) (by unfold zsc at hz; omega) (by unfold zsc at hz; omega)]
  exact h.1
/-- the look of Exchange with the class's own rule -/
theorem kX1_lk (hd : 5 ≤ d) {R ρ : Nat} {RD : Nat → zTx} {T : zTx} (hS : cSt M 44 S V) (hw : wSt S V) (hE : cEx M R RD) (hT : cT M S R RD ρ T) :
    mX1_look X ad ca d x [.ref 13, .ref 45, .ref (zts (S 6))] M (q_v (PT x) (fun M' => exS M' (S 0) (S 1) (S 2) (S 3) (S 4) T ∧ cEx M' R RD ∧ M' 13 5 = nI ρ ∧ cK M M' ∧ ∀ i, 19 ≤ i → i < 94 → M' i = M i)) := by
  obtain ⟨hw0, h5, h6, -⟩ := hw
  have hz := zts_sc (show S 6 ≤ 4 by omega)
  obtain ⟨t1, t2, t3, t4, t5, rfl⟩ := hT
  refine Mt.mv (kX1_look hd (o1 := 45) (o2 := zts (S 6)) hE rfl (by decide) hz hS.1 hw0 t1 t2 t3 t4 t5) ?_
  rintro M' ⟨g1, g2, g3⟩
  have hzw := zts_w (show S 6 ≤ 4 by omega)
  refine ⟨g2, Or.inr ⟨ρ, _, _, _, _, _, t2, g1, hw0, t5, g2⟩, g1, fun o a1 a2 a3 a4 a5 => g3 o (by omega) (by omega) (by omega) (by omega) (by omega) (by omega), fun o a1 a2 => g3 o (by omega) (by omega) (by omega) (by omega) (by omega) (by omega)⟩
theorem kX11_equation (hd : 6 ≤ d) {R ρ : Nat} {RD : Nat → zTx} {T : zTx} (u : Int32) (hS : cSt M 44 S V) (hw : wSt S V) (hE : cEx M R RD) (hT : cT M S R RD ρ T) :
    mX11_equation X ad ca d x [.ref 0, .int u] M (q_i (PT x) (fun s M' => cK M M' ∧ cEx M' R RD ∧ (∀ i, 19 ≤ i → i < 94 → M' i = M i) ∧ rEq (S 2) (S 3) (S 4) T u s)) := by
  obtain ⟨d, rfl⟩ := a_d1 (show 1 ≤ d by omega)
  have no : (∀ k, k ≤ 2 → u ≠ nI k) → wX11_equation X ad ca d x (q_i (PT x) (fun s M' => cK M M' ∧ cEx M' R RD ∧ (∀ i, 19 ≤ i → i < 94 → M' i = M i) ∧ rEq (S 2) (S 3) (S 4) T u s)) 9 [] M := fun h => bX11_equation_9 ⟨_, rfl, rfl, cK.rfl _, hE, fun _ _ _ => rfl, Or.inr (Or.inr (Or.inr ⟨h 0 (by omega), h 1 (by omega), h 2 (by omega), rfl⟩))⟩
  refine eX11_equation _ (bX11_equation_0 _ ⟨fun h => no (fun k hk e => ?_), fun h0 => ⟨fun h2 => ?_, fun h2 => no (fun k hk e => h2 (by rw [e]; exact nI_le (b := 2) hk (by omega)))⟩⟩)
  · rw [e] at h; exact (fa_of_lt h).2.1 (nI_pos' (by omega))
  have hu : u = 0 ∨ u = 1 ∨ u = 2 := by
    obtain ⟨j, hj, rfl⟩ := nI_of2 (n := 2) (nI_toInt (by omega)) h0 h2
    have : j = 0 ∨ j = 1 ∨ j = 2 := by omega
    rcases this with rfl | rfl | rfl
    · exact Or.inl rfl
    · exact Or.inr (Or.inl rfl)
    · exact Or.inr (Or.inr rfl)
  refine ⟨_, kX11_toldScript (by omega) hS hw, ?_⟩
  rintro r1 M ⟨rfl, rfl⟩
  refine ⟨0, ⟨rfl, (ly_scr (x := x) (zts_sc (show S 6 ≤ 4 by have := hw.2.1; have := hw.2.2.1; omega))).1⟩, _, kX1_lk (by omega) hS hw hE hT, ?_⟩
  rintro M2 ⟨g1, g2, g3, g4, g5⟩
  refine ⟨_, kX1_askAllPairs (by omega) g1 hw.1 hT.2.2.2.2.1, ?_⟩
  rintro M3 ⟨k1, k2, k3, k4⟩
  have hcK : cK M M3 := g4.trans (fun o a1 a2 a3 a4 a5 => k4 o (by omega))
  have hcE : cEx M3 R RD := Or.inr ⟨ρ, _, _, _, _, _, hT.2.1, by rw [k3, g3], hw.1, by rw [hT.2.2.2.2.2]; exact hT.2.2.2.2.1, by rw [hT.2.2.2.2.2]; exact k1⟩
  have hfr : ∀ i, 19 ≤ i → i < 94 → M3 i = M i := fun i h1 h2 => by rw [k4 i (by omega), g5 i h1 h2]
  refine ⟨fun h3 => ⟨fun h4 => ⟨_, rfl, rfl, hcK, hcE, hfr, ?_⟩, fun h4 => ⟨_, rfl, rfl, hcK, hcE, hfr, ?_⟩⟩, fun h3 => ⟨_, rfl, rfl, hcK, hcE, hfr, ?_⟩⟩
  · rcases hu with q | q | q
    · exact absurd q h3
    · exact absurd q h4
    · exact Or.inr (Or.inr (Or.inl ⟨q, k2.2.2⟩))
  · exact Or.inr (Or.inl ⟨h4, k2.2.1⟩)
  · exact Or.inl ⟨h3, k2.1⟩
theorem kX11_table (hd : 6 ≤ d) {R ρ : Nat} {RD : Nat → zTx} {T : zTx} (u w z : Int32) (hS : cSt M 44 S V) (hw : wSt S V) (hE : cEx M R RD) (hT : cT M S R RD ρ T) :
    mX11_table X ad ca d x [.ref 0, .int u, .int w, .int z] M (q_i (PT x) (fun s M' => cK M M' ∧ cEx M' R RD ∧ (∀ i, 19 ≤ i → i < 94 → M' i = M i) ∧ rTable (S 2) (S 0) (S 3) (S 4) T u w z s)) := by
  obtain ⟨d, rfl⟩ := a_d1 (show 1 ≤ d by omega)
  have hpb := zpl_b _ hw.1.2.2.2.1
  have no : (¬ (∃ k a b, k < S 2 ∧ a < 2 ^ S 0 ∧ b < 2 ^ S 0 ∧ u = nI k ∧ w = nI a ∧ z = nI b)) → wX11_table X ad ca d x (q_i (PT x) (fun s M' => cK M M' ∧ cEx M' R RD ∧ (∀ i, 19 ≤ i → i < 94 → M' i = M i) ∧ rTable (S 2) (S 0) (S 3) (S 4) T u w z s)) 36 [] M := fun h => bX11_table_36 ⟨_, rfl, rfl, cK.rfl _, hE, fun _ _ _ => rfl, Or.inr ⟨h, rfl⟩⟩
  refine eX11_table _ _ _ (bX11_table_0 _ _ _ ⟨_, kX6_isNumber (by omega) rfl _ hS.1.2.2.1 (by omega), ?_⟩)
  rintro v1 M ⟨rfl, hv1⟩
  refine ⟨fun h => no ?_, fun h => ?_⟩
  · rintro ⟨k, a, b, h1, h2, h3, h4, h5, h6⟩
    rw [if_pos ⟨k, h1, h4⟩] at hv1
    rw [hv1] at h
    exact absurd h (by decide)
  obtain ⟨k, hk, rfl⟩ : ∃ k, k < S 2 ∧ u = nI k := by
    by_cases c : ∃ k, k < S 2 ∧ u = nI k
    · exact c
    · rw [if_neg c] at hv1; exact absurd hv1 h
  refine ⟨_, kX6_isState (by omega) rfl _ hS.1.1 hw.1.1, ?_⟩
  rintro v2 M ⟨rfl, hv2⟩
  refine ⟨fun h => no ?_, fun h => ?_⟩
  · rintro ⟨k, a, b, h1, h2, h3, h4, h5, h6⟩
    rw [if_pos ⟨a, h2, h5⟩] at hv2
    rw [hv2] at h
    exact absurd h (by decide)
  obtain ⟨a, ha, rfl⟩ : ∃ k, k < 2 ^ S 0 ∧ w = nI k := by
    by_cases c : ∃ k, k < 2 ^ S 0 ∧ w = nI k
    · exact c
    · rw [if_neg c] at hv2; exact absurd hv2 h
  refine ⟨_, kX6_isState (by omega) rfl _ hS.1.1 hw.1.1, ?_⟩
  rintro v3 M ⟨rfl, hv3⟩
  refine ⟨fun h => ?_, fun h => no ?_⟩
  rotate_left
  · rintro ⟨k, a, b, h1, h2, h3, h4, h5, h6⟩
    rw [if_pos ⟨b, h3, h6⟩] at hv3
    rw [hv3] at h
    exact absurd h (by decide)
  obtain ⟨b, hb, rfl⟩ : ∃ k, k < 2 ^ S 0 ∧ z = nI k := by
    by_cases c : ∃ k, k < 2 ^ S 0 ∧ z = nI k
    · exact c
    · rw [if_neg c] at hv3; exact absurd hv3 h
  refine ⟨_, kX11_toldScript (by omega) hS hw, ?_⟩
  rintro r1 M ⟨rfl, rfl⟩
  refine ⟨0, ⟨rfl, (ly_scr (x := x) (zts_sc (show S 6 ≤ 4 by have := hw.2.1; have := hw.2.2.1; omega))).1⟩, _, kX1_lk (by omega) hS hw hE hT, ?_⟩
  rintro M2 ⟨g1, g2, g3, g4, g5⟩
  refine ⟨_, kX1_tableBetween (by omega) g1 hw.1 hT.2.2.2.2.1 hk ha hb, ?_⟩
  rintro v4 M3 ⟨rfl, rfl⟩
  refine ⟨_, rfl, rfl, g4, g2, g5, Or.inl ⟨k, a, b, hk, ha, hb, rfl, rfl, rfl, ?_⟩⟩
  rw [ztb_eq (by omega) hw.1.1 ha hb]
  rfl
end Z31
