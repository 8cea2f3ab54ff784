/-! CONTRACTS 30: the equation and the table on the class's side -/
section Z31
variable {X : a_X} {ad : Nat → Nat} {ca : Nat → ClassId} {d x : Nat} {M : a_M} {S : Nat → Nat} {V : Nat → Nat → Nat}
def zfU (p : Nat) (hb : Nat → Bool) (i : Nat) : Int32 := match zEf hb i with | some q => nI (q / p) | none => -1
def zfV (p : Nat) (hb : Nat → Bool) (i : Nat) : Int32 := match zEf hb i with | some q => nI (q % p) | none => -1
theorem kX1_askAllPairs (hd : 3 ≤ d) {n r p t e : Nat} {T : zTx} (hS : exS M n r p t e T) (hw : wH n r p t e) (hT : wTx T) :
    mX1_askAllPairs X ad ca d x [.ref 13] M (q_v (PT x) (fun M' => exS M' n r p t e T ∧ exQ M' p t e T ∧ M' 13 5 = M 13 5 ∧ ∀ o, o ≠ 13 → M' o = M o)) := by
  obtain ⟨d, rfl⟩ := a_d1 (show 1 ≤ d by omega)
  have hpb := zpl_b p hw.2.2.2.1
  have hp0 : 0 < p := by omega
  have hpp : p * p < 16384 := Nat.lt_of_le_of_lt (Nat.mul_le_mul hpb.2 hpb.2) (by decide)
  refine eX1_askAllPairs (bX1_askAllPairs_0 ⟨fun h0 => ?_, fun h0 => ?_⟩)
  rotate_left
  · refine ⟨rfl, rfl, hS, ?_, rfl, fun _ _ => rfl⟩
    rcases hS.2.2 with q | ⟨-, q⟩
    · exact absurd q h0
    · exact q
  have hRM := hS.1
  have hAM := hS.2.1
  generalize hM0 : ms (ms (ms (ms M 13 6 1) 13 7 0) 13 8 (-1)) 13 9 (-1) = M0
  have f0 : ∀ o, o ≠ 13 → M0 o = M o := fun o ho => by rw [← hM0, ms_row _ _ _ _ _ ho, ms_row _ _ _ _ _ ho, ms_row _ _ _ _ _ ho, ms_row _ _ _ _ _ ho]
  have g5 : M0 13 5 = M 13 5 := by rw [← hM0, ms_no _ _ _ _ _ _ (by decide), ms_no _ _ _ _ _ _ (by decide), ms_no _ _ _ _ _ _ (by decide), ms_no _ _ _ _ _ _ (by decide)]
  have g6 : M0 13 6 = 1 := by rw [← hM0, ms_no _ _ _ _ _ _ (by decide), ms_no _ _ _ _ _ _ (by decide), ms_no _ _ _ _ _ _ (by decide), ms_is]
  have g7 : M0 13 7 = 0 := by rw [← hM0, ms_no _ _ _ _ _ _ (by decide), ms_no _ _ _ _ _ _ (by decide), ms_is]
  have g8 : M0 13 8 = -1 := by rw [← hM0, ms_no _ _ _ _ _ _ (by decide), ms_is]
  have g9 : M0 13 9 = -1 := by rw [← hM0, ms_is]
  generalize hbe : zHq p t e T = hb
  -- the state behind q pairs
  let I : Nat → a_M → Prop := fun q M' => M' 13 7 = nI (zEn hb q) ∧ M' 13 8 = zfU p hb q ∧ M' 13 9 = zfV p hb q ∧ M' 13 5 = M 13 5 ∧ M' 13 6 = 1 ∧ ∀ o, o ≠ 13 → M' o = M o
  have hIS : ∀ q M', I q M' → rH M' 18 n r p t e ∧ exA M' p t e T := fun q M' h => ⟨hRM.same (h.2.2.2.2.2 18 (by decide)), fun u hu => by rw [h.2.2.2.2.2 14 (by decide), h.2.2.2.2.2 15 (by decide), h.2.2.2.2.2 16 (by decide)]; exact hAM u hu⟩
  have hI0 : I 0 M0 := ⟨g7, g8, g9, g5, g6, f0⟩
  refine a_loop (σ := a_M) (fun i M' => wX1_askAllPairs X ad ca d x _ 30 [(0, .ref 13), (1, .int (nI i))] M') (fun i M' => I (i * p) M') p ?_ ?_ 0 M0 (Nat.zero_le _) (by rw [Nat.zero_mul]; exact hI0)
  · intro M1 hI
    obtain ⟨hR1, hA1⟩ := hIS _ _ hI
    refine bX1_askAllPairs_30 _ ?_
    rw [hR1.2.2.1]
    refine ⟨fun _ => ?_, fun h => absurd (nI_le (Nat.le_refl _) (by omega)) h⟩
    have hq : exQ M1 p t e T := by
      unfold exQ
      rw [hbe]
      exact ⟨hI.1, hI.2.1, hI.2.2.1⟩
    exact ⟨rfl, rfl, ⟨hR1, hA1, Or.inr ⟨hI.2.2.2.2.1, hq⟩⟩, hq, hI.2.2.2.1, hI.2.2.2.2.2⟩
  · intro i M1 hi hI ih
    obtain ⟨hR1, -⟩ := hIS _ _ hI
    refine bX1_askAllPairs_30 _ ?_
    rw [hR1.2.2.1]
    refine ⟨fun h => absurd h (nI_ge hi (by omega)), fun _ => ⟨fun h => absurd h (nI_ge (b := 97) (by omega) (by omega)), fun _ => ?_⟩⟩
    refine a_loop (σ := a_M) (fun j M' => wX1_askAllPairs X ad ca d x _ 49 [(0, .ref 13), (1, .int (nI i)), (2, .int (nI j))] M') (fun j M' => I (i * p + j) M') p ?_ ?_ 0 M1 (Nat.zero_le _) hI
    · intro M2 hI2
      obtain ⟨hR2, -⟩ := hIS _ _ hI2
      refine bX1_askAllPairs_49 _ _ ?_
      rw [hR2.2.2.1]
      refine ⟨fun _ => bX1_askAllPairs_112 _ ?_, fun h => absurd (nI_le (Nat.le_refl _) (by omega)) h⟩
      rw [← nI_succ]
      refine ih M2 ?_
      rw [Nat.succ_mul]
      exact hI2
    · intro j M2 hj hI2 ih2
      obtain ⟨hR2, hA2⟩ := hIS _ _ hI2
      have e1 : hb (i * p + j) = zHb p t e T i j := by
        rw [← hbe]
        unfold zHq
        rw [show i * p + j = j + i * p by omega, Nat.add_mul_div_right _ _ (by omega), Nat.div_eq_of_lt hj, Nat.zero_add, Nat.add_mul_mod_self_right, Nat.mod_eq_of_lt hj]
      have ed : (i * p + j) / p = i ∧ (i * p + j) % p = j := by
        rw [show i * p + j = j + i * p by omega, Nat.add_mul_div_right _ _ (by omega), Nat.div_eq_of_lt hj, Nat.zero_add, Nat.add_mul_mod_self_right, Nat.mod_eq_of_lt hj]
        exact ⟨rfl, rfl⟩
      have hqb : i * p + j < p * p := by
        have h1 : (i + 1) * p ≤ p * p := Nat.mul_le_mul_right p (by omega)
        rw [Nat.succ_mul] at h1
        omega
      have hn1 : zEn hb (i * p + (j + 1)) = zEn hb (i * p + j) + (if hb (i * p + j) = true then 1 else 0) := rfl
      have hf1 : zEf hb (i * p + (j + 1)) = match zEf hb (i * p + j) with | some q => some q | none => if hb (i * p + j) = true then none else some (i * p + j) := rfl
      obtain ⟨i7, i8, i9, i5, i6, iF⟩ := hI2
      refine bX1_askAllPairs_49 _ _ ?_
      rw [hR2.2.2.1]
      refine ⟨fun h => absurd h (nI_ge hj (by omega)), fun _ => ⟨fun h => absurd h (nI_ge (b := 97) (by omega) (by omega)), fun _ => ⟨_, kX1_holds (by omega) ⟨hR2, hA2, Or.inr ⟨i6, ?_⟩⟩ hw hT hi hj, ?_⟩⟩⟩
      sorry
      rintro v3 M3 ⟨rfl, hv3⟩
      rw [← zHd_eq hp0, ← e1] at hv3
      sorry
end Z31
