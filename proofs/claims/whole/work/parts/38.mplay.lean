/-! CONTRACTS 19: played on the reference's side -/
/-- the act of a clause -/
def zCl (S : Nat → Nat) (q : Nat × Nat × List Int32) : Option (Nat × Nat) := if q.1 = 3 then some (0, 0) else if q.1 = 5 then some (2, 0) else if q.1 = 6 then some (3, zval (S 2) (S 3) (S 4) 0 q.2.2) else if q.1 = 4 then some (1, q.2.1) else none
def zPl (T : zTx) : zTx → Nat → (Nat → Nat) → (Nat → Nat → Nat) → Option Nat × (Nat → Nat) × (Nat → Nat → Nat)
  | [], _, S, V => (none, S, V)
  | q :: r, i, S, V => match zCl S q with
    | none => zPl T r (i + 1) S V
    | some (a, k) => if a = 1 ∧ S 0 ≤ k then (some i, S, V) else zPl T r (i + 1) (zAcS S) (zAcV S V (zOp S T a k (V (S 7))))
def rPlayed (S : Nat → Nat) (V : Nat → Nat → Nat) (TX : Nat → zTx) (T : zTx) (u s : Int32) (S' : Nat → Nat) (V' : Nat → Nat → Nat) : Prop := (∃ t, t < S 5 ∧ u = nI t ∧ (s = match (zPl T (TX t) 0 S V).1 with | some i => nI i | none => -1) ∧ S' = (zPl T (TX t) 0 S V).2.1 ∧ V' = (zPl T (TX t) 0 S V).2.2) ∨ ((¬ ∃ t, t < S 5 ∧ u = nI t) ∧ s = -2 ∧ S' = S ∧ V' = V)
theorem zCl_can {S : Nat → Nat} {V : Nat → Nat → Nat} {T : zTx} {i : Nat} {q : Nat × Nat × List Int32} {a k : Nat} (hw : wSt S V) (hT : wTx T) (hq : T[i]? = some q) (h : zCl S q = some (a, k)) (hn : ¬ (a = 1 ∧ S 0 ≤ k)) : zcan S (nI a) (nI k) a k := by
  have hpb := zpl_b _ hw.1.2.2.2.1
  unfold zCl at h
  refine ⟨rfl, ?_⟩
  split at h
  · cases h; exact Or.inl ⟨Or.inl rfl, rfl⟩
  split at h
  · cases h; exact Or.inl ⟨Or.inr rfl, rfl⟩
  split at h
  · rename_i q6
    cases h
    exact Or.inr (Or.inr ⟨rfl, zval_lt (by omega) hw.1.2.2.2.2.2.1 hw.1.2.2.2.2.2.2 (by omega) ((hT.2.1 i q hq).2.2.1 (Or.inr q6)), rfl⟩)
  split at h
  · cases h
    exact Or.inr (Or.inl ⟨rfl, by omega, rfl⟩)
  · cases h
section Z20
variable {X : a_X} {ad : Nat → Nat} {ca : Nat → ClassId} {d x : Nat} {M : a_M} {S : Nat → Nat} {V : Nat → Nat → Nat}
theorem kX12_played (hd : 8 ≤ d) {T : zTx} {TX : Nat → zTx} {u : Int32} (hS : mSt M 119 S V) (hw : wSt S V) (hT : mT M (S 6) T) (hTX : ∀ t, t < S 5 → mTx M t (TX t) ∧ wTx (TX t)) :
    mX12_played X ad ca d x [.ref 118, .int u] M (q_i (PT x) (fun s M' => ∃ S' V', rPlayed S V TX T u s S' V' ∧ mSt M' 119 S' V' ∧ wSt S' V' ∧ mA M M')) := by
  obtain ⟨d, rfl⟩ := a_d1 (show 1 ≤ d by omega)
  have h5 := hw.2.1
  have h65 := hw.2.2.1
  refine eX12_played _ (bX12_played_0 _ ⟨_, kX12_in (by omega) _ _ _, ?_⟩)
  rintro v1 M1 ⟨rfl, rfl⟩
  have hiff : ((0 : Int32) ≤ u ∧ u ≤ M1 119 5 - 1) ↔ ∃ t, t < S 5 ∧ u = nI t := by
    rw [hS.2.2.2.2.2.1]
    constructor
    · rintro ⟨q1, q2⟩
      rw [fa_le] at q1 q2
      have h3 : (0 : Int32).toInt = 0 := rfl
      rw [h3] at q1
      have h4 : (nI (S 5) - 1).toInt = (S 5 : Int) - 1 := by
        rcases (show S 5 = 0 ∨ S 5 = 1 ∨ S 5 = 2 ∨ S 5 = 3 ∨ S 5 = 4 by omega) with q | q | q | q | q <;> rw [q] <;> decide
      rw [h4] at q2
      refine ⟨u.toInt.toNat, by omega, (fa_eq _ _).mpr ?_⟩
      rw [nI_toInt (by omega)]
      omega
    · rintro ⟨t, ht, rfl⟩
      refine ⟨nI_le (a := 0) (Nat.zero_le _) (by omega), ?_⟩
      rw [show nI (S 5) - 1 = nI (S 5 - 1) from pk_sub (b := 1) (by omega)]
      exact nI_le (by omega) (by omega)
  refine ⟨fun h => ?_, fun h => ⟨_, rfl, rfl, S, V, Or.inr ⟨fun q => ?_, rfl, rfl, rfl⟩, hS, hw, mA.rfl _⟩⟩
  rotate_left
  · rw [if_pos (hiff.mpr q)] at h; exact absurd h (by decide)
  obtain ⟨t, ht, rfl⟩ := hiff.mp (Classical.byContradiction fun q => h (if_neg q))
  obtain ⟨hTt, hwt⟩ := hTX t ht
  have hlen := hwt.1
  refine a_loop (σ := (Nat → Nat) × (Nat → Nat → Nat) × a_M) (fun i q => wX12_played X ad ca d x _ 21 [(0, .ref 118), (1, .int (nI t)), (2, .int (nI i))] q.2.2) (fun i q => mSt q.2.2 119 q.1 q.2.1 ∧ wSt q.1 q.2.1 ∧ mA M1 q.2.2 ∧ q.1 6 = S 6 ∧ q.1 5 = S 5 ∧ zPl T ((TX t).drop i) i q.1 q.2.1 = zPl T (TX t) 0 S V) (TX t).length ?_ ?_ 0 (S, V, M1) (Nat.zero_le _) ⟨hS, hw, mA.rfl _, rfl, rfl, rfl⟩
  · rintro ⟨S', V', M'⟩ ⟨i1, i2, i3, i4, i5, i6⟩
    dsimp only at i1 i2 i3 i4 i5 i6 ⊢
    have e1 : M' 122 = M1 122 := i3.1 122 (by omega) (by omega) (by omega)
    rw [List.drop_length] at i6
    refine bX12_played_21 _ _ ⟨n_in (by omega) (by omega), ?_⟩
    rw [n_cl (by omega)]
    rw [e1, hTt.1]
    refine ⟨fun _ => ⟨_, rfl, rfl, S', V', Or.inl ⟨t, ht, rfl, ?_, ?_, ?_⟩, i1, i2, i3⟩, fun h => absurd (nI_le (Nat.le_refl _) (by omega)) h⟩
    · rw [← i6]; rfl
    · rw [← i6]; rfl
    · rw [← i6]; rfl
  · rintro i ⟨S', V', M'⟩ hi ⟨i1, i2, i3, i4, i5, i6⟩ ih
    dsimp only at i1 i2 i3 i4 i5 i6 ⊢
    have e1 : M' 122 = M1 122 := i3.1 122 (by omega) (by omega) (by omega)
    have e2 : M' 123 = M1 123 := i3.1 123 (by omega) (by omega) (by omega)
    have e3 : M' 125 = M1 125 := i3.1 125 (by omega) (by omega) (by omega)
    have hq : (TX t)[i]? = some (TX t)[i] := List.getElem?_eq_getElem hi
    generalize (TX t)[i] = q at hq
    have hdr : (TX t).drop i = q :: (TX t).drop (i + 1) := by
      rw [List.drop_eq_getElem_cons hi]
      congr 1
      rw [List.getElem?_eq_getElem hi] at hq
      exact Option.some.inj hq
    rw [hdr] at i6
    obtain ⟨c1, c2, c3⟩ := hTt.2 i q hq
    obtain ⟨w1, w2, w3, w4⟩ := hwt.2.1 i q hq
    have hpb := zpl_b _ i2.1.2.2.2.1
    have eix : 30 * nI t + nI i = nI (30 * t + i) := by rw [fa_lit 30, n_mul, nI_add]
    have hTr : mT M' (S' 6) T := by
      rw [i4]
      refine hT.A i3 ?_
      rw [i1.2.2.2.2.2.2.1, hS.2.2.2.2.2.2.1, i4]
    -- an act is done
    have hdo : ∀ (a k : Nat) (M2 : a_M), zCl S' q = some (a, k) → ¬ (a = 1 ∧ S' 0 ≤ k) → mSt M2 119 (zAcS S') (zAcV S' V' (zOp S' T a k (V' (S' 7)))) ∧ mA M' M2 → wX12_played X ad ca d x (q_i (PT x) (fun s M' => ∃ S' V', rPlayed S V TX T (nI t) s S' V' ∧ mSt M' 119 S' V' ∧ wSt S' V' ∧ mA M1 M')) 136 [(0, .ref 118), (1, .int (nI t)), (2, .int (nI i))] M2 := by
      rintro a k M2 hcl hn ⟨p1, p2⟩
      refine bX12_played_136 _ _ ?_
      rw [← nI_succ]
      refine ih (_, _, M2) ⟨p1, zAc_w i2 (zOp_lt i2 (zCl_can i2 hwt hq hcl hn)), i3.trans p2, ?_, ?_, ?_⟩
      · show zAcS S' 6 = S 6
        rw [zAcS_no _ 6 (by decide) (by decide)]; exact i4
      · show zAcS S' 5 = S 5
        rw [zAcS_no _ 5 (by decide) (by decide)]; exact i5
      · show zPl T ((TX t).drop (i + 1)) (i + 1) (zAcS S') (zAcV S' V' (zOp S' T a k (V' (S' 7)))) = zPl T (TX t) 0 S V
        rw [← i6]
        simp only [zPl, hcl, if_neg hn]
    refine bX12_played_21 _ _ ⟨n_in (by omega) (by omega), ?_⟩
    rw [n_cl (by omega), eix, n_cl (show 30 * t + i < 2 ^ 31 by omega)]
    rw [e1, hTt.1]
    refine ⟨fun h => absurd h (nI_ge hi (by omega)), fun _ => ⟨n_in (by omega) (by omega), ?_⟩⟩
    rw [e2, c1]
    have kk : ∀ b, b < 7 → (nI q.1 = nI b ↔ q.1 = b) := fun b hb => nI_eq (by omega) (by omega)
    have k3 := kk 3 (by omega)
    have k4 := kk 4 (by omega)
    have k5 := kk 5 (by omega)
    have k6 := kk 6 (by omega)
    refine ⟨fun h3 => ⟨fun h5 => ⟨fun h6 => ⟨fun h4 => ?_, fun h4 => ⟨n_in (by omega) (by omega), ?_⟩⟩, fun h6 => ⟨n_in (by omega) (by omega), ?_⟩⟩, fun h5 => ?_⟩, fun h3 => ?_⟩
    · refine bX12_played_136 _ _ ?_
      rw [← nI_succ]
      refine ih (S', V', M') ⟨i1, i2, i3, i4, i5, ?_⟩
      rw [← i6]
      have hcl : zCl S' q = none := by
        unfold zCl
        rw [if_neg (fun z => h3 (k3.mpr z)), if_neg (fun z => h5 (k5.mpr z)), if_neg (fun z => h6 (k6.mpr z)), if_neg (fun z => h4 (k4.mpr z))]
      simp only [zPl, hcl]
    · have hcl : zCl S' q = some (1, q.2.1) := by
        unfold zCl
        rw [if_neg (fun z => h3 (k3.mpr z)), if_neg (fun z => h5 (k5.mpr z)), if_neg (fun z => h6 (k6.mpr z)), if_pos (k4.mp h4)]
      rw [e3, c2 (k4.mp h4), i1.1]
      refine ⟨fun hlt => ⟨n_in (by omega) (by omega), ?_⟩, fun hlt => ⟨_, rfl, rfl, S', V', Or.inl ⟨t, ht, rfl, ?_, ?_, ?_⟩, i1, i2, i3⟩⟩
      · have hl : q.2.1 < S' 0 := by
          rcases Nat.lt_or_ge q.2.1 (S' 0) with z | z
          · exact z
          · exact absurd hlt (nI_nlt z (by omega))
        exact ⟨_, kX12_acts (by omega) i1 i2 hTr (zCl_can i2 hwt hq hcl (by omega)), fun M2 h2 => hdo _ _ M2 hcl (by omega) h2⟩
      all_goals
        have hl : S' 0 ≤ q.2.1 := by
          rcases Nat.lt_or_ge q.2.1 (S' 0) with z | z
          · exact absurd (nI_lt z (by have := i2.1.1; omega)) hlt
          · exact z
        rw [← i6]
        simp [zPl, hcl, hl]
    · have hcl : zCl S' q = some (3, zval (S' 2) (S' 3) (S' 4) 0 q.2.2) := by
        unfold zCl
        rw [if_neg (fun z => h3 (k3.mpr z)), if_neg (fun z => h5 (k5.mpr z)), if_pos (k6.mp h6)]
      obtain ⟨b, b1, b2, b3, b4, b5⟩ := c3 (Or.inr (k6.mp h6))
      have f4 : M' 124 = M1 124 := i3.1 124 (by omega) (by omega) (by omega)
      have f6 : M' 126 = M1 126 := i3.1 126 (by omega) (by omega) (by omega)
      have f7 : M' 127 = M1 127 := i3.1 127 (by omega) (by omega) (by omega)
      show ∃ Q2 : Int32 → a_M → Prop, mX12_saysOf X ad ca d x [.ref 118, .int (M' 124 (30 * t + i)), .int 0] M' (q_i (PT x) Q2) ∧ _
      rw [f4, b1]
      refine ⟨_, kX12_saysOf (u := 0) (by omega) i1.H i2.1 (by omega) b2 (by rw [f6]; exact b3) (by rw [f7]; exact b4) (by rw [f6]; exact b5) (w3 (Or.inr (k6.mp h6))), ?_⟩
      rintro v2 M2 ⟨rfl, g2⟩
      have km : mK M' M2 := ⟨fun o q1 q2 => g2 o (by omega), fun j _ => by rw [g2 118 (by omega)]⟩
      refine ⟨_, kX12_acts (by omega) (i1.K (Or.inl rfl) km) i2 (hTr.K km) (zCl_can i2 hwt hq hcl (fun z => absurd z.1 (by decide))), fun M3 h3 => hdo _ _ M3 hcl (fun z => absurd z.1 (by decide)) ⟨h3.1, km.A.trans h3.2⟩⟩
    · have hcl : zCl S' q = some (2, 0) := by
        unfold zCl
        rw [if_neg (fun z => h3 (k3.mpr z)), if_pos (k5.mp h5)]
      exact ⟨_, kX12_acts (by omega) i1 i2 hTr (zCl_can i2 hwt hq hcl (fun z => absurd z.1 (by decide))), fun M2 h2 => hdo _ _ M2 hcl (fun z => absurd z.1 (by decide)) h2⟩
    · have hcl : zCl S' q = some (0, 0) := by
        unfold zCl
        rw [if_pos (k3.mp h3)]
      exact ⟨_, kX12_acts (by omega) i1 i2 hTr (zCl_can i2 hwt hq hcl (fun z => absurd z.1 (by decide))), fun M2 h2 => hdo _ _ M2 hcl (fun z => absurd z.1 (by decide)) h2⟩
end Z20
