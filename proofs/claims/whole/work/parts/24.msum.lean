/-! CONTRACTS 5: sum and power on the reference's side -/
/-- the reference's header: letters, ring, prime, eta, d -/
def mH (M : a_M) (n r p t e : Nat) : Prop := M 119 0 = nI n ∧ M 119 1 = nI r ∧ M 119 2 = nI p ∧ M 119 3 = nI t ∧ M 119 4 = nI e
def wH (n r p t e : Nat) : Prop := n < 8 ∧ 2 ≤ n ∧ r ≤ 1 ∧ p ∈ zpl ∧ 1 ≤ t ∧ t < p ∧ e < p
theorem mH.same {M M' : a_M} {n r p t e : Nat} (h : mH M n r p t e) (hm : M' 119 = M 119) : mH M' n r p t e := by unfold mH; rw [hm]; exact h
def zu (a : Nat) : Nat → Nat := fun j => if j = a then 1 else 0
theorem zS_lt {p n b e : Nat} {v : Nat → Nat} {y : Nat} (hp : 0 < p) : zS p n b e v y < p := Nat.mod_lt _ hp
def zit (F : (Nat → Nat) → Nat → Nat) : Nat → (Nat → Nat) → Nat → Nat
  | 0, v => v
  | k + 1, v => F (zit F k v)
theorem z_unit (a j : Nat) : (if j = a then (1 : Int32) else 0) = nI (zu a j) := by unfold zu; split <;> rfl
section Z6
variable {X : a_X} {ad : Nat → Nat} {ca : Nat → ClassId} {d x : Nat} {M : a_M}
theorem kX12_sums (hd : 3 ≤ d) {n r p t e : Nat} {v : Nat → Nat} (hH : mH M n r p t e) (hw : wH n r p t e) (hv : ∀ j, j < 2 ^ n → M 140 j = nI (v j) ∧ v j < p) :
    mX12_sums X ad ca d x [.ref 118] M (q_v (PT x) (fun M' => (∀ j, j < 128 → M' 140 j = nI (zS p n (zbd n r) e v j)) ∧ ∀ o, o ≠ 140 → o ≠ 141 → M' o = M o)) := by
  obtain ⟨d, rfl⟩ := a_d1 (show 1 ≤ d by omega)
  obtain ⟨h0, h1, h2, h3, h4⟩ := hH
  obtain ⟨w1, w2, w3, w4, w5, w6, w7⟩ := hw
  have hc : ∀ r', r' ≤ 1 → r' = r → ∃ Q : a_M → Prop, mX12_sumsBy X ad ca d x [.ref 118, .int (M 119 4), .int (nI r')] M (q_v (PT x) Q) ∧ ∀ M1, Q M1 → q_v (PT x) (fun M' => (∀ j, j < 128 → M' 140 j = nI (zS p n (zbd n r) e v j)) ∧ ∀ o, o ≠ 140 → o ≠ 141 → M' o = M o) none M1 (PT x) := by
    rintro r' hr' rfl
    rw [h4]
    refine ⟨_, kX12_sumsBy (by omega) h0 w1 w2 h2 w4 w7 hr' hv, ?_⟩
    rintro M1 rfl
    refine ⟨rfl, rfl, fun j hj => mf_in _ _ _ _ _ _ (Nat.zero_le _) hj, fun o q1 q2 => ?_⟩
    rw [mf_no _ _ _ _ _ _ q1, mf_no _ _ _ _ _ _ q2]
  refine eX12_sums (bX12_sums_0 ⟨fun h => ?_, fun h => ?_⟩)
  · have hr0 : r = 0 := by
      rcases (show r = 0 ∨ r = 1 by omega) with q | q
      · exact q
      · exact absurd (by rw [h1, q]; rfl) h
    obtain ⟨Q, hQ, hQ2⟩ := hc 0 (by omega) hr0.symm
    exact ⟨Q, hQ, hQ2⟩
  · have hr1 : r = 1 := by
      rw [h1] at h
      exact (nI_eq (b := 1) (by omega) (by omega)).mp h
    obtain ⟨Q, hQ, hQ2⟩ := hc 1 (by omega) hr1.symm
    exact ⟨Q, hQ, hQ2⟩
theorem kX12_sum (hd : 4 ≤ d) {n r p t e : Nat} (hH : mH M n r p t e) (hw : wH n r p t e) (u w : Int32) :
    mX12_sum X ad ca d x [.ref 118, .int u, .int w] M (q_i (PT x) (fun s M' => (∀ o, o ≠ 140 → o ≠ 141 → M' o = M o) ∧ ((∃ a b, a < 2 ^ n ∧ b < 2 ^ n ∧ u = nI a ∧ w = nI b ∧ s = nI (zS p n (zbd n r) e (zu a) b)) ∨ (¬ (∃ a b, a < 2 ^ n ∧ b < 2 ^ n ∧ u = nI a ∧ w = nI b) ∧ s = -1)))) := by
  obtain ⟨d, rfl⟩ := a_d1 (show 1 ≤ d by omega)
  have hw' := hw
  obtain ⟨w1, w2, w3, w4, w5, w6, w7⟩ := hw'
  have hpb := zpl_b p w4
  have h2n := z_p2 w1
  refine eX12_sum _ _ (bX12_sum_0 _ _ ⟨_, kX12_isState (by omega) _ hH.1 w1, ?_⟩)
  rintro v1 M1 ⟨rfl, rfl⟩
  refine ⟨fun h => bX12_sum_16 ⟨_, rfl, rfl, fun _ _ _ => rfl, Or.inr ⟨?_, rfl⟩⟩, fun h => ⟨_, kX12_isState (by omega) _ hH.1 w1, ?_⟩⟩
  · rintro ⟨a, b, ha, hb, rfl, rfl⟩
    rw [if_pos ⟨a, ha, rfl⟩] at h
    exact absurd h (by decide)
  · rintro v1 M1 ⟨rfl, rfl⟩
    refine ⟨fun h2 => ?_, fun h2 => bX12_sum_16 ⟨_, rfl, rfl, fun _ _ _ => rfl, Or.inr ⟨?_, rfl⟩⟩⟩
    · have c1 : ∃ k, k < 2 ^ n ∧ u = nI k := Classical.byContradiction fun q => h (if_neg q)
      have c2 : ∃ k, k < 2 ^ n ∧ w = nI k := Classical.byContradiction fun q => h2 (if_neg q)
      obtain ⟨a, ha, rfl⟩ := c1
      obtain ⟨b, hb, rfl⟩ := c2
      refine ⟨_, kX12_actedIs (by omega) (show a < 2 ^ 30 by omega), ?_⟩
      rintro M3 rfl
      refine ⟨_, kX12_sums (by omega) (v := zu a) (hH.same (mf_no _ _ _ _ _ _ (by decide))) hw ?_, ?_⟩
      · intro j hj
        rw [mf_in _ _ _ _ _ _ (Nat.zero_le _) (show j < 128 by omega), z_unit]
        refine ⟨rfl, ?_⟩
        unfold zu
        split <;> omega
      · rintro M4 ⟨hM4, hM5⟩
        refine ⟨n_in (by omega) (by omega), _, rfl, rfl, fun o q1 q2 => ?_, Or.inl ⟨a, b, ha, hb, rfl, rfl, ?_⟩⟩
        · rw [hM5 o q1 q2, mf_no _ _ _ _ _ _ q1]
        · rw [n_cl (by omega)]
          exact hM4 b (by omega)
    · rintro ⟨a, b, ha, hb, rfl, rfl⟩
      rw [if_pos ⟨b, hb, rfl⟩] at h2
      exact absurd h2 (by decide)
theorem kX12_power (hd : 4 ≤ d) {n r p t e : Nat} (hH : mH M n r p t e) (hw : wH n r p t e) (u k w : Int32) :
    mX12_power X ad ca d x [.ref 118, .int u, .int k, .int w] M (q_i (PT x) (fun s M' => (∀ o, o ≠ 140 → o ≠ 141 → M' o = M o) ∧ ((∃ a j b, a < 2 ^ n ∧ j < 100 ∧ b < 2 ^ n ∧ u = nI a ∧ k = nI j ∧ w = nI b ∧ s = nI (zit (zS p n (zbd n r) e) j (zu a) b)) ∨ (¬ (∃ a j b, a < 2 ^ n ∧ j < 100 ∧ b < 2 ^ n ∧ u = nI a ∧ k = nI j ∧ w = nI b) ∧ s = -1)))) := by
  obtain ⟨d, rfl⟩ := a_d1 (show 1 ≤ d by omega)
  have hw' := hw
  obtain ⟨w1, w2, w3, w4, w5, w6, w7⟩ := hw'
  have hpb := zpl_b p w4
  have h2n := z_p2 w1
  refine eX12_power _ _ _ (bX12_power_0 _ _ _ ⟨_, kX12_isState (by omega) _ hH.1 w1, ?_⟩)
  rintro v1 M1 ⟨rfl, rfl⟩
  refine ⟨fun h => bX12_power_26 ⟨_, rfl, rfl, fun _ _ _ => rfl, Or.inr ⟨?_, rfl⟩⟩, fun h => ⟨_, kX12_in (by omega) _ _ _, ?_⟩⟩
  · rintro ⟨a, j, b, ha, hj, hb, rfl, rfl, rfl⟩
    rw [if_pos ⟨a, ha, rfl⟩] at h
    exact absurd h (by decide)
  rintro v1 M1 ⟨rfl, rfl⟩
  refine ⟨fun h2 => bX12_power_26 ⟨_, rfl, rfl, fun _ _ _ => rfl, Or.inr ⟨?_, rfl⟩⟩, fun h2 => ⟨_, kX12_isState (by omega) _ hH.1 w1, ?_⟩⟩
  · rintro ⟨a, j, b, ha, hj, hb, rfl, rfl, rfl⟩
    rw [if_pos ⟨nI_pos' (by omega), nI_le (a := j) (b := 99) (by omega) (by omega)⟩] at h2
    exact absurd h2 (by decide)
  rintro v1 M1 ⟨rfl, rfl⟩
  refine ⟨fun h3 => ?_, fun h3 => bX12_power_26 ⟨_, rfl, rfl, fun _ _ _ => rfl, Or.inr ⟨?_, rfl⟩⟩⟩
  · have c1 : ∃ k, k < 2 ^ n ∧ u = nI k := Classical.byContradiction fun q => h (if_neg q)
    have c2 : (0 : Int32) ≤ k ∧ k ≤ 99 := Classical.byContradiction fun q => h2 (if_neg q)
    have c3 : ∃ k, k < 2 ^ n ∧ w = nI k := Classical.byContradiction fun q => h3 (if_neg q)
    obtain ⟨a, ha, rfl⟩ := c1
    obtain ⟨b, hb, rfl⟩ := c3
    obtain ⟨j, hj, rfl⟩ := nI_of2 (M := 99) (n := 99) rfl (fun q => (fa_of_lt q).2.1 c2.1) c2.2
    refine ⟨_, kX12_actedIs (by omega) (show a < 2 ^ 30 by omega), ?_⟩
    rintro M3 rfl
    refine a_loop (σ := a_M) (fun i M' => wX12_power X ad ca d x _ 36 [(0, .ref 118), (2, .int (nI j)), (3, .int (nI b)), (4, .int (nI i))] M') (fun i M' => (∀ o, o ≠ 140 → o ≠ 141 → M' o = M1 o) ∧ ∀ c, c < 2 ^ n → M' 140 c = nI (zit (zS p n (zbd n r) e) i (zu a) c) ∧ zit (zS p n (zbd n r) e) i (zu a) c < p) j ?_ ?_ 0 _ (Nat.zero_le _) ?_
    · rintro M' ⟨q1, q2⟩
      refine bX12_power_36 _ _ _ ⟨fun _ => ⟨n_in (by omega) (by omega), _, rfl, rfl, q1, Or.inl ⟨a, j, b, ha, by omega, hb, rfl, rfl, rfl, ?_⟩⟩, fun q => absurd (nI_le (Nat.le_refl j) (by omega)) q⟩
      rw [n_cl (by omega)]
      exact (q2 b hb).1
    · rintro i M' hi ⟨q1, q2⟩ ih
      refine bX12_power_36 _ _ _ ⟨fun q => absurd q (nI_ge hi (by omega)), fun _ => ⟨_, kX12_sums (by omega) (hH.same (q1 119 (by decide) (by decide))) hw q2, ?_⟩⟩
      rintro M4 ⟨q3, q4⟩
      rw [← nI_succ]
      refine ih M4 ⟨fun o g1 g2 => (q4 o g1 g2).trans (q1 o g1 g2), fun c hc => ⟨q3 c (by omega), zS_lt (by omega)⟩⟩
    · refine ⟨fun o g1 g2 => mf_no _ _ _ _ _ _ g1, fun c hc => ?_⟩
      rw [mf_in _ _ _ _ _ _ (Nat.zero_le _) (show c < 128 by omega), z_unit]
      refine ⟨rfl, ?_⟩
      show zu a c < p
      unfold zu
      split <;> omega
  · rintro ⟨a, j, b, ha, hj, hb, rfl, rfl, rfl⟩
    rw [if_pos ⟨b, hb, rfl⟩] at h3
    exact absurd h3 (by decide)
end Z6
