/-! CONTRACTS 6: the class's Rule -/
def rH (M : a_M) (o n r p t e : Nat) : Prop := M o 0 = nI n ∧ M o 1 = nI r ∧ M o 2 = nI p ∧ M o 3 = nI t ∧ M o 4 = nI e
theorem rH.same {M M' : a_M} {o n r p t e : Nat} (h : rH M o n r p t e) (hm : M' o = M o) : rH M' o n r p t e := by unfold rH; rw [hm]; exact h
theorem n_and (a b : Nat) : nI a &&& nI b = nI (a &&& b) := fa_and a b
theorem n_or (a b : Nat) : nI a ||| nI b = nI (a ||| b) := fa_or a b
/-- the two letters of bond i as bits -/
def ztw (n i : Nat) : Nat := 2 ^ i ||| 2 ^ zn n i
theorem ztw_al : ∀ n, n < 8 → 2 ≤ n → ∀ a, a < 2 ^ n → ∀ i, i < n → ((a &&& ztw n i = 0 ∨ a &&& ztw n i = ztw n i) ↔ zal n a i = true) := by decide +kernel
theorem ztw_tg : ∀ n, n < 8 → 2 ≤ n → ∀ a, a < 2 ^ n → ∀ i, i < n → ¬ zal n a i = true → a ^^^ ztw n i = ztg n a i := by decide +kernel
theorem ztw_lt : ∀ n, n < 8 → 2 ≤ n → ∀ i, i < n → ztw n i < 2 ^ n := by decide +kernel
theorem ly_ne {o o2 : Nat} {q q2 : Nat × Nat} (h : LY[o]? = some q) (h2 : LY[o2]? = some q2) (hq : q.1 ≠ q2.1) : o ≠ o2 := by
  rintro rfl
  rw [h] at h2
  cases h2
  exact hq rfl
section Z7
variable {X : a_X} {ad : Nat → Nat} {ca : Nat → ClassId} {d x : Nat} {M : a_M} {o : Nat}
theorem kX6_states (hd : 1 ≤ d) (hL : LY[o]? = some (6, 5)) {n : Nat} (hN : M o 0 = nI n) (hn : n < 8) : mX6_states X ad ca d x [.ref o] M (q_i (PT x) (fun r M' => M' = M ∧ r = nI (2 ^ n))) := by
  obtain ⟨d, rfl⟩ := a_d1 hd
  refine eX6_states _ (bX6_states_0 _ hL ⟨_, rfl, rfl, rfl, ?_⟩)
  rw [hN, z_pow n hn]
theorem kX6_isState (hd : 2 ≤ d) (hL : LY[o]? = some (6, 5)) (v : Int32) {n : Nat} (hN : M o 0 = nI n) (hn : n < 8) : mX6_isState X ad ca d x [.ref o, .int v] M (q_i (PT x) (fun r M' => M' = M ∧ r = if ∃ k, k < 2 ^ n ∧ v = nI k then 1 else 0)) := by
  obtain ⟨d, rfl⟩ := a_d1 (show 1 ≤ d by omega)
  have h2n := z_p2 hn
  refine eX6_isState _ _ (bX6_isState_0 _ _ hL ⟨fun h => bX6_isState_16 ⟨_, rfl, rfl, rfl, ?_⟩, fun h => ⟨_, kX6_states (by omega) hL hN hn, ?_⟩⟩)
  · rw [if_neg]
    rintro ⟨k, hk, rfl⟩
    exact nI_pos (by omega) h
  · rintro v1 M1 ⟨rfl, rfl⟩
    refine ⟨fun h2 => bX6_isState_16 ⟨_, rfl, rfl, rfl, ?_⟩, fun h2 => ⟨_, rfl, rfl, rfl, ?_⟩⟩
    · rw [if_neg]
      rintro ⟨k, hk, rfl⟩
      exact nI_ge hk (by omega) h2
    · rw [if_pos]
      rcases pk_ix v (n := 2 ^ n) (by omega) with q | q | q
      · exact absurd q h
      · exact absurd q h2
      · exact q
theorem kX6_isNumber (hd : 1 ≤ d) (hL : LY[o]? = some (6, 5)) (v : Int32) {p : Nat} (hP : M o 2 = nI p) (hp2 : p < 2 ^ 30) : mX6_isNumber X ad ca d x [.ref o, .int v] M (q_i (PT x) (fun r M' => M' = M ∧ r = if ∃ k, k < p ∧ v = nI k then 1 else 0)) := by
  obtain ⟨d, rfl⟩ := a_d1 (show 1 ≤ d by omega)
  refine eX6_isNumber _ _ (bX6_isNumber_0 _ _ hL ⟨fun h => bX6_isNumber_16 ⟨_, rfl, rfl, rfl, ?_⟩, fun h => ?_⟩)
  · rw [if_neg]
    rintro ⟨k, hk, rfl⟩
    exact nI_pos (by omega) h
  · rw [hP]
    refine ⟨fun h2 => bX6_isNumber_16 ⟨_, rfl, rfl, rfl, ?_⟩, fun h2 => ⟨_, rfl, rfl, rfl, ?_⟩⟩
    · rw [if_neg]
      rintro ⟨k, hk, rfl⟩
      exact nI_ge hk (by omega) h2
    · rw [if_pos]
      rcases pk_ix v (n := p) (by omega) with q | q | q
      · exact absurd q h
      · exact absurd q h2
      · exact q
theorem kX6_isCount (hd : 1 ≤ d) (hL : LY[o]? = some (6, 5)) (v : Int32) {n : Nat} (hN : M o 0 = nI n) (hn : n < 8) : mX6_isCount X ad ca d x [.ref o, .int v] M (q_i (PT x) (fun r M' => M' = M ∧ r = if ∃ k, k ≤ n ∧ v = nI k then 1 else 0)) := by
  obtain ⟨d, rfl⟩ := a_d1 (show 1 ≤ d by omega)
  refine eX6_isCount _ _ (bX6_isCount_0 _ _ hL ⟨fun h => bX6_isCount_16 ⟨_, rfl, rfl, rfl, ?_⟩, fun h => ?_⟩)
  · rw [if_neg]
    rintro ⟨k, hk, rfl⟩
    exact nI_pos (by omega) h
  · rw [hN]
    refine ⟨fun h2 => bX6_isCount_16 ⟨_, rfl, rfl, rfl, ?_⟩, fun h2 => ⟨_, rfl, rfl, rfl, ?_⟩⟩
    · rw [if_neg]
      rintro ⟨k, hk, rfl⟩
      exact nI_nlt (a := n) (b := k) hk (by omega) h2
    · rw [if_pos]
      rcases pk_ix v (n := n + 1) (by omega) with q | q | ⟨k, hk, q⟩
      · exact absurd q h
      · exact absurd (fa_trans (nI_lt (Nat.lt_succ_self n) (by omega)) q) h2
      · exact ⟨k, by omega, q⟩
theorem kX6_bonds (hd : 1 ≤ d) (hL : LY[o]? = some (6, 5)) {n r : Nat} (hN : M o 0 = nI n) (hR : M o 1 = nI r) (hn : n < 8) (hn2 : 2 ≤ n) (hr : r ≤ 1) : mX6_bonds X ad ca d x [.ref o] M (q_i (PT x) (fun s M' => M' = M ∧ s = nI (zbd n r))) := by
  obtain ⟨d, rfl⟩ := a_d1 hd
  refine eX6_bonds _ (bX6_bonds_0 _ hL ?_)
  rw [hN, hR]
  refine ⟨fun h => ⟨_, rfl, rfl, rfl, ?_⟩, fun h => ⟨_, rfl, rfl, rfl, ?_⟩⟩
  · have hr0 : r = 0 := by
      rw [← nI_0] at h
      exact (nI_eq (by omega) (by omega)).mp h
    unfold zbd
    rw [if_pos hr0]
    exact pk_sub (a := n) (b := 1) (by omega)
  · have hr0 : r ≠ 0 := fun q => h (by rw [q]; rfl)
    unfold zbd
    rw [if_neg hr0]
theorem kX6_bond (hd : 1 ≤ d) (hL : LY[o]? = some (6, 5)) {n i : Nat} (hN : M o 0 = nI n) (hn : n < 8) (hi : i < n) : mX6_bond X ad ca d x [.ref o, .int (nI i)] M (q_i (PT x) (fun s M' => M' = M ∧ s = nI (ztw n i))) := by
  obtain ⟨d, rfl⟩ := a_d1 hd
  refine eX6_bond _ _ (bX6_bond_0 _ _ hL ?_)
  rw [hN, ← nI_succ, z_pow i (by omega), z_pow (i + 1) (by omega), fa_lit 0, z_pow 0 (by omega), n_or, n_or]
  refine ⟨fun h => ⟨_, rfl, rfl, rfl, ?_⟩, fun h => ⟨_, rfl, rfl, rfl, ?_⟩⟩
  · have h1 : i + 1 ≠ n := fun q => h (by rw [q])
    unfold ztw zn
    rw [Nat.mod_eq_of_lt (by omega)]
  · have h1 : i + 1 = n := (nI_eq (by omega) (by omega)).mp h
    unfold ztw zn
    rw [h1, Nat.mod_self]
theorem kX6_areAlike (hd : 1 ≤ d) {n a i : Nat} (hn : n < 8) (hn2 : 2 ≤ n) (ha : a < 2 ^ n) (hi : i < n) : mX6_areAlike X ad ca d x [.int (nI a), .int (nI (ztw n i))] M (q_i (PT x) (fun s M' => M' = M ∧ s = if zal n a i = true then 1 else 0)) := by
  obtain ⟨d, rfl⟩ := a_d1 hd
  have hk := ztw_al n hn hn2 a ha i hi
  have h2n := z_p2 hn
  have hlt := ztw_lt n hn hn2 i hi
  have hle : a &&& ztw n i ≤ ztw n i := Nat.and_le_right
  refine eX6_areAlike _ _ (bX6_areAlike_0 _ _ ?_)
  rw [n_and]
  refine ⟨fun h => bX6_areAlike_13 ⟨_, rfl, rfl, rfl, ?_⟩, fun h => ⟨fun h2 => ⟨_, rfl, rfl, rfl, ?_⟩, fun h2 => bX6_areAlike_13 ⟨_, rfl, rfl, rfl, ?_⟩⟩⟩
  · rw [← nI_0] at h
    rw [if_pos (hk.mp (Or.inl ((nI_eq (by omega) (by omega)).mp h)))]
  · rw [if_neg]
    intro q
    rcases hk.mpr q with q | q
    · exact h (by rw [q]; rfl)
    · exact h2 (by rw [q])
  · rw [if_pos (hk.mp (Or.inr ((nI_eq (by omega) (by omega)).mp h2)))]
theorem kX6_shifted (hd : 2 ≤ d) (hL : LY[o]? = some (6, 5)) {n a : Nat} (hN : M o 0 = nI n) (hn : n < 8) (hn2 : 2 ≤ n) (ha : a < 2 ^ n) : mX6_shifted X ad ca d x [.ref o, .int (nI a)] M (q_i (PT x) (fun r M' => M' = M ∧ r = nI (zh n a))) := by
  obtain ⟨d, rfl⟩ := a_d1 (show 1 ≤ d by omega)
  refine eX6_shifted _ _ (bX6_shifted_0 _ _ hL ⟨_, kX6_states (by omega) hL hN hn, ?_⟩)
  rintro v1 M1 ⟨rfl, rfl⟩
  refine ⟨_, rfl, rfl, rfl, ?_⟩
  rw [hN, z_shift n hn hn2 a ha]
theorem kX6_sumBetween (hd : 2 ≤ d) (hL : LY[o]? = some (6, 5)) {n r p t e a b : Nat} (hH : rH M o n r p t e) (hw : wH n r p t e) (ha : a < 2 ^ n) (hb : b < 2 ^ n) : mX6_sumBetween X ad ca d x [.ref o, .int (nI a), .int (nI b)] M (q_i (PT x) (fun s M' => M' = M ∧ s = nI (zS p n (zbd n r) e (zu a) b))) := by
  obtain ⟨d, rfl⟩ := a_d1 (show 1 ≤ d by omega)
  obtain ⟨h0, h1, h2, h3, h4⟩ := hH
  obtain ⟨w1, w2, w3, w4, w5, w6, w7⟩ := hw
  have hpb := zpl_b p w4
  have h2n := z_p2 w1
  have hbn : zbd n r ≤ n := by unfold zbd; split <;> omega
  have hS : zS p n (zbd n r) e (zu a) b = zs (fun i => if ztg n a i = b then zwt n e a i else 0) (zbd n r) % p := by
    unfold zS
    rw [zs_one (k := a) ha (fun j _ hj => zs_zero (fun i _ => by unfold zt zu; rw [if_neg hj, Nat.zero_mul]; simp))]
    congr 1
    apply zs_cong
    intro i _
    unfold zt zu
    rw [if_pos rfl, Nat.one_mul]
  refine eX6_sumBetween _ _ _ (bX6_sumBetween_0 _ _ _ hL ?_)
  refine a_loop (σ := Nat) (fun i v => wX6_sumBetween X ad ca d x _ 5 [(0, .ref o), (1, .int (nI a)), (2, .int (nI b)), (3, .int (nI v)), (4, .int (nI i))] M) (fun i v => v = zs (fun i => if ztg n a i = b then zwt n e a i else 0) i) (zbd n r) ?_ ?_ 0 0 (Nat.zero_le _) rfl
  · rintro v rfl
    refine bX6_sumBetween_5 _ _ _ _ _ hL ⟨_, kX6_bonds (by omega) hL h0 h1 w1 w2 w3, ?_⟩
    rintro v1 M1 ⟨rfl, rfl⟩
    refine ⟨fun _ => ?_, fun h => absurd (nI_le (Nat.le_refl _) (by omega)) h⟩
    rw [h2]
    refine ⟨_, kX11_left (by omega) _ (by omega) (by omega), ?_⟩
    rintro v2 M2 ⟨rfl, rfl⟩
    refine ⟨_, rfl, rfl, rfl, ?_⟩
    have hle := zs_le (f := fun i => if ztg n a i = b then zwt n e a i else 0) (c := 97) (n := zbd n r) (fun k _ => by
      show (if ztg n a k = b then zwt n e a k else 0) ≤ 97
      unfold zwt
      split
      · split <;> omega
      · omega)
    rw [nI_toInt (by omega), zm_nat, hS]
  · rintro i v hi rfl ih
    have hin : i < n := by omega
    refine bX6_sumBetween_5 _ _ _ _ _ hL ⟨_, kX6_bonds (by omega) hL h0 h1 w1 w2 w3, ?_⟩
    rintro v1 M1 ⟨rfl, rfl⟩
    refine ⟨fun h => absurd h (nI_ge hi (by omega)), fun _ => ⟨_, kX6_bond (by omega) hL h0 w1 hin, ?_⟩⟩
    rintro v1 M1 ⟨rfl, rfl⟩
    refine ⟨_, kX6_areAlike (by omega) w1 w2 ha hin, ?_⟩
    rintro v1 M1 ⟨rfl, rfl⟩
    have hend : ∀ w, w = (if ztg n a i = b then zwt n e a i else 0) → wX6_sumBetween X ad ca d x (q_i (PT x) fun s M' => M' = M1 ∧ s = nI (zS p n (zbd n r) e (zu a) b)) 66 [(0, .ref o), (1, .int (nI a)), (2, .int (nI b)), (3, .int (nI (zs (fun i => if ztg n a i = b then zwt n e a i else 0) i + w))), (4, .int (nI i))] M1 := by
      rintro w rfl
      refine bX6_sumBetween_66 _ _ _ _ _ hL ?_
      rw [← nI_succ]
      exact ih _ rfl
    have hxl := ztw_lt n w1 w2 i hin
    by_cases hal : zal n a i = true
    · have etg : ztg n a i = a := by unfold ztg; rw [if_pos hal]
      rw [if_pos hal]
      refine ⟨fun h => absurd h (by decide), fun _ => ⟨fun h => ?_, fun h => ?_⟩⟩
      · have hab : a ≠ b := fun q => h (by rw [q])
        have := hend 0 (by rw [etg, if_neg hab])
        rw [Nat.add_zero] at this
        exact bX6_sumBetween_50 _ _ _ _ _ _ _ hL ⟨fun _ => this, fun h => absurd h (by decide)⟩
      · have hab : a = b := (nI_eq (by omega) (by omega)).mp h
        rw [h4, nI_add]
        exact hend e (by rw [etg, if_pos hab]; unfold zwt; rw [if_pos hal])
    · have etg := ztw_tg n w1 w2 a ha i hin hal
      have hlt := ztg_lt n w1 w2 a ha i hin
      rw [if_neg hal]
      refine ⟨fun _ => bX6_sumBetween_50 _ _ _ _ _ _ _ hL ⟨fun h => absurd rfl h, fun _ => ?_⟩, fun h => absurd rfl h⟩
      rw [n_xor, etg]
      refine ⟨fun h => ?_, fun h => ?_⟩
      · have hab : ztg n a i ≠ b := fun q => h (by rw [q])
        have := hend 0 (by rw [if_neg hab])
        rw [Nat.add_zero] at this
        exact this
      · have hab : ztg n a i = b := (nI_eq (by omega) (by omega)).mp h
        rw [nI_1]
        exact hend 1 (by rw [if_pos hab]; unfold zwt; rw [if_neg hal])
theorem kX6_addSumOf (hd : 2 ≤ d) (hL : LY[o]? = some (6, 5)) {n r p t e a o3 m : Nat} (hL3 : LY[o3]? = some (100, 128)) (hH : rH M o n r p t e) (hw : wH n r p t e) (ha : a < 2 ^ n) (A : Nat → Nat) :
    mX6_addSumOf X ad ca d x [.ref o, .int (nI a), .int (nI m), .ref o3] (mf M o3 0 (fun y => nI (A y)) 128) (q_v (PT x) (fun M' => M' = mf M o3 0 (fun y => nI (A y + zs (fun i => if ztg n a i = y then m * zwt n e a i else 0) (zbd n r))) 128)) := by
  obtain ⟨d, rfl⟩ := a_d1 (show 1 ≤ d by omega)
  have hne : o ≠ o3 := ly_ne hL hL3 (by decide)
  obtain ⟨w1, w2, w3, w4, w5, w6, w7⟩ := hw
  have hpb := zpl_b p w4
  have h2n := z_p2 w1
  have hbn : zbd n r ≤ n := by unfold zbd; split <;> omega
  refine eX6_addSumOf _ _ _ _ (bX6_addSumOf_0 _ _ _ _ _ hL hL3 ?_)
  have key := a_loop (σ := Unit) (fun i _ => wX6_addSumOf X ad ca d x (q_v (PT x) (fun M' => M' = mf M o3 0 (fun y => nI (A y + zs (fun i => if ztg n a i = y then m * zwt n e a i else 0) (zbd n r))) 128)) 3 [(0, .ref o), (1, .int (nI a)), (2, .int (nI m)), (3, .ref o3), (4, .int (nI i))] (mf M o3 0 (fun y => nI (A y + zs (fun i => if ztg n a i = y then m * zwt n e a i else 0) i)) 128)) (fun _ _ => True) (zbd n r) ?_ ?_ 0 () (Nat.zero_le _) trivial
  · exact key
  · intro _ _
    obtain ⟨h0, h1, h2, h3, h4⟩ := hH.same (M' := mf M o3 0 (fun y => nI (A y + zs (fun i => if ztg n a i = y then m * zwt n e a i else 0) (zbd n r))) 128) (mf_no _ _ _ _ _ _ hne)
    refine bX6_addSumOf_3 _ _ _ _ _ _ hL hL3 ⟨_, kX6_bonds (by omega) hL h0 h1 w1 w2 w3, ?_⟩
    rintro v1 M1 ⟨rfl, rfl⟩
    exact ⟨fun _ => ⟨rfl, rfl, rfl⟩, fun h => absurd (nI_le (Nat.le_refl _) (by omega)) h⟩
  · intro i _ hi _ ih
    have hin : i < n := by omega
    obtain ⟨h0, h1, h2, h3, h4⟩ := hH.same (M' := mf M o3 0 (fun y => nI (A y + zs (fun i => if ztg n a i = y then m * zwt n e a i else 0) i)) 128) (mf_no _ _ _ _ _ _ hne)
    refine bX6_addSumOf_3 _ _ _ _ _ _ hL hL3 ⟨_, kX6_bonds (by omega) hL h0 h1 w1 w2 w3, ?_⟩
    rintro v1 M1 ⟨rfl, rfl⟩
    refine ⟨fun h => absurd h (nI_ge hi (by omega)), fun _ => ⟨_, kX6_bond (by omega) hL h0 w1 hin, ?_⟩⟩
    rintro v1 M1 ⟨rfl, rfl⟩
    refine ⟨_, kX6_areAlike (by omega) w1 w2 ha hin, ?_⟩
    rintro v1 M1 ⟨rfl, rfl⟩
    have hend : ∀ k w, k < 128 → k = ztg n a i → w = m * zwt n e a i → wX6_addSumOf X ad ca d x (q_v (PT x) (fun M' => M' = mf M o3 0 (fun y => nI (A y + zs (fun i => if ztg n a i = y then m * zwt n e a i else 0) (zbd n r))) 128)) 54 [(0, .ref o), (1, .int (nI a)), (2, .int (nI m)), (3, .ref o3), (4, .int (nI i))] (ms (mf M o3 0 (fun y => nI (A y + zs (fun i => if ztg n a i = y then m * zwt n e a i else 0) i)) 128) o3 k ((mf M o3 0 (fun y => nI (A y + zs (fun i => if ztg n a i = y then m * zwt n e a i else 0) i)) 128) o3 k + nI w)) := by
      rintro k w hk rfl rfl
      refine bX6_addSumOf_54 _ _ _ _ _ _ hL hL3 ?_
      rw [mf_in _ _ _ _ _ _ (Nat.zero_le _) hk, nI_add, ← nI_succ]
      rw [mf_set (g := fun y => nI (A y + zs (fun i => if ztg n a i = y then m * zwt n e a i else 0) (i + 1))) hk ?_ ?_]
      · exact ih () trivial
      · show nI _ = nI (A _ + (zs _ i + (if ztg n a i = ztg n a i then m * zwt n e a i else 0)))
        rw [if_pos rfl, Nat.add_assoc]
      · intro j _ hj
        show nI _ = nI (A j + (zs _ i + (if ztg n a i = j then m * zwt n e a i else 0)))
        rw [if_neg (Ne.symm hj)]
        rfl
    by_cases hal : zal n a i = true
    · have etg : ztg n a i = a := by unfold ztg; rw [if_pos hal]
      have hti := n_in (N := 128) (show a < 128 by omega) (by omega)
      rw [if_pos hal]
      refine ⟨fun h => absurd h (by decide), fun _ => ⟨hti, hti, ?_⟩⟩
      rw [n_cl (by omega), h4, n_mul]
      exact hend a (e * m) (by omega) etg.symm (by unfold zwt; rw [if_pos hal, Nat.mul_comm])
    · have etg := ztw_tg n w1 w2 a ha i hin hal
      have hlt := ztg_lt n w1 w2 a ha i hin
      have hti := n_in (N := 128) (show ztg n a i < 128 by omega) (by omega)
      rw [if_neg hal, n_xor, etg, n_cl (by omega)]
      refine ⟨fun _ => ⟨hti, hti, ?_⟩, fun h => absurd rfl h⟩
      exact hend _ m (by omega) rfl (by unfold zwt; rw [if_neg hal, Nat.mul_one])
theorem kX6_sumOver (hd : 3 ≤ d) (hL : LY[o]? = some (6, 5)) {n r p t e o1 o2 : Nat} {v : Nat → Nat} (hL1 : LY[o1]? = some (100, 128)) (hL2 : LY[o2]? = some (100, 128)) (h12 : o1 ≠ o2) (hH : rH M o n r p t e) (hw : wH n r p t e) (hv : ∀ j, j < 2 ^ n → M o1 j = nI (v j) ∧ v j < p) :
    mX6_sumOver X ad ca d x [.ref o, .ref o1, .ref o2] M (q_v (PT x) (fun M' => (∀ j, j < 2 ^ n → M' o2 j = nI (zS p n (zbd n r) e v j)) ∧ (∀ j, 2 ^ n ≤ j → j < 128 → M' o2 j = 0) ∧ ∀ k, k ≠ o2 → M' k = M k)) := by
  obtain ⟨d, rfl⟩ := a_d1 (show 1 ≤ d by omega)
  have hne : o ≠ o2 := ly_ne hL hL2 (by decide)
  have hw' := hw
  obtain ⟨w1, w2, w3, w4, w5, w6, w7⟩ := hw'
  have hpb := zpl_b p w4
  have h2n := z_p2 w1
  have hbn : zbd n r ≤ n := by unfold zbd; split <;> omega
  refine eX6_sumOver _ _ _ (bX6_sumOver_0 _ _ _ _ _ hL hL1 hL2 ⟨_, kX11_clear (by omega) hL2 (by omega), ?_⟩)
  rintro M1 rfl
  let A : Nat → Nat → Nat := fun a y => zs (fun a' => zs (fun i' => zt n e v a' i' y) (zbd n r)) a
  have hA : ∀ y, A (2 ^ n) y < 2 ^ 31 := fun y => by
    have h1 := zs_le (f := fun a' => zs (fun i' => zt n e v a' i' y) (zbd n r)) (c := 7 * 16384) (n := 2 ^ n) (fun a' ha' => by
      have h2 := zs_le (f := fun i' => zt n e v a' i' y) (c := 16384) (n := zbd n r) (fun i' _ => by
        show (if ztg n a' i' = y then v a' * zwt n e a' i' else 0) ≤ 16384
        have h3 : zwt n e a' i' < p := by unfold zwt; split <;> omega
        have h4 := n_p2 (hv a' ha').2 h3 (by omega)
        split <;> omega)
      exact Nat.le_trans h2 (Nat.mul_le_mul_right _ (by omega)))
    exact Nat.lt_of_le_of_lt (Nat.le_trans h1 (Nat.mul_le_mul_right _ h2n)) (by decide)
  generalize hPost : q_v (PT x) (fun M' => (∀ j, j < 2 ^ n → M' o2 j = nI (zS p n (zbd n r) e v j)) ∧ (∀ j, 2 ^ n ≤ j → j < 128 → M' o2 j = 0) ∧ ∀ k, k ≠ o2 → M' k = M k) = Post
  have key := a_loop (σ := Unit) (fun a _ => wX6_sumOver X ad ca d x Post 6 [(0, .ref o), (1, .ref o1), (2, .ref o2), (3, .int (nI a))] (mf M o2 0 (fun y => nI (A a y)) 128)) (fun _ _ => True) (2 ^ n) ?_ ?_ 0 () (Nat.zero_le _) trivial
  · exact key
  · intro _ _
    have hH1 := hH.same (M' := mf M o2 0 (fun y => nI (A (2 ^ n) y)) 128) (mf_no _ _ _ _ _ _ hne)
    refine bX6_sumOver_6 _ _ _ _ _ _ hL hL1 hL2 ⟨_, kX6_states (by omega) hL hH1.1 w1, ?_⟩
    rintro v1 M1 ⟨rfl, rfl⟩
    refine ⟨fun _ => ?_, fun h => absurd (nI_le (Nat.le_refl (2 ^ n)) (by omega)) h⟩
    have key2 := a_loop (σ := Unit) (fun j _ => wX6_sumOver X ad ca d x Post 37 [(0, .ref o), (2, .ref o2), (3, .int (nI j))] (mf (mf M o2 0 (fun y => nI (A (2 ^ n) y)) 128) o2 0 (fun y => nI (A (2 ^ n) y % p)) j)) (fun _ _ => True) (2 ^ n) ?_ ?_ 0 () (Nat.zero_le _) trivial
    · rw [mf_0] at key2; exact key2
    · intro _ _
      have hH2 := hH1.same (M' := mf (mf M o2 0 (fun y => nI (A (2 ^ n) y)) 128) o2 0 (fun y => nI (A (2 ^ n) y % p)) (2 ^ n)) (mf_no _ _ _ _ _ _ hne)
      refine bX6_sumOver_37 _ _ _ _ hL hL2 ⟨_, kX6_states (by omega) hL hH2.1 w1, ?_⟩
      rintro v1 M1 ⟨rfl, rfl⟩
      refine ⟨fun _ => ?_, fun h => absurd (nI_le (Nat.le_refl (2 ^ n)) (by omega)) h⟩
      rw [← hPost]
      refine ⟨rfl, rfl, fun j hj => mf_in _ _ _ _ _ _ (Nat.zero_le _) hj, fun j hj1 hj2 => ?_, fun k hk => ?_⟩
      · rw [mf_out _ _ _ _ _ _ (Or.inr hj1), mf_in _ _ _ _ _ _ (Nat.zero_le _) hj2]
        show nI (zs (fun a' => zs (fun i' => zt n e v a' i' j) (zbd n r)) (2 ^ n)) = 0
        rw [zs_zero (fun a' ha' => zs_zero (fun i' hi' => ?_))]
        · rfl
        · have := ztg_lt n w1 w2 a' ha' i' (by omega)
          unfold zt
          rw [if_neg (by omega)]
      · rw [mf_no _ _ _ _ _ _ hk, mf_no _ _ _ _ _ _ hk]
    · intro j _ hj _ ih
      have hH2 := hH1.same (M' := mf (mf M o2 0 (fun y => nI (A (2 ^ n) y)) 128) o2 0 (fun y => nI (A (2 ^ n) y % p)) j) (mf_no _ _ _ _ _ _ hne)
      refine bX6_sumOver_37 _ _ _ _ hL hL2 ⟨_, kX6_states (by omega) hL hH2.1 w1, ?_⟩
      rintro v1 M1 ⟨rfl, rfl⟩
      refine ⟨fun h => absurd h (nI_ge hj (by omega)), fun _ => ⟨n_in (by omega) (by omega), ?_⟩⟩
      rw [hH2.2.2.1, n_cl (by omega), mf_out _ _ _ _ _ _ (Or.inr (Nat.le_refl j)), mf_in _ _ _ _ _ _ (Nat.zero_le _) (show j < 128 by omega)]
      refine ⟨_, kX11_left (by omega) _ (by omega) (by omega), ?_⟩
      rintro v1 M1 ⟨rfl, rfl⟩
      refine ⟨n_in (by omega) (by omega), ?_⟩
      rw [nI_toInt (hA j), zm_nat, mf_s (Nat.zero_le _) rfl, ← nI_succ]
      exact ih () trivial
  · intro a _ ha _ ih
    have hva := hv a ha
    have hH1 := hH.same (M' := mf M o2 0 (fun y => nI (A a y)) 128) (mf_no _ _ _ _ _ _ hne)
    have hnext : wX6_sumOver X ad ca d x Post 29 [(0, .ref o), (1, .ref o1), (2, .ref o2), (3, .int (nI a))] (mf M o2 0 (fun y => nI (A (a + 1) y)) 128) := by
      refine bX6_sumOver_29 _ _ _ _ _ _ hL hL1 hL2 ?_
      rw [← nI_succ]
      exact ih () trivial
    refine bX6_sumOver_6 _ _ _ _ _ _ hL hL1 hL2 ⟨_, kX6_states (by omega) hL hH1.1 w1, ?_⟩
    rintro v1 M1 ⟨rfl, rfl⟩
    refine ⟨fun h => absurd h (nI_ge ha (by omega)), fun _ => ⟨n_in (by omega) (by omega), ?_⟩⟩
    rw [n_cl (by omega), mf_no _ _ _ _ _ _ h12, hva.1]
    refine ⟨fun h0 => ?_, fun h0 => ⟨n_in (by omega) (by omega), _, kX6_addSumOf (by omega) hL hL2 hH hw ha (A a), ?_⟩⟩
    · have hv0 : v a = 0 := by
        rw [← nI_0] at h0
        exact (nI_eq (by omega) (by omega)).mp h0
      have e1 : mf M o2 0 (fun y => nI (A a y)) 128 = mf M o2 0 (fun y => nI (A (a + 1) y)) 128 := mf_cong (fun j _ _ => by
        show nI (zs _ a) = nI (zs _ a + zs (fun i' => zt n e v a i' j) (zbd n r))
        rw [zs_zero (f := fun i' => zt n e v a i' j) (fun k _ => by unfold zt; rw [hv0]; simp)]
        rfl)
      rw [e1]
      exact hnext
    · rintro M2 rfl
      exact hnext
end Z7
