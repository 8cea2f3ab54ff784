/-! CONTRACTS 28: weight, feed, end, fault, root, mean, about on the class's side -/
/-- the script that is told -/
def zts (k : Nat) : Nat := if k = 0 then 6 else 94 + 6 * (k - 1)
theorem zts_sc {k : Nat} (h : k ≤ 4) : zsc (zts k) := by
  unfold zsc zts
  split
  · exact Or.inl rfl
  · omega
theorem ly_scripts {k x : Nat} (h : k < 4) : PT x 5 k = (94 + 6 * k) + 1 := by
  rcases (show k = 0 ∨ k = 1 ∨ k = 2 ∨ k = 3 by omega) with rfl | rfl | rfl | rfl <;> rfl
/-- what feed and end change in the class -/
def cF (M M' : a_M) : Prop := (∀ o, o ≠ 1 → o ≠ 2 → M' o = M o) ∧ ∀ j, j ≠ 3 → M' 1 j = M 1 j
def cFa (M : a_M) (fa fb : Int32) : Prop := (M 12 5 = 0 ∧ fa = -1 ∧ fb = -1) ∨ (∃ R, R < 2 ^ 30 ∧ M 12 5 = nI (R + 1) ∧ M 12 6 = fa ∧ M 12 7 = fb)
section Z29
variable {X : a_X} {ad : Nat → Nat} {ca : Nat → ClassId} {d x o : Nat} {M : a_M} {S : Nat → Nat} {V : Nat → Nat → Nat}
theorem kJ6_bitCount (hd : 1 ≤ d) {a : Nat} (ha : a < 128) : mJ6_bitCount_0f7a4 X ad ca d x [.int (nI a)] M (q_i (PT x) (fun s M' => M' = M ∧ s = nI (zc a))) := by
  obtain ⟨d, rfl⟩ := a_d1 (show 1 ≤ d by omega)
  refine eJ6_bitCount_0f7a4 _ (bJ6_bitCount_0f7a4_0 _ ⟨_, rfl, rfl, rfl, ?_⟩)
  clear hd
  revert ha
  revert a
  decide +kernel
theorem kX6_alikeAt (hd : 1 ≤ d) (hL : LY[o]? = some (6, 5)) {n a r : Nat} (hN : M o 0 = nI n) (hn : n < 8) (ha : a < 2 ^ n) (hr : r < n) : mX6_alikeAt X ad ca d x [.ref o, .int (nI a), .int (nI r)] M (q_i (PT x) (fun s M' => M' = M ∧ s = nI (zs (fun i => if zb a i = zb a ((i + r) % n) then 1 else 0) n))) := by
  obtain ⟨d, rfl⟩ := a_d1 (show 1 ≤ d by omega)
  have h2n := z_p2 hn
  let F : Nat → Nat := fun i => if zb a i = zb a ((i + r) % n) then 1 else 0
  refine eX6_alikeAt _ _ _ (bX6_alikeAt_0 _ _ _ hL ?_)
  refine a_loop (σ := Unit) (fun i _ => wX6_alikeAt X ad ca d x _ 5 [(0, .ref o), (1, .int (nI a)), (2, .int (nI r)), (3, .int (nI (zs F i))), (4, .int (nI i))] M) (fun _ _ => True) n ?_ ?_ 0 () (Nat.zero_le _) trivial
  · intro _ _
    refine bX6_alikeAt_5 _ _ _ _ _ hL ?_
    rw [hN]
    exact ⟨fun _ => ⟨_, rfl, rfl, rfl, rfl⟩, fun h => absurd (nI_le (Nat.le_refl _) (by omega)) h⟩
  · intro i _ hi _ ih
    have yes : F i = 1 → wX6_alikeAt X ad ca d x (q_i (PT x) (fun s M' => M' = M ∧ s = nI (zs F n))) 61 [(0, .ref o), (1, .int (nI a)), (2, .int (nI r)), (3, .int (nI (zs F i) + 1)), (4, .int (nI i))] M := by
      intro h
      refine bX6_alikeAt_61 _ _ _ _ _ hL ?_
      rw [← nI_succ, ← nI_succ]
      have := ih () trivial
      rw [show zs F (i + 1) = zs F i + F i from rfl, h] at this
      exact this
    have no : F i = 0 → wX6_alikeAt X ad ca d x (q_i (PT x) (fun s M' => M' = M ∧ s = nI (zs F n))) 61 [(0, .ref o), (1, .int (nI a)), (2, .int (nI r)), (3, .int (nI (zs F i))), (4, .int (nI i))] M := by
      intro h
      refine bX6_alikeAt_61 _ _ _ _ _ hL ?_
      rw [← nI_succ]
      have := ih () trivial
      rw [show zs F (i + 1) = zs F i + F i from rfl, h] at this
      exact this
    refine bX6_alikeAt_5 _ _ _ _ _ hL ?_
    rw [hN, nI_add]
    refine ⟨fun h => absurd h (nI_ge hi (by omega)), fun _ => ⟨fun h => ?_, fun h => ?_⟩⟩
    · have hge : n ≤ i + r := by
        rcases Nat.lt_or_ge (i + r) n with q | q
        · exact absurd h (nI_ge q (by omega))
        · exact q
      have em : (i + r) % n = i + r - n := by rw [Nat.mod_eq_sub_mod hge, Nat.mod_eq_of_lt (by omega)]
      rw [pk_sub hge, z_bit (by omega) (by omega), z_bit (by omega) (by omega)]
      have eb : nI (a / 2 ^ i % 2) = nI (a / 2 ^ (i + r - n) % 2) ↔ zb a i = zb a ((i + r) % n) := by rw [em]; exact nI_eq (by omega) (by omega)
      exact ⟨fun h2 => no (if_neg (fun q => h2 (eb.mpr q))), fun h2 => yes (if_pos (eb.mp h2))⟩
    · have hlt : i + r < n := by
        rcases Nat.lt_or_ge (i + r) n with q | q
        · exact q
        · exact absurd (nI_le q (by omega)) h
      have em : (i + r) % n = i + r := Nat.mod_eq_of_lt hlt
      rw [z_bit (by omega) (by omega), z_bit (by omega) (by omega)]
      have eb : nI (a / 2 ^ i % 2) = nI (a / 2 ^ (i + r) % 2) ↔ zb a i = zb a ((i + r) % n) := by rw [em]; exact nI_eq (by omega) (by omega)
      exact ⟨fun h2 => no (if_neg (fun q => h2 (eb.mpr q))), fun h2 => yes (if_pos (eb.mp h2))⟩
theorem zm_nI {a p : Nat} (ha : a < 2 ^ 31) : zm (nI a).toInt p = a % p := by rw [nI_toInt ha, zm_nat]
theorem kX6_isRoot (hd : 2 ≤ d) (hL : LY[o]? = some (6, 5)) {n r p t e z : Nat} (hH : rH M o n r p t e) (hw : wH n r p t e) (hz : z < p) (hz1 : 1 ≤ z) : mX6_isRoot X ad ca d x [.ref o, .int (nI z)] M (q_i (PT x) (fun s M' => M' = M ∧ s = if zir n p z = true then 1 else 0)) := by
  obtain ⟨d, rfl⟩ := a_d1 (show 1 ≤ d by omega)
  have hpb := zpl_b p hw.2.2.2.1
  have hp0 : 0 < p := by omega
  have hn := hw.1
  have hn2 := hw.2.1
  obtain ⟨n', rfl⟩ : ∃ n', n = n' + 1 := ⟨n - 1, by omega⟩
  refine eX6_isRoot _ _ (bX6_isRoot_0 _ _ hL ?_)
  have key := a_loop (σ := Unit) (fun k _ => wX6_isRoot X ad ca d x (q_i (PT x) (fun s M' => M' = M ∧ s = if zir (n' + 1) p z = true then 1 else 0)) 4 [(0, .ref o), (1, .int (nI z)), (2, .int (nI (z ^ k % p))), (3, .int (nI (k + 1)))] M) (fun k _ => ∀ j, 1 ≤ j → j < k + 1 → z ^ j % p ≠ 1) n' ?_ ?_ 0 () (Nat.zero_le _) (fun j h1 h2 => by omega)
  · rw [Nat.pow_zero, Nat.mod_eq_of_lt (show 1 < p by omega)] at key; exact key
  · intro _ hk
    have hv : z ^ n' % p < p := Nat.mod_lt _ hp0
    have hb := n_p2 hv hz (by omega)
    have e1 : z ^ n' % p * z % p = z ^ (n' + 1) % p := by rw [Nat.mod_mul_mod, ← Nat.pow_succ]
    have hv2 : z ^ (n' + 1) % p < p := Nat.mod_lt _ hp0
    refine bX6_isRoot_4 _ _ _ _ hL ?_
    rw [hH.1, hH.2.2.1, n_mul]
    refine ⟨fun _ => ⟨_, kX11_left (by omega) _ hp0 (by omega), ?_⟩, fun h => absurd (nI_le (Nat.le_refl _) (by omega)) h⟩
    rintro v M1 ⟨rfl, rfl⟩
    rw [zm_nI (by omega), e1]
    refine ⟨fun h => ⟨_, rfl, rfl, rfl, ?_⟩, fun h => ⟨_, rfl, rfl, rfl, ?_⟩⟩
    · have : z ^ (n' + 1) % p ≠ 1 := fun q => h (by rw [q]; rfl)
      rw [if_neg]
      unfold zir
      simp [this]
    · have h1 : z ^ (n' + 1) % p = 1 := (nI_eq (b := 1) (by omega) (by omega)).mp h
      rw [if_pos]
      unfold zir
      rw [Bool.and_eq_true, Bool.and_eq_true]
      refine ⟨⟨by simpa using hz1, ?_⟩, by simpa using h1⟩
      rw [List.all_eq_true]
      intro k hk2
      rw [List.mem_range] at hk2
      rcases Nat.eq_zero_or_pos k with q | q
      · simp [q]
      · have := hk k q (by omega)
        simp [this]
  · intro k _ hk hk2 ih
    have hv : z ^ k % p < p := Nat.mod_lt _ hp0
    have hb := n_p2 hv hz (by omega)
    have e1 : z ^ k % p * z % p = z ^ (k + 1) % p := by rw [Nat.mod_mul_mod, ← Nat.pow_succ]
    have hv2 : z ^ (k + 1) % p < p := Nat.mod_lt _ hp0
    refine bX6_isRoot_4 _ _ _ _ hL ?_
    rw [hH.1, hH.2.2.1, n_mul]
    refine ⟨fun h => absurd h (nI_ge (by omega) (by omega)), fun _ => ⟨_, kX11_left (by omega) _ hp0 (by omega), ?_⟩⟩
    rintro v M1 ⟨rfl, rfl⟩
    rw [zm_nI (by omega), e1]
    refine ⟨fun h => ?_, fun h => ⟨_, rfl, rfl, rfl, ?_⟩⟩
    · rw [← nI_succ]
      refine ih () (fun j h1 h2 => ?_)
      by_cases e : j = k + 1
      · rw [e]; intro q; exact h (by rw [q]; rfl)
      · exact hk2 j h1 (by omega)
    · have h1 : z ^ (k + 1) % p = 1 := (nI_eq (b := 1) (by omega) (by omega)).mp h
      rw [if_neg]
      rw [Bool.not_eq_true]
      unfold zir
      rw [Bool.and_eq_false_iff, Bool.and_eq_false_iff]
      left; right
      rw [List.all_eq_false]
      exact ⟨k + 1, List.mem_range.mpr (by omega), by simp [h1]⟩
theorem kX6_leastRoot (hd : 3 ≤ d) (hL : LY[o]? = some (6, 5)) {n r p t e : Nat} (hH : rH M o n r p t e) (hw : wH n r p t e) : mX6_leastRoot X ad ca d x [.ref o] M (q_i (PT x) (fun s M' => M' = M ∧ rRoot n p s)) := by
  obtain ⟨d, rfl⟩ := a_d1 (show 1 ≤ d by omega)
  have hpb := zpl_b p hw.2.2.2.1
  obtain ⟨p', rfl⟩ : ∃ p', p = p' + 1 := ⟨p - 1, by omega⟩
  refine eX6_leastRoot _ (bX6_leastRoot_0 _ hL ?_)
  refine a_loop (σ := Unit) (fun i _ => wX6_leastRoot X ad ca d x _ 2 [(0, .ref o), (1, .int (nI (i + 1)))] M) (fun i _ => ∀ y, y < i + 1 → zir n (p' + 1) y = false) p' ?_ ?_ 0 () (by omega) (fun y hy => by rw [show y = 0 by omega]; exact zir_0 _ _)
  · intro _ hy
    refine bX6_leastRoot_2 _ _ hL ?_
    rw [hH.2.2.1]
    refine ⟨fun _ => ⟨_, rfl, rfl, rfl, ?_⟩, fun h => absurd (nI_le (Nat.le_refl _) (by omega)) h⟩
    unfold rRoot zrt
    rw [zff_succ _ _ hy]
  · intro i _ hi hy ih
    refine bX6_leastRoot_2 _ _ hL ?_
    rw [hH.2.2.1]
    refine ⟨fun h => absurd h (nI_ge (by omega) (by omega)), fun _ => ⟨_, kX6_isRoot (by omega) hL hH hw (by omega) (by omega), ?_⟩⟩
    rintro v M1 ⟨rfl, rfl⟩
    refine ⟨fun h => ?_, fun h => ⟨_, rfl, rfl, rfl, ?_⟩⟩
    · have hf : zir n (p' + 1) (i + 1) = false := by
        cases hq : zir n (p' + 1) (i + 1) with
        | false => rfl
        | true => rw [hq, if_pos rfl] at h; exact absurd h (by decide)
      rw [← nI_succ]
      refine ih () (fun y hy2 => ?_)
      by_cases e : y = i + 1
      · rw [e]; exact hf
      · exact hy y (by omega)
    · have hf : zir n (p' + 1) (i + 1) = true := by
        cases hq : zir n (p' + 1) (i + 1) with
        | true => rfl
        | false => rw [hq, if_neg (by decide)] at h; exact absurd rfl h
      unfold rRoot zrt
      rw [zff_at (zir n (p' + 1)) (i + 1) (p' + 1) hy hf (by omega)]
theorem kX11_toldScript (hd : 2 ≤ d) (hS : cSt M 44 S V) (hw : wSt S V) : mX11_toldScript X ad ca d x [.ref 0] M (q_r (PT x) (fun s M' => M' = M ∧ s = zts (S 6))) := by
  obtain ⟨d, rfl⟩ := a_d1 (show 1 ≤ d by omega)
  have h5 := hw.2.1
  have h65 := hw.2.2.1
  have h3 : M 44 3 = nI (S 6) - 1 := hS.2.2.1
  refine eX11_toldScript (bX11_toldScript_0 ⟨_, kX11_isText (by omega) hS.2.1 h5, ?_⟩)
  rintro v1 M1 ⟨rfl, rfl⟩
  rcases Nat.eq_zero_or_pos (S 6) with q | q
  · refine ⟨fun _ => ⟨_, rfl, rfl, rfl, by unfold zts; rw [if_pos q]⟩, fun h => absurd ?_ h⟩
    rw [if_neg]
    rintro ⟨t, ht, hq⟩
    rw [h3, q] at hq
    exact nI_m1 (k := t) (by omega) hq.symm
  · have h3' : M1 44 3 = nI (S 6 - 1) := by rw [h3]; exact pk_sub (b := 1) (by omega)
    refine ⟨fun h => absurd h ?_, fun _ => ?_⟩
    · rw [if_pos ⟨S 6 - 1, by omega, h3'⟩]; decide
    · rw [h3', n_cl (by omega)]
      have hz : zts (S 6) = 94 + 6 * (S 6 - 1) := by unfold zts; rw [if_neg (by omega)]
      refine ⟨n_in (by omega) (by omega), zts (S 6), 0, by rw [hz]; exact ly_scripts (by omega), ⟨rfl, (ly_scr (x := x) (zts_sc (show S 6 ≤ 4 by omega))).1⟩, _, rfl, rfl, rfl, rfl⟩
theorem kX11_hasSector (hd : 4 ≤ d) {u w : Int32} (hS : cSt M 44 S V) (hw : wSt S V) : mX11_hasSector X ad ca d x [.ref 0, .int u, .int w] M (q_i (PT x) (fun s M' => M' = M ∧ ((s = 1 ∧ zHt (S 0) (S 2) u w) ∨ (s = 0 ∧ ¬ zHt (S 0) (S 2) u w)))) := by
  obtain ⟨d, rfl⟩ := a_d1 (show 1 ≤ d by omega)
  have hn := hw.1.1
  have hpb := zpl_b _ hw.1.2.2.2.1
  have hL45 : LY[45]? = some (6, 5) := rfl
  have hH := hS.1
  refine eX11_hasSector _ _ (bX11_hasSector_0 _ _ ⟨_, kX6_isCount (by omega) hL45 _ hH.1 hn, ?_⟩)
  rintro v1 M1 ⟨rfl, rfl⟩
  refine ⟨fun h => ?_, fun h => ⟨_, rfl, rfl, rfl, Or.inr ⟨rfl, ?_⟩⟩⟩
  rotate_left
  · rintro ⟨m, h1, h2, -⟩
    rw [if_pos ⟨m, h1, h2⟩] at h
    exact absurd h (by decide)
  obtain ⟨m, hm, rfl⟩ : ∃ k, k ≤ S 0 ∧ u = nI k := Classical.byContradiction fun q => h (if_neg q)
  refine ⟨fun h2 => bX11_hasSector_43 ⟨_, rfl, rfl, rfl, Or.inl ⟨rfl, m, hm, rfl, Or.inl h2⟩⟩, fun h2 => ⟨fun h3 => bX11_hasSector_47 ⟨_, rfl, rfl, rfl, Or.inr ⟨rfl, ?_⟩⟩, fun h3 => ⟨fun h4 => bX11_hasSector_47 ⟨_, rfl, rfl, rfl, Or.inr ⟨rfl, ?_⟩⟩, fun h4 => ⟨_, kX6_leastRoot (by omega) hL45 hH hw.1, ?_⟩⟩⟩⟩
  · rintro ⟨m', -, -, q | ⟨k, hk, rfl, -⟩⟩
    · exact h2 q
    · exact absurd h3 (nI_nlt (b := 0) (Nat.zero_le _) (by omega))
  · rintro ⟨m', -, -, q | ⟨k, hk, rfl, -⟩⟩
    · exact h2 q
    · rw [hH.1] at h4
      exact absurd h4 (nI_ge hk (by omega))
  · obtain ⟨k, hk, rfl⟩ : ∃ k, k < S 0 ∧ w = nI k := by
      rw [hH.1, fa_le] at h4
      rw [fa_lt] at h3
      have h5 : (0 : Int32).toInt = 0 := rfl
      rw [h5] at h3
      rw [nI_toInt (by omega)] at h4
      refine ⟨w.toInt.toNat, by omega, (fa_eq _ _).mpr ?_⟩
      rw [nI_toInt (by omega)]
      omega
    rintro v2 M2 ⟨rfl, hr⟩
    unfold rRoot at hr
    refine ⟨fun h5 => bX11_hasSector_47 ⟨_, rfl, rfl, rfl, Or.inr ⟨rfl, ?_⟩⟩, fun h5 => bX11_hasSector_43 ⟨_, rfl, rfl, rfl, Or.inl ⟨rfl, m, hm, rfl, Or.inr ⟨k, hk, rfl, ?_⟩⟩⟩⟩
    · rintro ⟨m', -, -, q | ⟨k', -, -, hs⟩⟩
      · exact h2 q
      · cases hz : zrt (S 0) (S 2) with
        | none => rw [hz] at hs; exact absurd hs (by decide)
        | some q =>
          rw [hz] at hr
          have := zEf_lt _ _ _ hz
          rw [h5] at hr
          exact nI_m1 (k := q) (by omega) hr.symm
    · cases hz : zrt (S 0) (S 2) with
      | none => rw [hz] at hr; exact absurd hr h5
      | some q => rfl
theorem kX11_weight (hd : 5 ≤ d) {T : zTx} (u w : Int32) (hS : cSt M 44 S V) (hw : wSt S V) (hT : cTx M (zts (S 6)) T) (hwT : wTx T) : mX11_weight X ad ca d x [.ref 0, .int u, .int w] M (q_i (PT x) (fun s M' => (∀ i, i ≠ zts (S 6) + 5 → M' i = M i) ∧ rWeight (S 2) (S 3) (S 4) T u w s)) := by
  obtain ⟨d, rfl⟩ := a_d1 (show 1 ≤ d by omega)
  have hpb := zpl_b _ hw.1.2.2.2.1
  have hL45 : LY[45]? = some (6, 5) := rfl
  have hsc : zsc (zts (S 6)) := zts_sc (by have := hw.2.1; have := hw.2.2.1; omega)
  have hno : (¬ ∃ a k, a < 3 ∧ k < S 2 ∧ u = nI a ∧ w = nI k) → wX11_weight X ad ca d x (q_i (PT x) (fun s M' => (∀ i, i ≠ zts (S 6) + 5 → M' i = M i) ∧ rWeight (S 2) (S 3) (S 4) T u w s)) 23 [] M := fun h => bX11_weight_23 ⟨_, rfl, rfl, fun _ _ => rfl, Or.inr ⟨h, rfl⟩⟩
  refine eX11_weight _ _ (bX11_weight_0 _ _ ⟨fun h => hno ?_, fun h => ⟨fun h2 => hno ?_, fun h2 => ⟨_, kX6_isNumber (by omega) hL45 _ hS.1.2.2.1 (by omega), ?_⟩⟩⟩)
  · rintro ⟨a, k, h1, -, rfl, -⟩
    exact absurd h (nI_nlt (b := 0) (Nat.zero_le _) (by omega))
  · rintro ⟨a, k, h1, -, rfl, -⟩
    exact absurd h2 (nI_nlt (a := 2) (by omega) (by omega))
  obtain ⟨a, ha, rfl⟩ : ∃ a, a < 3 ∧ u = nI a := by
    rw [fa_lt] at h h2
    have h5 : (0 : Int32).toInt = 0 := rfl
    have h6 : (2 : Int32).toInt = 2 := rfl
    rw [h5] at h
    rw [h6] at h2
    refine ⟨u.toInt.toNat, by omega, (fa_eq _ _).mpr ?_⟩
    rw [nI_toInt (by omega)]
    omega
  rintro v1 M1 ⟨rfl, rfl⟩
  refine ⟨fun h3 => ⟨_, kX11_toldScript (by omega) hS hw, ?_⟩, fun h3 => hno ?_⟩
  · obtain ⟨k, hk, rfl⟩ : ∃ k, k < S 2 ∧ w = nI k := Classical.byContradiction fun q => h3 (if_neg q)
    rintro r2 M2 ⟨rfl, rfl⟩
    refine ⟨0, ⟨rfl, (ly_scr (x := x) hsc).1⟩, _, kX7_worth (by omega) hsc hT hwT hL45 hS.1 hw.1 ha hk, ?_⟩
    rintro v3 M3 ⟨rfl, g⟩
    exact ⟨_, rfl, rfl, g, Or.inl ⟨a, k, ha, hk, rfl, rfl, rfl⟩⟩
  · rintro ⟨a', k, -, hk, -, hq⟩
    rw [if_pos ⟨k, hk, hq⟩] at h3
    exact absurd h3 (by decide)
theorem kX10_add (hd : 1 ≤ d) {tl : Nat} {B : Nat → Int32} {f : Int32} (hT : cTp M tl B) (h4 : tl + 4 ≤ 300) :
    mX10_add X ad ca d x [.ref 1, .int f] M (q_v (PT x) (fun M' => cTp M' (tl + 4) (zput B tl f) ∧ (∀ j, j ≠ 3 → M' 1 j = M 1 j) ∧ ∀ o, o ≠ 1 → o ≠ 2 → M' o = M o)) := by
  obtain ⟨d, rfl⟩ := a_d1 (show 1 ≤ d by omega)
  have e3 : M 1 3 = nI tl := hT.1
  have st : ∀ (M' : a_M) (t : Nat) (k : Int32), M' 1 3 = nI t → t < 300 → ¬ k < 0 → wX10_add X ad ca d x (q_v (PT x) (fun M' => cTp M' (tl + 4) (zput B tl f) ∧ (∀ j, j ≠ 3 → M' 1 j = M 1 j) ∧ ∀ o, o ≠ 1 → o ≠ 2 → M' o = M o)) 3 [(0, .ref 1), (1, .int f), (2, .int (k + -8))] (ms (ms M' 2 t ((f >>> (k &&& 31)) &&& 255)) 1 3 (nI (t + 1))) → wX10_add X ad ca d x (q_v (PT x) (fun M' => cTp M' (tl + 4) (zput B tl f) ∧ (∀ j, j ≠ 3 → M' 1 j = M 1 j) ∧ ∀ o, o ≠ 1 → o ≠ 2 → M' o = M o)) 3 [(0, .ref 1), (1, .int f), (2, .int k)] M' := by
    intro M' t k h1 h2 h3 h
    refine bX10_add_3 _ _ ⟨fun q => absurd q h3, fun _ => ?_⟩
    rw [h1]
    refine ⟨fun q => absurd q (nI_ge (b := 300) h2 (by omega)), fun _ => ⟨n_in h2 (by omega), bX10_add_43 _ _ ?_⟩⟩
    rw [n_cl (by omega), ← nI_succ]
    exact h
  refine eX10_add _ (bX10_add_0 _ ?_)
  refine st M tl 24 e3 (by omega) (by decide) ?_
  refine st _ (tl + 1) (24 + -8) (by rw [ms_is]) (by omega) (by decide) ?_
  refine st _ (tl + 2) (24 + -8 + -8) (by rw [ms_is]) (by omega) (by decide) ?_
  refine st _ (tl + 3) (24 + -8 + -8 + -8) (by rw [ms_is]) (by omega) (by decide) ?_
  refine bX10_add_3 _ _ ⟨fun _ => ⟨rfl, rfl, ⟨?_, by omega, ?_⟩, ?_, ?_⟩, fun q => absurd (by decide) q⟩
  · rw [ms_is]
  · intro i hi
    unfold zput
    rw [ms_row _ _ _ _ _ (by decide)]
    by_cases e3 : i = tl + 3
    · subst e3; rw [ms_is, vu]; rfl
    rw [ms_no _ _ _ _ _ _ (by omega), vn _ _ _ _ e3, ms_row _ _ _ _ _ (by decide)]
    by_cases e2 : i = tl + 2
    · subst e2; rw [ms_is, vu]; rfl
    rw [ms_no _ _ _ _ _ _ (by omega), vn _ _ _ _ e2, ms_row _ _ _ _ _ (by decide)]
    by_cases e1 : i = tl + 1
    · subst e1; rw [ms_is, vu]; rfl
    rw [ms_no _ _ _ _ _ _ (by omega), vn _ _ _ _ e1, ms_row _ _ _ _ _ (by decide)]
    by_cases e0 : i = tl
    · subst e0; rw [ms_is, vu]
    rw [ms_no _ _ _ _ _ _ (by omega), vn _ _ _ _ e0]
    exact hT.2.2 i (by omega)
  · intro j hj
    rw [ms_no _ _ _ _ _ _ (by omega), ms_row _ _ _ _ _ (by decide), ms_no _ _ _ _ _ _ (by omega), ms_row _ _ _ _ _ (by decide), ms_no _ _ _ _ _ _ (by omega), ms_row _ _ _ _ _ (by decide), ms_no _ _ _ _ _ _ (by omega), ms_row _ _ _ _ _ (by decide)]
  · intro o h1 h2
    rw [ms_row _ _ _ _ _ h1, ms_row _ _ _ _ _ h2, ms_row _ _ _ _ _ h1, ms_row _ _ _ _ _ h2, ms_row _ _ _ _ _ h1, ms_row _ _ _ _ _ h2, ms_row _ _ _ _ _ h1, ms_row _ _ _ _ _ h2]
theorem kX11_feed (hd : 2 ≤ d) {tl : Nat} {B : Nat → Int32} (hT : cTp M tl B) (a b c g e : Int32) :
    mX11_feed X ad ca d x [.ref 0, .int a, .int b, .int c, .int g, .int e] M (q_i (PT x) (fun s M' => ∃ tl' B', rFeed tl B a b c g e s tl' B' ∧ cTp M' tl' B' ∧ cF M M')) := by
  obtain ⟨d, rfl⟩ := a_d1 (show 1 ≤ d by omega)
  have htl := hT.2.1
  have e1 : M 1 3 + 20 = nI (tl + 20) := by rw [hT.1, fa_lit 20, nI_add]
  refine eX11_feed _ _ _ _ _ (bX11_feed_0 _ _ _ _ _ ?_)
  rw [e1]
  refine ⟨fun h => ?_, fun h => ⟨_, rfl, rfl, tl, B, Or.inr ⟨?_, rfl, rfl, rfl⟩, hT, ⟨fun _ _ _ => rfl, fun _ _ => rfl⟩⟩⟩
  · have h280 : tl ≤ 280 := by
      rcases Nat.lt_or_ge 280 tl with q | q
      · exact absurd h (nI_ge (a := 300) (by omega) (by omega))
      · exact q
    refine ⟨_, kX10_add (by omega) hT (by omega), ?_⟩
    rintro M1 ⟨a1, a2, a3⟩
    refine ⟨_, kX10_add (by omega) a1 (by omega), ?_⟩
    rintro M2 ⟨b1, b2, b3⟩
    refine ⟨_, kX10_add (by omega) b1 (by omega), ?_⟩
    rintro M3 ⟨c1, c2, c3⟩
    refine ⟨_, kX10_add (by omega) c1 (by omega), ?_⟩
    rintro M4 ⟨d1, d2, d3⟩
    refine ⟨_, kX10_add (by omega) d1 (by omega), ?_⟩
    rintro M5 ⟨e1, e2, e3⟩
    refine ⟨_, rfl, rfl, tl + 20, _, Or.inl ⟨h280, e1.1, rfl, rfl⟩, e1, fun o q1 q2 => ?_, fun j hj => ?_⟩
    · rw [e3 o q1 q2, d3 o q1 q2, c3 o q1 q2, b3 o q1 q2, a3 o q1 q2]
    · rw [e2 j hj, d2 j hj, c2 j hj, b2 j hj, a2 j hj]
  · rcases Nat.lt_or_ge 280 tl with q | q
    · exact q
    · exact absurd (nI_le (b := 300) (by omega) (by omega)) h
theorem kX11_end (hd : 1 ≤ d) {tl : Nat} {B : Nat → Int32} (hT : cTp M tl B) (u : Int32) :
    mX11_end X ad ca d x [.ref 0, .int u] M (q_i (PT x) (fun s M' => ∃ tl', rEnd tl u s tl' ∧ cTp M' tl' B ∧ cF M M')) := by
  obtain ⟨d, rfl⟩ := a_d1 (show 1 ≤ d by omega)
  have htl := hT.2.1
  have hno : (¬ ∃ k, k ≤ tl ∧ u = nI k) → wX11_end X ad ca d x (q_i (PT x) (fun s M' => ∃ tl', rEnd tl u s tl' ∧ cTp M' tl' B ∧ cF M M')) 15 [] M := fun h => bX11_end_15 ⟨_, rfl, rfl, tl, Or.inr ⟨h, rfl, rfl⟩, hT, ⟨fun _ _ _ => rfl, fun _ _ => rfl⟩⟩
  refine eX11_end _ (bX11_end_0 _ ⟨fun h => hno ?_, fun h => ⟨fun h2 => ?_, fun h2 => hno ?_⟩⟩)
  · rintro ⟨k, hk, rfl⟩
    exact absurd h (nI_nlt (b := 0) (Nat.zero_le _) (by omega))
  · obtain ⟨k, hk, rfl⟩ : ∃ k, k ≤ tl ∧ u = nI k := by
      rw [hT.1, fa_le] at h2
      rw [fa_lt] at h
      have h5 : (0 : Int32).toInt = 0 := rfl
      rw [h5] at h
      rw [nI_toInt (by omega)] at h2
      refine ⟨u.toInt.toNat, by omega, (fa_eq _ _).mpr ?_⟩
      rw [nI_toInt (by omega)]
      omega
    refine ⟨_, rfl, rfl, k, Or.inl ⟨k, hk, rfl, rfl, rfl⟩, ⟨by rw [ms_is], by omega, fun i hi => ?_⟩, fun o q1 q2 => by rw [ms_row _ _ _ _ _ q1], fun j hj => by rw [ms_no _ _ _ _ _ _ (by omega)]⟩
    rw [ms_row _ _ _ _ _ (by decide)]
    exact hT.2.2 i (by omega)
  · rintro ⟨k, hk, rfl⟩
    rw [hT.1] at h2
    exact h2 (nI_le hk (by omega))
theorem kX11_fault (hd : 2 ≤ d) {fa fb : Int32} (hf : cFa M fa fb) (u : Int32) : mX11_fault X ad ca d x [.ref 0, .int u] M (q_i (PT x) (fun s M' => M' = M ∧ rFault fa fb u s)) := by
  obtain ⟨d, rfl⟩ := a_d1 (show 1 ≤ d by omega)
  have hr : mX5_hasRead X ad ca d x [.ref 12] M (q_i (PT x) (fun s M' => M' = M ∧ ((s = 0 ∧ fa = -1 ∧ fb = -1) ∨ (s = 1 ∧ M 12 6 = fa ∧ M 12 7 = fb)))) := by
    obtain ⟨d, rfl⟩ := a_d1 (show 1 ≤ d by omega)
    refine eX5_hasRead (bX5_hasRead_0 ?_)
    rcases hf with ⟨h1, h2, h3⟩ | ⟨R, hR, h1, h2, h3⟩
    · rw [h1]
      exact ⟨fun _ => ⟨_, rfl, rfl, rfl, Or.inl ⟨rfl, h2, h3⟩⟩, fun h => absurd (by decide) h⟩
    · rw [h1]
      exact ⟨fun h => absurd h (nI_ge (a := 0) (by omega) (by omega)), fun _ => ⟨_, rfl, rfl, rfl, Or.inr ⟨rfl, h2, h3⟩⟩⟩
  refine eX11_fault _ (bX11_fault_0 _ ⟨_, hr, ?_⟩)
  rintro v1 M1 ⟨rfl, hv⟩
  unfold rFault
  refine ⟨fun h => ?_, fun h => ⟨_, rfl, rfl, rfl, ?_⟩⟩
  · rcases hv with ⟨q, -⟩ | ⟨-, q1, q2⟩
    · exact absurd q h
    · refine ⟨fun h0 => ⟨fun h1 => ⟨_, rfl, rfl, rfl, by rw [if_neg h0, if_neg h1]⟩, fun h1 => ⟨_, rfl, rfl, rfl, by rw [if_neg h0, if_pos h1, q2]⟩⟩, fun h0 => ⟨_, rfl, rfl, rfl, by rw [if_pos h0, q1]⟩⟩
  · rcases hv with ⟨-, q1, q2⟩ | ⟨q, -⟩
    · rw [q1, q2]
      split
      · rfl
      split <;> rfl
    · rw [q] at h; exact absurd h (by decide)
theorem kX11_root (hd : 4 ≤ d) (hS : cSt M 44 S V) (hw : wSt S V) : mX11_root X ad ca d x [.ref 0] M (q_i (PT x) (fun s M' => M' = M ∧ rRoot (S 0) (S 2) s)) := by
  obtain ⟨d, rfl⟩ := a_d1 (show 1 ≤ d by omega)
  refine eX11_root (bX11_root_0 ⟨_, kX6_leastRoot (by omega) rfl hS.1 hw.1, ?_⟩)
  rintro v M1 ⟨rfl, h⟩
  exact ⟨_, rfl, rfl, rfl, h⟩
theorem kX11_mean (hd : 2 ≤ d) (u w : Int32) (hS : cSt M 44 S V) (hw : wSt S V) : mX11_mean X ad ca d x [.ref 0, .int u, .int w] M (q_i (PT x) (fun s M' => M' = M ∧ rMean (S 0) u w s)) := by
  obtain ⟨d, rfl⟩ := a_d1 (show 1 ≤ d by omega)
  have hL45 : LY[45]? = some (6, 5) := rfl
  have hH := hS.1
  generalize hne : S 0 = n at hH
  have hn : n < 8 := by rw [← hne]; exact hw.1.1
  have hn2 : 2 ≤ n := by rw [← hne]; exact hw.1.2.1
  have h2n := z_p2 hn
  have hno : (¬ ∃ m r, m ≤ n ∧ 1 ≤ r ∧ r < n ∧ u = nI m ∧ w = nI r) → wX11_mean X ad ca d x (q_i (PT x) (fun s M' => M' = M ∧ rMean n u w s)) 29 [] M := fun h => bX11_mean_29 ⟨_, rfl, rfl, rfl, Or.inr ⟨h, rfl⟩⟩
  refine eX11_mean _ _ (bX11_mean_0 _ _ ⟨_, kX6_isCount (by omega) hL45 _ hH.1 hn, ?_⟩)
  rintro v1 M1 ⟨rfl, rfl⟩
  refine ⟨fun h => hno ?_, fun h => ⟨fun h2 => hno ?_, fun h2 => ⟨fun h3 => ?_, fun h3 => hno ?_⟩⟩⟩
  · rintro ⟨m, r, h1, -, -, h4, -⟩
    rw [if_pos ⟨m, h1, h4⟩] at h
    exact absurd h (by decide)
  · rintro ⟨m, r, -, h1, h3, -, rfl⟩
    exact absurd h2 (nI_nlt (b := 1) h1 (by omega))
  rotate_left
  · rintro ⟨m, r, -, h1, h4, -, rfl⟩
    rw [hH.1] at h3
    exact h3 (nI_lt h4 (by omega))
  obtain ⟨m, hm, rfl⟩ : ∃ k, k ≤ n ∧ u = nI k := Classical.byContradiction fun q => h (if_neg q)
  obtain ⟨r, hr1, hr2, rfl⟩ : ∃ k, 1 ≤ k ∧ k < n ∧ w = nI k := by
    rw [hH.1, fa_lt] at h3
    rw [fa_lt] at h2
    have h5 : (1 : Int32).toInt = 1 := rfl
    rw [h5] at h2
    rw [nI_toInt (by omega)] at h3
    refine ⟨w.toInt.toNat, by omega, by omega, (fa_eq _ _).mpr ?_⟩
    rw [nI_toInt (by omega)]
    omega
  let g : Nat → Nat := fun a => if zc a = m then zs (fun i => if zb a i = zb a ((i + r) % n) then 1 else 0) n else 0
  refine a_loop (σ := Unit) (fun i _ => wX11_mean X ad ca d x _ 37 [(1, .int (nI m)), (2, .int (nI r)), (3, .ref 45), (4, .int (nI (zs g i))), (5, .int (nI i))] M1) (fun _ _ => True) (2 ^ n) ?_ ?_ 0 () (Nat.zero_le _) trivial
  · intro _ _
    refine bX11_mean_37 _ _ _ _ _ hL45 ⟨_, kX6_states (by omega) hL45 hH.1 hn, ?_⟩
    rintro v3 M3 ⟨rfl, rfl⟩
    exact ⟨fun _ => ⟨_, rfl, rfl, rfl, Or.inl ⟨m, r, hm, hr1, hr2, rfl, rfl, rfl⟩⟩, fun h => absurd (nI_le (Nat.le_refl _) (by omega)) h⟩
  · intro i _ hi _ ih
    have hz := zc_le i
    refine bX11_mean_37 _ _ _ _ _ hL45 ⟨_, kX6_states (by omega) hL45 hH.1 hn, ?_⟩
    rintro v3 M3 ⟨rfl, rfl⟩
    refine ⟨fun h => absurd h (nI_ge hi (by omega)), fun _ => ⟨_, kJ6_bitCount (by omega) (by omega), ?_⟩⟩
    rintro v4 M4 ⟨rfl, rfl⟩
    have eg : zs g (i + 1) = zs g i + g i := rfl
    rw [eg] at ih
    refine ⟨fun h => bX11_mean_67 _ _ _ _ _ hL45 ?_, fun h => ⟨_, kX6_alikeAt (by omega) hL45 hH.1 hn hi hr2, ?_⟩⟩
    · have hc : zc i ≠ m := fun q => h (by rw [q])
      have g0 : g i = 0 := if_neg hc
      rw [g0, Nat.add_zero] at ih
      rw [← nI_succ]
      exact ih () trivial
    · rintro v5 M5 ⟨rfl, rfl⟩
      have hc : zc i = m := (nI_eq (by omega) (by omega)).mp h
      have g1 : g i = zs (fun k => if zb i k = zb i ((k + r) % n) then 1 else 0) n := if_pos hc
      refine bX11_mean_67 _ _ _ _ _ hL45 ?_
      rw [← nI_succ, nI_add, ← g1]
      exact ih () trivial
theorem kX11_about (hd : 1 ≤ d) {tl : Nat} {B : Nat → Int32} (hS : cSt M 44 S V) (hw : wSt S V) (hT : cTp M tl B) (u : Int32) : mX11_about X ad ca d x [.ref 0, .int u] M (q_i (PT x) (fun s M' => M' = M ∧ rAbout S tl u s)) := by
  obtain ⟨d, rfl⟩ := a_d1 (show 1 ≤ d by omega)
  obtain ⟨⟨m0, m1, m2, m3, m4⟩, m5, m6, m7, m8, -⟩ := hS
  have hr := hw.1.2.2.1
  refine eX11_about _ (bX11_about_0 _ ⟨fun h => ⟨_, rfl, rfl, rfl, Or.inl ⟨0, by omega, h, m0⟩⟩, fun h => ⟨fun h2 => ⟨_, rfl, rfl, rfl, Or.inl ⟨1, by omega, h, ?_⟩⟩, fun h2 => ⟨_, rfl, rfl, rfl, Or.inl ⟨1, by omega, h, ?_⟩⟩⟩, fun h => ⟨_, rfl, rfl, rfl, Or.inl ⟨2, by omega, h, m2⟩⟩, fun h => ⟨_, rfl, rfl, rfl, Or.inl ⟨3, by omega, h, m3⟩⟩, fun h => ⟨_, rfl, rfl, rfl, Or.inl ⟨4, by omega, h, m4⟩⟩, fun h => ⟨_, rfl, rfl, rfl, Or.inl ⟨5, by omega, h, m5⟩⟩, fun h => ⟨_, rfl, rfl, rfl, Or.inl ⟨6, by omega, h, m6⟩⟩, fun h => ⟨_, rfl, rfl, rfl, Or.inl ⟨7, by omega, h, m7⟩⟩, fun h => ⟨_, rfl, rfl, rfl, Or.inl ⟨8, by omega, h, m8⟩⟩, fun h => ⟨_, rfl, rfl, rfl, Or.inl ⟨9, by omega, h, hT.1⟩⟩, fun h => ⟨_, rfl, rfl, rfl, Or.inr ⟨?_, rfl⟩⟩⟩)
  · rw [m1] at h2
    exact h2.symm
  · rw [m1] at h2
    show (1 : Int32) = nI (S 1)
    rcases (show S 1 = 0 ∨ S 1 = 1 by omega) with q | q
    · exact absurd (by rw [q]; rfl) h2
    · rw [q]; rfl
  · rintro ⟨k, hk, rfl⟩
    rw [nI_toInt (by omega)] at h
    omega
end Z29
