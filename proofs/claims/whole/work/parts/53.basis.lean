/-! CONTRACTS 33: Basis -/
theorem zle_all : ((List.range 8).all fun n => (decide (n < 2)) || (List.range (2 ^ n)).all fun a => (decide (zle n a ≤ a) && decide (zfa n a < zro n (zle n a)) && ((List.range (zro n a)).all fun i => (zle n (zhk n i a) == zle n a) && (zc (zhk n i a) == zc a) && (!(zle n a == a) || (zfa n (zhk n i a) == i)) && ((List.range i).all fun j => !(zhk n j a == zhk n i a))))) = true := by decide +kernel
theorem zle_f {n a : Nat} (hn : n < 8) (hn2 : 2 ≤ n) (ha : a < 2 ^ n) : zle n a ≤ a ∧ zfa n a < zro n (zle n a) ∧ ∀ i, i < zro n a → zle n (zhk n i a) = zle n a ∧ zc (zhk n i a) = zc a ∧ (zle n a = a → zfa n (zhk n i a) = i) := by
  have h := List.all_eq_true.mp zle_all n (List.mem_range.mpr hn)
  rw [Bool.or_eq_true, decide_eq_true_eq] at h
  have h2 := List.all_eq_true.mp (h.resolve_left (by omega)) a (List.mem_range.mpr ha)
  simp only [Bool.and_eq_true, decide_eq_true_eq] at h2
  refine ⟨h2.1.1, h2.1.2, fun i hi => ?_⟩
  have h3 := List.all_eq_true.mp h2.2 i (List.mem_range.mpr hi)
  simp only [Bool.and_eq_true, Bool.or_eq_true, beq_iff_eq, Bool.not_eq_true', beq_eq_false_iff_ne] at h3
  exact ⟨h3.1.1.1, h3.1.1.2, fun q => h3.1.2.resolve_left (fun z => z q)⟩
theorem zhk_inj {n a i j : Nat} (hn : n < 8) (hn2 : 2 ≤ n) (ha : a < 2 ^ n) (hj : j < zro n a) (hi : i < zro n a) (hij : j < i) (e : zhk n j a = zhk n i a) : False := by
  have h := List.all_eq_true.mp zle_all n (List.mem_range.mpr hn)
  rw [Bool.or_eq_true, decide_eq_true_eq] at h
  have h2 := List.all_eq_true.mp (h.resolve_left (by omega)) a (List.mem_range.mpr ha)
  simp only [Bool.and_eq_true, decide_eq_true_eq] at h2
  have h3 := List.all_eq_true.mp h2.2 i (List.mem_range.mpr hi)
  simp only [Bool.and_eq_true] at h3
  have h4 := List.all_eq_true.mp h3.2 j (List.mem_range.mpr hij)
  rw [Bool.not_eq_true', beq_eq_false_iff_ne] at h4
  exact h4 e
theorem zhk_s (n : Nat) (k a : Nat) : zhk n (k + 1) a = zh n (zhk n k a) := rfl
/-- the basis lies: members L, the place and the factor of each state of count m -/
def bS (M : a_M) (n m : Nat) (L : List Nat) (pl : Nat → Option Nat) (fa : Nat → Nat) : Prop :=
  M 19 3 = nI L.length ∧ (∀ k a, L[k]? = some a → M 20 k = nI a) ∧ ∀ a, a < 2 ^ n → zc a = m → match pl a with | some j => M 21 a = nI j ∧ M 22 a = nI (fa a) | none => M 21 a = -1
theorem bS.same {M M' : a_M} {n m : Nat} {L : List Nat} {pl : Nat → Option Nat} {fa : Nat → Nat} (h : bS M n m L pl fa) (h1 : ∀ i, 19 ≤ i → i ≤ 22 → M' i = M i) : bS M' n m L pl fa := by
  unfold bS
  rw [h1 19 (by omega) (by omega), h1 20 (by omega) (by omega), h1 21 (by omega) (by omega), h1 22 (by omega) (by omega)]
  exact h
def zpn (m a : Nat) : Option Nat := some (zfl (zsf m) a).length
def zpt (n m k a : Nat) : Option Nat := if zrf n m k (zle n a) = true then some (zfl (zrf n m k) (zle n a)).length else none
section Z34
variable {X : a_X} {ad : Nat → Nat} {ca : Nat → ClassId} {d x : Nat} {M : a_M}
theorem kX0_takeIn (hd : 1 ≤ d) {w : Nat} (s : Int32) (hw : M 19 3 = nI w) (hw35 : w < 35) : mX0_takeIn X ad ca d x [.ref 19, .int s] M (q_i (PT x) (fun v M' => v = nI w ∧ M' = ms (ms M 20 w s) 19 3 (nI (w + 1)))) := by
  obtain ⟨d, rfl⟩ := a_d1 hd
  refine eX0_takeIn _ (bX0_takeIn_0 _ ?_)
  rw [hw, n_cl (by omega), ← nI_succ]
  refine ⟨fun _ => ⟨n_in hw35 (by omega), _, rfl, rfl, pk_sub (b := 1) (by omega), rfl⟩, fun h => absurd (nI_lt (b := 35) hw35 (by omega)) h⟩
theorem kX0_place (hd : 1 ≤ d) {s : Nat} (u w : Int32) (hs : s < 128) : mX0_place X ad ca d x [.ref 19, .int (nI s), .int u, .int w] M (q_v (PT x) (fun M' => M' = ms (ms M 21 s u) 22 s w)) := by
  obtain ⟨d, rfl⟩ := a_d1 hd
  refine eX0_place _ _ _ (bX0_place_0 _ _ _ ?_)
  rw [n_cl (by omega)]
  exact ⟨n_in hs (by omega), n_in hs (by omega), rfl, rfl, rfl⟩
theorem kX0_head (hd : 1 ≤ d) {n m i a : Nat} {L : List Nat} {pl : Nat → Option Nat} {fa : Nat → Nat} (hB : bS M n m L pl fa) (hl : L.length ≤ 35) (hi : L[i]? = some a) : mX0_head X ad ca d x [.ref 19, .int (nI i)] M (q_i (PT x) (fun v M' => v = nI a ∧ M' = M)) := by
  obtain ⟨d, rfl⟩ := a_d1 hd
  have hil : i < L.length := (List.getElem?_eq_some_iff.mp hi).1
  refine eX0_head _ (bX0_head_0 _ ⟨fun h => absurd h (nI_pos (by omega)), fun _ => ?_⟩)
  rw [hB.1, n_cl (by omega)]
  exact ⟨fun h => absurd h (nI_ge hil (by omega)), fun _ => ⟨n_in (by omega) (by omega), _, rfl, rfl, hB.2.1 i a hi, rfl⟩⟩
/-- a round is gathered -/
theorem kX0_gatherRound (hd : 3 ≤ d) {o n p s k g w : Nat} (hL : LY[o]? = some (6, 5)) (hN : M o 0 = nI n) (hP : M o 2 = nI p) (hn : n < 8) (hn2 : 2 ≤ n) (hp1 : 1 < p) (hp : p ≤ 97) (hs : s < 2 ^ n) (hk : k < n) (hg : g < p) (hw : M 19 3 = nI w) (hw35 : k * zro n s % n = 0 → w < 35) :
    mX0_gatherRound X ad ca d x [.ref 19, .ref o, .int (nI s), .int (nI k), .int (nI g)] M (q_v (PT x) (fun M' => M' 19 3 = nI (if k * zro n s % n = 0 then w + 1 else w) ∧ (∀ j, M' 20 j = if k * zro n s % n = 0 ∧ j = w then nI s else M 20 j) ∧ (∀ i, i < zro n s → M' 21 (zhk n i s) = (if k * zro n s % n = 0 then nI w else -1) ∧ M' 22 (zhk n i s) = nI (g ^ i % p)) ∧ (∀ a, a < 2 ^ n → (∀ i, i < zro n s → a ≠ zhk n i s) → M' 21 a = M 21 a ∧ M' 22 a = M 22 a) ∧ ∀ i, (i < 19 ∨ 22 < i) → M' i = M i)) := by
  obtain ⟨d, rfl⟩ := a_d1 (show 1 ≤ d by omega)
  have h2n := z_p2 hn
  have hz := zro_f hn hn2 hs
  have hkl : ∀ i, zhk n i s < 2 ^ n := fun i => zhk_lt hn hn2 i s hs
  have hoo : o ≠ 19 ∧ o ≠ 20 ∧ o ≠ 21 ∧ o ≠ 22 := by
    refine ⟨?_, ?_, ?_, ?_⟩ <;> rintro rfl <;> cases hL
  refine eX0_gatherRound _ _ _ _ (bX0_gatherRound_0 _ _ _ _ hL ⟨_, kX6_shifted (by omega) hL hN hn hn2 hs, ?_⟩)
  rintro v1 M1 ⟨rfl, rfl⟩
  -- how many are unlike
  refine a_loop (σ := Unit) (fun u _ => wX0_gatherRound X ad ca d x _ 10 [(0, .ref 19), (1, .ref o), (2, .int (nI s)), (3, .int (nI k)), (4, .int (nI g)), (5, .int (nI u)), (6, .int (nI (zhk n u s)))] M1) (fun u _ => 1 ≤ u) (zro n s) ?_ ?_ 1 () hz.1 (Nat.le_refl _)
  rotate_left
  · rintro u _ hu h1 ih
    refine bX0_gatherRound_10 _ _ _ _ _ _ hL ⟨fun h => ?_, fun h => ⟨fun h2 => ?_, fun h2 => ⟨_, kX6_shifted (by omega) hL hN hn hn2 (hkl u), ?_⟩⟩⟩
    · have := (nI_eq (by have := hkl u; omega) (by omega)).mp h
      have h4 := hz.2.2.2.1 (u - 1) (by omega)
      rw [show u - 1 + 1 = u by omega] at h4
      exact absurd this h4
    · rw [hN] at h2; exact absurd h2 (nI_ge (by omega) (by omega))
    · rintro v2 M2 ⟨rfl, rfl⟩
      rw [← nI_succ, ← zhk_s]
      exact ih () (by omega)
  rintro _ h1
  -- the rounds' place
  have hlay : ∀ (at' : Int32) (M2 : a_M), (∀ i, i ≠ 19 → i ≠ 20 → M2 i = M1 i) → M2 19 3 = nI (if k * zro n s % n = 0 then w + 1 else w) → (∀ j, M2 20 j = if k * zro n s % n = 0 ∧ j = w then nI s else M1 20 j) → at' = (if k * zro n s % n = 0 then nI w else -1) → wX0_gatherRound X ad ca d x (q_v (PT x) (fun M' => M' 19 3 = nI (if k * zro n s % n = 0 then w + 1 else w) ∧ (∀ j, M' 20 j = if k * zro n s % n = 0 ∧ j = w then nI s else M1 20 j) ∧ (∀ i, i < zro n s → M' 21 (zhk n i s) = (if k * zro n s % n = 0 then nI w else -1) ∧ M' 22 (zhk n i s) = nI (g ^ i % p)) ∧ (∀ a, a < 2 ^ n → (∀ i, i < zro n s → a ≠ zhk n i s) → M' 21 a = M1 21 a ∧ M' 22 a = M1 22 a) ∧ ∀ i, (i < 19 ∨ 22 < i) → M' i = M1 i)) 73 [(0, .ref 19), (1, .ref o), (4, .int (nI g)), (5, .int (nI (zro n s))), (6, .int at'), (7, .int (nI s)), (8, .int 1), (9, .int 0)] M2 := by
    intro at' M2 f2 a19 a20 ha
    rw [← ha]
    have e8 : (1 : Int32) = nI (g ^ 0 % p) := by rw [Nat.pow_zero, Nat.mod_eq_of_lt hp1]; rfl
    rw [e8]
    refine a_loop (σ := a_M) (fun i M' => wX0_gatherRound X ad ca d x _ 73 [(0, .ref 19), (1, .ref o), (4, .int (nI g)), (5, .int (nI (zro n s))), (6, .int at'), (7, .int (nI (zhk n i s))), (8, .int (nI (g ^ i % p))), (9, .int (nI i))] M') (fun i M' => (∀ j, j < i → M' 21 (zhk n j s) = at' ∧ M' 22 (zhk n j s) = nI (g ^ j % p)) ∧ (∀ a, a < 2 ^ n → (∀ j, j < i → a ≠ zhk n j s) → M' 21 a = M1 21 a ∧ M' 22 a = M1 22 a) ∧ ∀ q, q ≠ 21 → q ≠ 22 → M' q = M2 q) (zro n s) ?_ ?_ 0 M2 (Nat.zero_le _) ⟨fun j hj => absurd hj (Nat.not_lt_zero _), fun a _ _ => by rw [f2 21 (by decide) (by decide), f2 22 (by decide) (by decide)]; exact ⟨rfl, rfl⟩, fun _ _ _ => rfl⟩
    · rintro M3 ⟨i1, i2, i3⟩
      refine bX0_gatherRound_73 _ _ _ _ _ _ _ hL ⟨fun _ => ⟨rfl, rfl, ?_, fun j => ?_, i1, i2, fun i hi => ?_⟩, fun h => absurd (nI_le (Nat.le_refl _) (by omega)) h⟩
      · rw [i3 19 (by decide) (by decide)]; exact a19
      · rw [i3 20 (by decide) (by decide)]; exact a20 j
      · rw [i3 i (by omega) (by omega), f2 i (by omega) (by omega)]
    · rintro i M3 hi ⟨i1, i2, i3⟩ ih
      have hkb := hkl i
      have f3 : ∀ q, q < 19 ∨ 22 < q → M3 q = M1 q := fun q hq => by rw [i3 q (by omega) (by omega), f2 q (by omega) (by omega)]
      have hof : M3 o = M1 o := by rw [i3 o hoo.2.2.1 hoo.2.2.2, f2 o hoo.1 hoo.2.1]
      refine bX0_gatherRound_73 _ _ _ _ _ _ _ hL ⟨fun h => absurd h (nI_ge hi (by omega)), fun _ => ⟨_, kX0_place (by omega) _ _ (show zhk n i s < 128 by omega), ?_⟩⟩
      rintro M4 rfl
      have hof4 : ∀ q, (ms (ms M3 21 (zhk n i s) at') 22 (zhk n i s) (nI (g ^ i % p))) o q = M1 o q := fun q => by rw [ms_row _ _ _ _ _ hoo.2.2.2, ms_row _ _ _ _ _ hoo.2.2.1, hof]
      refine ⟨_, kX6_shifted (by omega) hL (by rw [hof4]; exact hN) hn hn2 hkb, ?_⟩
      rintro v5 M5 ⟨rfl, rfl⟩
      have hgi : g ^ i % p < p := Nat.mod_lt _ (by omega)
      have hgg := n_p2 hgi hg (by omega)
      rw [hof4, hP, n_mul]
      refine ⟨_, kX11_left (by omega) _ (by omega) (by omega), ?_⟩
      rintro v6 M6 ⟨rfl, rfl⟩
      rw [zm_nI (by omega), Nat.mod_mul_mod, ← Nat.pow_succ, ← nI_succ, ← zhk_s]
      refine ih _ ⟨fun j hj => ?_, fun a ha hna => ?_, fun q q1 q2 => ?_⟩
      · by_cases c : zhk n j s = zhk n i s
        · have hji : j = i := by
            have zj := (zle_f hn hn2 hs).2.2
            rcases Nat.lt_or_ge j i with q | q
            · exfalso
              exact zhk_inj hn hn2 hs (by omega) hi (by omega) c
            · omega
          subst hji
          rw [ms_no _ _ _ _ 21 _ (by omega), ms_is, ms_is]
          exact ⟨rfl, rfl⟩
        · rw [ms_no _ _ _ _ 21 _ (by omega), ms_no _ _ _ _ 21 _ (by omega), ms_no _ _ _ _ 22 _ (by omega), ms_no _ _ _ _ 22 _ (by omega)]
          exact i1 j (by
            rcases Nat.lt_or_ge j i with q | q
            · exact q
            · exact absurd (by rw [show j = i by omega]) c)
      · have hne := hna i (by omega)
        rw [ms_no _ _ _ _ 21 _ (by omega), ms_no _ _ _ _ 21 _ (by omega), ms_no _ _ _ _ 22 _ (by omega), ms_no _ _ _ _ 22 _ (by omega)]
        exact i2 a ha (fun j hj => hna j (by omega))
      · rw [ms_row _ _ _ _ _ q2, ms_row _ _ _ _ _ q1]; exact i3 q q1 q2
  have h39 : wX0_gatherRound X ad ca d x (q_v (PT x) (fun M' => M' 19 3 = nI (if k * zro n s % n = 0 then w + 1 else w) ∧ (∀ j, M' 20 j = if k * zro n s % n = 0 ∧ j = w then nI s else M1 20 j) ∧ (∀ i, i < zro n s → M' 21 (zhk n i s) = (if k * zro n s % n = 0 then nI w else -1) ∧ M' 22 (zhk n i s) = nI (g ^ i % p)) ∧ (∀ a, a < 2 ^ n → (∀ i, i < zro n s → a ≠ zhk n i s) → M' 21 a = M1 21 a ∧ M' 22 a = M1 22 a) ∧ ∀ i, (i < 19 ∨ 22 < i) → M' i = M1 i)) 39 [(0, .ref 19), (1, .ref o), (2, .int (nI s)), (3, .int (nI k)), (4, .int (nI g)), (5, .int (nI (zro n s)))] M1 := by
    have hkz : k * zro n s < 64 := by
      have := Nat.mul_lt_mul'' (show k < 8 by omega) (show zro n s < 8 by omega)
      omega
    refine bX0_gatherRound_39 _ _ _ _ _ hL ?_
    rw [hN, n_mul]
    refine ⟨_, kX11_left (by omega) _ (by omega) (by omega), ?_⟩
    rintro v2 M2 ⟨rfl, rfl⟩
    rw [zm_nI (by omega)]
    have hlt : k * zro n s % n < n := Nat.mod_lt _ (by omega)
    have hzero : nI (k * zro n s % n) = 0 ↔ k * zro n s % n = 0 := nI_eq (b := 0) (by omega) (by omega)
    rw [hzero]
    refine ⟨fun h => ?_, fun h => ⟨_, kX0_takeIn (by omega) _ hw (hw35 h), ?_⟩⟩
    · refine hlay _ _ (fun _ _ _ => rfl) (by rw [if_neg h]; exact hw) (fun j => by rw [if_neg (fun q => h q.1)]) (by rw [if_neg h])
    · rintro v3 M3 ⟨rfl, rfl⟩
      refine hlay _ _ (fun i q1 q2 => by rw [ms_row _ _ _ _ _ q1, ms_row _ _ _ _ _ q2]) (by rw [if_pos h, ms_is]) (fun j => ?_) (by rw [if_pos h])
      rw [ms_row _ _ _ _ _ (by decide)]
      by_cases c : j = w
      · rw [c, ms_is, if_pos ⟨h, rfl⟩]
      · rw [ms_no _ _ _ _ _ _ (by omega), if_neg (fun q => c q.2)]
  refine bX0_gatherRound_10 _ _ _ _ _ _ hL ⟨fun _ => h39, fun h => absurd ?_ h⟩
  rw [hz.2.2.1]
theorem nI_ne2 {k : Nat} (h : k < 2 ^ 30) : nI k ≠ -2 := fun e => by
  have h1 := congrArg Int32.toInt e
  rw [nI_toInt (by omega)] at h1
  have h2 : (-2 : Int32).toInt = -2 := by decide
  omega
/-- the places are cleared -/
theorem kX0_clears {o n : Nat} {u v g : Int32} {Post : Option Value → a_M → a_P → Prop} (hd : 1 ≤ d) (hL : LY[o]? = some (6, 5)) (hN : M o 0 = nI n) (hn : n < 8) (hgo : ∀ M', (∀ a, a < 2 ^ n → M' 21 a = -2) → (∀ q, q ≠ 21 → M' q = M q) → wX0_gather X ad ca d x Post 57 [(0, .ref 19), (1, .ref o), (2, .int u), (3, .int v), (4, .int g), (5, .int 0)] M') :
    wX0_gather X ad ca d x Post 30 [(0, .ref 19), (1, .ref o), (2, .int u), (3, .int v), (4, .int g), (5, .int 0)] M := by
  have h2n := z_p2 hn
  have ho : o ≠ 21 := by rintro rfl; cases hL
  refine a_loop (σ := a_M) (fun s M' => wX0_gather X ad ca d x Post 30 [(0, .ref 19), (1, .ref o), (2, .int u), (3, .int v), (4, .int g), (5, .int (nI s))] M') (fun s M' => (∀ a, a < s → M' 21 a = -2) ∧ ∀ q, q ≠ 21 → M' q = M q) (2 ^ n) ?_ ?_ 0 M (Nat.zero_le _) ⟨fun a h => absurd h (Nat.not_lt_zero _), fun _ _ => rfl⟩
  · rintro M1 ⟨i1, i2⟩
    refine bX0_gather_30 _ _ _ _ _ hL ⟨_, kX6_states (by omega) hL (by rw [i2 o ho]; exact hN) hn, ?_⟩
    rintro v1 M1 ⟨rfl, rfl⟩
    exact ⟨fun _ => hgo _ i1 i2, fun h => absurd (nI_le (Nat.le_refl _) (by omega)) h⟩
  · rintro s M1 hs ⟨i1, i2⟩ ih
    refine bX0_gather_30 _ _ _ _ _ hL ⟨_, kX6_states (by omega) hL (by rw [i2 o ho]; exact hN) hn, ?_⟩
    rintro v1 M1 ⟨rfl, rfl⟩
    refine ⟨fun h => absurd h (nI_ge hs (by omega)), fun _ => ⟨n_in (by omega) (by omega), ?_⟩⟩
    rw [n_cl (by omega), ← nI_succ]
    refine ih _ ⟨fun a ha => ?_, fun q hq => by rw [ms_row _ _ _ _ _ hq]; exact i2 q hq⟩
    by_cases c : a = s
    · rw [c, ms_is]
    · rw [ms_no _ _ _ _ _ _ (by omega)]; exact i1 a (by omega)
theorem zfl_lt {f : Nat → Bool} {a s : Nat} (h : a < s) (hf : f a = true) : (zfl f a).length < (zfl f s).length := by
  have h1 := zfl_mono f (show a + 1 ≤ s by omega)
  rw [zfl_len, if_pos hf] at h1
  omega
theorem kX0_gatherN (hd : 2 ≤ d) {o n r p t e m : Nat} (hL : LY[o]? = some (6, 5)) (hH : rH M o n r p t e) (hw : wH n r p t e) (hm : m ≤ n) :
    mX0_gather X ad ca d x [.ref 19, .ref o, .int (nI m), .int (-1)] M (q_v (PT x) (fun M' => bS M' n m (zsec n m) (zpn m) (fun _ => 1) ∧ ∀ i, (i < 19 ∨ 22 < i) → M' i = M i)) := by
  obtain ⟨d, rfl⟩ := a_d1 (show 1 ≤ d by omega)
  have hn := hw.1
  have h2n := z_p2 hn
  have hlen := zsec_len n hn m (by omega)
  have hoo : o ≠ 19 ∧ o ≠ 20 ∧ o ≠ 21 ∧ o ≠ 22 := by
    refine ⟨?_, ?_, ?_, ?_⟩ <;> rintro rfl <;> cases hL
  refine eX0_gather _ _ _ (bX0_gather_0 _ _ _ hL ⟨fun _ => ?_, fun h => absurd (show (-1 : Int32) ≤ 0 by decide) h⟩)
  refine kX0_clears (by omega) hL (by rw [ms_row _ _ _ _ _ hoo.1]; exact hH.1) hn (fun M1 c1 c2 => ?_)
  have f1 : ∀ q, (q < 19 ∨ 22 < q) → M1 q = M q := fun q hq => by rw [c2 q (by omega), ms_row _ _ _ _ _ (by omega)]
  have fo : M1 o = M o := by rw [c2 o hoo.2.2.1, ms_row _ _ _ _ _ hoo.1]
  refine a_loop (σ := a_M) (fun s M' => wX0_gather X ad ca d x _ 57 [(0, .ref 19), (1, .ref o), (2, .int (nI m)), (3, .int (-1)), (4, .int 1), (5, .int (nI s))] M') (fun s M' => M' 19 3 = nI (zfl (zsf m) s).length ∧ (∀ a, a < s → zsf m a = true → M' 20 (zfl (zsf m) a).length = nI a) ∧ (∀ a, a < s → zsf m a = true → M' 21 a = nI (zfl (zsf m) a).length ∧ M' 22 a = nI 1) ∧ (∀ a, s ≤ a → a < 2 ^ n → M' 21 a = -2) ∧ (∀ i, (i < 19 ∨ 22 < i) → M' i = M i) ∧ M' o = M o) (2 ^ n) ?_ ?_ 0 M1 (Nat.zero_le _) ⟨by rw [c2 19 (by decide), ms_is]; rfl, fun a h => absurd h (Nat.not_lt_zero _), fun a h => absurd h (Nat.not_lt_zero _), fun a _ ha => c1 a ha, f1, fo⟩
  · rintro M2 ⟨i1, i2, i3, i4, i5, i6⟩
    refine bX0_gather_57 _ _ _ _ _ hL ⟨_, kX6_states (by omega) hL (by rw [i6]; exact hH.1) hn, ?_⟩
    rintro v1 M2 ⟨rfl, rfl⟩
    refine ⟨fun _ => ⟨rfl, rfl, ⟨i1, fun k a hk => ?_, fun a ha hc => ?_⟩, i5⟩, fun h => absurd (nI_le (Nat.le_refl _) (by omega)) h⟩
    · obtain ⟨h1, h2, h3⟩ := zfl_mem hk
      rw [← h3]
      exact i2 a h1 h2
    · exact i3 a ha (beq_iff_eq.mpr hc)
  · rintro s M2 hs ⟨i1, i2, i3, i4, i5, i6⟩ ih
    have hnx : ∀ M3 : a_M, (M3 19 3 = nI (zfl (zsf m) (s + 1)).length ∧ (∀ a, a < s + 1 → zsf m a = true → M3 20 (zfl (zsf m) a).length = nI a) ∧ (∀ a, a < s + 1 → zsf m a = true → M3 21 a = nI (zfl (zsf m) a).length ∧ M3 22 a = nI 1) ∧ (∀ a, s + 1 ≤ a → a < 2 ^ n → M3 21 a = -2) ∧ (∀ i, (i < 19 ∨ 22 < i) → M3 i = M i) ∧ M3 o = M o) → wX0_gather X ad ca d x (q_v (PT x) (fun M' => bS M' n m (zsec n m) (zpn m) (fun _ => 1) ∧ ∀ i, (i < 19 ∨ 22 < i) → M' i = M i)) 118 [(0, .ref 19), (1, .ref o), (2, .int (nI m)), (3, .int (-1)), (4, .int 1), (5, .int (nI s))] M3 := fun M3 h3 => by
      refine bX0_gather_118 _ _ _ _ _ hL ?_
      rw [← nI_succ]
      exact ih M3 h3
    refine bX0_gather_57 _ _ _ _ _ hL ⟨_, kX6_states (by omega) hL (by rw [i6]; exact hH.1) hn, ?_⟩
    rintro v1 M2 ⟨rfl, rfl⟩
    refine ⟨fun h => absurd h (nI_ge hs (by omega)), fun _ => ⟨_, kJ6_bitCount (by omega) (show s < 128 by omega), ?_⟩⟩
    rintro v2 M2 ⟨rfl, rfl⟩
    have hzc := zc_le s
    have hcm : nI (zc s) = nI m ↔ zc s = m := nI_eq (by omega) (by omega)
    rw [hcm]
    refine ⟨fun h => hnx M2 ?_, fun h => ⟨n_in (by omega) (by omega), ?_⟩⟩
    · have hf : zsf m s = false := beq_eq_false_iff_ne.mpr h
      refine ⟨by rw [zfl_len, hf]; exact i1, fun a ha hfa => ?_, fun a ha hfa => ?_, fun a ha => i4 a (by omega), i5, i6⟩
      · by_cases c : a = s
        · rw [c, hf] at hfa; cases hfa
        · exact i2 a (by omega) hfa
      · by_cases c : a = s
        · rw [c, hf] at hfa; cases hfa
        · exact i3 a (by omega) hfa
    · rw [n_cl (by omega), i4 s (Nat.le_refl _) hs]
      have hf : zsf m s = true := beq_iff_eq.mpr h
      have hlt : (zfl (zsf m) s).length < 35 := Nat.lt_of_lt_of_le (zfl_lt hs hf) hlen
      refine ⟨fun h2 => absurd rfl h2, fun _ => ⟨fun h2 => absurd rfl h2, fun _ => ⟨_, kX0_takeIn (by omega) _ i1 hlt, ?_⟩⟩⟩
      rintro v3 M3 ⟨rfl, rfl⟩
      refine ⟨_, kX0_place (by omega) _ _ (show s < 128 by omega), ?_⟩
      rintro M4 rfl
      refine hnx _ ⟨?_, fun a ha hfa => ?_, fun a ha hfa => ?_, fun a ha hb => ?_, fun i hi => ?_, ?_⟩
      · rw [ms_row _ _ _ _ _ (by decide), ms_row _ _ _ _ _ (by decide), ms_is, zfl_len, if_pos hf]
      · rw [ms_row _ _ _ _ _ (by decide), ms_row _ _ _ _ _ (by decide), ms_row _ _ _ _ _ (by decide)]
        by_cases c : a = s
        · rw [c, ms_is]
        · have := zfl_lt (show a < s by omega) hfa
          rw [ms_no _ _ _ _ _ _ (by omega)]
          exact i2 a (by omega) hfa
      · rw [ms_row _ _ _ _ 21 (by decide)]
        by_cases c : a = s
        · rw [c, ms_is, ms_is]; exact ⟨rfl, rfl⟩
        · rw [ms_no _ _ _ _ 21 _ (by omega), ms_no _ _ _ _ 22 _ (by omega), ms_row _ _ _ _ 21 (by decide), ms_row _ _ _ _ 21 (by decide), ms_row _ _ _ _ 22 (by decide), ms_row _ _ _ _ 22 (by decide), ms_row _ _ _ _ 22 (by decide)]
          exact i3 a (by omega) hfa
      · rw [ms_row _ _ _ _ 21 (by decide), ms_no _ _ _ _ 21 _ (by omega), ms_row _ _ _ _ 21 (by decide), ms_row _ _ _ _ 21 (by decide)]
        exact i4 a (by omega) hb
      · rw [ms_row _ _ _ _ _ (by omega), ms_row _ _ _ _ _ (by omega), ms_row _ _ _ _ _ (by omega), ms_row _ _ _ _ _ (by omega)]
        exact i5 i hi
      · rw [ms_row _ _ _ _ _ hoo.2.2.2, ms_row _ _ _ _ _ hoo.2.2.1, ms_row _ _ _ _ _ hoo.1, ms_row _ _ _ _ _ hoo.2.1]
        exact i6
theorem kX0_gatherT (hd : 4 ≤ d) {o n r p t e m k ω : Nat} (hL : LY[o]? = some (6, 5)) (hH : rH M o n r p t e) (hw : wH n r p t e) (hm : m ≤ n) (hk : k < n) (hω : zrt n p = some ω) :
    mX0_gather X ad ca d x [.ref 19, .ref o, .int (nI m), .int (nI k)] M (q_v (PT x) (fun M' => bS M' n m (zrd n m k) (zpt n m k) (fun a => (ω ^ k % p) ^ zfa n a % p) ∧ ∀ i, (i < 19 ∨ 22 < i) → M' i = M i)) := by
  obtain ⟨d, rfl⟩ := a_d1 (show 1 ≤ d by omega)
  have hn := hw.1
  have hn2 := hw.2.1
  have hpb := zpl_b _ hw.2.2.2.1
  have h2n := z_p2 hn
  have hlen := zrd_len (k := k) hn (show m < 8 by omega)
  have hωp : ω < p := zEf_lt _ _ _ hω
  have hoo : o ≠ 19 ∧ o ≠ 20 ∧ o ≠ 21 ∧ o ≠ 22 := by
    refine ⟨?_, ?_, ?_, ?_⟩ <;> rintro rfl <;> cases hL
  generalize hg : ω ^ k % p = g
  have hgp : g < p := by rw [← hg]; exact Nat.mod_lt _ (by omega)
  -- behind the step
  have main : wX0_gather X ad ca d x (q_v (PT x) (fun M' => bS M' n m (zrd n m k) (zpt n m k) (fun a => g ^ zfa n a % p) ∧ ∀ i, (i < 19 ∨ 22 < i) → M' i = M i)) 30 [(0, .ref 19), (1, .ref o), (2, .int (nI m)), (3, .int (nI k)), (4, .int (nI g)), (5, .int 0)] (ms M 19 3 0) := by
    refine kX0_clears (by omega) hL (by rw [ms_row _ _ _ _ _ hoo.1]; exact hH.1) hn (fun M1 c1 c2 => ?_)
    have f1 : ∀ q, (q < 19 ∨ 22 < q) → M1 q = M q := fun q hq => by rw [c2 q (by omega), ms_row _ _ _ _ _ (by omega)]
    have fo : M1 o = M o := by rw [c2 o hoo.2.2.1, ms_row _ _ _ _ _ hoo.1]
    generalize hf : zrf n m k = f
    have hfa : ∀ a, f a = true ↔ zc a = m ∧ zle n a = a ∧ k * zro n a % n = 0 := fun a => by
      rw [← hf]
      unfold zrf
      rw [Bool.and_eq_true, Bool.and_eq_true, beq_iff_eq, beq_iff_eq, beq_iff_eq, and_assoc]
    refine a_loop (σ := a_M) (fun s M' => wX0_gather X ad ca d x _ 57 [(0, .ref 19), (1, .ref o), (2, .int (nI m)), (3, .int (nI k)), (4, .int (nI g)), (5, .int (nI s))] M') (fun s M' => M' 19 3 = nI (zfl f s).length ∧ (∀ a, a < s → f a = true → M' 20 (zfl f a).length = nI a) ∧ (∀ a, a < 2 ^ n → zc a = m → zle n a < s → (M' 21 a = if f (zle n a) = true then nI (zfl f (zle n a)).length else -1) ∧ M' 22 a = nI (g ^ zfa n a % p)) ∧ (∀ a, a < 2 ^ n → ¬ (zc a = m ∧ zle n a < s) → M' 21 a = -2) ∧ (∀ i, (i < 19 ∨ 22 < i) → M' i = M i) ∧ M' o = M o) (2 ^ n) ?_ ?_ 0 M1 (Nat.zero_le _) ⟨by rw [c2 19 (by decide), ms_is]; rfl, fun a h => absurd h (Nat.not_lt_zero _), fun a _ _ h => absurd h (Nat.not_lt_zero _), fun a ha _ => c1 a ha, f1, fo⟩
    · rintro M2 ⟨i1, i2, i3, i4, i5, i6⟩
      refine bX0_gather_57 _ _ _ _ _ hL ⟨_, kX6_states (by omega) hL (by rw [i6]; exact hH.1) hn, ?_⟩
      rintro v1 M2 ⟨rfl, rfl⟩
      refine ⟨fun _ => ⟨rfl, rfl, ⟨?_, fun j a hj => ?_, fun a ha hc => ?_⟩, i5⟩, fun h => absurd (nI_le (Nat.le_refl _) (by omega)) h⟩
      · unfold zrd; rw [hf]; exact i1
      · unfold zrd at hj
        rw [hf] at hj
        obtain ⟨h1, h2, h3⟩ := zfl_mem hj
        rw [← h3]
        exact i2 a h1 h2
      · have hz := zro_f hn hn2 ha
        obtain ⟨j1, j2⟩ := i3 a ha hc hz.2.2.2.2.1
        unfold zpt
        rw [hf]
        by_cases c : f (zle n a) = true
        · rw [if_pos c] at j1 ⊢
          exact ⟨j1, j2⟩
        · rw [if_neg c] at j1 ⊢
          exact j1
    · rintro s M2 hs ⟨i1, i2, i3, i4, i5, i6⟩ ih
      have hnx : ∀ M3 : a_M, (M3 19 3 = nI (zfl f (s + 1)).length ∧ (∀ a, a < s + 1 → f a = true → M3 20 (zfl f a).length = nI a) ∧ (∀ a, a < 2 ^ n → zc a = m → zle n a < s + 1 → (M3 21 a = if f (zle n a) = true then nI (zfl f (zle n a)).length else -1) ∧ M3 22 a = nI (g ^ zfa n a % p)) ∧ (∀ a, a < 2 ^ n → ¬ (zc a = m ∧ zle n a < s + 1) → M3 21 a = -2) ∧ (∀ i, (i < 19 ∨ 22 < i) → M3 i = M i) ∧ M3 o = M o) → wX0_gather X ad ca d x (q_v (PT x) (fun M' => bS M' n m (zrd n m k) (zpt n m k) (fun a => g ^ zfa n a % p) ∧ ∀ i, (i < 19 ∨ 22 < i) → M' i = M i)) 118 [(0, .ref 19), (1, .ref o), (2, .int (nI m)), (3, .int (nI k)), (4, .int (nI g)), (5, .int (nI s))] M3 := fun M3 h3 => by
        refine bX0_gather_118 _ _ _ _ _ hL ?_
        rw [← nI_succ]
        exact ih M3 h3
      have hz := zro_f hn hn2 hs
      have hzl := zle_f hn hn2 hs
      -- nothing is new at s
      have hsame : f s = false → (∀ a, a < 2 ^ n → zc a = m → zle n a ≠ s) → wX0_gather X ad ca d x (q_v (PT x) (fun M' => bS M' n m (zrd n m k) (zpt n m k) (fun a => g ^ zfa n a % p) ∧ ∀ i, (i < 19 ∨ 22 < i) → M' i = M i)) 118 [(0, .ref 19), (1, .ref o), (2, .int (nI m)), (3, .int (nI k)), (4, .int (nI g)), (5, .int (nI s))] M2 := by
        intro hf0 hno
        refine hnx M2 ⟨by rw [zfl_len, hf0]; exact i1, fun a ha hfa => ?_, fun a ha hc hl => i3 a ha hc (by have := hno a ha hc; omega), fun a ha hc => i4 a ha (fun q => hc ⟨q.1, by omega⟩), i5, i6⟩
        by_cases c : a = s
        · rw [c, hf0] at hfa; cases hfa
        · exact i2 a (by omega) hfa
      refine bX0_gather_57 _ _ _ _ _ hL ⟨_, kX6_states (by omega) hL (by rw [i6]; exact hH.1) hn, ?_⟩
      rintro v1 M2 ⟨rfl, rfl⟩
      refine ⟨fun h => absurd h (nI_ge hs (by omega)), fun _ => ⟨_, kJ6_bitCount (by omega) (show s < 128 by omega), ?_⟩⟩
      rintro v2 M2 ⟨rfl, rfl⟩
      have hzc := zc_le s
      have hcm : nI (zc s) = nI m ↔ zc s = m := nI_eq (by omega) (by omega)
      rw [hcm]
      refine ⟨fun h => hsame ?_ (fun a ha hc q => h ?_), fun h => ⟨n_in (by omega) (by omega), ?_⟩⟩
      · cases hq : f s with
        | false => rfl
        | true => exact absurd ((hfa s).mp hq).1 h
      · rw [← q, (zro_f hn hn2 ha).2.2.2.2.2.2.2.2.1]; exact hc
      rw [n_cl (by omega)]
      refine ⟨fun h2 => ?_, fun h2 => ⟨fun _ => ?_, fun h3 => absurd h3 (nI_m1 (by omega))⟩⟩
      · have hlt : zle n s < s := by
          rcases Nat.lt_or_ge (zle n s) s with q | q
          · exact q
          · exact absurd (i4 s hs (fun z => by omega)) h2
        refine hsame ?_ (fun a ha hc q => ?_)
        · cases hq : f s with
          | false => rfl
          | true => have := ((hfa s).mp hq).2.1; omega
        · have := (zro_f hn hn2 ha).2.2.2.2.2.2.2.2.2.1
          rw [q] at this
          omega
      · have hle : zle n s = s := by
          rcases Nat.lt_or_ge (zle n s) s with q | q
          · exfalso
            have := (i3 s hs h q).1
            rw [h2] at this
            split at this
            · exact nI_ne2 (by have := zfl_llen f (zle n s); omega) this.symm
            · exact absurd this (by decide)
          · omega
        have hfs : f s = true ↔ k * zro n s % n = 0 := by rw [hfa s]; exact ⟨fun q => q.2.2, fun q => ⟨h, hle, q⟩⟩
        have hw35 : k * zro n s % n = 0 → (zfl f s).length < 35 := fun q => Nat.lt_of_lt_of_le (zfl_lt hs (hfs.mpr q)) (by unfold zrd at hlen; rw [hf] at hlen; exact hlen)
        refine ⟨_, kX0_gatherRound (by omega) hL (by rw [i6]; exact hH.1) (by rw [i6]; exact hH.2.2.1) hn hn2 (by omega) (by omega) hs hk hgp i1 hw35, ?_⟩
        rintro M3 ⟨r1, r2, r3, r4, r5⟩
        have ef : (if k * zro n s % n = 0 then (zfl f s).length + 1 else (zfl f s).length) = (zfl f (s + 1)).length := by
          rw [zfl_len]
          by_cases c : k * zro n s % n = 0
          · rw [if_pos c, if_pos (hfs.mpr c)]
          · rw [if_neg c, if_neg (fun q => c (hfs.mp q))]; rfl
        have hM3o : M3 o = M o := by
          have h3 := hoo
          rw [r5 o (by
            rcases Nat.lt_or_ge o 19 with q | q
            · exact Or.inl q
            · exact Or.inr (by omega)), i6]
        refine hnx M3 ⟨by rw [r1, ef], fun a ha hfa' => ?_, fun a ha hc hl => ?_, fun a ha hc => ?_, fun i hi => by rw [r5 i hi, i5 i hi], hM3o⟩
        · rw [r2]
          by_cases c : a = s
          · subst c
            rw [if_pos ⟨hfs.mp hfa', rfl⟩]
          · have := zfl_lt (show a < s by omega) hfa'
            rw [if_neg (by omega)]
            exact i2 a (by omega) hfa'
        · by_cases c : zle n a = s
          · have hza := zle_f hn hn2 ha
            have hro := zro_f hn hn2 ha
            have hi := hza.2.1
            rw [c] at hi
            obtain ⟨y1, y2⟩ := r3 (zfa n a) hi
            have e1 : zhk n (zfa n a) s = a := by rw [← c]; exact hro.2.2.2.2.2.2.1
            rw [e1] at y1 y2
            rw [c, y1, y2]
            refine ⟨?_, rfl⟩
            by_cases c2 : k * zro n s % n = 0
            · rw [if_pos c2, if_pos (hfs.mpr c2)]
            · rw [if_neg c2, if_neg (fun q => c2 (hfs.mp q))]
          · obtain ⟨y1, y2⟩ := r4 a ha (fun i hi q => c (by rw [q, (hzl.2.2 i hi).1, hle]))
            rw [y1, y2]
            exact i3 a ha hc (by omega)
        · obtain ⟨y1, y2⟩ := r4 a ha (fun i hi q => hc (by
            obtain ⟨z1, z2, -⟩ := hzl.2.2 i hi
            rw [q]
            exact ⟨by rw [z2]; exact h, by rw [z1, hle]; omega⟩))
          rw [y1]
          exact i4 a ha (fun q => hc ⟨q.1, by omega⟩)
  refine eX0_gather _ _ _ (bX0_gather_0 _ _ _ hL ⟨fun h => ?_, fun h => ⟨_, kX6_leastRoot (by omega) hL (hH.same (ms_row _ _ _ _ _ hoo.1)) hw, ?_⟩⟩)
  · have hk0 : k = 0 := by
      rcases Nat.eq_zero_or_pos k with q | q
      · exact q
      · exact absurd h (nI_nle q (by omega))
    have hg1 : g = 1 := by rw [← hg, hk0, Nat.pow_zero, Nat.mod_eq_of_lt (by omega)]
    have e1 : (1 : Int32) = nI g := by rw [hg1]; rfl
    rw [e1]
    exact main
  · rintro v1 M1 ⟨rfl, hv1⟩
    unfold rRoot at hv1
    rw [hω] at hv1
    dsimp only at hv1
    subst hv1
    rw [ms_row _ _ _ _ _ hoo.1, hH.2.2.1]
    refine ⟨_, kX11_raised (by omega) (by omega) (by omega) (by omega) (by omega), ?_⟩
    rintro v2 M2 ⟨rfl, rfl⟩
    rw [hg]
    exact main
theorem zctg : ∀ n, n < 8 → 2 ≤ n → ∀ a, a < 2 ^ n → ∀ i, i < n → zc (ztg n a i) = zc a := by decide +kernel
theorem z_cell {w i j i' j' : Nat} (hj : j < w) (hj' : j' < w) (h : i * w + j = i' * w + j') : i = i' ∧ j = j' := by
  have h1 : (i * w + j) / w = i := by rw [Nat.add_comm, Nat.add_mul_div_right _ _ (by omega), Nat.div_eq_of_lt hj, Nat.zero_add]
  have h2 : (i' * w + j') / w = i' := by rw [Nat.add_comm, Nat.add_mul_div_right _ _ (by omega), Nat.div_eq_of_lt hj', Nat.zero_add]
  have h3 : i = i' := by rw [← h1, h, h2]
  subst h3
  exact ⟨rfl, by omega⟩
theorem z_cellb {w i j : Nat} (hi : i < w) (hj : j < w) (hw : w ≤ 35) : i * w + j < 1225 := by
  have h1 : (i + 1) * w ≤ w * w := Nat.mul_le_mul_right w (by omega)
  have h2 : w * w ≤ 35 * 35 := Nat.mul_le_mul hw hw
  rw [Nat.succ_mul] at h1
  omega
/-- a square of w rows of w lies -/
def mB (M : a_M) (o w p : Nat) (F : Nat → Nat → Nat) : Prop := ∀ i j, i < w → j < w → M o (i * w + j) = nI (F i j) ∧ F i j < p
def zFt (n e : Nat) (L : List Nat) (pl : Nat → Option Nat) (fa : Nat → Nat) (i j k : Nat) : Nat := if pl (ztg n (L.getD i 0) k) = some j then (if zal n (L.getD i 0) k = true then e else fa (ztg n (L.getD i 0) k)) else 0
/-- THE SUM among the members of a basis, as the class lays it -/
def zFs (p n b e : Nat) (L : List Nat) (pl : Nat → Option Nat) (fa : Nat → Nat) (i j : Nat) : Nat := zs (zFt n e L pl fa i j) b % p
theorem kX0_fillSum (hd : 2 ≤ d) {o o2 n r p t e m : Nat} {L : List Nat} {pl : Nat → Option Nat} {fa : Nat → Nat} (hL : LY[o]? = some (6, 5)) (hL2 : LY[o2]? = some (100, 1225)) (hH : rH M o n r p t e) (hw : wH n r p t e) (hB : bS M n m L pl fa) (hl : L.length ≤ 35) (hmem : ∀ (k a : Nat), L[k]? = some a → a < 2 ^ n ∧ zc a = m) (hpl : ∀ a j, a < 2 ^ n → zc a = m → pl a = some j → j < L.length ∧ fa a < p) :
    mX0_fillSum X ad ca d x [.ref 19, .ref o, .ref o2] M (q_v (PT x) (fun M' => mB M' o2 L.length p (zFs p n (zbd n r) e L pl fa) ∧ ∀ i, i ≠ o2 → M' i = M i)) := by
  obtain ⟨d, rfl⟩ := a_d1 (show 1 ≤ d by omega)
  have hn := hw.1
  have hn2 := hw.2.1
  have hpb := zpl_b _ hw.2.2.2.1
  have hp0 : 0 < p := by omega
  have h2n := z_p2 hn
  have he := hw.2.2.2.2.2.2
  have hbn : zbd n r ≤ n := by unfold zbd; split <;> omega
  have ho2 : o2 ≠ 19 ∧ o2 ≠ 20 ∧ o2 ≠ 21 ∧ o2 ≠ 22 ∧ o2 ≠ o := by
    refine ⟨?_, ?_, ?_, ?_, ?_⟩
    · rintro rfl; cases hL2
    · rintro rfl; cases hL2
    · rintro rfl; cases hL2
    · rintro rfl; cases hL2
    · rintro rfl; rw [hL2] at hL; cases hL
  generalize hww : L.length = w at *
  have hwq : w * w ≤ 1225 := Nat.le_trans (Nat.mul_le_mul hl hl) (by decide)
  have hB1 : M 19 3 = nI w := by rw [← hww]; exact hB.1
  have hD : ∀ i, i < w → ∃ a, L[i]? = some a ∧ L.getD i 0 = a ∧ a < 2 ^ n ∧ zc a = m := fun i hi => by
    have h1 : L[i]? = some (L[i]'(by omega)) := List.getElem?_eq_getElem (by omega)
    exact ⟨_, h1, by rw [List.getD_eq_getElem?_getD, h1]; rfl, hmem i _ h1⟩
  refine eX0_fillSum _ _ (bX0_fillSum_0 _ _ 1225 hL hL2 ?_)
  refine a_loop (σ := a_M) (fun i M' => wX0_fillSum X ad ca d x _ 2 [(0, .ref 19), (1, .ref o), (2, .ref o2), (3, .int (nI i))] M') (fun i M' => (∀ q, q < i → M' o2 q = 0) ∧ ∀ q, q ≠ o2 → M' q = M q) (w * w) ?_ ?_ 0 M (Nat.zero_le _) ⟨fun q h => absurd h (Nat.not_lt_zero _), fun _ _ => rfl⟩
  rotate_left
  · rintro i M1 hi ⟨i1, i2⟩ ih
    refine bX0_fillSum_2 _ _ 1225 _ hL hL2 ?_
    rw [i2 19 (Ne.symm ho2.1), hB1, n_mul]
    refine ⟨fun h => absurd h (nI_ge hi (by omega)), fun _ => ⟨fun h => absurd h (nI_ge (show i < 1225 by omega) (by omega)), fun _ => ⟨n_in (by omega) (by omega), ?_⟩⟩⟩
    rw [n_cl (by omega), ← nI_succ]
    refine ih _ ⟨fun q hq => ?_, fun q hq => by rw [ms_row _ _ _ _ _ hq]; exact i2 q hq⟩
    by_cases c : q = i
    · rw [c, ms_is]
    · rw [ms_no _ _ _ _ _ _ (by omega)]; exact i1 q (by omega)
  rintro M1 ⟨i1, i2⟩
  refine bX0_fillSum_2 _ _ 1225 _ hL hL2 ?_
  rw [i2 19 (Ne.symm ho2.1), hB1, n_mul]
  refine ⟨fun _ => bX0_fillSum_31 _ _ 1225 hL hL2 ?_, fun h => absurd (nI_le (Nat.le_refl _) (by omega)) h⟩
  -- the rows
  let A : Nat → Nat → Nat → Nat → Nat := fun i k i' j' => if i' < i then zFs p n (zbd n r) e L pl fa i' j' else if i' = i then zs (zFt n e L pl fa i j') k % p else 0
  refine a_loop (σ := a_M) (fun i M' => wX0_fillSum X ad ca d x _ 33 [(0, .ref 19), (1, .ref o), (2, .ref o2), (3, .int (nI i))] M') (fun i M' => (∀ i' j', i' < w → j' < w → M' o2 (i' * w + j') = nI (A i 0 i' j')) ∧ ∀ q, q ≠ o2 → M' q = M q) w ?_ ?_ 0 M1 (Nat.zero_le _) ⟨fun i' j' h1 h2 => ?_, i2⟩
  · rintro M2 ⟨j1, j2⟩
    refine bX0_fillSum_33 _ _ 1225 _ hL hL2 ?_
    rw [j2 19 (Ne.symm ho2.1), hB1]
    refine ⟨fun _ => ⟨rfl, rfl, fun i j hi hj => ⟨?_, Nat.mod_lt _ hp0⟩, j2⟩, fun h => absurd (nI_le (Nat.le_refl _) (by omega)) h⟩
    rw [j1 i j hi hj]
    show nI (if i < w then _ else _) = _
    rw [if_pos hi]
  · rintro i M2 hi ⟨j1, j2⟩ ih
    obtain ⟨a, ha1, ha2, ha3, ha4⟩ := hD i hi
    refine bX0_fillSum_33 _ _ 1225 _ hL hL2 ?_
    rw [j2 19 (Ne.symm ho2.1), hB1]
    refine ⟨fun h => absurd h (nI_ge hi (by omega)), fun _ => ?_⟩
    refine a_loop (σ := a_M) (fun k M' => wX0_fillSum X ad ca d x _ 44 [(0, .ref 19), (1, .ref o), (2, .ref o2), (3, .int (nI i)), (4, .int (nI k))] M') (fun k M' => (∀ i' j', i' < w → j' < w → M' o2 (i' * w + j') = nI (A i k i' j')) ∧ ∀ q, q ≠ o2 → M' q = M q) (zbd n r) ?_ ?_ 0 M2 (Nat.zero_le _) ⟨j1, j2⟩
    · rintro M3 ⟨k1, k2⟩
      refine bX0_fillSum_44 _ _ 1225 _ _ hL hL2 ⟨_, kX6_bonds (by omega) hL (by rw [k2 o (Ne.symm ho2.2.2.2.2)]; exact hH.1) (by rw [k2 o (Ne.symm ho2.2.2.2.2)]; exact hH.2.1) hn hn2 hw.2.2.1, ?_⟩
      rintro v1 M3 ⟨rfl, rfl⟩
      refine ⟨fun _ => ?_, fun h => absurd (nI_le (Nat.le_refl _) (by omega)) h⟩
      rw [← nI_succ]
      refine ih M3 ⟨fun i' j' h1 h2 => ?_, k2⟩
      rw [k1 i' j' h1 h2]
      congr 1
      show (if i' < i then _ else if i' = i then _ else 0) = (if i' < i + 1 then _ else if i' = i + 1 then zs (zFt n e L pl fa (i + 1) j') 0 % p else 0)
      by_cases c1 : i' < i
      · rw [if_pos c1, if_pos (by omega)]
      · rw [if_neg c1]
        by_cases c2 : i' = i
        · subst c2
          rw [if_pos rfl, if_pos (by omega)]
          rfl
        · rw [if_neg c2, if_neg (by omega)]
          split
          · show 0 = 0 % p; rw [Nat.zero_mod]
          · rfl
    · rintro k M3 hk ⟨k1, k2⟩ ih2
      have hko : M3 o = M o := k2 o (Ne.symm ho2.2.2.2.2)
      have m19 : M3 19 3 = nI w := by rw [k2 19 (Ne.symm ho2.1)]; exact hB1
      have m20 : M3 20 i = nI a := by rw [k2 20 (Ne.symm ho2.2.1)]; exact hB.2.1 i a ha1
      have hs := ztg_lt n hn hn2 a ha3 k (by omega)
      have hsc : zc (ztg n a k) = m := by rw [zctg n hn hn2 a ha3 k (by omega)]; exact ha4
      have hAs : ∀ i' j', i' < w → j' < w → A i (k + 1) i' j' = if i' = i then (A i k i' j' + zFt n e L pl fa i j' k) % p else A i k i' j' := by
        intro i' j' h1 h2
        show (if i' < i then _ else if i' = i then (zs (zFt n e L pl fa i j') k + zFt n e L pl fa i j' k) % p else 0) = (if i' = i then ((if i' < i then _ else if i' = i then zs (zFt n e L pl fa i j') k % p else 0) + zFt n e L pl fa i j' k) % p else (if i' < i then _ else if i' = i then zs (zFt n e L pl fa i j') k % p else 0))
        by_cases c1 : i' < i
        · rw [if_pos c1, if_neg (by omega), if_pos c1]
        · rw [if_neg c1]
          by_cases c2 : i' = i
          · rw [if_pos c2, if_pos c2, if_neg c1, if_pos c2, Nat.mod_add_mod]
          · rw [if_neg c2, if_neg c2, if_neg c1, if_neg c2]
      -- the end of a bond
      have hend : ∀ M4 : a_M, (∀ i' j', i' < w → j' < w → M4 o2 (i' * w + j') = nI (A i (k + 1) i' j')) → (∀ q, q ≠ o2 → M4 q = M q) → wX0_fillSum X ad ca d x (q_v (PT x) (fun M' => mB M' o2 w p (zFs p n (zbd n r) e L pl fa) ∧ ∀ i, i ≠ o2 → M' i = M i)) 160 [(0, .ref 19), (1, .ref o), (2, .ref o2), (3, .int (nI i)), (4, .int (nI k))] M4 := by
        intro M4 h1 h2
        refine bX0_fillSum_160 _ _ 1225 _ _ hL hL2 ?_
        rw [← nI_succ]
        exact ih2 M4 ⟨h1, h2⟩
      have hlast : ∀ j c, j < w → c < p → (∀ j', j' < w → zFt n e L pl fa i j' k = if j' = j then c else 0) → (∃ Q : Int32 → a_M → Prop, mX11_left X ad ca d x [.int (M3 o2 (i * w + j) + nI c), .int (nI p)] M3 (q_i (PT x) Q) ∧ ∀ v4 M4, Q v4 M4 → vp_in (nI (i * w + j)) 1225 ∧ wX0_fillSum X ad ca d x (q_v (PT x) (fun M' => mB M' o2 w p (zFs p n (zbd n r) e L pl fa) ∧ ∀ i, i ≠ o2 → M' i = M i)) 160 [(0, .ref 19), (1, .ref o), (2, .ref o2), (3, .int (nI i)), (4, .int (nI k))] (ms M4 o2 (i * w + j) v4)) := by
        intro j c hj hc hF
        have hAl : A i k i j < p := by
          show (if i < i then _ else if i = i then _ else 0) < p
          rw [if_neg (by omega), if_pos rfl]
          exact Nat.mod_lt _ hp0
        rw [k1 i j hi hj, nI_add]
        refine ⟨_, kX11_left (by omega) _ hp0 (by omega), ?_⟩
        rintro v4 M4 ⟨rfl, rfl⟩
        rw [zm_nI (by omega)]
        refine ⟨n_in (z_cellb hi hj hl) (by omega), hend _ (fun i' j' h1 h2 => ?_) (fun q hq => by rw [ms_row _ _ _ _ _ hq]; exact k2 q hq)⟩
        rw [hAs i' j' h1 h2]
        by_cases c1 : i' = i ∧ j' = j
        · obtain ⟨rfl, rfl⟩ := c1
          rw [ms_is, if_pos rfl, hF _ h2, if_pos rfl]
        · rw [ms_no _ _ _ _ _ _ (fun q => c1 (z_cell h2 hj q.2)), k1 i' j' h1 h2]
          by_cases c2 : i' = i
          · rw [if_pos c2, hF _ h2, if_neg (fun q => c1 ⟨c2, q⟩), Nat.add_zero]
            have hAl' : A i k i' j' < p := by
              show (if i' < i then _ else if i' = i then _ else 0) < p
              rw [if_neg (by omega), if_pos c2]
              exact Nat.mod_lt _ hp0
            rw [Nat.mod_eq_of_lt hAl']
          · rw [if_neg c2]
      have hnone : (∀ j', j' < w → zFt n e L pl fa i j' k = 0) → wX0_fillSum X ad ca d x (q_v (PT x) (fun M' => mB M' o2 w p (zFs p n (zbd n r) e L pl fa) ∧ ∀ i, i ≠ o2 → M' i = M i)) 160 [(0, .ref 19), (1, .ref o), (2, .ref o2), (3, .int (nI i)), (4, .int (nI k))] M3 := by
        intro hF
        refine hend M3 (fun i' j' h1 h2 => ?_) k2
        rw [hAs i' j' h1 h2, k1 i' j' h1 h2]
        by_cases c2 : i' = i
        · rw [if_pos c2, hF _ h2, Nat.add_zero]
          have hAl' : A i k i' j' < p := by
            show (if i' < i then _ else if i' = i then _ else 0) < p
            rw [if_neg (by omega), if_pos c2]
            exact Nat.mod_lt _ hp0
          rw [Nat.mod_eq_of_lt hAl']
        · rw [if_neg c2]
      refine bX0_fillSum_44 _ _ 1225 _ _ hL hL2 ⟨_, kX6_bonds (by omega) hL (by rw [hko]; exact hH.1) (by rw [hko]; exact hH.2.1) hn hn2 hw.2.2.1, ?_⟩
      rintro v1 M3 ⟨rfl, rfl⟩
      refine ⟨fun h => absurd h (nI_ge hk (by omega)), fun _ => ⟨_, kX6_bond (by omega) hL (by rw [hko]; exact hH.1) hn (show k < n by omega), ?_⟩⟩
      rintro v2 M3 ⟨rfl, rfl⟩
      rw [n_cl (show i < 2 ^ 31 by omega), m20]
      refine ⟨n_in (by omega) (by omega), _, kX6_areAlike (by omega) hn hn2 ha3 (by omega), ?_⟩
      rintro v3 M3 ⟨rfl, hv3⟩
      rw [m20, m19]
      have hpl1 := hB.2.2 _ hs hsc
      refine ⟨fun h0 => ?_, fun h0 => ?_⟩
      · have hal : ¬ zal n a k = true := fun q => by rw [if_pos q] at hv3; rw [hv3] at h0; exact absurd h0 (by decide)
        rw [n_xor, ztw_tg n hn hn2 a ha3 k (by omega) hal, n_cl (show ztg n a k < 2 ^ 31 by omega)]
        have m21 : M3 21 (ztg n a k) = M 21 (ztg n a k) := by rw [k2 21 (Ne.symm ho2.2.2.1)]
        have m22 : M3 22 (ztg n a k) = M 22 (ztg n a k) := by rw [k2 22 (Ne.symm ho2.2.2.2.1)]
        rw [m21, m22]
        refine ⟨n_in (by omega) (by omega), n_in (by omega) (by omega), ?_⟩
        cases hpp : pl (ztg n a k) with
        | none =>
          rw [hpp] at hpl1
          dsimp only at hpl1
          rw [hpl1]
          refine ⟨fun _ => hnone (fun j' _ => ?_), fun h => absurd (show (-1 : Int32) < 0 by decide) h⟩
          unfold zFt
          rw [ha2, hpp, if_neg (by intro q; cases q)]
        | some j =>
          rw [hpp] at hpl1
          dsimp only at hpl1
          obtain ⟨hj, hfp⟩ := hpl _ j hs hsc hpp
          rw [hpl1.1, hpl1.2, n_mul, nI_add, n_cl (show i * w + j < 2 ^ 31 by have := z_cellb hi hj hl; omega), hko, hH.2.2.1]
          refine ⟨fun h => absurd h (nI_pos (by omega)), fun _ => ⟨n_in (by omega) (by omega), n_in (z_cellb hi hj hl) (by omega), fun _ => ⟨n_in (by omega) (by omega), hlast j _ hj hfp (fun j' _ => ?_)⟩, fun h => absurd h0 h⟩⟩
          unfold zFt
          rw [ha2, hpp, if_neg hal]
          by_cases c : j' = j
          · rw [if_pos (by rw [c]), if_pos c]
          · rw [if_neg (fun q => c (Option.some.inj q).symm), if_neg c]
      · have hal : zal n a k = true := Classical.byContradiction fun q => h0 (by rw [hv3, if_neg q])
        have htg : ztg n a k = a := by unfold ztg; rw [if_pos hal]
        rw [htg] at hpl1
        rw [n_cl (show a < 2 ^ 31 by omega)]
        have m21 : M3 21 a = M 21 a := by rw [k2 21 (Ne.symm ho2.2.2.1)]
        have m22 : M3 22 a = M 22 a := by rw [k2 22 (Ne.symm ho2.2.2.2.1)]
        rw [m21, m22]
        refine ⟨n_in (by omega) (by omega), n_in (by omega) (by omega), ?_⟩
        cases hpp : pl a with
        | none =>
          rw [hpp] at hpl1
          dsimp only at hpl1
          rw [hpl1]
          refine ⟨fun _ => hnone (fun j' _ => ?_), fun h => absurd (show (-1 : Int32) < 0 by decide) h⟩
          unfold zFt
          rw [ha2, htg, hpp, if_neg (by intro q; cases q)]
        | some j =>
          rw [hpp] at hpl1
          dsimp only at hpl1
          obtain ⟨hj, hfp⟩ := hpl _ j ha3 ha4 hpp
          rw [hpl1.1, hpl1.2, n_mul, nI_add, n_cl (show i * w + j < 2 ^ 31 by have := z_cellb hi hj hl; omega), hko, hH.2.2.1, hH.2.2.2.2]
          refine ⟨fun h => absurd h (nI_pos (by omega)), fun _ => ⟨n_in (by omega) (by omega), n_in (z_cellb hi hj hl) (by omega), fun h => absurd h h0, fun _ => hlast j _ hj he (fun j' _ => ?_)⟩⟩
          unfold zFt
          rw [ha2, htg, hpp, if_pos hal]
          by_cases c : j' = j
          · rw [if_pos (by rw [c]), if_pos c]
          · rw [if_neg (fun q => c (Option.some.inj q).symm), if_neg c]
  · rw [i1 _ (by
      have h3 : (i' + 1) * w ≤ w * w := Nat.mul_le_mul_right w (by omega)
      rw [Nat.succ_mul] at h3
      omega)]
    show (0 : Int32) = nI (if i' < 0 then _ else if i' = 0 then zs (zFt n e L pl fa 0 j') 0 % p else 0)
    rw [if_neg (by omega)]
    split
    · show (0 : Int32) = nI (0 % p); rw [Nat.zero_mod]; rfl
    · rfl
end Z34
