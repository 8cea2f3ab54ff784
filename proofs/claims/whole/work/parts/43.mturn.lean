/-! CONTRACTS 24: rounds and turns on the reference's side -/
def zhk (n : Nat) : Nat → Nat → Nat
  | 0, a => a
  | k + 1, a => zh n (zhk n k a)
/-- how many unlike shifts a state has -/
def zro (n a : Nat) : Nat := match zEf (fun j => !(zhk n (j + 1) a == a)) n with
  | some j => j + 1
  | none => n
def zlk (n a : Nat) : Nat → Nat
  | 0 => a
  | j + 1 => if zhk n (j + 1) a < zlk n a j then zhk n (j + 1) a else zlk n a j
/-- the least of a round -/
def zle (n a : Nat) : Nat := zlk n a (zro n a - 1)
/-- how far a state is from the least of its round -/
def zfa (n a : Nat) : Nat := match zEf (fun j => !(zhk n j (zle n a) == a)) n with
  | some j => j
  | none => 0
theorem zro_all : ((List.range 8).all fun n => (decide (n < 2)) || (List.range (2 ^ n)).all fun a => (decide (1 ≤ zro n a) && decide (zro n a ≤ n) && (zhk n (zro n a) a == a) && ((List.range (zro n a - 1)).all fun j => !(zhk n (j + 1) a == a)) && decide (zle n a < 2 ^ n) && decide (zfa n a < n) && (zhk n (zfa n a) (zle n a) == a) && ((List.range (zfa n a)).all fun j => !(zhk n j (zle n a) == a)) && (zc (zle n a) == zc a) && (zle n (zle n a) == zle n a) && decide (zh n a < 2 ^ n))) = true := by decide +kernel
theorem zro_f {n a : Nat} (hn : n < 8) (hn2 : 2 ≤ n) (ha : a < 2 ^ n) : 1 ≤ zro n a ∧ zro n a ≤ n ∧ zhk n (zro n a) a = a ∧ (∀ j, j < zro n a - 1 → zhk n (j + 1) a ≠ a) ∧ zle n a < 2 ^ n ∧ zfa n a < n ∧ zhk n (zfa n a) (zle n a) = a ∧ (∀ j, j < zfa n a → zhk n j (zle n a) ≠ a) ∧ zc (zle n a) = zc a ∧ zle n (zle n a) = zle n a ∧ zh n a < 2 ^ n := by
  have h := List.all_eq_true.mp zro_all n (List.mem_range.mpr hn)
  rw [Bool.or_eq_true] at h
  rcases h with h | h
  · have := of_decide_eq_true h; omega
  have h := List.all_eq_true.mp h a (List.mem_range.mpr ha)
  simp only [Bool.and_eq_true, decide_eq_true_eq, beq_iff_eq, List.all_eq_true, List.mem_range, Bool.not_eq_true', beq_eq_false_iff_ne] at h
  obtain ⟨⟨⟨⟨⟨⟨⟨⟨⟨⟨h1, h2⟩, h3⟩, h4⟩, h5⟩, h6⟩, h7⟩, h8⟩, h9⟩, h10⟩, h11⟩ := h
  exact ⟨h1, h2, h3, h4, h5, h6, h7, h8, h9, h10, h11⟩
theorem zhk_lt {n : Nat} (hn : n < 8) (hn2 : 2 ≤ n) : ∀ k a, a < 2 ^ n → zhk n k a < 2 ^ n
  | 0, _, h => h
  | k + 1, a, h => (zro_f hn hn2 (zhk_lt hn hn2 k a h)).2.2.2.2.2.2.2.2.2.2
/-- the rounds of a turn, each by its least -/
def zrf (n m k : Nat) : Nat → Bool := fun a => zc a == m && zle n a == a && k * zro n a % n == 0
def zrd (n m k : Nat) : List Nat := zfl (zrf n m k) (2 ^ n)
theorem zfl_le {f g : Nat → Bool} (h : ∀ a, f a = true → g a = true) : ∀ i, (zfl f i).length ≤ (zfl g i).length
  | 0 => Nat.le_refl _
  | i + 1 => by
    rw [zfl_len, zfl_len]
    have := zfl_le h i
    by_cases hf : f i = true
    · rw [if_pos hf, if_pos (h i hf)]; omega
    · rw [if_neg hf]; omega
theorem zrd_len {n m k : Nat} (hn : n < 8) (hm : m < 8) : (zrd n m k).length ≤ 35 := by
  refine Nat.le_trans (zfl_le (g := zsf m) (fun a ha => ?_) _) (zsec_len n hn m hm)
  unfold zrf at ha
  rw [Bool.and_eq_true, Bool.and_eq_true] at ha
  exact ha.1.1
/-- the places lie -/
def mPc (M : a_M) (n : Nat) (f : Nat → Bool) : Prop := ∀ a, a < 2 ^ n → M 144 a = if f a = true then nI (zfl f a).length else -1
section Z25
variable {X : a_X} {ad : Nat → Nat} {ca : Nat → ClassId} {d x : Nat} {M : a_M}
theorem kX12_roundOf (hd : 3 ≤ d) {n a : Nat} (hN : M 119 0 = nI n) (hn : n < 8) (hn2 : 2 ≤ n) (ha : a < 2 ^ n) : mX12_roundOf X ad ca d x [.ref 118, .int (nI a)] M (q_i (PT x) (fun s M' => M' = M ∧ s = nI (zro n a))) := by
  obtain ⟨d, rfl⟩ := a_d1 (show 1 ≤ d by omega)
  have h2n := z_p2 hn
  obtain ⟨h1, h2, h3, h4, -⟩ := zro_f hn hn2 ha
  refine eX12_roundOf _ (bX12_roundOf_0 _ ⟨_, kX12_shifted (by omega) hN hn hn2 ha, ?_⟩)
  rintro v1 M1 ⟨rfl, rfl⟩
  refine a_loop (σ := Unit) (fun j _ => wX12_roundOf X ad ca d x _ 8 [(0, .ref 118), (1, .int (nI a)), (2, .int (nI (j + 1))), (3, .int (nI (zhk n (j + 1) a)))] M1) (fun _ _ => True) (zro n a - 1) ?_ ?_ 0 () (Nat.zero_le _) trivial
  · intro _ _
    rw [show zro n a - 1 + 1 = zro n a by omega, h3]
    exact bX12_roundOf_8 _ _ _ ⟨fun _ => ⟨_, rfl, rfl, rfl, rfl⟩, fun h => absurd rfl h⟩
  · intro j _ hj _ ih
    have hz := zhk_lt hn hn2 (j + 1) a ha
    refine bX12_roundOf_8 _ _ _ ⟨fun h => absurd ((nI_eq (by omega) (by omega)).mp h) (h4 j hj), fun _ => ⟨_, kX12_shifted (by omega) hN hn hn2 hz, ?_⟩⟩
    rintro v2 M2 ⟨rfl, rfl⟩
    rw [← nI_succ]
    exact ih () trivial
theorem kX12_leastOf (hd : 3 ≤ d) {n a : Nat} (hN : M 119 0 = nI n) (hn : n < 8) (hn2 : 2 ≤ n) (ha : a < 2 ^ n) : mX12_leastOf X ad ca d x [.ref 118, .int (nI a)] M (q_i (PT x) (fun s M' => M' = M ∧ s = nI (zle n a))) := by
  obtain ⟨d, rfl⟩ := a_d1 (show 1 ≤ d by omega)
  have h2n := z_p2 hn
  obtain ⟨h1, h2, h3, h4, -⟩ := zro_f hn hn2 ha
  have hl : ∀ j, zlk n a j < 2 ^ n := by
    intro j
    induction j with
    | zero => exact ha
    | succ j ih =>
      unfold zlk
      split
      · exact zhk_lt hn hn2 _ a ha
      · exact ih
  refine eX12_leastOf _ (bX12_leastOf_0 _ ⟨_, kX12_shifted (by omega) hN hn hn2 ha, ?_⟩)
  rintro v1 M1 ⟨rfl, rfl⟩
  refine a_loop (σ := Unit) (fun j _ => wX12_leastOf X ad ca d x _ 8 [(0, .ref 118), (1, .int (nI a)), (2, .int (nI (zlk n a j))), (3, .int (nI (zhk n (j + 1) a)))] M1) (fun _ _ => True) (zro n a - 1) ?_ ?_ 0 () (Nat.zero_le _) trivial
  · intro _ _
    rw [show zro n a - 1 + 1 = zro n a by omega, h3]
    exact bX12_leastOf_8 _ _ _ ⟨fun _ => ⟨_, rfl, rfl, rfl, rfl⟩, fun h => absurd rfl h⟩
  · intro j _ hj _ ih
    have hz := zhk_lt hn hn2 (j + 1) a ha
    have hlj := hl j
    have hs : zlk n a (j + 1) = if zhk n (j + 1) a < zlk n a j then zhk n (j + 1) a else zlk n a j := rfl
    rw [hs] at ih
    refine bX12_leastOf_8 _ _ _ ⟨fun h => absurd ((nI_eq (by omega) (by omega)).mp h) (h4 j hj), fun _ => ⟨fun h => ⟨_, kX12_shifted (by omega) hN hn hn2 hz, ?_⟩, fun h => ⟨_, kX12_shifted (by omega) hN hn hn2 hz, ?_⟩⟩⟩
    · rintro v2 M2 ⟨rfl, rfl⟩
      have hlt : ¬ zhk n (j + 1) a < zlk n a j := fun q => absurd h (nI_ge q (by omega))
      rw [if_neg hlt] at ih
      exact ih () trivial
    · rintro v2 M2 ⟨rfl, rfl⟩
      have hlt : zhk n (j + 1) a < zlk n a j := by
        rcases Nat.lt_or_ge (zhk n (j + 1) a) (zlk n a j) with q | q
        · exact q
        · exact absurd (nI_le q (by omega)) h
      rw [if_pos hlt] at ih
      exact ih () trivial
theorem kX12_isTurn (hd : 2 ≤ d) {n r p t e : Nat} {u : Int32} (hH : mH M n r p t e) (hw : wH n r p t e) : mX12_isTurn X ad ca d x [.ref 118, .int u] M (q_i (PT x) (fun s M' => M' = M ∧ ((s = 1 ∧ ∃ k, k < n ∧ u = nI k ∧ (zrt n p).isSome = true) ∨ (s = 0 ∧ ¬ ∃ k, k < n ∧ u = nI k ∧ (zrt n p).isSome = true)))) := by
  obtain ⟨d, rfl⟩ := a_d1 (show 1 ≤ d by omega)
  have hn := hw.1
  have hn2 := hw.2.1
  have hpb := zpl_b p hw.2.2.2.1
  have hin : ((0 : Int32) ≤ u ∧ u ≤ M 119 0 - 1) ↔ ∃ k, 0 ≤ k ∧ k ≤ n - 1 ∧ u = nI k := n_btw (a := 0) (b := n - 1) rfl (by rw [hH.1]; exact pk_sub (b := 1) (by omega)) (by omega) (by omega)
  refine eX12_isTurn _ (bX12_isTurn_0 _ ⟨_, kX12_in (by omega) _ _ _, ?_⟩)
  rintro v1 M1 ⟨rfl, rfl⟩
  refine ⟨fun h => bX12_isTurn_28 ⟨_, rfl, rfl, rfl, Or.inr ⟨rfl, ?_⟩⟩, fun h => ⟨_, kX12_rootOf (by omega) hH hw, ?_⟩⟩
  · rintro ⟨k, hk, hq, -⟩
    rw [if_pos (hin.mpr ⟨k, by omega, by omega, hq⟩)] at h
    exact absurd h (by decide)
  obtain ⟨k, -, hk, hq⟩ := hin.mp (Classical.byContradiction fun q => h (if_neg q))
  rintro v2 M2 ⟨rfl, hr⟩
  unfold rRoot at hr
  refine ⟨fun h2 => bX12_isTurn_28 ⟨_, rfl, rfl, rfl, Or.inr ⟨rfl, ?_⟩⟩, fun h2 => ⟨_, rfl, rfl, rfl, Or.inl ⟨rfl, k, by omega, hq, ?_⟩⟩⟩
  · rintro ⟨-, -, -, hs⟩
    cases hz : zrt n p with
    | none => rw [hz] at hs; exact absurd hs (by decide)
    | some q =>
      rw [hz] at hr
      have := zEf_lt _ _ _ hz
      rw [h2] at hr
      have h3 := congrArg Int32.toInt hr
      have h5 : (-1 : Int32).toInt = -1 := by decide
      rw [nI_toInt (by omega), h5] at h3
      omega
  · cases hz : zrt n p with
    | none => rw [hz] at hr; exact absurd hr h2
    | some q => rfl
theorem kX12_laysRounds (hd : 4 ≤ d) {n r p t e m k : Nat} (hH : mH M n r p t e) (hw : wH n r p t e) (hm : m ≤ n) (hk : k < n) :
    mX12_laysRounds X ad ca d x [.ref 118, .int (nI m), .int (nI k)] M (q_v (PT x) (fun M' => mL M' (zrd n m k) ∧ mPc M' n (zrf n m k) ∧ mK M M' ∧ (∀ j, j ≠ 44 → M' 118 j = M 118 j) ∧ ∀ o, o ≠ 118 → o ≠ 143 → o ≠ 144 → M' o = M o)) := by
  obtain ⟨d, rfl⟩ := a_d1 (show 1 ≤ d by omega)
  have hn := hw.1
  have hn2 := hw.2.1
  have h2n := z_p2 hn
  have hlen := zrd_len (n := n) (m := m) (k := k) hn (by omega)
  generalize hfe : zrf n m k = f
  have hrd : zrd n m k = zfl f (2 ^ n) := by unfold zrd; rw [hfe]
  rw [hrd] at hlen ⊢
  refine eX12_laysRounds _ _ (bX12_laysRounds_0 _ _ ?_)
  refine a_loop (σ := a_M) (fun i M' => wX12_laysRounds X ad ca d x _ 7 [(0, .ref 118), (1, .int (nI m)), (2, .int (nI k)), (3, .int (nI i))] M') (fun i M' => mL M' (zfl f i) ∧ (∀ a, a < i → M' 144 a = if f a = true then nI (zfl f a).length else -1) ∧ (∀ j, j ≠ 44 → M' 118 j = M 118 j) ∧ ∀ o, o ≠ 118 → o ≠ 143 → o ≠ 144 → M' o = M o) (2 ^ n) ?_ ?_ 0 _ (Nat.zero_le _) ⟨⟨by rw [ms_is]; rfl, fun k a h => by cases h⟩, fun a ha => absurd ha (Nat.not_lt_zero a), fun j hj => by rw [ms_no _ _ _ _ _ _ (by omega)], fun o h1 _ _ => by rw [ms_row _ _ _ _ _ h1]⟩
  · rintro M' ⟨h1, h2, h3, h4⟩
    refine bX12_laysRounds_7 _ _ _ ⟨_, kX12_states (by omega) (by rw [h4 119 (by decide) (by decide) (by decide)]; exact hH.1) hn, ?_⟩
    rintro v1 M1 ⟨rfl, rfl⟩
    exact ⟨fun _ => ⟨rfl, rfl, h1, h2, ⟨fun o q1 q2 => h4 o q2 (by omega) (by omega), fun j hj => h3 j (by omega)⟩, h3, h4⟩, fun h => absurd (nI_le (Nat.le_refl _) (by omega)) h⟩
  · rintro i M' hi ⟨h1, h2, h3, h4⟩ ih
    have hN' : M' 119 0 = nI n := by rw [h4 119 (by decide) (by decide) (by decide)]; exact hH.1
    obtain ⟨r1, r2, r3, r4, r5, -⟩ := zro_f hn hn2 hi
    have hz := zc_le i
    refine bX12_laysRounds_7 _ _ _ ⟨_, kX12_states (by omega) hN' hn, ?_⟩
    rintro v1 M1 ⟨rfl, rfl⟩
    refine ⟨fun h => absurd h (nI_ge hi (by omega)), fun _ => ⟨n_in (by omega) (by omega), ?_⟩⟩
    rw [n_cl (by omega)]
    have hN1 : ms M1 144 i (-1) 119 0 = nI n := by rw [ms_row _ _ _ _ _ (by decide)]; exact hN'
    have hno : f i = false → wX12_laysRounds X ad ca d x (q_v (PT x) (fun M' => mL M' (zfl f (2 ^ n)) ∧ mPc M' n f ∧ mK M M' ∧ (∀ j, j ≠ 44 → M' 118 j = M 118 j) ∧ ∀ o, o ≠ 118 → o ≠ 143 → o ≠ 144 → M' o = M o)) 86 [(0, .ref 118), (1, .int (nI m)), (2, .int (nI k)), (3, .int (nI i))] (ms M1 144 i (-1)) := by
      intro hf
      refine bX12_laysRounds_86 _ _ _ ?_
      rw [← nI_succ]
      refine ih _ ⟨?_, fun a ha => ?_, fun j hj => by rw [ms_row _ _ _ _ _ (by decide)]; exact h3 j hj, fun o q1 q2 q3 => by rw [ms_row _ _ _ _ _ q3]; exact h4 o q1 q2 q3⟩
      · rw [zfl_s, hf]
        simp only [Bool.false_eq_true, if_false, List.append_nil]
        exact ⟨by rw [ms_row _ _ _ _ _ (by decide)]; exact h1.1, fun k a hk => by rw [ms_row _ _ _ _ _ (by decide)]; exact h1.2 k a hk⟩
      · by_cases e : a = i
        · subst e; rw [ms_is, hf]; rfl
        · rw [ms_no _ _ _ _ _ _ (by omega)]; exact h2 a (by omega)
    refine ⟨_, kX12_count (by omega) (by omega), ?_⟩
    rintro v2 M2 ⟨rfl, rfl⟩
    refine ⟨fun h => hno ?_, fun h => ⟨_, kX12_leastOf (by omega) hN1 hn hn2 hi, ?_⟩⟩
    · rw [← hfe]
      have : zc i ≠ m := fun q => h (by rw [q])
      unfold zrf
      simp [this]
    rintro v3 M3 ⟨rfl, rfl⟩
    refine ⟨fun h5 => hno ?_, fun h5 => ⟨_, kX12_roundOf (by omega) hN1 hn hn2 hi, ?_⟩⟩
    · rw [← hfe]
      have : zle n i ≠ i := fun q => h5 (by rw [q])
      unfold zrf
      simp [this]
    rintro v4 M4 ⟨rfl, rfl⟩
    have hkr : k * zro n i ≤ 7 * 7 := Nat.mul_le_mul (by omega) (by omega)
    have hkm : k * zro n i % n < n := Nat.mod_lt _ (by omega)
    rw [hN1, n_mul, n_rem (by omega) (by omega) (by omega)]
    refine ⟨nI_ne0 (by omega) (by omega), fun h6 => hno ?_, fun h6 => ?_⟩
    · rw [← hfe]
      have : k * zro n i % n ≠ 0 := fun q => h6 (by rw [q]; rfl)
      unfold zrf
      simp [this]
    · have hf : f i = true := by
        rw [← hfe]
        unfold zrf
        have q1 : zc i = m := (nI_eq (by omega) (by omega)).mp h
        have q2 : zle n i = i := (nI_eq (by omega) (by omega)).mp h5
        have q3 : k * zro n i % n = 0 := (nI_eq (b := 0) (by omega) (by omega)).mp h6
        simp [q1, q2, q3]
      have hl1 : (zfl f i).length < 35 := by
        have h4 := zfl_len f i
        rw [hf] at h4
        have h5 := zfl_mono f (show i + 1 ≤ 2 ^ n by omega)
        simp only [if_true] at h4
        omega
      have e44 : ms M1 144 i (-1) 118 44 = nI (zfl f i).length := by rw [ms_row _ _ _ _ _ (by decide)]; exact h1.1
      rw [e44]
      refine ⟨n_in (by omega) (by omega), n_in (by omega) (by omega), bX12_laysRounds_86 _ _ _ ?_⟩
      rw [n_cl (by omega), ← nI_succ, ← nI_succ]
      refine ih _ ⟨⟨by rw [ms_is, zfl_len, hf]; rfl, fun k a hk => ?_⟩, fun a ha => ?_, fun j hj => by rw [ms_no _ _ _ _ _ _ (by omega), ms_row _ _ _ _ _ (by decide), ms_row _ _ _ _ _ (by decide), ms_row _ _ _ _ _ (by decide)]; exact h3 j hj, fun o q1 q2 q3 => by rw [ms_row _ _ _ _ _ q1, ms_row _ _ _ _ _ q3, ms_row _ _ _ _ _ q2, ms_row _ _ _ _ _ q3]; exact h4 o q1 q2 q3⟩
      · rw [ms_row _ _ _ _ _ (by decide), ms_row _ _ _ _ _ (by decide)]
        rw [zfl_s, if_pos hf] at hk
        by_cases hk2 : k < (zfl f i).length
        · rw [List.getElem?_append_left hk2] at hk
          rw [ms_no _ _ _ _ _ _ (by omega), ms_row _ _ _ _ _ (by decide)]
          exact h1.2 k a hk
        · rw [List.getElem?_append_right (by omega)] at hk
          have hk3 : k - (zfl f i).length = 0 := by
            have := (List.getElem?_eq_some_iff.mp hk).1
            simp at this
            omega
          rw [hk3] at hk
          cases hk
          rw [show k = (zfl f i).length by omega, ms_is]
      · rw [ms_row _ _ _ _ _ (by decide)]
        by_cases e : a = i
        · subst e; rw [ms_is, hf]; rfl
        · rw [ms_no _ _ _ _ _ _ (by omega), ms_row _ _ _ _ _ (by decide), ms_no _ _ _ _ _ _ (by omega)]; exact h2 a (by omega)
/-- the square of a turn, as the reference lays it -/
def zTt (p n b e g : Nat) (L : List Nat) (i k y : Nat) : Nat := if zle n y = L.getD i 0 then zS p n b e (zu (L.getD k 0)) y * (g ^ zfa n y % p) * zv p (zro n (L.getD k 0) % p) (zro n (L.getD i 0) % p) else 0
def zTA (p n b e g : Nat) (L : List Nat) (i k : Nat) : Nat := zs (zTt p n b e g L i k) (2 ^ n) % p
theorem n_l64b {a f b c : Nat} (ha : a < 2 ^ 14) (hf : f < 2 ^ 14) (hb : b < 2 ^ 14) (hc : c < 2 ^ 14) : ((nI a).toInt64 + (nI f).toInt64 * (nI b).toInt64 * (nI c).toInt64).toInt = ((a + f * b * c : Nat) : Int) := by
  have h1 : f * b ≤ 2 ^ 14 * 2 ^ 14 := Nat.mul_le_mul (by omega) (by omega)
  have h2 : f * b * c ≤ 2 ^ 14 * 2 ^ 14 * 2 ^ 14 := Nat.mul_le_mul h1 (by omega)
  rw [nI_l (by omega), nI_l (by omega), nI_l (by omega), nI_l (by omega), lN_mul, lN_mul, lN_add, pk_lT (by omega)]
theorem kX12_laysTurn (hd : 5 ≤ d) {n r p t e m k ω : Nat} (hH : mH M n r p t e) (hw : wH n r p t e) (hm : m ≤ n) (hk : k < n) (hω : zrt n p = some ω) :
    mX12_laysTurn X ad ca d x [.ref 118, .int (nI m), .int (nI k)] M (q_v (PT x) (fun M' => mQ M' (zrd n m k).length p (zTA p n (zbd n r) e (ω ^ k % p) (zrd n m k)) ∧ mK M M')) := by
  obtain ⟨d, rfl⟩ := a_d1 (show 1 ≤ d by omega)
  have hn := hw.1
  have hn2 := hw.2.1
  have h2n := z_p2 hn
  have hpb := zpl_b p hw.2.2.2.1
  have hp0 : 0 < p := by omega
  have hωp := zEf_lt _ _ _ hω
  generalize hPost : q_v (PT x) (fun M' => mQ M' (zrd n m k).length p (zTA p n (zbd n r) e (ω ^ k % p) (zrd n m k)) ∧ mK M M') = Post
  have hgp : ω ^ k % p < p := Nat.mod_lt _ hp0
  generalize hg : ω ^ k % p = g at hgp hPost
  have hlen := zrd_len (n := n) (m := m) (k := k) hn (by omega)
  refine eX12_laysTurn _ _ (bX12_laysTurn_0 _ _ ⟨_, kX12_laysRounds (by omega) hH hw hm hk, ?_⟩)
  rintro M1 ⟨hL, hPc, hK1, h118, hfr⟩
  have hH1 := hH.K hK1
  refine ⟨_, kX12_rootOf (by omega) hH1 hw, ?_⟩
  rintro v2 M2 ⟨rfl, hr⟩
  unfold rRoot at hr
  rw [hω] at hr
  subst hr
  refine ⟨_, kX12_raised (by omega) hH1.2.2.1 (by omega) (by omega) hωp (by omega), ?_⟩
  rintro v3 M3 ⟨rfl, rfl⟩
  rw [hg]
  have hmem : ∀ j, j < (zrd n m k).length → M3 143 j = nI ((zrd n m k).getD j 0) ∧ (zrd n m k).getD j 0 < 2 ^ n ∧ zrf n m k ((zrd n m k).getD j 0) = true ∧ (zfl (zrf n m k) ((zrd n m k).getD j 0)).length = j := by
    intro j hj
    have hq : (zrd n m k)[j]? = some (zrd n m k)[j] := List.getElem?_eq_getElem hj
    have hg : (zrd n m k).getD j 0 = (zrd n m k)[j] := by rw [List.getD_eq_getElem?_getD, hq]; rfl
    rw [hg]
    have := zfl_mem hq
    exact ⟨hL.2 j _ hq, this.1, this.2.1, this.2.2⟩
  have hat : ∀ a, a < 2 ^ n → zrf n m k a = true → (zfl (zrf n m k) a).length < (zrd n m k).length ∧ (zrd n m k).getD (zfl (zrf n m k) a).length 0 = a := by
    intro a ha hf
    have hq : (zrd n m k)[(zfl (zrf n m k) a).length]? = some a := zfl_at ha hf
    exact ⟨(List.getElem?_eq_some_iff.mp hq).1, by rw [List.getD_eq_getElem?_getD, hq]; rfl⟩
  generalize hLe : zrd n m k = L at *
  generalize hfe : zrf n m k = f at *
  -- the square is cleared
  have key := a_loop (σ := Unit) (fun i _ => wX12_laysTurn X ad ca d x Post 19 [(0, .ref 118), (3, .int (nI g)), (4, .int (nI i))] (mf M3 145 0 (fun _ => 0) i)) (fun _ _ => True) 1225 ?_ ?_ 0 () (Nat.zero_le _) trivial
  · rw [mf_0] at key; exact key
  rotate_left
  · intro i _ hi _ ih
    refine bX12_laysTurn_19 _ _ ⟨fun h => absurd h (nI_ge (b := 1225) hi (by omega)), fun _ => ⟨n_in hi (by omega), ?_⟩⟩
    rw [n_cl (by omega), mf_s (Nat.zero_le _) rfl, ← nI_succ]
    exact ih () trivial
  intro _ _
  refine bX12_laysTurn_19 _ _ ⟨fun _ => ?_, fun h => absurd (nI_le (Nat.le_refl 1225) (by omega)) h⟩
  let T : Nat → Nat → Nat → Nat := zTt p n (zbd n r) e g L
  refine a_loop (σ := a_M) (fun j M' => wX12_laysTurn X ad ca d x Post 44 [(0, .ref 118), (3, .int (nI g)), (4, .int (nI j))] M') (fun j M' => (∀ a b, a < L.length → b < L.length → M' 145 (35 * a + b) = nI (if b < j then zTA p n (zbd n r) e g L a b else 0)) ∧ ∀ o, o ≠ 140 → o ≠ 141 → o ≠ 145 → M' o = M3 o) L.length ?_ ?_ 0 _ (Nat.zero_le _) ⟨fun a b ha hb => by rw [mf_in _ _ _ _ _ _ (Nat.zero_le _) (by omega), if_neg (by omega)]; rfl, fun o _ _ q => mf_no _ _ _ _ _ _ q⟩
  · rintro M4 ⟨q1, q2⟩
    refine bX12_laysTurn_44 _ _ ?_
    rw [q2 118 (by decide) (by decide) (by decide), hL.1]
    refine ⟨fun _ => ?_, fun h => absurd (nI_le (Nat.le_refl _) (by omega)) h⟩
    rw [← hPost]
    refine ⟨rfl, rfl, ⟨by rw [q2 118 (by decide) (by decide) (by decide)]; exact hL.1, fun a b ha hb => ⟨by rw [q1 a b ha hb, if_pos hb], Nat.mod_lt _ hp0⟩⟩, hK1.trans ⟨fun o p1 p2 => q2 o (by omega) (by omega) (by omega), fun j _ => by rw [q2 118 (by decide) (by decide) (by decide)]⟩⟩
  · rintro j M4 hj ⟨q1, q2⟩ ih
    have hmj := hmem j hj
    have hK4 : mK M M4 := hK1.trans ⟨fun o p1 p2 => q2 o (by omega) (by omega) (by omega), fun j _ => by rw [q2 118 (by decide) (by decide) (by decide)]⟩
    refine bX12_laysTurn_44 _ _ ?_
    rw [q2 118 (by decide) (by decide) (by decide), hL.1, n_cl (by omega), q2 143 (by decide) (by decide) (by decide), hmj.1]
    refine ⟨fun h => absurd h (nI_ge hj (by omega)), fun _ => ⟨n_in (by omega) (by omega), _, kX12_unit2 (by omega) hmj.2.1 hn (show 1 < p by omega), ?_⟩⟩
    rintro M5 ⟨a1, a2⟩
    have hK5 : mK M4 M5 := ⟨fun o p1 p2 => a2 o (by omega), fun j _ => by rw [a2 118 (by decide)]⟩
    refine ⟨_, kX12_sums (by omega) (hH.K (hK4.trans hK5)) hw a1, ?_⟩
    rintro M6 ⟨b1, b2⟩
    have hfr6 : ∀ o, o ≠ 140 → o ≠ 141 → M6 o = M4 o := fun o h1 h2 => (b2 o h1 h2).trans (a2 o h1)
    generalize hbj : L.getD j 0 = lj at *
    -- the states
    refine a_loop (σ := a_M) (fun y M' => wX12_laysTurn X ad ca d x Post 71 [(0, .ref 118), (3, .int (nI g)), (4, .int (nI j)), (5, .int (nI y))] M') (fun y M' => (∀ a b, a < L.length → b < L.length → M' 145 (35 * a + b) = nI (if b < j then zTA p n (zbd n r) e g L a b else if b = j then zs (T a j) y % p else 0)) ∧ ∀ o, o ≠ 145 → M' o = M6 o) (2 ^ n) ?_ ?_ 0 M6 (Nat.zero_le _) ⟨fun a b ha hb => ?_, fun _ _ => rfl⟩
    rotate_left 2
    · rw [hfr6 145 (by decide) (by decide), q1 a b ha hb]
      congr 1
      by_cases e1 : b < j
      · rw [if_pos e1, if_pos e1]
      · rw [if_neg e1, if_neg e1]
        split
        · show 0 = 0 % p
          rw [Nat.zero_mod]
        · rfl
    · rintro M7 ⟨r1, r2⟩
      refine bX12_laysTurn_71 _ _ _ ⟨_, kX12_states (by omega) (by rw [r2 119 (by decide), hfr6 119 (by decide) (by decide)]; exact (hH.K hK4).1) hn, ?_⟩
      rintro v8 M8 ⟨rfl, rfl⟩
      refine ⟨fun _ => ?_, fun h => absurd (nI_le (Nat.le_refl _) (by omega)) h⟩
      rw [← nI_succ]
      refine ih M8 ⟨fun a b ha hb => ?_, fun o h1 h2 h3 => by rw [r2 o h3, hfr6 o h1 h2]; exact q2 o h1 h2 h3⟩
      rw [r1 a b ha hb]
      congr 1
      by_cases e1 : b < j
      · rw [if_pos e1, if_pos (by omega)]
      · rw [if_neg e1]
        by_cases e2 : b = j
        · subst e2; rw [if_pos rfl, if_pos (by omega)]; rfl
        · rw [if_neg e2, if_neg (by omega)]
    · rintro y M7 hy ⟨r1, r2⟩ ih2
      obtain ⟨z1, z2, z3, z4, z5, z6, z7, z8, z9, z10, z11⟩ := zro_f hn hn2 hy
      have hfr7 : ∀ o, o ≠ 140 → o ≠ 141 → o ≠ 145 → M7 o = M3 o := fun o h1 h2 h3 => by rw [r2 o h3, hfr6 o h1 h2]; exact q2 o h1 h2 h3
      have hH7 : mH M7 n r p t e := by
        refine hH.same ?_
        rw [hfr7 119 (by decide) (by decide) (by decide)]
        exact hfr 119 (by decide) (by decide) (by decide)
      have h140 : M7 140 y = nI (zS p n (zbd n r) e (zu lj) y) := by rw [r2 140 (by decide)]; exact b1 y (by omega)
      have hSlt : zS p n (zbd n r) e (zu lj) y < p := zS_lt hp0
      -- nothing comes
      have hno : (∀ a, a < L.length → T a j y = 0) → wX12_laysTurn X ad ca d x Post 230 [(0, .ref 118), (3, .int (nI g)), (4, .int (nI j)), (5, .int (nI y))] M7 := by
        intro hz
        refine bX12_laysTurn_230 _ _ _ ?_
        rw [← nI_succ]
        refine ih2 M7 ⟨fun a b ha hb => ?_, r2⟩
        rw [r1 a b ha hb]
        have : zs (T a j) (y + 1) = zs (T a j) y := by
          show zs (T a j) y + T a j y = _
          rw [hz a ha, Nat.add_zero]
        rw [this]
      refine bX12_laysTurn_71 _ _ _ ⟨_, kX12_states (by omega) hH7.1 hn, ?_⟩
      rintro v8 M8 ⟨rfl, rfl⟩
      refine ⟨fun h => absurd h (nI_ge hy (by omega)), fun _ => ⟨_, kX12_leastOf (by omega) hH7.1 hn hn2 hy, ?_⟩⟩
      rintro v9 M9 ⟨rfl, rfl⟩
      have hplace : M9 144 (zle n y) = if f (zle n y) = true then nI (zfl f (zle n y)).length else -1 := by
        rw [hfr7 144 (by decide) (by decide) (by decide)]
        exact hPc _ z5
      rw [n_cl (by omega), n_cl (by omega), h140, hplace]
      refine ⟨n_in (by omega) (by omega), fun h0 => hno (fun a ha => ?_), fun h0 => ⟨n_in (by omega) (by omega), fun h1 => hno (fun a ha => ?_), fun h1 => ?_⟩⟩
      · have : zS p n (zbd n r) e (zu lj) y = 0 := (nI_eq (b := 0) (by omega) (by omega)).mp h0
        simp only [T]
        unfold zTt
        rw [hbj, this]
        simp
      · simp only [T]
        unfold zTt
        rw [if_neg]
        intro q
        rw [q, if_pos (hmem a ha).2.2.1, (hmem a ha).2.2.2] at h1
        have h3 := congrArg Int32.toInt h1
        have h5 : (-1 : Int32).toInt = -1 := by decide
        rw [nI_toInt (by omega), h5] at h3
        omega
      have hf : f (zle n y) = true := by
        cases hq : f (zle n y) with
        | true => rfl
        | false => rw [hq, if_neg (by decide)] at h1; exact absurd rfl h1
      obtain ⟨c1, c2⟩ := hat (zle n y) z5 hf
      rw [if_pos hf] at hplace
      generalize (zfl f (zle n y)).length = i0 at c1 c2 hplace
      refine a_loop (σ := Unit) (fun s _ => wX12_laysTurn X ad ca d x Post 116 [(0, .ref 118), (3, .int (nI g)), (4, .int (nI j)), (5, .int (nI y)), (6, .int (nI (zle n y))), (7, .int (nI s)), (8, .int (nI (zhk n s (zle n y))))] M9) (fun _ _ => True) (zfa n y) ?_ ?_ 0 () (Nat.zero_le _) trivial
      · intro _ _
        rw [z7]
        have hmj1 : M9 143 j = nI lj := by rw [hfr7 143 (by decide) (by decide) (by decide)]; exact hmj.1
        obtain ⟨y1, y2, -⟩ := zro_f hn hn2 hmj.2.1
        obtain ⟨x1, x2, -⟩ := zro_f hn hn2 z5
        refine bX12_laysTurn_116 _ _ _ _ _ _ ⟨fun _ => ?_, fun h => absurd rfl h⟩
        rw [n_cl (by omega), hmj1]
        refine ⟨n_in (by omega) (by omega), _, kX12_roundOf (by omega) hH7.1 hn hn2 hmj.2.1, ?_⟩
        rintro v10 M10 ⟨rfl, rfl⟩
        rw [hH7.2.2.1]
        refine ⟨nI_ne0 hp0 (by omega), _, kX12_roundOf (by omega) hH7.1 hn hn2 z5, ?_⟩
        rintro v11 M11 ⟨rfl, rfl⟩
        rw [hH7.2.2.1, n_rem (by omega) hp0 (by omega), n_rem (by omega) hp0 (by omega)]
        refine ⟨nI_ne0 hp0 (by omega), _, kX12_over (by omega) hH7.2.2.1 hw.2.2.2.1 (Nat.mod_lt _ hp0) (Nat.mod_lt _ hp0), ?_⟩
        rintro v12 M12 ⟨rfl, rfl⟩
        have eix : 35 * nI i0 + nI j = nI (35 * i0 + j) := by rw [fa_lit 35, n_mul, nI_add]
        rw [n_cl (by omega), hplace, eix, n_cl (by omega), n_cl (by omega), h140]
        refine ⟨n_in (by omega) (by omega), n_in (by omega) (by omega), n_in (by omega) (by omega), _, kX12_raised (by omega) hH7.2.2.1 (by omega) (by omega) hgp (by omega), ?_⟩
        rintro v13 M13 ⟨rfl, rfl⟩
        refine ⟨_, kX12_left (by omega) _ hH7.2.2.1 hp0 (by omega), ?_⟩
        rintro v14 M14 ⟨rfl, rfl⟩
        refine ⟨n_in (by omega) (by omega), bX12_laysTurn_230 _ _ _ ?_⟩
        have hcell := r1 i0 j c1 hj
        rw [if_neg (Nat.lt_irrefl j), if_pos rfl] at hcell
        have w1 : zs (T i0 j) y % p < p := Nat.mod_lt _ hp0
        have w2 : g ^ zfa n y % p < p := Nat.mod_lt _ hp0
        have w3 : zv p (zro n lj % p) (zro n (zle n y) % p) < p := zv_lt hp0
        rw [hcell, n_l64b (by omega) (by omega) (by omega) (by omega), zm_nat, ← nI_succ]
        refine ih2 _ ⟨fun a b ha hb => ?_, fun o ho => by rw [ms_row _ _ _ _ _ ho]; exact r2 o ho⟩
        have hsum : ∀ a, zs (T a j) (y + 1) = zs (T a j) y + T a j y := fun _ => rfl
        by_cases eab : a = i0 ∧ b = j
        · obtain ⟨rfl, rfl⟩ := eab
          rw [ms_is, if_neg (Nat.lt_irrefl _), if_pos rfl, hsum, Nat.mod_add_mod]
          congr 3
          simp only [T]
          unfold zTt
          rw [c2, if_pos rfl, hbj]
        · rw [ms_no _ _ _ _ _ _ (by omega), r1 a b ha hb]
          congr 1
          by_cases e1 : b < j
          · rw [if_pos e1, if_pos e1]
          · rw [if_neg e1, if_neg e1]
            by_cases e2 : b = j
            · rw [if_pos e2, if_pos e2, hsum]
              have : T a j y = 0 := by
                simp only [T]
                unfold zTt
                rw [if_neg]
                intro q
                have h3 := (hmem a ha).2.2.2
                have h4 := (hmem i0 c1).2.2.2
                rw [← q] at h3
                rw [c2] at h4
                omega
              rw [this, Nat.add_zero]
            · rw [if_neg e2, if_neg e2]
      · intro s _ hs _ ih3
        have hz := zhk_lt hn hn2 s _ z5
        refine bX12_laysTurn_116 _ _ _ _ _ _ ⟨fun h => absurd ((nI_eq (by omega) (by omega)).mp h) (z8 s hs), fun _ => ⟨_, kX12_shifted (by omega) hH7.1 hn hn2 hz, ?_⟩⟩
        rintro v10 M10 ⟨rfl, rfl⟩
        rw [← nI_succ]
        exact ih3 () trivial
end Z25
