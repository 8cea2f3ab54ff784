/-! CONTRACTS 27: pair on the reference's side -/
def zask (p m a : Nat) : Nat → Nat := fun i => if m = 0 then (if i = 0 then 1 else 0) else if m = 1 then (if i = 0 then a else if i = 1 then 1 else 0) else (if i = 0 then a % p else if i = 1 then a / p else 1)
def zall (p m : Nat) : Nat := if m = 0 then 1 else if m = 1 then p else p * p
def zpr (p n t m : Nat) (a : Nat) : Bool := zip p n t m (zask p m a)
/-- all pairs, in their order -/
def zps (p n t m : Nat) : List Nat := zfl (zpr p n t m) (zall p m)
def zen (p n t m a : Nat) : Nat := zv p (t * zqu p n t m (zask p m a) (1 + m) % p) (zqu p n t m (zask p m a) (0 + m))
/-- what is told of the pair a -/
def zpj (p n t m a : Nat) (j s : Int32) : Prop :=
  (∃ z, z ≤ m ∧ j = nI z ∧ s = nI (zask p m a z)) ∨ (∃ z, z ≤ n ∧ j = nI (10 + z) ∧ s = nI (zqu p n t m (zask p m a) (z + m))) ∨
  ((¬ ∃ z, z ≤ m ∧ j = nI z) ∧ (¬ ∃ z, z ≤ n ∧ j = nI (10 + z)) ∧
    ((zqu p n t m (zask p m a) (0 + m) = 0 ∧ s = if j = 32 then 0 else -1) ∨
     (zqu p n t m (zask p m a) (0 + m) ≠ 0 ∧ s = if j = 30 then nI (zen p n t m a) else if j = 31 then nI (zv p (zqu p n t m (zask p m a) (0 + m)) (t ^ n % p)) else if j = 32 then (if 0 < zof p (zen p n t m a) (zsec n m).length (zPs p n (zbd n 1) 1 m) then 1 else 0) else -1)))
def rPair (p n t : Nat) (u w j s : Int32) : Prop :=
  (∃ m, m ≤ 2 ∧ u = nI m ∧ -1 ≤ w ∧ ((w = -1 ∧ s = nI (zps p n t m).length) ∨ ∃ i, i < 2 ^ 31 ∧ w = nI i ∧ ((∃ a, (zps p n t m)[i]? = some a ∧ zpj p n t m a j s) ∨ ((zps p n t m)[i]? = none ∧ s = -1)))) ∨
  ((¬ ∃ m, m ≤ 2 ∧ u = nI m ∧ -1 ≤ w) ∧ s = -1)
theorem zall_le {p m : Nat} (hp : p ≤ 97) : zall p m ≤ 9409 := by
  have : p * p ≤ 97 * 97 := Nat.mul_le_mul hp hp
  unfold zall
  split
  · omega
  split <;> omega
theorem zfl_llen (f : Nat → Bool) : ∀ i, (zfl f i).length ≤ i
  | 0 => Nat.le_refl _
  | i + 1 => by
    have := zfl_llen f i
    rw [zfl_len]; split <;> omega
section Z28
variable {X : a_X} {ad : Nat → Nat} {ca : Nat → ClassId} {d x : Nat} {M : a_M}
theorem kX12_laysPair (hd : 3 ≤ d) {n r p t e m : Nat} {w : Int32} (hH : mH M n r p t e) (hw : wH n r p t e) (hm : m ≤ 2) (hw1 : -1 ≤ w) :
    mX12_laysPair X ad ca d x [.ref 118, .int (nI m), .int w] M (q_i (PT x) (fun s M' => mK M M' ∧ ((s = 1 ∧ ∃ i a, i < 2 ^ 31 ∧ w = nI i ∧ (zps p n t m)[i]? = some a ∧ (∀ z, z < 3 → M' 148 z = nI (zask p m a z)) ∧ ∀ k, k ≤ n → M' 150 k = nI (zqu p n t m (zask p m a) (k + m))) ∨ (s = 0 ∧ M' 118 55 = nI (zps p n t m).length ∧ ∀ i, i < 2 ^ 31 → w = nI i → (zps p n t m).length ≤ i)))) := by
  obtain ⟨d, rfl⟩ := a_d1 (show 1 ≤ d by omega)
  have hpb := zpl_b p hw.2.2.2.1
  have hp0 : 0 < p := by omega
  have hal := zall_le (m := m) hpb.2
  generalize hPost : q_i (PT x) (fun s M' => mK M M' ∧ ((s = 1 ∧ ∃ i a, i < 2 ^ 31 ∧ w = nI i ∧ (zps p n t m)[i]? = some a ∧ (∀ z, z < 3 → M' 148 z = nI (zask p m a z)) ∧ ∀ k, k ≤ n → M' 150 k = nI (zqu p n t m (zask p m a) (k + m))) ∨ (s = 0 ∧ M' 118 55 = nI (zps p n t m).length ∧ ∀ i, i < 2 ^ 31 → w = nI i → (zps p n t m).length ≤ i))) = Post
  have hlp : zps p n t m = zfl (zpr p n t m) (zall p m) := rfl
  let f : Nat → Bool := zpr p n t m
  have h44 : wX12_laysPair X ad ca d x Post 44 [(0, .ref 118), (1, .int (nI m)), (2, .int w), (3, .int (nI (zall p m))), (4, .int 0)] (ms M 118 55 0) := by
    refine a_loop (σ := a_M) (fun a M' => wX12_laysPair X ad ca d x Post 44 [(0, .ref 118), (1, .int (nI m)), (2, .int w), (3, .int (nI (zall p m))), (4, .int (nI a))] M') (fun a M' => mK M M' ∧ M' 118 55 = nI (zfl f a).length ∧ ∀ i, i < 2 ^ 31 → w = nI i → (zfl f a).length ≤ i) (zall p m) ?_ ?_ 0 _ (Nat.zero_le _) ⟨(mK.rfl _).u0 (by omega), by rw [ms_is]; rfl, fun i _ _ => Nat.zero_le i⟩
    · rintro M1 ⟨h1, h2, h3⟩
      refine bX12_laysPair_44 _ _ _ _ ⟨fun _ => ?_, fun h => absurd (nI_le (Nat.le_refl _) (by omega)) h⟩
      rw [← hPost]
      exact ⟨_, rfl, rfl, h1, Or.inr ⟨rfl, h2, h3⟩⟩
    · rintro a M1 ha ⟨h1, h2, h3⟩ ih
      have hfl := zfl_llen f a
      -- the question, however the three numbers were put
      have main : ∀ (M2 : a_M), (∀ z, z < 3 → M2 148 z = nI (zask p m a z) ∧ zask p m a z < p) → zask p m a m = 1 → (∀ o, o ≠ 148 → M2 o = M1 o) → ∃ Q1 : Int32 → a_M → Prop, mX12_isPair X ad ca d x [.ref 118, .int (nI m)] M2 (q_i (PT x) Q1) ∧ ∀ v1 M3, Q1 v1 M3 → ((v1 = 0 → wX12_laysPair X ad ca d x Post 161 [(0, .ref 118), (1, .int (nI m)), (2, .int w), (3, .int (nI (zall p m))), (4, .int (nI a))] M3) ∧ (¬ v1 = 0 → ((¬ (M3 118 55) = w → wX12_laysPair X ad ca d x Post 161 [(0, .ref 118), (1, .int (nI m)), (2, .int w), (3, .int (nI (zall p m))), (4, .int (nI a))] (ms M3 118 55 ((M3 118 55) + 1))) ∧ ((M3 118 55) = w → Post (some (.int 1)) M3 (PT x))))) := by
        intro M2 g1 g2 g3
        have hK2 : mK M M2 := h1.trans ⟨fun o q1 q2 => g3 o (by omega), fun j _ => by rw [g3 118 (by decide)]⟩
        refine ⟨_, kX12_isPair (by omega) (hH.K hK2) hw hm g1 g2, ?_⟩
        rintro v1 M3 ⟨rfl, k1, k2⟩
        have hK3 : mK M M3 := hK2.trans ⟨fun o q1 q2 => k2 o (by omega), fun j _ => by rw [k2 118 (by decide)]⟩
        have h55 : M3 118 55 = nI (zfl f a).length := by rw [k2 118 (by decide), g3 118 (by decide)]; exact h2
        have hfa : zip p n t m (zask p m a) = f a := rfl
        rw [hfa]
        refine ⟨fun h0 => bX12_laysPair_161 _ _ _ _ ?_, fun h0 => ⟨fun hne => bX12_laysPair_161 _ _ _ _ ?_, fun heq => ?_⟩⟩
        · have hf : f a = false := by
            cases hq : f a with
            | false => rfl
            | true => rw [hq, if_pos rfl] at h0; exact absurd h0 (by decide)
          rw [← nI_succ]
          refine ih M3 ⟨hK3, by rw [h55, zfl_len, hf]; rfl, fun i hi hq => by rw [zfl_len, hf]; exact h3 i hi hq⟩
        · have hf : f a = true := by
            cases hq : f a with
            | true => rfl
            | false => rw [hq, if_neg (by decide)] at h0; exact absurd rfl h0
          rw [← nI_succ, h55, ← nI_succ]
          refine ih _ ⟨hK3.u0 (by omega), by rw [ms_is, zfl_len, hf]; rfl, fun i hi hq => ?_⟩
          rw [zfl_len, hf]
          have h4 := h3 i hi hq
          have h5 : (zfl f a).length ≠ i := fun q => hne (by rw [h55, hq, q])
          simp only [if_true]
          omega
        · have hf : f a = true := by
            cases hq : f a with
            | true => rfl
            | false => rw [hq, if_neg (by decide)] at h0; exact absurd rfl h0
          rw [← hPost]
          refine ⟨_, rfl, rfl, hK3, Or.inl ⟨rfl, (zfl f a).length, a, by omega, by rw [← heq]; exact h55, zfl_at ha hf, fun z hz => by rw [k2 148 (by decide)]; exact (g1 z hz).1, k1⟩⟩
      have hP1 : M1 119 2 = nI p := (hH.K h1).2.2.1
      refine bX12_laysPair_44 _ _ _ _ ⟨fun h => absurd h (nI_ge ha (by omega)), fun _ => ?_⟩
      rcases (show m = 0 ∨ m = 1 ∨ m = 2 by omega) with rfl | rfl | rfl
      · refine ⟨fun _ => ⟨fun _ => ⟨fun _ => ⟨fun _ => ⟨fun _ => main _ (fun z hz => ?_) rfl (fun o ho => by rw [ms_row _ _ _ _ _ ho, ms_row _ _ _ _ _ ho, ms_row _ _ _ _ _ ho]), fun h => absurd h (by decide)⟩, fun h => absurd h (by decide)⟩, fun h => absurd h (by decide)⟩, fun h => absurd h (by decide)⟩, fun h => absurd h (by decide)⟩
        rcases (show z = 0 ∨ z = 1 ∨ z = 2 by omega) with rfl | rfl | rfl
        · rw [ms_no _ _ _ _ _ _ (by decide), ms_no _ _ _ _ _ _ (by decide), ms_is]; exact ⟨rfl, by show 1 < p; omega⟩
        · rw [ms_no _ _ _ _ _ _ (by decide), ms_is]; exact ⟨rfl, hp0⟩
        · rw [ms_is]; exact ⟨rfl, hp0⟩
      · have ha1 : a < p := ha
        refine ⟨fun h => absurd rfl h, fun _ => ⟨fun _ => ⟨fun h => absurd rfl h, fun _ => ⟨fun _ => main _ (fun z hz => ?_) rfl (fun o ho => by rw [ms_row _ _ _ _ _ ho, ms_row _ _ _ _ _ ho, ms_row _ _ _ _ _ ho]), fun h => absurd h (by decide)⟩⟩, fun h => absurd h (by decide)⟩⟩
        rcases (show z = 0 ∨ z = 1 ∨ z = 2 by omega) with rfl | rfl | rfl
        · rw [ms_no _ _ _ _ _ _ (by decide), ms_no _ _ _ _ _ _ (by decide), ms_is]; exact ⟨rfl, ha1⟩
        · rw [ms_no _ _ _ _ _ _ (by decide), ms_is]; exact ⟨rfl, by show 1 < p; omega⟩
        · rw [ms_is]; exact ⟨rfl, hp0⟩
      · have ha1 : a < p * p := ha
        have hz : ¬ M1 119 2 = 0 := by rw [hP1]; exact nI_ne0 hp0 (by omega)
        refine ⟨fun _ => ⟨fun h => absurd rfl h, fun _ => ⟨hz, fun h => absurd rfl h, fun _ => ⟨hz, fun h => absurd rfl h, fun _ => main _ (fun z hz => ?_) rfl (fun o ho => by rw [ms_row _ _ _ _ _ ho, ms_row _ _ _ _ _ ho, ms_row _ _ _ _ _ ho])⟩⟩⟩, fun h => absurd h (by decide)⟩
        rcases (show z = 0 ∨ z = 1 ∨ z = 2 by omega) with rfl | rfl | rfl
        · rw [ms_no _ _ _ _ _ _ (by decide), ms_no _ _ _ _ _ _ (by decide), ms_is, hP1, n_rem (by omega) hp0 (by omega)]; exact ⟨rfl, Nat.mod_lt _ hp0⟩
        · rw [ms_no _ _ _ _ _ _ (by decide), ms_is, hP1, pk_div (by omega) hp0 (by omega)]; exact ⟨rfl, Nat.div_lt_of_lt_mul ha1⟩
        · rw [ms_is]; exact ⟨rfl, by show 1 < p; omega⟩
  refine eX12_laysPair _ _ (bX12_laysPair_0 _ _ ⟨fun h0 => ⟨fun h1 => ?_, fun h1 => ?_⟩, fun h0 => ?_⟩)
  · have hm2 : m = 2 := by
      rcases (show m = 0 ∨ m = 1 ∨ m = 2 by omega) with q | q | q
      · exact absurd (by rw [q]; rfl) h0
      · exact absurd (by rw [q]; rfl) h1
      · exact q
    subst hm2
    rw [hH.2.2.1, n_mul]
    exact h44
  · have hm1 : m = 1 := (nI_eq (b := 1) (by omega) (by omega)).mp h1
    subst hm1
    rw [hH.2.2.1]
    exact h44
  · have hm0 : m = 0 := (nI_eq (b := 0) (by omega) (by omega)).mp h0
    subst hm0
    exact h44
theorem kX12_pair (hd : 5 ≤ d) {n r p t e : Nat} (hH : mH M n r p t e) (hw : wH n r p t e) (u w j : Int32) : mX12_pair X ad ca d x [.ref 118, .int u, .int w, .int j] M (q_i (PT x) (fun s M' => mK M M' ∧ rPair p n t u w j s)) := by
  obtain ⟨d, rfl⟩ := a_d1 (show 1 ≤ d by omega)
  have hn := hw.1
  have hn2 := hw.2.1
  have hpb := zpl_b p hw.2.2.2.1
  have hp0 : 0 < p := by omega
  have htp := hw.2.2.2.2.2.1
  have hin : ((0 : Int32) ≤ u ∧ u ≤ 2) ↔ ∃ k, 0 ≤ k ∧ k ≤ 2 ∧ u = nI k := n_btw (a := 0) (b := 2) rfl rfl (by omega) (by omega)
  refine eX12_pair _ _ _ (bX12_pair_0 _ _ _ ⟨_, kX12_in (by omega) _ _ _, ?_⟩)
  rintro v1 M1 ⟨rfl, rfl⟩
  refine ⟨fun h => bX12_pair_14 ⟨_, rfl, rfl, mK.rfl _, Or.inr ⟨?_, rfl⟩⟩, fun h => ⟨fun hw1 => ?_, fun hw1 => bX12_pair_14 ⟨_, rfl, rfl, mK.rfl _, Or.inr ⟨?_, rfl⟩⟩⟩⟩
  · rintro ⟨m, h1, h2, -⟩
    rw [if_pos (hin.mpr ⟨m, by omega, h1, h2⟩)] at h
    exact absurd h (by decide)
  rotate_left
  · rintro ⟨m, -, -, q⟩; exact hw1 q
  obtain ⟨m, -, hm, rfl⟩ := hin.mp (Classical.byContradiction fun q => h (if_neg q))
  refine ⟨_, kX12_laysPair (by omega) hH hw hm hw1, ?_⟩
  rintro v2 M2 ⟨hK2, hv⟩
  refine ⟨fun hne => ⟨fun hs => ?_, fun hs => ⟨_, rfl, rfl, hK2, Or.inl ⟨m, hm, rfl, hw1, Or.inr ?_⟩⟩⟩, fun heq => ⟨_, rfl, rfl, hK2, Or.inl ⟨m, hm, rfl, hw1, Or.inl ⟨heq, ?_⟩⟩⟩⟩
  rotate_left
  · obtain ⟨i, hi, hwi⟩ : ∃ i, i < 2 ^ 31 ∧ w = nI i := by
      rcases n_m1_or hw1 with q | q
      · exact absurd q hne
      · exact q
    rcases hv with ⟨q, -⟩ | ⟨-, -, q⟩
    · rw [q] at hs; exact absurd hs (by decide)
    · exact ⟨i, hi, hwi, Or.inr ⟨List.getElem?_eq_none (q i hi hwi), rfl⟩⟩
  · rcases hv with ⟨-, i, a, hi, hwi, -⟩ | ⟨-, q, -⟩
    · rw [heq] at hwi
      exact absurd hwi.symm (nI_m1 hi)
    · exact q
  rcases hv with ⟨-, i, a, hi, hwi, hget, g1, g2⟩ | ⟨q, -⟩
  rotate_left
  · exact absurd q hs
  have hrel : ∀ s, zpj p n t m a j s → rPair p n t (nI m) w j s := fun s hs => Or.inl ⟨m, hm, rfl, hw1, Or.inr ⟨i, hi, hwi, Or.inl ⟨a, hget, hs⟩⟩⟩
  have hclt : ∀ k, zqu p n t m (zask p m a) k < p := fun k => zH_lt hp0
  have hin2 : ((0 : Int32) ≤ j ∧ j ≤ nI m) ↔ ∃ k, 0 ≤ k ∧ k ≤ m ∧ j = nI k := n_btw (a := 0) (b := m) rfl rfl (by omega) (by omega)
  have hin3 : ((10 : Int32) ≤ j ∧ j ≤ 10 + M2 119 0) ↔ ∃ k, 10 ≤ k ∧ k ≤ 10 + n ∧ j = nI k := n_btw (a := 10) (b := 10 + n) rfl (by rw [(hH.K hK2).1, fa_lit 10, nI_add]) (by omega) (by omega)
  refine ⟨_, kX12_in (by omega) _ _ _, ?_⟩
  rintro v3 M3 ⟨rfl, rfl⟩
  refine ⟨fun h3 => ⟨_, kX12_in (by omega) _ _ _, ?_⟩, fun h3 => ?_⟩
  rotate_left
  · obtain ⟨z, -, hz, rfl⟩ := hin2.mp (Classical.byContradiction fun q => h3 (if_neg q))
    refine ⟨n_in (by omega) (by omega), _, rfl, rfl, hK2, hrel _ (Or.inl ⟨z, hz, rfl, ?_⟩)⟩
    rw [n_cl (by omega)]
    exact g1 z (by omega)
  have hno1 : ¬ ∃ z, z ≤ m ∧ j = nI z := by
    rintro ⟨z, hz, hq⟩
    rw [if_pos (hin2.mpr ⟨z, by omega, hz, hq⟩)] at h3
    exact absurd h3 (by decide)
  rintro v4 M4 ⟨rfl, rfl⟩
  refine ⟨fun h4 => ?_, fun h4 => ?_⟩
  rotate_left
  · obtain ⟨z, hz0, hz, rfl⟩ := hin3.mp (Classical.byContradiction fun q => h4 (if_neg q))
    have e1 : nI z - 10 = nI (z - 10) := pk_sub (b := 10) (by omega)
    rw [e1, n_cl (by omega)]
    refine ⟨n_in (by omega) (by omega), _, rfl, rfl, hK2, hrel _ (Or.inr (Or.inl ⟨z - 10, by omega, by rw [show 10 + (z - 10) = z by omega], g2 _ (by omega)⟩))⟩
  have hno2 : ¬ ∃ z, z ≤ n ∧ j = nI (10 + z) := by
    rintro ⟨z, hz, hq⟩
    rw [if_pos (hin3.mpr ⟨10 + z, by omega, by omega, hq⟩)] at h4
    exact absurd h4 (by decide)
  have hrel2 : ∀ s, ((zqu p n t m (zask p m a) (0 + m) = 0 ∧ s = if j = 32 then 0 else -1) ∨ (zqu p n t m (zask p m a) (0 + m) ≠ 0 ∧ s = if j = 30 then nI (zen p n t m a) else if j = 31 then nI (zv p (zqu p n t m (zask p m a) (0 + m)) (t ^ n % p)) else if j = 32 then (if 0 < zof p (zen p n t m a) (zsec n m).length (zPs p n (zbd n 1) 1 m) then 1 else 0) else -1)) → rPair p n t (nI m) w j s := fun s hs => hrel s (Or.inr (Or.inr ⟨hno1, hno2, hs⟩))
  have c0 := g2 0 (by omega)
  have c1 := g2 1 (by omega)
  have l0 := hclt (0 + m)
  have l1 := hclt (1 + m)
  have hH4 := hH.K hK2
  have htc := n_p2 htp l1 (by omega)
  rw [c0]
  refine ⟨fun h5 => ?_, fun h5 => ?_⟩
  · have hz : zqu p n t m (zask p m a) (0 + m) ≠ 0 := fun q => h5 (by rw [q]; rfl)
    rw [hH4.2.2.1, hH4.2.2.2.1, c1, n_mul, n_rem (by omega) hp0 (by omega)]
    refine ⟨nI_ne0 hp0 (by omega), _, kX12_over (by omega) hH4.2.2.1 hw.2.2.2.1 (Nat.mod_lt _ hp0) l0, ?_⟩
    rintro v5 M5 ⟨rfl, rfl⟩
    have hel : zen p n t m a < p := zv_lt hp0
    refine ⟨fun h6 => ⟨_, rfl, rfl, hK2, hrel2 _ (Or.inr ⟨hz, by rw [if_pos h6]; rfl⟩)⟩, fun h6 => ?_, fun h6 => ?_, fun h6 => ⟨_, rfl, rfl, hK2, hrel2 _ (Or.inr ⟨hz, ?_⟩)⟩⟩
    · rw [hH4.2.2.2.1, hH4.1, c0]
      refine ⟨_, kX12_raised (by omega) hH4.2.2.1 (by omega) (by omega) htp (by omega), ?_⟩
      rintro v6 M6 ⟨rfl, rfl⟩
      refine ⟨_, kX12_over (by omega) hH4.2.2.1 hw.2.2.2.1 l0 (Nat.mod_lt _ hp0), ?_⟩
      rintro v7 M7 ⟨rfl, rfl⟩
      refine ⟨_, rfl, rfl, hK2, hrel2 _ (Or.inr ⟨hz, ?_⟩)⟩
      rw [if_neg (by rw [h6]; decide), if_pos h6]
    · refine ⟨_, kX12_laysOwn (e' := 1) (r' := 1) (by omega) hH4 hw (show m ≤ n by omega) (by omega) (by omega), ?_⟩
      rintro M8 ⟨a1, a2, a3⟩
      have hlen := zsec_len n hn m (by omega)
      refine ⟨_, kX12_oftenOf (by omega) (hH4.K a3).2.2.1 hw.2.2.2.1 hlen a1 a2 (fun i z => zQ_lt (by omega) _ i z) hel, ?_⟩
      rintro v9 M9 ⟨rfl, b2⟩
      have hK9 : mK M1 M9 := (hK2.trans a3).trans ⟨fun o q1 q2 => b2 o (by omega), fun j _ => by rw [b2 118 (by decide)]⟩
      have hle := zof_le p (zen p n t m a) (zsec n m).length (zPs p n (zbd n 1) 1 m)
      refine ⟨fun h7 => ⟨_, rfl, rfl, hK9, hrel2 _ (Or.inr ⟨hz, ?_⟩)⟩, fun h7 => ⟨_, rfl, rfl, hK9, hrel2 _ (Or.inr ⟨hz, ?_⟩)⟩⟩
      · have h8 : ¬ 0 < zof p (zen p n t m a) (zsec n m).length (zPs p n (zbd n 1) 1 m) := fun q => absurd h7 (nI_ge (a := 0) q (by show zof p (zen p n t m a) (zsec n m).length (zPs p n (zbd n 1) 1 m) < _; omega))
        rw [if_neg (by rw [h6]; decide), if_neg (by rw [h6]; decide), if_pos h6, if_neg h8]
      · have h8 : 0 < zof p (zen p n t m a) (zsec n m).length (zPs p n (zbd n 1) 1 m) := by
          rcases Nat.eq_zero_or_pos (zof p (zen p n t m a) (zsec n m).length (zPs p n (zbd n 1) 1 m)) with q | q
          · exact absurd (by show nI (zof p (zen p n t m a) (zsec n m).length (zPs p n (zbd n 1) 1 m)) ≤ 0; rw [q]; decide) h7
          · exact q
        rw [if_neg (by rw [h6]; decide), if_neg (by rw [h6]; decide), if_pos h6, if_pos h8]
    · rw [if_neg, if_neg, if_neg]
      all_goals
        rintro rfl
        revert h6
        decide
  · have hz : zqu p n t m (zask p m a) (0 + m) = 0 := (nI_eq (b := 0) (by omega) (by omega)).mp h5
    refine ⟨fun h6 => ⟨_, rfl, rfl, hK2, hrel2 _ (Or.inl ⟨hz, by rw [if_neg h6]⟩)⟩, fun h6 => ⟨_, rfl, rfl, hK2, hrel2 _ (Or.inl ⟨hz, by rw [if_pos h6]⟩)⟩⟩
end Z28
