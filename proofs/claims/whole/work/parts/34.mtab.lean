/-! CONTRACTS 15: the transfer table on the reference's side -/
def mT (M : a_M) (k : Nat) (T : zTx) : Prop := M 119 6 = nI k - 1 ∧ k ≤ 4 ∧ (∀ j, k = j + 1 → mTx M j T) ∧ (k = 0 → T = []) ∧ wTx T
theorem mT.same {M M' : a_M} {k : Nat} {T : zTx} (h : mT M k T) (h1 : M' 119 6 = M 119 6) (hm : ∀ i, 122 ≤ i → i ≤ 127 → M' i = M i) : mT M' k T := ⟨by rw [h1]; exact h.1, h.2.1, fun j hj => (h.2.2.1 j hj).same hm, h.2.2.2.1, h.2.2.2.2⟩
def zti (p n A B C : Nat) : Nat → (Nat → Nat) → Nat → Nat
  | 0, f => f
  | k + 1, f => zx p n k A B C (zti p n A B C k f)
def zt0 (n : Nat) (v : Nat → Nat) (e z : Nat) : Nat := if z / 2 ^ n = e then v (z % 2 ^ n) else 0
/-- what THE TABLE makes of v, at y -/
def zTb (p n A B C : Nat) (v : Nat → Nat) (y : Nat) : Nat := (zti p n A B C n (zt0 n v 0) y + zti p n A B C n (zt0 n v 1) (2 ^ n + y)) % p
theorem zti_lt {p n A B C k : Nat} {f : Nat → Nat} (hp : 0 < p) (hf : ∀ z, z < 2 ^ (n + 1) → f z < p) : ∀ z, z < 2 ^ (n + 1) → zti p n A B C k f z < p := by
  cases k with
  | zero => exact hf
  | succ k => intro z _; exact zx_lt hp
section Z16
variable {X : a_X} {ad : Nat → Nat} {ca : Nat → ClassId} {d x : Nat} {M : a_M}
theorem kX12_laysWeights (hd : 5 ≤ d) {k n r p t e u : Nat} {T : zTx} (hT : mT M k T) (hH : mH M n r p t e) (hw : wH n r p t e) (hu : u < p) :
    mX12_laysWeights X ad ca d x [.ref 118, .int (nI u)] M (q_v (PT x) (fun M' => M' 118 35 = nI (zW T p t e 0 u) ∧ M' 118 36 = nI (zW T p t e 1 u) ∧ M' 118 37 = nI (zW T p t e 2 u) ∧ (∀ j, j < 35 ∨ 37 < j → M' 118 j = M 118 j) ∧ ∀ o, o ≠ 118 → o ≠ 136 → M' o = M o)) := by
  obtain ⟨d, rfl⟩ := a_d1 (show 1 ≤ d by omega)
  obtain ⟨t1, t2, t3, t4, t5⟩ := hT
  refine eX12_laysWeights _ (bX12_laysWeights_0 _ ⟨_, kX12_weightOf (w := 0) (by omega) t1 t2 t3 t4 t5 hH hw (by omega) hu, ?_⟩)
  rintro v1 M1 ⟨rfl, f1⟩
  have g1 : ∀ i, i ≠ 118 → i ≠ 136 → (ms M1 118 35 (nI (zW T p t e 0 u))) i = M i := fun i h1 h2 => by rw [ms_row _ _ _ _ _ h1]; exact f1 i h2
  refine ⟨_, kX12_weightOf (w := 1) (T := T) (k := k) (by omega) (by rw [g1 119 (by decide) (by decide)]; exact t1) t2 (fun j hj => (t3 j hj).same (fun i _ _ => g1 i (by omega) (by omega))) t4 t5 (hH.same (g1 119 (by decide) (by decide))) hw (by omega) hu, ?_⟩
  rintro v2 M2 ⟨rfl, f2⟩
  have g2 : ∀ i, i ≠ 118 → i ≠ 136 → (ms M2 118 36 (nI (zW T p t e 1 u))) i = M i := fun i h1 h2 => by rw [ms_row _ _ _ _ _ h1, f2 i h2]; exact g1 i h1 h2
  refine ⟨_, kX12_weightOf (w := 2) (T := T) (k := k) (by omega) (by rw [g2 119 (by decide) (by decide)]; exact t1) t2 (fun j hj => (t3 j hj).same (fun i _ _ => g2 i (by omega) (by omega))) t4 t5 (hH.same (g2 119 (by decide) (by decide))) hw (by omega) hu, ?_⟩
  rintro v3 M3 ⟨rfl, f3⟩
  refine ⟨rfl, rfl, ?_, ?_, ?_, fun j hj => ?_, fun o h1 h2 => ?_⟩
  · rw [ms_no _ _ _ _ _ _ (by simp), f3 118 (by decide), ms_no _ _ _ _ _ _ (by simp), f2 118 (by decide), ms_is]
  · rw [ms_no _ _ _ _ _ _ (by simp), f3 118 (by decide), ms_is]
  · rw [ms_is]
  · rw [ms_no _ _ _ _ _ _ (by omega), f3 118 (by decide), ms_no _ _ _ _ _ _ (by omega), f2 118 (by decide), ms_no _ _ _ _ _ _ (by omega), f1 118 (by decide)]
  · rw [ms_row _ _ _ _ _ h1, f3 o h2]; exact g2 o h1 h2
theorem kX12_tables (hd : 6 ≤ d) {k n r p t e u : Nat} {T : zTx} {v : Nat → Nat} (hT : mT M k T) (hH : mH M n r p t e) (hw : wH n r p t e) (hu : u < p) (hv : ∀ j, j < 2 ^ n → M 140 j = nI (v j) ∧ v j < p) :
    mX12_tables X ad ca d x [.ref 118, .int (nI u)] M (q_v (PT x) (fun M' => (∀ j, j < 2 ^ n → M' 140 j = nI (zTb p n (zW T p t e 0 u) (zW T p t e 1 u) (zW T p t e 2 u) v j)) ∧ (∀ j, 2 ^ n ≤ j → j < 128 → M' 140 j = 0) ∧ (∀ j, j < 35 ∨ 37 < j → M' 118 j = M 118 j) ∧ ∀ o, o ≠ 118 → o ≠ 136 → o ≠ 137 → o ≠ 138 → o ≠ 140 → o ≠ 141 → M' o = M o)) := by
  obtain ⟨d, rfl⟩ := a_d1 (show 1 ≤ d by omega)
  have hpb := zpl_b p hw.2.2.2.1
  have hn := hw.1
  have hn2 := hw.2.1
  have h2n := z_p2 hn
  have h0n : 0 < 2 ^ n := Nat.pow_pos (by omega)
  have hsn : 2 ^ (n + 1) = 2 * 2 ^ n := by rw [Nat.pow_succ, Nat.mul_comm]
  have hA := zW_ok hw hT.2.2.2.2 (show 0 < 3 by omega) hu
  have hB := zW_ok hw hT.2.2.2.2 (show 1 < 3 by omega) hu
  have hC := zW_ok hw hT.2.2.2.2 (show 2 < 3 by omega) hu
  generalize hAe : zW T p t e 0 u = A at hA
  generalize hBe : zW T p t e 1 u = B at hB
  generalize hCe : zW T p t e 2 u = C at hC
  generalize hPost : q_v (PT x) (fun M' => (∀ j, j < 2 ^ n → M' 140 j = nI (zTb p n A B C v j)) ∧ (∀ j, 2 ^ n ≤ j → j < 128 → M' 140 j = 0) ∧ (∀ j, j < 35 ∨ 37 < j → M' 118 j = M 118 j) ∧ ∀ o, o ≠ 118 → o ≠ 136 → o ≠ 137 → o ≠ 138 → o ≠ 140 → o ≠ 141 → M' o = M o) = Post
  have hv0 : ∀ e' z, z < 2 ^ (n + 1) → zt0 n v e' z < p := by
    intro e' z hz
    unfold zt0
    split
    · exact (hv _ (Nat.mod_lt _ h0n)).2
    · omega
  refine eX12_tables _ (bX12_tables_0 _ ⟨_, kX12_states (by omega) hH.1 hn, ?_⟩)
  rintro v1 M1 ⟨rfl, rfl⟩
  have key := a_loop (σ := Unit) (fun i _ => wX12_tables X ad ca d x Post 7 [(0, .ref 118), (1, .int (nI u)), (2, .int (nI (2 ^ n))), (3, .int (nI i))] (mf M1 141 0 (fun _ => 0) i)) (fun _ _ => True) 128 ?_ ?_ 0 () (by omega) trivial
  · rw [mf_0] at key; exact key
  · intro _ _
    refine bX12_tables_7 _ _ _ ⟨fun _ => ⟨_, kX12_laysWeights (by omega) (hT.same (by rw [mf_no _ _ _ _ _ _ (by decide)]) (fun i _ _ => mf_no _ _ _ _ _ _ (by omega))) (hH.same (mf_no _ _ _ _ _ _ (by decide))) hw hu, ?_⟩, fun h => absurd (nI_le (Nat.le_refl 128) (by omega)) h⟩
    rintro M2 ⟨a1, a2, a3, a4, a5⟩
    rw [hAe] at a1
    rw [hBe] at a2
    rw [hCe] at a3
    -- the two ways of e
    let P2 : Nat → Nat → Nat := fun e' y => (if 0 < e' then zti p n A B C n (zt0 n v 0) y else 0) + (if 1 < e' then zti p n A B C n (zt0 n v 1) (2 ^ n + y) else 0)
    have key2 := a_loop (σ := a_M) (fun e' M' => wX12_tables X ad ca d x Post 34 [(0, .ref 118), (2, .int (nI (2 ^ n))), (3, .int (nI e'))] M') (fun e' M' => (∀ j, j < 2 ^ n → M' 141 j = nI (P2 e' j % p)) ∧ (∀ j, 2 ^ n ≤ j → j < 128 → M' 141 j = 0) ∧ ∀ o, o ≠ 137 → o ≠ 138 → o ≠ 141 → M' o = M2 o) 2 ?_ ?_ 0 M2 (by omega) ?_
    · exact key2
    · rintro M' ⟨q1, q2, q3⟩
      refine bX12_tables_34 _ _ ⟨fun _ => ⟨_, kX12_takesNext (by omega), ?_⟩, fun h => absurd (nI_le (Nat.le_refl 2) (by omega)) h⟩
      rintro M3 rfl
      rw [← hPost]
      refine ⟨rfl, rfl, fun j hj => ?_, fun j hj1 hj2 => ?_, fun j hj => ?_, fun o h1 h2 h3 h4 h5 h6 => ?_⟩
      · rw [mf_in _ _ _ _ _ _ (Nat.zero_le _) (show j < 128 by omega), q1 j hj]
        rfl
      · rw [mf_in _ _ _ _ _ _ (Nat.zero_le _) hj2, q2 j hj1 hj2]
      · rw [mf_no _ _ _ _ _ _ (by decide), q3 118 (by decide) (by decide) (by decide), a4 j hj, mf_no _ _ _ _ _ _ (by decide)]
      · rw [mf_no _ _ _ _ _ _ h5, q3 o h3 h4 h6, a5 o h1 h2, mf_no _ _ _ _ _ _ h6]
    · rintro e' M' he' ⟨q1, q2, q3⟩ ih
      refine bX12_tables_34 _ _ ⟨fun h => absurd h (nI_ge (b := 2) he' (by omega)), fun _ => ?_⟩
      have e2 : (2 : Int32) * nI (2 ^ n) = nI (2 ^ (n + 1)) := by rw [fa_lit 2, n_mul, hsn]
      have hM140 : ∀ j, j < 2 ^ n → M' 140 j = nI (v j) ∧ v j < p := fun j hj => by
        rw [q3 140 (by decide) (by decide) (by decide), a5 140 (by decide) (by decide), mf_no _ _ _ _ _ _ (by decide)]
        exact hv j hj
      have hM118 : M' 118 = M2 118 := q3 118 (by decide) (by decide) (by decide)
      have hM119 : M' 119 = M1 119 := by rw [q3 119 (by decide) (by decide) (by decide), a5 119 (by decide) (by decide), mf_no _ _ _ _ _ _ (by decide)]
      -- the row is laid
      have key3 := a_loop (σ := Unit) (fun i _ => wX12_tables X ad ca d x Post 42 [(0, .ref 118), (2, .int (nI (2 ^ n))), (3, .int (nI e')), (4, .int (nI i))] (mf M' 137 0 (fun z => nI (zt0 n v e' z)) i)) (fun _ _ => True) (2 ^ (n + 1)) ?_ ?_ 0 () (Nat.zero_le _) trivial
      · rw [mf_0] at key3; exact key3
      · intro _ _
        refine bX12_tables_42 _ _ _ ?_
        rw [e2]
        refine ⟨fun _ => ?_, fun h => absurd (nI_le (Nat.le_refl _) (by omega)) h⟩
        -- the letters
        refine a_loop (σ := a_M) (fun i M'' => wX12_tables X ad ca d x Post 87 [(0, .ref 118), (2, .int (nI (2 ^ n))), (3, .int (nI e')), (4, .int (nI i))] M'') (fun i M'' => (∀ z, z < 2 ^ (n + 1) → M'' 137 z = nI (zti p n A B C i (zt0 n v e') z)) ∧ ∀ o, o ≠ 137 → o ≠ 138 → M'' o = M' o) n ?_ ?_ 0 _ (Nat.zero_le _) ⟨fun z hz => mf_in _ _ _ _ _ _ (Nat.zero_le _) hz, fun o h1 _ => mf_no _ _ _ _ _ _ h1⟩
        · rintro M'' ⟨r1, r2⟩
          refine bX12_tables_87 _ _ _ ?_
          have hN'' : M'' 119 0 = nI n := by rw [r2 119 (by decide) (by decide), hM119]; exact hH.1
          rw [hN'']
          refine ⟨fun _ => ?_, fun h => absurd (nI_le (Nat.le_refl n) (by omega)) h⟩
          -- added to next
          have hP'' : ∀ i f, (mf M'' 141 0 f i) 119 2 = nI p := fun i f => by rw [mf_no _ _ _ _ _ _ (by decide), r2 119 (by decide) (by decide), hM119]; exact hH.2.2.1
          have h0141 : M'' 141 = M' 141 := r2 141 (by decide) (by decide)
          have hP2s : ∀ y, P2 (e' + 1) y = P2 e' y + zti p n A B C n (zt0 n v e') (e' * 2 ^ n + y) := by
            intro y
            rcases (show e' = 0 ∨ e' = 1 by omega) with rfl | rfl
            · show (zti p n A B C n (zt0 n v 0) y + 0) = (0 + 0) + zti p n A B C n (zt0 n v 0) (0 * 2 ^ n + y)
              rw [Nat.zero_mul, Nat.zero_add y]; omega
            · show (zti p n A B C n (zt0 n v 0) y + zti p n A B C n (zt0 n v 1) (2 ^ n + y)) = (zti p n A B C n (zt0 n v 0) y + 0) + _
              rw [Nat.one_mul]; omega
          have hle : e' * 2 ^ n ≤ 2 ^ n := by
            rcases (show e' = 0 ∨ e' = 1 by omega) with rfl | rfl <;> omega
          have key4 := a_loop (σ := Unit) (fun i _ => wX12_tables X ad ca d x Post 122 [(0, .ref 118), (2, .int (nI (2 ^ n))), (3, .int (nI e')), (4, .int (nI i))] (mf M'' 141 0 (fun y => nI (P2 (e' + 1) y % p)) i)) (fun _ _ => True) (2 ^ n) ?_ ?_ 0 () (Nat.zero_le _) trivial
          · rw [mf_0] at key4; exact key4
          · intro _ _
            refine bX12_tables_122 _ _ _ ⟨fun _ => ?_, fun h => absurd (nI_le (Nat.le_refl _) (by omega)) h⟩
            rw [← nI_succ]
            refine ih _ ⟨fun j hj => mf_in _ _ _ _ _ _ (Nat.zero_le _) hj, fun j hj1 hj2 => ?_, fun o h1 h2 h3 => ?_⟩
            · rw [mf_out _ _ _ _ _ _ (Or.inr hj1), h0141]; exact q2 j hj1 hj2
            · rw [mf_no _ _ _ _ _ _ h3, r2 o h1 h2]; exact q3 o h1 h2 h3
          · intro i _ hi _ ih4
            have e3 : nI e' * nI (2 ^ n) + nI i = nI (e' * 2 ^ n + i) := by rw [n_mul, nI_add]
            have hzl := zti_lt (n := n) (A := A) (B := B) (C := C) (k := n) (show 0 < p by omega) (hv0 e') (e' * 2 ^ n + i) (by omega)
            have hml : P2 e' i % p < p := Nat.mod_lt _ (by omega)
            refine bX12_tables_122 _ _ _ ⟨fun h => absurd h (nI_ge hi (by omega)), fun _ => ?_⟩
            rw [e3, hP'', n_cl (show i < 2 ^ 31 by omega), n_cl (show e' * 2 ^ n + i < 2 ^ 31 by omega), mf_out _ _ _ _ _ _ (Or.inr (Nat.le_refl i)), h0141, q1 i hi, mf_no _ _ _ _ _ _ (show 137 ≠ 141 by decide), r1 _ (show e' * 2 ^ n + i < 2 ^ (n + 1) by omega), nI_add, n_rem (by omega) (by omega) (by omega)]
            refine ⟨n_in (by omega) (by omega), n_in (by omega) (by omega), nI_ne0 (by omega) (by omega), n_in (by omega) (by omega), ?_⟩
            rw [mf_s (Nat.zero_le _) (by rw [hP2s, Nat.mod_add_mod]), ← nI_succ]
            exact ih4 () trivial
        · rintro i M'' hi ⟨r1, r2⟩ ih3
          have hN'' : M'' 119 0 = nI n := by rw [r2 119 (by decide) (by decide), hM119]; exact hH.1
          have h118 : M'' 118 = M2 118 := by rw [r2 118 (by decide) (by decide)]; exact hM118
          refine bX12_tables_87 _ _ _ ?_
          rw [hN'', e2]
          refine ⟨fun h => absurd h (nI_ge hi (by omega)), fun _ => ⟨_, kX12_exchanges (i := n) (j := i) (m := n + 1) (f := zti p n A B C i (zt0 n v e')) (by omega) (by rw [r2 119 (by decide) (by decide), hM119]; exact hH.2.2.1) hw.2.2.2.1 (by omega) (by omega) (by omega) (by omega) (by rw [h118]; exact a1) (by rw [h118]; exact a2) (by rw [h118]; exact a3) hA hB hC (fun z hz => ⟨r1 z hz, zti_lt (show 0 < p by omega) (hv0 e') z hz⟩), ?_⟩⟩
          rintro M5 ⟨s1, s2⟩
          rw [← nI_succ]
          exact ih3 M5 ⟨s1, fun o h1 h2 => (s2 o h1 h2).trans (r2 o h1 h2)⟩
      · intro i _ hi _ ih3
        refine bX12_tables_42 _ _ _ ?_
        have hdv : nI i / nI (2 ^ n) = nI (i / 2 ^ n) := pk_div (by omega) h0n (by omega)
        have hdl : i / 2 ^ n < 2 := by
          rw [Nat.div_lt_iff_lt_mul h0n]; omega
        have hml : i % 2 ^ n < 2 ^ n := Nat.mod_lt _ h0n
        rw [e2, hdv]
        refine ⟨fun h => absurd h (nI_ge hi (by omega)), fun _ => ⟨nI_ne0 h0n (by omega), fun h => ⟨n_in (by omega) (by omega), ?_⟩, fun h => ⟨nI_ne0 h0n (by omega), ?_⟩⟩⟩
        · have hne : i / 2 ^ n ≠ e' := fun q => h (by rw [q])
          rw [n_cl (by omega), mf_s (Nat.zero_le _) (by unfold zt0; rw [if_neg hne]; rfl), ← nI_succ]
          exact ih3 () trivial
        · have he : i / 2 ^ n = e' := (nI_eq (by omega) (by omega)).mp h
          rw [← hdv, n_rem (by omega) h0n (by omega)]
          refine ⟨n_in (by omega) (by omega), n_in (by omega) (by omega), ?_⟩
          rw [n_cl (by omega), n_cl (by omega), mf_no _ _ _ _ _ _ (show 140 ≠ 137 by decide), (hM140 _ hml).1, mf_s (Nat.zero_le _) (by unfold zt0; rw [if_pos he]), ← nI_succ]
          exact ih3 () trivial
    · refine ⟨fun j hj => ?_, fun j hj1 hj2 => ?_, fun _ _ _ _ => rfl⟩
      · rw [a5 141 (by decide) (by decide), mf_in _ _ _ _ _ _ (Nat.zero_le _) (show j < 128 by omega)]
        show (0 : Int32) = nI ((0 + 0) % p)
        rw [Nat.zero_mod]
        rfl
      · rw [a5 141 (by decide) (by decide), mf_in _ _ _ _ _ _ (Nat.zero_le _) hj2]
  · intro i _ hi _ ih
    refine bX12_tables_7 _ _ _ ⟨fun h => absurd h (nI_ge (b := 128) hi (by omega)), fun _ => ⟨n_in hi (by omega), ?_⟩⟩
    rw [n_cl (by omega), mf_s (Nat.zero_le _) rfl, ← nI_succ]
    exact ih () trivial
end Z16
