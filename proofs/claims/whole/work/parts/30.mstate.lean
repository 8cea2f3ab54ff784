/-! CONTRACTS 11: the state on the reference's side -/
def mSt (M : a_M) (α : Nat) (S : Nat → Nat) (V : Nat → Nat → Nat) : Prop :=
  M α 0 = nI (S 0) ∧ M α 1 = nI (S 1) ∧ M α 2 = nI (S 2) ∧ M α 3 = nI (S 3) ∧ M α 4 = nI (S 4) ∧ M α 5 = nI (S 5) ∧ M α 6 = nI (S 6) - 1 ∧ M α 7 = nI (S 7) ∧ M α 8 = nI (S 8) ∧ ∀ k, k ≤ S 8 → ∀ s, s < 2 ^ S 0 → M α (10 + 128 * k + s) = nI (V k s)
theorem mSt.same {M M' : a_M} {α : Nat} {S : Nat → Nat} {V : Nat → Nat → Nat} (h : mSt M α S V) (hm : M' α = M α) : mSt M' α S V := by unfold mSt; rw [hm]; exact h
theorem mSt.H {M : a_M} {S : Nat → Nat} {V : Nat → Nat → Nat} (h : mSt M 119 S V) : mH M (S 0) (S 1) (S 2) (S 3) (S 4) := ⟨h.1, h.2.1, h.2.2.1, h.2.2.2.1, h.2.2.2.2.1⟩
theorem zp_yes2' : ∀ q, q < 98 → 5 ≤ q → ((List.range 98).all (fun k => !(decide (2 ≤ k) && decide (k < q) && (q % k == 0)))) = true → zpl.contains q = true := by decide +kernel
theorem zp_no2' : ∀ q, q < 98 → ∀ k, k < 98 → 2 ≤ k → k < q → q % k = 0 → zpl.contains q = false := by decide +kernel
theorem zp_yes2 (q : Nat) (h1 : q < 98) (h2 : 5 ≤ q) (h : ∀ k, 2 ≤ k → k < q → q % k ≠ 0) : q ∈ zpl := by
  have := zp_yes2' q h1 h2 (List.all_eq_true.mpr fun k hk => by
    by_cases c : 2 ≤ k ∧ k < q
    · have := h k c.1 c.2
      simp [this]
    · rw [Bool.not_eq_true']
      by_cases c1 : 2 ≤ k
      · have : ¬ k < q := fun q => c ⟨c1, q⟩
        simp [this]
      · simp [c1])
  simpa using this
theorem zp_no2 (q : Nat) (h1 : q < 98) (k : Nat) (h3 : 2 ≤ k) (h4 : k < q) (h5 : q % k = 0) : q ∉ zpl := by
  have := zp_no2' q h1 k (by omega) h3 h4 h5
  simpa using this
section Z12
variable {X : a_X} {ad : Nat → Nat} {ca : Nat → ClassId} {d x : Nat} {M : a_M} {S : Nat → Nat} {V : Nat → Nat → Nat}
theorem kX12_chain (hd : 2 ≤ d) {u : Int32} {r : Nat} (hr : r ≤ 1) (hS : mSt M 119 S V) (hw : wSt S V) : mX12_chain X ad ca d x [.ref 118, .int u, .int (nI r)] M (q_i (PT x) (fun s M' => ∃ S' V', rChain S V u r s S' V' ∧ mSt M' 119 S' V' ∧ ∀ i, i ≠ 119 → M' i = M i)) := by
  obtain ⟨d, rfl⟩ := a_d1 (show 1 ≤ d by omega)
  have hS' := hS
  obtain ⟨h0, h1, h2, h3, h4, h5, h6, h7, h8, h9⟩ := hS'
  refine eX12_chain _ _ (bX12_chain_0 _ _ ⟨_, kX12_in (by omega) _ _ _, ?_⟩)
  rintro v1 M1 ⟨rfl, rfl⟩
  have hgo : ∀ M0 : a_M, (2 : Int32) ≤ u ∧ u ≤ 7 → M0 = ms (ms M1 119 0 u) 119 1 (nI r) → ∃ Q : a_M → Prop, mX12_forgets X ad ca d x [.ref 118] M0 (q_v (PT x) Q) ∧ ∀ M2, Q M2 → wX12_chain X ad ca d x (q_i (PT x) (fun s M' => ∃ S' V', rChain S V u r s S' V' ∧ mSt M' 119 S' V' ∧ ∀ i, i ≠ 119 → M' i = M1 i)) 40 [(0, .ref 118), (3, .int 0)] M2 := by
    rintro M0 ⟨c1, c2⟩ rfl
    obtain ⟨n, hn, rfl⟩ := nI_of2 (M := 7) (n := 7) rfl (fun q => (fa_of_lt (fa_trans q (show (0 : Int32) ≤ 2 by decide))).2.1 c1) c2
    have hn2 : 2 ≤ n := Classical.byContradiction fun c => (fa_of_lt (nI_lt (a := n) (b := 2) (by omega) (by omega))).2.1 c1
    refine ⟨_, kX12_forgets (by omega), ?_⟩
    rintro M2 rfl
    generalize hN0 : ms (ms (ms (ms M1 119 0 (nI n)) 119 1 (nI r)) 119 7 0) 119 8 0 = N0
    have key := a_loop (σ := Unit) (fun i _ => wX12_chain X ad ca d x (q_i (PT x) (fun s M' => ∃ S' V', rChain S V (nI n) r s S' V' ∧ mSt M' 119 S' V' ∧ ∀ i, i ≠ 119 → M' i = M1 i)) 40 [(0, .ref 118), (3, .int (nI i))] (mf N0 119 10 (fun _ => 0) (10 + i))) (fun _ _ => True) 128 ?_ ?_ 0 () (by omega) trivial
    · rw [Nat.add_zero, mf_0] at key; exact key
    · intro _ _
      refine bX12_chain_40 _ ⟨fun _ => ⟨_, rfl, rfl, zC S n r, (fun _ _ => 0), Or.inl ⟨n, hn2, hn, rfl, rfl, rfl, rfl⟩, ⟨?_, ?_, ?_, ?_, ?_, ?_, ?_, ?_, ?_, fun k hk s hs => ?_⟩, fun i hi => ?_⟩, fun h => absurd (nI_le (Nat.le_refl 128) (by omega)) h⟩
      · rw [mf_out _ _ _ _ _ _ (by omega), ← hN0, ms_no _ _ _ _ _ _ (by simp), ms_no _ _ _ _ _ _ (by simp), ms_no _ _ _ _ _ _ (by simp), ms_is]; rfl
      · rw [mf_out _ _ _ _ _ _ (by omega), ← hN0, ms_no _ _ _ _ _ _ (by simp), ms_no _ _ _ _ _ _ (by simp), ms_is]; rfl
      · rw [mf_out _ _ _ _ _ _ (by omega), ← hN0, ms_no _ _ _ _ _ _ (by simp), ms_no _ _ _ _ _ _ (by simp), ms_no _ _ _ _ _ _ (by simp), ms_no _ _ _ _ _ _ (by simp)]; exact h2
      · rw [mf_out _ _ _ _ _ _ (by omega), ← hN0, ms_no _ _ _ _ _ _ (by simp), ms_no _ _ _ _ _ _ (by simp), ms_no _ _ _ _ _ _ (by simp), ms_no _ _ _ _ _ _ (by simp)]; exact h3
      · rw [mf_out _ _ _ _ _ _ (by omega), ← hN0, ms_no _ _ _ _ _ _ (by simp), ms_no _ _ _ _ _ _ (by simp), ms_no _ _ _ _ _ _ (by simp), ms_no _ _ _ _ _ _ (by simp)]; exact h4
      · rw [mf_out _ _ _ _ _ _ (by omega), ← hN0, ms_no _ _ _ _ _ _ (by simp), ms_no _ _ _ _ _ _ (by simp), ms_no _ _ _ _ _ _ (by simp), ms_no _ _ _ _ _ _ (by simp)]; exact h5
      · rw [mf_out _ _ _ _ _ _ (by omega), ← hN0, ms_no _ _ _ _ _ _ (by simp), ms_no _ _ _ _ _ _ (by simp), ms_no _ _ _ _ _ _ (by simp), ms_no _ _ _ _ _ _ (by simp)]; exact h6
      · rw [mf_out _ _ _ _ _ _ (by omega), ← hN0, ms_no _ _ _ _ _ _ (by simp), ms_is]; rfl
      · rw [mf_out _ _ _ _ _ _ (by omega), ← hN0, ms_is]; rfl
      · have hk0 : k = 0 := by
          have : zC S n r 8 = 0 := by unfold zC; rw [vu]
          omega
        have hsn : s < 2 ^ n := by
          have : zC S n r 0 = n := by unfold zC; rw [vn _ _ _ _ (by decide), vn _ _ _ _ (by decide), vn _ _ _ _ (by decide), vu]
          rw [this] at hs; exact hs
        have := z_p2 (n := n) (by omega)
        rw [mf_in _ _ _ _ _ _ (by omega) (by omega)]
        rfl
      · rw [mf_no _ _ _ _ _ _ hi, ← hN0, ms_row _ _ _ _ _ hi, ms_row _ _ _ _ _ hi, ms_row _ _ _ _ _ hi, ms_row _ _ _ _ _ hi]
    · intro i _ hi _ ih
      have e10 : (10 : Int32) + nI i = nI (10 + i) := by rw [fa_lit 10, nI_add]
      refine bX12_chain_40 _ ⟨fun h => absurd h (nI_ge (b := 128) hi (by omega)), fun _ => ?_⟩
      rw [e10]
      refine ⟨n_in (by omega) (by omega), ?_⟩
      rw [n_cl (by omega), mf_s (by omega) rfl, ← nI_succ]
      exact ih () trivial
  refine ⟨fun h => ?_, fun h => ⟨_, rfl, rfl, S, V, Or.inr ⟨?_, rfl, rfl, rfl⟩, hS, fun _ _ => rfl⟩⟩
  · have c : (2 : Int32) ≤ u ∧ u ≤ 7 := Classical.byContradiction fun q => h (if_neg q)
    refine ⟨fun hr0 => hgo _ c ?_, fun hr1 => hgo _ c ?_⟩
    · rw [hr0]
    · rcases (show r = 0 ∨ r = 1 by omega) with rfl | rfl
      · exact absurd rfl hr1
      · rfl
  · rintro ⟨n, hn, hn2, rfl⟩
    rw [if_pos ⟨nI_le (a := 2) hn (by omega), nI_le (b := 7) hn2 (by omega)⟩] at h
    exact absurd h (by decide)
theorem kX12_prime (hd : 2 ≤ d) {u : Int32} (hS : mSt M 119 S V) (hw : wSt S V) : mX12_prime X ad ca d x [.ref 118, .int u] M (q_i (PT x) (fun s M' => ∃ S' V', rPrime S V u s S' V' ∧ mSt M' 119 S' V' ∧ ∀ i, i ≠ 119 → M' i = M i)) := by
  obtain ⟨d, rfl⟩ := a_d1 (show 1 ≤ d by omega)
  have hS' := hS
  obtain ⟨h0, h1, h2, h3, h4, h5, h6, h7, h8, h9⟩ := hS'
  obtain ⟨w1, w2, w3, w4, w5, w6⟩ := hw
  have h2n := z_p2 w1.1
  have hpb0 := zpl_b _ w1.2.2.2.1
  generalize hPost : q_i (PT x) (fun s M' => ∃ S' V', rPrime S V u s S' V' ∧ mSt M' 119 S' V' ∧ ∀ i, i ≠ 119 → M' i = M i) = Post
  have hno : (¬ ∃ p, p ∈ zpl ∧ u = nI p) → wX12_prime X ad ca d x Post 37 [(0, .ref 118), (1, .int u), (2, .int 0)] M := by
    intro h
    rw [← hPost]
    exact bX12_prime_37 _ _ ⟨fun q => absurd rfl q, fun _ => ⟨_, rfl, rfl, S, V, Or.inr ⟨h, rfl, rfl, rfl⟩, hS, fun _ _ => rfl⟩⟩
  refine eX12_prime _ (bX12_prime_0 _ ⟨_, kX12_in (by omega) _ _ _, ?_⟩)
  rintro v1 M1 ⟨rfl, rfl⟩
  by_cases c : (5 : Int32) ≤ u ∧ u ≤ 97
  · rw [if_pos c]
    obtain ⟨q, hq, rfl⟩ := nI_of2 (M := 97) (n := 97) rfl (fun q => (fa_of_lt (fa_trans q (show (0 : Int32) ≤ 5 by decide))).2.1 c.1) c.2
    have hq5 : 5 ≤ q := Classical.byContradiction fun c2 => (fa_of_lt (nI_lt (a := q) (b := 5) (by omega) (by omega))).2.1 c.1
    have hyes : q ∈ zpl → wX12_prime X ad ca d x Post 37 [(0, .ref 118), (1, .int (nI q)), (2, .int 1)] M1 := by
      intro hp
      have hS4 := w1.2.2.2.2.2.2
      have hS3 := w1.2.2.2.2.2.1
      have hm3 : S 3 % q < q := Nat.mod_lt _ (by omega)
      have hz : ¬ nI q = 0 := nI_ne0 (by omega) (by omega)
      have hfin : wX12_prime X ad ca d x Post 96 [(0, .ref 118), (1, .int (nI q)), (3, .int 10)] (ms (ms (ms M1 119 2 (nI q)) 119 3 (nI (if S 3 % q = 0 then 1 else S 3 % q))) 119 4 (nI (S 4 % q))) := by
        generalize hN0 : ms (ms (ms M1 119 2 (nI q)) 119 3 (nI (if S 3 % q = 0 then 1 else S 3 % q))) 119 4 (nI (S 4 % q)) = N0
        have hN0r : ∀ j, 5 ≤ j → N0 119 j = M1 119 j := fun j hj => by rw [← hN0, ms_no _ _ _ _ _ _ (by omega), ms_no _ _ _ _ _ _ (by omega), ms_no _ _ _ _ _ _ (by omega)]
        have key := a_loop (σ := Unit) (fun i _ => wX12_prime X ad ca d x Post 96 [(0, .ref 118), (1, .int (nI q)), (3, .int (nI (10 + i)))] (mf N0 119 10 (fun j => N0 119 j - N0 119 j / nI q * nI q) (10 + i))) (fun _ _ => True) 2688 ?_ ?_ 0 () (by omega) trivial
        · rw [Nat.add_zero, mf_0] at key; exact key
        · intro _ _
          rw [← hPost]
          refine bX12_prime_96 _ _ ⟨fun _ => ⟨_, rfl, rfl, zPr S q, _, Or.inl ⟨q, hp, rfl, rfl, rfl, rfl⟩, ⟨?_, ?_, ?_, ?_, ?_, ?_, ?_, ?_, ?_, fun k hk s hs => ?_⟩, fun i hi => ?_⟩, fun h => absurd (nI_le (Nat.le_refl 2698) (by omega)) h⟩
          · rw [mf_out _ _ _ _ _ _ (by omega), ← hN0, ms_no _ _ _ _ _ _ (by simp), ms_no _ _ _ _ _ _ (by simp), ms_no _ _ _ _ _ _ (by simp)]; exact h0
          · rw [mf_out _ _ _ _ _ _ (by omega), ← hN0, ms_no _ _ _ _ _ _ (by simp), ms_no _ _ _ _ _ _ (by simp), ms_no _ _ _ _ _ _ (by simp)]; exact h1
          · rw [mf_out _ _ _ _ _ _ (by omega), ← hN0, ms_no _ _ _ _ _ _ (by simp), ms_no _ _ _ _ _ _ (by simp), ms_is]; rfl
          · rw [mf_out _ _ _ _ _ _ (by omega), ← hN0, ms_no _ _ _ _ _ _ (by simp), ms_is]; rfl
          · rw [mf_out _ _ _ _ _ _ (by omega), ← hN0, ms_is]; rfl
          · rw [mf_out _ _ _ _ _ _ (by omega), hN0r _ (by omega)]; exact h5
          · rw [mf_out _ _ _ _ _ _ (by omega), hN0r _ (by omega)]; exact h6
          · rw [mf_out _ _ _ _ _ _ (by omega), hN0r _ (by omega)]; exact h7
          · rw [mf_out _ _ _ _ _ _ (by omega), hN0r _ (by omega)]; exact h8
          · have hk' : k ≤ S 8 := hk
            have hs' : s < 2 ^ S 0 := hs
            have hv := w6 k hk' s hs'
            rw [mf_in _ _ _ _ _ _ (by omega) (by omega), hN0r _ (by omega), h9 k hk' s hs', n_rem (by omega) (by omega) (by omega)]
          · rw [mf_no _ _ _ _ _ _ hi, ← hN0, ms_row _ _ _ _ _ hi, ms_row _ _ _ _ _ hi, ms_row _ _ _ _ _ hi]
        · intro i _ hi _ ih
          refine bX12_prime_96 _ _ ⟨fun h => absurd h (nI_ge (a := 10 + i) (b := 2698) (by omega) (by omega)), fun _ => ⟨n_in (by omega) (by omega), hz, n_in (by omega) (by omega), ?_⟩⟩
          rw [n_cl (by omega), mf_out _ _ _ _ _ _ (Or.inr (Nat.le_refl _)), mf_s (by omega) rfl, ← nI_succ]
          exact ih () trivial
      refine bX12_prime_37 _ _ ⟨fun _ => ?_, fun h => absurd h (by decide)⟩
      rw [h3, h4, n_rem (by omega) (by omega) (by omega), n_rem (by omega) (by omega) (by omega)]
      refine ⟨hz, fun h => ⟨hz, hz, ?_⟩, fun h => ⟨hz, ?_⟩⟩
      · have : ¬ S 3 % q = 0 := fun z => h (by rw [z]; rfl)
        rw [if_neg this] at hfin
        exact hfin
      · rw [← nI_0] at h
        have : S 3 % q = 0 := (nI_eq (by omega) (by omega)).mp h
        rw [if_pos this] at hfin
        exact hfin
    have key : ∀ n i, i + n = q → 2 ≤ i → (∀ k, 2 ≤ k → k < i → q % k ≠ 0) → wX12_prime X ad ca d x Post 10 [(0, .ref 118), (1, .int (nI q)), (2, .int 1), (3, .int (nI i))] M1 := by
      intro n
      induction n with
      | zero =>
        intro i hi _ hk
        have : i = q := by omega
        subst this
        exact bX12_prime_10 _ _ _ ⟨fun _ => hyes (zp_yes2 i (by omega) hq5 hk), fun h => absurd (nI_le (Nat.le_refl i) (by omega)) h⟩
      | succ n ih =>
        intro i hi h2i hk
        refine bX12_prime_10 _ _ _ ⟨fun h => absurd h (nI_ge (show i < q by omega) (by omega)), fun _ => ⟨fun h => absurd h (by decide), fun _ => ⟨nI_ne0 (by omega) (by omega), ?_⟩⟩⟩
        rw [n_rem (by omega) (by omega) (by omega)]
        have hm : q % i < i := Nat.mod_lt _ (by omega)
        refine ⟨fun h => ?_, fun h => ?_⟩
        · rw [← nI_0] at h
          have hz := (nI_eq (by omega) (by omega)).mp h
          have hnot : ¬ ∃ p, p ∈ zpl ∧ nI q = nI p := by
            rintro ⟨p, hp, hqp⟩
            have hpb := zpl_b p hp
            have : q = p := (nI_eq (by omega) (by omega)).mp hqp
            subst this
            exact zp_no2 q (by omega) i h2i (by omega) hz hp
          refine bX12_prime_10 _ _ _ ⟨fun _ => hno hnot, fun _ => ⟨fun _ => hno hnot, fun h => absurd rfl h⟩⟩
        · rw [← nI_succ]
          refine ih (i + 1) (by omega) (by omega) (fun k h1 h2 => ?_)
          by_cases e : k = i
          · subst e
            exact fun z => h (by rw [z]; rfl)
          · exact hk k h1 (by omega)
    exact key (q - 2) 2 (by omega) (by omega) (fun k h1 h2 => by omega)
  · rw [if_neg c]
    have hnot : ¬ ∃ p, p ∈ zpl ∧ u = nI p := by
      rintro ⟨p, hp, rfl⟩
      have := zpl_b p hp
      exact c ⟨nI_le (a := 5) (by omega) (by omega), nI_le (b := 97) (by omega) (by omega)⟩
    exact bX12_prime_10 _ _ _ ⟨fun _ => hno hnot, fun _ => ⟨fun _ => hno hnot, fun h => absurd rfl h⟩⟩
theorem mSt_3 {i : Nat} {v : Int32} {S' : Nat → Nat} (hS : mSt M 119 S V) (hi : i < 9) (h0 : S' 0 = S 0) (h8 : S' 8 ≤ S 8) (hv : v = if i = 6 then nI (S' 6) - 1 else nI (S' i)) (ho : ∀ j, j < 9 → j ≠ i → S' j = S j) : mSt (ms M 119 i v) 119 S' V := by
  obtain ⟨g0, g1, g2, g3, g4, g5, g6, g7, g8, g9⟩ := hS
  have hr : ∀ (j : Nat) (w : Int32), j < 9 → j ≠ 6 → M 119 j = nI (S j) → (ms M 119 i v) 119 j = nI (S' j) := by
    intro j w hj hj6 hm
    by_cases e : j = i
    · subst e; rw [ms_is, hv, if_neg hj6]
    · rw [ms_no _ _ _ _ _ _ (fun q => e q.2), hm, ho j hj e]
  refine ⟨hr 0 0 (by omega) (by omega) g0, hr 1 0 (by omega) (by omega) g1, hr 2 0 (by omega) (by omega) g2, hr 3 0 (by omega) (by omega) g3, hr 4 0 (by omega) (by omega) g4, hr 5 0 (by omega) (by omega) g5, ?_, hr 7 0 (by omega) (by omega) g7, hr 8 0 (by omega) (by omega) g8, fun k hk s hs => ?_⟩
  · by_cases e : i = 6
    · subst e; rw [ms_is, hv, if_pos rfl]
    · rw [ms_no _ _ _ _ _ _ (fun q => e q.2.symm), g6, ho 6 (by omega) (fun q => e q.symm)]
  · rw [ms_no _ _ _ _ _ _ (by omega)]
    rw [h0] at hs
    exact g9 k (by omega) s hs
theorem kX12_numbers (hd : 3 ≤ d) {u w : Int32} (hS : mSt M 119 S V) (hw : wSt S V) : mX12_numbers X ad ca d x [.ref 118, .int u, .int w] M (q_i (PT x) (fun s M' => ∃ S', rNumbers S u w s S' ∧ mSt M' 119 S' V ∧ ∀ i, i ≠ 119 → M' i = M i)) := by
  obtain ⟨d, rfl⟩ := a_d1 (show 1 ≤ d by omega)
  have hpb := zpl_b _ hw.1.2.2.2.1
  have h2 := hS.2.2.1
  have e1 : nI (S 2) - 1 = nI (S 2 - 1) := pk_sub (a := S 2) (b := 1) (by omega)
  have hno : ∀ M' : a_M, M' = M → (¬ ∃ t e, 1 ≤ t ∧ t < S 2 ∧ e < S 2 ∧ u = nI t ∧ w = nI e) → wX12_numbers X ad ca d x (q_i (PT x) (fun s M' => ∃ S', rNumbers S u w s S' ∧ mSt M' 119 S' V ∧ ∀ i, i ≠ 119 → M' i = M i)) 24 [] M' := by
    rintro M' rfl hn
    exact bX12_numbers_24 ⟨_, rfl, rfl, S, Or.inr ⟨hn, rfl, rfl⟩, hS, fun _ _ => rfl⟩
  refine eX12_numbers _ _ (bX12_numbers_0 _ _ ⟨_, kX12_in (by omega) _ _ _, ?_⟩)
  rintro v1 M1 ⟨rfl, rfl⟩
  rw [h2, e1]
  refine ⟨fun h9 => hno _ rfl ?_, fun h9 => ⟨_, kX12_isNumber (by omega) _ h2 (by omega) (by omega), ?_⟩⟩
  · rintro ⟨t, e, ht, ht2, he, rfl, rfl⟩
    rw [if_pos ⟨nI_le (a := 1) ht (by omega), nI_le (by omega) (by omega)⟩] at h9
    exact absurd h9 (by decide)
  rintro v1 M1 ⟨rfl, rfl⟩
  refine ⟨fun h10 => ?_, fun h10 => hno _ rfl ?_⟩
  · have c1 : (1 : Int32) ≤ u ∧ u ≤ nI (S 2 - 1) := Classical.byContradiction fun q => h9 (if_neg q)
    obtain ⟨t, ht, rfl⟩ := nI_of2 (n := S 2 - 1) (nI_toInt (by omega)) (fun q => (fa_of_lt (fa_trans q (show (0 : Int32) ≤ 1 by decide))).2.1 c1.1) c1.2
    obtain ⟨e, he, rfl⟩ : ∃ k, k < S 2 ∧ w = nI k := Classical.byContradiction fun q => h10 (if_neg q)
    have ht1 : 1 ≤ t := Classical.byContradiction fun c => (fa_of_lt (nI_lt (a := t) (b := 1) (by omega) (by omega))).2.1 c1.1
    have hA : mSt (ms M1 119 3 (nI t)) 119 (va_up S 3 t) V := mSt_3 hS (by omega) (vn _ _ _ _ (by decide)) (by rw [vn _ _ _ _ (by decide)]; exact Nat.le_refl _) (by rw [if_neg (by decide), vu]) (fun j _ hj => vn _ _ _ _ hj)
    have hB : mSt (ms (ms M1 119 3 (nI t)) 119 4 (nI e)) 119 (va_up (va_up S 3 t) 4 e) V := mSt_3 hA (by omega) (vn _ _ _ _ (by decide)) (by rw [vn _ _ _ _ (by decide)]; exact Nat.le_refl _) (by rw [if_neg (by decide), vu]) (fun j _ hj => vn _ _ _ _ hj)
    exact ⟨_, rfl, rfl, _, Or.inl ⟨t, e, ht1, by omega, he, rfl, rfl, rfl, rfl⟩, hB, fun i hi => by rw [ms_row _ _ _ _ _ hi, ms_row _ _ _ _ _ hi]⟩
  · rintro ⟨t, e, ht, ht2, he, rfl, rfl⟩
    rw [if_pos ⟨e, he, rfl⟩] at h10
    exact absurd h10 (by decide)
theorem kX12_by (hd : 2 ≤ d) {u : Int32} (hS : mSt M 119 S V) (hw : wSt S V) : mX12_by X ad ca d x [.ref 118, .int u] M (q_i (PT x) (fun s M' => ∃ S', rBy S u s S' ∧ mSt M' 119 S' V ∧ ∀ i, i ≠ 119 → M' i = M i)) := by
  obtain ⟨d, rfl⟩ := a_d1 (show 1 ≤ d by omega)
  have hw5 := hw.2.1
  have hyes : ∀ k, k ≤ S 5 → u = nI k - 1 → wX12_by X ad ca d x (q_i (PT x) (fun s M' => ∃ S', rBy S u s S' ∧ mSt M' 119 S' V ∧ ∀ i, i ≠ 119 → M' i = M i)) 23 [(0, .ref 118), (1, .int u)] M := by
    rintro k hk rfl
    exact bX12_by_23 _ ⟨_, rfl, rfl, _, Or.inl ⟨k, hk, rfl, rfl, rfl⟩, mSt_3 hS (by omega) (vn _ _ _ _ (by decide)) (by rw [vn _ _ _ _ (by decide)]; exact Nat.le_refl _) (by rw [if_pos rfl, vu]) (fun j _ hj => vn _ _ _ _ hj), fun i hi => ms_row _ _ _ _ _ hi⟩
  refine eX12_by _ (bX12_by_0 _ ⟨fun h => hyes 0 (by omega) (by rw [h]; rfl), fun h => ⟨_, kX12_in (by omega) _ _ _, ?_⟩⟩)
  rintro v1 M1 ⟨rfl, rfl⟩
  have h5 : M1 119 5 = nI (S 5) := hS.2.2.2.2.2.1
  rw [h5]
  refine ⟨fun h9 => ?_, fun h9 => ⟨_, rfl, rfl, S, Or.inr ⟨?_, rfl, rfl⟩, hS, fun _ _ => rfl⟩⟩
  · have c1 : (0 : Int32) ≤ u ∧ u ≤ nI (S 5) - 1 := Classical.byContradiction fun q => h9 (if_neg q)
    by_cases e0 : S 5 = 0
    · rw [e0] at c1
      exfalso
      have h1 := (fa_le _ _).mp c1.1
      have h2 := (fa_le _ _).mp c1.2
      have e1 : (nI 0 - 1 : Int32).toInt = -1 := rfl
      have e2 : (0 : Int32).toInt = 0 := rfl
      omega
    · have e1 : nI (S 5) - 1 = nI (S 5 - 1) := pk_sub (a := S 5) (b := 1) (by omega)
      rw [e1] at c1
      obtain ⟨t, ht, e⟩ := nI_of2 (n := S 5 - 1) (nI_toInt (by omega)) (fun q => (fa_of_lt q).2.1 c1.1) c1.2
      exact hyes (t + 1) (by omega) (by rw [nI_pred]; exact e)
  · rintro ⟨k, hk, hu⟩
    by_cases e : k = 0
    · subst e
      exact h (by rw [hu]; rfl)
    · obtain ⟨j, rfl⟩ : ∃ j, k = j + 1 := ⟨k - 1, by omega⟩
      rw [nI_pred] at hu
      have e1 : nI (S 5) - 1 = nI (S 5 - 1) := pk_sub (a := S 5) (b := 1) (by omega)
      rw [e1, hu, if_pos ⟨nI_pos' (by omega), nI_le (by omega) (by omega)⟩] at h9
      exact absurd h9 (by decide)
theorem kX12_undo (hd : 1 ≤ d) (hS : mSt M 119 S V) (hw : wSt S V) : mX12_undo X ad ca d x [.ref 118] M (q_i (PT x) (fun s M' => ∃ S', rUndo S s S' ∧ mSt M' 119 S' V ∧ ∀ i, i ≠ 119 → M' i = M i)) := by
  obtain ⟨d, rfl⟩ := a_d1 hd
  obtain ⟨w1, w2, w3, w4, w5, w6⟩ := hw
  have h7 : M 119 7 = nI (S 7) := hS.2.2.2.2.2.2.2.1
  refine eX12_undo (bX12_undo_0 ?_)
  rw [h7]
  refine ⟨fun h => ?_, fun h => ⟨_, rfl, rfl, S, Or.inr ⟨?_, rfl, rfl⟩, hS, fun _ _ => rfl⟩⟩
  · have h0 : S 7 ≠ 0 := fun q => h (by rw [q]; rfl)
    have e9 : nI (S 7) - 1 = nI (S 7 - 1) := pk_sub (a := S 7) (b := 1) (by omega)
    rw [e9]
    exact ⟨_, rfl, rfl, _, Or.inl ⟨h0, rfl, rfl⟩, mSt_3 hS (by omega) (vn _ _ _ _ (by decide)) (by rw [vn _ _ _ _ (by decide)]; exact Nat.le_refl _) (by rw [if_neg (by decide), vu]) (fun j _ hj => vn _ _ _ _ hj), fun i hi => ms_row _ _ _ _ _ hi⟩
  · rw [← nI_0] at h
    exact (nI_eq (by omega) (by omega)).mp h
theorem kX12_redo (hd : 1 ≤ d) (hS : mSt M 119 S V) (hw : wSt S V) : mX12_redo X ad ca d x [.ref 118] M (q_i (PT x) (fun s M' => ∃ S', rRedo S s S' ∧ mSt M' 119 S' V ∧ ∀ i, i ≠ 119 → M' i = M i)) := by
  obtain ⟨d, rfl⟩ := a_d1 hd
  obtain ⟨w1, w2, w3, w4, w5, w6⟩ := hw
  have h7 : M 119 7 = nI (S 7) := hS.2.2.2.2.2.2.2.1
  have h8 : M 119 8 = nI (S 8) := hS.2.2.2.2.2.2.2.2.1
  refine eX12_redo (bX12_redo_0 ?_)
  rw [h7, h8]
  refine ⟨fun h => ?_, fun h => ⟨_, rfl, rfl, S, Or.inr ⟨(nI_eq (by omega) (by omega)).mp h, rfl, rfl⟩, hS, fun _ _ => rfl⟩⟩
  have h0 : S 7 ≠ S 8 := fun q => h (by rw [q])
  rw [nI_1, pk_sub (a := S 8) (b := S 7 + 1) (by omega)]
  exact ⟨_, rfl, rfl, _, Or.inl ⟨h0, rfl, rfl⟩, mSt_3 hS (by omega) (vn _ _ _ _ (by decide)) (by rw [vn _ _ _ _ (by decide)]; exact Nat.le_refl _) (by rw [if_neg (by decide), vu]) (fun j _ hj => vn _ _ _ _ hj), fun i hi => ms_row _ _ _ _ _ hi⟩
theorem kX12_at (hd : 3 ≤ d) {u : Int32} (hS : mSt M 119 S V) (hw : wSt S V) : mX12_at X ad ca d x [.ref 118, .int u] M (q_i (PT x) (fun s M' => M' = M ∧ rAt S V u s)) := by
  obtain ⟨d, rfl⟩ := a_d1 (show 1 ≤ d by omega)
  obtain ⟨w1, w2, w3, w4, w5, w6⟩ := hw
  have h2n := z_p2 w1.1
  have h7 : M 119 7 = nI (S 7) := hS.2.2.2.2.2.2.2.1
  refine eX12_at _ (bX12_at_0 _ ⟨_, kX12_isState (by omega) _ hS.1 w1.1, ?_⟩)
  rintro v1 M1 ⟨rfl, rfl⟩
  refine ⟨fun h9 => ⟨_, rfl, rfl, rfl, Or.inr ⟨?_, rfl⟩⟩, fun h9 => ?_⟩
  · rintro ⟨a, ha, rfl⟩
    rw [if_pos ⟨a, ha, rfl⟩] at h9
    exact absurd h9 (by decide)
  · obtain ⟨a, ha, rfl⟩ : ∃ k, k < 2 ^ S 0 ∧ u = nI k := Classical.byContradiction fun q => h9 (if_neg q)
    refine ⟨_, kX12_cell (by omega) h7, ?_⟩
    rintro v2 M2 ⟨rfl, rfl⟩
    refine ⟨n_in (by omega) (by omega), _, rfl, rfl, rfl, Or.inl ⟨a, ha, rfl, ?_⟩⟩
    rw [n_cl (by omega)]
    exact hS.2.2.2.2.2.2.2.2.2 (S 7) w4 a ha
theorem kX12_norm (hd : 2 ≤ d) (hS : mSt M 119 S V) (hw : wSt S V) : mX12_norm X ad ca d x [.ref 118] M (q_i (PT x) (fun s M' => M' = M ∧ s = nI (zNo S V))) := by
  obtain ⟨d, rfl⟩ := a_d1 (show 1 ≤ d by omega)
  obtain ⟨w1, w2, w3, w4, w5, w6⟩ := hw
  have h2n := z_p2 w1.1
  have hpb := zpl_b _ w1.2.2.2.1
  have h7 : M 119 7 = nI (S 7) := hS.2.2.2.2.2.2.2.1
  refine eX12_norm (bX12_norm_0 ?_)
  refine a_loop (σ := Nat) (fun i v => wX12_norm X ad ca d x _ 4 [(0, .ref 118), (1, .int (nI v)), (2, .int (nI i))] M) (fun i v => v = zs (fun a => V (S 7) a * V (S 7) a) i % S 2) (2 ^ S 0) ?_ ?_ 0 0 (Nat.zero_le _) (by show 0 = 0 % S 2; rw [Nat.zero_mod])
  · rintro v rfl
    refine bX12_norm_4 _ _ ⟨_, kX12_states (by omega) hS.1 w1.1, ?_⟩
    rintro v1 M1 ⟨rfl, rfl⟩
    exact ⟨fun _ => ⟨_, rfl, rfl, rfl, rfl⟩, fun h => absurd (nI_le (Nat.le_refl _) (by omega)) h⟩
  · rintro i v hi rfl ih
    refine bX12_norm_4 _ _ ⟨_, kX12_states (by omega) hS.1 w1.1, ?_⟩
    rintro v1 M1 ⟨rfl, rfl⟩
    refine ⟨fun h => absurd h (nI_ge hi (by omega)), fun _ => ⟨_, kX12_cell (by omega) h7, ?_⟩⟩
    rintro v1 M1 ⟨rfl, rfl⟩
    refine ⟨n_in (by omega) (by omega), _, kX12_cell (by omega) h7, ?_⟩
    rintro v1 M1 ⟨rfl, rfl⟩
    have hv := w6 (S 7) w4 i hi
    have hvv := n_p2 hv hv (by omega)
    have hm : zs (fun a => V (S 7) a * V (S 7) a) i % S 2 < S 2 := Nat.mod_lt _ (by omega)
    rw [n_cl (by omega), hS.2.2.2.2.2.2.2.2.2 (S 7) w4 i hi, hS.2.2.1, n_mul, nI_add, n_rem (by omega) (by omega) (by omega), ← nI_succ]
    refine ⟨n_in (by omega) (by omega), nI_ne0 (by omega) (by omega), ih _ ?_⟩
    rw [Nat.mod_add_mod]
    rfl
theorem kX12_set (hd : 3 ≤ d) {u : Int32} (hS : mSt M 119 S V) (hw : wSt S V) : mX12_set X ad ca d x [.ref 118, .int u] M (q_i (PT x) (fun s M' => ∃ S' V', rSet S V u s S' V' ∧ mSt M' 119 S' V' ∧ ∀ i, i ≠ 119 → M' i = M i)) := by
  obtain ⟨d, rfl⟩ := a_d1 (show 1 ≤ d by omega)
  have hw1 := hw.1.1
  have h2n := z_p2 hw1
  have hS' := hS
  obtain ⟨h0, h1, h2, h3, h4, h5, h6, h7, h8, h9⟩ := hS'
  refine eX12_set _ (bX12_set_0 _ ⟨_, kX12_isState (by omega) _ hS.1 hw1, ?_⟩)
  rintro v1 M1 ⟨rfl, rfl⟩
  refine ⟨fun hc => ?_, fun hc => ⟨_, rfl, rfl, S, V, Or.inr ⟨?_, rfl, rfl, rfl⟩, hS, fun _ _ => rfl⟩⟩
  · obtain ⟨a, ha, rfl⟩ : ∃ k, k < 2 ^ S 0 ∧ u = nI k := Classical.byContradiction fun q => hc (if_neg q)
    refine ⟨_, kX12_forgets (by omega), ?_⟩
    rintro M2 rfl
    generalize hN0 : ms (ms M1 119 7 0) 119 8 0 = N0
    have key := a_loop (σ := Unit) (fun i _ => wX12_set X ad ca d x (q_i (PT x) (fun s M' => ∃ S' V', rSet S V (nI a) s S' V' ∧ mSt M' 119 S' V' ∧ ∀ i, i ≠ 119 → M' i = M1 i)) 16 [(0, .ref 118), (1, .int (nI a)), (2, .int (nI i))] (mf N0 119 10 (fun j => nI (zu a (j - 10))) (10 + i))) (fun _ _ => True) 128 ?_ ?_ 0 () (by omega) trivial
    · rw [Nat.add_zero, mf_0] at key; exact key
    · intro _ _
      refine bX12_set_16 _ _ ⟨fun _ => ⟨_, rfl, rfl, _, _, Or.inl ⟨a, ha, rfl, rfl, rfl, rfl⟩, ⟨?_, ?_, ?_, ?_, ?_, ?_, ?_, ?_, ?_, fun k hk s hs => ?_⟩, fun i hi => ?_⟩, fun h => absurd (nI_le (Nat.le_refl 128) (by omega)) h⟩
      · rw [mf_out _ _ _ _ _ _ (by omega), ← hN0, ms_no _ _ _ _ _ _ (by simp), ms_no _ _ _ _ _ _ (by simp)]; exact h0
      · rw [mf_out _ _ _ _ _ _ (by omega), ← hN0, ms_no _ _ _ _ _ _ (by simp), ms_no _ _ _ _ _ _ (by simp)]; exact h1
      · rw [mf_out _ _ _ _ _ _ (by omega), ← hN0, ms_no _ _ _ _ _ _ (by simp), ms_no _ _ _ _ _ _ (by simp)]; exact h2
      · rw [mf_out _ _ _ _ _ _ (by omega), ← hN0, ms_no _ _ _ _ _ _ (by simp), ms_no _ _ _ _ _ _ (by simp)]; exact h3
      · rw [mf_out _ _ _ _ _ _ (by omega), ← hN0, ms_no _ _ _ _ _ _ (by simp), ms_no _ _ _ _ _ _ (by simp)]; exact h4
      · rw [mf_out _ _ _ _ _ _ (by omega), ← hN0, ms_no _ _ _ _ _ _ (by simp), ms_no _ _ _ _ _ _ (by simp)]; exact h5
      · rw [mf_out _ _ _ _ _ _ (by omega), ← hN0, ms_no _ _ _ _ _ _ (by simp), ms_no _ _ _ _ _ _ (by simp)]; exact h6
      · rw [mf_out _ _ _ _ _ _ (by omega), ← hN0, ms_no _ _ _ _ _ _ (by simp), ms_is]; rfl
      · rw [mf_out _ _ _ _ _ _ (by omega), ← hN0, ms_is]; rfl
      · have hk0 : k = 0 := by
          have : va_up (va_up S 7 0) 8 0 8 = 0 := vu _ _ _
          omega
        have hsn : s < 2 ^ S 0 := hs
        rw [mf_in _ _ _ _ _ _ (by omega) (by omega), hk0]
        congr 2
        omega
      · rw [mf_no _ _ _ _ _ _ hi, ← hN0, ms_row _ _ _ _ _ hi, ms_row _ _ _ _ _ hi]
    · intro i _ hi _ ih
      have e10 : (10 : Int32) + nI i = nI (10 + i) := by rw [fa_lit 10, nI_add]
      refine bX12_set_16 _ _ ⟨fun h => absurd h (nI_ge (b := 128) hi (by omega)), fun _ => ?_⟩
      rw [e10, n_cl (by omega), ← nI_succ]
      refine ⟨fun h => ⟨n_in (by omega) (by omega), ?_⟩, fun h => ⟨n_in (by omega) (by omega), ?_⟩⟩
      · have hne : i ≠ a := fun e => h (by rw [e])
        rw [mf_s (by omega) (by unfold zu; rw [if_neg (by omega)]; rfl)]
        exact ih () trivial
      · have he : i = a := (nI_eq (by omega) (by omega)).mp h
        rw [mf_s (by omega) (by unfold zu; rw [if_pos (by omega)]; rfl)]
        exact ih () trivial
  · rintro ⟨a, ha, rfl⟩
    rw [if_pos ⟨a, ha, rfl⟩] at hc
    exact absurd hc (by decide)
theorem kX12_image (hd : 2 ≤ d) (hS : mSt M 119 S V) (hw : wSt S V) : mX12_image X ad ca d x [.ref 118] M (q_i (PT x) (fun s M' => s = nI (S 0) ∧ mSt M' 120 S V ∧ ∀ i, i ≠ 120 → M' i = M i)) := by
  obtain ⟨d, rfl⟩ := a_d1 (show 1 ≤ d by omega)
  have h2n := z_p2 hw.1.1
  have hw8 := hw.2.2.2.2.1
  refine eX12_image (bX12_image_0 ⟨_, kX12_copies1 (by omega), ?_⟩)
  rintro M1 rfl
  obtain ⟨h0, h1, h2, h3, h4, h5, h6, h7, h8, h9⟩ := hS
  have hr : ∀ j, j < 2698 → (mf M 120 0 (M 119) 2698) 120 j = M 119 j := fun j hj => mf_in _ _ _ _ _ _ (Nat.zero_le _) hj
  refine ⟨_, rfl, rfl, by rw [mf_no _ _ _ _ _ _ (by decide)]; exact h0, ⟨by rw [hr _ (by omega)]; exact h0, by rw [hr _ (by omega)]; exact h1, by rw [hr _ (by omega)]; exact h2, by rw [hr _ (by omega)]; exact h3, by rw [hr _ (by omega)]; exact h4, by rw [hr _ (by omega)]; exact h5, by rw [hr _ (by omega)]; exact h6, by rw [hr _ (by omega)]; exact h7, by rw [hr _ (by omega)]; exact h8, fun k hk s hs => by rw [hr _ (by omega)]; exact h9 k hk s hs⟩, fun i hi => mf_no _ _ _ _ _ _ hi⟩
theorem kX12_back (hd : 2 ≤ d) (hS : mSt M 120 S V) (hw : wSt S V) : mX12_back X ad ca d x [.ref 118] M (q_i (PT x) (fun s M' => s = nI (S 0) ∧ mSt M' 119 S V ∧ ∀ i, i ≠ 119 → M' i = M i)) := by
  obtain ⟨d, rfl⟩ := a_d1 (show 1 ≤ d by omega)
  have h2n := z_p2 hw.1.1
  have hw8 := hw.2.2.2.2.1
  refine eX12_back (bX12_back_0 ⟨_, kX12_copies0 (by omega), ?_⟩)
  rintro M1 rfl
  obtain ⟨h0, h1, h2, h3, h4, h5, h6, h7, h8, h9⟩ := hS
  have hr : ∀ j, j < 2698 → (mf M 119 0 (M 120) 2698) 119 j = M 120 j := fun j hj => mf_in _ _ _ _ _ _ (Nat.zero_le _) hj
  refine ⟨_, rfl, rfl, by rw [hr _ (by omega)]; exact h0, ⟨by rw [hr _ (by omega)]; exact h0, by rw [hr _ (by omega)]; exact h1, by rw [hr _ (by omega)]; exact h2, by rw [hr _ (by omega)]; exact h3, by rw [hr _ (by omega)]; exact h4, by rw [hr _ (by omega)]; exact h5, by rw [hr _ (by omega)]; exact h6, by rw [hr _ (by omega)]; exact h7, by rw [hr _ (by omega)]; exact h8, fun k hk s hs => by rw [hr _ (by omega)]; exact h9 k hk s hs⟩, fun i hi => mf_no _ _ _ _ _ _ hi⟩
end Z12
