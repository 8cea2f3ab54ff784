/-! THE LAW 4: the cases -/
theorem zsec_128 {n : Nat} (hn : n < 8) (m : Nat) : (zsec n m).length ≤ 128 := Nat.le_trans (zfl_llen _ _) (b128 hn)
theorem zrd_128 {n : Nat} (hn : n < 8) (m k : Nat) : (zrd n m k).length ≤ 128 := Nat.le_trans (zfl_llen _ _) (b128 hn)
theorem zPl_5 (T : zTx) : ∀ (l : zTx) (k : Nat) (S : Nat → Nat) (V : Nat → Nat → Nat), (zPl T l k S V).2.1 5 = S 5
  | [], _, _, _ => rfl
  | q :: r, k, S, V => by
    unfold zPl
    cases hc : zCl S q with
    | none => exact zPl_5 T r (k + 1) S V
    | some y =>
      obtain ⟨a, j⟩ := y
      show (if a = 1 ∧ S 0 ≤ j then (some k, S, V) else zPl T r (k + 1) (zAcS S) (zAcV S V (zOp S T a j (V (S 7))))).2.1 5 = S 5
      by_cases c : a = 1 ∧ S 0 ≤ j
      · rw [if_pos c]
      · rw [if_neg c, zPl_5 T r (k + 1) (zAcS S) _]
        exact zAcS_no _ 5 (by decide) (by decide)
theorem rPlayed_5 {S S1 : Nat → Nat} {V V1 : Nat → Nat → Nat} {TX : Nat → zTx} {T : zTx} {u s : Int32} (h : rPlayed S V TX T u s S1 V1) : S1 5 = S 5 := by
  rcases h with ⟨t, -, -, -, rfl, -⟩ | ⟨-, -, rfl, -⟩
  · exact zPl_5 _ _ _ _ _
  · rfl
section LC
variable {X : a_X} {ad : Nat → Nat} {ca : Nat → ClassId} {d kc ks i x : Nat} {QF : List Frame → Array Value → State → State → Prop} {M : a_M}
theorem cs_prime (hd : 40 ≤ d) (hi4 : i ≤ 4000) (hi : i + 5 < X.2.1.2.1) (hL : X.2.1.2.1 ≤ 3073) (h : LI i M) (K : ∀ M' x', LI (i + 6) M' → wL X ad ca d kc ks QF 1123 (nI i) M' x') : wL X ad ca d kc ks QF 237 (nI i) M x := by
  obtain ⟨S, V, S2, V2, tl, B, fa, fb, TX, R, RD, w, c, m, hR⟩ := h
  have hw := w.1
  have h5 := hw.2.1
  have h0 := hw.1.1
  have hp := (zpl_b _ hw.1.2.2.2.1).2
  obtain ⟨ρ, ct⟩ := c.told w (by omega)
  have mt := m.told w
  have h6 := hw.2.2.1
  refine bL_237 hi hL ⟨_, kX11_prime (by omega) c.1 hw, ?_⟩
  rintro v1 M1 ⟨S1, V1, r1, c1, f1⟩
  have m1 := m.same (M' := M1) (fun i a b => f1 i (by omega))
  refine ⟨_, kX12_prime (by omega) m1.1 hw, ?_⟩
  rintro v2 M2 ⟨S3, V3, r2, c2, f2⟩
  obtain ⟨e1, e2, e3⟩ := uPrime r1 r2
  rw [← e2, ← e3] at c2
  obtain ⟨w1, w5, w6⟩ := wPrime hw r1
  refine ⟨e1, K M2 x ⟨S1, V1, S2, V2, tl, B, fa, fb, TX, R, RD, ⟨w1, w.2.1, by have := w.2.2.1; omega, fun t ht => w.2.2.2 t (by omega)⟩, (c.st h5 w5 c1 f1).same (by omega) (fun i a => f2 i (by omega)), m1.st w5 c2 f2, by omega⟩⟩
theorem cs_numbers (hd : 40 ≤ d) (hi4 : i ≤ 4000) (hi : i + 5 < X.2.1.2.1) (hL : X.2.1.2.1 ≤ 3073) (h : LI i M) (K : ∀ M' x', LI (i + 6) M' → wL X ad ca d kc ks QF 1123 (nI i) M' x') : wL X ad ca d kc ks QF 260 (nI i) M x := by
  obtain ⟨S, V, S2, V2, tl, B, fa, fb, TX, R, RD, w, c, m, hR⟩ := h
  have hw := w.1
  have h5 := hw.2.1
  have h0 := hw.1.1
  have hp := (zpl_b _ hw.1.2.2.2.1).2
  obtain ⟨ρ, ct⟩ := c.told w (by omega)
  have mt := m.told w
  have h6 := hw.2.2.1
  refine bL_260 hi hL ⟨_, kX11_numbers (by omega) c.1 hw, ?_⟩
  rintro v1 M1 ⟨S1, r1, c1, f1⟩
  have m1 := m.same (M' := M1) (fun i a b => f1 i (by omega))
  refine ⟨_, kX12_numbers (by omega) m1.1 hw, ?_⟩
  rintro v2 M2 ⟨S3, r2, c2, f2⟩
  obtain ⟨e1, e2⟩ := uNumbers hp r1 r2
  rw [← e2] at c2
  obtain ⟨w1, w5, w6⟩ := wNumbers hw r1
  refine ⟨e1, K M2 x ⟨S1, V, S2, V2, tl, B, fa, fb, TX, R, RD, ⟨w1, w.2.1, by have := w.2.2.1; omega, fun t ht => w.2.2.2 t (by omega)⟩, (c.st h5 w5 c1 f1).same (by omega) (fun i a => f2 i (by omega)), m1.st w5 c2 f2, by omega⟩⟩
theorem cs_by (hd : 40 ≤ d) (hi4 : i ≤ 4000) (hi : i + 5 < X.2.1.2.1) (hL : X.2.1.2.1 ≤ 3073) (h : LI i M) (K : ∀ M' x', LI (i + 6) M' → wL X ad ca d kc ks QF 1123 (nI i) M' x') : wL X ad ca d kc ks QF 415 (nI i) M x := by
  obtain ⟨S, V, S2, V2, tl, B, fa, fb, TX, R, RD, w, c, m, hR⟩ := h
  have hw := w.1
  have h5 := hw.2.1
  have h0 := hw.1.1
  have hp := (zpl_b _ hw.1.2.2.2.1).2
  obtain ⟨ρ, ct⟩ := c.told w (by omega)
  have mt := m.told w
  have h6 := hw.2.2.1
  refine bL_415 hi hL ⟨_, kX11_by (by omega) c.1 hw, ?_⟩
  rintro v1 M1 ⟨S1, r1, c1, f1⟩
  have m1 := m.same (M' := M1) (fun i a b => f1 i (by omega))
  refine ⟨_, kX12_by (by omega) m1.1 hw, ?_⟩
  rintro v2 M2 ⟨S3, r2, c2, f2⟩
  obtain ⟨e1, e2⟩ := uBy h5 r1 r2
  rw [← e2] at c2
  obtain ⟨w1, w5⟩ := wBy hw r1
  refine ⟨e1, K M2 x ⟨S1, V, S2, V2, tl, B, fa, fb, TX, R, RD, ⟨w1, w.2.1, by have := w.2.2.1; omega, fun t ht => w.2.2.2 t (by omega)⟩, (c.st h5 w5 c1 f1).same (by omega) (fun i a => f2 i (by omega)), m1.st w5 c2 f2, by omega⟩⟩
theorem cs_set (hd : 40 ≤ d) (hi4 : i ≤ 4000) (hi : i + 5 < X.2.1.2.1) (hL : X.2.1.2.1 ≤ 3073) (h : LI i M) (K : ∀ M' x', LI (i + 6) M' → wL X ad ca d kc ks QF 1123 (nI i) M' x') : wL X ad ca d kc ks QF 890 (nI i) M x := by
  obtain ⟨S, V, S2, V2, tl, B, fa, fb, TX, R, RD, w, c, m, hR⟩ := h
  have hw := w.1
  have h5 := hw.2.1
  have h0 := hw.1.1
  have hp := (zpl_b _ hw.1.2.2.2.1).2
  obtain ⟨ρ, ct⟩ := c.told w (by omega)
  have mt := m.told w
  have h6 := hw.2.2.1
  refine bL_890 hi hL ⟨_, kX11_set (by omega) c.1 hw, ?_⟩
  rintro v1 M1 ⟨S1, V1, r1, c1, f1⟩
  have m1 := m.same (M' := M1) (fun i a b => f1 i (by omega))
  refine ⟨_, kX12_set (by omega) m1.1 hw, ?_⟩
  rintro v2 M2 ⟨S3, V3, r2, c2, f2⟩
  obtain ⟨e1, e2, e3⟩ := uSet h0 r1 r2
  rw [← e2, ← e3] at c2
  obtain ⟨w1, w5, w6⟩ := wSet hw r1
  refine ⟨e1, K M2 x ⟨S1, V1, S2, V2, tl, B, fa, fb, TX, R, RD, ⟨w1, w.2.1, by have := w.2.2.1; omega, fun t ht => w.2.2.2 t (by omega)⟩, (c.st h5 w5 c1 f1).same (by omega) (fun i a => f2 i (by omega)), m1.st w5 c2 f2, by omega⟩⟩
theorem cs_undo (hd : 40 ≤ d) (hi4 : i ≤ 4000) (hi : i + 5 < X.2.1.2.1) (hL : X.2.1.2.1 ≤ 3073) (h : LI i M) (K : ∀ M' x', LI (i + 6) M' → wL X ad ca d kc ks QF 1123 (nI i) M' x') : wL X ad ca d kc ks QF 969 (nI i) M x := by
  obtain ⟨S, V, S2, V2, tl, B, fa, fb, TX, R, RD, w, c, m, hR⟩ := h
  have hw := w.1
  have h5 := hw.2.1
  have h0 := hw.1.1
  have hp := (zpl_b _ hw.1.2.2.2.1).2
  obtain ⟨ρ, ct⟩ := c.told w (by omega)
  have mt := m.told w
  have h6 := hw.2.2.1
  refine bL_969 hi hL ⟨_, kX11_undo (by omega) c.1 hw, ?_⟩
  rintro v1 M1 ⟨S1, r1, c1, f1⟩
  have m1 := m.same (M' := M1) (fun i a b => f1 i (by omega))
  refine ⟨_, kX12_undo (by omega) m1.1 hw, ?_⟩
  rintro v2 M2 ⟨S3, r2, c2, f2⟩
  obtain ⟨e1, e2⟩ := uUndo r1 r2
  rw [← e2] at c2
  obtain ⟨w1, w5, w6⟩ := wUndo hw r1
  refine ⟨e1, K M2 x ⟨S1, V, S2, V2, tl, B, fa, fb, TX, R, RD, ⟨w1, w.2.1, by have := w.2.2.1; omega, fun t ht => w.2.2.2 t (by omega)⟩, (c.st h5 w5 c1 f1).same (by omega) (fun i a => f2 i (by omega)), m1.st w5 c2 f2, by omega⟩⟩
theorem cs_redo (hd : 40 ≤ d) (hi4 : i ≤ 4000) (hi : i + 5 < X.2.1.2.1) (hL : X.2.1.2.1 ≤ 3073) (h : LI i M) (K : ∀ M' x', LI (i + 6) M' → wL X ad ca d kc ks QF 1123 (nI i) M' x') : wL X ad ca d kc ks QF 982 (nI i) M x := by
  obtain ⟨S, V, S2, V2, tl, B, fa, fb, TX, R, RD, w, c, m, hR⟩ := h
  have hw := w.1
  have h5 := hw.2.1
  have h0 := hw.1.1
  have hp := (zpl_b _ hw.1.2.2.2.1).2
  obtain ⟨ρ, ct⟩ := c.told w (by omega)
  have mt := m.told w
  have h6 := hw.2.2.1
  refine bL_982 hi hL ⟨_, kX11_redo (by omega) c.1 hw, ?_⟩
  rintro v1 M1 ⟨S1, r1, c1, f1⟩
  have m1 := m.same (M' := M1) (fun i a b => f1 i (by omega))
  refine ⟨_, kX12_redo (by omega) m1.1 hw, ?_⟩
  rintro v2 M2 ⟨S3, r2, c2, f2⟩
  obtain ⟨e1, e2⟩ := uRedo r1 r2
  rw [← e2] at c2
  obtain ⟨w1, w5, w6⟩ := wRedo hw r1
  refine ⟨e1, K M2 x ⟨S1, V, S2, V2, tl, B, fa, fb, TX, R, RD, ⟨w1, w.2.1, by have := w.2.2.1; omega, fun t ht => w.2.2.2 t (by omega)⟩, (c.st h5 w5 c1 f1).same (by omega) (fun i a => f2 i (by omega)), m1.st w5 c2 f2, by omega⟩⟩
theorem cs_at (hd : 40 ≤ d) (hi4 : i ≤ 4000) (hi : i + 5 < X.2.1.2.1) (hL : X.2.1.2.1 ≤ 3073) (h : LI i M) (K : ∀ M' x', LI (i + 6) M' → wL X ad ca d kc ks QF 1123 (nI i) M' x') : wL X ad ca d kc ks QF 995 (nI i) M x := by
  obtain ⟨S, V, S2, V2, tl, B, fa, fb, TX, R, RD, w, c, m, hR⟩ := h
  have hw := w.1
  have h5 := hw.2.1
  have h0 := hw.1.1
  have hp := (zpl_b _ hw.1.2.2.2.1).2
  obtain ⟨ρ, ct⟩ := c.told w (by omega)
  have mt := m.told w
  have h6 := hw.2.2.1
  refine bL_995 hi hL ⟨_, kX11_at (by omega) c.1 hw, ?_⟩
  rintro v1 M1 ⟨rfl, r1⟩
  have c1 : CI M1 S V S2 V2 tl B fa fb TX R RD := c
  have m1 : MI M1 S V S2 V2 tl B fa fb TX := m
  have mt1 := m1.told w
  refine ⟨_, kX12_at (by omega) m1.1 hw, ?_⟩
  rintro v2 M2 ⟨rfl, r2⟩
  refine ⟨uAt h0 r1 r2, K M2 x ⟨S, V, S2, V2, tl, B, fa, fb, TX, R, RD, w, c1, m1, by omega⟩⟩
theorem cs_norm (hd : 40 ≤ d) (hi4 : i ≤ 4000) (hi : i + 5 < X.2.1.2.1) (hL : X.2.1.2.1 ≤ 3073) (h : LI i M) (K : ∀ M' x', LI (i + 6) M' → wL X ad ca d kc ks QF 1123 (nI i) M' x') : wL X ad ca d kc ks QF 1018 (nI i) M x := by
  obtain ⟨S, V, S2, V2, tl, B, fa, fb, TX, R, RD, w, c, m, hR⟩ := h
  have hw := w.1
  have h5 := hw.2.1
  have h0 := hw.1.1
  have hp := (zpl_b _ hw.1.2.2.2.1).2
  obtain ⟨ρ, ct⟩ := c.told w (by omega)
  have mt := m.told w
  have h6 := hw.2.2.1
  refine bL_1018 hi hL ⟨_, kX11_norm (by omega) c.1 hw, ?_⟩
  rintro v1 M1 ⟨rfl, r1⟩
  have c1 : CI M1 S V S2 V2 tl B fa fb TX R RD := c
  have m1 : MI M1 S V S2 V2 tl B fa fb TX := m
  have mt1 := m1.told w
  refine ⟨_, kX12_norm (by omega) m1.1 hw, ?_⟩
  rintro v2 M2 ⟨rfl, r2⟩
  refine ⟨r1.trans r2.symm, K M2 x ⟨S, V, S2, V2, tl, B, fa, fb, TX, R, RD, w, c1, m1, by omega⟩⟩
theorem cs_root (hd : 40 ≤ d) (hi4 : i ≤ 4000) (hi : i + 5 < X.2.1.2.1) (hL : X.2.1.2.1 ≤ 3073) (h : LI i M) (K : ∀ M' x', LI (i + 6) M' → wL X ad ca d kc ks QF 1123 (nI i) M' x') : wL X ad ca d kc ks QF 801 (nI i) M x := by
  obtain ⟨S, V, S2, V2, tl, B, fa, fb, TX, R, RD, w, c, m, hR⟩ := h
  have hw := w.1
  have h5 := hw.2.1
  have h0 := hw.1.1
  have hp := (zpl_b _ hw.1.2.2.2.1).2
  obtain ⟨ρ, ct⟩ := c.told w (by omega)
  have mt := m.told w
  have h6 := hw.2.2.1
  refine bL_801 hi hL ⟨_, kX11_root (by omega) c.1 hw, ?_⟩
  rintro v1 M1 ⟨rfl, r1⟩
  have c1 : CI M1 S V S2 V2 tl B fa fb TX R RD := c
  have m1 : MI M1 S V S2 V2 tl B fa fb TX := m
  have mt1 := m1.told w
  refine ⟨_, kX12_root (by omega) m1.1.H hw.1, ?_⟩
  rintro v2 M2 ⟨rfl, r2⟩
  refine ⟨Eq.trans r1 (Eq.symm r2), K M2 x ⟨S, V, S2, V2, tl, B, fa, fb, TX, R, RD, w, c1, m1, by omega⟩⟩
theorem cs_mean (hd : 40 ≤ d) (hi4 : i ≤ 4000) (hi : i + 5 < X.2.1.2.1) (hL : X.2.1.2.1 ≤ 3073) (h : LI i M) (K : ∀ M' x', LI (i + 6) M' → wL X ad ca d kc ks QF 1123 (nI i) M' x') : wL X ad ca d kc ks QF 814 (nI i) M x := by
  obtain ⟨S, V, S2, V2, tl, B, fa, fb, TX, R, RD, w, c, m, hR⟩ := h
  have hw := w.1
  have h5 := hw.2.1
  have h0 := hw.1.1
  have hp := (zpl_b _ hw.1.2.2.2.1).2
  obtain ⟨ρ, ct⟩ := c.told w (by omega)
  have mt := m.told w
  have h6 := hw.2.2.1
  refine bL_814 hi hL ⟨_, kX11_mean (by omega) _ _ c.1 hw, ?_⟩
  rintro v1 M1 ⟨rfl, r1⟩
  have c1 : CI M1 S V S2 V2 tl B fa fb TX R RD := c
  have m1 : MI M1 S V S2 V2 tl B fa fb TX := m
  have mt1 := m1.told w
  refine ⟨_, kX12_mean (by omega) m1.1.H hw.1 _ _, ?_⟩
  rintro v2 M2 ⟨rfl, r2⟩
  refine ⟨uMean h0 r1 r2, K M2 x ⟨S, V, S2, V2, tl, B, fa, fb, TX, R, RD, w, c1, m1, by omega⟩⟩
theorem cs_about (hd : 40 ≤ d) (hi4 : i ≤ 4000) (hi : i + 5 < X.2.1.2.1) (hL : X.2.1.2.1 ≤ 3073) (h : LI i M) (K : ∀ M' x', LI (i + 6) M' → wL X ad ca d kc ks QF 1123 (nI i) M' x') : wL X ad ca d kc ks QF 1100 (nI i) M x := by
  obtain ⟨S, V, S2, V2, tl, B, fa, fb, TX, R, RD, w, c, m, hR⟩ := h
  have hw := w.1
  have h5 := hw.2.1
  have h0 := hw.1.1
  have hp := (zpl_b _ hw.1.2.2.2.1).2
  obtain ⟨ρ, ct⟩ := c.told w (by omega)
  have mt := m.told w
  have h6 := hw.2.2.1
  refine bL_1100 hi hL ⟨_, kX11_about (by omega) c.1 hw c.2.2.1 _, ?_⟩
  rintro v1 M1 ⟨rfl, r1⟩
  have c1 : CI M1 S V S2 V2 tl B fa fb TX R RD := c
  have m1 : MI M1 S V S2 V2 tl B fa fb TX := m
  have mt1 := m1.told w
  refine ⟨_, kX12_about (by omega) m1.1 hw m1.2.2.1 _, ?_⟩
  rintro v2 M2 ⟨rfl, r2⟩
  refine ⟨uAbout r1 r2, K M2 x ⟨S, V, S2, V2, tl, B, fa, fb, TX, R, RD, w, c1, m1, by omega⟩⟩
theorem cs_fault (hd : 40 ≤ d) (hi4 : i ≤ 4000) (hi : i + 5 < X.2.1.2.1) (hL : X.2.1.2.1 ≤ 3073) (h : LI i M) (K : ∀ M' x', LI (i + 6) M' → wL X ad ca d kc ks QF 1123 (nI i) M' x') : wL X ad ca d kc ks QF 392 (nI i) M x := by
  obtain ⟨S, V, S2, V2, tl, B, fa, fb, TX, R, RD, w, c, m, hR⟩ := h
  have hw := w.1
  have h5 := hw.2.1
  have h0 := hw.1.1
  have hp := (zpl_b _ hw.1.2.2.2.1).2
  obtain ⟨ρ, ct⟩ := c.told w (by omega)
  have mt := m.told w
  have h6 := hw.2.2.1
  refine bL_392 hi hL ⟨_, kX11_fault (by omega) c.2.2.2.1 _, ?_⟩
  rintro v1 M1 ⟨rfl, r1⟩
  have c1 : CI M1 S V S2 V2 tl B fa fb TX R RD := c
  have m1 : MI M1 S V S2 V2 tl B fa fb TX := m
  have mt1 := m1.told w
  refine ⟨_, kX12_fault (by omega) _, ?_⟩
  rintro v2 M2 ⟨rfl, r2⟩
  refine ⟨by rw [m1.2.2.2.1.1, m1.2.2.2.1.2] at r2; exact Eq.trans r1 (Eq.symm r2), K M2 x ⟨S, V, S2, V2, tl, B, fa, fb, TX, R, RD, w, c1, m1, by omega⟩⟩
theorem cs_sum (hd : 40 ≤ d) (hi4 : i ≤ 4000) (hi : i + 5 < X.2.1.2.1) (hL : X.2.1.2.1 ≤ 3073) (h : LI i M) (K : ∀ M' x', LI (i + 6) M' → wL X ad ca d kc ks QF 1123 (nI i) M' x') : wL X ad ca d kc ks QF 494 (nI i) M x := by
  obtain ⟨S, V, S2, V2, tl, B, fa, fb, TX, R, RD, w, c, m, hR⟩ := h
  have hw := w.1
  have h5 := hw.2.1
  have h0 := hw.1.1
  have hp := (zpl_b _ hw.1.2.2.2.1).2
  obtain ⟨ρ, ct⟩ := c.told w (by omega)
  have mt := m.told w
  have h6 := hw.2.2.1
  refine bL_494 hi hL ⟨_, kX11_sum (by omega) c.1 hw, ?_⟩
  rintro v1 M1 ⟨rfl, r1⟩
  have c1 : CI M1 S V S2 V2 tl B fa fb TX R RD := c
  have m1 : MI M1 S V S2 V2 tl B fa fb TX := m
  have mt1 := m1.told w
  refine ⟨_, kX12_sum (by omega) m1.1.H hw.1 _ _, ?_⟩
  rintro v2 M2 ⟨f2, r2⟩
  refine ⟨uSum h0 r1 r2, K M2 x ⟨S, V, S2, V2, tl, B, fa, fb, TX, R, RD, w, c1.same h5 (fun i a => f2 i (by omega) (by omega)), m1.same (fun i a b => f2 i (by omega) (by omega)), by omega⟩⟩
theorem cs_power (hd : 40 ≤ d) (hi4 : i ≤ 4000) (hi : i + 5 < X.2.1.2.1) (hL : X.2.1.2.1 ≤ 3073) (h : LI i M) (K : ∀ M' x', LI (i + 6) M' → wL X ad ca d kc ks QF 1123 (nI i) M' x') : wL X ad ca d kc ks QF 1031 (nI i) M x := by
  obtain ⟨S, V, S2, V2, tl, B, fa, fb, TX, R, RD, w, c, m, hR⟩ := h
  have hw := w.1
  have h5 := hw.2.1
  have h0 := hw.1.1
  have hp := (zpl_b _ hw.1.2.2.2.1).2
  obtain ⟨ρ, ct⟩ := c.told w (by omega)
  have mt := m.told w
  have h6 := hw.2.2.1
  refine bL_1031 hi hL ⟨_, kX11_power (by omega) c.1 hw, ?_⟩
  rintro v1 M1 ⟨f1, r1⟩
  have c1 : CI M1 S V S2 V2 tl B fa fb TX R RD := c.few h5 (fun i _ a b _ _ _ _ => f1 i a b)
  have m1 : MI M1 S V S2 V2 tl B fa fb TX := m.same (fun i a b => f1 i (by omega) (by omega))
  have mt1 := m1.told w
  refine ⟨_, kX12_power (by omega) m1.1.H hw.1 _ _ _, ?_⟩
  rintro v2 M2 ⟨f2, r2⟩
  refine ⟨uPower h0 r1 r2, K M2 x ⟨S, V, S2, V2, tl, B, fa, fb, TX, R, RD, w, c1.same h5 (fun i a => f2 i (by omega) (by omega)), m1.same (fun i a b => f2 i (by omega) (by omega)), by omega⟩⟩
theorem cs_weight (hd : 40 ≤ d) (hi4 : i ≤ 4000) (hi : i + 5 < X.2.1.2.1) (hL : X.2.1.2.1 ≤ 3073) (h : LI i M) (K : ∀ M' x', LI (i + 6) M' → wL X ad ca d kc ks QF 1123 (nI i) M' x') : wL X ad ca d kc ks QF 438 (nI i) M x := by
  obtain ⟨S, V, S2, V2, tl, B, fa, fb, TX, R, RD, w, c, m, hR⟩ := h
  have hw := w.1
  have h5 := hw.2.1
  have h0 := hw.1.1
  have hp := (zpl_b _ hw.1.2.2.2.1).2
  obtain ⟨ρ, ct⟩ := c.told w (by omega)
  have mt := m.told w
  have h6 := hw.2.2.1
  refine bL_438 hi hL ⟨_, kX11_weight (by omega) _ _ c.1 hw ct.2.2.2.1 ct.2.2.2.2.1, ?_⟩
  rintro v1 M1 ⟨f1, r1⟩
  have c1 : CI M1 S V S2 V2 tl B fa fb TX R RD := c.few h5 (fun i a1 a2 a3 a4 a5 a6 a7 => f1 i (by have := zts_w (k := S 6) (by omega); omega))
  have m1 : MI M1 S V S2 V2 tl B fa fb TX := m.same (fun i a b => f1 i (by have := zts_w (k := S 6) (by omega); omega))
  have mt1 := m1.told w
  refine ⟨_, kX12_weight (by omega) mt1 m1.1.H hw.1 _ _, ?_⟩
  rintro v2 M2 ⟨f2, r2⟩
  refine ⟨uWeight hp r1 r2, K M2 x ⟨S, V, S2, V2, tl, B, fa, fb, TX, R, RD, w, c1.same h5 (fun i a => f2.1 i (by omega) (by omega)), m1.K f2, by omega⟩⟩
theorem cs_equation (hd : 40 ≤ d) (hi4 : i ≤ 4000) (hi : i + 5 < X.2.1.2.1) (hL : X.2.1.2.1 ≤ 3073) (h : LI i M) (K : ∀ M' x', LI (i + 6) M' → wL X ad ca d kc ks QF 1123 (nI i) M' x') : wL X ad ca d kc ks QF 471 (nI i) M x := by
  obtain ⟨S, V, S2, V2, tl, B, fa, fb, TX, R, RD, w, c, m, hR⟩ := h
  have hw := w.1
  have h5 := hw.2.1
  have h0 := hw.1.1
  have hp := (zpl_b _ hw.1.2.2.2.1).2
  obtain ⟨ρ, ct⟩ := c.told w (by omega)
  have mt := m.told w
  have h6 := hw.2.2.1
  refine bL_471 hi hL ⟨_, kX11_equation (by omega) _ c.1 hw c.2.2.2.2.1 ct, ?_⟩
  rintro v1 M1 ⟨f1, e1, g1, r1⟩
  have c1 : CI M1 S V S2 V2 tl B fa fb TX R RD := c.ex h5 f1 e1 (fun i a b _ _ => g1 i (by omega) b)
  have m1 : MI M1 S V S2 V2 tl B fa fb TX := m.same (fun i a b => f1 i (by omega) (by omega) (by omega) (by omega) (by omega))
  have mt1 := m1.told w
  refine ⟨_, kX12_equation (by omega) mt1 m1.1.H hw.1 _, ?_⟩
  rintro v2 M2 ⟨f2, r2⟩
  refine ⟨uEq r1 r2, K M2 x ⟨S, V, S2, V2, tl, B, fa, fb, TX, R, RD, w, c1.same h5 (fun i a => f2.1 i (by omega) (by omega)), m1.K f2, by omega⟩⟩
theorem cs_table (hd : 40 ≤ d) (hi4 : i ≤ 4000) (hi : i + 5 < X.2.1.2.1) (hL : X.2.1.2.1 ≤ 3073) (h : LI i M) (K : ∀ M' x', LI (i + 6) M' → wL X ad ca d kc ks QF 1123 (nI i) M' x') : wL X ad ca d kc ks QF 527 (nI i) M x := by
  obtain ⟨S, V, S2, V2, tl, B, fa, fb, TX, R, RD, w, c, m, hR⟩ := h
  have hw := w.1
  have h5 := hw.2.1
  have h0 := hw.1.1
  have hp := (zpl_b _ hw.1.2.2.2.1).2
  obtain ⟨ρ, ct⟩ := c.told w (by omega)
  have mt := m.told w
  have h6 := hw.2.2.1
  refine bL_527 hi hL ⟨_, kX11_table (by omega) _ _ _ c.1 hw c.2.2.2.2.1 ct, ?_⟩
  rintro v1 M1 ⟨f1, e1, g1, r1⟩
  have c1 : CI M1 S V S2 V2 tl B fa fb TX R RD := c.ex h5 f1 e1 (fun i a b _ _ => g1 i (by omega) b)
  have m1 : MI M1 S V S2 V2 tl B fa fb TX := m.same (fun i a b => f1 i (by omega) (by omega) (by omega) (by omega) (by omega))
  have mt1 := m1.told w
  refine ⟨_, kX12_table (by omega) mt1 m1.1.H hw.1 _ _ _, ?_⟩
  rintro v2 M2 ⟨f2, r2⟩
  refine ⟨uTable h0 hp r1 r2, K M2 x ⟨S, V, S2, V2, tl, B, fa, fb, TX, R, RD, w, c1.same h5 (fun i a => f2.1 i (by omega) (by omega)), m1.K f2, by omega⟩⟩
theorem cs_commute (hd : 40 ≤ d) (hi4 : i ≤ 4000) (hi : i + 5 < X.2.1.2.1) (hL : X.2.1.2.1 ≤ 3073) (h : LI i M) (K : ∀ M' x', LI (i + 6) M' → wL X ad ca d kc ks QF 1123 (nI i) M' x') : wL X ad ca d kc ks QF 570 (nI i) M x := by
  obtain ⟨S, V, S2, V2, tl, B, fa, fb, TX, R, RD, w, c, m, hR⟩ := h
  have hw := w.1
  have h5 := hw.2.1
  have h0 := hw.1.1
  have hp := (zpl_b _ hw.1.2.2.2.1).2
  obtain ⟨ρ, ct⟩ := c.told w (by omega)
  have mt := m.told w
  have h6 := hw.2.2.1
  refine bL_570 hi hL ⟨_, kX11_commute (by omega) _ _ c.1 hw c.2.2.2.2.1 ct, ?_⟩
  rintro v1 M1 ⟨f1, r1⟩
  have c1 : CI M1 S V S2 V2 tl B fa fb TX R RD := c.ex h5 f1.1 f1.2.1 f1.2.2
  have m1 : MI M1 S V S2 V2 tl B fa fb TX := m.same (fun i a b => f1.1 i (by omega) (by omega) (by omega) (by omega) (by omega))
  have mt1 := m1.told w
  refine ⟨_, kX12_commute (by omega) mt1 m1.1.H hw.1 _ _, ?_⟩
  rintro v2 M2 ⟨f2, r2⟩
  refine ⟨uCommute hp r1 r2, K M2 x ⟨S, V, S2, V2, tl, B, fa, fb, TX, R, RD, w, c1.same h5 (fun i a => f2.1 i (by omega) (by omega)), m1.K f2, by omega⟩⟩
theorem cs_keeps (hd : 40 ≤ d) (hi4 : i ≤ 4000) (hi : i + 5 < X.2.1.2.1) (hL : X.2.1.2.1 ≤ 3073) (h : LI i M) (K : ∀ M' x', LI (i + 6) M' → wL X ad ca d kc ks QF 1123 (nI i) M' x') : wL X ad ca d kc ks QF 603 (nI i) M x := by
  obtain ⟨S, V, S2, V2, tl, B, fa, fb, TX, R, RD, w, c, m, hR⟩ := h
  have hw := w.1
  have h5 := hw.2.1
  have h0 := hw.1.1
  have hp := (zpl_b _ hw.1.2.2.2.1).2
  obtain ⟨ρ, ct⟩ := c.told w (by omega)
  have mt := m.told w
  have h6 := hw.2.2.1
  refine bL_603 hi hL ⟨_, kX11_keeps (by omega) _ c.1 hw c.2.2.2.2.1 ct, ?_⟩
  rintro v1 M1 ⟨f1, r1⟩
  have c1 : CI M1 S V S2 V2 tl B fa fb TX R RD := c.ex h5 f1.1 f1.2.1 f1.2.2
  have m1 : MI M1 S V S2 V2 tl B fa fb TX := m.same (fun i a b => f1.1 i (by omega) (by omega) (by omega) (by omega) (by omega))
  have mt1 := m1.told w
  refine ⟨_, kX12_keeps (by omega) mt1 m1.1.H hw.1 _, ?_⟩
  rintro v2 M2 ⟨f2, r2⟩
  refine ⟨uKeeps hp r1 r2, K M2 x ⟨S, V, S2, V2, tl, B, fa, fb, TX, R, RD, w, c1.same h5 (fun i a => f2.1 i (by omega) (by omega)), m1.K f2, by omega⟩⟩
theorem cs_size (hd : 40 ≤ d) (hi4 : i ≤ 4000) (hi : i + 5 < X.2.1.2.1) (hL : X.2.1.2.1 ≤ 3073) (h : LI i M) (K : ∀ M' x', LI (i + 6) M' → wL X ad ca d kc ks QF 1123 (nI i) M' x') : wL X ad ca d kc ks QF 626 (nI i) M x := by
  obtain ⟨S, V, S2, V2, tl, B, fa, fb, TX, R, RD, w, c, m, hR⟩ := h
  have hw := w.1
  have h5 := hw.2.1
  have h0 := hw.1.1
  have hp := (zpl_b _ hw.1.2.2.2.1).2
  obtain ⟨ρ, ct⟩ := c.told w (by omega)
  have mt := m.told w
  have h6 := hw.2.2.1
  refine bL_626 hi hL ⟨_, kX11_size (by omega) _ _ c.1 hw c.2.2.2.2.2.1, ?_⟩
  rintro v1 M1 ⟨f1, r1⟩
  have c1 : CI M1 S V S2 V2 tl B fa fb TX R RD := c.w h5 f1
  have m1 : MI M1 S V S2 V2 tl B fa fb TX := m.same (fun i a b => f1.2 i (by omega))
  have mt1 := m1.told w
  refine ⟨_, kX12_size (by omega) m1.1.H hw.1 _ _, ?_⟩
  rintro v2 M2 ⟨f2, r2⟩
  refine ⟨uSize h0 r1 r2, K M2 x ⟨S, V, S2, V2, tl, B, fa, fb, TX, R, RD, w, c1.same h5 (fun i a => f2.1 i (by omega) (by omega)), m1.K f2, by omega⟩⟩
theorem cs_trace (hd : 40 ≤ d) (hi4 : i ≤ 4000) (hi : i + 5 < X.2.1.2.1) (hL : X.2.1.2.1 ≤ 3073) (h : LI i M) (K : ∀ M' x', LI (i + 6) M' → wL X ad ca d kc ks QF 1123 (nI i) M' x') : wL X ad ca d kc ks QF 659 (nI i) M x := by
  obtain ⟨S, V, S2, V2, tl, B, fa, fb, TX, R, RD, w, c, m, hR⟩ := h
  have hw := w.1
  have h5 := hw.2.1
  have h0 := hw.1.1
  have hp := (zpl_b _ hw.1.2.2.2.1).2
  obtain ⟨ρ, ct⟩ := c.told w (by omega)
  have mt := m.told w
  have h6 := hw.2.2.1
  refine bL_659 hi hL ⟨_, kX11_trace (by omega) _ _ c.1 hw c.2.2.2.2.2.1, ?_⟩
  rintro v1 M1 ⟨f1, r1⟩
  have c1 : CI M1 S V S2 V2 tl B fa fb TX R RD := c.w h5 f1
  have m1 : MI M1 S V S2 V2 tl B fa fb TX := m.same (fun i a b => f1.2 i (by omega))
  have mt1 := m1.told w
  refine ⟨_, kX12_trace (by omega) m1.1.H hw.1 _ _, ?_⟩
  rintro v2 M2 ⟨f2, r2⟩
  refine ⟨uTrace h0 r1 r2, K M2 x ⟨S, V, S2, V2, tl, B, fa, fb, TX, R, RD, w, c1.same h5 (fun i a => f2.1 i (by omega) (by omega)), m1.K f2, by omega⟩⟩
theorem cs_poly (hd : 40 ≤ d) (hi4 : i ≤ 4000) (hi : i + 5 < X.2.1.2.1) (hL : X.2.1.2.1 ≤ 3073) (h : LI i M) (K : ∀ M' x', LI (i + 6) M' → wL X ad ca d kc ks QF 1123 (nI i) M' x') : wL X ad ca d kc ks QF 692 (nI i) M x := by
  obtain ⟨S, V, S2, V2, tl, B, fa, fb, TX, R, RD, w, c, m, hR⟩ := h
  have hw := w.1
  have h5 := hw.2.1
  have h0 := hw.1.1
  have hp := (zpl_b _ hw.1.2.2.2.1).2
  obtain ⟨ρ, ct⟩ := c.told w (by omega)
  have mt := m.told w
  have h6 := hw.2.2.1
  refine bL_692 hi hL ⟨_, kX11_poly (by omega) _ _ _ c.1 hw c.2.2.2.2.2.1, ?_⟩
  rintro v1 M1 ⟨f1, r1⟩
  have c1 : CI M1 S V S2 V2 tl B fa fb TX R RD := c.w h5 f1
  have m1 : MI M1 S V S2 V2 tl B fa fb TX := m.same (fun i a b => f1.2 i (by omega))
  have mt1 := m1.told w
  refine ⟨_, kX12_poly (by omega) m1.1.H hw.1 _ _ _, ?_⟩
  rintro v2 M2 ⟨f2, r2⟩
  refine ⟨uPoly h0 (zsec_128 h0) (zrd_128 h0) r1 r2, K M2 x ⟨S, V, S2, V2, tl, B, fa, fb, TX, R, RD, w, c1.same h5 (fun i a => f2.1 i (by omega) (by omega)), m1.K f2, by omega⟩⟩
theorem cs_own (hd : 40 ≤ d) (hi4 : i ≤ 4000) (hi : i + 5 < X.2.1.2.1) (hL : X.2.1.2.1 ≤ 3073) (h : LI i M) (K : ∀ M' x', LI (i + 6) M' → wL X ad ca d kc ks QF 1123 (nI i) M' x') : wL X ad ca d kc ks QF 735 (nI i) M x := by
  obtain ⟨S, V, S2, V2, tl, B, fa, fb, TX, R, RD, w, c, m, hR⟩ := h
  have hw := w.1
  have h5 := hw.2.1
  have h0 := hw.1.1
  have hp := (zpl_b _ hw.1.2.2.2.1).2
  obtain ⟨ρ, ct⟩ := c.told w (by omega)
  have mt := m.told w
  have h6 := hw.2.2.1
  refine bL_735 hi hL ⟨_, kX11_own (by omega) _ _ c.1 hw c.2.2.2.2.2.1, ?_⟩
  rintro v1 M1 ⟨f1, r1⟩
  have c1 : CI M1 S V S2 V2 tl B fa fb TX R RD := c.w h5 f1
  have m1 : MI M1 S V S2 V2 tl B fa fb TX := m.same (fun i a b => f1.2 i (by omega))
  have mt1 := m1.told w
  refine ⟨_, kX12_own (by omega) m1.1.H hw.1 _ _, ?_⟩
  rintro v2 M2 ⟨f2, r2⟩
  refine ⟨uOwn h0 r1 r2, K M2 x ⟨S, V, S2, V2, tl, B, fa, fb, TX, R, RD, w, c1.same h5 (fun i a => f2.1 i (by omega) (by omega)), m1.K f2, by omega⟩⟩
theorem cs_often (hd : 40 ≤ d) (hi4 : i ≤ 4000) (hi : i + 5 < X.2.1.2.1) (hL : X.2.1.2.1 ≤ 3073) (h : LI i M) (K : ∀ M' x', LI (i + 6) M' → wL X ad ca d kc ks QF 1123 (nI i) M' x') : wL X ad ca d kc ks QF 768 (nI i) M x := by
  obtain ⟨S, V, S2, V2, tl, B, fa, fb, TX, R, RD, w, c, m, hR⟩ := h
  have hw := w.1
  have h5 := hw.2.1
  have h0 := hw.1.1
  have hp := (zpl_b _ hw.1.2.2.2.1).2
  obtain ⟨ρ, ct⟩ := c.told w (by omega)
  have mt := m.told w
  have h6 := hw.2.2.1
  refine bL_768 hi hL ⟨_, kX11_often (by omega) _ _ c.1 hw c.2.2.2.2.2.1, ?_⟩
  rintro v1 M1 ⟨f1, r1⟩
  have c1 : CI M1 S V S2 V2 tl B fa fb TX R RD := c.w h5 f1
  have m1 : MI M1 S V S2 V2 tl B fa fb TX := m.same (fun i a b => f1.2 i (by omega))
  have mt1 := m1.told w
  refine ⟨_, kX12_often (by omega) m1.1.H hw.1 _ _, ?_⟩
  rintro v2 M2 ⟨f2, r2⟩
  refine ⟨uOften h0 hp r1 r2, K M2 x ⟨S, V, S2, V2, tl, B, fa, fb, TX, R, RD, w, c1.same h5 (fun i a => f2.1 i (by omega) (by omega)), m1.K f2, by omega⟩⟩
theorem cs_pair (hd : 40 ≤ d) (hi4 : i ≤ 4000) (hi : i + 5 < X.2.1.2.1) (hL : X.2.1.2.1 ≤ 3073) (h : LI i M) (K : ∀ M' x', LI (i + 6) M' → wL X ad ca d kc ks QF 1123 (nI i) M' x') : wL X ad ca d kc ks QF 847 (nI i) M x := by
  obtain ⟨S, V, S2, V2, tl, B, fa, fb, TX, R, RD, w, c, m, hR⟩ := h
  have hw := w.1
  have h5 := hw.2.1
  have h0 := hw.1.1
  have hp := (zpl_b _ hw.1.2.2.2.1).2
  obtain ⟨ρ, ct⟩ := c.told w (by omega)
  have mt := m.told w
  have h6 := hw.2.2.1
  refine bL_847 hi hL ⟨_, kX11_pair (by omega) _ _ _ c.1 hw c.2.2.2.2.2.1 c.2.2.2.2.2.2.1, ?_⟩
  rintro v1 M1 ⟨f1, r1⟩
  have c1 : CI M1 S V S2 V2 tl B fa fb TX R RD := c.pf h5 f1.1 f1.2.1 f1.2.2
  have m1 : MI M1 S V S2 V2 tl B fa fb TX := m.same (fun i a b => f1.2.2 i (by omega) (by omega))
  have mt1 := m1.told w
  refine ⟨_, kX12_pair (by omega) m1.1.H hw.1 _ _ _, ?_⟩
  rintro v2 M2 ⟨f2, r2⟩
  refine ⟨uPair h0 r1 r2, K M2 x ⟨S, V, S2, V2, tl, B, fa, fb, TX, R, RD, w, c1.same h5 (fun i a => f2.1 i (by omega) (by omega)), m1.K f2, by omega⟩⟩
theorem cs_chain (hd : 40 ≤ d) (hi4 : i ≤ 4000) (hi : i + 5 < X.2.1.2.1) (hL : X.2.1.2.1 ≤ 3073) (h : LI i M) (K : ∀ M' x', LI (i + 6) M' → wL X ad ca d kc ks QF 1123 (nI i) M' x') : wL X ad ca d kc ks QF 188 (nI i) M x := by
  obtain ⟨S, V, S2, V2, tl, B, fa, fb, TX, R, RD, w, c, m, hR⟩ := h
  have hw := w.1
  have h5 := hw.2.1
  have h0 := hw.1.1
  have hp := (zpl_b _ hw.1.2.2.2.1).2
  obtain ⟨ρ, ct⟩ := c.told w (by omega)
  have mt := m.told w
  have h6 := hw.2.2.1
  have key : ∀ r, r ≤ 1 → ∃ Q1 : Int32 → a_M → Prop, mX11_chain X ad ca d x [.ref 0, .int (X.2.1.2.2 (i + 1)), .int (nI r)] M (q_i (PT x) Q1) ∧ ∀ v1 M1, Q1 v1 M1 → (∃ Q2 : Int32 → a_M → Prop, mX12_chain X ad ca d x [.ref 118, .int (X.2.1.2.2 (i + 1)), .int (nI r)] M1 (q_i (PT x) Q2) ∧ ∀ v2 M2, Q2 v2 M2 → (v1 = v2 ∧ wL X ad ca d kc ks QF 1123 (nI i) M2 x)) := by
    intro r hr
    refine ⟨_, kX11_chain (by omega) hr c.1 hw, ?_⟩
    rintro v1 M1 ⟨S1, V1, r1, c1, f1⟩
    have m1 := m.same (M' := M1) (fun i a b => f1 i (by omega))
    refine ⟨_, kX12_chain (by omega) hr m1.1 hw, ?_⟩
    rintro v2 M2 ⟨S3, V3, r2, c2, f2⟩
    obtain ⟨e1, e2, e3⟩ := uChain r1 r2
    rw [← e2, ← e3] at c2
    obtain ⟨w1, w5, w6⟩ := wChain hr hw r1
    refine ⟨e1, K M2 x ⟨S1, V1, S2, V2, tl, B, fa, fb, TX, R, RD, ⟨w1, w.2.1, by have := w.2.2.1; omega, fun t ht => w.2.2.2 t (by omega)⟩, (c.st h5 w5 c1 f1).same (by omega) (fun i a => f2 i (by omega)), m1.st w5 c2 f2, by omega⟩⟩
  refine bL_188 hi hL ⟨fun z => ?_, fun z => ?_⟩
  · obtain ⟨Q1, a, b⟩ := key 0 (by omega)
    exact ⟨Q1, a, fun v1 M1 h1 => ⟨fun _ => b v1 M1 h1, fun y => absurd z y⟩⟩
  · obtain ⟨Q1, a, b⟩ := key 1 (by omega)
    exact ⟨Q1, a, fun v1 M1 h1 => ⟨fun y => absurd y z, fun _ => b v1 M1 h1⟩⟩
theorem cs_feed (hd : 40 ≤ d) (hi4 : i ≤ 4000) (hi : i + 5 < X.2.1.2.1) (hL : X.2.1.2.1 ≤ 3073) (h : LI i M) (K : ∀ M' x', LI (i + 6) M' → wL X ad ca d kc ks QF 1123 (nI i) M' x') : wL X ad ca d kc ks QF 293 (nI i) M x := by
  obtain ⟨S, V, S2, V2, tl, B, fa, fb, TX, R, RD, w, c, m, hR⟩ := h
  have hw := w.1
  have h5 := hw.2.1
  have h0 := hw.1.1
  have hp := (zpl_b _ hw.1.2.2.2.1).2
  obtain ⟨ρ, ct⟩ := c.told w (by omega)
  have mt := m.told w
  have h6 := hw.2.2.1
  refine bL_293 hi hL ⟨_, kX11_feed (by omega) c.2.2.1 _ _ _ _ _, ?_⟩
  rintro v1 M1 ⟨t1, B1, r1, c1, f1⟩
  have m1 := m.same (M' := M1) (fun i a b => f1.1 i (by omega) (by omega))
  refine ⟨_, kX12_feed (by omega) m1.2.2.1 _ _ _ _ _, ?_⟩
  rintro v2 M2 ⟨t2, B2, r2, c2, f2⟩
  obtain ⟨e1, e2, e3⟩ := uFeed r1 r2
  rw [← e2, ← e3] at c2
  refine ⟨e1, K M2 x ⟨S, V, S2, V2, t1, B1, fa, fb, TX, R, RD, w, (c.tp h5 c1 f1).same h5 (fun i a => f2.1 i (by omega) (by omega)), m1.tp c2 f2, by omega⟩⟩
theorem cs_end (hd : 40 ≤ d) (hi4 : i ≤ 4000) (hi : i + 5 < X.2.1.2.1) (hL : X.2.1.2.1 ≤ 3073) (h : LI i M) (K : ∀ M' x', LI (i + 6) M' → wL X ad ca d kc ks QF 1123 (nI i) M' x') : wL X ad ca d kc ks QF 356 (nI i) M x := by
  obtain ⟨S, V, S2, V2, tl, B, fa, fb, TX, R, RD, w, c, m, hR⟩ := h
  have hw := w.1
  have h5 := hw.2.1
  have h0 := hw.1.1
  have hp := (zpl_b _ hw.1.2.2.2.1).2
  obtain ⟨ρ, ct⟩ := c.told w (by omega)
  have mt := m.told w
  have h6 := hw.2.2.1
  refine bL_356 hi hL ⟨_, kX11_end (by omega) c.2.2.1 _, ?_⟩
  rintro v1 M1 ⟨t1, r1, c1, f1⟩
  have m1 := m.same (M' := M1) (fun i a b => f1.1 i (by omega) (by omega))
  refine ⟨_, kX12_end (by omega) m1.2.2.1 _, ?_⟩
  rintro v2 M2 ⟨t2, r2, c2, f2⟩
  obtain ⟨e1, e2⟩ := uEnd c.2.2.1.2.1 r1 r2
  rw [← e2] at c2
  refine ⟨e1, K M2 x ⟨S, V, S2, V2, t1, B, fa, fb, TX, R, RD, w, (c.tp h5 c1 f1).same h5 (fun i a => f2.1 i (by omega) (by omega)), m1.tp c2 f2, by omega⟩⟩
theorem cs_act (hd : 40 ≤ d) (hi4 : i ≤ 4000) (hi : i + 5 < X.2.1.2.1) (hL : X.2.1.2.1 ≤ 3073) (h : LI i M) (K : ∀ M' x', LI (i + 6) M' → wL X ad ca d kc ks QF 1123 (nI i) M' x') : wL X ad ca d kc ks QF 913 (nI i) M x := by
  obtain ⟨S, V, S2, V2, tl, B, fa, fb, TX, R, RD, w, c, m, hR⟩ := h
  have hw := w.1
  have h5 := hw.2.1
  have h0 := hw.1.1
  have hp := (zpl_b _ hw.1.2.2.2.1).2
  obtain ⟨ρ, ct⟩ := c.told w (by omega)
  have mt := m.told w
  have h6 := hw.2.2.1
  refine bL_913 hi hL ⟨_, kX11_act (by omega) c.1 hw c.2.2.2.2.1 ct, ?_⟩
  rintro v1 M1 ⟨S1, V1, r1, c1, e1, f1⟩
  have m1 := m.same (M' := M1) (fun i a b => f1.1 i (by omega) (by omega) (by omega) (by omega) (by omega))
  refine ⟨_, kX12_act (by omega) m1.1 hw (m1.told w), ?_⟩
  rintro v2 M2 ⟨S3, V3, r2, c2, f2⟩
  obtain ⟨q1, q2, q3⟩ := uAct h0 hp r1 r2
  rw [← q2, ← q3] at c2
  obtain ⟨w1, w5, w6⟩ := wAct hw r1
  refine ⟨q1, K M2 x ⟨S1, V1, S2, V2, tl, B, fa, fb, TX, R, RD, ⟨w1, w.2.1, by have := w.2.2.1; omega, fun t ht => w.2.2.2 t (by omega)⟩, (c.ac h5 w5 c1 e1 f1).same (by omega) (fun i a => f2.1 i (by omega) (by omega) (by omega)), m1.ac w5 c2 f2, by omega⟩⟩
theorem cs_played (hd : 40 ≤ d) (hi4 : i ≤ 4000) (hi : i + 5 < X.2.1.2.1) (hL : X.2.1.2.1 ≤ 3073) (h : LI i M) (K : ∀ M' x', LI (i + 6) M' → wL X ad ca d kc ks QF 1123 (nI i) M' x') : wL X ad ca d kc ks QF 946 (nI i) M x := by
  obtain ⟨S, V, S2, V2, tl, B, fa, fb, TX, R, RD, w, c, m, hR⟩ := h
  have hw := w.1
  have h5 := hw.2.1
  have h0 := hw.1.1
  have hp := (zpl_b _ hw.1.2.2.2.1).2
  obtain ⟨ρ, ct⟩ := c.told w (by omega)
  have mt := m.told w
  have h6 := hw.2.2.1
  refine bL_946 hi hL ⟨_, kX11_played (by omega) (TX := TX) c.1 hw c.2.2.2.2.1 ct (fun t ht => ⟨(c.2.2.2.2.2.2.2.2.1 t ht).1, w.2.2.2 t ht⟩), ?_⟩
  rintro v1 M1 ⟨S1, V1, r1, c1, w1, e1, f1⟩
  have m1 := m.same (M' := M1) (fun i a b => f1.1 i (by omega) (by omega) (by omega) (by omega) (by omega))
  refine ⟨_, kX12_played (by omega) (TX := TX) m1.1 hw (m1.told w) (fun t ht => ⟨(m1.2.2.2.2 t ht).tx (by omega), w.2.2.2 t ht⟩), ?_⟩
  rintro v2 M2 ⟨S3, V3, r2, c2, w2, f2⟩
  obtain ⟨q1, q2, q3⟩ := uPlayed h5 r1 r2
  rw [← q2, ← q3] at c2
  have w5 : S1 5 = S 5 := rPlayed_5 r1
  refine ⟨q1, K M2 x ⟨S1, V1, S2, V2, tl, B, fa, fb, TX, R, RD, ⟨w1, w.2.1, by have := w.2.2.1; omega, fun t ht => w.2.2.2 t (by omega)⟩, (c.ac h5 w5 c1 e1 f1).same (by omega) (fun i a => f2.1 i (by omega) (by omega) (by omega)), m1.ac w5 c2 f2, by omega⟩⟩
theorem cs_image (hd : 40 ≤ d) (hi4 : i ≤ 4000) (hi : i + 5 < X.2.1.2.1) (hL : X.2.1.2.1 ≤ 3073) (h : LI i M) (K : ∀ M' x', LI (i + 6) M' → wL X ad ca d kc ks QF 1123 (nI i) M' x') : wL X ad ca d kc ks QF 1074 (nI i) M x := by
  obtain ⟨S, V, S2, V2, tl, B, fa, fb, TX, R, RD, w, c, m, hR⟩ := h
  have hw := w.1
  have h5 := hw.2.1
  have h0 := hw.1.1
  have hp := (zpl_b _ hw.1.2.2.2.1).2
  obtain ⟨ρ, ct⟩ := c.told w (by omega)
  have mt := m.told w
  have h6 := hw.2.2.1
  refine bL_1074 hi hL ⟨_, kX11_image (by omega) c.1 hw, ?_⟩
  rintro v1 M1 ⟨r1, c1, f1⟩
  have m1 := m.same (M' := M1) (fun i a b => f1 i (by omega))
  refine ⟨_, kX12_image (by omega) m1.1 hw, ?_⟩
  rintro v2 M2 ⟨r2, c2, f2⟩
  refine ⟨r1.trans r2.symm, K M2 x ⟨S, V, S, V, tl, B, fa, fb, TX, R, RD, ⟨hw, hw, Nat.le_refl _, w.2.2.2⟩, (c.im h5 c1 f1).same h5 (fun i a => f2 i (by omega)), m1.im c2 f2, by omega⟩⟩
theorem cs_back (hd : 40 ≤ d) (hi4 : i ≤ 4000) (hi : i + 5 < X.2.1.2.1) (hL : X.2.1.2.1 ≤ 3073) (h : LI i M) (K : ∀ M' x', LI (i + 6) M' → wL X ad ca d kc ks QF 1123 (nI i) M' x') : wL X ad ca d kc ks QF 1087 (nI i) M x := by
  obtain ⟨S, V, S2, V2, tl, B, fa, fb, TX, R, RD, w, c, m, hR⟩ := h
  have hw := w.1
  have h5 := hw.2.1
  have h0 := hw.1.1
  have hp := (zpl_b _ hw.1.2.2.2.1).2
  obtain ⟨ρ, ct⟩ := c.told w (by omega)
  have mt := m.told w
  have h6 := hw.2.2.1
  refine bL_1087 hi hL ⟨_, kX11_back (by omega) c.2.1 w.2.1, ?_⟩
  rintro v1 M1 ⟨r1, c1, f1⟩
  have m1 := m.same (M' := M1) (fun i a b => f1 i (by omega))
  refine ⟨_, kX12_back (by omega) m1.2.1 w.2.1, ?_⟩
  rintro v2 M2 ⟨r2, c2, f2⟩
  have hle := w.2.2.1
  refine ⟨r1.trans r2.symm, K M2 x ⟨S2, V2, S2, V2, tl, B, fa, fb, TX, R, RD, ⟨w.2.1, w.2.1, Nat.le_refl _, fun t ht => w.2.2.2 t (by omega)⟩, (c.bk hle h5 c1 f1).same (by omega) (fun i a => f2 i (by omega)), m1.bk hle c2 f2, by omega⟩⟩
end LC
