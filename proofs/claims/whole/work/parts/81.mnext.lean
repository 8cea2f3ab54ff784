/-! LEXER 5: the reference's next -/
section MN
variable {X : a_X} {ad : Nat → Nat} {ca : Nat → ClassId} {d x : Nat} {M : a_M} {Y : Nat → Nat} {tl : Nat}
theorem lPos_s {k : Nat} (h : lSt Y tl k < tl) : lPos Y tl (k + 1) = lStop Y tl (lSt Y tl k) := by
  show (if lSt Y tl k < tl then _ else _) = _
  rw [if_pos h]
  rfl
theorem lPos_e {k : Nat} (h : lSt Y tl k = tl) : lPos Y tl (k + 1) = tl := by
  show (if lSt Y tl k < tl then _ else lSt Y tl k) = _
  rw [if_neg (by omega), h]
/-- letters -/
theorem wX12_next_99 (hd : 2 ≤ d) {k p : Nat} {M0 : a_M} (hB : nB M0 Y tl) (hp : lSt Y tl k = p) (hpt : p < tl) (hlet : lSo (Y p) = 1) : ∀ f j (x2 : Int64) (M2 : a_M), j + f = tl → p ≤ j → (∀ z, p ≤ z → z < j → lSo (Y z) = 1) → lRun Y tl 1 f j = lStop Y tl p → (j - p ≤ 8 → x2 = lN (lVal 64 (fun z => Y (p + z) - 64) (j - p))) → M2 118 13 = nI j → M2 118 14 = nI p → nF M0 M2 → wX12_next X ad ca d x (q_v (PT x) (fun M' => nT M' Y tl k ∧ nF M0 M')) 99 [(0, .ref 118), (2, .long x2), (4, .int (nI (j - p)))] M2 := by
  have h300 := hB.2.1
  -- the end of the letters
  have fin : ∀ j (x2 : Int64) (M2 : a_M), j ≤ tl → p < j → (∀ z, p ≤ z → z < j → lSo (Y z) = 1) → j = lStop Y tl p → (j - p ≤ 8 → x2 = lN (lVal 64 (fun z => Y (p + z) - 64) (j - p))) → M2 118 13 = nI j → M2 118 14 = nI p → nF M0 M2 → wX12_next X ad ca d x (q_v (PT x) (fun M' => nT M' Y tl k ∧ nF M0 M')) 173 [(0, .ref 118), (2, .long x2), (4, .int (nI (j - p)))] M2 := by
    intro j x2 M2 hj hpj hall hstop hx h13 h14 hF
    have hpos : lPos Y tl (k + 1) = j := by rw [lPos_s (by omega), hp]; exact hstop.symm
    have htk : lTk Y tl k = if 7 < j - p then 256 else lTv (lVal 64 (fun z => Y (p + z) - 64) (j - p)) := by
      unfold lTk
      rw [hp, if_pos hpt, ← hstop]
      unfold lTok
      rw [if_pos hlet]
      rfl
    have bad : lTk Y tl k = 256 → ∀ (t : Int32), nT (ms (ms M2 118 16 t) 118 15 4) Y tl k := fun h t => by
      refine ⟨?_, ?_, Or.inl ?_⟩
      · rw [ms_no _ _ _ _ _ _ (by omega), ms_no _ _ _ _ _ _ (by omega), h14, hp]
      · rw [h, ms_is]
        refine Or.inr (Or.inr (Or.inr ⟨Or.inr rfl, 256, Nat.le_refl _, rfl, fun s hs => ⟨fun z => absurd z.1 (by decide), fun z => by omega⟩⟩))
      · rw [ms_no _ _ _ _ _ _ (by omega), ms_no _ _ _ _ _ _ (by omega), h13, hpos]
    refine bX12_next_173 _ _ ⟨fun q => ?_, fun q => ⟨rfl, rfl, bad ?_ _, (hF.s (by omega)).s (by omega)⟩⟩
    · have h7 : j - p ≤ 7 := (nI_leI (b := 7) (by omega) (by omega)).mp q
      rw [hx (by omega)]
      have hv : lVal 64 (fun z => Y (p + z) - 64) (j - p) < 2 ^ 60 := by
        have key : ∀ n, (∀ z, z < n → Y (p + z) - 64 < 64) → lVal 64 (fun z => Y (p + z) - 64) n < 64 ^ n := by
          intro n
          induction n with
          | zero => intro _; exact Nat.one_pos
          | succ n ih =>
            intro h
            have h1 := ih (fun z hz => h z (by omega))
            have h2 := h n (by omega)
            show 64 * lVal 64 (fun z => Y (p + z) - 64) n + (Y (p + n) - 64) < 64 ^ (n + 1)
            rw [Nat.pow_succ]
            omega
        have h1 := key (j - p) (fun z hz => by have := lSo_1 (hall (p + z) (by omega) (by omega)); omega)
        have h2 : 64 ^ (j - p) ≤ 64 ^ 7 := Nat.pow_le_pow_right (by omega) h7
        have h3 : (64 : Nat) ^ 7 < 2 ^ 60 := by decide
        omega
      refine ⟨_, kX12_wordOf (by omega) hv, ?_⟩
      rintro v1 M3 ⟨rfl, rfl⟩
      rw [if_neg (by omega)] at htk
      unfold lTv at htk
      cases hw : lWd (lVal 64 (fun z => Y (p + z) - 64) (j - p)) with
      | none =>
        rw [hw] at htk
        refine ⟨fun z => absurd z (by decide), fun _ => ⟨rfl, rfl, bad htk _, (hF.s (by omega)).s (by omega)⟩⟩
      | some c =>
        rw [hw] at htk
        have hc := lWd_le hw
        refine ⟨fun _ => ⟨rfl, rfl, ⟨?_, ?_, Or.inl ?_⟩, (hF.s (by omega)).s (by omega)⟩, fun z => absurd (nI_pos' (n := c) (by omega)) z⟩
        · rw [ms_no _ _ _ _ _ _ (by omega), ms_no _ _ _ _ _ _ (by omega), h14, hp]
        · rw [htk, ms_is]
          exact Or.inr (Or.inl ⟨rfl, c, hc, by rw [ms_no _ _ _ _ _ _ (by omega), ms_is], rfl⟩)
        · rw [ms_no _ _ _ _ _ _ (by omega), ms_no _ _ _ _ _ _ (by omega), h13, hpos]
    · rw [htk, if_pos]
      exact Nat.not_le.mp fun z => q (nI_le (b := 7) z (by omega))
  intro f
  induction f with
  | zero =>
    intro j x2 M2 hj hpj hall hrun hx h13 h14 hF
    have hB2 := hB.F hF
    refine bX12_next_99 _ _ ?_
    rw [hB2.1, h13]
    exact ⟨fun _ => fin j x2 M2 (by omega) (by omega) hall hrun hx h13 h14 hF, fun q => absurd (nI_le (show tl ≤ j by omega) (by omega)) q⟩
  | succ f ih =>
    intro j x2 M2 hj hpj hall hrun hx h13 h14 hF
    have hB2 := hB.F hF
    refine bX12_next_99 _ _ ?_
    rw [hB2.1, h13, n_cl (by omega), hB2.2.2.1 j (by omega)]
    refine ⟨fun q => absurd q (nI_ge (show j < tl by omega) (by omega)), fun _ => ⟨n_in (by omega) (by omega), _, kX12_isLetter (by omega) (hB.2.2.2 j), ?_⟩⟩
    rintro v1 M3 ⟨rfl, rfl⟩
    by_cases c : lSo (Y j) = 1
    · rw [if_pos c]
      refine ⟨fun q => absurd q (by decide), fun _ => ?_⟩
      have e2 : lRun Y tl 1 (f + 1) j = lRun Y tl 1 f (j + 1) := by
        show (if j < tl ∧ lSo (Y j) = 1 then _ else j) = _
        rw [if_pos ⟨by omega, c⟩]
      have hall2 : ∀ z, p ≤ z → z < j + 1 → lSo (Y z) = 1 := fun z h1 h2 => by
        by_cases e : z = j
        · rw [e]; exact c
        · exact hall z h1 (by omega)
      have hy := lSo_1 c
      rw [h13, nI_1, nI_1, show j - p + 1 = j + 1 - p by omega, n_cl (by omega), hB2.2.2.1 j (by omega)]
      have hF2 : nF M0 (ms M3 118 13 (nI (j + 1))) := hF.s (by omega)
      have h14' : ms M3 118 13 (nI (j + 1)) 118 14 = nI p := by rw [ms_no _ _ _ _ _ _ (by omega)]; exact h14
      refine ⟨fun q => ih (j + 1) x2 _ (by omega) (by omega) hall2 (by rw [← e2]; exact hrun) (fun z => ?_) (ms_is _ _ _ _) h14' hF2, fun q => ⟨n_in (by omega) (by omega), ih (j + 1) _ _ (by omega) (by omega) hall2 (by rw [← e2]; exact hrun) (fun z => ?_) (ms_is _ _ _ _) h14' hF2⟩⟩
      · exfalso
        have := (nI_leI (a := 8) (by omega) (by omega)).mp q
        omega
      · rw [hx (by omega), l8_low _ (hB.2.2.2 j) (by omega), nI_l (by omega), fa_litL 64, lN_mul, lN_add, lN_sub (by omega), show j + 1 - p = (j - p) + 1 by omega]
        show lN _ = lN (64 * lVal 64 (fun z => Y (p + z) - 64) (j - p) + (Y (p + (j - p)) - 64))
        rw [show p + (j - p) = j by omega]
        congr 1
        omega
    · rw [if_neg c]
      have e2 : lRun Y tl 1 (f + 1) j = j := by
        show (if j < tl ∧ lSo (Y j) = 1 then _ else j) = _
        rw [if_neg (fun z => c z.2)]
      have hpj2 : p < j := by
        rcases Nat.lt_or_ge p j with z | z
        · exact z
        · have : j = p := by omega
          rw [this] at c
          exact absurd hlet c
      exact ⟨fun _ => fin j x2 M3 (by omega) hpj2 hall (by rw [← e2]; exact hrun) hx h13 h14 hF, fun q => absurd rfl q⟩
/-- digits -/
theorem wX12_next_232 (hd : 2 ≤ d) {k p : Nat} {M0 : a_M} (hB : nB M0 Y tl) (hp : lSt Y tl k = p) (hpt : p < tl) (hdig : lSo (Y p) = 2) : ∀ f j r (M2 : a_M), j + f = tl → p ≤ j → (∀ z, p ≤ z → z < j → lSo (Y z) = 2) → lRun Y tl 2 f j = lStop Y tl p → ((r ≤ 99999 ∧ r = lVal 10 (fun z => Y (p + z) - 48) (j - p)) ∨ (99999 < r ∧ r < 2 ^ 21 ∧ 99999 < lVal 10 (fun z => Y (p + z) - 48) (j - p))) → M2 118 13 = nI j → M2 118 14 = nI p → M2 118 15 = 2 → M2 118 16 = nI r → nF M0 M2 → wX12_next X ad ca d x (q_v (PT x) (fun M' => nT M' Y tl k ∧ nF M0 M')) 232 [(0, .ref 118)] M2 := by
  have h300 := hB.2.1
  have fin : ∀ j r (M2 : a_M), j ≤ tl → j = lStop Y tl p → ((r ≤ 99999 ∧ r = lVal 10 (fun z => Y (p + z) - 48) (j - p)) ∨ (99999 < r ∧ r < 2 ^ 21 ∧ 99999 < lVal 10 (fun z => Y (p + z) - 48) (j - p))) → M2 118 13 = nI j → M2 118 14 = nI p → M2 118 15 = 2 → M2 118 16 = nI r → nF M0 M2 → q_v (PT x) (fun M' => nT M' Y tl k ∧ nF M0 M') none M2 (PT x) := by
    intro j r M2 hj hstop hr h13 h14 h15 h16 hF
    have hpos : lPos Y tl (k + 1) = j := by rw [lPos_s (by omega), hp]; exact hstop.symm
    have htk : lTk Y tl k = nI (300 + min 10000 (lVal 10 (fun z => Y (p + z) - 48) (j - p))) := by
      unfold lTk
      rw [hp, if_pos hpt, ← hstop]
      unfold lTok
      rw [if_neg (by rw [hdig]; decide), if_pos hdig]
    refine ⟨rfl, rfl, ⟨by rw [h14, hp], ?_, Or.inl (by rw [h13, hpos])⟩, hF⟩
    rw [htk, h15, h16]
    refine Or.inr (Or.inr (Or.inl ⟨rfl, r, by omega, rfl, ?_⟩))
    congr 1
    omega
  intro f
  induction f with
  | zero =>
    intro j r M2 hj hpj hall hrun hr h13 h14 h15 h16 hF
    have hB2 := hB.F hF
    refine bX12_next_232 ?_
    rw [hB2.1, h13]
    exact ⟨fun _ => fin j r M2 (by omega) hrun hr h13 h14 h15 h16 hF, fun q => absurd (nI_le (show tl ≤ j by omega) (by omega)) q⟩
  | succ f ih =>
    intro j r M2 hj hpj hall hrun hr h13 h14 h15 h16 hF
    have hB2 := hB.F hF
    have hin : ((48 : Int32) ≤ l8 (Y j) ∧ l8 (Y j) ≤ 57) ↔ (48 ≤ Y j ∧ Y j ≤ 57) := l8_in (a := 48) (b := 57) (hB.2.2.2 j) (by omega) (by omega)
    refine bX12_next_232 ?_
    rw [hB2.1, h13, n_cl (by omega), hB2.2.2.1 j (by omega)]
    refine ⟨fun q => absurd q (nI_ge (show j < tl by omega) (by omega)), fun _ => ⟨n_in (by omega) (by omega), _, kX12_in (by omega) _ _ _, ?_⟩⟩
    rintro v1 M3 ⟨rfl, rfl⟩
    by_cases c : lSo (Y j) = 2
    · have hy := lSo_2 c
      rw [if_pos (hin.mpr hy)]
      refine ⟨fun q => absurd q (by decide), fun _ => ?_⟩
      have e2 : lRun Y tl 2 (f + 1) j = lRun Y tl 2 f (j + 1) := by
        show (if j < tl ∧ lSo (Y j) = 2 then _ else j) = _
        rw [if_pos ⟨by omega, c⟩]
      have hall2 : ∀ z, p ≤ z → z < j + 1 → lSo (Y z) = 2 := fun z h1 h2 => by
        by_cases e : z = j
        · rw [e]; exact c
        · exact hall z h1 (by omega)
      have eN : lVal 10 (fun z => Y (p + z) - 48) (j + 1 - p) = 10 * lVal 10 (fun z => Y (p + z) - 48) (j - p) + (Y j - 48) := by
        rw [show j + 1 - p = (j - p) + 1 by omega]
        show 10 * lVal 10 (fun z => Y (p + z) - 48) (j - p) + (Y (p + (j - p)) - 48) = _
        rw [show p + (j - p) = j by omega]
      have hr21 : r < 2 ^ 21 := by omega
      have go : ∀ r2, ((r2 ≤ 99999 ∧ r2 = lVal 10 (fun z => Y (p + z) - 48) (j + 1 - p)) ∨ (99999 < r2 ∧ r2 < 2 ^ 21 ∧ 99999 < lVal 10 (fun z => Y (p + z) - 48) (j + 1 - p))) → wX12_next X ad ca d x (q_v (PT x) (fun M' => nT M' Y tl k ∧ nF M0 M')) 232 [(0, .ref 118)] (ms (ms M3 118 16 (nI r2)) 118 13 (nI (j + 1))) := fun r2 h2 => ih (j + 1) r2 _ (by omega) (by omega) hall2 (by rw [← e2]; exact hrun) h2 (ms_is _ _ _ _) (by rw [ms_no _ _ _ _ _ _ (by omega), ms_no _ _ _ _ _ _ (by omega)]; exact h14) (by rw [ms_no _ _ _ _ _ _ (by omega), ms_no _ _ _ _ _ _ (by omega)]; exact h15) (by rw [ms_no _ _ _ _ _ _ (by omega), ms_is]) ((hF.s (by omega)).s (by omega))
      rw [h13, h16, nI_1, n_cl (by omega), hB2.2.2.1 j (by omega), l8_low _ (hB.2.2.2 j) (by omega)]
      refine ⟨fun q => ⟨n_in (by omega) (by omega), ?_⟩, fun q => ?_⟩
      · have h9 := (nI_leI (b := 99999) (by omega) (by omega)).mp q
        rw [fa_lit 10, n_mul, nI_add, fa_lit 48, pk_sub (by omega)]
        have := go (10 * r + Y j - 48) (by omega)
        exact this
      · have h9 : 99999 < r := Nat.not_le.mp fun z => q (nI_le (b := 99999) z (by omega))
        exact go r (by omega)
    · have hn : ¬ (48 ≤ Y j ∧ Y j ≤ 57) := fun z => c (by
        unfold lSo
        rw [if_neg (by omega), if_pos z])
      rw [if_neg (fun z => hn (hin.mp z))]
      have e2 : lRun Y tl 2 (f + 1) j = j := by
        show (if j < tl ∧ lSo (Y j) = 2 then _ else j) = _
        rw [if_neg (fun z => c z.2)]
      exact ⟨fun _ => fin j r M3 (by omega) (by rw [← e2]; exact hrun) hr h13 h14 h15 h16 hF, fun q => absurd rfl q⟩
theorem kX12_next (hd : 3 ≤ d) {k : Nat} (hB : nB M Y tl) (h13 : M 118 13 = nI (lPos Y tl k)) : mX12_next X ad ca d x [.ref 118] M (q_v (PT x) (fun M' => nT M' Y tl k ∧ nF M M')) := by
  obtain ⟨d, rfl⟩ := a_d1 (show 1 ≤ d by omega)
  have h300 := hB.2.1
  -- a token begins
  have p52 : ∀ (M1 : a_M), M1 118 13 = nI (lSt Y tl k) → nF M M1 → (lSt Y tl k < tl → lBl (Y (lSt Y tl k)) = false) → wX12_next X ad ca d x (q_v (PT x) (fun M' => nT M' Y tl k ∧ nF M M')) 52 [(0, .ref 118)] M1 := by
    intro M1 g13 gF gb
    have hB1 := hB.F gF
    have hle := lSt_le (Y := Y) (tl := tl) (k := k)
    generalize hp : lSt Y tl k = p at *
    refine bX12_next_52 ?_
    rw [hB1.1, g13]
    refine ⟨fun q => ?_, fun q => ⟨rfl, rfl, ⟨?_, ?_, Or.inl ?_⟩, (gF.s (by omega)).s (by omega)⟩⟩
    · have hpt : p < tl := by
        rcases Nat.lt_or_ge p tl with z | z
        · exact z
        · exact absurd (show nI p = nI tl by rw [show p = tl by omega]) q
      have hy := hB.2.2.2 p
      rw [n_cl (by omega), hB1.2.2.1 p hpt]
      refine ⟨n_in (by omega) (by omega), _, kX12_isLetter (by omega) hy, ?_⟩
      rintro v1 M2 ⟨rfl, rfl⟩
      have gF2 : nF M (ms M1 118 14 (nI p)) := gF.s (by omega)
      have g13' : ms M1 118 14 (nI p) 118 13 = nI p := by rw [ms_no _ _ _ _ _ _ (by omega)]; exact g13
      by_cases c1 : lSo (Y p) = 1
      · rw [if_pos c1]
        refine ⟨fun z => absurd z (by decide), fun _ => ?_⟩
        have hs : lRun Y tl 1 (tl - p) p = lStop Y tl p := by
          unfold lStop
          rw [if_neg (by rw [c1]; decide), c1, show tl - p = (tl - (p + 1)) + 1 by omega]
          show (if p < tl ∧ lSo (Y p) = 1 then _ else p) = _
          rw [if_pos ⟨hpt, c1⟩]
        have := wX12_next_99 (X := X) (ad := ad) (ca := ca) (d := d) (x := x) (k := k) (by omega) hB hp hpt c1 (tl - p) p 0 (ms M1 118 14 (nI p)) (by omega) (Nat.le_refl _) (fun z h1 h2 => by omega) hs (fun _ => by rw [Nat.sub_self]; rfl) g13' (ms_is _ _ _ _) gF2
        rw [Nat.sub_self] at this
        exact this
      rw [if_neg c1]
      refine ⟨fun _ => ⟨_, kX12_in (by omega) _ _ _, ?_⟩, fun z => absurd rfl z⟩
      rintro v2 M3 ⟨rfl, rfl⟩
      have hin : ((48 : Int32) ≤ l8 (Y p) ∧ l8 (Y p) ≤ 57) ↔ (48 ≤ Y p ∧ Y p ≤ 57) := l8_in (a := 48) (b := 57) hy (by omega) (by omega)
      by_cases c2 : lSo (Y p) = 2
      · rw [if_pos (hin.mpr (lSo_2 c2))]
        refine ⟨fun z => absurd z (by decide), fun _ => ?_⟩
        have hs : lRun Y tl 2 (tl - p) p = lStop Y tl p := by
          unfold lStop
          rw [if_neg (by rw [c2]; decide), c2, show tl - p = (tl - (p + 1)) + 1 by omega]
          show (if p < tl ∧ lSo (Y p) = 2 then _ else p) = _
          rw [if_pos ⟨hpt, c2⟩]
        exact wX12_next_232 (by omega) hB hp hpt c2 (tl - p) p 0 _ (by omega) (Nat.le_refl _) (fun z h1 h2 => by omega) hs (Or.inl ⟨by omega, by rw [Nat.sub_self]; rfl⟩) (by rw [ms_no _ _ _ _ _ _ (by omega), ms_no _ _ _ _ _ _ (by omega)]; exact g13') (by rw [ms_no _ _ _ _ _ _ (by omega), ms_no _ _ _ _ _ _ (by omega), ms_is]) (by rw [ms_no _ _ _ _ _ _ (by omega), ms_is]) (by rw [ms_is]; rfl) ((gF2.s (by omega)).s (by omega))
      have hn2 : ¬ (48 ≤ Y p ∧ Y p ≤ 57) := fun z => c2 (by
        unfold lSo
        rw [if_neg (fun w => c1 (by unfold lSo; rw [if_pos w])), if_pos z])
      rw [if_neg (fun z => hn2 (hin.mp z))]
      refine ⟨fun _ => ?_, fun z => absurd rfl z⟩
      have c0 : lSo (Y p) = 0 := by have := lSo_le (Y p); omega
      have hst : lStop Y tl p = p + 1 := by unfold lStop; rw [if_pos c0]
      have hpos : lPos Y tl (k + 1) = p + 1 := by rw [lPos_s (by omega), hp, hst]
      have htk : lTk Y tl k = nI (Y p) := by
        unfold lTk
        rw [hp, if_pos hpt]
        unfold lTok
        rw [if_neg c1, if_neg c2]
      rw [g13', nI_1]
      have gF3 : nF M (ms (ms (ms M1 118 14 (nI p)) 118 13 (nI (p + 1))) 118 16 (l8 (Y p))) := (gF2.s (by omega)).s (by omega)
      have tail : ∀ so : Int32, (so = 3 ∨ so = 4) → ((Y p = 40 ∨ Y p = 41 ∨ Y p = 42 ∨ Y p = 43 ∨ Y p = 45 ∨ Y p = 47 ∨ Y p = 59) → so = 3) → ((l8 (Y p) = 60 → wX12_next X ad ca d x (q_v (PT x) (fun M' => nT M' Y tl k ∧ nF M M')) 385 [(0, .ref 118), (1, .int (l8 (Y p)))] (ms (ms (ms (ms M1 118 14 (nI p)) 118 13 (nI (p + 1))) 118 16 (l8 (Y p))) 118 15 so)) ∧ (¬ l8 (Y p) = 60 → ((¬ l8 (Y p) = 62 → q_v (PT x) (fun M' => nT M' Y tl k ∧ nF M M') none (ms (ms (ms (ms M1 118 14 (nI p)) 118 13 (nI (p + 1))) 118 16 (l8 (Y p))) 118 15 so) (PT x)) ∧ (l8 (Y p) = 62 → wX12_next X ad ca d x (q_v (PT x) (fun M' => nT M' Y tl k ∧ nF M M')) 385 [(0, .ref 118), (1, .int (l8 (Y p)))] (ms (ms (ms (ms M1 118 14 (nI p)) 118 13 (nI (p + 1))) 118 16 (l8 (Y p))) 118 15 so))))) := by
        intro so hso hsg
        generalize hM5 : ms (ms (ms (ms M1 118 14 (nI p)) 118 13 (nI (p + 1))) 118 16 (l8 (Y p))) 118 15 so = M5
        have f5 : nF M M5 := by rw [← hM5]; exact gF3.s (by omega)
        have e15 : M5 118 15 = so := by rw [← hM5, ms_is]
        have e16 : M5 118 16 = l8 (Y p) := by rw [← hM5, ms_no _ _ _ _ _ _ (by omega), ms_is]
        have e13 : M5 118 13 = nI (p + 1) := by rw [← hM5, ms_no _ _ _ _ _ _ (by omega), ms_no _ _ _ _ _ _ (by omega), ms_is]
        have e14 : M5 118 14 = nI p := by rw [← hM5, ms_no _ _ _ _ _ _ (by omega), ms_no _ _ _ _ _ _ (by omega), ms_no _ _ _ _ _ _ (by omega), ms_is]
        have sg : ∀ to : Int32, to = l8 (Y p) ∨ ((Y p = 60 ∨ Y p = 62) ∧ (to = 300 ∨ to = 301)) → rTok (lTk Y tl k) so to := fun to hto => by
          refine Or.inr (Or.inr (Or.inr ⟨hso, Y p, by omega, htk, fun s hs => ?_⟩))
          have hs128 : s < 128 := by omega
          rcases hto with rfl | ⟨h6, h3⟩
          · rw [l8_eq hy hs128]
            exact ⟨fun z => z.2, fun z => ⟨hsg (by omega), z⟩⟩
          · constructor
            · rintro ⟨-, z⟩
              rcases h3 with h3 | h3
              · rw [h3] at z
                have := (nI_eq (a := 300) (by omega) (by omega)).mp z
                omega
              · rw [h3] at z
                have := (nI_eq (a := 301) (by omega) (by omega)).mp z
                omega
            · intro z; omega
        have good : q_v (PT x) (fun M' => nT M' Y tl k ∧ nF M M') none M5 (PT x) := ⟨rfl, rfl, ⟨by rw [e14, hp], by rw [e15, e16]; exact sg _ (Or.inl rfl), Or.inl (by rw [e13, hpos])⟩, f5⟩
        have h385 : (Y p = 60 ∨ Y p = 62) → wX12_next X ad ca d x (q_v (PT x) (fun M' => nT M' Y tl k ∧ nF M M')) 385 [(0, .ref 118), (1, .int (l8 (Y p)))] M5 := fun h6 => by
          have hB5 := hB.F f5
          have odd : ∀ t : Int32, (t = 300 ∨ t = 301) → ∀ v : Int32, q_v (PT x) (fun M' => nT M' Y tl k ∧ nF M M') none (ms (ms M5 118 16 t) 118 13 v) (PT x) := fun t ht v => by
            refine ⟨rfl, rfl, ⟨by rw [ms_no _ _ _ _ _ _ (by omega), ms_no _ _ _ _ _ _ (by omega), e14, hp], ?_, Or.inr ?_⟩, (f5.s (by omega)).s (by omega)⟩
            · rw [ms_no _ _ _ _ _ _ (by omega), ms_no _ _ _ _ _ _ (by omega), ms_no _ _ _ _ _ _ (by omega), ms_is, e15]
              exact sg t (Or.inr ⟨h6, ht⟩)
            · rw [htk]
              rcases h6 with h6 | h6 <;> rw [h6]
              · exact Or.inl rfl
              · exact Or.inr rfl
          refine bX12_next_385 _ ?_
          rw [hB5.1, e13]
          refine ⟨fun _ => good, fun z => ?_⟩
          have hlt : p + 1 < tl := Nat.not_le.mp fun w => z (nI_le w (by omega))
          exact ⟨n_in (by omega) (by omega), fun _ => good, fun _ => ⟨fun _ => odd 301 (Or.inr rfl) _, fun _ => odd 300 (Or.inl rfl) _⟩⟩
        exact ⟨fun z => h385 (Or.inl ((l8_eq (a := 60) hy (by omega)).mp z)), fun _ => ⟨fun _ => good, fun z => h385 (Or.inr ((l8_eq (a := 62) hy (by omega)).mp z))⟩⟩
      have i59 : ((59 : Int32) ≤ l8 (Y p) ∧ l8 (Y p) ≤ 62) ↔ (59 ≤ Y p ∧ Y p ≤ 62) := l8_in (a := 59) (b := 62) hy (by omega) (by omega)
      have i40 : ((40 : Int32) ≤ l8 (Y p) ∧ l8 (Y p) ≤ 45) ↔ (40 ≤ Y p ∧ Y p ≤ 45) := l8_in (a := 40) (b := 45) hy (by omega) (by omega)
      refine ⟨_, kX12_in (by omega) _ _ _, ?_⟩
      rintro v3 M5 ⟨rfl, rfl⟩
      refine ⟨fun _ => tail 3 (Or.inl rfl) (fun _ => rfl), fun q3 => ⟨_, kX12_in (by omega) _ _ _, ?_⟩⟩
      rintro v4 M6 ⟨rfl, rfl⟩
      refine ⟨fun _ => tail 3 (Or.inl rfl) (fun _ => rfl), fun q4 => ⟨fun _ => tail 3 (Or.inl rfl) (fun _ => rfl), fun q5 => ⟨fun q6 => tail 4 (Or.inr rfl) (fun hs => ?_), fun _ => tail 3 (Or.inl rfl) (fun _ => rfl)⟩⟩⟩
      exfalso
      have n59 : ¬ (59 ≤ Y p ∧ Y p ≤ 62) := fun z => by rw [if_pos (i59.mpr z)] at q3; exact absurd q3 (by decide)
      have n40 : ¬ (40 ≤ Y p ∧ Y p ≤ 45) := fun z => by rw [if_pos (i40.mpr z)] at q4; exact absurd q4 (by decide)
      have n47 : Y p ≠ 47 := fun z => q5 ((l8_eq (a := 47) hy (by omega)).mpr z)
      omega
    · rw [ms_no _ _ _ _ _ _ (by omega), ms_is, hp]
    · have hpe : p = tl := (nI_eq (by omega) (by omega)).mp q
      unfold lTk
      rw [hp, if_neg (by omega), ms_is]
      exact Or.inl ⟨rfl, rfl⟩
    · have hpe : p = tl := (nI_eq (by omega) (by omega)).mp q
      rw [ms_no _ _ _ _ _ _ (by omega), ms_no _ _ _ _ _ _ (by omega), g13, lPos_e (by omega), hpe]
  -- blanks
  have key : ∀ n p (M1 : a_M), tl - p ≤ n → p ≤ tl → lSk Y tl p = lSt Y tl k → M1 118 13 = nI p → nF M M1 → wX12_next X ad ca d x (q_v (PT x) (fun M' => nT M' Y tl k ∧ nF M M')) 0 [(0, .ref 118)] M1 := by
    intro n
    have atEnd : ∀ p (M1 : a_M), p = tl → lSk Y tl p = lSt Y tl k → M1 118 13 = nI p → nF M M1 → wX12_next X ad ca d x (q_v (PT x) (fun M' => nT M' Y tl k ∧ nF M M')) 0 [(0, .ref 118)] M1 := by
      intro p M1 hp hsk g13 gF
      subst hp
      rw [lSk_n (fun z => by omega)] at hsk
      have hB1 := hB.F gF
      refine bX12_next_0 ?_
      rw [hB1.1, g13]
      exact ⟨fun _ => p52 M1 (by rw [g13]; exact congrArg nI hsk) gF (fun z => by omega), fun q => absurd (nI_le (Nat.le_refl _) (by omega)) q⟩
    induction n with
    | zero => intro p M1 h1 h2 hsk g13 gF; exact atEnd p M1 (by omega) hsk g13 gF
    | succ n ih =>
      intro p M1 h1 h2 hsk g13 gF
      by_cases he : p = tl
      · exact atEnd p M1 he hsk g13 gF
      have hpt : p < tl := by omega
      have hB1 := hB.F gF
      have hy := hB.2.2.2 p
      refine bX12_next_0 ?_
      rw [hB1.1, g13, n_cl (by omega), hB1.2.2.1 p hpt]
      have blank : lBl (Y p) = true → wX12_next X ad ca d x (q_v (PT x) (fun M' => nT M' Y tl k ∧ nF M M')) 39 [(0, .ref 118)] M1 := fun hb => by
        refine bX12_next_39 ?_
        rw [g13, nI_1]
        exact ih (p + 1) _ (by omega) (by omega) (by rw [← lSk_b hpt hb]; exact hsk) (ms_is _ _ _ _) (gF.s (by omega))
      refine ⟨fun q => absurd q (nI_ge hpt (by omega)), fun _ => ⟨n_in (by omega) (by omega), fun q => blank ?_, fun q => ⟨n_in (by omega) (by omega), fun q2 => ?_, fun q2 => blank ?_⟩⟩⟩
      · rw [(l8_eq (a := 32) hy (by omega)).mp q]; rfl
      · have hb : lBl (Y p) = false := by
          unfold lBl
          have n1 : Y p ≠ 32 := fun z => q ((l8_eq (a := 32) hy (by omega)).mpr z)
          have n2 : Y p ≠ 10 := fun z => q2 ((l8_eq (a := 10) hy (by omega)).mpr z)
          simp [n1, n2]
        rw [lSk_n (fun z => by rw [hb] at z; exact absurd z.2 (by decide))] at hsk
        exact p52 M1 (by rw [g13, hsk]) gF (fun _ => by rw [← hsk]; exact hb)
      · rw [(l8_eq (a := 10) hy (by omega)).mp q2]; rfl
  exact eX12_next (key tl (lPos Y tl k) M (by omega) (lPos_le k) rfl h13 (nF.rfl M))
end MN
