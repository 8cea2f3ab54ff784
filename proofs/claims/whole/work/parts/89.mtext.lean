/-! PARSER 14: text on the reference's side -/
def mTy (M : a_M) (t : Nat) (T : zTx) : Prop :=
  M 122 t = nI T.length ∧ ∀ (i : Nat) (q : Nat × Nat × List Int32), T[i]? = some q → M 123 (30 * t + i) = nI q.1 ∧ (q.1 = 4 → M 125 (30 * t + i) = nI q.2.1) ∧ ((q.1 ≤ 2 ∨ q.1 = 6) → ∃ b, M 124 (30 * t + i) = nI (400 * t + b) ∧ b + q.2.2.length < 400 ∧ wds (M 126) (400 * t + b) (q.2.2.map zor) ∧ wds (M 127) (400 * t + b) (q.2.2.map zvl) ∧ M 126 (400 * t + b + q.2.2.length) = 408)
theorem mTy.tx {M : a_M} {t : Nat} {T : zTx} (h : mTy M t T) (ht : t < 4) : mTx M t T := ⟨h.1, fun i q hq => by
  obtain ⟨h1, h2, h3⟩ := h.2 i q hq
  refine ⟨h1, h2, fun z => ?_⟩
  obtain ⟨b, b1, b2, b3, b4, b5⟩ := h3 z
  exact ⟨400 * t + b, b1, by omega, b3, b4, b5⟩⟩
/-- a text that is not the one that is written lies as before -/
theorem mTy.keep {M M' : a_M} {t u : Nat} {T : zTx} (h : mTy M t T) (hw : T.length ≤ 30) (ht : t ≠ u) (h2 : ∀ z, z ≠ u → M' 122 z = M 122 z) (h3 : ∀ q, q = 123 ∨ q = 124 ∨ q = 125 → ∀ z, (z < 30 * u ∨ 30 * u + 30 ≤ z) → M' q z = M q z) (h6 : ∀ q, q = 126 ∨ q = 127 → ∀ z, (z < 400 * u ∨ 400 * u + 400 ≤ z) → M' q z = M q z) : mTy M' t T := by
  refine ⟨by rw [h2 t ht]; exact h.1, fun i q hq => ?_⟩
  have hi : i < T.length := (List.getElem?_eq_some_iff.mp hq).1
  obtain ⟨k1, k2, k3⟩ := h.2 i q hq
  have o3 : 30 * t + i < 30 * u ∨ 30 * u + 30 ≤ 30 * t + i := by omega
  refine ⟨by rw [h3 123 (by omega) _ o3]; exact k1, fun z => by rw [h3 125 (by omega) _ o3]; exact k2 z, fun z => ?_⟩
  obtain ⟨b, b1, b2, b3, b4, b5⟩ := k3 z
  refine ⟨b, by rw [h3 124 (by omega) _ o3]; exact b1, b2, fun y w hy => ?_, fun y w hy => ?_, ?_⟩
  · have hy2 : y < q.2.2.length := by have := (List.getElem?_eq_some_iff.mp hy).1; simpa using this
    rw [h6 126 (by omega) _ (by omega)]
    exact b3 y w hy
  · have hy2 : y < q.2.2.length := by have := (List.getElem?_eq_some_iff.mp hy).1; simpa using this
    rw [h6 127 (by omega) _ (by omega)]
    exact b4 y w hy
  · rw [h6 126 (by omega) _ (by omega)]
    exact b5
def cp1 (M M' : a_M) (t a : Nat) : Prop := (∀ q, q ≠ 123 → q ≠ 124 → q ≠ 125 → M' q = M q) ∧ (∀ z, z < a → M' 123 (30 * t + z) = M 131 z ∧ M' 124 (30 * t + z) = nI (400 * t) + M 132 z ∧ M' 125 (30 * t + z) = M 133 z) ∧ ∀ q, q = 123 ∨ q = 124 ∨ q = 125 → ∀ z, (z < 30 * t ∨ 30 * t + a ≤ z) → M' q z = M q z
def cp2 (M M' : a_M) (t a : Nat) : Prop := (∀ q, q ≠ 126 → q ≠ 127 → M' q = M q) ∧ (∀ z, z < a → M' 126 (400 * t + z) = M 134 z ∧ M' 127 (400 * t + z) = M 135 z) ∧ ∀ q, q = 126 ∨ q = 127 → ∀ z, (z < 400 * t ∨ 400 * t + a ≤ z) → M' q z = M q z
/-- what text does to the reference -/
def mtO (M M' : a_M) (S : Nat → Nat) (V : Nat → Nat → Nat) (Y : Nat → Nat) (tl : Nat) (s : Int32) : Prop :=
  (S 5 = 4 ∧ s = -1 ∧ M' = M) ∨ (S 5 < 4 ∧ M' 118 3 = 0 ∧ (∀ j, (j < 3 ∨ (5 < j ∧ j < 12) ∨ 34 ≤ j) → M' 118 j = M 118 j) ∧ (∀ q, q ≠ 118 → q ≠ 119 → (q < 122 ∨ 135 < q) → M' q = M q) ∧ (∀ t (T : zTx), t ≠ S 5 → T.length ≤ 30 → mTy M t T → mTy M' t T) ∧ match pTx (lTk Y tl) 31 0 [] with
    | .inr T => s = nI (S 5) ∧ M' 118 4 = 0 ∧ M' 118 5 = -1 ∧ mTy M' (S 5) T ∧ wTx T ∧ mSt M' 119 (va_up S 5 (S 5 + 1)) V
    | .inl (f, j) => s = -1 ∧ M' 118 4 = nI f ∧ M' 118 5 = nI (lSt Y tl j) ∧ M' 119 = M 119)
section MT1
variable {X : a_X} {ad : Nat → Nat} {ca : Nat → ClassId} {d x : Nat} {M : a_M} {Y : Nat → Nat} {tl : Nat} {S : Nat → Nat} {V : Nat → Nat → Nat}
theorem wX12_text_266 {Post : Option Value → a_M → a_P → Prop} {t n : Nat} (ht : t < 4) (hn : n ≤ 400) (h31 : M 118 31 = nI n) (hfin : ∀ M', cp2 M M' t n → Post (some (.int (nI t))) (ms M' 119 5 (M' 119 5 + 1)) (PT x)) : wX12_text X ad ca d x Post 266 [(0, .ref 118), (1, .int (nI t)), (2, .int 0)] M := by
  have key := a_loop (σ := a_M) (fun a v => wX12_text X ad ca d x Post 266 [(0, .ref 118), (1, .int (nI t)), (2, .int (nI a))] v) (fun a v => cp2 M v t a) n ?_ ?_ 0 M (Nat.zero_le _) ⟨fun _ _ _ => rfl, fun z hz => absurd hz (Nat.not_lt_zero _), fun _ _ _ _ => rfl⟩
  · exact key
  · intro M2 h
    refine bX12_text_266 _ _ ⟨fun _ => hfin M2 h, fun z => ?_⟩
    rw [h.1 118 (by decide) (by decide), h31] at z
    exact absurd (nI_le (Nat.le_refl _) (by omega)) z
  · intro a M2 ha h ih
    have e4 : (400 : Int32) * nI t + nI a = nI (400 * t + a) := by rw [fa_lit 400, n_mul, nI_add]
    refine bX12_text_266 _ _ ⟨fun z => ?_, fun _ => ?_⟩
    · rw [h.1 118 (by decide) (by decide), h31] at z
      exact absurd z (nI_ge ha (by omega))
    · rw [e4, n_cl (show 400 * t + a < 2 ^ 31 by omega), n_cl (show a < 2 ^ 31 by omega), nI_1]
      refine ⟨n_in (by omega) (by omega), n_in (by omega) (by omega), n_in (by omega) (by omega), n_in (by omega) (by omega), ih _ ⟨fun q a1 a2 => ?_, fun z hz => ?_, fun q hq z hz => ?_⟩⟩
      · rw [ms_row _ _ _ _ _ a2, ms_row _ _ _ _ _ a1]; exact h.1 q a1 a2
      · have e134 : M2 134 = M 134 := h.1 134 (by decide) (by decide)
        have e135 : M2 135 = M 135 := h.1 135 (by decide) (by decide)
        by_cases c : z = a
        · subst c
          rw [ms_row _ _ _ _ _ (show 126 ≠ 127 by decide), ms_is, ms_is, e134, e135]
          exact ⟨rfl, rfl⟩
        · rw [ms_row _ _ _ _ _ (show 126 ≠ 127 by decide), ms_no _ _ _ _ _ _ (fun y => by omega), ms_no _ _ _ _ _ _ (fun y => by omega), ms_row _ _ _ _ _ (show 127 ≠ 126 by decide)]
          exact h.2.1 z (by omega)
      · rw [ms_no _ _ _ _ _ _ (fun y => by omega), ms_no _ _ _ _ _ _ (fun y => by omega)]
        exact h.2.2 q hq z (by omega)
theorem wX12_text_193 {Post : Option Value → a_M → a_P → Prop} {t n : Nat} (ht : t < 4) (hn : n ≤ 30) (h26 : M 118 26 = nI n) (hfin : ∀ M', cp1 M M' t n → wX12_text X ad ca d x Post 266 [(0, .ref 118), (1, .int (nI t)), (2, .int 0)] M') : wX12_text X ad ca d x Post 193 [(0, .ref 118), (1, .int (nI t)), (2, .int 0)] M := by
  have key := a_loop (σ := a_M) (fun a v => wX12_text X ad ca d x Post 193 [(0, .ref 118), (1, .int (nI t)), (2, .int (nI a))] v) (fun a v => cp1 M v t a) n ?_ ?_ 0 M (Nat.zero_le _) ⟨fun _ _ _ _ => rfl, fun z hz => absurd hz (Nat.not_lt_zero _), fun _ _ _ _ => rfl⟩
  · exact key
  · intro M2 h
    refine bX12_text_193 _ _ ⟨fun _ => hfin M2 h, fun z => ?_⟩
    rw [h.1 118 (by decide) (by decide) (by decide), h26] at z
    exact absurd (nI_le (Nat.le_refl _) (by omega)) z
  · intro a M2 ha h ih
    have e4 : (30 : Int32) * nI t + nI a = nI (30 * t + a) := by rw [fa_lit 30, n_mul, nI_add]
    have e5 : (400 : Int32) * nI t = nI (400 * t) := by rw [fa_lit 400, n_mul]
    have hi1 : vp_in (nI a) 30 := n_in (by omega) (by omega)
    have hi2 : vp_in (nI (30 * t + a)) 120 := n_in (by omega) (by omega)
    refine bX12_text_193 _ _ ⟨fun z => ?_, fun _ => ?_⟩
    · rw [h.1 118 (by decide) (by decide) (by decide), h26] at z
      exact absurd z (nI_ge ha (by omega))
    · rw [e4, e5, n_cl (show a < 2 ^ 31 by omega), n_cl (show 30 * t + a < 2 ^ 31 by omega), nI_1]
      refine ⟨hi1, hi2, hi1, hi2, hi1, hi2, ih _ ⟨fun q a1 a2 a3 => ?_, fun z hz => ?_, fun q hq z hz => ?_⟩⟩
      · rw [ms_row _ _ _ _ _ a3, ms_row _ _ _ _ _ a2, ms_row _ _ _ _ _ a1]; exact h.1 q a1 a2 a3
      · have e1 : M2 131 = M 131 := h.1 131 (by decide) (by decide) (by decide)
        have e2 : M2 132 = M 132 := h.1 132 (by decide) (by decide) (by decide)
        have e3 : M2 133 = M 133 := h.1 133 (by decide) (by decide) (by decide)
        by_cases c : z = a
        · subst c
          rw [ms_row _ _ _ _ _ (show 123 ≠ 125 by decide), ms_row _ _ _ _ _ (show 123 ≠ 124 by decide), ms_is, ms_row _ _ _ _ _ (show 124 ≠ 125 by decide), ms_is, ms_is, e1, e2, e3]
          exact ⟨rfl, rfl, rfl⟩
        · rw [ms_row _ _ _ _ _ (show 123 ≠ 125 by decide), ms_row _ _ _ _ _ (show 123 ≠ 124 by decide), ms_no _ _ _ _ _ _ (fun y => by omega), ms_row _ _ _ _ _ (show 124 ≠ 125 by decide), ms_no _ _ _ _ _ _ (fun y => by omega), ms_row _ _ _ _ _ (show 124 ≠ 123 by decide), ms_no _ _ _ _ _ _ (fun y => by omega), ms_row _ _ _ _ _ (show 125 ≠ 124 by decide), ms_row _ _ _ _ _ (show 125 ≠ 123 by decide)]
          exact h.2.1 z (by omega)
      · rw [ms_no _ _ _ _ _ _ (fun y => by omega), ms_no _ _ _ _ _ _ (fun y => by omega), ms_no _ _ _ _ _ _ (fun y => by omega)]
        exact h.2.2 q hq z (by omega)
theorem kX12_text (hd : 6 ≤ d) {B : Nat → Int32} (hS : mSt M 119 S V) (hw : wSt S V) (hB : mTp M tl B) : mX12_text X ad ca d x [.ref 118] M (q_i (PT x) (fun s M' => mtO M M' S V (lY B) tl s)) := by
  obtain ⟨d, rfl⟩ := a_d1 (show 1 ≤ d by omega)
  obtain ⟨hw0, w5, w6, w7⟩ := id hw
  have e5 : M 119 5 = nI (S 5) := hS.2.2.2.2.2.1
  refine eX12_text (bX12_text_0 ?_)
  rw [e5]
  refine ⟨fun q => ?_, fun q => ⟨_, rfl, rfl, Or.inl ⟨(nI_eq (b := 4) (by omega) (by omega)).mp q, rfl, rfl⟩⟩⟩
  have h4 : S 5 < 4 := by
    rcases Nat.lt_or_ge (S 5) 4 with y | y
    · exact y
    · exact absurd (by rw [show S 5 = 4 by omega]; rfl) q
  have hY : ∀ i, lY B i < 256 := fun i => (lY_f B i).2
  obtain ⟨K, hE, hK1, hK2, hK3⟩ := lex_end hY hB.2.1
  have hK := hE.2.2.1
  generalize hY' : lY B = Y at hY hE hK1 hK2 hK3
  generalize hMx : ms (ms (ms (ms (ms (ms (ms (ms (ms (ms (ms M 118 12 (M 118 3)) 118 3 0) 118 13 0) 118 17 0) 118 18 (-1)) 118 19 0) 118 20 0) 118 22 0) 118 25 4) 118 26 0) 118 31 0 = Mx
  have rx : ∀ q, q ≠ 118 → Mx q = M q := fun q hq => by rw [← hMx]; simp only [ms_row _ _ _ _ _ hq]
  have rx8 : ∀ j, (j < 3 ∨ (3 < j ∧ j < 12) ∨ 34 ≤ j) → Mx 118 j = M 118 j := fun j hj => by
    rw [← hMx, ms_no _ _ _ _ _ _ (fun z => by omega), ms_no _ _ _ _ _ _ (fun z => by omega), ms_no _ _ _ _ _ _ (fun z => by omega), ms_no _ _ _ _ _ _ (fun z => by omega), ms_no _ _ _ _ _ _ (fun z => by omega), ms_no _ _ _ _ _ _ (fun z => by omega), ms_no _ _ _ _ _ _ (fun z => by omega), ms_no _ _ _ _ _ _ (fun z => by omega), ms_no _ _ _ _ _ _ (fun z => by omega), ms_no _ _ _ _ _ _ (fun z => by omega), ms_no _ _ _ _ _ _ (fun z => by omega)]
  have x3 : Mx 118 3 = 0 := by rw [← hMx]; rfl
  have gx : gY Mx Y tl 0 [] [] [] := by
    refine ⟨⟨by rw [← hMx]; exact hB.1, hB.2.1, fun i hi => ?_, hY⟩, ⟨by rw [← hMx]; rfl, by rw [← hMx]; rfl⟩, by rw [← hMx]; rfl, ⟨by rw [← hMx]; rfl, fun z f hz => by cases hz⟩, ⟨by rw [← hMx]; rfl, fun z f hz => by cases hz⟩, ⟨by rw [← hMx]; rfl, fun z f hz => by cases hz⟩⟩
    rw [rx 121 (by decide), hB.2.2 i hi, lW_f, hY']
    rfl
  have x25 : Mx 118 25 = nI 4 := by rw [← hMx]; rfl
  have x26 : Mx 118 26 = nI 0 := by rw [← hMx]; rfl
  have x13 : Mx 118 13 = nI (lPos Y tl 0) := by rw [← hMx]; rfl
  -- an error
  have finE : ∀ (M4 : a_M) (f j : Nat), gE2 Mx M4 Y tl f j → 1 ≤ f → f < 10 → pTx (lTk Y tl) 31 0 [] = .inl (f, j) → wX12_text X ad ca d x (q_i (PT x) (fun s M' => mtO M M' S V Y tl s)) 74 [(0, .ref 118)] M4 := fun M4 f j he hf1 hf2 hp => by
    have hf0 : nI f ≠ 0 := fun z => absurd ((nI_eq (b := 0) (by omega) (by omega)).mp z) (by omega)
    refine bX12_text_74 ⟨fun _ => bX12_text_149 ⟨fun z => ?_, fun _ => ?_⟩, fun z => absurd (he.1.symm.trans z) hf0⟩
    · rw [he.1] at z
      exact absurd z (nI_ge (a := 0) (by omega) (by omega))
    · rw [he.1, he.2.1]
      refine ⟨_, rfl, rfl, Or.inr ⟨h4, ?_, ?_, ?_, ?_, ?_⟩⟩
      · rw [ms_no _ _ _ _ _ _ (by omega), ms_no _ _ _ _ _ _ (by omega), he.2.2.2 3 (by omega)]; exact x3
      · intro j hj
        rw [ms_no _ _ _ _ _ _ (fun z => by omega), ms_no _ _ _ _ _ _ (fun z => by omega), he.2.2.2 j (by omega), rx8 j (by omega)]
      · intro q a b c
        rw [ms_row _ _ _ _ _ a, ms_row _ _ _ _ _ a, he.2.2.1 q a (by omega), rx q a]
      · intro t T ht hT hm
        have s : ∀ q, 119 ≤ q → q < 128 → ms (ms M4 118 4 (nI f)) 118 5 (nI (lSt Y tl j)) q = M q := fun q a b => by rw [ms_row _ _ _ _ _ (by omega), ms_row _ _ _ _ _ (by omega), he.2.2.1 q (by omega) (by omega), rx q (by omega)]
        exact hm.keep hT ht (fun z _ => by rw [s 122 (by decide) (by decide)]) (fun q hq z _ => by rw [s q (by omega) (by omega)]) (fun q hq z _ => by rw [s q (by omega) (by omega)])
      · rw [hp]
        exact ⟨rfl, by rw [ms_no _ _ _ _ _ _ (by omega), ms_is], ms_is _ _ _ _, by rw [ms_row _ _ _ _ _ (by decide), ms_row _ _ _ _ _ (by decide), he.2.2.1 119 (by decide) (by omega), rx 119 (by decide)]⟩
  -- the end of the text
  have finO : ∀ (M4 : a_M) (T : zTx) (e : List (Int32 × Int32)) (i : Nat), gT M4 Y tl i T e → e.length ≤ 300 → wTx T → tF Mx M4 → pTx (lTk Y tl) 31 0 [] = .inr T → wX12_text X ad ca d x (q_i (PT x) (fun s M' => mtO M M' S V Y tl s)) 149 [(0, .ref 118)] M4 := fun M4 T e i hg hel hT ht hp => by
    obtain ⟨g1, g2, g3, g4, g5⟩ := hg
    have hTl := hT.1
    have f5 : M4 119 = M 119 := by rw [ht.1 119 (by decide) (by omega), rx 119 (by decide)]
    refine bX12_text_149 ⟨fun _ => ?_, fun z => absurd (by rw [g1.2.1.1]; decide) z⟩
    rw [f5, e5, n_cl (by omega), g4, g1.2.1.1, g1.2.1.2]
    refine ⟨n_in h4 (by omega), ?_⟩
    generalize hMy : ms (ms (ms M4 118 4 0) 118 5 (-1)) 122 (S 5) (nI T.length) = My
    have ry : ∀ q, q ≠ 118 → q ≠ 122 → My q = M4 q := fun q a b => by rw [← hMy, ms_row _ _ _ _ _ b, ms_row _ _ _ _ _ a, ms_row _ _ _ _ _ a]
    have ry8 : ∀ j, j ≠ 4 → j ≠ 5 → My 118 j = M4 118 j := fun j a b => by rw [← hMy, ms_row _ _ _ _ _ (by decide), ms_no _ _ _ _ _ _ (fun z => b z.2), ms_no _ _ _ _ _ _ (fun z => a z.2)]
    refine wX12_text_193 h4 hTl (by rw [ry8 26 (by decide) (by decide)]; exact g4) (fun M5 h5 => ?_)
    refine wX12_text_266 h4 (show e.length ≤ 400 by omega) (by rw [h5.1 118 (by decide) (by decide) (by decide), ry8 31 (by decide) (by decide)]; exact g1.2.2.2.2.2.1) (fun M6 h6 => ?_)
    have f6 : M6 119 = M 119 := by rw [h6.1 119 (by decide) (by decide), h5.1 119 (by decide) (by decide) (by decide), ry 119 (by decide) (by decide), f5]
    rw [f6, e5, nI_1]
    -- the whole way
    have r : ∀ q, q ≠ 119 → ms M6 119 5 (nI (S 5 + 1)) q = M6 q := fun q hq => ms_row _ _ _ _ _ hq
    have r2 : ∀ q, q ≠ 118 → q ≠ 119 → (q < 122 ∨ 127 < q) → ms M6 119 5 (nI (S 5 + 1)) q = M4 q := fun q a b c => by rw [r q b, h6.1 q (by omega) (by omega), h5.1 q (by omega) (by omega) (by omega), ry q a (by omega)]
    have r8 : ∀ j, ms M6 119 5 (nI (S 5 + 1)) 118 j = My 118 j := fun j => by rw [r 118 (by decide), h6.1 118 (by decide) (by decide), h5.1 118 (by decide) (by decide) (by decide)]
    have r122 : ms M6 119 5 (nI (S 5 + 1)) 122 = My 122 := by rw [r 122 (by decide), h6.1 122 (by decide) (by decide), h5.1 122 (by decide) (by decide) (by decide)]
    have r3 : ∀ q, q = 123 ∨ q = 124 ∨ q = 125 → ms M6 119 5 (nI (S 5 + 1)) q = M5 q := fun q hq => by rw [r q (by omega), h6.1 q (by omega) (by omega)]
    have o3 : ∀ q, q = 123 ∨ q = 124 ∨ q = 125 ∨ q = 126 ∨ q = 127 → My q = M q := fun q hq => by rw [ry q (by omega) (by omega), ht.1 q (by omega) (by omega), rx q (by omega)]
    have y131 : My 131 = M4 131 := ry 131 (by decide) (by decide)
    have y132 : My 132 = M4 132 := ry 132 (by decide) (by decide)
    have y133 : My 133 = M4 133 := ry 133 (by decide) (by decide)
    have y134 : M5 134 = M4 134 := by rw [h5.1 134 (by decide) (by decide) (by decide), ry 134 (by decide) (by decide)]
    have y135 : M5 135 = M4 135 := by rw [h5.1 135 (by decide) (by decide) (by decide), ry 135 (by decide) (by decide)]
    refine ⟨_, rfl, rfl, Or.inr ⟨h4, ?_, ?_, ?_, ?_, ?_⟩⟩
    · rw [r8, ry8 3 (by decide) (by decide), ht.2 3 (by omega)]; exact x3
    · intro j hj
      rw [r8, ry8 j (by omega) (by omega), ht.2 j (by omega), rx8 j (by omega)]
    · intro q a b c
      rw [r2 q a b (by omega), ht.1 q a (by omega), rx q a]
    · intro t T' ht' hT' hm
      refine hm.keep hT' ht' (fun z hz => ?_) (fun q hq z hz => ?_) (fun q hq z hz => ?_)
      · rw [r122, ← hMy, ms_no _ _ _ _ _ _ (fun y => hz y.2), ms_row _ _ _ _ _ (by decide), ms_row _ _ _ _ _ (by decide), ht.1 122 (by decide) (by omega), rx 122 (by decide)]
      · rw [r3 q hq, h5.2.2 q hq z (by omega), o3 q (by omega)]
      · rw [r q (by omega), h6.2.2 q hq z (by omega), h5.1 q (by omega) (by omega) (by omega), o3 q (by omega)]
    · rw [hp]
      refine ⟨rfl, by rw [r8, ← hMy]; rfl, by rw [r8, ← hMy]; rfl, ⟨by rw [r122, ← hMy, ms_is], fun a q hq => ?_⟩, hT, ?_⟩
      · have ha : a < T.length := (List.getElem?_eq_some_iff.mp hq).1
        obtain ⟨c1, c2, b, c3, c4, c5⟩ := g5 a q hq
        obtain ⟨d1, d2, d3⟩ := h5.2.1 a ha
        refine ⟨by rw [r3 123 (by omega), d1, y131]; exact c1, fun z => by rw [r3 125 (by omega), d3, y133]; exact c2 z, fun z => ?_⟩
        obtain ⟨l1, l2, l3⟩ := c5 z
        have em : ∀ y p, e[y]? = some p → M6 126 (400 * S 5 + y) = p.1 ∧ M6 127 (400 * S 5 + y) = p.2 := fun y p hy => by
          have hy2 : y < e.length := (List.getElem?_eq_some_iff.mp hy).1
          obtain ⟨t1, t2⟩ := h6.2.1 y hy2
          rw [t1, t2, y134, y135]
          exact g1.2.2.2.2.2.2 y p hy
        refine ⟨b, by rw [r3 124 (by omega), d2, y132, c3, nI_add], by omega, fun y w hy => ?_, fun y w hy => ?_, ?_⟩
        · rw [List.getElem?_map, Option.map_eq_some_iff] at hy
          obtain ⟨w', hy1, rfl⟩ := hy
          rw [r 126 (by decide), Nat.add_assoc]
          exact (em (b + y) _ (l2 y w' hy1)).1
        · rw [List.getElem?_map, Option.map_eq_some_iff] at hy
          obtain ⟨w', hy1, rfl⟩ := hy
          rw [r 127 (by decide), Nat.add_assoc]
          exact (em (b + y) _ (l2 y w' hy1)).2
        · rw [r 126 (by decide), Nat.add_assoc]
          exact (em _ _ l3).1
      · obtain ⟨s0, s1, s2, s3, s4, s5, s6, s7, s8, s9⟩ := hS
        have e119 : ∀ j, j ≠ 5 → ms M6 119 5 (nI (S 5 + 1)) 119 j = M 119 j := fun j hj => by rw [ms_no _ _ _ _ _ _ (fun y => hj y.2), f6]
        refine ⟨?_, ?_, ?_, ?_, ?_, ?_, ?_, ?_, ?_, ?_⟩
        · rw [e119 0 (by decide)]; exact s0
        · rw [e119 1 (by decide)]; exact s1
        · rw [e119 2 (by decide)]; exact s2
        · rw [e119 3 (by decide)]; exact s3
        · rw [e119 4 (by decide)]; exact s4
        · rw [ms_is, vu]
        · rw [e119 6 (by decide)]; exact s6
        · rw [e119 7 (by decide)]; exact s7
        · rw [e119 8 (by decide)]; exact s8
        · intro k hk s hs
          rw [e119 _ (by omega)]
          exact s9 k hk s hs
  refine ⟨_, kX12_next (k := 0) (by omega) gx.1 x13, ?_⟩
  rintro M1 ⟨n2, n3⟩
  -- the loop
  have key : ∀ f n i (T : zTx) (e : List (Int32 × Int32)) (M4 : a_M), n + f = 31 → T.length = n → wTx T → gT M4 Y tl i T e → e.length ≤ i → i ≤ K → tF Mx M4 → pTx (lTk Y tl) 31 0 [] = pTx (lTk Y tl) f i T → wX12_text X ad ca d x (q_i (PT x) (fun s M' => mtO M M' S V Y tl s)) 74 [(0, .ref 118)] M4 := by
    intro f
    induction f with
    | zero =>
      intro n i T e M4 hn hT hw
      have := hw.1
      omega
    | succ f ih =>
      intro n i T e M4 hn hT hwT hg he hi htF hp
      have g0 := id hg
      obtain ⟨g1, g2, g3, g4, g5⟩ := g0
      by_cases c : lTk Y tl i = -1
      · refine bX12_text_74 ⟨fun z => absurd g1.2.1.1 z, fun _ => ⟨fun z => absurd g3 z, fun _ => ⟨fun _ => finO M4 T e i hg (by omega) hwT htF ?_, fun z => absurd ((rTok_end g2.2.1).mpr c) z⟩⟩⟩
        rw [hp]
        show (if lTk Y tl i = -1 then _ else _) = _
        rw [if_pos c]
      · have hiK := hE.lt hi c
        have hp2 : pTx (lTk Y tl) 31 0 [] = match pCl (lTk Y tl) T i with
            | .inl e => .inl e
            | .inr (j, T') => pTx (lTk Y tl) f j T' := by
          rw [hp]
          show (if lTk Y tl i = -1 then _ else _) = _
          rw [if_neg c]
          rfl
        have p96 : wX12_text X ad ca d x (q_i (PT x) (fun s M' => mtO M M' S V Y tl s)) 96 [(0, .ref 118)] M4 := by
          refine bX12_text_96 ⟨fun z => absurd (g3.symm.trans z) (by decide), fun z => absurd (g3.symm.trans z) (by decide), fun _ => ⟨_, kX12_clause (by omega) hwT hg (by omega), ?_⟩⟩
          rintro M5 (⟨fl, j, k1, k2⟩ | ⟨j, T', k1, k2, k3⟩ | ⟨k, k1, k2, k3, k4, k5⟩)
          · have hf := pCl_no hE hi k1
            rw [k1] at hp2
            exact finE M5 fl j ⟨k2.1, k2.2.1, htF.trans k2.2.2⟩ hf.2.1 (by omega) hp2
          · rw [k1] at hp2
            obtain ⟨p1, p2, p3, k9, l9, c9, p4, p5, p6, p7, p8⟩ := pCl_in hE hi hwT k1
            refine ih (n + 1) j T' _ M5 (by omega) (by rw [p4, List.length_append, hT]; rfl) p3 k2 (by rw [List.length_append]; show e.length + 1 ≤ j; omega) p2 (htF.trans k3) hp2
          · obtain ⟨x1, x2, x3', x4, x5, x6, x7⟩ := k5
            have hk6 := (pKd_some k1).1
            have hpk := pCl_k k1 k3 (show ¬ 30 ≤ T.length by omega)
            have ebody : pBody (lTk Y tl) k (i + 1) = pSum (lTk Y tl) (pOne (lTk Y tl) (k == 6) 8) (i + 1) := by
              unfold pBody
              rw [if_neg (by omega), if_neg (by omega)]
            rw [ebody] at hpk
            refine simSum (nk := k) (by omega) hE (Nat.le_refl 8) (sim1 (by omega) hE hk6 8 (Nat.le_refl _)) (b0 := []) (f := 1) (Or.inl rfl) rfl (i + 1) [] e M5 x1 x3' (by show e.length + 0 + (0 + 1) ≤ i + 1; omega) hiK (by simp) (fun p hp => by simp at hp) ?_
            cases hr : pSum (lTk Y tl) (pOne (lTk Y tl) (k == 6) 8) (i + 1) with
            | inl y =>
              obtain ⟨fl, j⟩ := y
              rw [hr] at hpk
              have hpk' : pCl (lTk Y tl) T i = .inl (fl, j) := hpk
              have hf := pCl_no hE hi hpk'
              rw [hpk'] at hp2
              exact fun M6 h6 => finE M6 fl j (gE2.pre (htF.trans x7) h6) hf.2.1 (by omega) hp2
            | inr y =>
              obtain ⟨j, cc⟩ := y
              rw [hr] at hpk
              intro M6 pd e' m1 m2 m3 m4 m5 m6
              have m1' : gX M6 Y tl j 2 0 [1] pd e' := m1
              have elen : e'.length + pd.length = e.length + cc.length := by
                have := congrArg List.length m4
                simpa using this
              by_cases c59 : lTk Y tl j = 59
              · rw [pPass_y c59] at hpk
                have hpk' : pCl (lTk Y tl) T i = .inr (j + 1, T ++ [(k, if k = 4 then (cc.headD 0).toNatClampNeg else 0, cc)]) := hpk
                obtain ⟨p1, p2, p3, k9, l9, c9, p4, p5, p6, p7, p8⟩ := pCl_in hE hi hwT hpk'
                have ec : c9 = cc := by
                  have := List.append_cancel_left p4
                  simp at this
                  exact this.2.2.symm
                rw [ec] at p7
                rw [hpk'] at hp2
                have m26 : M6 118 26 = nI T.length := by rw [m6.2 26 (by omega)]; exact x2
                refine lp_2 m1'.2.2.1.1 m1'.2.2.2.1 (kX12_goesOn_end (by omega) m1' c59 m2 m26 (by omega) (by omega)) ?_
                rintro M7 ⟨q1, q2, q3, q4, q5, q6⟩
                rw [m4, List.append_assoc] at q1
                have w131 : M7 131 = M5 131 := by rw [q5 131 (by decide) (by decide) (by decide) (by decide) (by decide) (by decide), m6.1 131 (by decide) (by decide) (by decide) (by decide) (by decide) (by decide)]
                have w132 : M7 132 = M5 132 := by rw [q5 132 (by decide) (by decide) (by decide) (by decide) (by decide) (by decide), m6.1 132 (by decide) (by decide) (by decide) (by decide) (by decide) (by decide)]
                have w133 : M7 133 = M5 133 := by rw [q5 133 (by decide) (by decide) (by decide) (by decide) (by decide) (by decide), m6.1 133 (by decide) (by decide) (by decide) (by decide) (by decide) (by decide)]
                refine ih (n + 1) (j + 1) _ _ M7 (by omega) (by rw [List.length_append, hT]; rfl) p3 ⟨q1, q2, q3, by rw [q4, List.length_append]; rfl, ?_⟩ (by simp; omega) p2 (htF.trans (x7.trans (m6.t.trans ⟨fun q a b => q5 q a (by omega) (by omega) (by omega) (by omega) (by omega), fun j a => q6 j (by omega)⟩))) hp2
                refine g5.add (fun a ha => by rw [w131, w132, w133]; exact x6 a ha) (by rw [w131]; exact x4) (fun z => ?_) (by rw [w132]; exact x5) (fun _ => rfl)
                have z' : k = 4 := z
                omega
              · rw [pPass_n c59] at hpk
                have hpk' : pCl (lTk Y tl) T i = .inl (1, j) := hpk
                rw [hpk'] at hp2
                refine lp_2 m1'.2.2.1.1 m1'.2.2.2.1 (kX12_goesOn_bad (f := 1) (b0 := []) (by omega) rfl (by omega) (by simp) m1' m5 (fun z => absurd z (by decide)) (fun _ => c59)) ?_
                exact fun M7 h7 => finE M7 1 j (gE2.pre (htF.trans (x7.trans m6.t)) h7) (by omega) (by omega) hp2
        exact bX12_text_74 ⟨fun z => absurd g1.2.1.1 z, fun _ => ⟨fun _ => p96, fun _ => ⟨fun z => absurd ((rTok_end g2.2.1).mp z) c, fun _ => p96⟩⟩⟩
  exact key 31 0 0 [] [] M1 rfl rfl wTx_nil ⟨gx.n n3, n2, by rw [n3.2 25 (by omega)]; exact x25, by rw [n3.2 26 (by omega)]; exact x26, fun a q hq => by cases hq⟩ (Nat.zero_le _) (Nat.zero_le _) n3.x.t rfl
end MT1
