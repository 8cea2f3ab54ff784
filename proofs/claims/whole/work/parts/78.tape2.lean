/-! LEXER 3: the class's tokens -/
def lCn (k : Nat) : Nat := ([866294196, 10144368, 212333, 881208101, 154913] : List Nat).getD k 0
def lGk (k z : Nat) : Nat := ((a_sb.getD k []).getD z 0).toNatClampNeg - 64
theorem lGk_f : ∀ k, k < 5 → lVal 64 (lGk k) (a_sl.getD k 0) = lCn k ∧ ∀ z, z < 5 → z < a_sl.getD k 0 → 1 ≤ lGk k z ∧ lGk k z < 64 ∧ (a_sb.getD k []).getD z 0 &&& 255 = nI (lGk k z + 64) := by decide +kernel
theorem lIs_iff {Y : Nat → Nat} {i j k : Nat} (hk : k < 5) (hY : ∀ z, i ≤ z → z < j → lSo (Y z) = 1) : lIs Y i j k ↔ lVal 64 (fun z => Y (i + z) - 64) (j - i) = lCn k := by
  have hG := lGk_f k hk
  have h5 : a_sl.getD k 0 ≤ 5 := by
    have : ∀ k, k < 5 → a_sl.getD k 0 ≤ 5 := by decide
    exact this k hk
  have hd : ∀ z, z < j - i → 1 ≤ Y (i + z) - 64 ∧ Y (i + z) - 64 < 64 ∧ Y (i + z) < 256 := fun z hz => by
    have := lSo_1 (hY (i + z) (by omega) (by omega))
    omega
  constructor
  · rintro ⟨h1, h2⟩
    rw [← hG.1, h1]
    refine lVal_cong _ (fun z hz => ?_)
    obtain ⟨g1, g2, g3⟩ := hG.2 z (by omega) hz
    have h3 := h2 z hz
    rw [g3] at h3
    have h4 := (nI_eq (by have := hd z (by omega); omega) (by omega)).mp h3
    show Y (i + z) - 64 = _
    omega
  · intro h
    rw [← hG.1] at h
    obtain ⟨e1, e2⟩ := lVal_inj (j - i) (a_sl.getD k 0) (fun z hz => ⟨(hd z hz).1, (hd z hz).2.1⟩) (fun z hz => ⟨(hG.2 z (by omega) hz).1, (hG.2 z (by omega) hz).2.1⟩) h
    refine ⟨e1, fun z hz => ?_⟩
    have e3 := e2 z (by omega)
    have h0 := hd z (by omega)
    rw [(hG.2 z (by omega) hz).2.2, ← e3]
    congr 1
    show Y (i + z) = Y (i + z) - 64 + 64
    omega
theorem lWd_ge {v : Nat} (h : 65 ≤ v) : lWd v = if v = 866294196 then some 3 else if v = 10144368 then some 4 else if v = 212333 then some 5 else if v = 881208101 then some 6 else if v = 154913 then some 8 else none := by
  unfold lWd
  rw [if_neg (by omega), if_neg (by omega), if_neg (by omega)]
  by_cases c1 : v = 866294196
  · rw [if_pos c1, if_pos c1]
  rw [if_neg c1, if_neg c1]
  by_cases c2 : v = 10144368
  · rw [if_pos c2, if_pos c2]
  rw [if_neg c2, if_neg c2]
  by_cases c3 : v = 212333
  · rw [if_pos c3, if_pos c3]
  rw [if_neg c3, if_neg c3]
  by_cases c4 : v = 881208101
  · rw [if_pos c4, if_pos c4]
  rw [if_neg c4, if_neg c4, if_neg (by omega)]
  by_cases c5 : v = 154913
  · rw [if_pos c5, if_pos c5]
  rw [if_neg c5, if_neg c5, if_neg (by omega)]
/-- the token of a word -/
def lTv (v : Nat) : Int32 := match lWd v with
  | some k => nI (lTw k)
  | none => 256
section TP2
variable {X : a_X} {ad : Nat → Nat} {ca : Nat → ClassId} {d x : Nat} {M : a_M} {Y : Nat → Nat} {tl : Nat}
theorem kX10_letterWord (hd : 1 ≤ d) {y : Nat} (hy : 65 ≤ y ∧ y ≤ 122) : mX10_letterWord X ad ca d x [.int (nI y)] M (q_i (PT x) (fun s M' => M' = M ∧ s = lTv (y - 64))) := by
  obtain ⟨d, rfl⟩ := a_d1 hd
  have eq : ∀ a, a < 300 → (nI y = nI a ↔ y = a) := fun a ha => nI_eq (by omega) (by omega)
  refine eX10_letterWord _ (bX10_letterWord_0 _ ⟨fun q => ⟨_, rfl, rfl, rfl, ?_⟩, fun q => ⟨_, rfl, rfl, rfl, ?_⟩, fun q => ⟨_, rfl, rfl, rfl, ?_⟩, fun q => ⟨_, rfl, rfl, rfl, ?_⟩, fun q => ⟨_, rfl, rfl, rfl, ?_⟩, fun q => ⟨_, rfl, rfl, rfl, ?_⟩⟩)
  · rw [(eq 97 (by omega)).mp q]; rfl
  · rw [(eq 98 (by omega)).mp q]; rfl
  · rw [(eq 99 (by omega)).mp q]; rfl
  · rw [(eq 100 (by omega)).mp q]; rfl
  · rw [(eq 117 (by omega)).mp q]; rfl
  · obtain ⟨q1, q2, q3, q4, q5⟩ := q
    have h1 : y ≠ 97 := fun z => q1 ((eq 97 (by omega)).mpr z)
    have h2 : y ≠ 98 := fun z => q2 ((eq 98 (by omega)).mpr z)
    have h3 : y ≠ 99 := fun z => q3 ((eq 99 (by omega)).mpr z)
    have h4 : y ≠ 100 := fun z => q4 ((eq 100 (by omega)).mpr z)
    have h5 : y ≠ 117 := fun z => q5 ((eq 117 (by omega)).mpr z)
    have e : lWd (y - 64) = none := by
      unfold lWd
      rw [if_neg (by omega), if_neg (by omega), if_neg (by omega), if_neg (by omega), if_neg (by omega), if_neg (by omega), if_neg (by omega), if_neg (by omega), if_neg (by omega), if_neg (by omega)]
    unfold lTv
    rw [e]
theorem kX10_wordOf (hd : 6 ≤ d) {i j : Nat} (hB : tB M Y tl) (hij : i < j) (hj : j ≤ tl) (hY : ∀ z, i ≤ z → z < j → lSo (Y z) = 1) : mX10_wordOf X ad ca d x [.ref 1, .int (nI i), .int (nI j)] M (q_i (PT x) (fun s M' => M' = M ∧ s = if 7 < j - i then 256 else lTv (lVal 64 (fun z => Y (i + z) - 64) (j - i)))) := by
  obtain ⟨d, rfl⟩ := a_d1 (show 1 ≤ d by omega)
  obtain ⟨b1, b2, b3, b4⟩ := id hB
  refine eX10_wordOf _ _ (bX10_wordOf_0 _ _ ?_)
  rw [pk_sub (show i ≤ j by omega), n_cl (by omega), b3 i (by omega)]
  refine ⟨fun q => ?_, fun q => ⟨n_in (by omega) (by omega), _, kX10_letterWord (by omega) (lSo_1 (hY i (Nat.le_refl _) hij)), ?_⟩⟩
  · have hn : 2 ≤ j - i := by
      have : j - i ≠ 1 := fun z => q (by rw [z]; rfl)
      omega
    have hv : 65 ≤ lVal 64 (fun z => Y (i + z) - 64) (j - i) := by
      obtain ⟨n, hn'⟩ := a_d1 (show 1 ≤ j - i by omega)
      have h1 := lVal_pos (f := fun z => Y (i + z) - 64) (n := n) (by omega) (fun z hz => by have := lSo_1 (hY (i + z) (by omega) (by omega)); omega)
      have h2 := lSo_1 (hY (i + n) (by omega) (by omega))
      rw [hn']
      show 65 ≤ 64 * lVal 64 (fun z => Y (i + z) - 64) n + (Y (i + n) - 64)
      omega
    have e7 : ∀ k, k < 5 → 7 < j - i → ¬ lIs Y i j k := fun k hk h7 h => by
      have := a_sl_lt hk
      have h1 := h.1
      have : ∀ k, k < 5 → a_sl.getD k 0 ≤ 5 := by decide
      have := this k hk
      omega
    have yes : ∀ k w, k < 5 → lIs Y i j k → lTv (lCn k) = w → w = if 7 < j - i then 256 else lTv (lVal 64 (fun z => Y (i + z) - 64) (j - i)) := fun k w hk h hw => by
      rw [if_neg (fun z => e7 k hk z h), (lIs_iff hk hY).mp h, hw]
    refine ⟨_, kX10_isWord (k := 0) (by omega) hB (by omega) hj (by omega), ?_⟩
    rintro v1 M1 ⟨rfl, h1⟩
    refine ⟨fun z1 => ⟨_, kX10_isWord (k := 1) (by omega) hB (by omega) hj (by omega), ?_⟩, fun z1 => ⟨_, rfl, rfl, rfl, ?_⟩⟩
    rotate_left
    · rcases h1 with ⟨-, h⟩ | ⟨h, -⟩
      · exact yes 0 _ (by omega) h rfl
      · exact absurd h z1
    rintro v2 M2 ⟨rfl, h2⟩
    refine ⟨fun z2 => ⟨_, kX10_isWord (k := 2) (by omega) hB (by omega) hj (by omega), ?_⟩, fun z2 => ⟨_, rfl, rfl, rfl, ?_⟩⟩
    rotate_left
    · rcases h2 with ⟨-, h⟩ | ⟨h, -⟩
      · exact yes 1 _ (by omega) h rfl
      · exact absurd h z2
    rintro v3 M3 ⟨rfl, h3⟩
    refine ⟨fun z3 => ⟨_, kX10_isWord (k := 3) (by omega) hB (by omega) hj (by omega), ?_⟩, fun z3 => ⟨_, rfl, rfl, rfl, ?_⟩⟩
    rotate_left
    · rcases h3 with ⟨-, h⟩ | ⟨h, -⟩
      · exact yes 2 _ (by omega) h rfl
      · exact absurd h z3
    rintro v4 M4 ⟨rfl, h4⟩
    refine ⟨fun z4 => ⟨_, kX10_isWord (k := 4) (by omega) hB (by omega) hj (by omega), ?_⟩, fun z4 => ⟨_, rfl, rfl, rfl, ?_⟩⟩
    rotate_left
    · rcases h4 with ⟨-, h⟩ | ⟨h, -⟩
      · exact yes 3 _ (by omega) h rfl
      · exact absurd h z4
    rintro v5 M5 ⟨rfl, h5⟩
    refine ⟨fun z5 => ⟨_, rfl, rfl, rfl, ?_⟩, fun z5 => ⟨_, rfl, rfl, rfl, ?_⟩⟩
    · have no : ∀ (v : Int32) (k : Nat), v = 0 → ((v = 1 ∧ lIs Y i j k) ∨ (v = 0 ∧ ¬ lIs Y i j k)) → ¬ lIs Y i j k := fun v k hv h => by
        rcases h with ⟨h, -⟩ | ⟨-, h⟩
        · rw [h] at hv; exact absurd hv (by decide)
        · exact h
      by_cases c7 : 7 < j - i
      · rw [if_pos c7]
      rw [if_neg c7]
      unfold lTv
      have n0 : ¬ lVal 64 (fun z => Y (i + z) - 64) (j - i) = 866294196 := fun z => no v1 0 z1 h1 ((lIs_iff (by omega) hY).mpr z)
      have n1 : ¬ lVal 64 (fun z => Y (i + z) - 64) (j - i) = 10144368 := fun z => no v2 1 z2 h2 ((lIs_iff (by omega) hY).mpr z)
      have n2 : ¬ lVal 64 (fun z => Y (i + z) - 64) (j - i) = 212333 := fun z => no v3 2 z3 h3 ((lIs_iff (by omega) hY).mpr z)
      have n3 : ¬ lVal 64 (fun z => Y (i + z) - 64) (j - i) = 881208101 := fun z => no v4 3 z4 h4 ((lIs_iff (by omega) hY).mpr z)
      have n4 : ¬ lVal 64 (fun z => Y (i + z) - 64) (j - i) = 154913 := fun z => no v5 4 z5 h5 ((lIs_iff (by omega) hY).mpr z)
      have e : lWd (lVal 64 (fun z => Y (i + z) - 64) (j - i)) = none := by
        rw [lWd_ge hv, if_neg n0, if_neg n1, if_neg n2, if_neg n3, if_neg n4]
      rw [e]
    · rcases h5 with ⟨-, h⟩ | ⟨h, -⟩
      · exact yes 4 _ (by omega) h rfl
      · exact absurd h z5
  · rintro v6 M6 ⟨rfl, rfl⟩
    have hn : j - i = 1 := (nI_eq (b := 1) (by omega) (by omega)).mp q
    refine ⟨_, rfl, rfl, rfl, ?_⟩
    rw [if_neg (by omega), hn]
    show lTv (Y i - 64) = lTv (64 * 0 + (Y (i + 0) - 64))
    rw [Nat.mul_zero, Nat.zero_add, Nat.add_zero]
theorem kX10_tokenOf (hd : 7 ≤ d) {i : Nat} (hB : tB M Y tl) (hi : i < tl) : mX10_tokenOf X ad ca d x [.ref 1, .int (nI i), .int (nI (lStop Y tl i))] M (q_i (PT x) (fun s M' => M' = M ∧ s = lTok Y i (lStop Y tl i))) := by
  obtain ⟨d, rfl⟩ := a_d1 (show 1 ≤ d by omega)
  obtain ⟨b1, b2, b3, b4⟩ := id hB
  have hst := lStop_ge (Y := Y) hi
  refine eX10_tokenOf _ _ (bX10_tokenOf_0 _ _ ⟨n_in (by omega) (by omega), ?_⟩)
  rw [n_cl (by omega), b3 i hi]
  refine ⟨_, kX10_sortOf (by omega) (b4 i), ?_⟩
  rintro v1 M1 ⟨rfl, rfl⟩
  have hs := lSo_le (Y i)
  have eq : ∀ a, a < 3 → (nI (lSo (Y i)) = nI a ↔ lSo (Y i) = a) := fun a ha => nI_eq (by omega) (by omega)
  refine ⟨fun q => ⟨fun q2 => ⟨n_in (by omega) (by omega), _, rfl, rfl, rfl, ?_⟩, fun q2 => ⟨_, kX10_numberOf (by omega) hB (by omega) hst.2 (fun z h1 h2 => ?_), ?_⟩⟩, fun q => ⟨_, kX10_wordOf (by omega) hB hst.1 hst.2 (fun z h1 h2 => ?_), ?_⟩⟩
  · unfold lTok
    rw [if_neg (fun z => q ((eq 1 (by omega)).mpr z)), if_neg (fun z => q2 ((eq 2 (by omega)).mpr z)), b3 i hi]
  · rw [lStop_all h1 h2]; exact (eq 2 (by omega)).mp q2
  · rintro v2 M2 ⟨rfl, rfl⟩
    refine ⟨_, rfl, rfl, rfl, ?_⟩
    unfold lTok
    rw [if_neg (fun z => q ((eq 1 (by omega)).mpr z)), if_pos ((eq 2 (by omega)).mp q2)]
  · rw [lStop_all h1 h2]; exact (eq 1 (by omega)).mp q
  · rintro v3 M3 ⟨rfl, rfl⟩
    refine ⟨_, rfl, rfl, rfl, ?_⟩
    unfold lTok
    rw [if_pos ((eq 1 (by omega)).mp q)]
    rfl
/-- the tokens and their places lie -/
def tT (M : a_M) (Y : Nat → Nat) (tl K : Nat) : Prop := ∀ k, k ≤ K → M 3 k = lTk Y tl k ∧ M 4 k = nI (lSt Y tl k)
theorem kX10_split (hd : 8 ≤ d) {K : Nat} (hB : tB M Y tl) (hK : lSt Y tl K = tl) (hKt : K ≤ tl) (hlt : ∀ k, k < K → lSt Y tl k < tl) : mX10_split X ad ca d x [.ref 1] M (q_v (PT x) (fun M' => tT M' Y tl K ∧ ∀ q, q ≠ 3 → q ≠ 4 → M' q = M q)) := by
  obtain ⟨d, rfl⟩ := a_d1 (show 1 ≤ d by omega)
  refine eX10_split (bX10_split_0 ?_)
  have h300 := hB.2.1
  have key : ∀ n m s i (M1 : a_M), tl - i ≤ n → i ≤ tl → s ≤ tl → m ≤ K → lSk Y tl (max s i) = lSt Y tl m → (∀ k, k < m → M1 3 k = lTk Y tl k ∧ M1 4 k = nI (lSt Y tl k)) → (∀ q, q ≠ 3 → q ≠ 4 → M1 q = M q) → wX10_split X ad ca d x (q_v (PT x) (fun M' => tT M' Y tl K ∧ ∀ q, q ≠ 3 → q ≠ 4 → M' q = M q)) 6 [(0, .ref 1), (1, .int (nI m)), (2, .int (nI s)), (3, .int (nI i))] M1 := by
    intro n
    have atEnd : ∀ m s i (M1 : a_M), i = tl → s ≤ tl → m ≤ K → lSk Y tl (max s i) = lSt Y tl m → (∀ k, k < m → M1 3 k = lTk Y tl k ∧ M1 4 k = nI (lSt Y tl k)) → (∀ q, q ≠ 3 → q ≠ 4 → M1 q = M q) → wX10_split X ad ca d x (q_v (PT x) (fun M' => tT M' Y tl K ∧ ∀ q, q ≠ 3 → q ≠ 4 → M' q = M q)) 6 [(0, .ref 1), (1, .int (nI m)), (2, .int (nI s)), (3, .int (nI i))] M1 := by
      intro m s i M1 hi hs hm hsk hr hf
      subst hi
      rw [show max s i = i by omega, lSk_n (fun z => by omega)] at hsk
      have hmK : m = K := by
        rcases Nat.lt_or_ge m K with z | z
        · have := hlt m z; omega
        · omega
      subst hmK
      refine bX10_split_6 _ _ _ ?_
      rw [hf 1 (by decide) (by decide), hB.1]
      refine ⟨fun _ => ⟨n_in (by omega) (by omega), n_in (by omega) (by omega), rfl, rfl, fun k hk => ?_, fun q h1 h2 => ?_⟩, fun q => absurd (nI_le (Nat.le_refl _) (by omega)) q⟩
      · rw [n_cl (by omega), ms_row _ _ _ _ _ (show 4 ≠ 3 by decide)]
        by_cases c : k = m
        · subst c
          rw [ms_is, ms_is]
          unfold lTk
          rw [if_neg (by omega), hK]
          exact ⟨rfl, rfl⟩
        · have h9 := hr k (by omega)
          refine ⟨?_, ?_⟩
          · rw [ms_no _ _ _ _ _ _ (fun z => c z.2), ms_row _ _ _ _ _ (show 3 ≠ 4 by decide)]; exact h9.1
          · rw [ms_no _ _ _ _ _ _ (fun z => c z.2)]; exact h9.2
      · rw [ms_row _ _ _ _ _ h1, ms_row _ _ _ _ _ h2, hf q h1 h2]
    induction n with
    | zero => intro m s i M1 hn hi hs hm hsk hr hf; exact atEnd m s i M1 (by omega) hs hm hsk hr hf
    | succ n ih =>
      intro m s i M1 hn hi hs hm hsk hr hf
      by_cases he : i = tl
      · exact atEnd m s i M1 he hs hm hsk hr hf
      have hi2 : i < tl := by omega
      have hB1 : tB M1 Y tl := ⟨by rw [hf 1 (by decide) (by decide)]; exact hB.1, hB.2.1, fun z hz => by rw [hf 2 (by decide) (by decide)]; exact hB.2.2.1 z hz, hB.2.2.2⟩
      have hst := lStop_ge (Y := Y) hi2
      have hyi := hB.2.2.2 i
      have eq : ∀ a, a < 300 → (nI (Y i) = nI a ↔ Y i = a) := fun a ha => nI_eq (by omega) (by omega)
      have on : ∀ m s (M1 : a_M), s ≤ tl → m ≤ K → lSk Y tl (max s (i + 1)) = lSt Y tl m → (∀ k, k < m → M1 3 k = lTk Y tl k ∧ M1 4 k = nI (lSt Y tl k)) → (∀ q, q ≠ 3 → q ≠ 4 → M1 q = M q) → wX10_split X ad ca d x (q_v (PT x) (fun M' => tT M' Y tl K ∧ ∀ q, q ≠ 3 → q ≠ 4 → M' q = M q)) 69 [(0, .ref 1), (1, .int (nI m)), (2, .int (nI s)), (3, .int (nI i))] M1 := by
        intro m s M1 hs hm hsk hr hf
        refine bX10_split_69 _ _ _ ?_
        rw [nI_1]
        exact ih m s (i + 1) M1 (by omega) (by omega) hs hm hsk hr hf
      refine bX10_split_6 _ _ _ ?_
      rw [hB1.1]
      refine ⟨fun q => absurd q (nI_ge hi2 (by omega)), fun _ => ⟨fun q => ?_, fun q => ⟨n_in (by omega) (by omega), ?_⟩⟩⟩
      · have his : i < s := (nI_ltI (by omega) (by omega)).mp q
        exact on m s M1 hs hm (by rw [show max s (i + 1) = max s i by omega]; exact hsk) hr hf
      have hsi : s ≤ i := Nat.le_of_not_lt (fun z => q ((nI_ltI (by omega) (by omega)).mpr z))
      rw [show max s i = i by omega] at hsk
      rw [n_cl (n := i) (by omega), hB1.2.2.1 i hi2, n_cl (n := m) (by omega)]
      have blank : lBl (Y i) = true → wX10_split X ad ca d x (q_v (PT x) (fun M' => tT M' Y tl K ∧ ∀ q, q ≠ 3 → q ≠ 4 → M' q = M q)) 69 [(0, .ref 1), (1, .int (nI m)), (2, .int (nI s)), (3, .int (nI i))] M1 := fun hb => on m s M1 hs hm (by rw [show max s (i + 1) = i + 1 by omega, ← lSk_b hi2 hb]; exact hsk) hr hf
      refine ⟨fun q => blank ?_, fun q => ⟨n_in (by omega) (by omega), fun q2 => blank ?_, fun q2 => ⟨_, kX10_stopOf (by omega) hB1 hi2, ?_⟩⟩⟩
      · rw [(eq 32 (by omega)).mp q]; rfl
      · rw [(eq 10 (by omega)).mp q2]; rfl
      rintro v1 M2 ⟨rfl, rfl⟩
      have hb : lBl (Y i) = false := by
        unfold lBl
        have h1 : Y i ≠ 32 := fun z => q ((eq 32 (by omega)).mpr z)
        have h2 : Y i ≠ 10 := fun z => q2 ((eq 10 (by omega)).mpr z)
        simp [h1, h2]
      rw [lSk_n (fun z => by rw [hb] at z; exact absurd z.2 (by decide))] at hsk
      have hmK : m < K := by
        rcases Nat.lt_or_ge m K with z | z
        · exact z
        · have : m = K := by omega
          rw [this, hK] at hsk
          omega
      refine ⟨n_in (by omega) (by omega), ?_⟩
      have hB3 : tB (ms M2 4 m (nI i)) Y tl := ⟨by rw [ms_row _ _ _ _ _ (by decide)]; exact hB1.1, hB.2.1, fun z hz => by rw [ms_row _ _ _ _ _ (by decide)]; exact hB1.2.2.1 z hz, hB.2.2.2⟩
      refine ⟨_, kX10_tokenOf (by omega) hB3 hi2, ?_⟩
      rintro v2 M4 ⟨rfl, rfl⟩
      refine ⟨n_in (by omega) (by omega), ?_⟩
      rw [nI_1]
      refine on (m + 1) (lStop Y tl i) _ hst.2 (by omega) ?_ (fun k hk => ?_) (fun q h1 h2 => ?_)
      · rw [show max (lStop Y tl i) (i + 1) = lStop Y tl i by omega]
        show _ = lSk Y tl (if lSt Y tl m < tl then lStop Y tl (lSt Y tl m) else lSt Y tl m)
        rw [← hsk, if_pos hi2]
      · by_cases c : k = m
        · subst c
          rw [ms_is, ms_row _ _ _ _ _ (show 4 ≠ 3 by decide), ms_is]
          unfold lTk
          rw [← hsk, if_pos hi2]
          exact ⟨rfl, rfl⟩
        · have h9 := hr k (by omega)
          refine ⟨?_, ?_⟩
          · rw [ms_no _ _ _ _ _ _ (fun z => c z.2), ms_row _ _ _ _ _ (show 3 ≠ 4 by decide)]; exact h9.1
          · rw [ms_row _ _ _ _ _ (show 4 ≠ 3 by decide), ms_no _ _ _ _ _ _ (fun z => c z.2)]; exact h9.2
      · rw [ms_row _ _ _ _ _ h1, ms_row _ _ _ _ _ h2, hf q h1 h2]
  exact key tl 0 0 0 M (by omega) (Nat.zero_le _) (Nat.zero_le _) (Nat.zero_le _) rfl (fun k hk => absurd hk (Nat.not_lt_zero _)) (fun _ _ _ => rfl)
end TP2
