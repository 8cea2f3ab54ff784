/-! LEXER 1: tokens of a row of bytes -/
def lBl (y : Nat) : Bool := y == 32 || y == 10
def lSo (y : Nat) : Nat := if (97 ≤ y ∧ y ≤ 122) ∨ (65 ≤ y ∧ y ≤ 90) then 1 else if 48 ≤ y ∧ y ≤ 57 then 2 else 0
def lRun (Y : Nat → Nat) (tl s : Nat) : Nat → Nat → Nat
  | 0, j => j
  | f + 1, j => if j < tl ∧ lSo (Y j) = s then lRun Y tl s f (j + 1) else j
def lStop (Y : Nat → Nat) (tl i : Nat) : Nat := if lSo (Y i) = 0 then i + 1 else lRun Y tl (lSo (Y i)) (tl - (i + 1)) (i + 1)
def lSkp (Y : Nat → Nat) (tl : Nat) : Nat → Nat → Nat
  | 0, i => i
  | f + 1, i => if i < tl ∧ lBl (Y i) = true then lSkp Y tl f (i + 1) else i
def lSk (Y : Nat → Nat) (tl i : Nat) : Nat := lSkp Y tl (tl - i) i
/-- digits of base b behind one another -/
def lVal (b : Nat) (f : Nat → Nat) : Nat → Nat
  | 0 => 0
  | n + 1 => b * lVal b f n + f n
def lWd (v : Nat) : Option Nat := if v = 33 then some 0 else if v = 34 then some 1 else if v = 35 then some 2 else if v = 866294196 then some 3 else if v = 10144368 then some 4 else if v = 212333 then some 5 else if v = 881208101 then some 6 else if v = 53 then some 7 else if v = 154913 then some 8 else if v = 36 then some 9 else none
def lTw (k : Nat) : Nat := if k ≤ 6 then 257 + k else 263 + k
def lTok (Y : Nat → Nat) (i j : Nat) : Int32 := if lSo (Y i) = 1 then (if 7 < j - i then 256 else match lWd (lVal 64 (fun z => Y (i + z) - 64) (j - i)) with
    | some k => nI (lTw k)
    | none => 256) else if lSo (Y i) = 2 then nI (300 + min 10000 (lVal 10 (fun z => Y (i + z) - 48) (j - i))) else nI (Y i)
def lPos (Y : Nat → Nat) (tl : Nat) : Nat → Nat
  | 0 => 0
  | k + 1 => if lSk Y tl (lPos Y tl k) < tl then lStop Y tl (lSk Y tl (lPos Y tl k)) else lSk Y tl (lPos Y tl k)
def lSt (Y : Nat → Nat) (tl k : Nat) : Nat := lSk Y tl (lPos Y tl k)
def lTk (Y : Nat → Nat) (tl k : Nat) : Int32 := if lSt Y tl k < tl then lTok Y (lSt Y tl k) (lStop Y tl (lSt Y tl k)) else -1
theorem lSk_b {Y : Nat → Nat} {tl i : Nat} (h : i < tl) (hb : lBl (Y i) = true) : lSk Y tl i = lSk Y tl (i + 1) := by
  unfold lSk
  rw [show tl - i = (tl - (i + 1)) + 1 by omega]
  show (if i < tl ∧ lBl (Y i) = true then _ else _) = _
  rw [if_pos ⟨h, hb⟩]
theorem lSk_n {Y : Nat → Nat} {tl i : Nat} (h : ¬ (i < tl ∧ lBl (Y i) = true)) : lSk Y tl i = i := by
  unfold lSk
  cases tl - i with
  | zero => rfl
  | succ f =>
    show (if i < tl ∧ lBl (Y i) = true then _ else _) = _
    rw [if_neg h]
theorem lSkp_ge (Y : Nat → Nat) (tl : Nat) : ∀ f i, i ≤ tl → i ≤ lSkp Y tl f i ∧ lSkp Y tl f i ≤ tl
  | 0, i, h => ⟨Nat.le_refl _, h⟩
  | f + 1, i, h => by
    unfold lSkp
    by_cases c : i < tl ∧ lBl (Y i) = true
    · rw [if_pos c]
      have := lSkp_ge Y tl f (i + 1) (by omega)
      omega
    · rw [if_neg c]; omega
theorem lSk_ge {Y : Nat → Nat} {tl i : Nat} (h : i ≤ tl) : i ≤ lSk Y tl i ∧ lSk Y tl i ≤ tl := lSkp_ge Y tl _ i h
theorem lSkp_st (Y : Nat → Nat) (tl : Nat) : ∀ f i, i + f = tl → lSkp Y tl f i < tl → lBl (Y (lSkp Y tl f i)) = false
  | 0, i, h, h2 => by
    have : lSkp Y tl 0 i = i := rfl
    omega
  | f + 1, i, h, h2 => by
    unfold lSkp at h2 ⊢
    by_cases c : i < tl ∧ lBl (Y i) = true
    · rw [if_pos c] at h2 ⊢
      exact lSkp_st Y tl f (i + 1) (by omega) h2
    · rw [if_neg c] at h2 ⊢
      cases hb : lBl (Y i) with
      | false => rfl
      | true => exact absurd ⟨h2, hb⟩ c
theorem lRun_ge (Y : Nat → Nat) (tl s : Nat) : ∀ f j, j ≤ tl → j ≤ lRun Y tl s f j ∧ lRun Y tl s f j ≤ tl
  | 0, j, h => ⟨Nat.le_refl _, h⟩
  | f + 1, j, h => by
    unfold lRun
    by_cases c : j < tl ∧ lSo (Y j) = s
    · rw [if_pos c]
      have := lRun_ge Y tl s f (j + 1) (by omega)
      omega
    · rw [if_neg c]; omega
theorem lRun_all (Y : Nat → Nat) (tl s : Nat) : ∀ f j z, j ≤ z → z < lRun Y tl s f j → lSo (Y z) = s
  | 0, j, z, h1, h2 => by
    have : lRun Y tl s 0 j = j := rfl
    omega
  | f + 1, j, z, h1, h2 => by
    unfold lRun at h2
    by_cases c : j < tl ∧ lSo (Y j) = s
    · rw [if_pos c] at h2
      by_cases e : z = j
      · rw [e]; exact c.2
      · exact lRun_all Y tl s f (j + 1) z (by omega) h2
    · rw [if_neg c] at h2; omega
theorem lStop_ge {Y : Nat → Nat} {tl i : Nat} (h : i < tl) : i < lStop Y tl i ∧ lStop Y tl i ≤ tl := by
  unfold lStop
  by_cases c : lSo (Y i) = 0
  · rw [if_pos c]; omega
  · rw [if_neg c]
    have := lRun_ge Y tl (lSo (Y i)) (tl - (i + 1)) (i + 1) (by omega)
    omega
theorem lStop_all {Y : Nat → Nat} {tl i z : Nat} (hz : i ≤ z) (h2 : z < lStop Y tl i) : lSo (Y z) = lSo (Y i) := by
  unfold lStop at h2
  by_cases c : lSo (Y i) = 0
  · rw [if_pos c] at h2
    rw [show z = i by omega]
  · rw [if_neg c] at h2
    by_cases e : z = i
    · rw [e]
    · exact lRun_all Y tl _ _ _ z (by omega) h2
theorem lPos_le {Y : Nat → Nat} {tl : Nat} : ∀ k, lPos Y tl k ≤ tl
  | 0 => Nat.zero_le _
  | k + 1 => by
    unfold lPos
    have h := lSk_ge (Y := Y) (lPos_le (Y := Y) (tl := tl) k)
    by_cases c : lSk Y tl (lPos Y tl k) < tl
    · rw [if_pos c]; exact (lStop_ge c).2
    · rw [if_neg c]; exact h.2
theorem lSt_le {Y : Nat → Nat} {tl k : Nat} : lSt Y tl k ≤ tl := (lSk_ge (lPos_le k)).2
theorem lSt_ge {Y : Nat → Nat} {tl : Nat} : ∀ k, lSt Y tl k < tl → k ≤ lSt Y tl k
  | 0, _ => Nat.zero_le _
  | k + 1, h => by
    have h1 := lSk_ge (Y := Y) (lPos_le (Y := Y) (tl := tl) (k + 1))
    by_cases c : lSt Y tl k < tl
    · have ih := lSt_ge k c
      have e : lPos Y tl (k + 1) = lStop Y tl (lSt Y tl k) := by
        show (if lSt Y tl k < tl then _ else _) = _
        rw [if_pos c]; rfl
      have h2 := (lStop_ge (Y := Y) c).1
      rw [e] at h1
      unfold lSt at *
      rw [e]
      omega
    · exfalso
      have e : lPos Y tl (k + 1) = lSt Y tl k := by
        show (if lSt Y tl k < tl then _ else _) = _
        rw [if_neg c]; rfl
      rw [e] at h1
      have h3 : lSt Y tl (k + 1) = lSk Y tl (lPos Y tl (k + 1)) := rfl
      rw [e] at h3
      omega
theorem lWd_le {v k : Nat} (h : lWd v = some k) : k ≤ 9 := by
  unfold lWd at h
  repeat' split at h
  all_goals first | (cases h; done) | (have := Option.some.inj h; omega)
theorem lTok_in {Y : Nat → Nat} (hY : ∀ i, Y i < 256) (i j : Nat) : ∃ v, v ≤ 10300 ∧ lTok Y i j = nI v := by
  unfold lTok
  by_cases c1 : lSo (Y i) = 1
  · rw [if_pos c1]
    by_cases c2 : 7 < j - i
    · rw [if_pos c2]; exact ⟨256, by omega, rfl⟩
    · rw [if_neg c2]
      cases h : lWd (lVal 64 (fun z => Y (i + z) - 64) (j - i)) with
      | none => exact ⟨256, by omega, rfl⟩
      | some k =>
        have := lWd_le h
        exact ⟨lTw k, by unfold lTw; split <;> omega, rfl⟩
  · rw [if_neg c1]
    by_cases c2 : lSo (Y i) = 2
    · rw [if_pos c2]; exact ⟨_, by omega, rfl⟩
    · rw [if_neg c2]; exact ⟨_, by have := hY i; omega, rfl⟩
/-- there is an end -/
theorem lex_end {Y : Nat → Nat} {tl : Nat} (hY : ∀ i, Y i < 256) (ht : tl ≤ 300) : ∃ K, pEnd (lTk Y tl) K ∧ lSt Y tl K = tl ∧ K ≤ tl ∧ ∀ k, k < K → lSt Y tl k < tl := by
  have hall : ∀ i, lTk Y tl i ≤ 10300 := fun i => by
    unfold lTk
    by_cases c : lSt Y tl i < tl
    · rw [if_pos c]
      obtain ⟨v, hv, e⟩ := lTok_in hY (lSt Y tl i) (lStop Y tl (lSt Y tl i))
      rw [e]
      exact nI_le (b := 10300) hv (by omega)
    · rw [if_neg c]; decide
  have key : ∀ n, (∃ K, K ≤ n ∧ lSt Y tl K = tl ∧ ∀ k, k < K → lSt Y tl k < tl) ∨ ∀ k, k ≤ n → lSt Y tl k < tl := by
    intro n
    induction n with
    | zero =>
      by_cases c : lSt Y tl 0 < tl
      · exact Or.inr (fun k hk => by rw [show k = 0 by omega]; exact c)
      · exact Or.inl ⟨0, Nat.le_refl _, by have := lSt_le (Y := Y) (tl := tl) (k := 0); omega, fun k hk => absurd hk (Nat.not_lt_zero _)⟩
    | succ n ih =>
      rcases ih with ⟨K, h1, h2, h3⟩ | h
      · exact Or.inl ⟨K, by omega, h2, h3⟩
      · by_cases c : lSt Y tl (n + 1) < tl
        · exact Or.inr (fun k hk => by
            by_cases e : k = n + 1
            · rw [e]; exact c
            · exact h k (by omega))
        · exact Or.inl ⟨n + 1, Nat.le_refl _, by have := lSt_le (Y := Y) (tl := tl) (k := n + 1); omega, fun k hk => h k (by omega)⟩
  rcases key tl with ⟨K, h1, h2, h3⟩ | h
  · refine ⟨K, ⟨?_, fun i hi => ?_, by omega, hall⟩, h2, h1, h3⟩
    · unfold lTk; rw [if_neg (by omega)]
    · unfold lTk
      rw [if_pos (h3 i hi)]
      obtain ⟨v, hv, e⟩ := lTok_in hY (lSt Y tl i) (lStop Y tl (lSt Y tl i))
      rw [e]
      exact nI_m1 (by omega)
  · have h1 := h tl (Nat.le_refl _)
    have h2 := lSt_ge tl h1
    omega
theorem lVal_pos {f : Nat → Nat} {n : Nat} (h : 1 ≤ n) (hf : ∀ z, z < n → 1 ≤ f z) : 1 ≤ lVal 64 f n := by
  obtain ⟨m, rfl⟩ := a_d1 h
  have := hf m (by omega)
  show 1 ≤ 64 * lVal 64 f m + f m
  omega
theorem lVal_inj {f g : Nat → Nat} : ∀ n m, (∀ z, z < n → 1 ≤ f z ∧ f z < 64) → (∀ z, z < m → 1 ≤ g z ∧ g z < 64) → lVal 64 f n = lVal 64 g m → n = m ∧ ∀ z, z < n → f z = g z
  | 0, 0, _, _, _ => ⟨rfl, fun z hz => absurd hz (Nat.not_lt_zero _)⟩
  | 0, m + 1, _, hg, h => by
    have := lVal_pos (f := g) (n := m + 1) (by omega) (fun z hz => (hg z hz).1)
    have e : lVal 64 f 0 = 0 := rfl
    omega
  | n + 1, 0, hf, _, h => by
    have := lVal_pos (f := f) (n := n + 1) (by omega) (fun z hz => (hf z hz).1)
    have e : lVal 64 g 0 = 0 := rfl
    omega
  | n + 1, m + 1, hf, hg, h => by
    have h' : 64 * lVal 64 f n + f n = 64 * lVal 64 g m + g m := h
    have a := hf n (by omega)
    have b := hg m (by omega)
    obtain ⟨e1, e2⟩ := lVal_inj n m (fun z hz => hf z (by omega)) (fun z hz => hg z (by omega)) (by omega)
    subst e1
    refine ⟨rfl, fun z hz => ?_⟩
    by_cases e : z = n
    · rw [e]; omega
    · exact e2 z (by omega)
theorem lVal_cong {b : Nat} {f g : Nat → Nat} : ∀ n, (∀ z, z < n → f z = g z) → lVal b f n = lVal b g n
  | 0, _ => rfl
  | n + 1, h => by
    show b * lVal b f n + f n = b * lVal b g n + g n
    rw [lVal_cong n (fun z hz => h z (by omega)), h n (by omega)]
theorem lSo_1 {y : Nat} (h : lSo y = 1) : 65 ≤ y ∧ y ≤ 122 := by
  unfold lSo at h
  split at h
  · omega
  · split at h <;> omega
theorem lSo_2 {y : Nat} (h : lSo y = 2) : 48 ≤ y ∧ y ≤ 57 := by
  unfold lSo at h
  split at h
  · omega
  · split at h <;> omega
