/-! LEXER 4: the reference's next -/
theorem lW_f (B : Nat → Int32) (i : Nat) : (B i).toInt8.toInt32 = (nI (lY B i)).toInt8.toInt32 := by rw [← (lY_f B i).1, fa_byte_low]
def l8 (y : Nat) : Int32 := (nI y).toInt8.toInt32
theorem l8_low : ∀ y, y < 256 → y < 128 → l8 y = nI y := by decide +kernel
theorem l8_high : ∀ y, y < 256 → 128 ≤ y → l8 y < 0 := by decide +kernel
theorem l8_eq {y a : Nat} (hy : y < 256) (ha : a < 128) : l8 y = nI a ↔ y = a := by
  by_cases c : y < 128
  · rw [l8_low y hy c]
    exact nI_eq (by omega) (by omega)
  · constructor
    · intro h
      have h1 := l8_high y hy (by omega)
      rw [h] at h1
      exact absurd h1 (nI_pos (by omega))
    · intro h; omega
theorem l8_in {y a b : Nat} (hy : y < 256) (ha : a < 128) (hb : b < 128) : (nI a ≤ l8 y ∧ l8 y ≤ nI b) ↔ (a ≤ y ∧ y ≤ b) := by
  by_cases c : y < 128
  · rw [l8_low y hy c, nI_leI (by omega) (by omega), nI_leI (by omega) (by omega)]
  · constructor
    · rintro ⟨h, -⟩
      have h1 := l8_high y hy (by omega)
      have h2 := Int32.lt_of_le_of_lt h h1
      exact absurd h2 (nI_pos (by omega))
    · intro h; omega
def rTok (w so to : Int32) : Prop :=
  (w = -1 ∧ so = 0) ∨ (so = 1 ∧ ∃ k, k ≤ 9 ∧ to = nI k ∧ w = nI (lTw k)) ∨ (so = 2 ∧ ∃ v, v < 2 ^ 30 ∧ to = nI v ∧ w = nI (300 + min 10000 v)) ∨ ((so = 3 ∨ so = 4) ∧ ∃ b, b ≤ 256 ∧ w = nI b ∧ ∀ s, (s = 40 ∨ s = 41 ∨ s = 42 ∨ s = 43 ∨ s = 45 ∨ s = 47 ∨ s = 59) → ((so = 3 ∧ to = nI s) ↔ b = s))
/-- the bytes as the reference holds them, while it reads -/
def nB (M : a_M) (Y : Nat → Nat) (tl : Nat) : Prop := M 118 12 = nI tl ∧ tl ≤ 300 ∧ (∀ i, i < tl → M 121 i = l8 (Y i)) ∧ ∀ i, Y i < 256
/-- the k-th token is the one that is looked at -/
def nT (M : a_M) (Y : Nat → Nat) (tl k : Nat) : Prop := M 118 14 = nI (lSt Y tl k) ∧ rTok (lTk Y tl k) (M 118 15) (M 118 16) ∧ (M 118 13 = nI (lPos Y tl (k + 1)) ∨ lTk Y tl k = nI 60 ∨ lTk Y tl k = nI 62)
def nF (M M' : a_M) : Prop := (∀ q, q ≠ 118 → M' q = M q) ∧ ∀ j, (j < 13 ∨ 16 < j) → M' 118 j = M 118 j
theorem nF.rfl (M : a_M) : nF M M := ⟨fun _ _ => Eq.refl _, fun _ _ => Eq.refl _⟩
theorem nF.trans {M M' M'' : a_M} (h : nF M M') (h2 : nF M' M'') : nF M M'' := ⟨fun q a => by rw [h2.1 q a, h.1 q a], fun j a => by rw [h2.2 j a, h.2 j a]⟩
theorem nF.s {M M' : a_M} {k : Nat} {v : Int32} (h : nF M M') (hk : 13 ≤ k ∧ k ≤ 16) : nF M (ms M' 118 k v) := ⟨fun q a => by rw [ms_row _ _ _ _ _ a]; exact h.1 q a, fun j a => by rw [ms_no _ _ _ _ _ _ (fun z => by omega)]; exact h.2 j a⟩
theorem nB.F {M M' : a_M} {Y : Nat → Nat} {tl : Nat} (h : nB M Y tl) (hf : nF M M') : nB M' Y tl := ⟨by rw [hf.2 12 (by omega)]; exact h.1, h.2.1, fun i hi => by rw [hf.1 121 (by decide)]; exact h.2.2.1 i hi, h.2.2.2⟩
theorem lg_0 {x y : Int64} : lg_cmp x y = 0 ↔ x = y := by
  unfold lg_cmp
  constructor
  · intro h
    split at h
    · exact absurd h (by decide)
    · split at h
      · assumption
      · exact absurd h (by decide)
  · intro h
    subst h
    rw [if_neg (show ¬ x > x from Int64.lt_irrefl), if_pos rfl]
theorem lN_inj {a b : Nat} (ha : a < 2 ^ 62) (hb : b < 2 ^ 62) : lN a = lN b ↔ a = b := by
  constructor
  · intro h
    have h1 := congrArg (fun z : Int64 => z.toBitVec.toNat) h
    have e : ∀ n : Nat, n < 2 ^ 62 → (lN n).toBitVec.toNat = n := fun n hn => by
      show (BitVec.ofNat 64 n).toNat = n
      rw [BitVec.toNat_ofNat]
      exact Nat.mod_eq_of_lt (by omega)
    simp only [e a ha, e b hb] at h1
    exact h1
  · rintro rfl; rfl
section ML
variable {X : a_X} {ad : Nat → Nat} {ca : Nat → ClassId} {d x : Nat} {M : a_M} {Y : Nat → Nat} {tl : Nat}
theorem kX12_isLetter (hd : 2 ≤ d) {y : Nat} (hy : y < 256) : mX12_isLetter X ad ca d x [.int (l8 y)] M (q_i (PT x) (fun s M' => M' = M ∧ s = if lSo y = 1 then 1 else 0)) := by
  obtain ⟨d, rfl⟩ := a_d1 (show 1 ≤ d by omega)
  have e : lSo y = 1 ↔ ((97 ≤ y ∧ y ≤ 122) ∨ (65 ≤ y ∧ y ≤ 90)) := by
    unfold lSo
    constructor
    · intro h
      split at h
      · assumption
      · split at h <;> omega
    · intro h; rw [if_pos h]
  have h1 : ((97 : Int32) ≤ l8 y ∧ l8 y ≤ 122) ↔ (97 ≤ y ∧ y ≤ 122) := l8_in (a := 97) (b := 122) hy (by omega) (by omega)
  have h2 : ((65 : Int32) ≤ l8 y ∧ l8 y ≤ 90) ↔ (65 ≤ y ∧ y ≤ 90) := l8_in (a := 65) (b := 90) hy (by omega) (by omega)
  refine eX12_isLetter _ (bX12_isLetter_0 _ ⟨_, kX12_in (by omega) _ _ _, ?_⟩)
  rintro v1 M1 ⟨rfl, rfl⟩
  have yes : lSo y = 1 → wX12_isLetter X ad ca d x (q_i (PT x) (fun s M' => M' = M1 ∧ s = if lSo y = 1 then 1 else 0)) 22 [] M1 := fun h => bX12_isLetter_22 ⟨_, rfl, rfl, rfl, by rw [if_pos h]⟩
  refine ⟨fun q => yes (e.mpr (Or.inl ?_)), fun q => ⟨_, kX12_in (by omega) _ _ _, ?_⟩⟩
  · exact h1.mp (Classical.byContradiction fun z => q (if_neg z))
  · rintro v2 M2 ⟨rfl, rfl⟩
    refine ⟨fun q2 => ⟨_, rfl, rfl, rfl, ?_⟩, fun q2 => yes (e.mpr (Or.inr ?_))⟩
    · rw [if_neg]
      intro h
      rcases e.mp h with h | h
      · rw [if_pos (h1.mpr h)] at q; exact absurd q (by decide)
      · rw [if_pos (h2.mpr h)] at q2; exact absurd q2 (by decide)
    · exact h2.mp (Classical.byContradiction fun z => q2 (if_neg z))
theorem kX12_wordOf (hd : 1 ≤ d) {v : Nat} (hv : v < 2 ^ 60) : mX12_wordOf X ad ca d x [.long (lN v)] M (q_i (PT x) (fun s M' => M' = M ∧ s = match lWd v with | some k => nI k | none => -1)) := by
  obtain ⟨d, rfl⟩ := a_d1 hd
  have eq : ∀ a : Nat, a < 2 ^ 40 → (lg_cmp (lN v) (lN a) = 0 ↔ v = a) := fun a ha => lg_0.trans (lN_inj (by omega) (by omega))
  have e : ∀ k : Option Nat, lWd v = k → (match lWd v with | some k => nI k | none => (-1 : Int32)) = match k with | some k => nI k | none => -1 := fun k h => by rw [h]
  refine eX12_wordOf _ (bX12_wordOf_0 _ ⟨fun q1 => ⟨fun q2 => ⟨fun q3 => ⟨fun q4 => ⟨fun q5 => ⟨fun q6 => ⟨fun q7 => ⟨fun q8 => ⟨fun q9 => ⟨fun q10 => ⟨_, rfl, rfl, rfl, ?_⟩, fun q10 => ⟨_, rfl, rfl, rfl, ?_⟩⟩, fun q9 => ⟨_, rfl, rfl, rfl, ?_⟩⟩, fun q8 => ⟨_, rfl, rfl, rfl, ?_⟩⟩, fun q7 => ⟨_, rfl, rfl, rfl, ?_⟩⟩, fun q6 => ⟨_, rfl, rfl, rfl, ?_⟩⟩, fun q5 => ⟨_, rfl, rfl, rfl, ?_⟩⟩, fun q4 => ⟨_, rfl, rfl, rfl, ?_⟩⟩, fun q3 => ⟨_, rfl, rfl, rfl, ?_⟩⟩, fun q2 => ⟨_, rfl, rfl, rfl, ?_⟩⟩, fun q1 => ⟨_, rfl, rfl, rfl, ?_⟩⟩)
  · have n1 : ¬ v = 33 := fun z => q1 ((eq 33 (by omega)).mpr z)
    have n2 : ¬ v = 34 := fun z => q2 ((eq 34 (by omega)).mpr z)
    have n3 : ¬ v = 35 := fun z => q3 ((eq 35 (by omega)).mpr z)
    have n4 : ¬ v = 866294196 := fun z => q4 ((eq 866294196 (by omega)).mpr z)
    have n5 : ¬ v = 10144368 := fun z => q5 ((eq 10144368 (by omega)).mpr z)
    have n6 : ¬ v = 212333 := fun z => q6 ((eq 212333 (by omega)).mpr z)
    have n7 : ¬ v = 881208101 := fun z => q7 ((eq 881208101 (by omega)).mpr z)
    have n8 : ¬ v = 53 := fun z => q8 ((eq 53 (by omega)).mpr z)
    have n9 : ¬ v = 154913 := fun z => q9 ((eq 154913 (by omega)).mpr z)
    have n10 : ¬ v = 36 := fun z => q10 ((eq 36 (by omega)).mpr z)
    have h : lWd v = none := by unfold lWd; rw [if_neg n1, if_neg n2, if_neg n3, if_neg n4, if_neg n5, if_neg n6, if_neg n7, if_neg n8, if_neg n9, if_neg n10]
    rw [e _ h]
  · rw [(eq 36 (by omega)).mp q10]; rfl
  · rw [(eq 154913 (by omega)).mp q9]; rfl
  · rw [(eq 53 (by omega)).mp q8]; rfl
  · rw [(eq 881208101 (by omega)).mp q7]; rfl
  · rw [(eq 212333 (by omega)).mp q6]; rfl
  · rw [(eq 10144368 (by omega)).mp q5]; rfl
  · rw [(eq 866294196 (by omega)).mp q4]; rfl
  · rw [(eq 35 (by omega)).mp q3]; rfl
  · rw [(eq 34 (by omega)).mp q2]; rfl
  · rw [(eq 33 (by omega)).mp q1]; rfl
end ML
