/-! THE LAW 2: each relation has one answer, and keeps the state well -/
theorem nI_cc {a b : Nat} (h : nI a = nI b) (ha : a < 2 ^ 31) (hb : b < 2 ^ 31) : a = b := (nI_eq ha hb).mp h
theorem b128 {n : Nat} (h : n < 8) : 2 ^ n ≤ 128 := Nat.pow_le_pow_right (by omega) (show n ≤ 7 by omega)
section UQ
variable {S S1 S2 : Nat → Nat} {V V1 V2 : Nat → Nat → Nat} {u w z j s s' : Int32} {p n r t e b tl : Nat} {T : zTx}
theorem uAt (h0 : S 0 < 8) (h : rAt S V u s) (h' : rAt S V u s') : s = s' := by
  have := b128 h0
  rcases h with ⟨a, a1, rfl, rfl⟩ | ⟨a1, rfl⟩
  · rcases h' with ⟨b, b1, b2, rfl⟩ | ⟨b1, -⟩
    · rw [nI_cc b2 (by omega) (by omega)]
    · exact absurd ⟨a, a1, rfl⟩ b1
  · rcases h' with ⟨b, b1, b2, rfl⟩ | ⟨b1, rfl⟩
    · exact absurd ⟨b, b1, b2⟩ a1
    · rfl
theorem uSum (h0 : S 0 < 8) (h : rSum S u w s) (h' : rSum S u w s') : s = s' := by
  have := b128 h0
  rcases h with ⟨a, b, a1, a2, rfl, rfl, rfl⟩ | ⟨a1, rfl⟩
  · rcases h' with ⟨c, d, b1, b2, b3, b4, rfl⟩ | ⟨b1, -⟩
    · rw [nI_cc b3 (by omega) (by omega), nI_cc b4 (by omega) (by omega)]
    · exact absurd ⟨a, b, a1, a2, rfl, rfl⟩ b1
  · rcases h' with ⟨c, d, b1, b2, b3, b4, rfl⟩ | ⟨b1, rfl⟩
    · exact absurd ⟨c, d, b1, b2, b3, b4⟩ a1
    · rfl
theorem uPower (h0 : S 0 < 8) (h : rPower S u z w s) (h' : rPower S u z w s') : s = s' := by
  have := b128 h0
  rcases h with ⟨a, k, b, a1, a2, a3, rfl, rfl, rfl, rfl⟩ | ⟨a1, rfl⟩
  · rcases h' with ⟨c, l, d, b1, b2, b3, b4, b5, b6, rfl⟩ | ⟨b1, -⟩
    · rw [nI_cc b4 (by omega) (by omega), nI_cc b5 (by omega) (by omega), nI_cc b6 (by omega) (by omega)]
    · exact absurd ⟨a, k, b, a1, a2, a3, rfl, rfl, rfl⟩ b1
  · rcases h' with ⟨c, l, d, b1, b2, b3, b4, b5, b6, rfl⟩ | ⟨b1, rfl⟩
    · exact absurd ⟨c, l, d, b1, b2, b3, b4, b5, b6⟩ a1
    · rfl
theorem uTable (h0 : n < 8) (hp : p ≤ 97) (h : rTable p n t e T u w z s) (h' : rTable p n t e T u w z s') : s = s' := by
  have := b128 h0
  rcases h with ⟨k, a, b, a1, a2, a3, rfl, rfl, rfl, rfl⟩ | ⟨a1, rfl⟩
  · rcases h' with ⟨l, c, d, b1, b2, b3, b4, b5, b6, rfl⟩ | ⟨b1, -⟩
    · rw [nI_cc b4 (by omega) (by omega), nI_cc b5 (by omega) (by omega), nI_cc b6 (by omega) (by omega)]
    · exact absurd ⟨k, a, b, a1, a2, a3, rfl, rfl, rfl⟩ b1
  · rcases h' with ⟨l, c, d, b1, b2, b3, b4, b5, b6, rfl⟩ | ⟨b1, rfl⟩
    · exact absurd ⟨l, c, d, b1, b2, b3, b4, b5, b6⟩ a1
    · rfl
theorem uYN {A : Prop} (h : (s = 1 ∧ A) ∨ (s = 0 ∧ ¬ A)) (h' : (s' = 1 ∧ A) ∨ (s' = 0 ∧ ¬ A)) : s = s' := by
  rcases h with ⟨rfl, h1⟩ | ⟨rfl, h1⟩
  · rcases h' with ⟨rfl, -⟩ | ⟨-, h2⟩
    · rfl
    · exact absurd h1 h2
  · rcases h' with ⟨-, h2⟩ | ⟨rfl, -⟩
    · exact absurd h2 h1
    · rfl
theorem uCommute (hp : p ≤ 97) (h : rCommute p n t e T u w s) (h' : rCommute p n t e T u w s') : s = s' := by
  rcases h with ⟨k, l, a1, a2, rfl, rfl, a5⟩ | ⟨a1, rfl⟩
  · rcases h' with ⟨k2, l2, b1, b2, b3, b4, b5⟩ | ⟨b1, -⟩
    · rw [← nI_cc b3 (by omega) (by omega), ← nI_cc b4 (by omega) (by omega)] at b5
      exact uYN a5 b5
    · exact absurd ⟨k, l, a1, a2, rfl, rfl⟩ b1
  · rcases h' with ⟨k2, l2, b1, b2, b3, b4, b5⟩ | ⟨b1, rfl⟩
    · exact absurd ⟨k2, l2, b1, b2, b3, b4⟩ a1
    · rfl
theorem uKeeps (hp : p ≤ 97) (h : rKeeps p n r t e T u s) (h' : rKeeps p n r t e T u s') : s = s' := by
  rcases h with ⟨k, a1, rfl, a5⟩ | ⟨a1, rfl⟩
  · rcases h' with ⟨k2, b1, b3, b5⟩ | ⟨b1, -⟩
    · rw [← nI_cc b3 (by omega) (by omega)] at b5
      exact uYN a5 b5
    · exact absurd ⟨k, a1, rfl⟩ b1
  · rcases h' with ⟨k2, b1, b3, b5⟩ | ⟨b1, rfl⟩
    · exact absurd ⟨k2, b1, b3⟩ a1
    · rfl
theorem uEq (h : rEq p t e T w s) (h' : rEq p t e T w s') : s = s' := by
  rcases h with ⟨rfl, rfl⟩ | ⟨rfl, rfl⟩ | ⟨rfl, rfl⟩ | ⟨h1, h2, h3, rfl⟩
  · rcases h' with ⟨-, rfl⟩ | ⟨h9, -⟩ | ⟨h9, -⟩ | ⟨h9, -⟩
    · rfl
    · exact absurd h9 (by decide)
    · exact absurd h9 (by decide)
    · exact absurd rfl h9
  · rcases h' with ⟨h9, -⟩ | ⟨-, rfl⟩ | ⟨h9, -⟩ | ⟨-, h9, -⟩
    · exact absurd h9 (by decide)
    · rfl
    · exact absurd h9 (by decide)
    · exact absurd rfl h9
  · rcases h' with ⟨h9, -⟩ | ⟨h9, -⟩ | ⟨-, rfl⟩ | ⟨-, -, h9, -⟩
    · exact absurd h9 (by decide)
    · exact absurd h9 (by decide)
    · rfl
    · exact absurd rfl h9
  · rcases h' with ⟨h9, -⟩ | ⟨h9, -⟩ | ⟨h9, -⟩ | ⟨-, -, -, rfl⟩
    · exact absurd h9 h1
    · exact absurd h9 h2
    · exact absurd h9 h3
    · rfl
theorem uWeight (hp : p ≤ 97) (h : rWeight p t e T w u s) (h' : rWeight p t e T w u s') : s = s' := by
  rcases h with ⟨a, k, a1, a2, rfl, rfl, rfl⟩ | ⟨a1, rfl⟩
  · rcases h' with ⟨c, d, b1, b2, b3, b4, rfl⟩ | ⟨b1, -⟩
    · rw [nI_cc b3 (by omega) (by omega), nI_cc b4 (by omega) (by omega)]
    · exact absurd ⟨a, k, a1, a2, rfl, rfl⟩ b1
  · rcases h' with ⟨c, d, b1, b2, b3, b4, rfl⟩ | ⟨b1, rfl⟩
    · exact absurd ⟨c, d, b1, b2, b3, b4⟩ a1
    · rfl
theorem uMean (hn : n < 8) (h : rMean n u w s) (h' : rMean n u w s') : s = s' := by
  rcases h with ⟨a, k, a1, a2, a3, rfl, rfl, rfl⟩ | ⟨a1, rfl⟩
  · rcases h' with ⟨c, d, b1, b2, b3, b4, b5, rfl⟩ | ⟨b1, -⟩
    · rw [nI_cc b4 (by omega) (by omega), nI_cc b5 (by omega) (by omega)]
    · exact absurd ⟨a, k, a1, a2, a3, rfl, rfl⟩ b1
  · rcases h' with ⟨c, d, b1, b2, b3, b4, b5, rfl⟩ | ⟨b1, rfl⟩
    · exact absurd ⟨c, d, b1, b2, b3, b4, b5⟩ a1
    · rfl
theorem uTrace (hn : n < 8) (h : rTrace p n b e u w s) (h' : rTrace p n b e u w s') : s = s' := by
  rcases h with ⟨a, k, a1, a2, rfl, rfl, rfl⟩ | ⟨a1, rfl⟩
  · rcases h' with ⟨c, d, b1, b2, b4, b5, rfl⟩ | ⟨b1, -⟩
    · rw [nI_cc b4 (by omega) (by omega), nI_cc b5 (by omega) (by omega)]
    · exact absurd ⟨a, k, a1, a2, rfl, rfl⟩ b1
  · rcases h' with ⟨c, d, b1, b2, b4, b5, rfl⟩ | ⟨b1, rfl⟩
    · exact absurd ⟨c, d, b1, b2, b4, b5⟩ a1
    · rfl
theorem uOften (hn : n < 8) (hp : p ≤ 97) (h : rOften p n b e u w s) (h' : rOften p n b e u w s') : s = s' := by
  rcases h with ⟨a, k, a1, a2, rfl, rfl, rfl⟩ | ⟨a1, rfl⟩
  · rcases h' with ⟨c, d, b1, b2, b4, b5, rfl⟩ | ⟨b1, -⟩
    · rw [nI_cc b4 (by omega) (by omega), nI_cc b5 (by omega) (by omega)]
    · exact absurd ⟨a, k, a1, a2, rfl, rfl⟩ b1
  · rcases h' with ⟨c, d, b1, b2, b4, b5, rfl⟩ | ⟨b1, rfl⟩
    · exact absurd ⟨c, d, b1, b2, b4, b5⟩ a1
    · rfl
theorem nI_mn {k : Nat} (h : nI k = -1) (hk : k < 2 ^ 31) : False := by
  have := nI_pos' (n := k) hk
  rw [h] at this
  exact absurd this (by decide)
theorem uSize (hn : n < 8) (h : rSize n p u w s) (h' : rSize n p u w s') : s = s' := by
  rcases h with ⟨m, a1, rfl, a3⟩ | ⟨a1, rfl⟩
  · rcases h' with ⟨m2, b1, b2, b3⟩ | ⟨b1, -⟩
    · rw [← nI_cc b2 (by omega) (by omega)] at b3
      rcases a3 with ⟨rfl, rfl⟩ | ⟨k, k1, rfl, k3, rfl⟩
      · rcases b3 with ⟨-, rfl⟩ | ⟨k, k1, k2, -⟩
        · rfl
        · exact (nI_mn k2.symm (by omega)).elim
      · rcases b3 with ⟨k2, -⟩ | ⟨k', l1, l2, -, rfl⟩
        · exact (nI_mn k2 (by omega)).elim
        · rw [nI_cc l2 (by omega) (by omega)]
    · refine absurd ⟨m, a1, rfl, ?_⟩ b1
      rcases a3 with ⟨h9, -⟩ | ⟨k, k1, k2, k3, -⟩
      · exact Or.inl h9
      · exact Or.inr ⟨k, k1, k2, k3⟩
  · rcases h' with ⟨m2, b1, b2, b3⟩ | ⟨b1, rfl⟩
    · refine absurd ⟨m2, b1, b2, ?_⟩ a1
      rcases b3 with ⟨h9, -⟩ | ⟨k, k1, k2, k3, -⟩
      · exact Or.inl h9
      · exact Or.inr ⟨k, k1, k2, k3⟩
    · rfl
theorem ucf {D : Nat} {c : Nat → Nat} (hD : D < 2 ^ 30) (h : zcf D c u s) (h' : zcf D c u s') : s = s' := by
  rcases h with ⟨a, a1, rfl, rfl⟩ | ⟨a1, rfl⟩
  · rcases h' with ⟨b, b1, b2, rfl⟩ | ⟨b1, -⟩
    · rw [nI_cc b2 (by omega) (by omega)]
    · exact absurd ⟨a, a1, rfl⟩ b1
  · rcases h' with ⟨b, b1, b2, rfl⟩ | ⟨b1, rfl⟩
    · exact absurd ⟨b, b1, b2⟩ a1
    · rfl
theorem uPoly (hn : n < 8) (hl : ∀ m, (zsec n m).length ≤ 128) (hl2 : ∀ m k, (zrd n m k).length ≤ 128) (h : rPoly p n r e u w z s) (h' : rPoly p n r e u w z s') : s = s' := by
  rcases h with ⟨m, a1, rfl, a3⟩ | ⟨a1, rfl⟩
  · rcases h' with ⟨m2, b1, b2, b3⟩ | ⟨b1, -⟩
    · rw [← nI_cc b2 (by omega) (by omega)] at b3
      rcases a3 with ⟨rfl, a4⟩ | ⟨k, ω, k1, rfl, k3, k4, k5⟩
      · rcases b3 with ⟨-, b4⟩ | ⟨k, ω, k1, k2, -⟩
        · exact ucf (by have := hl m; omega) a4 b4
        · exact (nI_mn k2.symm (by omega)).elim
      · rcases b3 with ⟨k2, -⟩ | ⟨k', ω', l1, l2, l3, l4, l5⟩
        · exact (nI_mn k2 (by omega)).elim
        · rw [k3] at l3
          cases l3
          rw [← nI_cc l2 (by omega) (by omega)] at l5
          exact ucf (by have := hl2 m k; omega) k5 l5
    · refine absurd ⟨⟨m, a1, rfl, ?_⟩, ?_⟩ b1
      · rcases a3 with ⟨h9, -⟩ | ⟨k, ω, k1, k2, k3, k4, -⟩
        · exact Or.inl h9
        · exact Or.inr ⟨k, k1, k2, by rw [k3]; rfl⟩
      · rcases a3 with ⟨h9, -⟩ | ⟨k, ω, k1, k2, k3, k4, -⟩
        · exact Or.inl h9
        · exact Or.inr k4
  · rcases h' with ⟨m2, b1, b2, b3⟩ | ⟨b1, rfl⟩
    · refine absurd ⟨⟨m2, b1, b2, ?_⟩, ?_⟩ a1
      · rcases b3 with ⟨h9, -⟩ | ⟨k, ω, k1, k2, k3, k4, -⟩
        · exact Or.inl h9
        · exact Or.inr ⟨k, k1, k2, by rw [k3]; rfl⟩
      · rcases b3 with ⟨h9, -⟩ | ⟨k, ω, k1, k2, k3, k4, -⟩
        · exact Or.inl h9
        · exact Or.inr k4
    · rfl
theorem uOwn (hn : n < 8) (h : rOwn p n b e u w s) (h' : rOwn p n b e u w s') : s = s' := by
  rcases h with ⟨m, a1, rfl, a2, a3⟩ | ⟨a1, rfl⟩
  · rcases h' with ⟨m2, b1, b2, -, b3⟩ | ⟨b1, -⟩
    · rw [← nI_cc b2 (by omega) (by omega)] at b3
      rcases a3 with ⟨rfl, rfl⟩ | ⟨k, rfl, k1, rfl⟩
      · rcases b3 with ⟨-, rfl⟩ | ⟨k, k2, k1, -⟩
        · rfl
        · exact (nI_mn k2.symm (by omega)).elim
      · rcases b3 with ⟨k2, -⟩ | ⟨k', l2, l1, rfl⟩
        · exact (nI_mn k2 (by omega)).elim
        · rw [nI_cc l2 (by omega) (by omega)]
    · exact absurd ⟨m, a1, rfl, a2⟩ b1
  · rcases h' with ⟨m2, b1, b2, b4, b3⟩ | ⟨b1, rfl⟩
    · exact absurd ⟨m2, b1, b2, b4⟩ a1
    · rfl
theorem upj {m a : Nat} (hn : n < 8) (hm : m ≤ 2) (h : zpj p n t m a j s) (h' : zpj p n t m a j s') : s = s' := by
  rcases h with ⟨y, h1, rfl, rfl⟩ | ⟨y, h1, rfl, rfl⟩ | ⟨h1, h2, h3⟩
  · rcases h' with ⟨y', j1, j2, rfl⟩ | ⟨y', j1, j2, -⟩ | ⟨j1, -⟩
    · rw [nI_cc j2 (by omega) (by omega)]
    · have := nI_cc j2 (by omega) (by omega); omega
    · exact absurd ⟨_, h1, rfl⟩ j1
  · rcases h' with ⟨y', j1, j2, -⟩ | ⟨y', j1, j2, rfl⟩ | ⟨-, j1, -⟩
    · have := nI_cc j2 (by omega) (by omega); omega
    · have := nI_cc j2 (by omega) (by omega)
      rw [show y = y' by omega]
    · exact absurd ⟨_, h1, rfl⟩ j1
  · rcases h' with ⟨y', j1, j2, -⟩ | ⟨y', j1, j2, -⟩ | ⟨j1, j2, j3⟩
    · exact absurd ⟨_, j1, j2⟩ h1
    · exact absurd ⟨_, j1, j2⟩ h2
    · rcases h3 with ⟨k1, rfl⟩ | ⟨k1, rfl⟩
      · rcases j3 with ⟨l1, rfl⟩ | ⟨l1, rfl⟩
        · rfl
        · exact absurd k1 l1
      · rcases j3 with ⟨l1, rfl⟩ | ⟨l1, rfl⟩
        · exact absurd l1 k1
        · rfl
theorem uPair (hn : n < 8) (h : rPair p n t u w j s) (h' : rPair p n t u w j s') : s = s' := by
  rcases h with ⟨m, a1, rfl, a2, a3⟩ | ⟨a1, rfl⟩
  · rcases h' with ⟨m2, b1, b2, -, b3⟩ | ⟨b1, -⟩
    · rw [← nI_cc b2 (by omega) (by omega)] at b3
      rcases a3 with ⟨rfl, rfl⟩ | ⟨k, k1, rfl, k3⟩
      · rcases b3 with ⟨-, rfl⟩ | ⟨k, k1, k2, -⟩
        · rfl
        · exact (nI_mn k2.symm (by omega)).elim
      · rcases b3 with ⟨k2, -⟩ | ⟨k', l1, l2, l3⟩
        · exact (nI_mn k2 (by omega)).elim
        · rw [← nI_cc l2 (by omega) (by omega)] at l3
          rcases k3 with ⟨c, c1, c2⟩ | ⟨c1, rfl⟩
          · rcases l3 with ⟨c', d1, d2⟩ | ⟨d1, -⟩
            · rw [c1] at d1
              cases d1
              exact upj hn a1 c2 d2
            · rw [c1] at d1; cases d1
          · rcases l3 with ⟨c', d1, d2⟩ | ⟨d1, rfl⟩
            · rw [c1] at d1; cases d1
            · rfl
    · exact absurd ⟨m, a1, rfl, a2⟩ b1
  · rcases h' with ⟨m2, b1, b2, b4, b3⟩ | ⟨b1, rfl⟩
    · exact absurd ⟨m2, b1, b2, b4⟩ a1
    · rfl
theorem uAbout (h : rAbout S tl u s) (h' : rAbout S tl u s') : s = s' := by
  rcases h with ⟨a, a1, rfl, rfl⟩ | ⟨a1, rfl⟩
  · rcases h' with ⟨b, b1, b2, rfl⟩ | ⟨b1, -⟩
    · rw [nI_cc b2 (by omega) (by omega)]
    · exact absurd ⟨a, a1, rfl⟩ b1
  · rcases h' with ⟨b, b1, b2, rfl⟩ | ⟨b1, rfl⟩
    · exact absurd ⟨b, b1, b2⟩ a1
    · rfl
theorem uFeed {B B1 B2 : Nat → Int32} {t1 t2 : Nat} {a b c d : Int32} (h : rFeed tl B a b c d u s t1 B1) (h' : rFeed tl B a b c d u s' t2 B2) : s = s' ∧ t1 = t2 ∧ B1 = B2 := by
  rcases h with ⟨h1, rfl, rfl, rfl⟩ | ⟨h1, rfl, rfl, rfl⟩
  · rcases h' with ⟨h2, rfl, rfl, rfl⟩ | ⟨h2, rfl, rfl, rfl⟩
    · exact ⟨rfl, rfl, rfl⟩
    · omega
  · rcases h' with ⟨h2, rfl, rfl, rfl⟩ | ⟨h2, rfl, rfl, rfl⟩
    · omega
    · exact ⟨rfl, rfl, rfl⟩
theorem uEnd {t1 t2 : Nat} (ht : tl ≤ 300) (h : rEnd tl u s t1) (h' : rEnd tl u s' t2) : s = s' ∧ t1 = t2 := by
  rcases h with ⟨k, h1, rfl, rfl, rfl⟩ | ⟨h1, rfl, rfl⟩
  · rcases h' with ⟨k2, h2, h3, rfl, rfl⟩ | ⟨h2, -⟩
    · exact ⟨rfl, nI_cc h3 (by omega) (by omega)⟩
    · exact absurd ⟨_, h1, rfl⟩ h2
  · rcases h' with ⟨k2, h2, h3, rfl, rfl⟩ | ⟨h2, rfl, rfl⟩
    · exact absurd ⟨_, h2, h3⟩ h1
    · exact ⟨rfl, rfl⟩
theorem uChain (h : rChain S V u r s S1 V1) (h' : rChain S V u r s' S2 V2) : s = s' ∧ S1 = S2 ∧ V1 = V2 := by
  rcases h with ⟨k, h1, h2, rfl, rfl, rfl, rfl⟩ | ⟨h1, rfl, rfl, rfl⟩
  · rcases h' with ⟨k2, h3, h4, h5, rfl, rfl, rfl⟩ | ⟨h3, -⟩
    · rw [nI_cc h5 (by omega) (by omega)]; exact ⟨rfl, rfl, rfl⟩
    · exact absurd ⟨_, h1, h2, rfl⟩ h3
  · rcases h' with ⟨k2, h3, h4, h5, rfl, rfl, rfl⟩ | ⟨h3, rfl, rfl, rfl⟩
    · exact absurd ⟨_, h3, h4, h5⟩ h1
    · exact ⟨rfl, rfl, rfl⟩
theorem uPrime (h : rPrime S V u s S1 V1) (h' : rPrime S V u s' S2 V2) : s = s' ∧ S1 = S2 ∧ V1 = V2 := by
  rcases h with ⟨k, h1, rfl, rfl, rfl, rfl⟩ | ⟨h1, rfl, rfl, rfl⟩
  · rcases h' with ⟨k2, h3, h5, rfl, rfl, rfl⟩ | ⟨h3, -⟩
    · have := (zpl_b _ h1).2
      have := (zpl_b _ h3).2
      rw [nI_cc h5 (by omega) (by omega)]; exact ⟨rfl, rfl, rfl⟩
    · exact absurd ⟨_, h1, rfl⟩ h3
  · rcases h' with ⟨k2, h3, h5, rfl, rfl, rfl⟩ | ⟨h3, rfl, rfl, rfl⟩
    · exact absurd ⟨_, h3, h5⟩ h1
    · exact ⟨rfl, rfl, rfl⟩
theorem uNumbers (hp : S 2 ≤ 97) (h : rNumbers S u w s S1) (h' : rNumbers S u w s' S2) : s = s' ∧ S1 = S2 := by
  rcases h with ⟨k, l, h1, h2, h3, rfl, rfl, rfl, rfl⟩ | ⟨h1, rfl, rfl⟩
  · rcases h' with ⟨k2, l2, j1, j2, j3, j4, j5, rfl, rfl⟩ | ⟨j1, -⟩
    · rw [nI_cc j4 (by omega) (by omega), nI_cc j5 (by omega) (by omega)]; exact ⟨rfl, rfl⟩
    · exact absurd ⟨_, _, h1, h2, h3, rfl, rfl⟩ j1
  · rcases h' with ⟨k2, l2, j1, j2, j3, j4, j5, rfl, rfl⟩ | ⟨j1, rfl, rfl⟩
    · exact absurd ⟨_, _, j1, j2, j3, j4, j5⟩ h1
    · exact ⟨rfl, rfl⟩
theorem uBy (h5 : S 5 ≤ 4) (h : rBy S u s S1) (h' : rBy S u s' S2) : s = s' ∧ S1 = S2 := by
  rcases h with ⟨k, h1, rfl, rfl, rfl⟩ | ⟨h1, rfl, rfl⟩
  · rcases h' with ⟨k2, j1, j2, rfl, rfl⟩ | ⟨j1, -⟩
    · have e : nI k = nI k2 := by
        have := congrArg (fun q => q + 1) j2
        simpa using this
      rw [nI_cc e (by omega) (by omega)]; exact ⟨rfl, rfl⟩
    · exact absurd ⟨_, h1, rfl⟩ j1
  · rcases h' with ⟨k2, j1, j2, rfl, rfl⟩ | ⟨j1, rfl, rfl⟩
    · exact absurd ⟨_, j1, j2⟩ h1
    · exact ⟨rfl, rfl⟩
theorem uSet (h0 : S 0 < 8) (h : rSet S V u s S1 V1) (h' : rSet S V u s' S2 V2) : s = s' ∧ S1 = S2 ∧ V1 = V2 := by
  have := b128 h0
  rcases h with ⟨k, h1, rfl, rfl, rfl, rfl⟩ | ⟨h1, rfl, rfl, rfl⟩
  · rcases h' with ⟨k2, h3, h5, rfl, rfl, rfl⟩ | ⟨h3, -⟩
    · rw [nI_cc h5 (by omega) (by omega)]; exact ⟨rfl, rfl, rfl⟩
    · exact absurd ⟨_, h1, rfl⟩ h3
  · rcases h' with ⟨k2, h3, h5, rfl, rfl, rfl⟩ | ⟨h3, rfl, rfl, rfl⟩
    · exact absurd ⟨_, h3, h5⟩ h1
    · exact ⟨rfl, rfl, rfl⟩
theorem uUndo (h : rUndo S s S1) (h' : rUndo S s' S2) : s = s' ∧ S1 = S2 := by
  rcases h with ⟨h1, rfl, rfl⟩ | ⟨h1, rfl, rfl⟩
  · rcases h' with ⟨h2, rfl, rfl⟩ | ⟨h2, rfl, rfl⟩
    · exact ⟨rfl, rfl⟩
    · exact absurd h2 h1
  · rcases h' with ⟨h2, rfl, rfl⟩ | ⟨h2, rfl, rfl⟩
    · exact absurd h1 h2
    · exact ⟨rfl, rfl⟩
theorem uRedo (h : rRedo S s S1) (h' : rRedo S s' S2) : s = s' ∧ S1 = S2 := by
  rcases h with ⟨h1, rfl, rfl⟩ | ⟨h1, rfl, rfl⟩
  · rcases h' with ⟨h2, rfl, rfl⟩ | ⟨h2, rfl, rfl⟩
    · exact ⟨rfl, rfl⟩
    · exact absurd h2 h1
  · rcases h' with ⟨h2, rfl, rfl⟩ | ⟨h2, rfl, rfl⟩
    · exact absurd h1 h2
    · exact ⟨rfl, rfl⟩
theorem ucan {a k a' k' : Nat} (h0 : S 0 < 8) (hp : S 2 ≤ 97) (h : zcan S u w a k) (h' : zcan S u w a' k') : a = a' ∧ k = k' := by
  obtain ⟨rfl, h1⟩ := h
  obtain ⟨h2, h3⟩ := h'
  have ea : a = a' := nI_cc h2 (by omega) (by omega)
  subst ea
  refine ⟨rfl, ?_⟩
  rcases h1 with ⟨q1, q2⟩ | ⟨q1, q2, rfl⟩ | ⟨q1, q2, rfl⟩
  · rcases h3 with ⟨-, r2⟩ | ⟨r1, -⟩ | ⟨r1, -⟩ <;> omega
  · rcases h3 with ⟨r1, -⟩ | ⟨-, r2, r3⟩ | ⟨r1, -⟩
    · omega
    · exact nI_cc r3 (by omega) (by omega)
    · omega
  · rcases h3 with ⟨r1, -⟩ | ⟨r1, -⟩ | ⟨-, r2, r3⟩
    · omega
    · omega
    · exact nI_cc r3 (by omega) (by omega)
theorem uAct (h0 : S 0 < 8) (hp : S 2 ≤ 97) (h : rAct S V T u w s S1 V1) (h' : rAct S V T u w s' S2 V2) : s = s' ∧ S1 = S2 ∧ V1 = V2 := by
  rcases h with ⟨a, k, h1, rfl, rfl, rfl⟩ | ⟨h1, rfl, rfl, rfl⟩
  · rcases h' with ⟨a2, k2, h3, rfl, rfl, rfl⟩ | ⟨h3, -⟩
    · obtain ⟨rfl, rfl⟩ := ucan h0 hp h1 h3; exact ⟨rfl, rfl, rfl⟩
    · exact absurd ⟨_, _, h1⟩ h3
  · rcases h' with ⟨a2, k2, h3, rfl, rfl, rfl⟩ | ⟨h3, rfl, rfl, rfl⟩
    · exact absurd ⟨_, _, h3⟩ h1
    · exact ⟨rfl, rfl, rfl⟩
theorem uPlayed {TX : Nat → zTx} (h5 : S 5 ≤ 4) (h : rPlayed S V TX T u s S1 V1) (h' : rPlayed S V TX T u s' S2 V2) : s = s' ∧ S1 = S2 ∧ V1 = V2 := by
  rcases h with ⟨a, h1, rfl, rfl, rfl, rfl⟩ | ⟨h1, rfl, rfl, rfl⟩
  · rcases h' with ⟨a2, h3, h4, rfl, rfl, rfl⟩ | ⟨h3, -⟩
    · rw [nI_cc h4 (by omega) (by omega)]; exact ⟨rfl, rfl, rfl⟩
    · exact absurd ⟨_, h1, rfl⟩ h3
  · rcases h' with ⟨a2, h3, h4, rfl, rfl, rfl⟩ | ⟨h3, rfl, rfl, rfl⟩
    · exact absurd ⟨_, h3, h4⟩ h1
    · exact ⟨rfl, rfl, rfl⟩
/-! well-formed states stay so -/
theorem wChain (hr : r ≤ 1) (hw : wSt S V) (h : rChain S V u r s S1 V1) : wSt S1 V1 ∧ S1 5 = S 5 ∧ S1 6 = S 6 := by
  rcases h with ⟨k, h1, h2, -, -, rfl, rfl⟩ | ⟨-, -, rfl, rfl⟩
  · obtain ⟨⟨w0, w1, w2, w3, w4, w5, w6⟩, w7, w8, w9, w10, w11⟩ := hw
    have w3' := zpl_b _ w3
    exact ⟨⟨⟨by show k < 8; omega, h1, hr, w3, w4, w5, w6⟩, w7, w8, Nat.le_refl _, by show 0 ≤ 20; omega, fun a _ b _ => by show 0 < S 2; omega⟩, rfl, rfl⟩
  · exact ⟨hw, rfl, rfl⟩
theorem wPrime (hw : wSt S V) (h : rPrime S V u s S1 V1) : wSt S1 V1 ∧ S1 5 = S 5 ∧ S1 6 = S 6 := by
  rcases h with ⟨k, h1, -, -, rfl, rfl⟩ | ⟨-, -, rfl, rfl⟩
  · obtain ⟨⟨w0, w1, w2, w3, w4, w5, w6⟩, w7, w8, w9, w10, w11⟩ := hw
    have hk := zpl_b _ h1
    have hk0 : 0 < k := by omega
    refine ⟨⟨⟨w0, w1, w2, h1, ?_, ?_, Nat.mod_lt _ hk0⟩, w7, w8, w9, w10, fun a _ b _ => Nat.mod_lt _ hk0⟩, rfl, rfl⟩
    · show 1 ≤ if S 3 % k = 0 then 1 else S 3 % k
      split <;> omega
    · show (if S 3 % k = 0 then 1 else S 3 % k) < k
      split
      · omega
      · exact Nat.mod_lt _ hk0
  · exact ⟨hw, rfl, rfl⟩
theorem wNumbers (hw : wSt S V) (h : rNumbers S u w s S1) : wSt S1 V ∧ S1 5 = S 5 ∧ S1 6 = S 6 := by
  rcases h with ⟨k, l, h1, h2, h3, -, -, -, rfl⟩ | ⟨-, -, rfl⟩
  · obtain ⟨⟨w0, w1, w2, w3, w4, w5, w6⟩, w7, w8, w9, w10, w11⟩ := hw
    exact ⟨⟨⟨w0, w1, w2, w3, h1, h2, h3⟩, w7, w8, w9, w10, w11⟩, rfl, rfl⟩
  · exact ⟨hw, rfl, rfl⟩
theorem wBy (hw : wSt S V) (h : rBy S u s S1) : wSt S1 V ∧ S1 5 = S 5 := by
  rcases h with ⟨k, h1, -, -, rfl⟩ | ⟨-, -, rfl⟩
  · obtain ⟨w0, w7, w8, w9, w10, w11⟩ := hw
    exact ⟨⟨w0, w7, h1, w9, w10, w11⟩, rfl⟩
  · exact ⟨hw, rfl⟩
theorem wSet (hw : wSt S V) (h : rSet S V u s S1 V1) : wSt S1 V1 ∧ S1 5 = S 5 ∧ S1 6 = S 6 := by
  rcases h with ⟨k, h1, -, -, rfl, rfl⟩ | ⟨-, -, rfl, rfl⟩
  · obtain ⟨w0, w7, w8, w9, w10, w11⟩ := hw
    have := zpl_b _ w0.2.2.2.1
    exact ⟨⟨w0, w7, w8, Nat.le_refl _, by show 0 ≤ 20; omega, fun a _ b _ => zu_lt (by show 1 < S 2; omega)⟩, rfl, rfl⟩
  · exact ⟨hw, rfl, rfl⟩
theorem wUndo (hw : wSt S V) (h : rUndo S s S1) : wSt S1 V ∧ S1 5 = S 5 ∧ S1 6 = S 6 := by
  rcases h with ⟨h1, -, rfl⟩ | ⟨-, -, rfl⟩
  · obtain ⟨w0, w7, w8, w9, w10, w11⟩ := hw
    exact ⟨⟨w0, w7, w8, by show S 7 - 1 ≤ S 8; omega, w10, w11⟩, rfl, rfl⟩
  · exact ⟨hw, rfl, rfl⟩
theorem wRedo (hw : wSt S V) (h : rRedo S s S1) : wSt S1 V ∧ S1 5 = S 5 ∧ S1 6 = S 6 := by
  rcases h with ⟨h1, -, rfl⟩ | ⟨-, -, rfl⟩
  · obtain ⟨w0, w7, w8, w9, w10, w11⟩ := hw
    exact ⟨⟨w0, w7, w8, by show S 7 + 1 ≤ S 8; omega, w10, w11⟩, rfl, rfl⟩
  · exact ⟨hw, rfl, rfl⟩
theorem wAct (hw : wSt S V) (h : rAct S V T u w s S1 V1) : wSt S1 V1 ∧ S1 5 = S 5 ∧ S1 6 = S 6 := by
  rcases h with ⟨a, k, h1, -, rfl, rfl⟩ | ⟨-, -, rfl, rfl⟩
  · exact ⟨zAc_w hw (zOp_lt hw h1), zAcS_no _ 5 (by decide) (by decide), zAcS_no _ 6 (by decide) (by decide)⟩
  · exact ⟨hw, rfl, rfl⟩
end UQ
