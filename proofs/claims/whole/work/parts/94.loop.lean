/-! THE LAW 5: text, and the loop -/
section LT
variable {X : a_X} {ad : Nat → Nat} {ca : Nat → ClassId} {d kc ks i x : Nat} {QF : List Frame → Array Value → State → State → Prop} {M : a_M}
theorem cEx.up {M : a_M} {R : Nat} {RD RD' : Nat → zTx} (h : cEx M R RD) (hr : ∀ ρ, ρ ≤ R → RD' ρ = RD ρ) : cEx M (R + 1) RD' := by
  rcases h with h | ⟨ρ, n, r, p, t, e, h1, h2, h3, h4, h5⟩
  · exact Or.inl h
  · exact Or.inr ⟨ρ, n, r, p, t, e, by omega, h2, h3, by rw [hr ρ h1]; exact h4, by rw [hr ρ h1]; exact h5⟩
theorem cs_text (hd : 40 ≤ d) (hi4 : i ≤ 4000) (hi : i + 5 < X.2.1.2.1) (hL : X.2.1.2.1 ≤ 3073) (h : LI i M) (K : ∀ M' x', LI (i + 6) M' → wL X ad ca d kc ks QF 1123 (nI i) M' x') : wL X ad ca d kc ks QF 379 (nI i) M x := by
  obtain ⟨S, V, S2, V2, tl, B, fa, fb, TX, R, RD, w, c, m, hR⟩ := h
  have hw := w.1
  have h5 := hw.2.1
  have h25 := w.2.2.1
  obtain ⟨c1, c2, c3, c4, c5, c6, c7, c8⟩ := id c
  obtain ⟨k1, k2, k3, k4, k5⟩ := c8
  refine bL_379 hi hL ⟨_, kX11_text (by omega) c1 hw c3.tB k1, ?_⟩
  rintro v1 M1 x1 hc
  rcases hc with ⟨g1, rfl, rfl, rfl⟩ | ⟨g1, g2, g3, g4, g5, g6⟩
  · refine ⟨_, kX12_text (by omega) m.1 hw m.2.2.1, ?_⟩
    rintro v2 M2 hm
    rcases hm with ⟨-, rfl, rfl⟩ | ⟨j1, -⟩
    · exact ⟨rfl, K _ _ ⟨S, V, S2, V2, tl, B, fa, fb, TX, R, RD, w, c, m, by omega⟩⟩
    · omega
  · have m1 := m.same (M' := M1) (fun i a b => g5 i (by omega) (by omega) (by omega) (by omega) (by omega) (by omega))
    refine ⟨_, kX12_text (by omega) m1.1 hw m1.2.2.1, ?_⟩
    rintro v2 M2 hm
    rcases hm with ⟨j1, -⟩ | ⟨-, j2, j3, j4, j5, j6⟩
    · omega
    have low : ∀ q, q < 118 → M2 q = M1 q := fun q hq => j4 q (by omega) (by omega) (by omega)
    have tp1 : cTp M2 0 B := ⟨by rw [low 1 (by omega)]; exact g3, by omega, fun z hz => absurd hz (Nat.not_lt_zero _)⟩
    have tp2 : mTp M2 0 B := ⟨j2, by omega, fun z hz => absurd hz (Nat.not_lt_zero _)⟩
    have s69 : cSt M2 69 S2 V2 := c2.same (fun z a b => by rw [low z (by omega), g5 z (by omega) (by omega) (by omega) (by omega) (by omega) (by omega)])
    have m120 : mSt M2 120 S2 V2 := m1.2.1.same (j4 120 (by decide) (by decide) (by omega))
    have sp2 : cSp M2 := c6.same (fun z a => by rw [low z (by omega), g5 z (by omega) (by omega) (by omega) (by omega) (by omega) (by omega)])
    have pa2 : cPa M2 := c7.same (fun z a => by rw [low z (by omega), g5 z (by omega) (by omega) (by omega) (by omega) (by omega) (by omega)])
    have ex2 : cEx M2 R RD := c5.same (fun z a b _ => by rw [low z (by omega), g5 z (by omega) (by omega) (by omega) (by omega) (by omega) (by omega)])
    have n12 : M2 12 5 = nI (R + 1) := by rw [low 12 (by omega)]; exact g2
    have scr : ∀ t, t < S 5 → ∀ z, 94 + 6 * t ≤ z → z ≤ 94 + 6 * t + 4 → M2 z = M z := fun t ht z a b => by rw [low z (by omega), g5 z (by omega) (by omega) (by omega) (by omega) (by omega) (by omega)]
    have scr6 : ∀ z, 6 ≤ z → z ≤ 10 → M2 z = M z := fun z a b => by rw [low z (by omega), g5 z (by omega) (by omega) (by omega) (by omega) (by omega) (by omega)]
    have x6 : cTx M2 6 [] := k3.same (fun z a b => by rw [scr6 z a b]; exact ⟨fun _ => rfl, fun _ => rfl⟩)
    have x66 : M2 6 6 = 0 := by rw [scr6 6 (by omega) (by omega)]; exact k4
    have old : ∀ (RD' : Nat → zTx) (TX' : Nat → zTx), (∀ ρ, ρ ≤ R → RD' ρ = RD ρ) → (∀ t, t < S 5 → TX' t = TX t) → ∀ t, t < S 5 → cTx M2 (94 + 6 * t) (TX' t) ∧ ∃ ρ, ρ ≤ R + 1 ∧ M2 (94 + 6 * t) 6 = nI ρ ∧ RD' ρ = TX' t := fun RD' TX' e1 e2 t ht => by
      obtain ⟨q1, ρ, q2, q3, q4⟩ := k2 t ht
      rw [e2 t ht]
      exact ⟨q1.same (fun z a b => by rw [scr t ht z a b]; exact ⟨fun _ => rfl, fun _ => rfl⟩), ρ, by omega, by rw [scr t ht _ (by omega) (by omega)]; exact q3, by rw [e1 ρ q2]; exact q4⟩
    cases hp : pTx (lTk (lY B) tl) 31 0 [] with
    | inl y =>
      obtain ⟨f, j⟩ := y
      rw [hp] at g6 j6
      obtain ⟨rfl, l1, l2, l3⟩ := g6
      obtain ⟨rfl, l4, l5, l6⟩ := j6
      refine ⟨rfl, K _ _ ⟨S, V, S2, V2, 0, B, nI f, nI (lSt (lY B) tl j), TX, R + 1, RD, w, ⟨l3.same (fun z a b => low z (by omega)), s69, tp1, Or.inr ⟨R, by omega, n12, by rw [low 12 (by omega)]; exact l1, by rw [low 12 (by omega)]; exact l2⟩, ex2.up (fun _ _ => rfl), sp2, pa2, n12, old RD TX (fun _ _ => rfl) (fun _ _ => rfl), x6, x66, k5⟩, ⟨m1.1.same l6, m120, tp2, ⟨l4, l5⟩, fun t ht => j5 t (TX t) (by omega) (w.2.2.2 t ht).1 (m1.2.2.2.2 t ht)⟩, by omega⟩⟩
    | inr T =>
      rw [hp] at g6 j6
      obtain ⟨rfl, l1, l2, l3, l4, l5, l6⟩ := g6
      obtain ⟨rfl, n1, n2, n3, n4, n5⟩ := j6
      obtain ⟨w0, w1, w2, w3⟩ := id hw
      have e5 : va_up S 5 (S 5 + 1) 5 = S 5 + 1 := vu _ _ _
      have ts : ∀ t, t < S 5 → va_up TX (S 5) T t = TX t := fun t ht => vn _ _ _ _ (by omega)
      have rd : ∀ ρ, ρ ≤ R → va_up RD (R + 1) T ρ = RD ρ := fun ρ h => vn _ _ _ _ (by omega)
      refine ⟨rfl, K _ _ ⟨va_up S 5 (S 5 + 1), V, S2, V2, 0, B, 0, -1, va_up TX (S 5) T, R + 1, va_up RD (R + 1) T, ⟨⟨w0, by rw [e5]; omega, by rw [e5]; show S 6 ≤ S 5 + 1; omega, w3⟩, w.2.1, by rw [e5]; omega, fun t ht => ?_⟩, ⟨l6.same (fun z a b => low z (by omega)), s69, tp1, Or.inr ⟨R, by omega, n12, by rw [low 12 (by omega)]; exact l1, by rw [low 12 (by omega)]; exact l2⟩, ex2.up rd, sp2, pa2, n12, fun t ht => ?_, x6, x66, by rw [rd 0 (Nat.zero_le _)]; exact k5⟩, ⟨n5, m120, tp2, ⟨n1, n2⟩, fun t ht => ?_⟩, by omega⟩⟩
      · rw [e5] at ht
        by_cases q : t = S 5
        · rw [q, vu]; exact l4
        · rw [ts t (by omega)]; exact w.2.2.2 t (by omega)
      · rw [e5] at ht
        by_cases q : t = S 5
        · rw [q, vu]
          exact ⟨l3.same (fun z a b => by rw [low z (by omega)]; exact ⟨fun _ => rfl, fun _ => rfl⟩), R + 1, Nat.le_refl _, by rw [low _ (by omega)]; exact l5, vu _ _ _⟩
        · exact old _ _ rd ts t (by omega)
      · rw [e5] at ht
        by_cases q : t = S 5
        · rw [q, vu]; exact n3
        · rw [ts t (by omega)]
          exact j5 t (TX t) q (w.2.2.2 t (by omega)).1 (m1.2.2.2.2 t (by omega))
end LT
