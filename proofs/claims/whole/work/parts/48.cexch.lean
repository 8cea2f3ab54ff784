/-! CONTRACTS 29: Exchange on the class's side -/
def exA (M : a_M) (p t e : Nat) (T : zTx) : Prop := ∀ u, u < p → M 14 u = nI (zW T p t e 0 u) ∧ M 15 u = nI (zW T p t e 1 u) ∧ M 16 u = nI (zW T p t e 2 u)
def exQ (M : a_M) (p t e : Nat) (T : zTx) : Prop := M 13 7 = nI (zEn (zHq p t e T) (p * p)) ∧ (M 13 8 = match zEf (zHq p t e T) (p * p) with | some q => nI (q / p) | none => -1) ∧ (M 13 9 = match zEf (zHq p t e T) (p * p) with | some q => nI (q % p) | none => -1)
def exS (M : a_M) (n r p t e : Nat) (T : zTx) : Prop := rH M 18 n r p t e ∧ exA M p t e T ∧ (M 13 6 = 0 ∨ (M 13 6 = 1 ∧ exQ M p t e T))
/-- the cache of Exchange holds what it says; RD: the text of a reading -/
def cEx (M : a_M) (R : Nat) (RD : Nat → zTx) : Prop := M 13 5 = -1 ∨ ∃ ρ n r p t e, ρ ≤ R ∧ M 13 5 = nI ρ ∧ wH n r p t e ∧ wTx (RD ρ) ∧ exS M n r p t e (RD ρ)
theorem exS.same {M M' : a_M} {n r p t e : Nat} {T : zTx} (h : exS M n r p t e T) (hm : ∀ i, 13 ≤ i → i ≤ 18 → i ≠ 17 → M' i = M i) : exS M' n r p t e T := by
  obtain ⟨h1, h2, h3⟩ := h
  refine ⟨h1.same (hm 18 (by omega) (by omega) (by omega)), fun u hu => ?_, ?_⟩
  · rw [hm 14 (by omega) (by omega) (by omega), hm 15 (by omega) (by omega) (by omega), hm 16 (by omega) (by omega) (by omega)]; exact h2 u hu
  · unfold exQ
    rw [hm 13 (by omega) (by omega) (by omega)]; exact h3
theorem cEx.same {M M' : a_M} {R : Nat} {RD : Nat → zTx} (h : cEx M R RD) (hm : ∀ i, 13 ≤ i → i ≤ 18 → i ≠ 17 → M' i = M i) : cEx M' R RD := by
  rcases h with h | ⟨ρ, n, r, p, t, e, h1, h2, h3, h4, h5⟩
  · exact Or.inl (by rw [hm 13 (by omega) (by omega) (by omega)]; exact h)
  · exact Or.inr ⟨ρ, n, r, p, t, e, h1, by rw [hm 13 (by omega) (by omega) (by omega)]; exact h2, h3, h4, h5.same hm⟩
theorem rH_one {M M' : a_M} {o o' n r p t e n' r' p' t' e' : Nat} (h : rH M o n r p t e) (h' : rH M' o' n' r' p' t' e') (hw : wH n r p t e) (hw' : wH n' r' p' t' e') (hq : ∀ k, k < 5 → M o k = M' o' k) : n = n' ∧ r = r' ∧ p = p' ∧ t = t' ∧ e = e' := by
  obtain ⟨a0, a1, a2, a3, a4⟩ := h
  obtain ⟨b0, b1, b2, b3, b4⟩ := h'
  obtain ⟨w0, w1, w2, w3, w4, w5, w6⟩ := hw
  obtain ⟨v0, v1, v2, v3, v4, v5, v6⟩ := hw'
  have hp := zpl_b p w3
  have hp' := zpl_b p' v3
  have q0 := hq 0 (by omega)
  have q1 := hq 1 (by omega)
  have q2 := hq 2 (by omega)
  have q3 := hq 3 (by omega)
  have q4 := hq 4 (by omega)
  rw [a0, b0] at q0
  rw [a1, b1] at q1
  rw [a2, b2] at q2
  rw [a3, b3] at q3
  rw [a4, b4] at q4
  exact ⟨(nI_eq (by omega) (by omega)).mp q0, (nI_eq (by omega) (by omega)).mp q1, (nI_eq (by omega) (by omega)).mp q2, (nI_eq (by omega) (by omega)).mp q3, (nI_eq (by omega) (by omega)).mp q4⟩
/-- the three conditions -/
def zHc (p Av Bv Cv Au Bu Cu Aw Bw Cw : Nat) : Bool := zm ((Av * Bu * Cw : Nat) - (Bv * Au * Cw : Nat) - (Cv * Cu * Bw : Nat) : Int) p == 0 && zm ((Av * Cu * Aw : Nat) - (Cv * Au * Cw : Nat) - (Bv * Cu * Bw : Nat) : Int) p == 0 && zm ((Cv * Bu * Aw : Nat) - (Cv * Au * Bw : Nat) - (Bv * Cu * Cw : Nat) : Int) p == 0
def zHd (p t e : Nat) (T : zTx) (u v : Nat) : Bool := zHc p (zW T p t e 0 v) (zW T p t e 1 v) (zW T p t e 2 v) (zW T p t e 0 u) (zW T p t e 1 u) (zW T p t e 2 u) (zW T p t e 0 (zls p u v)) (zW T p t e 1 (zls p u v)) (zW T p t e 2 (zls p u v))
theorem n_sub2 {a b c : Nat} (ha : a < 2 ^ 28) (hb : b < 2 ^ 28) (hc : c < 2 ^ 28) : (nI a - nI b - nI c).toInt = (a : Int) - (b : Int) - (c : Int) := by
  rw [Int32.toInt_sub, Int32.toInt_sub, nI_toInt (by omega), nI_toInt (by omega), nI_toInt (by omega), Int.bmod_eq_of_le (n := (a : Int) - b) (by omega) (by omega), Int.bmod_eq_of_le (by omega) (by omega)]
theorem n_p3 {p a b c : Nat} (ha : a < p) (hb : b < p) (hc : c < p) (hp : p ≤ 97) : a * b * c < 2 ^ 28 := by
  have h1 : a * b ≤ 97 * 97 := Nat.mul_le_mul (by omega) (by omega)
  have h2 : a * b * c ≤ 97 * 97 * 97 := Nat.mul_le_mul h1 (by omega)
  omega
/-- the one way from x to y -/
def zwy (p A B C a b f : Nat) : Nat → Nat × Nat
  | 0 => (f, 1)
  | i + 1 => if zb a i = zb b i then ((zwy p A B C a b f i).1, (zwy p A B C a b f i).2 * (if zb a i = (zwy p A B C a b f i).1 then A else B) % p) else if zb a i ≠ (zwy p A B C a b f i).1 then (zb a i, (zwy p A B C a b f i).2 * C % p) else ((zwy p A B C a b f i).1, 0)
def zwr (p n A B C a b f : Nat) : Nat := if (zwy p A B C a b f n).1 = f then (zwy p A B C a b f n).2 else 0
def ztb (p n A B C a b : Nat) : Nat := if zc a = zc b then (zwr p n A B C a b 0 + zwr p n A B C a b 1) % p else 0
theorem zwy_0 {p A B C a b f i : Nat} (h : (zwy p A B C a b f i).2 = 0) : ∀ j, (zwy p A B C a b f (i + j)).2 = 0
  | 0 => h
  | j + 1 => by
    have ih := zwy_0 h j
    show (zwy p A B C a b f (i + j + 1)).2 = 0
    unfold zwy
    split
    · show _ * _ % p = 0
      rw [ih, Nat.zero_mul, Nat.zero_mod]
    split
    · show _ * _ % p = 0
      rw [ih, Nat.zero_mul, Nat.zero_mod]
    · rfl
theorem zwy_lt {p A B C a b f : Nat} (hp : 1 < p) (hf : f ≤ 1) : ∀ i, (zwy p A B C a b f i).1 ≤ 1 ∧ (zwy p A B C a b f i).2 < p
  | 0 => ⟨hf, hp⟩
  | i + 1 => by
    have ih := zwy_lt (A := A) (B := B) (C := C) (a := a) (b := b) hp hf i
    have hb : zb a i ≤ 1 := by unfold zb; omega
    unfold zwy
    split
    · exact ⟨ih.1, Nat.mod_lt _ (by omega)⟩
    split
    · exact ⟨hb, Nat.mod_lt _ (by omega)⟩
    · exact ⟨ih.1, by show 0 < p; omega⟩
/-- the row of letters below the one beside, without letter i -/
def zbe (n i y : Nat) : Nat := y % 2 ^ n - zb y i * 2 ^ i
theorem zbe_all : ((List.range 8).all fun n => (List.range n).all fun i => (List.range (2 ^ (n + 1))).all fun y => (y == y / 2 ^ n * 2 ^ n + zb y i * 2 ^ i + zbe n i y) && (zb (zbe n i y) i == 0) && decide (zbe n i y < 2 ^ n)) = true := by decide +kernel
theorem zbe_f {n i y : Nat} (hn : n < 8) (hi : i < n) (hy : y < 2 ^ (n + 1)) : y = y / 2 ^ n * 2 ^ n + zb y i * 2 ^ i + zbe n i y ∧ zb (zbe n i y) i = 0 ∧ zbe n i y < 2 ^ n := by
  have h := List.all_eq_true.mp (List.all_eq_true.mp (List.all_eq_true.mp zbe_all n (List.mem_range.mpr hn)) i (List.mem_range.mpr hi)) y (List.mem_range.mpr hy)
  simp only [Bool.and_eq_true, decide_eq_true_eq, beq_iff_eq] at h
  exact ⟨h.1.1, h.1.2, h.2⟩
theorem zbe_four : ((List.range 8).all fun n => (List.range n).all fun i => (List.range (2 ^ n)).all fun s => !(zb s i == 0) || ((zbe n i s == s) && (zbe n i (s + 2 ^ i) == s) && (zbe n i (2 ^ n + s) == s) && (zbe n i (2 ^ n + s + 2 ^ i) == s) && (zxa n i s) && (zxa n i (2 ^ n + s + 2 ^ i)) && !(zxa n i (s + 2 ^ i)) && !(zxa n i (2 ^ n + s)) && (zxp n i (s + 2 ^ i) == 2 ^ n + s) && (zxp n i (2 ^ n + s) == s + 2 ^ i) && decide (s + 2 ^ i < 2 ^ n))) = true := by decide +kernel
theorem zbe_g {n i s : Nat} (hn : n < 8) (hi : i < n) (hs : s < 2 ^ n) (h0 : zb s i = 0) : zbe n i s = s ∧ zbe n i (s + 2 ^ i) = s ∧ zbe n i (2 ^ n + s) = s ∧ zbe n i (2 ^ n + s + 2 ^ i) = s ∧ zxa n i s = true ∧ zxa n i (2 ^ n + s + 2 ^ i) = true ∧ zxa n i (s + 2 ^ i) = false ∧ zxa n i (2 ^ n + s) = false ∧ zxp n i (s + 2 ^ i) = 2 ^ n + s ∧ zxp n i (2 ^ n + s) = s + 2 ^ i ∧ s + 2 ^ i < 2 ^ n := by
  have h := List.all_eq_true.mp (List.all_eq_true.mp (List.all_eq_true.mp zbe_four n (List.mem_range.mpr hn)) i (List.mem_range.mpr hi)) s (List.mem_range.mpr hs)
  simp only [Bool.and_eq_true, Bool.or_eq_true, Bool.not_eq_true', decide_eq_true_eq, beq_iff_eq, beq_eq_false_iff_ne] at h
  rcases h with h | h
  · exact absurd h0 h
  · obtain ⟨⟨⟨⟨⟨⟨⟨⟨⟨⟨h1, h2⟩, h3⟩, h4⟩, h5⟩, h6⟩, h7⟩, h8⟩, h9⟩, h10⟩, h11⟩ := h
    exact ⟨h1, h2, h3, h4, h5, h6, h7, h8, h9, h10, h11⟩
section Z30
variable {X : a_X} {ad : Nat → Nat} {ca : Nat → ClassId} {d x : Nat} {M : a_M}
theorem kX1_look (hd : 5 ≤ d) {R ρ o1 o2 n r p t e : Nat} {RD : Nat → zTx} (hE : cEx M R RD) (hL : LY[o1]? = some (6, 5)) (ho1 : o1 ≠ 18) (ho2 : zsc o2) (hH : rH M o1 n r p t e) (hw : wH n r p t e) (hρ : M o2 6 = nI ρ) (hρR : ρ ≤ R) (hR : R < 2 ^ 30) (hT : cTx M o2 (RD ρ)) (hwT : wTx (RD ρ)) :
    mX1_look X ad ca d x [.ref 13, .ref o1, .ref o2] M (q_v (PT x) (fun M' => M' 13 5 = nI ρ ∧ exS M' n r p t e (RD ρ) ∧ ∀ i, i ≠ 13 → i ≠ 14 → i ≠ 15 → i ≠ 16 → i ≠ 18 → i ≠ o2 + 5 → M' i = M i)) := by
  obtain ⟨d, rfl⟩ := a_d1 (show 1 ≤ d by omega)
  have hpb := zpl_b p hw.2.2.2.1
  have hLs := (ly_scr (x := x) ho2).1
  have ho1n : o1 ≠ 13 ∧ o1 ≠ 14 ∧ o1 ≠ 15 ∧ o1 ≠ 16 ∧ o1 ≠ o2 + 5 := ⟨ly_ne (o2 := 13) hL rfl (by decide), ly_ne (o2 := 14) hL rfl (by decide), ly_ne (o2 := 15) hL rfl (by decide), ly_ne (o2 := 16) hL rfl (by decide), ly_ne hL (ly_scr (x := x) ho2).2.2.2.2.2.1 (by decide)⟩
  have ho2n : ∀ i, o2 ≤ i → i ≤ o2 + 5 → i ≠ 13 ∧ i ≠ 14 ∧ i ≠ 15 ∧ i ≠ 16 ∧ i ≠ 18 := by
    intro i h1 h2
    unfold zsc at ho2
    omega
  have h23 : wX1_look X ad ca d x (q_v (PT x) (fun M' => M' 13 5 = nI ρ ∧ exS M' n r p t e (RD ρ) ∧ ∀ i, i ≠ 13 → i ≠ 14 → i ≠ 15 → i ≠ 16 → i ≠ 18 → i ≠ o2 + 5 → M' i = M i)) 23 [(0, .ref 13), (1, .ref o1), (2, .ref o2)] M := by
    refine bX1_look_23 _ _ hL hLs ⟨_, kX6_copyFrom (o := 18) (by omega) rfl hL (hH.same (ms_row _ _ _ _ _ ho1n.1)) hw.2.2.1, ?_⟩
    rintro M1 ⟨a1, a2⟩
    rw [hρ] at a2
    have f1 : ∀ i, i ≠ 13 → i ≠ 18 → ms M1 13 6 0 i = M i := fun i h1 h2 => by rw [ms_row _ _ _ _ _ h1, a2 i h2, ms_row _ _ _ _ _ h1]
    have g5 : ms M1 13 6 0 13 5 = nI ρ := by rw [ms_no _ _ _ _ _ _ (by decide), a2 13 (by decide), ms_is]
    have g6 : ms M1 13 6 0 13 6 = 0 := ms_is _ _ _ _
    have g18 : rH (ms M1 13 6 0) 18 n r p t e := a1.same (ms_row _ _ _ _ _ (by decide))
    generalize ms M1 13 6 0 = M2 at f1 g5 g6 g18
    refine a_loop (σ := a_M) (fun u M' => wX1_look X ad ca d x _ 46 [(0, .ref 13), (1, .ref o1), (2, .ref o2), (3, .int (nI u))] M') (fun u M' => (∀ v, v < u → M' 14 v = nI (zW (RD ρ) p t e 0 v) ∧ M' 15 v = nI (zW (RD ρ) p t e 1 v) ∧ M' 16 v = nI (zW (RD ρ) p t e 2 v)) ∧ ∀ i, i ≠ 14 → i ≠ 15 → i ≠ 16 → i ≠ o2 + 5 → M' i = M2 i) p ?_ ?_ 0 M2 (Nat.zero_le _) ⟨fun v hv => absurd hv (Nat.not_lt_zero v), fun _ _ _ _ _ => rfl⟩
    · rintro M3 ⟨q1, q2⟩
      have e1 : M3 o1 2 = nI p := by rw [q2 o1 ho1n.2.1 ho1n.2.2.1 ho1n.2.2.2.1 ho1n.2.2.2.2, f1 o1 ho1n.1 ho1]; exact hH.2.2.1
      have e13 : M3 13 = M2 13 := q2 13 (by decide) (by decide) (by decide) (by unfold zsc at ho2; omega)
      have e18 : M3 18 = M2 18 := q2 18 (by decide) (by decide) (by decide) (by unfold zsc at ho2; omega)
      refine bX1_look_46 _ _ _ hL hLs ?_
      rw [e1]
      refine ⟨fun _ => ⟨rfl, rfl, by rw [e13]; exact g5, ⟨g18.same e18, q1, Or.inl (by rw [e13]; exact g6)⟩, fun i h1 h2 h3 h4 h5 h6 => by rw [q2 i h2 h3 h4 h6]; exact f1 i h1 h5⟩, fun h => absurd (nI_le (Nat.le_refl _) (by omega)) h⟩
    · rintro u M3 hu ⟨q1, q2⟩ ih
      have e1 : M3 o1 2 = nI p := by rw [q2 o1 ho1n.2.1 ho1n.2.2.1 ho1n.2.2.2.1 ho1n.2.2.2.2, f1 o1 ho1n.1 ho1]; exact hH.2.2.1
      -- the texts and the rule in what follows
      have keepT : ∀ M' : a_M, (∀ i, i ≠ 14 → i ≠ 15 → i ≠ 16 → i ≠ o2 + 5 → M' i = M2 i) → cTx M' o2 (RD ρ) ∧ rH M' o1 n r p t e := by
        intro M' h
        refine ⟨hT.same (fun i h1 h2 => ?_), hH.same (by rw [h o1 ho1n.2.1 ho1n.2.2.1 ho1n.2.2.2.1 ho1n.2.2.2.2]; exact f1 o1 ho1n.1 ho1)⟩
        have := ho2n i h1 (by omega)
        have hq : M' i = M i := by rw [h i this.2.1 this.2.2.1 this.2.2.2.1 (by omega)]; exact f1 i this.1 this.2.2.2.2
        exact ⟨fun _ => by rw [hq], fun _ => hq⟩
      refine bX1_look_46 _ _ _ hL hLs ?_
      rw [e1]
      refine ⟨fun h => absurd h (nI_ge hu (by omega)), fun _ => ⟨fun h => absurd h (nI_ge (b := 97) (by omega) (by omega)), fun _ => ?_⟩⟩
      rw [n_cl (by omega)]
      refine ⟨_, kX7_worth (w := 0) (by omega) ho2 (keepT _ q2).1 hwT hL (keepT _ q2).2 hw (by omega) hu, ?_⟩
      rintro v1 M4 ⟨rfl, b2⟩
      have f4 : ∀ i, i ≠ 14 → i ≠ 15 → i ≠ 16 → i ≠ o2 + 5 → ms M4 14 u (nI (zW (RD ρ) p t e 0 u)) i = M2 i := fun i h1 h2 h3 h4 => by rw [ms_row _ _ _ _ _ h1, b2 i h4]; exact q2 i h1 h2 h3 h4
      refine ⟨n_in (by omega) (by omega), _, kX7_worth (w := 1) (by omega) ho2 (keepT _ f4).1 hwT hL (keepT _ f4).2 hw (by omega) hu, ?_⟩
      rintro v2 M5 ⟨rfl, c2⟩
      have f5 : ∀ i, i ≠ 14 → i ≠ 15 → i ≠ 16 → i ≠ o2 + 5 → ms M5 15 u (nI (zW (RD ρ) p t e 1 u)) i = M2 i := fun i h1 h2 h3 h4 => by rw [ms_row _ _ _ _ _ h2, c2 i h4]; exact f4 i h1 h2 h3 h4
      refine ⟨n_in (by omega) (by omega), _, kX7_worth (w := 2) (by omega) ho2 (keepT _ f5).1 hwT hL (keepT _ f5).2 hw (by omega) hu, ?_⟩
      rintro v3 M6 ⟨rfl, d2⟩
      refine ⟨n_in (by omega) (by omega), ?_⟩
      rw [← nI_succ]
      have n5 := ho2n (o2 + 5) (by omega) (by omega)
      refine ih _ ⟨fun v hv => ?_, fun i h1 h2 h3 h4 => by rw [ms_row _ _ _ _ _ h3, d2 i h4]; exact f5 i h1 h2 h3 h4⟩
      have r14 : ms M6 16 u (nI (zW (RD ρ) p t e 2 u)) 14 v = ms M4 14 u (nI (zW (RD ρ) p t e 0 u)) 14 v := by
        rw [ms_row _ _ _ _ _ (by decide), d2 14 (by omega), ms_row _ _ _ _ _ (by decide), c2 14 (by omega)]
      have r15 : ms M6 16 u (nI (zW (RD ρ) p t e 2 u)) 15 v = ms M5 15 u (nI (zW (RD ρ) p t e 1 u)) 15 v := by
        rw [ms_row _ _ _ _ _ (by decide), d2 15 (by omega)]
      rw [r14, r15]
      by_cases ev : v = u
      · subst ev
        exact ⟨ms_is _ _ _ _, ms_is _ _ _ _, ms_is _ _ _ _⟩
      · obtain ⟨w1, w2, w3⟩ := q1 v (by omega)
        refine ⟨?_, ?_, ?_⟩
        · rw [ms_no _ _ _ _ _ _ (by omega), b2 14 (by omega)]; exact w1
        · rw [ms_no _ _ _ _ _ _ (by omega), c2 15 (by omega), ms_row _ _ _ _ _ (by decide), b2 15 (by omega)]; exact w2
        · rw [ms_no _ _ _ _ _ _ (by omega), d2 16 (by omega), ms_row _ _ _ _ _ (by decide), c2 16 (by omega), ms_row _ _ _ _ _ (by decide), b2 16 (by omega)]; exact w3
  refine eX1_look _ _ (bX1_look_0 _ _ hL hLs ⟨fun _ => h23, fun h => ⟨_, kX6_isLike (o := 18) (by omega) rfl hL, ?_⟩⟩)
  rintro v1 M1 ⟨rfl, hv⟩
  refine ⟨fun _ => h23, fun hne => ?_⟩
  rcases hv with ⟨-, hq⟩ | ⟨q, -⟩
  · rcases hE with hE | ⟨ρ', n', r', p', t', e', k1, k2, k3, k4, k5⟩
    · rw [hE, hρ] at h
      exact absurd h.symm (nI_m1 (by omega))
    · rw [k2, hρ] at h
      have hρe : ρ' = ρ := (nI_eq (by omega) (by omega)).mp h
      obtain ⟨rfl, rfl, rfl, rfl, rfl⟩ := rH_one k5.1 hH k3 hw hq
      subst hρe
      exact ⟨rfl, rfl, k2, k5, fun _ _ _ _ _ _ _ => rfl⟩
  · exact absurd q hne
theorem kX1_holds (hd : 2 ≤ d) {n r p t e u v : Nat} {T : zTx} (hS : rH M 18 n r p t e ∧ exA M p t e T) (hw : wH n r p t e) (hT : wTx T) (hu : u < p) (hv : v < p) :
    mX1_holds X ad ca d x [.ref 13, .int (nI u), .int (nI v)] M (q_i (PT x) (fun s M' => M' = M ∧ s = if zHd p t e T u v = true then 1 else 0)) := by
  obtain ⟨d, rfl⟩ := a_d1 (show 1 ≤ d by omega)
  have hpb := zpl_b p hw.2.2.2.1
  have hp0 : 0 < p := by omega
  have hl : zls p u v < p := Nat.mod_lt _ hp0
  obtain ⟨hR, hA⟩ := hS
  have kA := fun w (hw' : w < p) => zW_ok hw hT (show 0 < 3 by omega) hw'
  have kB := fun w (hw' : w < p) => zW_ok hw hT (show 1 < 3 by omega) hw'
  have kC := fun w (hw' : w < p) => zW_ok hw hT (show 2 < 3 by omega) hw'
  have hd' : zHd p t e T u v = zHc p (zW T p t e 0 v) (zW T p t e 1 v) (zW T p t e 2 v) (zW T p t e 0 u) (zW T p t e 1 u) (zW T p t e 2 u) (zW T p t e 0 (zls p u v)) (zW T p t e 1 (zls p u v)) (zW T p t e 2 (zls p u v)) := rfl
  obtain ⟨u1, u2, u3⟩ := hA u hu
  obtain ⟨v1, v2, v3⟩ := hA v hv
  obtain ⟨w1, w2, w3⟩ := hA _ hl
  have lu1 := kA u hu
  have lu2 := kB u hu
  have lu3 := kC u hu
  have lv1 := kA v hv
  have lv2 := kB v hv
  have lv3 := kC v hv
  have lw1 := kA _ hl
  have lw2 := kB _ hl
  have lw3 := kC _ hl
  -- the three questions
  have main : (∃ Q1 : Int32 → a_M → Prop, mX11_left X ad ca d x [.int ((((M 14 v * M 15 u) * M 16 (zls p u v)) - ((M 15 v * M 14 u) * M 16 (zls p u v))) - ((M 16 v * M 16 u) * M 15 (zls p u v))), .int (M 18 2)] M (q_i (PT x) Q1) ∧ ∀ y1 M1, Q1 y1 M1 → ((¬ y1 = 0 → wX1_holds X ad ca d x (q_i (PT x) (fun s M' => M' = M ∧ s = if zHd p t e T u v = true then 1 else 0)) 258 [] M1) ∧ (y1 = 0 → (∃ Q2 : Int32 → a_M → Prop, mX11_left X ad ca d x [.int ((((M 14 v * M 16 u) * M 14 (zls p u v)) - ((M 16 v * M 14 u) * M 16 (zls p u v))) - ((M 15 v * M 16 u) * M 15 (zls p u v))), .int (M 18 2)] M1 (q_i (PT x) Q2) ∧ ∀ y2 M2, Q2 y2 M2 → ((¬ y2 = 0 → wX1_holds X ad ca d x (q_i (PT x) (fun s M' => M' = M ∧ s = if zHd p t e T u v = true then 1 else 0)) 258 [] M2) ∧ (y2 = 0 → (∃ Q3 : Int32 → a_M → Prop, mX11_left X ad ca d x [.int ((((M 16 v * M 15 u) * M 14 (zls p u v)) - ((M 16 v * M 14 u) * M 15 (zls p u v))) - ((M 15 v * M 16 u) * M 16 (zls p u v))), .int (M 18 2)] M2 (q_i (PT x) Q3) ∧ ∀ y3 M3, Q3 y3 M3 → ((¬ y3 = 0 → wX1_holds X ad ca d x (q_i (PT x) (fun s M' => M' = M ∧ s = if zHd p t e T u v = true then 1 else 0)) 258 [] M3) ∧ (y3 = 0 → q_i (PT x) (fun s M' => M' = M ∧ s = if zHd p t e T u v = true then 1 else 0) (some (.int 1)) M3 (PT x)))))))))) := by
    rw [hR.2.2.1, u1, u2, u3, v1, v2, v3, w1, w2, w3]
    simp only [n_mul]
    rw [hd']
    generalize zW T p t e 0 u = Au at lu1
    generalize zW T p t e 1 u = Bu at lu2
    generalize zW T p t e 2 u = Cu at lu3
    generalize zW T p t e 0 v = Av at lv1
    generalize zW T p t e 1 v = Bv at lv2
    generalize zW T p t e 2 v = Cv at lv3
    generalize zW T p t e 0 (zls p u v) = Aw at lw1
    generalize zW T p t e 1 (zls p u v) = Bw at lw2
    generalize zW T p t e 2 (zls p u v) = Cw at lw3
    have z0 : ∀ z : Int, (nI (zm z p) = 0 ↔ zm z p = 0) := fun z => nI_eq (b := 0) (by have := zm_lt (z := z) hp0; omega) (by omega)
    refine ⟨_, kX11_left (by omega) _ hp0 (by omega), ?_⟩
    rintro y1 M1 ⟨rfl, rfl⟩
    rw [n_sub2 (n_p3 lv1 lu2 lw3 (by omega)) (n_p3 lv2 lu1 lw3 (by omega)) (n_p3 lv3 lu3 lw2 (by omega)), z0]
    refine ⟨fun h => bX1_holds_258 ⟨_, rfl, rfl, rfl, ?_⟩, fun h => ⟨_, kX11_left (by omega) _ hp0 (by omega), ?_⟩⟩
    · rw [if_neg]
      unfold zHc
      rw [Bool.and_eq_true, Bool.and_eq_true, beq_iff_eq, beq_iff_eq, beq_iff_eq]
      exact fun q => h q.1.1
    rintro y2 M2 ⟨rfl, rfl⟩
    rw [n_sub2 (n_p3 lv1 lu3 lw1 (by omega)) (n_p3 lv3 lu1 lw3 (by omega)) (n_p3 lv2 lu3 lw2 (by omega)), z0]
    refine ⟨fun h2 => bX1_holds_258 ⟨_, rfl, rfl, rfl, ?_⟩, fun h2 => ⟨_, kX11_left (by omega) _ hp0 (by omega), ?_⟩⟩
    · rw [if_neg]
      unfold zHc
      rw [Bool.and_eq_true, Bool.and_eq_true, beq_iff_eq, beq_iff_eq, beq_iff_eq]
      exact fun q => h2 q.1.2
    rintro y3 M3 ⟨rfl, rfl⟩
    rw [n_sub2 (n_p3 lv3 lu2 lw1 (by omega)) (n_p3 lv3 lu1 lw2 (by omega)) (n_p3 lv2 lu3 lw3 (by omega)), z0]
    refine ⟨fun h3 => bX1_holds_258 ⟨_, rfl, rfl, rfl, ?_⟩, fun h3 => ⟨_, rfl, rfl, rfl, ?_⟩⟩
    · rw [if_neg]
      unfold zHc
      rw [Bool.and_eq_true, Bool.and_eq_true, beq_iff_eq, beq_iff_eq, beq_iff_eq]
      exact fun q => h3 q.2
    · rw [if_pos]
      unfold zHc
      rw [Bool.and_eq_true, Bool.and_eq_true, beq_iff_eq, beq_iff_eq, beq_iff_eq]
      exact ⟨⟨h, h2⟩, h3⟩
  have vu : vp_in (nI u) 97 := n_in (by omega) (by omega)
  have vv : vp_in (nI v) 97 := n_in (by omega) (by omega)
  have vl : vp_in (nI (zls p u v)) 97 := n_in (by omega) (by omega)
  refine eX1_holds _ _ (bX1_holds_0 _ _ ⟨fun h => ?_, fun h => ?_⟩)
  · have hlt : u < v := by
      rcases Nat.lt_or_ge u v with q | q
      · exact q
      · exact absurd h (nI_nlt q (by omega))
    have e1 : (nI u - nI v) + M 18 2 = nI (zls p u v) := by
      rw [hR.2.2.1]
      unfold zls
      rw [Nat.mod_eq_of_lt (by omega), ← pk_sub (show v ≤ u + p by omega), ← nI_add]
      exact (by grind : nI u - nI v + nI p = nI u + nI p - nI v)
    rw [e1, n_cl (by omega), n_cl (by omega), n_cl (by omega)]
    exact ⟨vv, vu, vl, vv, vu, vl, vv, vu, vl, vv, vu, vl, vv, vu, vl, vv, vu, vl, vv, vu, vl, vv, vu, vl, vv, vu, vl, main⟩
  · have hge : v ≤ u := by
      rcases Nat.lt_or_ge u v with q | q
      · exact absurd (nI_lt q (by omega)) h
      · exact q
    have e1 : nI u - nI v = nI (zls p u v) := by
      unfold zls
      rw [show u + p - v = (u - v) + p by omega, Nat.add_mod_right, Nat.mod_eq_of_lt (by omega), pk_sub hge]
    rw [e1, n_cl (by omega), n_cl (by omega), n_cl (by omega)]
    exact ⟨vv, vu, vl, vv, vu, vl, vv, vu, vl, vv, vu, vl, vv, vu, vl, vv, vu, vl, vv, vu, vl, vv, vu, vl, vv, vu, vl, main⟩
theorem kX1_wayBetween (hd : 2 ≤ d) {n r p t e u a b f : Nat} {T : zTx} (hS : exS M n r p t e T) (hw : wH n r p t e) (hT : wTx T) (hu : u < p) (ha : a < 2 ^ n) (hb : b < 2 ^ n) (hf : f ≤ 1) :
    mX1_wayBetween X ad ca d x [.ref 13, .int (nI f), .int (nI u), .int (nI a), .int (nI b)] M (q_i (PT x) (fun s M' => M' = M ∧ s = nI (zwr p n (zW T p t e 0 u) (zW T p t e 1 u) (zW T p t e 2 u) a b f))) := by
  obtain ⟨d, rfl⟩ := a_d1 (show 1 ≤ d by omega)
  have hpb := zpl_b p hw.2.2.2.1
  have hp0 : 0 < p := by omega
  have hn := hw.1
  have h2n := z_p2 hn
  obtain ⟨hR, hA, -⟩ := hS
  obtain ⟨u1, u2, u3⟩ := hA u hu
  have kA := zW_ok hw hT (show 0 < 3 by omega) hu
  have kB := zW_ok hw hT (show 1 < 3 by omega) hu
  have kC := zW_ok hw hT (show 2 < 3 by omega) hu
  generalize zW T p t e 0 u = A at u1 kA
  generalize zW T p t e 1 u = B at u2 kB
  generalize zW T p t e 2 u = C at u3 kC
  have hlt := fun i => zwy_lt (p := p) (A := A) (B := B) (C := C) (a := a) (b := b) (f := f) (by omega) hf i
  refine eX1_wayBetween _ _ _ _ (bX1_wayBetween_0 _ _ _ _ ?_)
  refine a_loop (σ := Unit) (fun i _ => wX1_wayBetween X ad ca d x _ 9 [(0, .ref 13), (1, .int (nI f)), (2, .int (nI u)), (3, .int (nI a)), (4, .int (nI b)), (5, .int (nI (zwy p A B C a b f i).1)), (6, .int (nI (zwy p A B C a b f i).2)), (7, .int (nI i))] M) (fun _ _ => True) n ?_ ?_ 0 () (Nat.zero_le _) trivial
  · intro _ _
    have hl := hlt n
    refine bX1_wayBetween_9 _ _ _ _ _ _ _ ?_
    rw [hR.1]
    refine ⟨fun _ => bX1_wayBetween_134 _ _ _ ⟨fun h => ⟨_, rfl, rfl, rfl, ?_⟩, fun h => ⟨_, rfl, rfl, rfl, ?_⟩⟩, fun h => absurd (nI_le (Nat.le_refl _) (by omega)) h⟩
    · unfold zwr
      rw [if_neg (fun q => h (by rw [q]))]
      rfl
    · unfold zwr
      rw [if_pos ((nI_eq (by omega) (by omega)).mp h)]
  · intro i _ hi _ ih
    have hl := hlt i
    have hs : zwy p A B C a b f (i + 1) = if zb a i = zb b i then ((zwy p A B C a b f i).1, (zwy p A B C a b f i).2 * (if zb a i = (zwy p A B C a b f i).1 then A else B) % p) else if zb a i ≠ (zwy p A B C a b f i).1 then (zb a i, (zwy p A B C a b f i).2 * C % p) else ((zwy p A B C a b f i).1, 0) := rfl
    have h0 := fun (h : (zwy p A B C a b f i).2 = 0) => zwy_0 h (n - i)
    rw [show i + (n - i) = n by omega] at h0
    have hba : zb a i ≤ 1 := by unfold zb; omega
    have hbb : zb b i ≤ 1 := by unfold zb; omega
    rw [hs] at ih
    have hzr : zwr p n A B C a b f = if (zwy p A B C a b f n).1 = f then (zwy p A B C a b f n).2 else 0 := rfl
    generalize (zwy p A B C a b f i).1 = E at hl ih
    generalize (zwy p A B C a b f i).2 = Mu at hl ih h0
    have b1 := n_p2 hl.2 kA (by omega)
    have b2 := n_p2 hl.2 kB (by omega)
    have b3 := n_p2 hl.2 kC (by omega)
    refine bX1_wayBetween_9 _ _ _ _ _ _ _ ?_
    rw [hR.1, hR.2.2.1, z_bit (by omega) (by omega), z_bit (by omega) (by omega), n_cl (by omega), u1, u2, u3, n_mul, n_mul, n_mul]
    change (nI n ≤ nI i → _) ∧ (¬ nI n ≤ nI i → (nI Mu = 0 → _) ∧ (¬ nI Mu = 0 → (¬ nI (zb a i) = nI (zb b i) → (nI (zb a i) = nI E → _) ∧ (¬ nI (zb a i) = nI E → _)) ∧ (nI (zb a i) = nI (zb b i) → (¬ nI (zb a i) = nI E → _) ∧ (nI (zb a i) = nI E → _))))
    have qab : nI (zb a i) = nI (zb b i) ↔ zb a i = zb b i := nI_eq (by omega) (by omega)
    have qae : nI (zb a i) = nI E ↔ zb a i = E := nI_eq (by omega) (by omega)
    refine ⟨fun h => absurd h (nI_ge hi (by omega)), fun _ => ⟨fun hz => bX1_wayBetween_134 _ _ _ ?_, fun hz => ⟨fun hab => ⟨fun hae => bX1_wayBetween_128 _ _ _ _ _ _ _ ?_, fun hae => ⟨n_in (by omega) (by omega), _, kX11_left (by omega) _ hp0 (by omega), ?_⟩⟩, fun hab => ⟨fun hae => ⟨n_in (by omega) (by omega), _, kX11_left (by omega) _ hp0 (by omega), ?_⟩, fun hae => ⟨n_in (by omega) (by omega), _, kX11_left (by omega) _ hp0 (by omega), ?_⟩⟩⟩⟩⟩
    · have hM0 : Mu = 0 := (nI_eq (b := 0) (by omega) (by omega)).mp hz
      have hz2 : nI (zwr p n A B C a b f) = 0 := by
        rw [hzr, h0 hM0]
        split <;> rfl
      exact ⟨fun _ => ⟨_, rfl, rfl, rfl, hz2.symm⟩, fun _ => ⟨_, rfl, rfl, rfl, by rw [hz, hz2]⟩⟩
    · rw [← nI_succ]
      rw [if_neg (fun q => hab (qab.mpr q)), if_neg (fun q => q (qae.mp hae))] at ih
      exact ih () trivial
    · rintro v1 M1 ⟨rfl, rfl⟩
      refine bX1_wayBetween_128 _ _ _ _ _ _ _ ?_
      rw [zm_nI (by omega), ← nI_succ]
      rw [if_neg (fun q => hab (qab.mpr q)), if_pos (fun q => hae (qae.mpr q))] at ih
      exact ih () trivial
    · rintro v1 M1 ⟨rfl, rfl⟩
      refine bX1_wayBetween_128 _ _ _ _ _ _ _ ?_
      rw [zm_nI (by omega), ← nI_succ]
      rw [if_pos (qab.mp hab), if_neg (fun q => hae (qae.mpr q))] at ih
      exact ih () trivial
    · rintro v1 M1 ⟨rfl, rfl⟩
      refine bX1_wayBetween_128 _ _ _ _ _ _ _ ?_
      rw [zm_nI (by omega), ← nI_succ]
      rw [if_pos (qab.mp hab), if_pos (qae.mp hae)] at ih
      exact ih () trivial
theorem kX1_tableBetween (hd : 3 ≤ d) {n r p t e u a b : Nat} {T : zTx} (hS : exS M n r p t e T) (hw : wH n r p t e) (hT : wTx T) (hu : u < p) (ha : a < 2 ^ n) (hb : b < 2 ^ n) :
    mX1_tableBetween X ad ca d x [.ref 13, .int (nI u), .int (nI a), .int (nI b)] M (q_i (PT x) (fun s M' => M' = M ∧ s = nI (ztb p n (zW T p t e 0 u) (zW T p t e 1 u) (zW T p t e 2 u) a b))) := by
  obtain ⟨d, rfl⟩ := a_d1 (show 1 ≤ d by omega)
  have hpb := zpl_b p hw.2.2.2.1
  have hp0 : 0 < p := by omega
  have h2n := z_p2 hw.1
  have za := zc_le a
  have zb' := zc_le b
  refine eX1_tableBetween _ _ _ (bX1_tableBetween_0 _ _ _ ⟨_, kJ6_bitCount (by omega) (by omega), ?_⟩)
  rintro v1 M1 ⟨rfl, rfl⟩
  refine ⟨_, kJ6_bitCount (by omega) (by omega), ?_⟩
  rintro v2 M2 ⟨rfl, rfl⟩
  refine ⟨fun h => ⟨_, kX1_wayBetween (f := 0) (by omega) hS hw hT hu ha hb (by omega), ?_⟩, fun h => ⟨_, rfl, rfl, rfl, ?_⟩⟩
  · rintro v3 M3 ⟨rfl, rfl⟩
    refine ⟨_, kX1_wayBetween (f := 1) (by omega) hS hw hT hu ha hb (by omega), ?_⟩
    rintro v4 M4 ⟨rfl, rfl⟩
    have l : ∀ f, f ≤ 1 → zwr p n (zW T p t e 0 u) (zW T p t e 1 u) (zW T p t e 2 u) a b f < p := by
      intro f hf
      unfold zwr
      split
      · exact (zwy_lt (by omega) hf n).2
      · exact hp0
    have l0 := l 0 (by omega)
    have l1 := l 1 (by omega)
    rw [hS.1.2.2.1, nI_add]
    refine ⟨_, kX11_left (by omega) _ hp0 (by omega), ?_⟩
    rintro v5 M5 ⟨rfl, rfl⟩
    refine ⟨_, rfl, rfl, rfl, ?_⟩
    rw [zm_nI (by omega)]
    unfold ztb
    rw [if_pos ((nI_eq (by omega) (by omega)).mp h)]
  · unfold ztb
    rw [if_neg (fun q => h (by rw [q]))]
    rfl
end Z30
