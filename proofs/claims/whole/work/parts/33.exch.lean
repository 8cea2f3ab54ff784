/-! CONTRACTS 14: exchanges and the transfer table on the reference's side -/
def zxp (i j y : Nat) : Nat := y ^^^ 2 ^ i ^^^ 2 ^ j
def zxa (i j y : Nat) : Bool := zb y i == zb y j
/-- the exchange of letters i and j with weights A (alike), B, C -/
def zx (p i j A B C : Nat) (f : Nat → Nat) (y : Nat) : Nat := if zxa i j y = true then A * f y % p else (B * f y + C * f (zxp i j y)) % p
theorem zxp_all : ((List.range 8).all fun i => (List.range 8).all fun j => (i == j) || (List.range 256).all fun y => (zxp i j (zxp i j y) == y) && !(zxp i j y == y) && (zxa i j y || !(zxa i j (zxp i j y)))) = true := by decide +kernel
theorem zxp_fact' (i : Nat) (hi : i < 8) (j : Nat) (hj : j < 8) (hij : i ≠ j) (y : Nat) (hy : y < 256) : zxp i j (zxp i j y) = y ∧ zxp i j y ≠ y ∧ (zxa i j y = false → zxa i j (zxp i j y) = false) := by
  have h1 := List.all_eq_true.mp zxp_all i (List.mem_range.mpr hi)
  have h2 := List.all_eq_true.mp h1 j (List.mem_range.mpr hj)
  rw [Bool.or_eq_true] at h2
  rcases h2 with h2 | h2
  · exact absurd (beq_iff_eq.mp h2) hij
  · have h3 := List.all_eq_true.mp h2 y (List.mem_range.mpr hy)
    simp only [Bool.and_eq_true, beq_iff_eq, Bool.not_eq_true', beq_eq_false_iff_ne, Bool.or_eq_true] at h3
    refine ⟨h3.1.1, h3.1.2, fun h => ?_⟩
    rcases h3.2 with q | q
    · rw [q] at h; cases h
    · exact q
theorem zG1 (g : Nat → Nat) (y a : Nat) : (if y < a + 1 then g y else 0) = (if y < a then g y else 0) + (if y = a then g a else 0) := by
  by_cases c : y = a
  · subst c
    rw [if_pos (Nat.lt_succ_self y), if_neg (Nat.lt_irrefl y), if_pos rfl, Nat.zero_add]
  · rw [if_neg c, Nat.add_zero]
    by_cases c2 : y < a
    · rw [if_pos c2, if_pos (Nat.lt_succ_of_lt c2)]; rfl
    · rw [if_neg c2, if_neg (show ¬ y < a + 1 by omega)]
theorem zG2 (c : Nat → Bool) (π g : Nat → Nat) (y a : Nat) (h1 : π (π y) = y) (h2 : π (π a) = a) (h3 : c y = false → c (π y) = false) (h4 : c a = false → c (π a) = false) : (if c y = false ∧ π y < a + 1 then g (π y) else 0) = (if c y = false ∧ π y < a then g (π y) else 0) + (if c a = false ∧ y = π a then g a else 0) := by
  by_cases k : c a = false ∧ y = π a
  · have hy2 : π y = a := by rw [k.2]; exact h2
    have hy3 : c y = false := by rw [k.2]; exact h4 k.1
    rw [if_pos k, hy2, if_pos ⟨hy3, Nat.lt_succ_self a⟩, if_neg (fun q => Nat.lt_irrefl a q.2), Nat.zero_add]
  · rw [if_neg k, Nat.add_zero]
    by_cases k2 : c y = false ∧ π y < a
    · rw [if_pos k2, if_pos ⟨k2.1, Nat.lt_succ_of_lt k2.2⟩]; rfl
    · rw [if_neg k2, if_neg]
      rintro ⟨q1, q2⟩
      have q3 : π y = a := by
        by_cases q4 : π y < a
        · exact absurd ⟨q1, q4⟩ k2
        · omega
      exact k ⟨by rw [← q3]; exact h3 q1, by rw [← q3]; exact h1.symm⟩
theorem zxp_lt {i j m y : Nat} (hi : i < m) (hj : j < m) (hy : y < 2 ^ m) : zxp i j y < 2 ^ m := Nat.xor_lt_two_pow (Nat.xor_lt_two_pow hy (Nat.pow_lt_pow_right (by omega) hi)) (Nat.pow_lt_pow_right (by omega) hj)
theorem zx_lt {p i j A B C : Nat} {f : Nat → Nat} {y : Nat} (hp : 0 < p) : zx p i j A B C f y < p := by
  unfold zx
  split <;> exact Nat.mod_lt _ hp
section Z15
variable {X : a_X} {ad : Nat → Nat} {ca : Nat → ClassId} {d x : Nat} {M : a_M}
theorem kX12_exchanges (hd : 1 ≤ d) {p i j m A B C : Nat} {f : Nat → Nat} (hP : M 119 2 = nI p) (hp : p ∈ zpl) (hm : m ≤ 8) (hi : i < m) (hj : j < m) (hij : i ≠ j) (hA : M 118 35 = nI A) (hB : M 118 36 = nI B) (hC : M 118 37 = nI C) (hAp : A < p) (hBp : B < p) (hCp : C < p) (hf : ∀ y, y < 2 ^ m → M 137 y = nI (f y) ∧ f y < p) :
    mX12_exchanges X ad ca d x [.ref 118, .int (nI i), .int (nI j), .int (nI (2 ^ m))] M (q_v (PT x) (fun M' => (∀ y, y < 2 ^ m → M' 137 y = nI (zx p i j A B C f y)) ∧ ∀ o, o ≠ 137 → o ≠ 138 → M' o = M o)) := by
  obtain ⟨d, rfl⟩ := a_d1 hd
  have hpb := zpl_b p hp
  have h2m : 2 ^ m ≤ 256 := Nat.pow_le_pow_right (by omega) hm
  have hfact := fun y (hy : y < 2 ^ m) => zxp_fact' i (by omega) j (by omega) hij y (by omega)
  have hz : ¬ nI p = 0 := nI_ne0 (by omega) (by omega)
  generalize hPost : q_v (PT x) (fun M' => (∀ y, y < 2 ^ m → M' 137 y = nI (zx p i j A B C f y)) ∧ ∀ o, o ≠ 137 → o ≠ 138 → M' o = M o) = Post
  let G : Nat → Nat → Nat := fun a y => (if y < a then (if zxa i j y = true then A * f y else B * f y) else 0) + (if zxa i j y = false ∧ zxp i j y < a then C * f (zxp i j y) else 0)
  refine eX12_exchanges _ _ _ (bX12_exchanges_0 _ _ _ ?_)
  have key := a_loop (σ := Unit) (fun a _ => wX12_exchanges X ad ca d x Post 3 [(0, .ref 118), (1, .int (nI i)), (2, .int (nI j)), (3, .int (nI (2 ^ m))), (4, .int (nI a))] (mf M 138 0 (fun _ => 0) a)) (fun _ _ => True) (2 ^ m) ?_ ?_ 0 () (Nat.zero_le _) trivial
  · rw [mf_0] at key; exact key
  · intro _ _
    refine bX12_exchanges_3 _ _ _ _ ⟨fun _ => ?_, fun h => absurd (nI_le (Nat.le_refl _) (by omega)) h⟩
    have e0 : mf M 138 0 (fun _ => (0 : Int32)) (2 ^ m) = mf M 138 0 (fun y => nI (G 0 y % p)) (2 ^ m) := mf_cong (fun y _ _ => by
      show (0 : Int32) = nI (((if y < 0 then _ else 0) + (if _ ∧ zxp i j y < 0 then _ else 0)) % p)
      rw [if_neg (Nat.not_lt_zero _), if_neg (fun h => Nat.not_lt_zero _ h.2), Nat.zero_mod]
      rfl)
    rw [e0]
    refine a_loop (σ := Unit) (fun a _ => wX12_exchanges X ad ca d x Post 26 [(0, .ref 118), (1, .int (nI i)), (2, .int (nI j)), (3, .int (nI (2 ^ m))), (4, .int (nI a))] (mf M 138 0 (fun y => nI (G a y % p)) (2 ^ m))) (fun _ _ => True) (2 ^ m) ?_ ?_ 0 () (Nat.zero_le _) trivial
    · intro _ _
      refine bX12_exchanges_26 _ _ _ _ ⟨fun _ => ?_, fun h => absurd (nI_le (Nat.le_refl _) (by omega)) h⟩
      generalize hN0 : mf M 138 0 (fun y => nI (G (2 ^ m) y % p)) (2 ^ m) = N0
      have key3 := a_loop (σ := Unit) (fun a _ => wX12_exchanges X ad ca d x Post 183 [(0, .ref 118), (3, .int (nI (2 ^ m))), (4, .int (nI a))] (mf N0 137 0 (N0 138) a)) (fun _ _ => True) (2 ^ m) ?_ ?_ 0 () (Nat.zero_le _) trivial
      · rw [mf_0] at key3; exact key3
      · intro _ _
        refine bX12_exchanges_183 _ _ ⟨fun _ => ?_, fun h => absurd (nI_le (Nat.le_refl _) (by omega)) h⟩
        rw [← hPost]
        refine ⟨rfl, rfl, fun y hy => ?_, fun o h1 h2 => ?_⟩
        · rw [mf_in _ _ _ _ _ _ (Nat.zero_le _) hy, ← hN0, mf_in _ _ _ _ _ _ (Nat.zero_le _) hy]
          have hl := zxp_lt hi hj hy
          show nI (((if y < 2 ^ m then (if zxa i j y = true then A * f y else B * f y) else 0) + (if zxa i j y = false ∧ zxp i j y < 2 ^ m then C * f (zxp i j y) else 0)) % p) = _
          unfold zx
          rw [if_pos hy]
          by_cases c : zxa i j y = true
          · rw [if_pos c, if_pos c, if_neg (fun h => by rw [c] at h; exact absurd h.1 (by decide)), Nat.add_zero]
          · rw [if_neg c, if_neg c, if_pos ⟨Bool.eq_false_iff.mpr c, hl⟩]
        · rw [mf_no _ _ _ _ _ _ h1, ← hN0, mf_no _ _ _ _ _ _ h2]
      · intro a _ ha _ ih
        refine bX12_exchanges_183 _ _ ⟨fun h => absurd h (nI_ge ha (by omega)), fun _ => ⟨n_in (by omega) (by omega), n_in (by omega) (by omega), ?_⟩⟩
        rw [n_cl (by omega), mf_s (Nat.zero_le _) (by rw [mf_no _ _ _ _ _ _ (by decide)]), ← nI_succ]
        exact ih () trivial
    · intro a _ ha _ ih
      obtain ⟨fa1, fa2⟩ := hf a ha
      obtain ⟨z1, z2, z3⟩ := hfact a ha
      have hl := zxp_lt hi hj ha
      have hGs : ∀ y, y < 2 ^ m → G (a + 1) y = G a y + (if y = a then (if zxa i j a = true then A * f a else B * f a) else 0) + (if zxa i j a = false ∧ y = zxp i j a then C * f a else 0) := by
        intro y hy
        obtain ⟨y1, y2, y3⟩ := hfact y hy
        have e1 := zG1 (fun y => if zxa i j y = true then A * f y else B * f y) y a
        have e2 := zG2 (zxa i j) (zxp i j) (fun y => C * f y) y a y1 z1 y3 z3
        have e3 : G (a + 1) y = (if y < a + 1 then (fun y => if zxa i j y = true then A * f y else B * f y) y else 0) + (if zxa i j y = false ∧ zxp i j y < a + 1 then (fun y => C * f y) (zxp i j y) else 0) := rfl
        rw [e3, e1, e2]
        generalize hg : (if y = a then (fun y => if zxa i j y = true then A * f y else B * f y) a else 0) = gg
        generalize hh9 : (if zxa i j a = false ∧ y = zxp i j a then (fun y => C * f y) a else 0) = hh
        have hg' : (if y = a then (if zxa i j a = true then A * f a else B * f a) else 0) = gg := hg
        have hh' : (if zxa i j a = false ∧ y = zxp i j a then C * f a else 0) = hh := hh9
        have e4 : G a y = (if y < a then (fun y => if zxa i j y = true then A * f y else B * f y) y else 0) + (if zxa i j y = false ∧ zxp i j y < a then (fun y => C * f y) (zxp i j y) else 0) := rfl
        rw [e4]
        generalize (if y < a then (fun y => if zxa i j y = true then A * f y else B * f y) y else 0) = g1
        generalize (if zxa i j y = false ∧ zxp i j y < a then (fun y => C * f y) (zxp i j y) else 0) = g2
        omega
      have hend : wX12_exchanges X ad ca d x Post 174 [(0, .ref 118), (1, .int (nI i)), (2, .int (nI j)), (3, .int (nI (2 ^ m))), (4, .int (nI a))] (mf M 138 0 (fun y => nI (G (a + 1) y % p)) (2 ^ m)) := by
        refine bX12_exchanges_174 _ _ _ _ ?_
        rw [← nI_succ]
        exact ih () trivial
      have hmm : ∀ y, G a y % p < p := fun y => Nat.mod_lt _ (by omega)
      refine bX12_exchanges_26 _ _ _ _ ⟨fun h => absurd h (nI_ge ha (by omega)), fun _ => ⟨n_in (by omega) (by omega), ?_⟩⟩
      rw [n_cl (show a < 2 ^ 31 by omega), mf_no _ _ _ _ _ _ (show 137 ≠ 138 by decide), fa1, mf_no _ _ _ _ _ _ (show 118 ≠ 138 by decide), hA, hB, hC, mf_no _ _ _ _ _ _ (show 119 ≠ 138 by decide), hP]
      refine ⟨fun h0 => ?_, fun h0 => ?_⟩
      · have hv0 : f a = 0 := by
          rw [← nI_0] at h0
          exact (nI_eq (by omega) (by omega)).mp h0
        have e1 : mf M 138 0 (fun y => nI (G a y % p)) (2 ^ m) = mf M 138 0 (fun y => nI (G (a + 1) y % p)) (2 ^ m) := mf_cong (fun y _ hy => by
          rw [hGs y hy, hv0]
          simp)
        rw [e1]
        exact hend
      · rw [z_bit (by omega) (by omega), z_bit (by omega) (by omega), z_pow i (by omega), z_pow j (by omega), n_xor, n_xor]
        have hxe : a ^^^ 2 ^ i ^^^ 2 ^ j = zxp i j a := rfl
        rw [hxe, n_cl (show zxp i j a < 2 ^ 31 by omega)]
        have hti := n_in (N := 256) (show a < 256 by omega) (by omega)
        have htx := n_in (N := 256) (show zxp i j a < 256 by omega) (by omega)
        have hb1 : ∀ k, a / 2 ^ k % 2 < 2 := fun k => Nat.mod_lt _ (by omega)
        have hq1 := hb1 i
        have hq2 := hb1 j
        refine ⟨fun h => ⟨hti, hti, hz, hti, htx, hti, hz, htx, ?_⟩, fun h => ⟨hti, hti, hz, hti, ?_⟩⟩
        · have hal : zxa i j a = false := by
            unfold zxa zb
            rw [beq_eq_false_iff_ne]
            exact fun q => h (by rw [q])
          have h1 := hmm a
          have h2 := hmm (zxp i j a)
          have h3 := n_p2 hBp fa2 (by omega)
          have h4 := n_p2 hCp fa2 (by omega)
          rw [mf_in _ _ _ _ _ _ (Nat.zero_le _) ha, n_mul, n_mul, nI_add, n_rem (by omega) (by omega) (by omega)]
          rw [mf_set (g := fun y => nI ((G a y + (if y = a then (if zxa i j a = true then A * f a else B * f a) else 0)) % p)) ha (by
            show nI _ = nI _
            rw [if_pos rfl, if_neg (by rw [hal]; decide), Nat.mod_add_mod]) (fun y _ hy => by
            show nI _ = nI _
            rw [if_neg hy, Nat.add_zero])]
          have h5 : (G a (zxp i j a) + (if zxp i j a = a then (if zxa i j a = true then A * f a else B * f a) else 0)) % p < p := Nat.mod_lt _ (by omega)
          rw [mf_in _ _ _ _ _ _ (Nat.zero_le _) hl, nI_add, n_rem (by omega) (by omega) (by omega)]
          rw [mf_set (g := fun y => nI (G (a + 1) y % p)) hl ?_ ?_]
          · exact hend
          · show nI _ = nI (G (a + 1) (zxp i j a) % p)
            have e9 : (if zxa i j a = false ∧ zxp i j a = zxp i j a then C * f a else 0) = C * f a := if_pos ⟨hal, rfl⟩
            rw [hGs _ hl, e9, Nat.mod_add_mod]
          · intro y hy hy2
            show nI _ = nI (G (a + 1) y % p)
            have e9 : (if zxa i j a = false ∧ y = zxp i j a then C * f a else 0) = 0 := if_neg (fun q => hy2 q.2)
            rw [hGs y hy, e9]
            rfl
        · have hal : zxa i j a = true := by
            unfold zxa zb
            exact beq_iff_eq.mpr ((nI_eq (by omega) (by omega)).mp h)
          have h1 := hmm a
          have h3 := n_p2 hAp fa2 (by omega)
          rw [mf_in _ _ _ _ _ _ (Nat.zero_le _) ha, n_mul, nI_add, n_rem (by omega) (by omega) (by omega)]
          rw [mf_set (g := fun y => nI (G (a + 1) y % p)) ha ?_ ?_]
          · exact hend
          · show nI _ = nI (G (a + 1) a % p)
            have e9 : (if zxa i j a = false ∧ a = zxp i j a then C * f a else 0) = 0 := if_neg (fun q => by rw [hal] at q; exact absurd q.1 (by decide))
            have e8 : (if a = a then (if zxa i j a = true then A * f a else B * f a) else 0) = A * f a := by rw [if_pos rfl, if_pos hal]
            rw [hGs a ha, e9, e8, Nat.mod_add_mod]
            rfl
          · intro y hy hy2
            show nI _ = nI (G (a + 1) y % p)
            have e9 : (if zxa i j a = false ∧ y = zxp i j a then C * f a else 0) = 0 := if_neg (fun q => by rw [hal] at q; exact absurd q.1 (by decide))
            have e8 : (if y = a then (if zxa i j a = true then A * f a else B * f a) else 0) = 0 := if_neg hy2
            rw [hGs y hy, e9, e8]
            rfl
  · intro a _ ha _ ih
    refine bX12_exchanges_3 _ _ _ _ ⟨fun h => absurd h (nI_ge ha (by omega)), fun _ => ⟨n_in (by omega) (by omega), ?_⟩⟩
    rw [n_cl (by omega), mf_s (Nat.zero_le _) rfl, ← nI_succ]
    exact ih () trivial
end Z15
