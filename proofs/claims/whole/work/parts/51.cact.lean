/-! CONTRACTS 31: the transfer table over a vector, acts and played on the class's side -/
section Z32
variable {X : a_X} {ad : Nat → Nat} {ca : Nat → ClassId} {d x : Nat} {M : a_M} {S : Nat → Nat} {V : Nat → Nat → Nat}
theorem zb_and {s i : Nat} (hi : i < 31) : nI s &&& nI (2 ^ i) = 0 ↔ zb s i = 0 := by
  rw [fa_bit hi, zb_t]
  cases s.testBit i <;> decide
theorem zbe_one {n i y s : Nat} (hn : n < 8) (hi : i < n) (hy : y < 2 ^ (n + 1)) (h : zbe n i y = s) : y = s ∨ y = s + 2 ^ i ∨ y = 2 ^ n + s ∨ y = 2 ^ n + s + 2 ^ i := by
  have h1 := (zbe_f hn hi hy).1
  have h2 : y / 2 ^ n < 2 := (Nat.div_lt_iff_lt_mul (Nat.pow_pos (by omega))).mpr (by rw [Nat.pow_succ] at hy; omega)
  have h3 := zb_le y i
  rw [h] at h1
  rcases (show y / 2 ^ n = 0 ∨ y / 2 ^ n = 1 by generalize y / 2 ^ n = g at h2; omega) with q | q <;> rcases (show zb y i = 0 ∨ zb y i = 1 by omega) with q2 | q2 <;> rw [q, q2] at h1
  · simp only [Nat.zero_mul, Nat.zero_add] at h1; omega
  · simp only [Nat.zero_mul, Nat.one_mul, Nat.zero_add] at h1; omega
  · simp only [Nat.zero_mul, Nat.one_mul] at h1; omega
  · simp only [Nat.one_mul] at h1; omega
theorem kX1_passLetter (hd : 2 ≤ d) {n r p t e u i : Nat} {T : zTx} {f : Nat → Nat} (hR : rH M 18 n r p t e) (hA : exA M p t e T) (hw : wH n r p t e) (hT : wTx T) (hu : u < p) (hi : i < n) (hf : ∀ y, y < 2 ^ (n + 1) → M 17 y = nI (f y) ∧ f y < p) :
    mX1_passLetter X ad ca d x [.ref 13, .int (nI i), .int (nI u), .int (nI (2 ^ n))] M (q_v (PT x) (fun M' => (∀ y, y < 2 ^ (n + 1) → M' 17 y = nI (zx p n i (zW T p t e 0 u) (zW T p t e 1 u) (zW T p t e 2 u) f y)) ∧ ∀ o, o ≠ 17 → M' o = M o)) := by
  obtain ⟨d, rfl⟩ := a_d1 (show 1 ≤ d by omega)
  have hn := hw.1
  have hpb := zpl_b p hw.2.2.2.1
  have hp0 : 0 < p := by omega
  have h2n := z_p2 hn
  have h2i : 2 ^ i < 2 ^ n := Nat.pow_lt_pow_right (by omega) hi
  have hA1 := zW_ok hw hT (show 0 < 3 by omega) hu
  have hB1 := zW_ok hw hT (show 1 < 3 by omega) hu
  have hC1 := zW_ok hw hT (show 2 < 3 by omega) hu
  obtain ⟨a1, a2, a3⟩ := hA u hu
  generalize zW T p t e 0 u = A at hA1 a1 ⊢
  generalize zW T p t e 1 u = B at hB1 a2 ⊢
  generalize zW T p t e 2 u = C at hC1 a3 ⊢
  have h2s : 2 ^ (n + 1) = 2 ^ n + 2 ^ n := by rw [Nat.pow_succ]; omega
  refine eX1_passLetter _ _ _ (bX1_passLetter_0 _ _ _ ?_)
  rw [z_pow i (by omega)]
  refine a_loop (σ := a_M) (fun s M' => wX1_passLetter X ad ca d x _ 8 [(0, .ref 13), (2, .int (nI u)), (3, .int (nI (2 ^ n))), (4, .int (nI (2 ^ i))), (5, .int (nI s))] M') (fun s M' => (∀ y, y < 2 ^ (n + 1) → M' 17 y = nI (if zbe n i y < s then zx p n i A B C f y else f y)) ∧ ∀ o, o ≠ 17 → M' o = M o) (2 ^ n) ?_ ?_ 0 M (Nat.zero_le _) ⟨fun y hy => by rw [if_neg (by omega)]; exact (hf y hy).1, fun _ _ => rfl⟩
  · rintro M1 ⟨i1, i2⟩
    refine bX1_passLetter_8 _ _ _ _ ⟨fun _ => ⟨rfl, rfl, fun y hy => ?_, i2⟩, fun h => absurd (nI_le (Nat.le_refl _) (by omega)) h⟩
    rw [i1 y hy, if_pos (zbe_f hn hi hy).2.2]
  · rintro s M1 hs ⟨i1, i2⟩ ih
    have hnx : ∀ M4 : a_M, ((∀ y, y < 2 ^ (n + 1) → M4 17 y = nI (if zbe n i y < s + 1 then zx p n i A B C f y else f y)) ∧ ∀ o, o ≠ 17 → M4 o = M o) → wX1_passLetter X ad ca d x (q_v (PT x) (fun M' => (∀ y, y < 2 ^ (n + 1) → M' 17 y = nI (zx p n i A B C f y)) ∧ ∀ o, o ≠ 17 → M' o = M o)) 201 [(0, .ref 13), (2, .int (nI u)), (3, .int (nI (2 ^ n))), (4, .int (nI (2 ^ i))), (5, .int (nI s))] M4 := fun M4 h4 => by
      refine bX1_passLetter_201 _ _ _ _ ?_
      rw [← nI_succ]
      exact ih M4 h4
    refine bX1_passLetter_8 _ _ _ _ ⟨fun h => absurd h (nI_ge hs (by omega)), fun _ => ⟨fun h => hnx M1 ⟨fun y hy => ?_, i2⟩, fun h => ?_⟩⟩
    · have hne : zbe n i y ≠ s := fun q => h ((zb_and (by omega)).mpr (by rw [← q]; exact (zbe_f hn hi hy).2.1))
      rw [i1 y hy]
      by_cases c : zbe n i y < s
      · rw [if_pos c, if_pos (by omega)]
      · rw [if_neg c, if_neg (by omega)]
    have h0 := (zb_and (by omega)).mp h
    obtain ⟨e1, e2, e3, e4, x1, x2, x3, x4, x5, x6, hlt⟩ := zbe_g hn hi hs h0
    have hpi : 0 < 2 ^ i := Nat.pow_pos (by omega)
    have eh : nI (2 ^ n) + nI s + nI (2 ^ i) = nI (2 ^ n + s + 2 ^ i) := by rw [nI_add, nI_add]
    have eu : nI s + nI (2 ^ i) = nI (s + 2 ^ i) := by rw [nI_add]
    have ea : nI (2 ^ n) + nI s = nI (2 ^ n + s) := by rw [nI_add]
    have hin : ∀ y, y < 2 ^ (n + 1) → vp_in (nI y) 256 := fun y hy => n_in (by omega) (by omega)
    have hu97 : vp_in (nI u) 97 := n_in (by omega) (by omega)
    have cu : (nI u).toNatClampNeg = u := n_cl (by omega)
    have cs : (nI s).toNatClampNeg = s := n_cl (by omega)
    have chh : (nI (2 ^ n + s + 2 ^ i)).toNatClampNeg = 2 ^ n + s + 2 ^ i := n_cl (by omega)
    have cuu : (nI (s + 2 ^ i)).toNatClampNeg = s + 2 ^ i := n_cl (by omega)
    have cap : (nI (2 ^ n + s)).toNatClampNeg = 2 ^ n + s := n_cl (by omega)
    have old : ∀ y, y < 2 ^ (n + 1) → zbe n i y = s → M1 17 y = nI (f y) ∧ f y < p := fun y hy hz => ⟨by rw [i1 y hy, if_neg (by omega)], (hf y hy).2⟩
    have o1 := old s (by omega) e1
    have o2 := old (2 ^ n + s + 2 ^ i) (by omega) e4
    have o3 := old (s + 2 ^ i) (by omega) e2
    have o4 := old (2 ^ n + s) (by omega) e3
    have w1 := n_p2 hA1 o1.2 (by omega)
    have w2 := n_p2 hA1 o2.2 (by omega)
    have w3 := n_p2 hB1 o3.2 (by omega)
    have w4 := n_p2 hC1 o4.2 (by omega)
    have w5 := n_p2 hB1 o4.2 (by omega)
    have w6 := n_p2 hC1 o3.2 (by omega)
    have m14 : M1 14 u = nI A := by rw [i2 14 (by decide), a1]
    have m15 : M1 15 u = nI B := by rw [i2 15 (by decide), a2]
    have m16 : M1 16 u = nI C := by rw [i2 16 (by decide), a3]
    have m18 : M1 18 2 = nI p := by rw [i2 18 (by decide), hR.2.2.1]
    rw [eh, eu, ea, cu, cs, chh, cuu, cap]
    refine ⟨hu97, hin _ (by omega), ?_⟩
    rw [m14, o1.1, m18, n_mul]
    refine ⟨_, kX11_left (by omega) _ hp0 (by omega), ?_⟩
    rintro v1 M1 ⟨rfl, rfl⟩
    rw [zm_nI (by omega)]
    refine ⟨hin _ (by omega), hu97, hin _ (by omega), ?_⟩
    rw [ms_no _ _ _ _ _ _ (show ¬ (17 = 17 ∧ 2 ^ n + s + 2 ^ i = s) by omega), m14, o2.1, m18, n_mul]
    refine ⟨_, kX11_left (by omega) _ hp0 (by omega), ?_⟩
    rintro v2 M1 ⟨rfl, rfl⟩
    rw [zm_nI (by omega)]
    refine ⟨hin _ (by omega), hin _ (by omega), hu97, hu97, hin _ (by omega), ?_⟩
    have r3 : (ms (ms M1 17 s (nI (A * f s % p))) 17 (2 ^ n + s + 2 ^ i) (nI (A * f (2 ^ n + s + 2 ^ i) % p))) 17 (s + 2 ^ i) = nI (f (s + 2 ^ i)) := by
      rw [ms_no _ _ _ _ _ _ (by omega), ms_no _ _ _ _ _ _ (by omega), o3.1]
    have r4 : (ms (ms M1 17 s (nI (A * f s % p))) 17 (2 ^ n + s + 2 ^ i) (nI (A * f (2 ^ n + s + 2 ^ i) % p))) 17 (2 ^ n + s) = nI (f (2 ^ n + s)) := by
      rw [ms_no _ _ _ _ _ _ (by omega), ms_no _ _ _ _ _ _ (by omega), o4.1]
    rw [r3, r4]
    rw [ms_no _ _ _ _ 15 _ (by omega), ms_no _ _ _ _ 16 _ (by omega), ms_no _ _ _ _ 18 _ (by omega), m15, m16, m18, n_mul, n_mul, nI_add]
    refine ⟨_, kX11_left (by omega) _ hp0 (by omega), ?_⟩
    rintro v3 M1 ⟨rfl, rfl⟩
    rw [zm_nI (by omega)]
    refine ⟨hin _ (by omega), hu97, hin _ (by omega), hu97, ?_⟩
    rw [ms_no _ _ _ _ 17 (2 ^ n + s) (by omega), r4]
    rw [ms_no _ _ _ _ 15 _ (by omega), ms_no _ _ _ _ 15 _ (by omega), ms_no _ _ _ _ 16 _ (by omega), ms_no _ _ _ _ 16 _ (by omega), ms_no _ _ _ _ 18 _ (by omega), ms_no _ _ _ _ 18 _ (by omega), m15, m16, m18, n_mul, n_mul, nI_add]
    refine ⟨_, kX11_left (by omega) _ hp0 (by omega), ?_⟩
    rintro v4 M1 ⟨rfl, rfl⟩
    rw [zm_nI (by omega)]
    refine ⟨hin _ (by omega), hnx _ ⟨fun y hy => ?_, fun o ho => ?_⟩⟩
    · by_cases c : zbe n i y = s
      · rw [if_pos (by omega)]
        unfold zx
        rcases zbe_one hn hi hy c with q | q | q | q
        · subst q
          rw [ms_no _ _ _ _ _ _ (by omega), ms_no _ _ _ _ _ _ (by omega), ms_no _ _ _ _ _ _ (by omega), ms_is, if_pos x1]
        · subst q
          rw [ms_no _ _ _ _ _ _ (by omega), ms_is, if_neg (by rw [x3]; decide), x5]
        · subst q
          rw [ms_is, if_neg (by rw [x4]; decide), x6]
        · subst q
          rw [ms_no _ _ _ _ _ _ (by omega), ms_no _ _ _ _ _ _ (by omega), ms_is, if_pos x2]
      · rw [ms_no _ _ _ _ _ _ (fun q => c (by rw [q.2]; exact e3)), ms_no _ _ _ _ _ _ (fun q => c (by rw [q.2]; exact e2)), ms_no _ _ _ _ _ _ (fun q => c (by rw [q.2]; exact e4)), ms_no _ _ _ _ _ _ (fun q => c (by rw [q.2]; exact e1)), i1 y hy]
        by_cases c2 : zbe n i y < s
        · rw [if_pos c2, if_pos (by omega)]
        · rw [if_neg c2, if_neg (by omega)]
    · rw [ms_row _ _ _ _ _ ho, ms_row _ _ _ _ _ ho, ms_row _ _ _ _ _ ho, ms_row _ _ _ _ _ ho, i2 o ho]
theorem zt0_lt {n f p : Nat} {v : Nat → Nat} (hp : 0 < p) (hv : ∀ j, j < 2 ^ n → v j < p) : ∀ z, zt0 n v f z < p := fun z => by
  unfold zt0
  split
  · exact hv _ (Nat.mod_lt _ (Nat.pow_pos (by omega)))
  · exact hp
theorem kX1_tableOver (hd : 3 ≤ d) {n r p t e u o1 o2 : Nat} {T : zTx} {v : Nat → Nat} (hL1 : LY[o1]? = some (100, 128)) (hL2 : LY[o2]? = some (100, 128)) (h12 : o1 ≠ o2) (hR : rH M 18 n r p t e) (hA : exA M p t e T) (hw : wH n r p t e) (hT : wTx T) (hu : u < p) (hv : ∀ j, j < 2 ^ n → M o1 j = nI (v j) ∧ v j < p) :
    mX1_tableOver X ad ca d x [.ref 13, .int (nI u), .ref o1, .ref o2] M (q_v (PT x) (fun M' => (∀ j, j < 2 ^ n → M' o2 j = nI (zTb p n (zW T p t e 0 u) (zW T p t e 1 u) (zW T p t e 2 u) v j)) ∧ ∀ o, o ≠ 17 → o ≠ o2 → M' o = M o)) := by
  obtain ⟨d, rfl⟩ := a_d1 (show 1 ≤ d by omega)
  have hn := hw.1
  have hpb := zpl_b p hw.2.2.2.1
  have hp0 : 0 < p := by omega
  have h2n := z_p2 hn
  have h2p : 0 < 2 ^ n := Nat.pow_pos (by omega)
  have h17 : o1 ≠ 17 ∧ o2 ≠ 17 := by
    constructor
    · rintro rfl; cases hL1
    · rintro rfl; cases hL2
  have hx : ∀ o, LY[o]? = some (100, 128) → o ≠ 18 ∧ o ≠ 14 ∧ o ≠ 15 ∧ o ≠ 16 := by
    intro o ho
    refine ⟨?_, ?_, ?_, ?_⟩ <;> rintro rfl <;> cases ho
  obtain ⟨n18, n14, n15, n16⟩ := hx o2 hL2
  generalize hAA : zW T p t e 0 u = A
  generalize hBB : zW T p t e 1 u = B
  generalize hCC : zW T p t e 2 u = C
  have h2s : 2 ^ (n + 1) = 2 ^ n + 2 ^ n := by rw [Nat.pow_succ]; omega
  let G : Nat → Nat → Nat := fun g j => zti p n A B C n (zt0 n v g) (g * 2 ^ n + j)
  refine eX1_tableOver _ _ _ (bX1_tableOver_0 _ _ 128 _ 128 hL1 hL2 ⟨_, kX11_clear (by omega) hL2 (by omega), ?_⟩)
  rintro M1 rfl
  refine ⟨_, kX6_states (by omega) (o := 18) rfl (by rw [mf_no _ _ _ _ _ _ (Ne.symm n18)]; exact hR.1) hn, ?_⟩
  rintro v1 M1 ⟨rfl, rfl⟩
  refine a_loop (σ := a_M) (fun g M' => wX1_tableOver X ad ca d x _ 16 [(0, .ref 13), (1, .int (nI u)), (2, .ref o1), (3, .ref o2), (4, .int (nI (2 ^ n))), (5, .int (nI g))] M') (fun g M' => (∀ j, j < 2 ^ n → M' o2 j = nI (zs (fun g => G g j) g % p)) ∧ ∀ o, o ≠ 17 → o ≠ o2 → M' o = M o) 2 ?_ ?_ 0 _ (Nat.zero_le _) ⟨fun j hj => by rw [mf_in _ _ _ _ _ _ (Nat.zero_le _) (by omega)]; show (0 : Int32) = nI (0 % p); rw [Nat.zero_mod]; rfl, fun o _ h2 => mf_no _ _ _ _ _ _ h2⟩
  · rintro M1 ⟨i1, i2⟩
    refine bX1_tableOver_16 _ _ 128 _ 128 _ _ hL1 hL2 ⟨fun _ => ⟨rfl, rfl, fun j hj => ?_, i2⟩, fun h => absurd (show (2 : Int32) ≤ nI 2 by decide) h⟩
    rw [i1 j hj]
    show nI ((0 + zti p n A B C n (zt0 n v 0) (0 * 2 ^ n + j) + zti p n A B C n (zt0 n v 1) (1 * 2 ^ n + j)) % p) = _
    rw [Nat.zero_add, Nat.zero_mul, Nat.zero_add, Nat.one_mul]
    rfl
  · rintro g M1 hg ⟨i1, i2⟩ ih
    refine bX1_tableOver_16 _ _ 128 _ 128 _ _ hL1 hL2 ⟨fun h => absurd h (nI_ge (b := 2) hg (by omega)), fun _ => ⟨_, kX11_clear (by omega) (o := 17) (N := 256) rfl (by omega), ?_⟩⟩
    rintro M2 rfl
    have eg : nI g * nI (2 ^ n) = nI (g * 2 ^ n) := n_mul _ _
    have hgb : g * 2 ^ n + 2 ^ n ≤ 256 := by
      rcases (show g = 0 ∨ g = 1 by omega) with rfl | rfl <;> omega
    rw [eg, n_cl (show g * 2 ^ n < 2 ^ 31 by omega), n_cl (show 2 ^ n < 2 ^ 31 by omega)]
    refine ⟨by decide, nI_pos (by omega), nI_pos (by omega), by show 0 + 2 ^ n ≤ 128; omega, hgb, ?_⟩
    -- the letters
    refine a_loop (σ := a_M) (fun k M' => wX1_tableOver X ad ca d x _ 48 [(0, .ref 13), (1, .int (nI u)), (2, .ref o1), (3, .ref o2), (4, .int (nI (2 ^ n))), (5, .int (nI g)), (6, .int (nI k))] M') (fun k M' => (∀ y, y < 2 ^ (n + 1) → M' 17 y = nI (zti p n A B C k (zt0 n v g) y)) ∧ ∀ o, o ≠ 17 → M' o = M1 o) n ?_ ?_ 0 _ (Nat.zero_le _) ⟨fun y hy => ?_, fun o ho => ?_⟩
    · rintro M3 ⟨j1, j2⟩
      refine bX1_tableOver_48 _ _ 128 _ 128 _ _ _ hL1 hL2 ⟨fun _ => ?_, fun h => absurd ?_ h⟩
      rotate_left
      · rw [j2 18 (by decide), i2 18 (by decide) (Ne.symm n18), hR.1]; exact nI_le (Nat.le_refl _) (by omega)
      -- what comes out
      refine a_loop (σ := a_M) (fun s M' => wX1_tableOver X ad ca d x _ 78 [(0, .ref 13), (1, .int (nI u)), (2, .ref o1), (3, .ref o2), (4, .int (nI (2 ^ n))), (5, .int (nI g)), (6, .int (nI s))] M') (fun s M' => (∀ j, j < 2 ^ n → M' o2 j = nI (if j < s then zs (fun g => G g j) (g + 1) % p else zs (fun g => G g j) g % p)) ∧ M' 17 = M3 17 ∧ ∀ o, o ≠ 17 → o ≠ o2 → M' o = M o) (2 ^ n) ?_ ?_ 0 _ (Nat.zero_le _) ⟨fun j hj => by rw [if_neg (by omega), j2 o2 h17.2]; exact i1 j hj, rfl, fun o q1 q2 => by rw [j2 o q1]; exact i2 o q1 q2⟩
      · rintro M4 ⟨k1, k2, k3⟩
        refine bX1_tableOver_78 _ _ 128 _ 128 _ _ _ hL1 hL2 ⟨fun _ => ?_, fun h => absurd (nI_le (Nat.le_refl _) (by omega)) h⟩
        rw [← nI_succ]
        exact ih M4 ⟨fun j hj => by rw [k1 j hj, if_pos hj], k3⟩
      · rintro s M4 hs ⟨k1, k2, k3⟩ ih2
        refine bX1_tableOver_78 _ _ 128 _ 128 _ _ _ hL1 hL2 ⟨fun h => absurd h (nI_ge hs (by omega)), fun _ => ⟨n_in (by omega) (by omega), ?_⟩⟩
        rw [eg, nI_add, n_cl (show g * 2 ^ n + s < 2 ^ 31 by omega), n_cl (show s < 2 ^ 31 by omega)]
        refine ⟨n_in (by omega) (by omega), ?_⟩
        have hgy : g * 2 ^ n + s < 2 ^ (n + 1) := by
          rcases (show g = 0 ∨ g = 1 by omega) with rfl | rfl <;> omega
        have hlt := zti_lt (n := n) (A := A) (B := B) (C := C) (k := n) hp0 (fun z _ => zt0_lt (f := g) hp0 (fun j hj => (hv j hj).2) z) _ hgy
        have hlt2 : zs (fun g => G g s) g % p < p := Nat.mod_lt _ hp0
        rw [k1 s hs, if_neg (by omega), k2, j1 _ hgy, nI_add, k3 18 (by decide) (Ne.symm n18), hR.2.2.1]
        refine ⟨_, kX11_left (by omega) _ hp0 (by omega), ?_⟩
        rintro v5 M5 ⟨rfl, rfl⟩
        rw [zm_nI (by omega), ← nI_succ]
        refine ⟨n_in (by omega) (by omega), ih2 _ ⟨fun j hj => ?_, ?_, fun o q1 q2 => ?_⟩⟩
        · by_cases c : j = s
          · subst c
            rw [ms_is, if_pos (by omega), Nat.mod_add_mod]
            rfl
          · rw [ms_no _ _ _ _ _ _ (by omega), k1 j hj]
            by_cases c2 : j < s
            · rw [if_pos c2, if_pos (by omega)]
            · rw [if_neg c2, if_neg (by omega)]
        · rw [ms_row _ _ _ _ _ (Ne.symm h17.2)]; exact k2
        · rw [ms_row _ _ _ _ _ q2]; exact k3 o q1 q2
    · rintro k M3 hk ⟨j1, j2⟩ ih2
      refine bX1_tableOver_48 _ _ 128 _ 128 _ _ _ hL1 hL2 ⟨fun h => absurd h ?_, fun _ => ?_⟩
      · rw [j2 18 (by decide), i2 18 (by decide) (Ne.symm n18), hR.1]; exact nI_ge hk (by omega)
      have hf : ∀ o, o ≠ 17 → o ≠ o2 → M3 o = M o := fun o q1 q2 => by rw [j2 o q1]; exact i2 o q1 q2
      refine ⟨_, kX1_passLetter (by omega) (i := k) (T := T) (hR.same (hf 18 (by decide) (Ne.symm n18))) (fun y hy => by rw [hf 14 (by decide) (Ne.symm n14), hf 15 (by decide) (Ne.symm n15), hf 16 (by decide) (Ne.symm n16)]; exact hA y hy) hw hT hu hk (fun y hy => ⟨j1 y hy, zti_lt hp0 (fun z _ => zt0_lt (f := g) hp0 (fun j hj => (hv j hj).2) z) _ hy⟩), ?_⟩
      rintro M4 ⟨l1, l2⟩
      rw [← nI_succ]
      refine ih2 M4 ⟨fun y hy => ?_, fun o ho => by rw [l2 o ho, j2 o ho]⟩
      rw [l1 y hy, hAA, hBB, hCC]
      rfl
    · rw [vu, mf_no _ _ _ _ _ _ h17.1]
      show va_cpy (M1 o1) _ 0 (g * 2 ^ n) (2 ^ n) y = nI (zt0 n v g y)
      have hy2 : y / 2 ^ n < 2 := (Nat.div_lt_iff_lt_mul (Nat.pow_pos (by omega))).mpr (by omega)
      have hdm := Nat.div_add_mod y (2 ^ n)
      have hmod : y % 2 ^ n < 2 ^ n := Nat.mod_lt _ (Nat.pow_pos (by omega))
      have hc : y / 2 ^ n = g ↔ g * 2 ^ n ≤ y ∧ y < g * 2 ^ n + 2 ^ n := by
        rcases (show y / 2 ^ n = 0 ∨ y / 2 ^ n = 1 by generalize y / 2 ^ n = g at hy2; omega) with q | q <;> rcases (show g = 0 ∨ g = 1 by omega) with q2 | q2 <;> rw [q] at hdm ⊢ <;> subst q2 <;> omega
      unfold va_cpy zt0
      by_cases c : y / 2 ^ n = g
      · rw [if_pos c, if_pos (hc.mp c), i2 o1 h17.1 h12]
        have e9 : 0 + (y - g * 2 ^ n) = y % 2 ^ n := by
          rw [c, Nat.mul_comm] at hdm
          omega
        rw [e9]
        exact (hv _ hmod).1
      · rw [if_neg c, if_neg (fun q => c (hc.mpr q)), mf_in _ _ _ _ _ _ (Nat.zero_le _) (by omega)]
        rfl
    · rw [vn _ _ _ _ ho, mf_no _ _ _ _ _ _ ho]
end Z32
