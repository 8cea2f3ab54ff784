/-! CONTRACTS 23: the polynomial of a square on the reference's side -/
theorem zq_step {X Y c : Int} {f q p : Nat} (hp : 0 < p) (hf : ∃ e : Int, (f : Int) = c + (p : Int) * e) (hfp : f ≤ p) : (zm (X - Y) p + (p - f) * q) % p = zm (X - (Y + c * (q : Int))) p := by
  obtain ⟨k, hk⟩ := zm_d (z := X - Y) hp
  obtain ⟨e, he⟩ := hf
  rw [← zm_nat]
  refine zm_c (k + q - e * q) ?_
  rw [Int.natCast_add, Int.natCast_mul, Int.natCast_sub hfp, hk, he]
  grind
theorem zQ_z {p : Nat} {A : Nat → Nat → Nat} : ∀ k i z, k < i → zQ p A k i z = 0 := by
  intro k
  induction k with
  | zero =>
    intro i z h
    show (if i = 0 ∧ z = 0 then 1 else 0) = 0
    rw [if_neg (by omega)]
  | succ k ih =>
    intro i z h
    show va_up (zQ p A k) (k + 1) _ i z = 0
    rw [vn _ _ _ _ (by omega)]
    exact ih i z (by omega)
theorem zQ0_lt {p : Nat} {A : Nat → Nat → Nat} {k z : Nat} (hp : 1 < p) : zm (zQ0 (zQ p A k) k z) p = if z = 0 then 0 else zQ p A k k (z - 1) := by
  unfold zQ0
  split
  · rfl
  · exact zm_small (zQ_lt hp k k _)
/-- the polynomials lie -/
def mPo (M : a_M) (Q : Nat → Nat → Nat) : Prop := ∀ i z, i < 36 → z < 36 → M 146 (36 * i + z) = nI (Q i z)
section Z24
variable {X : a_X} {ad : Nat → Nat} {ca : Nat → ClassId} {d x : Nat} {M : a_M}
theorem kX12_adds (hd : 1 ≤ d) {p k j c : Nat} {Q : Nat → Nat → Nat} (hP : M 119 2 = nI p) (hp0 : 0 < p) (hp : p < 128) (hQ : mPo M Q) (hQp : ∀ i z, Q i z < p) (hk : k < 36) (hj : j < 36) (hkj : k ≠ j) (hc : c ≤ p) :
    mX12_adds X ad ca d x [.ref 118, .int (nI (36 * k)), .int (nI (36 * j)), .int (nI c)] M (q_v (PT x) (fun M' => mPo M' (va_up Q k (fun z => (Q k z + c * Q j z) % p)) ∧ ∀ o, o ≠ 146 → M' o = M o)) := by
  obtain ⟨d, rfl⟩ := a_d1 (show 1 ≤ d by omega)
  refine eX12_adds _ _ _ (bX12_adds_0 _ _ _ ?_)
  refine a_loop (σ := a_M) (fun i M' => wX12_adds X ad ca d x _ 3 [(0, .ref 118), (1, .int (nI (36 * k))), (2, .int (nI (36 * j))), (3, .int (nI c)), (4, .int (nI i))] M') (fun i M' => (∀ a z, a < 36 → z < 36 → M' 146 (36 * a + z) = nI (if a = k ∧ z < i then (Q k z + c * Q j z) % p else Q a z)) ∧ ∀ o, o ≠ 146 → M' o = M o) 36 ?_ ?_ 0 M (Nat.zero_le _) ⟨fun a z ha hz => by rw [if_neg (by omega)]; exact hQ a z ha hz, fun _ _ => rfl⟩
  · rintro M1 ⟨q1, q2⟩
    refine bX12_adds_3 _ _ _ _ ⟨fun _ => ⟨rfl, rfl, fun a z ha hz => ?_, q2⟩, fun h => absurd (nI_le (Nat.le_refl 36) (by omega)) h⟩
    rw [q1 a z ha hz]
    congr 1
    by_cases e : a = k
    · subst e; rw [if_pos ⟨rfl, hz⟩, vu]
    · rw [if_neg (fun q => e q.1), vn _ _ _ _ e]
  · rintro i M1 hi ⟨q1, q2⟩ ih
    have d1 := q1 k i hk hi
    have d2 := q1 j i hj hi
    rw [if_neg (by omega)] at d1 d2
    have b1 := hQp k i
    have b2 := hQp j i
    have b3 : c * Q j i ≤ 128 * 128 := Nat.mul_le_mul (by omega) (by omega)
    refine bX12_adds_3 _ _ _ _ ⟨fun h => absurd h (nI_ge (b := 36) hi (by omega)), fun _ => ?_⟩
    rw [nI_add, nI_add, q2 119 (by decide), hP, n_cl (by omega), n_cl (by omega), d1, d2, n_mul, nI_add, n_rem (by omega) hp0 (by omega)]
    refine ⟨n_in (by omega) (by omega), n_in (by omega) (by omega), nI_ne0 hp0 (by omega), n_in (by omega) (by omega), ?_⟩
    rw [← nI_succ]
    refine ih _ ⟨fun a z ha hz => ?_, fun o ho => by rw [ms_row _ _ _ _ _ ho]; exact q2 o ho⟩
    by_cases e : a = k ∧ z = i
    · obtain ⟨rfl, rfl⟩ := e
      rw [ms_is, if_pos ⟨rfl, by omega⟩]
    · rw [ms_no _ _ _ _ _ _ (by omega), q1 a z ha hz]
      congr 1
      by_cases e2 : a = k ∧ z < i
      · rw [if_pos e2, if_pos ⟨e2.1, by omega⟩]
      · rw [if_neg e2, if_neg (by omega)]
theorem kX12_laysPoly (hd : 3 ≤ d) {w p : Nat} {A : Nat → Nat → Nat} (hp : p ∈ zpl) (hP : M 119 2 = nI p) (hw35 : w ≤ 35) (hQ : mQ M w p A) :
    mX12_laysPoly X ad ca d x [.ref 118] M (q_v (PT x) (fun M' => mPo M' (zQ p (zbn p w A) w) ∧ ∀ o, o ≠ 145 → o ≠ 146 → M' o = M o)) := by
  obtain ⟨d, rfl⟩ := a_d1 (show 1 ≤ d by omega)
  have hpb := zpl_b p hp
  have hp0 : 0 < p := by omega
  generalize hPost : q_v (PT x) (fun M' => mPo M' (zQ p (zbn p w A) w) ∧ ∀ o, o ≠ 145 → o ≠ 146 → M' o = M o) = Post
  refine eX12_laysPoly (bX12_laysPoly_0 ⟨_, kX12_bends (by omega) hp hP hw35 hQ, ?_⟩)
  rintro M1 ⟨hB, hB2⟩
  generalize zbn p w A = H at hB hPost
  have key := a_loop (σ := Unit) (fun i _ => wX12_laysPoly X ad ca d x Post 6 [(0, .ref 118), (1, .int (nI i))] (mf M1 146 0 (fun _ => 0) i)) (fun _ _ => True) 1296 ?_ ?_ 0 () (Nat.zero_le _) trivial
  · rw [mf_0] at key; exact key
  rotate_left
  · intro i _ hi _ ih
    refine bX12_laysPoly_6 _ ⟨fun h => absurd h (nI_ge (b := 1296) hi (by omega)), fun _ => ⟨n_in hi (by omega), ?_⟩⟩
    rw [n_cl (by omega), mf_s (Nat.zero_le _) rfl, ← nI_succ]
    exact ih () trivial
  intro _ _
  refine bX12_laysPoly_6 _ ⟨fun _ => ?_, fun h => absurd (nI_le (Nat.le_refl 1296) (by omega)) h⟩
  refine a_loop (σ := a_M) (fun k M' => wX12_laysPoly X ad ca d x Post 35 [(0, .ref 118), (1, .int (nI (k + 1)))] M') (fun k M' => mPo M' (zQ p H k) ∧ ∀ o, o ≠ 146 → M' o = M1 o) w ?_ ?_ 0 _ (Nat.zero_le _) ⟨fun i z hi hz => ?_, fun o ho => by rw [ms_row _ _ _ _ _ ho, mf_no _ _ _ _ _ _ ho]⟩
  rotate_left 2
  · show _ = nI (if i = 0 ∧ z = 0 then 1 else 0)
    by_cases e : i = 0 ∧ z = 0
    · obtain ⟨rfl, rfl⟩ := e
      rw [if_pos ⟨rfl, rfl⟩]
      exact ms_is _ _ _ _
    · rw [if_neg e, ms_no _ _ _ _ _ _ (by omega), mf_in _ _ _ _ _ _ (Nat.zero_le _) (by omega)]
      rfl
  · rintro M2 ⟨q1, q2⟩
    refine bX12_laysPoly_35 _ ?_
    rw [q2 118 (by decide), hB.1]
    refine ⟨fun _ => ?_, fun h => absurd (nI_lt (Nat.lt_succ_self w) (by omega)) h⟩
    rw [← hPost]
    exact ⟨rfl, rfl, q1, fun o h1 h2 => (q2 o h2).trans (hB2 o h1)⟩
  · rintro k M2 hk ⟨q1, q2⟩ ih
    have hkr : zQ p H (k + 1) = va_up (zQ p H k) (k + 1) (zQr p H (zQ p H k) k) := rfl
    have hQlt := zQ_lt (p := p) (A := H) (show 1 < p by omega) k
    have hQdeg := zQ_deg (p := p) (A := H) k
    have hQz := zQ_z (p := p) (A := H) k (k + 1)
    have hq0 := fun z => zQ0_lt (p := p) (A := H) (k := k) (z := z) (by omega)
    rw [hkr] at ih
    generalize zQ p H k = Q at q1 hQlt ih hQdeg hQz hq0
    have e36 : 36 * nI (k + 1) = nI (36 * (k + 1)) := by rw [fa_lit 36, n_mul]
    have e36b : nI (36 * (k + 1)) - 36 = nI (36 * k) := by
      rw [fa_lit 36, pk_sub (by omega)]
      congr 1
    refine bX12_laysPoly_35 _ ?_
    rw [q2 118 (by decide), hB.1, e36, e36b]
    refine ⟨fun h => absurd h (nI_nlt (by omega) (by omega)), fun _ => ?_⟩
    -- the shift
    refine a_loop (σ := a_M) (fun i M' => wX12_laysPoly X ad ca d x Post 56 [(0, .ref 118), (1, .int (nI (k + 1))), (2, .int (nI (36 * (k + 1)))), (3, .int (nI (36 * k))), (4, .int (nI i))] M') (fun i M' => mPo M' (va_up Q (k + 1) (fun z => if 1 ≤ z ∧ z ≤ i then Q k (z - 1) else 0)) ∧ ∀ o, o ≠ 146 → M' o = M1 o) (k + 1) ?_ ?_ 0 M2 (Nat.zero_le _) ⟨fun a z ha hz => ?_, q2⟩
    rotate_left 2
    · rw [q1 a z ha hz]
      congr 1
      by_cases e : a = k + 1
      · subst e
        rw [vu, if_neg (by omega)]
        exact hQz z (by omega)
      · rw [vn _ _ _ _ e]
    · rintro M3 ⟨r1, r2⟩
      have hrow : (fun z => if 1 ≤ z ∧ z ≤ k + 1 then Q k (z - 1) else 0) = fun z => zm (zQ0 Q k z - zis (zQs H Q k z) 0) p := by
        funext z
        show _ = zm (zQ0 Q k z - 0) p
        rw [Int.sub_zero, hq0 z]
        by_cases e0 : z = 0
        · rw [if_pos e0, if_neg (by omega)]
        · rw [if_neg e0]
          by_cases e1 : z ≤ k + 1
          · rw [if_pos (by omega)]
          · rw [if_neg (by omega), hQdeg k (z - 1) (by omega)]
      rw [hrow] at r1
      have hR : ∀ (j : Nat) (i z : Nat), va_up Q (k + 1) (fun z => zm (zQ0 Q k z - zis (zQs H Q k z) j) p) i z < p := by
        intro j i z
        by_cases e : i = k + 1
        · subst e; rw [vu]; exact zm_lt hp0
        · rw [vn _ _ _ _ e]; exact hQlt i z
      have hcell : ∀ (M' : a_M), (∀ o, o ≠ 146 → M' o = M1 o) → ∀ a b, a < w → b < w → M' 145 (35 * a + b) = nI (H a b) ∧ H a b < p := fun M' h a b ha hb => by rw [h 145 (by decide)]; exact hB.2 a b ha hb
      -- one addition
      have hadd : ∀ (s f : Nat) (c : Int) (M4 : a_M), s ≤ k → f ≤ p → (∃ e : Int, (f : Int) = c + (p : Int) * e) → (∀ z, zQs H Q k z s = c * (Q (k - s) z : Int)) → mPo M4 (va_up Q (k + 1) (fun z => zm (zQ0 Q k z - zis (zQs H Q k z) s) p)) → (∀ o, o ≠ 146 → M4 o = M1 o) → mX12_adds X ad ca d x [.ref 118, .int (nI (36 * (k + 1))), .int (nI (36 * (k - s))), .int (nI (p - f))] M4 (q_v (PT x) (fun M' => mPo M' (va_up Q (k + 1) (fun z => zm (zQ0 Q k z - zis (zQs H Q k z) (s + 1)) p)) ∧ ∀ o, o ≠ 146 → M' o = M1 o)) := by
        intro s f c M4 hs hf hc hz h1 h2
        refine (kX12_adds (by omega) (by rw [h2 119 (by decide), hB2 119 (by decide)]; exact hP) hp0 (by omega) h1 (hR s) (show k + 1 < 36 by omega) (show k - s < 36 by omega) (by omega) (by omega)).mv ?_
        rintro M5 ⟨h3, h4⟩
        refine ⟨fun i z hi hz2 => ?_, fun o ho => (h4 o ho).trans (h2 o ho)⟩
        rw [h3 i z hi hz2]
        congr 1
        by_cases e : i = k + 1
        · subst e
          rw [vu, vu, vu, vn _ _ _ _ (by omega), zq_step hp0 hc hf]
          show _ = zm (zQ0 Q k z - (zis (zQs H Q k z) s + zQs H Q k z s)) p
          rw [hz z]
        · rw [vn _ _ _ _ e, vn _ _ _ _ e, vn _ _ _ _ e]
      have c1 := hcell M3 r2 k k hk hk
      have e1 : 35 * (nI (k + 1) - 1) + nI (k + 1) - 1 = nI (35 * k + k) := by
        rw [nI_pred, fa_lit 35, n_mul, nI_add]
        exact pk_sub (b := 1) (by omega)
      refine bX12_laysPoly_56 _ _ _ _ ⟨fun _ => ?_, fun h => absurd (nI_le (Nat.le_refl _) (by omega)) h⟩
      rw [e1, n_cl (by omega), c1.1, r2 119 (by decide), hB2 119 (by decide), hP, pk_sub (Nat.le_of_lt c1.2)]
      refine ⟨n_in (by omega) (by omega), _, hadd 0 (H k k) (H k k : Int) M3 (by omega) (Nat.le_of_lt c1.2) ⟨0, by simp⟩ (fun z => ?_) r1 r2, ?_⟩
      · show (((1 * H k k * Q k z : Nat)) : Int) = _
        rw [Nat.one_mul, Int.natCast_mul]
        rfl
      rintro M4 ⟨h1, h2⟩
      have e11 : (1 : Int32) = nI (zsd H k 0 % p) := by
        show (1 : Int32) = nI (1 % p)
        rw [Nat.mod_eq_of_lt (by omega)]
        rfl
      have key3 := a_loop (σ := a_M) (fun j M' => wX12_laysPoly X ad ca d x Post 122 [(0, .ref 118), (1, .int (nI (k + 1))), (2, .int (nI (36 * (k + 1)))), (4, .int (nI (zsd H k j % p))), (5, .int (nI (j + 1)))] M') (fun j M' => mPo M' (va_up Q (k + 1) (fun z => zm (zQ0 Q k z - zis (zQs H Q k z) (j + 1)) p)) ∧ ∀ o, o ≠ 146 → M' o = M1 o) k ?_ ?_ 0 M4 (Nat.zero_le _) ⟨h1, h2⟩
      · rw [← e11] at key3; exact key3
      · rintro M5 ⟨s1, s2⟩
        refine bX12_laysPoly_122 _ _ _ _ ⟨fun _ => ?_, fun h => absurd (nI_le (Nat.le_refl _) (by omega)) h⟩
        rw [← nI_succ]
        exact ih M5 ⟨s1, s2⟩
      · rintro j M5 hj ⟨s1, s2⟩ ih2
        have hsl : zsd H k (j + 1) = zsd H k j * H (k - j) (k - j - 1) := rfl
        have hslp : zsd H k j % p < p := Nat.mod_lt _ hp0
        have c2 := hcell M5 s2 (k - j) (k - j - 1) (by omega) (by omega)
        have c3 := hcell M5 s2 (k - j - 1) k (by omega) hk
        have f1 : nI (k + 1) - nI (j + 1) = nI (k - j) := by rw [pk_sub (by omega)]; congr 1; omega
        have f2 : 35 * (nI (k + 1) - nI (j + 1)) + nI (k + 1) - nI (j + 1) - 1 = nI (35 * (k - j) + (k - j - 1)) := by
          rw [f1, fa_lit 35, n_mul, nI_add, pk_sub (by omega)]
          rw [show nI (35 * (k - j) + (k + 1) - (j + 1)) - 1 = nI (35 * (k - j) + (k + 1) - (j + 1) - 1) from pk_sub (b := 1) (by omega)]
          congr 1
          omega
        have f3 : nI (k + 1) - nI (j + 1) - 1 = nI (k - j - 1) := by
          rw [f1]; exact pk_sub (b := 1) (by omega)
        have f4 : 35 * (nI (k + 1) - nI (j + 1) - 1) + nI (k + 1) - 1 = nI (35 * (k - j - 1) + k) := by
          rw [f3, fa_lit 35, n_mul, nI_add]
          exact pk_sub (b := 1) (by omega)
        have f5 : 36 * (nI (k + 1) - nI (j + 1) - 1) = nI (36 * (k - (j + 1))) := by
          rw [f3, fa_lit 36, n_mul]
          congr 1
        have b1 := n_p2 hslp c2.2 (by omega)
        have hs2 : zsd H k j % p * H (k - j) (k - j - 1) % p = zsd H k (j + 1) % p := by rw [hsl, Nat.mod_mul_mod]
        have hs2p : zsd H k (j + 1) % p < p := Nat.mod_lt _ hp0
        have b2 := n_p2 hs2p c3.2 (by omega)
        have hfp : zsd H k (j + 1) % p * H (k - j - 1) k % p < p := Nat.mod_lt _ hp0
        refine bX12_laysPoly_122 _ _ _ _ ⟨fun h => absurd h (nI_ge (by omega) (by omega)), fun _ => ?_⟩
        rw [f5, f4, f2, n_cl (by omega), n_cl (by omega), c2.1, c3.1, s2 119 (by decide), hB2 119 (by decide), hP, n_mul, n_rem (by omega) hp0 (by omega), hs2, n_mul, n_rem (by omega) hp0 (by omega), pk_sub (Nat.le_of_lt hfp)]
        refine ⟨n_in (by omega) (by omega), nI_ne0 hp0 (by omega), n_in (by omega) (by omega), nI_ne0 hp0 (by omega), _, hadd (j + 1) _ ((zsd H k (j + 1) * H (k - (j + 1)) k : Nat) : Int) M5 (by omega) (Nat.le_of_lt hfp) ?_ (fun z => ?_) s1 s2, ?_⟩
        · obtain ⟨e1, he1⟩ := zn_d (zsd H k (j + 1) % p * H (k - j - 1) k) hp0
          obtain ⟨e2, he2⟩ := zn_d (zsd H k (j + 1)) hp0
          refine ⟨e1 + e2 * (H (k - j - 1) k : Int), ?_⟩
          rw [he1, Int.natCast_mul, he2, Int.natCast_mul, show k - (j + 1) = k - j - 1 by omega]
          grind
        · unfold zQs
          rw [Int.natCast_mul]
        · rintro M6 ⟨t1, t2⟩
          rw [← nI_succ]
          exact ih2 M6 ⟨t1, t2⟩
    · rintro i M3 hi ⟨r1, r2⟩ ih2
      have d1 := r1 k i (by omega) (by omega)
      rw [vn _ _ _ _ (by omega)] at d1
      have g1 : nI (36 * (k + 1)) + nI i + 1 = nI (36 * (k + 1) + (i + 1)) := by rw [nI_add, ← nI_succ]; rfl
      refine bX12_laysPoly_56 _ _ _ _ ⟨fun h => absurd h (nI_ge hi (by omega)), fun _ => ?_⟩
      rw [g1, nI_add, n_cl (by omega), n_cl (by omega), d1]
      refine ⟨n_in (by omega) (by omega), n_in (by omega) (by omega), ?_⟩
      rw [← nI_succ]
      refine ih2 _ ⟨fun a z ha hz => ?_, fun o ho => by rw [ms_row _ _ _ _ _ ho]; exact r2 o ho⟩
      by_cases e : a = k + 1 ∧ z = i + 1
      · obtain ⟨rfl, rfl⟩ := e
        rw [ms_is, vu, if_pos (by omega)]
        rfl
      · rw [ms_no _ _ _ _ _ _ (by omega), r1 a z ha hz]
        congr 1
        by_cases e2 : a = k + 1
        · subst e2
          rw [vu, vu]
          by_cases e3 : 1 ≤ z ∧ z ≤ i
          · rw [if_pos e3, if_pos (by omega)]
          · rw [if_neg e3, if_neg (by omega)]
        · rw [vn _ _ _ _ e2, vn _ _ _ _ e2]
end Z24
