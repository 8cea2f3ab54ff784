/-! CONTRACTS 4: the sum of neighbours, on the reference's side -/
def zs (f : Nat → Nat) : Nat → Nat
  | 0 => 0
  | n + 1 => zs f n + f n
theorem zs_cong {f g : Nat → Nat} : ∀ {n : Nat}, (∀ k, k < n → f k = g k) → zs f n = zs g n
  | 0, _ => rfl
  | n + 1, h => by rw [zs, zs, zs_cong (fun k hk => h k (by omega)), h n (by omega)]
theorem zs_zero {f : Nat → Nat} {n : Nat} (h : ∀ k, k < n → f k = 0) : zs f n = 0 := by
  induction n with
  | zero => rfl
  | succ n ih => rw [zs, ih (fun k hk => h k (by omega)), h n (by omega)]
theorem zs_add (f g : Nat → Nat) (n : Nat) : zs (fun k => f k + g k) n = zs f n + zs g n := by
  induction n with
  | zero => rfl
  | succ n ih => rw [zs, zs, zs, ih]; omega
theorem zs_mul (c : Nat) (f : Nat → Nat) (n : Nat) : zs (fun k => c * f k) n = c * zs f n := by
  induction n with
  | zero => rfl
  | succ n ih => rw [zs, zs, ih, Nat.mul_add]
theorem zs_le {f : Nat → Nat} {c n : Nat} (h : ∀ k, k < n → f k ≤ c) : zs f n ≤ n * c := by
  induction n with
  | zero => simp [zs]
  | succ n ih =>
    have h1 := ih (fun k hk => h k (by omega))
    have h2 := h n (by omega)
    rw [zs, Nat.succ_mul]
    omega
theorem zs_swap (f : Nat → Nat → Nat) (m n : Nat) : zs (fun a => zs (fun b => f a b) n) m = zs (fun b => zs (fun a => f a b) m) n := by
  induction m with
  | zero => exact (zs_zero (fun _ _ => rfl)).symm
  | succ m ih => rw [zs, ih, ← zs_add]; rfl
theorem zs_one {f : Nat → Nat} {n k : Nat} (hk : k < n) (h : ∀ j, j < n → j ≠ k → f j = 0) : zs f n = f k := by
  induction n with
  | zero => omega
  | succ n ih =>
    rw [zs]
    by_cases e : n = k
    · subst e
      rw [zs_zero (fun j hj => h j (by omega) (by omega)), Nat.zero_add]
    · rw [ih (by omega) (fun j hj => h j (by omega)), h n (by omega) e, Nat.add_zero]
theorem mf_cong {M : a_M} {o lo i : Nat} {f g : Nat → Int32} (h : ∀ j, lo ≤ j → j < i → f j = g j) : mf M o lo f i = mf M o lo g i := by
  unfold mf
  congr 1
  funext j
  by_cases c : lo ≤ j ∧ j < i
  · rw [if_pos c, if_pos c, h j c.1 c.2]
  · rw [if_neg c, if_neg c]
theorem mf_set {M : a_M} {o N k : Nat} {f g : Nat → Int32} {w : Int32} (hk : k < N) (hw : w = g k) (hg : ∀ j, j < N → j ≠ k → f j = g j) : ms (mf M o 0 f N) o k w = mf M o 0 g N := by
  unfold ms mf va_up upd
  funext a j
  by_cases ha : a = o
  · rw [if_pos ha, if_pos ha, if_pos rfl]
    by_cases hj : j = k
    · rw [if_pos hj, if_pos (by omega), hj, hw]
    · rw [if_neg hj]
      by_cases h2 : 0 ≤ j ∧ j < N
      · rw [if_pos h2, if_pos h2, hg j h2.2 hj]
      · rw [if_neg h2, if_neg h2]
  · rw [if_neg ha, if_neg ha, if_neg ha]
theorem n_xor (a b : Nat) : nI a ^^^ nI b = nI (a ^^^ b) := by
  apply Int32.toBitVec_inj.1
  show BitVec.ofNat 32 a ^^^ BitVec.ofNat 32 b = BitVec.ofNat 32 (a ^^^ b)
  rw [BitVec.ofNat_xor]
def zb (a i : Nat) : Nat := a / 2 ^ i % 2
def zn (n i : Nat) : Nat := (i + 1) % n
def zal (n a i : Nat) : Bool := zb a i == zb a (zn n i)
/-- the state that comes of a at bond i, how much of it, and how many bonds there are -/
def ztg (n a i : Nat) : Nat := if zal n a i = true then a else a ^^^ 2 ^ i ^^^ 2 ^ zn n i
def zwt (n e a i : Nat) : Nat := if zal n a i = true then e else 1
def zbd (n r : Nat) : Nat := if r = 0 then n - 1 else n
theorem ztg_lt : ∀ n, n < 8 → 2 ≤ n → ∀ a, a < 2 ^ n → ∀ i, i < n → ztg n a i < 2 ^ n := by decide +kernel
def zt (n e : Nat) (v : Nat → Nat) (a i y : Nat) : Nat := if ztg n a i = y then v a * zwt n e a i else 0
/-- what THE SUM makes of v, at y -/
def zS (p n b e : Nat) (v : Nat → Nat) (y : Nat) : Nat := zs (fun a => zs (fun i => zt n e v a i y) b) (2 ^ n) % p
section Z5
variable {X : a_X} {ad : Nat → Nat} {ca : Nat → ClassId} {d x : Nat} {M : a_M}
theorem kX12_sumsBy (hd : 2 ≤ d) {n p e r : Nat} {v : Nat → Nat} (hN : M 119 0 = nI n) (hn : n < 8) (hn2 : 2 ≤ n) (hP : M 119 2 = nI p) (hp : p ∈ zpl) (he : e < p) (hr : r ≤ 1) (hv : ∀ j, j < 2 ^ n → M 140 j = nI (v j) ∧ v j < p) :
    mX12_sumsBy X ad ca d x [.ref 118, .int (nI e), .int (nI r)] M (q_v (PT x) (fun M' => M' = mf (mf M 141 0 (fun y => nI (zS p n (zbd n r) e v y)) 128) 140 0 (fun y => nI (zS p n (zbd n r) e v y)) 128)) := by
  obtain ⟨d, rfl⟩ := a_d1 (show 1 ≤ d by omega)
  have hpb := zpl_b p hp
  have h2n := z_p2 hn
  refine eX12_sumsBy _ _ (bX12_sumsBy_0 _ _ ?_)
  generalize hPost : q_v (PT x) (fun M' => M' = mf (mf M 141 0 (fun y => nI (zS p n (zbd n r) e v y)) 128) 140 0 (fun y => nI (zS p n (zbd n r) e v y)) 128) = Post
  -- the row is cleared
  have key := a_loop (σ := Unit) (fun i _ => wX12_sumsBy X ad ca d x Post 2 [(0, .ref 118), (1, .int (nI e)), (2, .int (nI r)), (3, .int (nI i))] (mf M 141 0 (fun _ => 0) i)) (fun _ _ => True) 128 ?_ ?_ 0 () (by omega) trivial
  · rw [mf_0] at key; exact key
  · intro _ _
    refine bX12_sumsBy_2 _ _ _ ⟨fun _ => ?_, fun h => absurd (nI_le (Nat.le_refl 128) (by omega)) h⟩
    -- the states
    let A : Nat → Nat → Nat → Nat := fun a i y => zs (fun a' => zs (fun i' => zt n e v a' i' y) (zbd n r)) a + zs (fun i' => zt n e v a i' y) i
    have key2 := a_loop (σ := Unit) (fun a _ => wX12_sumsBy X ad ca d x Post 24 [(0, .ref 118), (1, .int (nI e)), (2, .int (nI r)), (3, .int (nI a))] (mf M 141 0 (fun y => nI (A a 0 y % p)) 128)) (fun _ _ => True) (2 ^ n) ?_ ?_ 0 () (Nat.zero_le _) trivial
    · have e0 : mf M 141 0 (fun y => nI (A 0 0 y % p)) 128 = mf M 141 0 (fun _ => 0) 128 := mf_cong (fun j _ _ => by show nI ((0 + 0) % p) = 0; rw [Nat.zero_mod]; rfl)
      rw [← e0]
      exact key2
    · intro _ _
      refine bX12_sumsBy_24 _ _ _ ⟨_, kX12_states (by omega) (by rw [mf_no _ _ _ _ _ _ (by decide)]; exact hN) hn, ?_⟩
      rintro v1 M1 ⟨rfl, rfl⟩
      refine ⟨fun _ => ⟨_, kX12_takesNext (by omega), ?_⟩, fun h => absurd (nI_le (Nat.le_refl (2 ^ n)) (by omega)) h⟩
      rintro M2 rfl
      rw [← hPost]
      refine ⟨rfl, rfl, ?_⟩
      have e1 : mf M 141 0 (fun y => nI (A (2 ^ n) 0 y % p)) 128 = mf M 141 0 (fun y => nI (zS p n (zbd n r) e v y)) 128 := mf_cong (fun j _ _ => by
        show nI ((zs (fun a' => zs (fun i' => zt n e v a' i' j) (zbd n r)) (2 ^ n) + 0) % p) = _
        rw [Nat.add_zero]; rfl)
      rw [e1]
      exact mf_cong (fun j _ hj => by rw [mf_in _ _ _ _ _ _ (Nat.zero_le _) hj])
    · intro a _ ha _ ih
      have hva := hv a ha
      refine bX12_sumsBy_24 _ _ _ ⟨_, kX12_states (by omega) (by rw [mf_no _ _ _ _ _ _ (by decide)]; exact hN) hn, ?_⟩
      rintro v1 M1 ⟨rfl, rfl⟩
      refine ⟨fun h => absurd h (nI_ge ha (by omega)), fun _ => ⟨n_in (by omega) (by omega), ?_⟩⟩
      rw [n_cl (by omega), mf_no _ _ _ _ _ _ (show 140 ≠ 141 by decide), hva.1]
      have hend : wX12_sumsBy X ad ca d x Post 172 [(0, .ref 118), (1, .int (nI e)), (2, .int (nI r)), (3, .int (nI a))] (mf M 141 0 (fun y => nI (A a (zbd n r) y % p)) 128) := by
        refine bX12_sumsBy_172 _ _ _ ?_
        rw [← nI_succ]
        exact ih () trivial
      refine ⟨fun h0 => ?_, fun h0 => ?_⟩
      · have hv0 : v a = 0 := by
          rw [← nI_0] at h0
          exact (nI_eq (by omega) (by omega)).mp h0
        have e1 : mf M 141 0 (fun y => nI (A a 0 y % p)) 128 = mf M 141 0 (fun y => nI (A a (zbd n r) y % p)) 128 := mf_cong (fun j _ _ => by
          show nI ((_ + 0) % p) = nI ((_ + zs (fun i' => zt n e v a i' j) (zbd n r)) % p)
          rw [zs_zero (f := fun i' => zt n e v a i' j) (fun k _ => by unfold zt; rw [hv0]; simp)])
        rw [e1]
        exact hend
      · -- the bonds
        refine a_loop (σ := Unit) (fun i _ => wX12_sumsBy X ad ca d x Post 44 [(0, .ref 118), (1, .int (nI e)), (2, .int (nI r)), (3, .int (nI a)), (4, .int (nI i))] (mf M 141 0 (fun y => nI (A a i y % p)) 128)) (fun _ _ => True) (zbd n r) ?_ ?_ 0 () (by omega) trivial
        · intro _ _
          have hN' : (mf M 141 0 (fun y => nI (A a (zbd n r) y % p)) 128) 119 0 = nI n := by rw [mf_no _ _ _ _ _ _ (by decide)]; exact hN
          have e9 : nI n - 1 = nI (n - 1) := pk_sub (a := n) (b := 1) (by omega)
          refine bX12_sumsBy_44 _ _ _ _ ⟨fun h => ?_, fun h => ?_⟩
          · have hr0 : r = 0 := by
              rw [← nI_0] at h
              exact (nI_eq (by omega) (by omega)).mp h
            have hb : zbd n r = n - 1 := by unfold zbd; rw [if_pos hr0]
            rw [hN', e9]
            exact ⟨fun _ => hend, fun h2 => absurd (nI_le (by omega) (by omega)) h2⟩
          · have hr0 : r ≠ 0 := fun q => h (by rw [q]; rfl)
            have hb : zbd n r = n := by unfold zbd; rw [if_neg hr0]
            rw [hN']
            exact ⟨fun _ => hend, fun h2 => absurd (nI_le (by omega) (by omega)) h2⟩
        · intro i _ hi _ ih2
          have hbn : zbd n r ≤ n := by unfold zbd; split <;> omega
          have hin : i < n := by omega
          have hN' : (mf M 141 0 (fun y => nI (A a i y % p)) 128) 119 0 = nI n := by rw [mf_no _ _ _ _ _ _ (by decide)]; exact hN
          have hP' : (mf M 141 0 (fun y => nI (A a i y % p)) 128) 119 2 = nI p := by rw [mf_no _ _ _ _ _ _ (by decide)]; exact hP
          have hA' : (mf M 141 0 (fun y => nI (A a i y % p)) 128) 140 a = nI (v a) := by rw [mf_no _ _ _ _ _ _ (by decide)]; exact hva.1
          have e9 : nI n - 1 = nI (n - 1) := pk_sub (a := n) (b := 1) (by omega)
          have ei : nI i + 1 - (nI i + 1) / nI n * nI n = nI (zn n i) := by
            rw [← nI_succ, n_rem (by omega) (by omega) (by omega)]; rfl
          have hzn : zn n i < n := Nat.mod_lt _ (by omega)
          have hAs : ∀ y, A a (i + 1) y = A a i y + zt n e v a i y := fun y => by
            exact (Nat.add_assoc _ _ _).symm
          have body : (¬ (nI a >>> (nI i &&& 31)) &&& 1 = (nI a >>> (nI (zn n i) &&& 31)) &&& 1 → vp_in ((nI a ^^^ ((1 : Int32) <<< (nI i &&& 31))) ^^^ ((1 : Int32) <<< (nI (zn n i) &&& 31))) 128 ∧ vp_in (nI a) 128 ∧ ¬ (nI p) = 0 ∧ vp_in ((nI a ^^^ ((1 : Int32) <<< (nI i &&& 31))) ^^^ ((1 : Int32) <<< (nI (zn n i) &&& 31))) 128 ∧ wX12_sumsBy X ad ca d x Post 44 [(0, .ref 118), (1, .int (nI e)), (2, .int (nI r)), (3, .int (nI a)), (4, .int (nI (i + 1)))] (ms (mf M 141 0 (fun y => nI (A a i y % p)) 128) 141 (((nI a ^^^ ((1 : Int32) <<< (nI i &&& 31))) ^^^ ((1 : Int32) <<< (nI (zn n i) &&& 31))).toNatClampNeg) ((((mf M 141 0 (fun y => nI (A a i y % p)) 128) 141 (((nI a ^^^ ((1 : Int32) <<< (nI i &&& 31))) ^^^ ((1 : Int32) <<< (nI (zn n i) &&& 31))).toNatClampNeg)) + (nI (v a) * 1)) - (((mf M 141 0 (fun y => nI (A a i y % p)) 128) 141 (((nI a ^^^ ((1 : Int32) <<< (nI i &&& 31))) ^^^ ((1 : Int32) <<< (nI (zn n i) &&& 31))).toNatClampNeg)) + (nI (v a) * 1)) / nI p * nI p))) ∧
              ((nI a >>> (nI i &&& 31)) &&& 1 = (nI a >>> (nI (zn n i) &&& 31)) &&& 1 → vp_in (nI a) 128 ∧ vp_in (nI a) 128 ∧ ¬ (nI p) = 0 ∧ vp_in (nI a) 128 ∧ wX12_sumsBy X ad ca d x Post 44 [(0, .ref 118), (1, .int (nI e)), (2, .int (nI r)), (3, .int (nI a)), (4, .int (nI (i + 1)))] (ms (mf M 141 0 (fun y => nI (A a i y % p)) 128) 141 a ((((mf M 141 0 (fun y => nI (A a i y % p)) 128) 141 a) + (nI (v a) * nI e)) - (((mf M 141 0 (fun y => nI (A a i y % p)) 128) 141 a) + (nI (v a) * nI e)) / nI p * nI p))) := by
            have hlt := ztg_lt n hn hn2 a ha i hin
            rw [z_bit (by omega) (by omega), z_bit (by omega) (by omega), z_pow i (by omega), z_pow (zn n i) (by omega), n_xor, n_xor]
            have hb1 : ∀ k, a / 2 ^ k % 2 < 2 := fun k => Nat.mod_lt _ (by omega)
            have hq1 := hb1 i
            have hq2 := hb1 (zn n i)
            have hm : ∀ y, A a i y % p < p := fun y => Nat.mod_lt _ (by omega)
            refine ⟨fun h => ?_, fun h => ?_⟩
            · have hal : ¬ zal n a i = true := fun q => h (by
                have : zb a i = zb a (zn n i) := by unfold zal at q; exact beq_iff_eq.mp q
                unfold zb at this
                rw [this])
              have etg : ztg n a i = a ^^^ 2 ^ i ^^^ 2 ^ zn n i := by unfold ztg; rw [if_neg hal]
              rw [← etg]
              have hti := n_in (N := 128) (show ztg n a i < 128 by omega) (by omega)
              refine ⟨hti, n_in (by omega) (by omega), nI_ne0 (by omega) (by omega), hti, ?_⟩
              have h9 := hm (ztg n a i)
              rw [n_cl (by omega), mf_in _ _ _ _ _ _ (Nat.zero_le _) (show ztg n a i < 128 by omega), fa_lit 1, n_mul, nI_add, n_rem (by omega) (by omega) (by omega)]
              rw [mf_set (g := fun y => nI (A a (i + 1) y % p)) (show ztg n a i < 128 by omega) ?_ ?_]
              · exact ih2 () trivial
              · show nI _ = nI (A a (i + 1) (ztg n a i) % p)
                rw [hAs, Nat.mod_add_mod]
                unfold zt zwt
                rw [if_pos rfl, if_neg hal]
              · intro j _ hj
                show nI _ = nI (A a (i + 1) j % p)
                rw [hAs]
                unfold zt
                rw [if_neg (Ne.symm hj), Nat.add_zero]
            · have hal : zal n a i = true := by
                unfold zal zb
                exact beq_iff_eq.mpr ((nI_eq (by omega) (by omega)).mp h)
              have etg : ztg n a i = a := by unfold ztg; rw [if_pos hal]
              have hti := n_in (N := 128) (show a < 128 by omega) (by omega)
              refine ⟨hti, hti, nI_ne0 (by omega) (by omega), hti, ?_⟩
              have h9 := hm a
              have h8 := n_p2 hva.2 he (by omega)
              rw [mf_in _ _ _ _ _ _ (Nat.zero_le _) (show a < 128 by omega), n_mul, nI_add, n_rem (by omega) (by omega) (by omega)]
              rw [mf_set (g := fun y => nI (A a (i + 1) y % p)) (show a < 128 by omega) ?_ ?_]
              · exact ih2 () trivial
              · show nI _ = nI (A a (i + 1) a % p)
                rw [hAs, Nat.mod_add_mod]
                unfold zt zwt
                rw [if_pos etg, if_pos hal]
              · intro j _ hj
                show nI _ = nI (A a (i + 1) j % p)
                rw [hAs]
                unfold zt
                rw [if_neg (fun q => hj (by rw [← q, etg])), Nat.add_zero]
          refine bX12_sumsBy_44 _ _ _ _ ?_
          rw [hN', hP', e9, ei, n_cl (show a < 2 ^ 31 by omega), hA', ← nI_succ]
          have hnz : ¬ nI n = 0 := nI_ne0 (by omega) (by omega)
          refine ⟨fun h => ⟨fun h2 => ?_, fun _ => ⟨hnz, body⟩⟩, fun h => ⟨fun h2 => ?_, fun _ => ⟨hnz, body⟩⟩⟩
          · exfalso
            have hr0 : r = 0 := by
              rw [← nI_0] at h
              exact (nI_eq (by omega) (by omega)).mp h
            have hb : zbd n r = n - 1 := by unfold zbd; rw [if_pos hr0]
            exact nI_ge (a := i) (b := n - 1) (by omega) (by omega) h2
          · exfalso
            exact nI_ge hin (by omega) h2
  · intro i _ hi _ ih
    refine bX12_sumsBy_2 _ _ _ ⟨fun h => absurd h (nI_ge (b := 128) hi (by omega)), fun _ => ⟨n_in hi (by omega), ?_⟩⟩
    rw [n_cl (by omega), mf_s (Nat.zero_le _) rfl, ← nI_succ]
    exact ih () trivial
end Z5
