/-! CONTRACTS 25: size, trace, poly, own, often on the reference's side -/
def zHt (n p : Nat) (u w : Int32) : Prop := ∃ m, m ≤ n ∧ u = nI m ∧ (w = -1 ∨ ∃ k, k < n ∧ w = nI k ∧ (zrt n p).isSome = true)
def rSize (n p : Nat) (u w s : Int32) : Prop := (∃ m, m ≤ n ∧ u = nI m ∧ ((w = -1 ∧ s = nI (zsec n m).length) ∨ ∃ k, k < n ∧ w = nI k ∧ (zrt n p).isSome = true ∧ s = nI (zrd n m k).length)) ∨ (¬ zHt n p u w ∧ s = -1)
def zTr (p n b e m j : Nat) : Nat := zs (fun k => zit (zS p n b e) j (zu ((zsec n m).getD k 0)) ((zsec n m).getD k 0)) (zsec n m).length % p
def rTrace (p n b e : Nat) (u w s : Int32) : Prop := (∃ m j, m ≤ n ∧ j < 100 ∧ u = nI m ∧ w = nI j ∧ s = nI (zTr p n b e m j)) ∨ ((¬ ∃ m j, m ≤ n ∧ j < 100 ∧ u = nI m ∧ w = nI j) ∧ s = -1)
/-- the i-th coefficient, or NONE -/
def zcf (D : Nat) (c : Nat → Nat) (i s : Int32) : Prop := (∃ z, z ≤ D ∧ i = nI z ∧ s = nI (c z)) ∨ ((¬ ∃ z, z ≤ D ∧ i = nI z) ∧ s = -1)
/-- the polynomial of THE SUM in the sector m -/
def zPs (p n b e m : Nat) : Nat → Nat := zP p (zsec n m).length (zA p n b e (zsec n m))
def rPoly (p n r e : Nat) (u w i s : Int32) : Prop := (∃ m, m ≤ n ∧ u = nI m ∧ ((w = -1 ∧ zcf (zsec n m).length (zPs p n (zbd n r) e m) i s) ∨ ∃ k ω, k < n ∧ w = nI k ∧ zrt n p = some ω ∧ r = 1 ∧ zcf (zrd n m k).length (zP p (zrd n m k).length (zTA p n (zbd n r) e (ω ^ k % p) (zrd n m k))) i s)) ∨ (¬ (zHt n p u w ∧ (w = -1 ∨ r = 1)) ∧ s = -1)
/-- Horner's row from the top D -/
def zhr (p x : Nat) (c : Nat → Nat) (D : Nat) : Nat → Nat
  | 0 => 0
  | t + 1 => (zhr p x c D t * x + c (D - t)) % p
/-- how often x divides -/
def zof (p x : Nat) : Nat → (Nat → Nat) → Nat
  | 0, _ => 0
  | D + 1, c => if zhr p x c (D + 1) (D + 2) = 0 then zof p x D (fun i => zhr p x c (D + 1) (D + 1 - i)) + 1 else 0
theorem zhr_lt {p x : Nat} {c : Nat → Nat} {D : Nat} (hp : 0 < p) : ∀ t, zhr p x c D t < p
  | 0 => hp
  | t + 1 => Nat.mod_lt _ hp
theorem zhr_cong {p x D : Nat} {c c' : Nat → Nat} (h : ∀ i, i ≤ D → c i = c' i) : ∀ t, zhr p x c D t = zhr p x c' D t
  | 0 => rfl
  | t + 1 => by
    show (zhr p x c D t * x + c (D - t)) % p = (zhr p x c' D t * x + c' (D - t)) % p
    rw [zhr_cong h t, h _ (by omega)]
theorem zof_le (p x : Nat) : ∀ (D : Nat) (c : Nat → Nat), zof p x D c ≤ D
  | 0, _ => Nat.le_refl _
  | D + 1, c => by
    unfold zof
    split
    · have := zof_le p x D (fun i => zhr p x c (D + 1) (D + 1 - i)); omega
    · omega
def rOften (p n b e : Nat) (u w s : Int32) : Prop := (∃ m k, m ≤ n ∧ k < p ∧ u = nI m ∧ w = nI k ∧ s = nI (zof p k (zsec n m).length (zPs p n b e m))) ∨ ((¬ ∃ m k, m ≤ n ∧ k < p ∧ u = nI m ∧ w = nI k) ∧ s = -1)
def zof1 (p D : Nat) (c : Nat → Nat) (a : Nat) : Bool := decide (0 < zof p a D c)
def rOwn (p n b e : Nat) (u w s : Int32) : Prop := (∃ m, m ≤ n ∧ u = nI m ∧ -1 ≤ w ∧ ((w = -1 ∧ s = nI (zfl (zof1 p (zsec n m).length (zPs p n b e m)) p).length) ∨ (∃ i, w = nI i ∧ i < 2 ^ 31 ∧ s = match (zfl (zof1 p (zsec n m).length (zPs p n b e m)) p)[i]? with | some a => nI a | none => -1))) ∨ ((¬ ∃ m, m ≤ n ∧ u = nI m ∧ -1 ≤ w) ∧ s = -1)
section Z26
variable {X : a_X} {ad : Nat → Nat} {ca : Nat → ClassId} {d x : Nat} {M : a_M}
theorem nI_m1 {k : Nat} (h : k < 2 ^ 31) : nI k ≠ -1 := by
  intro q
  have h3 := congrArg Int32.toInt q
  have h5 : (-1 : Int32).toInt = -1 := by decide
  rw [nI_toInt h, h5] at h3
  omega
theorem kX12_size (hd : 5 ≤ d) {n r p t e : Nat} (hH : mH M n r p t e) (hw : wH n r p t e) (u w : Int32) : mX12_size X ad ca d x [.ref 118, .int u, .int w] M (q_i (PT x) (fun s M' => mK M M' ∧ rSize n p u w s)) := by
  obtain ⟨d, rfl⟩ := a_d1 (show 1 ≤ d by omega)
  have hn := hw.1
  refine eX12_size _ _ (bX12_size_0 _ _ ⟨_, kX12_isSector (by omega) _ hH.1 hn, ?_⟩)
  rintro v1 M1 ⟨rfl, rfl⟩
  have hno : ¬ zHt n p u w → wX12_size X ad ca d x (q_i (PT x) (fun s M' => mK M1 M' ∧ rSize n p u w s)) 21 [] M1 := fun h => bX12_size_21 ⟨_, rfl, rfl, mK.rfl _, Or.inr ⟨h, rfl⟩⟩
  refine ⟨fun h => hno ?_, fun h => ?_⟩
  · rintro ⟨m, h1, h2, -⟩
    rw [if_pos ⟨m, h1, h2⟩] at h
    exact absurd h (by decide)
  obtain ⟨m, hm, rfl⟩ : ∃ k, k ≤ n ∧ u = nI k := Classical.byContradiction fun q => h (if_neg q)
  have hlen := zsec_len n hn m (by omega)
  refine ⟨fun h2 => bX12_size_23 _ _ ⟨fun h3 => absurd h2 h3, fun _ => ⟨_, kX12_laysSector (by omega) hH hw hm, ?_⟩⟩, fun h2 => ⟨_, kX12_isTurn (by omega) hH hw, ?_⟩⟩
  · rintro M2 ⟨a1, a2, -⟩
    exact bX12_size_42 ⟨_, rfl, rfl, a2, Or.inl ⟨m, hm, rfl, Or.inl ⟨h2, a1.1⟩⟩⟩
  rintro v2 M2 ⟨rfl, hv⟩
  refine ⟨fun h3 => bX12_size_23 _ _ ⟨fun _ => ?_, fun h4 => absurd h4 h2⟩, fun h3 => hno ?_⟩
  · rcases hv with ⟨-, k, hk, rfl, hz⟩ | ⟨q, -⟩
    · refine ⟨_, kX12_laysRounds (by omega) hH hw hm hk, ?_⟩
      rintro M3 ⟨a1, a2, a3, -⟩
      exact bX12_size_42 ⟨_, rfl, rfl, a3, Or.inl ⟨m, hm, rfl, Or.inr ⟨k, hk, rfl, hz, a1.1⟩⟩⟩
    · exact absurd q h3
  · rintro ⟨m', -, -, q | q⟩
    · exact h2 q
    · rcases hv with ⟨q2, -⟩ | ⟨-, q2⟩
      · rw [q2] at h3; exact absurd h3 (by decide)
      · exact q2 q
theorem zit_lt {p n b e j : Nat} {v : Nat → Nat} (hp : 0 < p) (hv : ∀ y, y < 2 ^ n → v y < p) : ∀ y, y < 2 ^ n → zit (zS p n b e) j v y < p := by
  cases j with
  | zero => exact hv
  | succ j => intro y _; exact zS_lt hp
theorem kX12_trace (hd : 4 ≤ d) {n r p t e : Nat} (hH : mH M n r p t e) (hw : wH n r p t e) (u w : Int32) : mX12_trace X ad ca d x [.ref 118, .int u, .int w] M (q_i (PT x) (fun s M' => mK M M' ∧ rTrace p n (zbd n r) e u w s)) := by
  obtain ⟨d, rfl⟩ := a_d1 (show 1 ≤ d by omega)
  have hn := hw.1
  have hn2 := hw.2.1
  have h2n := z_p2 hn
  have hpb := zpl_b p hw.2.2.2.1
  have hin : ((0 : Int32) ≤ w ∧ w ≤ 99) ↔ ∃ k, 0 ≤ k ∧ k ≤ 99 ∧ w = nI k := n_btw (a := 0) (b := 99) rfl rfl (by omega) (by omega)
  refine eX12_trace _ _ (bX12_trace_0 _ _ ⟨_, kX12_isSector (by omega) _ hH.1 hn, ?_⟩)
  rintro v1 M1 ⟨rfl, rfl⟩
  refine ⟨fun h => bX12_trace_18 ⟨_, rfl, rfl, mK.rfl _, Or.inr ⟨?_, rfl⟩⟩, fun h => ⟨_, kX12_in (by omega) _ _ _, ?_⟩⟩
  · rintro ⟨m, j, h1, -, h2, -⟩
    rw [if_pos ⟨m, h1, h2⟩] at h
    exact absurd h (by decide)
  rintro v2 M2 ⟨rfl, rfl⟩
  refine ⟨fun h2 => ?_, fun h2 => bX12_trace_18 ⟨_, rfl, rfl, mK.rfl _, Or.inr ⟨?_, rfl⟩⟩⟩
  rotate_left
  · rintro ⟨m, j, -, q1, -, q2⟩
    rw [if_pos (hin.mpr ⟨j, by omega, by omega, q2⟩)] at h2
    exact absurd h2 (by decide)
  obtain ⟨m, hm, rfl⟩ : ∃ k, k ≤ n ∧ u = nI k := Classical.byContradiction fun q => h (if_neg q)
  obtain ⟨j, -, hj, rfl⟩ := hin.mp (Classical.byContradiction fun q => h2 (if_neg q))
  have hlen := zsec_len n hn m (by omega)
  refine ⟨_, kX12_laysSector (by omega) hH hw hm, ?_⟩
  rintro M3 ⟨hL, hK3, -⟩
  have hmem : ∀ k, k < (zsec n m).length → M3 143 k = nI ((zsec n m).getD k 0) ∧ (zsec n m).getD k 0 < 2 ^ n := by
    intro k hk
    have hq : (zsec n m)[k]? = some (zsec n m)[k] := List.getElem?_eq_getElem hk
    have hg : (zsec n m).getD k 0 = (zsec n m)[k] := by rw [List.getD_eq_getElem?_getD, hq]; rfl
    rw [hg]
    exact ⟨hL.2 k _ hq, (zfl_mem hq).1⟩
  generalize hGe : zS p n (zbd n r) e = G
  have hTr : zTr p n (zbd n r) e m j = zs (fun k => zit G j (zu ((zsec n m).getD k 0)) ((zsec n m).getD k 0)) (zsec n m).length % p := by unfold zTr; rw [hGe]
  generalize zsec n m = L at hL hmem hTr hlen
  let F : Nat → Nat := fun k => zit G j (zu (L.getD k 0)) (L.getD k 0)
  have hGlt : ∀ i a, ∀ y, y < 2 ^ n → zit G i (zu a) y < p := fun i a => by rw [← hGe]; exact zit_lt (by omega) (fun y _ => zu_lt (by omega))
  have key := a_loop (σ := a_M) (fun k M' => wX12_trace X ad ca d x (q_i (PT x) (fun s M' => mK M2 M' ∧ rTrace p n (zbd n r) e (nI m) (nI j) s)) 30 [(0, .ref 118), (2, .int (nI j)), (3, .int (nI (zs F k % p))), (4, .int (nI k))] M') (fun k M' => ∀ o, o ≠ 140 → o ≠ 141 → M' o = M3 o) L.length ?_ ?_ 0 M3 (Nat.zero_le _) (fun _ _ _ => rfl)
  · rw [show zs F 0 % p = 0 from Nat.zero_mod p] at key
    exact key
  · intro M4 q
    refine bX12_trace_30 _ _ _ ?_
    rw [q 118 (by decide) (by decide), hL.1]
    refine ⟨fun _ => ⟨_, rfl, rfl, hK3.trans ⟨fun o q1 q2 => q o (by omega) (by omega), fun j _ => by rw [q 118 (by decide) (by decide)]⟩, Or.inl ⟨m, j, hm, by omega, rfl, rfl, by rw [hTr]⟩⟩, fun h => absurd (nI_le (Nat.le_refl _) (by omega)) h⟩
  · intro k M4 hk q ih
    have hmk := hmem k hk
    have hK4 : mK M2 M4 := hK3.trans ⟨fun o q1 q2 => q o (by omega) (by omega), fun j _ => by rw [q 118 (by decide) (by decide)]⟩
    refine bX12_trace_30 _ _ _ ?_
    rw [q 118 (by decide) (by decide), hL.1, n_cl (by omega), q 143 (by decide) (by decide), hmk.1]
    refine ⟨fun h => absurd h (nI_ge hk (by omega)), fun _ => ⟨n_in (by omega) (by omega), _, kX12_unit2 (by omega) hmk.2 hn (show 1 < p by omega), ?_⟩⟩
    rintro M5 ⟨a1, a2⟩
    refine a_loop (σ := a_M) (fun i M' => wX12_trace X ad ca d x _ 53 [(0, .ref 118), (2, .int (nI j)), (3, .int (nI (zs F k % p))), (4, .int (nI k)), (5, .int (nI i))] M') (fun i M' => (∀ y, y < 2 ^ n → M' 140 y = nI (zit G i (zu (L.getD k 0)) y)) ∧ ∀ o, o ≠ 140 → o ≠ 141 → M' o = M3 o) j ?_ ?_ 0 M5 (Nat.zero_le _) ⟨fun y hy => (a1 y hy).1, fun o h1 h2 => (a2 o h1).trans (q o h1 h2)⟩
    · rintro M6 ⟨b1, b2⟩
      have hF : F k < p := hGlt j _ _ hmk.2
      have hz : zs F k % p < p := Nat.mod_lt _ (by omega)
      refine bX12_trace_53 _ _ _ _ ⟨fun _ => ?_, fun h => absurd (nI_le (Nat.le_refl _) (by omega)) h⟩
      rw [n_cl (by omega), b2 143 (by decide) (by decide), hmk.1, n_cl (by omega), b1 _ hmk.2, b2 119 (by decide) (by decide), (hH.K hK3).2.2.1]
      refine ⟨n_in (by omega) (by omega), n_in (by omega) (by omega), nI_ne0 (by omega) (by omega), ?_⟩
      rw [nI_add, show zit G j (zu (L.getD k 0)) (L.getD k 0) = F k from rfl, n_rem (by omega) (by omega) (by omega), Nat.mod_add_mod, ← nI_succ]
      exact ih M6 b2
    · rintro i M6 hi ⟨b1, b2⟩ ih2
      have hK6 : mK M2 M6 := hK3.trans ⟨fun o q1 q2 => b2 o (by omega) (by omega), fun j _ => by rw [b2 118 (by decide) (by decide)]⟩
      refine bX12_trace_53 _ _ _ _ ⟨fun h => absurd h (nI_ge hi (by omega)), fun _ => ⟨_, kX12_sums (by omega) (hH.K hK6) hw (fun y hy => ⟨b1 y hy, hGlt i _ y hy⟩), ?_⟩⟩
      rintro M7 ⟨c1, c2⟩
      rw [← nI_succ]
      refine ih2 M7 ⟨fun y hy => ?_, fun o h1 h2 => (c2 o h1 h2).trans (b2 o h1 h2)⟩
      rw [c1 y (by omega), hGe]
      rfl
theorem kX12_oftenOf (hd : 1 ≤ d) {p D a : Nat} {Q : Nat → Nat → Nat} (hP : M 119 2 = nI p) (hp : p ∈ zpl) (hD : D ≤ 35) (h44 : M 118 44 = nI D) (hQ : mPo M Q) (hQp : ∀ i z, Q i z < p) (ha : a < p) :
    mX12_oftenOf X ad ca d x [.ref 118, .int (nI a)] M (q_i (PT x) (fun s M' => s = nI (zof p a D (Q D)) ∧ ∀ o, o ≠ 147 → M' o = M o)) := by
  obtain ⟨d, rfl⟩ := a_d1 (show 1 ≤ d by omega)
  have hpb := zpl_b p hp
  have hp0 : 0 < p := by omega
  generalize hPost : q_i (PT x) (fun s M' => s = nI (zof p a D (Q D)) ∧ ∀ o, o ≠ 147 → M' o = M o) = Post
  refine eX12_oftenOf _ (bX12_oftenOf_0 _ ?_)
  have key := a_loop (σ := Unit) (fun i _ => wX12_oftenOf X ad ca d x Post 2 [(0, .ref 118), (1, .int (nI a)), (2, .int (nI i))] (mf M 147 0 (fun i => nI (Q D i)) i)) (fun _ _ => True) 36 ?_ ?_ 0 () (Nat.zero_le _) trivial
  · rw [mf_0] at key; exact key
  rotate_left
  · intro i _ hi _ ih
    have e1 : 36 * nI D + nI i = nI (36 * D + i) := by rw [fa_lit 36, n_mul, nI_add]
    refine bX12_oftenOf_2 _ _ ⟨fun h => absurd h (nI_ge (b := 36) hi (by omega)), fun _ => ?_⟩
    rw [mf_no _ _ _ _ _ _ (show 118 ≠ 147 by decide), h44, e1, n_cl (by omega), n_cl (by omega), mf_no _ _ _ _ _ _ (show 146 ≠ 147 by decide)]
    refine ⟨n_in (by omega) (by omega), n_in hi (by omega), ?_⟩
    rw [mf_s (Nat.zero_le _) (by rw [hQ D i (by omega) hi]), ← nI_succ]
    exact ih () trivial
  intro _ _
  refine bX12_oftenOf_2 _ _ ⟨fun _ => ?_, fun h => absurd (nI_le (Nat.le_refl 36) (by omega)) h⟩
  rw [mf_no _ _ _ _ _ _ (show 118 ≠ 147 by decide), h44]
  -- the divisions
  have main : ∀ (E : Nat) (c : Nat → Nat) (n0 : Nat) (M' : a_M), E ≤ 35 → (∀ i, i ≤ E → M' 147 i = nI (c i) ∧ c i < p) → (∀ o, o ≠ 147 → M' o = M o) → n0 + zof p a E c = zof p a D (Q D) → wX12_oftenOf X ad ca d x Post 41 [(0, .ref 118), (1, .int (nI a)), (2, .int (nI E)), (3, .int (nI n0))] M' := by
    intro E
    induction E with
    | zero =>
      intro c n0 M' _ hc hf hz
      refine bX12_oftenOf_41 _ _ _ ⟨fun _ => ?_, fun h => absurd (by decide) h⟩
      rw [← hPost]
      exact ⟨_, rfl, rfl, by rw [← hz]; rfl, hf⟩
    | succ E ih =>
      intro c n0 M' hE hc hf hz
      refine bX12_oftenOf_41 _ _ _ ⟨fun h => absurd h (nI_ge (a := 0) (by omega) (by omega)), fun _ => ?_⟩
      have key := a_loop (σ := a_M) (fun t M' => wX12_oftenOf X ad ca d x Post 51 [(0, .ref 118), (1, .int (nI a)), (2, .int (nI (E + 1))), (3, .int (nI n0)), (4, .int (nI (zhr p a c (E + 1) t))), (5, .int (nI (E + 2 - t) - 1))] M') (fun t M' => (∀ i, i ≤ E + 1 → M' 147 i = nI (if E + 1 < i + t then zhr p a c (E + 1) (E + 1 - i) else c i)) ∧ ∀ o, o ≠ 147 → M' o = M o) (E + 2) ?_ ?_ 0 M' (Nat.zero_le _) ⟨fun i hi => by rw [if_neg (by omega)]; exact (hc i hi).1, hf⟩
      · rw [Nat.sub_zero, show nI (E + 2) - 1 = nI (E + 1) from nI_pred (E + 1)] at key
        exact key
      · rintro M2 ⟨q1, q2⟩
        have hv := zhr_lt (x := a) (c := c) (D := E + 1) hp0 (E + 2)
        rw [Nat.sub_self]
        refine bX12_oftenOf_51 _ _ _ _ _ ⟨fun _ => ⟨fun h0 => ?_, fun h0 => ?_⟩, fun h => absurd (by decide) h⟩
        · have h1 : zhr p a c (E + 1) (E + 2) = 0 := (nI_eq (b := 0) (by omega) (by omega)).mp h0
          have e1 : nI (E + 1) + -1 = nI E := by
            rw [show nI (E + 1) + -1 = nI (E + 1) - 1 by grind, nI_pred]
          rw [e1, ← nI_succ]
          refine ih (fun i => zhr p a c (E + 1) (E + 1 - i)) (n0 + 1) M2 (by omega) (fun i hi => ⟨?_, zhr_lt hp0 _⟩) q2 ?_
          · rw [q1 i (by omega), if_pos (by omega)]
          · rw [← hz]
            show _ = n0 + (if zhr p a c (E + 1) (E + 2) = 0 then zof p a E (fun i => zhr p a c (E + 1) (E + 1 - i)) + 1 else 0)
            rw [if_pos h1]
            omega
        · have h1 : zhr p a c (E + 1) (E + 2) ≠ 0 := fun q => h0 (by rw [q]; rfl)
          rw [← hPost]
          refine ⟨_, rfl, rfl, ?_, q2⟩
          rw [← hz]
          show nI n0 = nI (n0 + (if zhr p a c (E + 1) (E + 2) = 0 then zof p a E (fun i => zhr p a c (E + 1) (E + 1 - i)) + 1 else 0))
          rw [if_neg h1, Nat.add_zero]
      · rintro t M2 ht ⟨q1, q2⟩ ih2
        have hv := zhr_lt (x := a) (c := c) (D := E + 1) hp0 t
        have e1 : nI (E + 2 - t) - 1 = nI (E + 1 - t) := by
          rw [show nI (E + 2 - t) - 1 = nI (E + 2 - t - 1) from pk_sub (b := 1) (by omega)]
          congr 1
          omega
        have e2 : nI (E + 1 - t) + -1 = nI (E + 2 - (t + 1)) - 1 := by
          rw [show E + 2 - (t + 1) = E + 1 - t by omega]
          grind
        have hci := q1 (E + 1 - t) (by omega)
        rw [if_neg (by omega)] at hci
        have hcl := (hc (E + 1 - t) (by omega)).2
        have hva := n_p2 hv ha (by omega)
        rw [e1]
        refine bX12_oftenOf_51 _ _ _ _ _ ⟨fun h => absurd h (nI_nlt (b := 0) (Nat.zero_le _) (by omega)), fun _ => ?_⟩
        rw [n_cl (by omega), hci, q2 119 (by decide), hP, n_mul, nI_add, n_rem (by omega) hp0 (by omega), e2]
        refine ⟨n_in (by omega) (by omega), n_in (by omega) (by omega), nI_ne0 hp0 (by omega), ?_⟩
        refine ih2 _ ⟨fun i hi => ?_, fun o ho => by rw [ms_row _ _ _ _ _ ho]; exact q2 o ho⟩
        by_cases ei : i = E + 1 - t
        · subst ei
          rw [ms_is, if_pos (by omega)]
          congr 2
          omega
        · rw [ms_no _ _ _ _ _ _ (by omega), q1 i hi]
          congr 1
          by_cases e3 : E + 1 < i + t
          · rw [if_pos e3, if_pos (by omega)]
          · rw [if_neg e3, if_neg (by omega)]
  exact main D (Q D) 0 _ hD (fun i hi => ⟨mf_in _ _ _ _ _ _ (Nat.zero_le _) (by omega), hQp D i⟩) (fun o ho => mf_no _ _ _ _ _ _ ho) (Nat.zero_add _)
theorem kX12_laysOwn (hd : 4 ≤ d) {n r p t e m e' r' : Nat} (hH : mH M n r p t e) (hw : wH n r p t e) (hm : m ≤ n) (he : e' < p) (hr : r' ≤ 1) :
    mX12_laysOwn X ad ca d x [.ref 118, .int (nI m), .int (nI e'), .int (nI r')] M (q_v (PT x) (fun M' => M' 118 44 = nI (zsec n m).length ∧ mPo M' (zQ p (zbn p (zsec n m).length (zA p n (zbd n r') e' (zsec n m))) (zsec n m).length) ∧ mK M M')) := by
  obtain ⟨d, rfl⟩ := a_d1 (show 1 ≤ d by omega)
  have hlen := zsec_len n hw.1 m (by have := hw.1; omega)
  refine eX12_laysOwn _ _ _ (bX12_laysOwn_0 _ _ _ ⟨_, kX12_laysSquare (by omega) hH hw hm he hr, ?_⟩)
  rintro M1 ⟨h1, h2⟩
  refine ⟨_, kX12_laysPoly (by omega) hw.2.2.2.1 (hH.K h2).2.2.1 hlen h1, ?_⟩
  rintro M2 ⟨h3, h4⟩
  exact ⟨rfl, rfl, by rw [h4 118 (by decide) (by decide)]; exact h1.1, h3, h2.trans ⟨fun o q1 q2 => h4 o (by omega) (by omega), fun j _ => by rw [h4 118 (by decide) (by decide)]⟩⟩
theorem kX12_often (hd : 5 ≤ d) {n r p t e : Nat} (hH : mH M n r p t e) (hw : wH n r p t e) (u w : Int32) : mX12_often X ad ca d x [.ref 118, .int u, .int w] M (q_i (PT x) (fun s M' => mK M M' ∧ rOften p n (zbd n r) e u w s)) := by
  obtain ⟨d, rfl⟩ := a_d1 (show 1 ≤ d by omega)
  have hn := hw.1
  have hpb := zpl_b p hw.2.2.2.1
  refine eX12_often _ _ (bX12_often_0 _ _ ⟨_, kX12_isSector (by omega) _ hH.1 hn, ?_⟩)
  rintro v1 M1 ⟨rfl, rfl⟩
  refine ⟨fun h => bX12_often_16 ⟨_, rfl, rfl, mK.rfl _, Or.inr ⟨?_, rfl⟩⟩, fun h => ⟨_, kX12_isNumber (by omega) _ hH.2.2.1 (by omega) (by omega), ?_⟩⟩
  · rintro ⟨m, j, h1, -, h2, -⟩
    rw [if_pos ⟨m, h1, h2⟩] at h
    exact absurd h (by decide)
  rintro v2 M2 ⟨rfl, rfl⟩
  refine ⟨fun h2 => ?_, fun h2 => bX12_often_16 ⟨_, rfl, rfl, mK.rfl _, Or.inr ⟨?_, rfl⟩⟩⟩
  rotate_left
  · rintro ⟨m, j, -, q1, -, q2⟩
    rw [if_pos ⟨j, q1, q2⟩] at h2
    exact absurd h2 (by decide)
  obtain ⟨m, hm, rfl⟩ : ∃ k, k ≤ n ∧ u = nI k := Classical.byContradiction fun q => h (if_neg q)
  obtain ⟨a, ha, rfl⟩ : ∃ k, k < p ∧ w = nI k := Classical.byContradiction fun q => h2 (if_neg q)
  have hlen := zsec_len n hn m (by omega)
  have hgo : ∀ r', r' ≤ 1 → r' = r → ∃ Q : a_M → Prop, mX12_laysOwn X ad ca d x [.ref 118, .int (nI m), .int (M2 119 4), .int (nI r')] M2 (q_v (PT x) Q) ∧ ∀ M3, Q M3 → ∃ Q4 : Int32 → a_M → Prop, mX12_oftenOf X ad ca d x [.ref 118, .int (nI a)] M3 (q_i (PT x) Q4) ∧ ∀ v4 M4, Q4 v4 M4 → q_i (PT x) (fun s M' => mK M2 M' ∧ rOften p n (zbd n r) e (nI m) (nI a) s) (some (.int v4)) M4 (PT x) := by
    rintro r' hr' rfl
    rw [hH.2.2.2.2]
    refine ⟨_, kX12_laysOwn (by omega) hH hw hm hw.2.2.2.2.2.2 hr', ?_⟩
    rintro M3 ⟨a1, a2, a3⟩
    refine ⟨_, kX12_oftenOf (by omega) (hH.K a3).2.2.1 hw.2.2.2.1 hlen a1 a2 (fun i z => zQ_lt (by omega) _ i z) ha, ?_⟩
    rintro v4 M4 ⟨rfl, b2⟩
    exact ⟨_, rfl, rfl, a3.trans ⟨fun o q1 q2 => b2 o (by omega), fun j _ => by rw [b2 118 (by decide)]⟩, Or.inl ⟨m, a, hm, ha, rfl, rfl, rfl⟩⟩
  have hr := hw.2.2.1
  refine ⟨fun hq => ?_, fun hq => ?_⟩
  · have : r = 0 := by
      rcases (show r = 0 ∨ r = 1 by omega) with q | q
      · exact q
      · exact absurd (by rw [hH.2.1, q]; rfl) hq
    exact hgo 0 (by omega) this.symm
  · have : r = 1 := by
      rw [hH.2.1] at hq
      exact (nI_eq (b := 1) (by omega) (by omega)).mp hq
    exact hgo 1 (by omega) this.symm
theorem n_m1_or {w : Int32} (h : -1 ≤ w) : w = -1 ∨ ∃ i, i < 2 ^ 31 ∧ w = nI i := by
  rw [fa_le] at h
  have h5 : (-1 : Int32).toInt = -1 := by decide
  rw [h5] at h
  have h6 : w.toInt < 2 ^ 31 := Int32.toInt_lt w
  rcases (show w.toInt = -1 ∨ 0 ≤ w.toInt by omega) with q | q
  · exact Or.inl ((fa_eq _ _).mpr (by rw [h5]; exact q))
  · exact Or.inr ⟨w.toInt.toNat, by omega, (fa_eq _ _).mpr (by rw [nI_toInt (by omega)]; omega)⟩
theorem kX12_own (hd : 5 ≤ d) {n r p t e : Nat} (hH : mH M n r p t e) (hw : wH n r p t e) (u w : Int32) : mX12_own X ad ca d x [.ref 118, .int u, .int w] M (q_i (PT x) (fun s M' => mK M M' ∧ rOwn p n (zbd n r) e u w s)) := by
  obtain ⟨d, rfl⟩ := a_d1 (show 1 ≤ d by omega)
  have hn := hw.1
  have hpb := zpl_b p hw.2.2.2.1
  refine eX12_own _ _ (bX12_own_0 _ _ ⟨_, kX12_isSector (by omega) _ hH.1 hn, ?_⟩)
  rintro v1 M1 ⟨rfl, rfl⟩
  refine ⟨fun h => bX12_own_13 ⟨_, rfl, rfl, mK.rfl _, Or.inr ⟨?_, rfl⟩⟩, fun h => ⟨fun h2 => ?_, fun h2 => bX12_own_13 ⟨_, rfl, rfl, mK.rfl _, Or.inr ⟨?_, rfl⟩⟩⟩⟩
  · rintro ⟨m, h1, h2, -⟩
    rw [if_pos ⟨m, h1, h2⟩] at h
    exact absurd h (by decide)
  rotate_left
  · rintro ⟨m, -, -, q⟩; exact h2 q
  obtain ⟨m, hm, rfl⟩ : ∃ k, k ≤ n ∧ u = nI k := Classical.byContradiction fun q => h (if_neg q)
  have hlen := zsec_len n hn m (by omega)
  have hgo : ∀ r', r' ≤ 1 → r' = r → ∃ Q : a_M → Prop, mX12_laysOwn X ad ca d x [.ref 118, .int (nI m), .int (M1 119 4), .int (nI r')] M1 (q_v (PT x) Q) ∧ ∀ M3, Q M3 → wX12_own X ad ca d x (q_i (PT x) (fun s M' => mK M1 M' ∧ rOwn p n (zbd n r) e (nI m) w s)) 46 [(0, .ref 118), (2, .int w), (3, .int 0), (4, .int 0)] M3 := by
    rintro r' hr' rfl
    rw [hH.2.2.2.2]
    refine ⟨_, kX12_laysOwn (by omega) hH hw hm hw.2.2.2.2.2.2 hr', ?_⟩
    rintro M3 ⟨a1, a2, a3⟩
    have hQp : ∀ i z, zQ p (zbn p (zsec n m).length (zA p n (zbd n r') e (zsec n m))) (zsec n m).length i z < p := fun i z => zQ_lt (by omega) _ i z
    let f : Nat → Bool := zof1 p (zsec n m).length (zPs p n (zbd n r') e m)
    have hfl : ∀ i, (zfl f i).length ≤ i := by
      intro i
      induction i with
      | zero => exact Nat.le_refl _
      | succ i ih => rw [zfl_len]; split <;> omega
    refine a_loop (σ := a_M) (fun i M' => wX12_own X ad ca d x _ 46 [(0, .ref 118), (2, .int w), (3, .int (nI (zfl f i).length)), (4, .int (nI i))] M') (fun i M' => (∀ k, w = nI k → k < 2 ^ 31 → (zfl f i).length ≤ k) ∧ ∀ o, o ≠ 147 → M' o = M3 o) p ?_ ?_ 0 M3 (Nat.zero_le _) ⟨fun k _ _ => Nat.zero_le k, fun _ _ => rfl⟩
    · rintro M4 ⟨q1, q2⟩
      have hK4 : mK M1 M4 := a3.trans ⟨fun o p1 p2 => q2 o (by omega), fun j _ => by rw [q2 118 (by decide)]⟩
      refine bX12_own_46 _ _ _ ?_
      rw [(hH.K hK4).2.2.1]
      refine ⟨fun _ => ⟨fun h3 => ⟨_, rfl, rfl, hK4, Or.inl ⟨m, hm, rfl, h2, Or.inr ?_⟩⟩, fun h3 => ⟨_, rfl, rfl, hK4, Or.inl ⟨m, hm, rfl, h2, Or.inl ⟨h3, rfl⟩⟩⟩⟩, fun h => absurd (nI_le (Nat.le_refl _) (by omega)) h⟩
      rcases n_m1_or h2 with q | ⟨i, hi, q⟩
      · exact absurd q h3
      · refine ⟨i, q, hi, ?_⟩
        have := q1 i q hi
        rw [List.getElem?_eq_none this]
    · rintro i M4 hi ⟨q1, q2⟩ ih
      have hK4 : mK M1 M4 := a3.trans ⟨fun o p1 p2 => q2 o (by omega), fun j _ => by rw [q2 118 (by decide)]⟩
      have hlf := hfl i
      refine bX12_own_46 _ _ _ ?_
      rw [(hH.K hK4).2.2.1]
      refine ⟨fun h => absurd h (nI_ge hi (by omega)), fun _ => ⟨_, kX12_oftenOf (by omega) (hH.K hK4).2.2.1 hw.2.2.2.1 hlen (by rw [q2 118 (by decide)]; exact a1) (fun i z hi hz => by rw [q2 146 (by decide)]; exact a2 i z hi hz) hQp hi, ?_⟩⟩
      rintro v5 M5 ⟨rfl, b2⟩
      have hfr : ∀ o, o ≠ 147 → M5 o = M3 o := fun o ho => (b2 o ho).trans (q2 o ho)
      have hzo := zof_le p i (zsec n m).length (zPs p n (zbd n r') e m)
      refine ⟨fun h0 => bX12_own_77 _ _ _ ?_, fun h0 => ?_⟩
      · have hf : f i = false := by
          simp only [f, zof1]
          rw [decide_eq_false_iff_not]
          intro q
          exact absurd h0 (nI_ge (a := 0) q (by show zof p i (zsec n m).length (zPs p n (zbd n r') e m) < _; omega))
        rw [← nI_succ]
        have := ih M5 ⟨fun k hk hk2 => ?_, hfr⟩
        · rw [zfl_len, hf] at this
          exact this
        · rw [zfl_len, hf]; exact q1 k hk hk2
      · have hf : f i = true := by
          simp only [f, zof1]
          rw [decide_eq_true_eq]
          rcases Nat.eq_zero_or_pos (zof p i (zsec n m).length (zPs p n (zbd n r') e m)) with q | q
          · exact absurd (by show nI (zof p i (zsec n m).length (zPs p n (zbd n r') e m)) ≤ 0; rw [q]; decide) h0
          · exact q
        refine ⟨fun h3 => bX12_own_77 _ _ _ ?_, fun h3 => ⟨_, rfl, rfl, a3.trans ⟨fun o p1 p2 => hfr o (by omega), fun j _ => by rw [hfr 118 (by decide)]⟩, Or.inl ⟨m, hm, rfl, h2, Or.inr ⟨(zfl f i).length, h3.symm, by omega, ?_⟩⟩⟩⟩
        · rw [← nI_succ, ← nI_succ]
          have := ih M5 ⟨fun k hk hk2 => ?_, hfr⟩
          · rw [zfl_len, hf] at this
            exact this
          · rw [zfl_len, hf]
            have h4 := q1 k hk hk2
            have h5 : (zfl f i).length ≠ k := fun q => h3 (by rw [hk, q])
            simp only [if_true]
            omega
        · have := zfl_at (f := f) hi hf
          show nI i = match (zfl f p)[(zfl f i).length]? with | some a => nI a | none => -1
          rw [this]
  have hr := hw.2.2.1
  refine ⟨fun hq => ?_, fun hq => ?_⟩
  · have : r = 0 := by
      rcases (show r = 0 ∨ r = 1 by omega) with q | q
      · exact q
      · exact absurd (by rw [hH.2.1, q]; rfl) hq
    exact hgo 0 (by omega) this.symm
  · have : r = 1 := by
      rw [hH.2.1] at hq
      exact (nI_eq (b := 1) (by omega) (by omega)).mp hq
    exact hgo 1 (by omega) this.symm
theorem kX12_poly (hd : 6 ≤ d) {n r p t e : Nat} (hH : mH M n r p t e) (hw : wH n r p t e) (u w i : Int32) : mX12_poly X ad ca d x [.ref 118, .int u, .int w, .int i] M (q_i (PT x) (fun s M' => mK M M' ∧ rPoly p n r e u w i s)) := by
  obtain ⟨d, rfl⟩ := a_d1 (show 1 ≤ d by omega)
  have hn := hw.1
  have hpb := zpl_b p hw.2.2.2.1
  have hr := hw.2.2.1
  refine eX12_poly _ _ _ (bX12_poly_0 _ _ _ ⟨_, kX12_isSector (by omega) _ hH.1 hn, ?_⟩)
  rintro v1 M1 ⟨rfl, rfl⟩
  have hno : ¬ (zHt n p u w ∧ (w = -1 ∨ r = 1)) → wX12_poly X ad ca d x (q_i (PT x) (fun s M' => mK M1 M' ∧ rPoly p n r e u w i s)) 30 [] M1 := fun h => bX12_poly_30 ⟨_, rfl, rfl, mK.rfl _, Or.inr ⟨h, rfl⟩⟩
  refine ⟨fun h => hno ?_, fun h => ?_⟩
  · rintro ⟨⟨m, h1, h2, -⟩, -⟩
    rw [if_pos ⟨m, h1, h2⟩] at h
    exact absurd h (by decide)
  obtain ⟨m, hm, rfl⟩ : ∃ k, k ≤ n ∧ u = nI k := Classical.byContradiction fun q => h (if_neg q)
  -- from the square on
  have h72 : ∀ (D : Nat) (A : Nat → Nat → Nat) (M2 : a_M), D ≤ 35 → mK M1 M2 → mQ M2 D p A → (∀ s, zcf D (zP p D A) i s → rPoly p n r e (nI m) w i s) → wX12_poly X ad ca d x (q_i (PT x) (fun s M' => mK M1 M' ∧ rPoly p n r e (nI m) w i s)) 72 [(0, .ref 118), (3, .int i)] M2 := by
    intro D A M2 hD hK hQ hrel
    have hin : ((0 : Int32) ≤ i ∧ i ≤ M2 118 44) ↔ ∃ k, 0 ≤ k ∧ k ≤ D ∧ i = nI k := n_btw (a := 0) (b := D) rfl hQ.1 (by omega) (by omega)
    refine bX12_poly_72 _ ⟨_, kX12_in (by omega) _ _ _, ?_⟩
    rintro v3 M3 ⟨rfl, rfl⟩
    refine ⟨fun h3 => ⟨_, kX12_laysPoly (by omega) hw.2.2.2.1 (hH.K hK).2.2.1 hD hQ, ?_⟩, fun h3 => ⟨_, rfl, rfl, hK, hrel _ (Or.inr ⟨?_, rfl⟩)⟩⟩
    · obtain ⟨z, -, hz, rfl⟩ := hin.mp (Classical.byContradiction fun q => h3 (if_neg q))
      rintro M4 ⟨a1, a2⟩
      have e1 : 36 * nI D + nI z = nI (36 * D + z) := by rw [fa_lit 36, n_mul, nI_add]
      rw [a2 118 (by decide) (by decide), hQ.1, e1, n_cl (by omega), a1 D z (by omega) (by omega)]
      exact ⟨n_in (by omega) (by omega), _, rfl, rfl, hK.trans ⟨fun o p1 p2 => a2 o (by omega) (by omega), fun j _ => by rw [a2 118 (by decide) (by decide)]⟩, hrel _ (Or.inl ⟨z, hz, rfl, rfl⟩)⟩
    · rintro ⟨z, hz, hq⟩
      rw [if_pos (hin.mpr ⟨z, by omega, hz, hq⟩)] at h3
      exact absurd h3 (by decide)
  refine ⟨fun h2 => bX12_poly_32 _ _ _ ⟨fun h3 => absurd h2 h3, fun _ => ?_⟩, fun h2 => ⟨_, kX12_isTurn (by omega) hH hw, ?_⟩⟩
  · have hgo : ∀ r', r' ≤ 1 → r' = r → ∃ Q : a_M → Prop, mX12_laysSquare X ad ca d x [.ref 118, .int (nI m), .int (M1 119 4), .int (nI r')] M1 (q_v (PT x) Q) ∧ ∀ M3, Q M3 → wX12_poly X ad ca d x (q_i (PT x) (fun s M' => mK M1 M' ∧ rPoly p n r e (nI m) w i s)) 72 [(0, .ref 118), (3, .int i)] M3 := by
      rintro r' hr' rfl
      rw [hH.2.2.2.2]
      refine ⟨_, kX12_laysSquare (by omega) hH hw hm hw.2.2.2.2.2.2 hr', ?_⟩
      rintro M3 ⟨a1, a2⟩
      exact h72 _ _ M3 (zsec_len n hn m (by omega)) a2 a1 (fun s hs => Or.inl ⟨m, hm, rfl, Or.inl ⟨h2, hs⟩⟩)
    refine ⟨fun hq => ?_, fun hq => ?_⟩
    · have : r = 0 := by
        rcases (show r = 0 ∨ r = 1 by omega) with q | q
        · exact q
        · exact absurd (by rw [hH.2.1, q]; rfl) hq
      exact hgo 0 (by omega) this.symm
    · have : r = 1 := by
        rw [hH.2.1] at hq
        exact (nI_eq (b := 1) (by omega) (by omega)).mp hq
      exact hgo 1 (by omega) this.symm
  rintro v2 M2 ⟨rfl, hv⟩
  refine ⟨fun h3 => hno ?_, fun h3 => ?_⟩
  · rintro ⟨⟨m', -, -, q | q⟩, -⟩
    · exact h2 q
    · rcases hv with ⟨q2, -⟩ | ⟨-, q2⟩
      · rw [q2] at h3; exact absurd h3 (by decide)
      · exact q2 q
  rcases hv with ⟨-, k, hk, rfl, hz⟩ | ⟨q, -⟩
  · rw [hH.2.1]
    refine ⟨fun hq => bX12_poly_32 _ _ _ ⟨fun _ => ?_, fun h4 => absurd h4 h2⟩, fun hq => hno ?_⟩
    · have hr1 : r = 1 := by
        rcases (show r = 0 ∨ r = 1 by omega) with q | q
        · exact absurd (by rw [q]; rfl) hq
        · exact q
      cases hω : zrt n p with
      | none => rw [hω] at hz; exact absurd hz (by decide)
      | some ω =>
        refine ⟨_, kX12_laysTurn (by omega) hH hw hm hk hω, ?_⟩
        rintro M3 ⟨a1, a2⟩
        exact h72 _ _ M3 (zrd_len hn (by omega)) a2 a1 (fun s hs => Or.inl ⟨m, hm, rfl, Or.inr ⟨k, ω, hk, rfl, hω, hr1, hs⟩⟩)
    · rintro ⟨-, q | q⟩
      · exact h2 q
      · rw [q] at hq; exact absurd hq (by decide)
  · exact absurd q h3
end Z26
