/-! CONTRACTS 20: weight, feed, end, fault, about, root, mean on the reference's side -/
def rWeight (p t e : Nat) (T : zTx) (w u s : Int32) : Prop := (∃ a k, a < 3 ∧ k < p ∧ w = nI a ∧ u = nI k ∧ s = nI (zW T p t e a k)) ∨ ((¬ ∃ a k, a < 3 ∧ k < p ∧ w = nI a ∧ u = nI k) ∧ s = -1)
/-- the tape: its length, its bytes before they are cut -/
def mTp (M : a_M) (tl : Nat) (B : Nat → Int32) : Prop := M 118 3 = nI tl ∧ tl ≤ 300 ∧ ∀ i, i < tl → M 121 i = (B i).toInt8.toInt32
def cTp (M : a_M) (tl : Nat) (B : Nat → Int32) : Prop := M 1 3 = nI tl ∧ tl ≤ 300 ∧ ∀ i, i < tl → M 2 i = B i &&& 255
def zput (B : Nat → Int32) (tl : Nat) (f : Int32) : Nat → Int32 := va_up (va_up (va_up (va_up B tl (f >>> ((24 : Int32) &&& 31))) (tl + 1) (f >>> ((16 : Int32) &&& 31))) (tl + 2) (f >>> ((8 : Int32) &&& 31))) (tl + 3) (f >>> ((0 : Int32) &&& 31))
def zfeed (B : Nat → Int32) (tl : Nat) (a b c d e : Int32) : Nat → Int32 := zput (zput (zput (zput (zput B tl a) (tl + 4) b) (tl + 8) c) (tl + 12) d) (tl + 16) e
def rFeed (tl : Nat) (B : Nat → Int32) (a b c d e s : Int32) (tl' : Nat) (B' : Nat → Int32) : Prop := (tl ≤ 280 ∧ s = nI (tl + 20) ∧ tl' = tl + 20 ∧ B' = zfeed B tl a b c d e) ∨ (280 < tl ∧ s = -1 ∧ tl' = tl ∧ B' = B)
def rEnd (tl : Nat) (u s : Int32) (tl' : Nat) : Prop := (∃ k, k ≤ tl ∧ u = nI k ∧ s = u ∧ tl' = k) ∨ ((¬ ∃ k, k ≤ tl ∧ u = nI k) ∧ s = -1 ∧ tl' = tl)
def rFault (fa fb u s : Int32) : Prop := s = if u = 0 then fa else if u = 1 then fb else -1
def rAbout (S : Nat → Nat) (tl : Nat) (u s : Int32) : Prop := (∃ k, k < 10 ∧ u = nI k ∧ s = if k = 6 then nI (S 6) - 1 else if k = 8 then nI (S 8 - S 7) else if k = 9 then nI tl else nI (S k)) ∨ ((¬ ∃ k, k < 10 ∧ u = nI k) ∧ s = -2)
/-- x is a root of order n -/
def zir (n p x : Nat) : Bool := decide (1 ≤ x) && ((List.range n).all fun k => decide (k = 0) || !(x ^ k % p == 1)) && (x ^ n % p == 1)
def zrt (n p : Nat) : Option Nat := zEf (fun y => !zir n p y) p
def zMn (n m r : Nat) : Nat := zs (fun a => if zc a = m then zs (fun i => if zb a i = zb a ((i + r) % n) then 1 else 0) n else 0) (2 ^ n)
def rMean (n : Nat) (u w s : Int32) : Prop := (∃ m r, m ≤ n ∧ 1 ≤ r ∧ r < n ∧ u = nI m ∧ w = nI r ∧ s = nI (zMn n m r)) ∨ ((¬ ∃ m r, m ≤ n ∧ 1 ≤ r ∧ r < n ∧ u = nI m ∧ w = nI r) ∧ s = -1)
/-- an int between two small numbers -/
theorem n_btw {u lo hi : Int32} {a b : Nat} (hl : lo = nI a) (hh : hi = nI b) (hb : b < 2 ^ 31) (ha : a < 2 ^ 31) : (lo ≤ u ∧ u ≤ hi) ↔ ∃ k, a ≤ k ∧ k ≤ b ∧ u = nI k := by
  subst hl; subst hh
  constructor
  · rintro ⟨q1, q2⟩
    rw [fa_le] at q1 q2
    rw [nI_toInt ha] at q1
    rw [nI_toInt hb] at q2
    refine ⟨u.toInt.toNat, by omega, by omega, (fa_eq _ _).mpr ?_⟩
    rw [nI_toInt (by omega)]
    omega
  · rintro ⟨k, h1, h2, rfl⟩
    exact ⟨nI_le h1 (by omega), nI_le h2 hb⟩
theorem mTp.K {M M' : a_M} {tl : Nat} {B : Nat → Int32} (h : mTp M tl B) (hk : mA M M') : mTp M' tl B := ⟨(hk.2 3 (by omega)).trans h.1, h.2.1, fun i hi => by rw [hk.1 121 (by omega) (by omega) (by omega)]; exact h.2.2 i hi⟩
theorem zc_le (a : Nat) : zc a ≤ 7 := by unfold zc; omega
section Z21
variable {X : a_X} {ad : Nat → Nat} {ca : Nat → ClassId} {d x : Nat} {M : a_M} {S : Nat → Nat} {V : Nat → Nat → Nat}
theorem kX12_weight (hd : 5 ≤ d) {k n r p t e : Nat} {T : zTx} (hT : mT M k T) (hH : mH M n r p t e) (hw : wH n r p t e) (u w : Int32) :
    mX12_weight X ad ca d x [.ref 118, .int u, .int w] M (q_i (PT x) (fun s M' => mK M M' ∧ rWeight p t e T u w s)) := by
  obtain ⟨d, rfl⟩ := a_d1 (show 1 ≤ d by omega)
  have hpb := zpl_b p hw.2.2.2.1
  obtain ⟨t1, t2, t3, t4, t5⟩ := hT
  have hin : ((0 : Int32) ≤ u ∧ u ≤ 2) ↔ ∃ k, 0 ≤ k ∧ k ≤ 2 ∧ u = nI k := n_btw (a := 0) (b := 2) rfl rfl (by omega) (by omega)
  refine eX12_weight _ _ (bX12_weight_0 _ _ ⟨_, kX12_in (by omega) _ _ _, ?_⟩)
  rintro v1 M1 ⟨rfl, rfl⟩
  refine ⟨fun h => bX12_weight_26 ⟨_, rfl, rfl, mK.rfl _, Or.inr ⟨?_, rfl⟩⟩, fun h => ⟨_, kX12_isNumber (by omega) _ hH.2.2.1 (by omega) (by omega), ?_⟩⟩
  · rintro ⟨a, k, h1, h2, h3, h4⟩
    rw [if_pos (hin.mpr ⟨a, by omega, by omega, h3⟩)] at h
    exact absurd h (by decide)
  rintro v2 M2 ⟨rfl, rfl⟩
  refine ⟨fun h2 => bX12_weight_26 ⟨_, rfl, rfl, mK.rfl _, Or.inr ⟨?_, rfl⟩⟩, fun h2 => ?_⟩
  · rintro ⟨a, k, q1, q2, q3, q4⟩
    rw [if_pos ⟨k, q2, q4⟩] at h2
    exact absurd h2 (by decide)
  obtain ⟨a, -, ha, rfl⟩ := hin.mp (Classical.byContradiction fun q => h (if_neg q))
  obtain ⟨k, hk, rfl⟩ : ∃ k, k < p ∧ w = nI k := Classical.byContradiction fun q => h2 (if_neg q)
  refine ⟨_, kX12_weightOf (w := a) (by omega) t1 t2 t3 t4 t5 hH hw (by omega) hk, ?_⟩
  rintro v3 M3 ⟨rfl, g⟩
  exact ⟨_, rfl, rfl, ⟨fun o q1 q2 => g o (by omega), fun j _ => by rw [g 118 (by omega)]⟩, Or.inl ⟨a, k, by omega, hk, rfl, rfl, rfl⟩⟩
theorem n_byte (y : Int32) : y.toInt8.toInt32.toInt8.toInt32 = y.toInt8.toInt32 := by
  rw [Int8.toInt8_toInt32]
theorem kX12_put (hd : 1 ≤ d) {tl : Nat} {B : Nat → Int32} {f : Int32} (hT : mTp M tl B) (h4 : tl + 4 ≤ 300) :
    mX12_put X ad ca d x [.ref 118, .int f] M (q_v (PT x) (fun M' => mTp M' (tl + 4) (zput B tl f) ∧ (∀ j, j ≠ 3 → M' 118 j = M 118 j) ∧ ∀ o, o ≠ 118 → o ≠ 121 → M' o = M o)) := by
  obtain ⟨d, rfl⟩ := a_d1 (show 1 ≤ d by omega)
  have e3 : M 118 3 = nI tl := hT.1
  have st : ∀ (M' : a_M) (t : Nat) (k : Int32), M' 118 3 = nI t → t < 300 → ¬ k < 0 → wX12_put X ad ca d x (q_v (PT x) (fun M' => mTp M' (tl + 4) (zput B tl f) ∧ (∀ j, j ≠ 3 → M' 118 j = M 118 j) ∧ ∀ o, o ≠ 118 → o ≠ 121 → M' o = M o)) 3 [(0, .ref 118), (1, .int f), (2, .int (k - 8))] (ms (ms M' 121 t ((f >>> (k &&& 31)).toInt8.toInt32)) 118 3 (nI (t + 1))) → wX12_put X ad ca d x (q_v (PT x) (fun M' => mTp M' (tl + 4) (zput B tl f) ∧ (∀ j, j ≠ 3 → M' 118 j = M 118 j) ∧ ∀ o, o ≠ 118 → o ≠ 121 → M' o = M o)) 3 [(0, .ref 118), (1, .int f), (2, .int k)] M' := by
    intro M' t k h1 h2 h3 h
    refine bX12_put_3 _ _ ⟨fun q => absurd q h3, fun _ => ?_⟩
    rw [h1]
    refine ⟨n_in h2 (by omega), ?_⟩
    rw [n_cl (by omega), n_byte, ← nI_succ]
    exact h
  refine eX12_put _ (bX12_put_0 _ ?_)
  refine st M tl 24 e3 (by omega) (by decide) ?_
  refine st _ (tl + 1) (24 - 8) (by rw [ms_is]) (by omega) (by decide) ?_
  refine st _ (tl + 2) (24 - 8 - 8) (by rw [ms_is]) (by omega) (by decide) ?_
  refine st _ (tl + 3) (24 - 8 - 8 - 8) (by rw [ms_is]) (by omega) (by decide) ?_
  refine bX12_put_3 _ _ ⟨fun _ => ⟨rfl, rfl, ⟨?_, by omega, ?_⟩, ?_, ?_⟩, fun q => absurd (by decide) q⟩
  · rw [ms_is]
  · intro i hi
    unfold zput
    rw [ms_row _ _ _ _ _ (by decide)]
    by_cases e3 : i = tl + 3
    · subst e3; rw [ms_is, vu]; rfl
    rw [ms_no _ _ _ _ _ _ (by omega), vn _ _ _ _ e3, ms_row _ _ _ _ _ (by decide)]
    by_cases e2 : i = tl + 2
    · subst e2; rw [ms_is, vu]; rfl
    rw [ms_no _ _ _ _ _ _ (by omega), vn _ _ _ _ e2, ms_row _ _ _ _ _ (by decide)]
    by_cases e1 : i = tl + 1
    · subst e1; rw [ms_is, vu]; rfl
    rw [ms_no _ _ _ _ _ _ (by omega), vn _ _ _ _ e1, ms_row _ _ _ _ _ (by decide)]
    by_cases e0 : i = tl
    · subst e0; rw [ms_is, vu]
    rw [ms_no _ _ _ _ _ _ (by omega), vn _ _ _ _ e0]
    exact hT.2.2 i (by omega)
  · intro j hj
    rw [ms_no _ _ _ _ _ _ (by omega), ms_row _ _ _ _ _ (by decide), ms_no _ _ _ _ _ _ (by omega), ms_row _ _ _ _ _ (by decide), ms_no _ _ _ _ _ _ (by omega), ms_row _ _ _ _ _ (by decide), ms_no _ _ _ _ _ _ (by omega), ms_row _ _ _ _ _ (by decide)]
  · intro o h1 h2
    rw [ms_row _ _ _ _ _ h1, ms_row _ _ _ _ _ h2, ms_row _ _ _ _ _ h1, ms_row _ _ _ _ _ h2, ms_row _ _ _ _ _ h1, ms_row _ _ _ _ _ h2, ms_row _ _ _ _ _ h1, ms_row _ _ _ _ _ h2]
/-- what feed and end change -/
def mF (M M' : a_M) : Prop := (∀ o, o ≠ 118 → o ≠ 121 → M' o = M o) ∧ ∀ j, j ≠ 3 → M' 118 j = M 118 j
theorem kX12_feed (hd : 2 ≤ d) {tl : Nat} {B : Nat → Int32} (hT : mTp M tl B) (a b c g e : Int32) :
    mX12_feed X ad ca d x [.ref 118, .int a, .int b, .int c, .int g, .int e] M (q_i (PT x) (fun s M' => ∃ tl' B', rFeed tl B a b c g e s tl' B' ∧ mTp M' tl' B' ∧ mF M M')) := by
  obtain ⟨d, rfl⟩ := a_d1 (show 1 ≤ d by omega)
  have htl := hT.2.1
  have e1 : M 118 3 + 20 = nI (tl + 20) := by rw [hT.1, fa_lit 20, nI_add]
  refine eX12_feed _ _ _ _ _ (bX12_feed_0 _ _ _ _ _ ?_)
  rw [e1]
  refine ⟨fun h => ?_, fun h => ⟨_, rfl, rfl, tl, B, Or.inr ⟨?_, rfl, rfl, rfl⟩, hT, ⟨fun _ _ _ => rfl, fun _ _ => rfl⟩⟩⟩
  · have h280 : tl ≤ 280 := by
      rcases Nat.lt_or_ge 280 tl with q | q
      · exact absurd h (nI_ge (a := 300) (by omega) (by omega))
      · exact q
    refine ⟨_, kX12_put (by omega) hT (by omega), ?_⟩
    rintro M1 ⟨a1, a2, a3⟩
    refine ⟨_, kX12_put (by omega) a1 (by omega), ?_⟩
    rintro M2 ⟨b1, b2, b3⟩
    refine ⟨_, kX12_put (by omega) b1 (by omega), ?_⟩
    rintro M3 ⟨c1, c2, c3⟩
    refine ⟨_, kX12_put (by omega) c1 (by omega), ?_⟩
    rintro M4 ⟨d1, d2, d3⟩
    refine ⟨_, kX12_put (by omega) d1 (by omega), ?_⟩
    rintro M5 ⟨e1, e2, e3⟩
    refine ⟨_, rfl, rfl, tl + 20, _, Or.inl ⟨h280, e1.1, rfl, rfl⟩, e1, fun o q1 q2 => ?_, fun j hj => ?_⟩
    · rw [e3 o q1 q2, d3 o q1 q2, c3 o q1 q2, b3 o q1 q2, a3 o q1 q2]
    · rw [e2 j hj, d2 j hj, c2 j hj, b2 j hj, a2 j hj]
  · rcases Nat.lt_or_ge 280 tl with q | q
    · exact q
    · exact absurd (nI_le (b := 300) (by omega) (by omega)) h
theorem kX12_end (hd : 2 ≤ d) {tl : Nat} {B : Nat → Int32} (hT : mTp M tl B) (u : Int32) :
    mX12_end X ad ca d x [.ref 118, .int u] M (q_i (PT x) (fun s M' => ∃ tl', rEnd tl u s tl' ∧ mTp M' tl' B ∧ mF M M')) := by
  obtain ⟨d, rfl⟩ := a_d1 (show 1 ≤ d by omega)
  have htl := hT.2.1
  have hin : ((0 : Int32) ≤ u ∧ u ≤ M 118 3) ↔ ∃ k, 0 ≤ k ∧ k ≤ tl ∧ u = nI k := n_btw (a := 0) (b := tl) rfl hT.1 (by omega) (by omega)
  refine eX12_end _ (bX12_end_0 _ ⟨_, kX12_in (by omega) _ _ _, ?_⟩)
  rintro v1 M1 ⟨rfl, rfl⟩
  refine ⟨fun h => ?_, fun h => ⟨_, rfl, rfl, tl, Or.inr ⟨?_, rfl, rfl⟩, hT, ⟨fun _ _ _ => rfl, fun _ _ => rfl⟩⟩⟩
  · obtain ⟨k, -, hk, rfl⟩ := hin.mp (Classical.byContradiction fun q => h (if_neg q))
    refine ⟨_, rfl, rfl, k, Or.inl ⟨k, hk, rfl, rfl, rfl⟩, ⟨by rw [ms_is], by omega, fun i hi => ?_⟩, fun o q1 q2 => by rw [ms_row _ _ _ _ _ q1], fun j hj => by rw [ms_no _ _ _ _ _ _ (by omega)]⟩
    rw [ms_row _ _ _ _ _ (by decide)]
    exact hT.2.2 i (by omega)
  · rintro ⟨k, hk, hq⟩
    rw [if_pos (hin.mpr ⟨k, by omega, hk, hq⟩)] at h
    exact absurd h (by decide)
theorem kX12_fault (hd : 1 ≤ d) (u : Int32) : mX12_fault X ad ca d x [.ref 118, .int u] M (q_i (PT x) (fun s M' => M' = M ∧ rFault (M 118 4) (M 118 5) u s)) := by
  obtain ⟨d, rfl⟩ := a_d1 (show 1 ≤ d by omega)
  refine eX12_fault _ (bX12_fault_0 _ ⟨fun h0 => ⟨fun h1 => ⟨_, rfl, rfl, rfl, ?_⟩, fun h1 => ⟨_, rfl, rfl, rfl, ?_⟩⟩, fun h0 => ⟨_, rfl, rfl, rfl, ?_⟩⟩)
  · unfold rFault; rw [if_neg h0, if_neg h1]
  · unfold rFault; rw [if_neg h0, if_pos h1]
  · unfold rFault; rw [if_pos h0]
theorem kX12_about (hd : 1 ≤ d) {tl : Nat} {B : Nat → Int32} (hS : mSt M 119 S V) (hw : wSt S V) (hT : mTp M tl B) (u : Int32) : mX12_about X ad ca d x [.ref 118, .int u] M (q_i (PT x) (fun s M' => M' = M ∧ rAbout S tl u s)) := by
  obtain ⟨d, rfl⟩ := a_d1 (show 1 ≤ d by omega)
  obtain ⟨m0, m1, m2, m3, m4, m5, m6, m7, m8, m9⟩ := hS
  have h78 := hw.2.2.2.1
  refine eX12_about _ (bX12_about_0 _ ⟨fun h => ⟨_, rfl, rfl, rfl, Or.inl ⟨0, by omega, h, m0⟩⟩, fun h => ⟨_, rfl, rfl, rfl, Or.inl ⟨1, by omega, h, m1⟩⟩, fun h => ⟨_, rfl, rfl, rfl, Or.inl ⟨2, by omega, h, m2⟩⟩, fun h => ⟨_, rfl, rfl, rfl, Or.inl ⟨3, by omega, h, m3⟩⟩, fun h => ⟨_, rfl, rfl, rfl, Or.inl ⟨4, by omega, h, m4⟩⟩, fun h => ⟨_, rfl, rfl, rfl, Or.inl ⟨5, by omega, h, m5⟩⟩, fun h => ⟨_, rfl, rfl, rfl, Or.inl ⟨6, by omega, h, m6⟩⟩, fun h => ⟨_, rfl, rfl, rfl, Or.inl ⟨7, by omega, h, m7⟩⟩, fun h => ⟨_, rfl, rfl, rfl, Or.inl ⟨8, by omega, h, by rw [m8, m7]; exact pk_sub h78⟩⟩, fun h => ⟨_, rfl, rfl, rfl, Or.inl ⟨9, by omega, h, hT.1⟩⟩, fun h => ⟨_, rfl, rfl, rfl, Or.inr ⟨?_, rfl⟩⟩⟩)
  rintro ⟨k, hk, rfl⟩
  rw [nI_toInt (by omega)] at h
  omega
theorem zff_succ (f : Nat → Bool) (i : Nat) (h : ∀ y, y < i → f y = false) : zEf (fun y => !f y) i = none := by
  induction i with
  | zero => rfl
  | succ i ih =>
    unfold zEf
    rw [ih (fun y hy => h y (by omega)), h i (by omega)]
    rfl
theorem zff_stay (f : Nat → Bool) (i q : Nat) (h : zEf (fun y => !f y) i = some q) (j : Nat) (hij : i ≤ j) : zEf (fun y => !f y) j = some q := by
  obtain ⟨k, rfl⟩ : ∃ k, j = i + k := ⟨j - i, by omega⟩
  clear hij
  induction k with
  | zero => exact h
  | succ k ih =>
    show zEf (fun y => !f y) (i + k + 1) = _
    unfold zEf
    rw [ih]
theorem zff_at (f : Nat → Bool) (i j : Nat) (h : ∀ y, y < i → f y = false) (hi : f i = true) (hij : i < j) : zEf (fun y => !f y) j = some i := by
  refine zff_stay f (i + 1) i ?_ j (by omega)
  unfold zEf
  rw [zff_succ f i h]
  show (if (!f i) = true then none else some i) = some i
  rw [hi]; rfl
def rRoot (n p : Nat) (s : Int32) : Prop := s = match zrt n p with | some q => nI q | none => -1
theorem zir_0 (n p : Nat) : zir n p 0 = false := by unfold zir; simp
theorem kX12_rootOf (hd : 1 ≤ d) {n r p t e : Nat} (hH : mH M n r p t e) (hw : wH n r p t e) : mX12_rootOf X ad ca d x [.ref 118] M (q_i (PT x) (fun s M' => M' = M ∧ rRoot n p s)) := by
  obtain ⟨d, rfl⟩ := a_d1 (show 1 ≤ d by omega)
  have hpb := zpl_b p hw.2.2.2.1
  have hn := hw.1
  have hn2 := hw.2.1
  obtain ⟨p', rfl⟩ : ∃ p', p = p' + 1 := ⟨p - 1, by omega⟩
  refine eX12_rootOf (bX12_rootOf_0 ?_)
  refine a_loop (σ := Unit) (fun i _ => wX12_rootOf X ad ca d x _ 2 [(0, .ref 118), (1, .int (nI (i + 1)))] M) (fun i _ => ∀ y, y < i + 1 → zir n (p' + 1) y = false) p' ?_ ?_ 0 () (by omega) (fun y hy => by rw [show y = 0 by omega]; exact zir_0 _ _)
  · intro _ hy
    refine bX12_rootOf_2 _ ?_
    rw [hH.2.2.1]
    refine ⟨fun _ => ⟨_, rfl, rfl, rfl, ?_⟩, fun h => absurd (nI_le (Nat.le_refl _) (by omega)) h⟩
    unfold rRoot zrt
    rw [zff_succ _ _ hy]
  · intro i _ hi hy ih
    refine bX12_rootOf_2 _ ?_
    rw [hH.2.2.1]
    refine ⟨fun h => absurd h (nI_ge (by omega) (by omega)), fun _ => ?_⟩
    generalize hx : i + 1 = z
    have hz : z < p' + 1 := by omega
    have hno : zir n (p' + 1) z = false → wX12_rootOf X ad ca d x (q_i (PT x) (fun s M' => M' = M ∧ rRoot n (p' + 1) s)) 65 [(0, .ref 118), (1, .int (nI z))] M := by
      intro h
      refine bX12_rootOf_65 _ ?_
      rw [← nI_succ, ← hx]
      refine ih () (fun y hy2 => ?_)
      by_cases e : y = i + 1
      · rw [e, hx]; exact h
      · exact hy y (by omega)
    -- powers
    obtain ⟨n', rfl⟩ : ∃ n', n = n' + 1 := ⟨n - 1, by omega⟩
    have key := a_loop (σ := Unit) (fun k _ => wX12_rootOf X ad ca d x (q_i (PT x) (fun s M' => M' = M ∧ rRoot (n' + 1) (p' + 1) s)) 16 [(0, .ref 118), (1, .int (nI z)), (2, .int (nI (z ^ (k + 1) % (p' + 1)))), (3, .int (nI (k + 1)))] M) (fun k _ => ∀ j, 1 ≤ j → j < k + 1 → z ^ j % (p' + 1) ≠ 1) n' ?_ ?_ 0 () (by omega) (fun j h1 h2 => by omega)
    · rw [Nat.zero_add, Nat.pow_one, Nat.mod_eq_of_lt hz] at key; exact key
    · intro _ hk
      have hv : z ^ (n' + 1) % (p' + 1) < p' + 1 := Nat.mod_lt _ (by omega)
      have h48 : wX12_rootOf X ad ca d x (q_i (PT x) (fun s M' => M' = M ∧ rRoot (n' + 1) (p' + 1) s)) 48 [(0, .ref 118), (1, .int (nI z)), (2, .int (nI (z ^ (n' + 1) % (p' + 1)))), (3, .int (nI (n' + 1)))] M := by
        refine bX12_rootOf_48 _ _ _ ⟨fun h => hno ?_, fun h => ?_⟩
        · have : z ^ (n' + 1) % (p' + 1) ≠ 1 := fun q => h (by rw [q]; rfl)
          unfold zir
          rw [Bool.and_eq_false_iff]
          right
          simpa using this
        · rw [hH.1]
          refine ⟨fun h2 => absurd rfl h2, fun _ => ⟨_, rfl, rfl, rfl, ?_⟩⟩
          have h1 : z ^ (n' + 1) % (p' + 1) = 1 := (nI_eq (b := 1) (by omega) (by omega)).mp h
          unfold rRoot zrt
          rw [zff_at (zir (n' + 1) (p' + 1)) z (p' + 1) (fun y hy2 => hy y (by omega)) ?_ hz]
          unfold zir
          rw [Bool.and_eq_true, Bool.and_eq_true]
          refine ⟨⟨by simp; omega, ?_⟩, by simpa using h1⟩
          rw [List.all_eq_true]
          intro k hk2
          rw [List.mem_range] at hk2
          rcases Nat.eq_zero_or_pos k with q | q
          · simp [q]
          · have := hk k q (by omega)
            simp [this]
      refine bX12_rootOf_16 _ _ _ ⟨fun _ => h48, fun _ => ?_⟩
      rw [hH.1]
      exact ⟨fun _ => h48, fun h => absurd (nI_le (Nat.le_refl _) (by omega)) h⟩
    · intro k _ hk hk2 ih2
      have hv : z ^ (k + 1) % (p' + 1) < p' + 1 := Nat.mod_lt _ (by omega)
      have hvz := n_p2 hv hz (by omega)
      refine bX12_rootOf_16 _ _ _ ⟨fun h => bX12_rootOf_48 _ _ _ ⟨fun h2 => absurd h h2, fun _ => ?_⟩, fun h => ?_⟩
      · rw [hH.1]
        refine ⟨fun _ => hno ?_, fun h2 => absurd ((nI_eq (by omega) (by omega)).mp h2) (by omega)⟩
        have h1 : z ^ (k + 1) % (p' + 1) = 1 := (nI_eq (b := 1) (by omega) (by omega)).mp h
        unfold zir
        rw [Bool.and_eq_false_iff, Bool.and_eq_false_iff]
        left; right
        rw [List.all_eq_false]
        exact ⟨k + 1, List.mem_range.mpr (by omega), by simp [h1]⟩
      · rw [hH.1, hH.2.2.1, n_mul, n_rem (by omega) (by omega) (by omega)]
        refine ⟨fun h2 => absurd h2 (nI_ge (by omega) (by omega)), fun _ => ⟨nI_ne0 (by omega) (by omega), ?_⟩⟩
        have e1 : z ^ (k + 1) % (p' + 1) * z % (p' + 1) = z ^ (k + 1 + 1) % (p' + 1) := by rw [Nat.mod_mul_mod, ← Nat.pow_succ]
        rw [e1, ← nI_succ]
        refine ih2 () (fun j h1 h2 => ?_)
        by_cases e : j = k + 1
        · rw [e]
          intro q
          exact h (by rw [q]; rfl)
        · exact hk2 j h1 (by omega)
theorem kX12_root (hd : 2 ≤ d) {n r p t e : Nat} (hH : mH M n r p t e) (hw : wH n r p t e) : mX12_root X ad ca d x [.ref 118] M (q_i (PT x) (fun s M' => M' = M ∧ rRoot n p s)) := by
  obtain ⟨d, rfl⟩ := a_d1 (show 1 ≤ d by omega)
  refine eX12_root (bX12_root_0 ⟨_, kX12_rootOf (by omega) hH hw, ?_⟩)
  rintro v M1 ⟨rfl, h⟩
  exact ⟨_, rfl, rfl, rfl, h⟩
theorem kX12_mean (hd : 3 ≤ d) {n r p t e : Nat} (hH : mH M n r p t e) (hw : wH n r p t e) (u w : Int32) : mX12_mean X ad ca d x [.ref 118, .int u, .int w] M (q_i (PT x) (fun s M' => M' = M ∧ rMean n u w s)) := by
  obtain ⟨d, rfl⟩ := a_d1 (show 1 ≤ d by omega)
  have hn := hw.1
  have hn2 := hw.2.1
  have h2n := z_p2 hn
  have hin : ((1 : Int32) ≤ w ∧ w ≤ M 119 0 - 1) ↔ ∃ k, 1 ≤ k ∧ k ≤ n - 1 ∧ w = nI k := n_btw (a := 1) (b := n - 1) rfl (by rw [hH.1]; exact pk_sub (b := 1) (by omega)) (by omega) (by omega)
  refine eX12_mean _ _ (bX12_mean_0 _ _ ⟨_, kX12_isSector (by omega) _ hH.1 hn, ?_⟩)
  rintro v1 M1 ⟨rfl, rfl⟩
  refine ⟨fun h => bX12_mean_24 ⟨_, rfl, rfl, rfl, Or.inr ⟨?_, rfl⟩⟩, fun h => ⟨_, kX12_in (by omega) _ _ _, ?_⟩⟩
  · rintro ⟨m, r, h1, h2, h3, h4, h5⟩
    rw [if_pos ⟨m, h1, h4⟩] at h
    exact absurd h (by decide)
  rintro v2 M2 ⟨rfl, rfl⟩
  refine ⟨fun h2 => ?_, fun h2 => bX12_mean_24 ⟨_, rfl, rfl, rfl, Or.inr ⟨?_, rfl⟩⟩⟩
  rotate_left
  · rintro ⟨m, r, q1, q2, q3, q4, q5⟩
    rw [if_pos (hin.mpr ⟨r, q2, by omega, q5⟩)] at h2
    exact absurd h2 (by decide)
  obtain ⟨m, hm, rfl⟩ : ∃ k, k ≤ n ∧ u = nI k := Classical.byContradiction fun q => h (if_neg q)
  obtain ⟨s, hs1, hs2, rfl⟩ := hin.mp (Classical.byContradiction fun q => h2 (if_neg q))
  let g : Nat → Nat := fun a => if zc a = m then zs (fun i => if zb a i = zb a ((i + s) % n) then 1 else 0) n else 0
  refine a_loop (σ := Unit) (fun i _ => wX12_mean X ad ca d x _ 31 [(0, .ref 118), (1, .int (nI m)), (2, .int (nI s)), (3, .int (nI (zs g i))), (4, .int (nI i))] M2) (fun _ _ => True) (2 ^ n) ?_ ?_ 0 () (Nat.zero_le _) trivial
  · intro _ _
    refine bX12_mean_31 _ _ _ _ ⟨_, kX12_states (by omega) hH.1 hn, ?_⟩
    rintro v3 M3 ⟨rfl, rfl⟩
    exact ⟨fun _ => ⟨_, rfl, rfl, rfl, Or.inl ⟨m, s, hm, hs1, by omega, rfl, rfl, rfl⟩⟩, fun h => absurd (nI_le (Nat.le_refl _) (by omega)) h⟩
  · intro i _ hi _ ih
    refine bX12_mean_31 _ _ _ _ ⟨_, kX12_states (by omega) hH.1 hn, ?_⟩
    rintro v3 M3 ⟨rfl, rfl⟩
    refine ⟨fun h => absurd h (nI_ge hi (by omega)), fun _ => ?_⟩
    have hend : wX12_mean X ad ca d x (q_i (PT x) (fun s_1 M' => M' = M3 ∧ rMean n (nI m) (nI s) s_1)) 103 [(0, .ref 118), (1, .int (nI m)), (2, .int (nI s)), (3, .int (nI (zs g (i + 1)))), (4, .int (nI i))] M3 := by
      refine bX12_mean_103 _ _ _ _ ?_
      rw [← nI_succ]
      exact ih () trivial
    by_cases hc : zc i = m
    · have eg : g i = zs (fun k => if zb i k = zb i ((k + s) % n) then 1 else 0) n := if_pos hc
      have e0 : zs g (i + 1) = zs g i + g i := rfl
      have key := a_loop (σ := Unit) (fun k _ => wX12_mean X ad ca d x (q_i (PT x) (fun s_1 M' => M' = M3 ∧ rMean n (nI m) (nI s) s_1)) 43 [(0, .ref 118), (1, .int (nI m)), (2, .int (nI s)), (3, .int (nI (zs g i + zs (fun k => if zb i k = zb i ((k + s) % n) then 1 else 0) k))), (4, .int (nI i)), (5, .int (nI k))] M3) (fun _ _ => True) n ?_ ?_ 0 () (Nat.zero_le _) trivial
      · exact key
      · intro _ _
        refine bX12_mean_43 _ _ _ _ _ ?_
        rw [hH.1]
        refine ⟨fun _ => ?_, fun h => absurd (nI_le (Nat.le_refl _) (by omega)) h⟩
        rw [← eg, ← e0]
        exact hend
      · intro k _ hk _ ih2
        refine bX12_mean_43 _ _ _ _ _ ?_
        rw [hH.1]
        refine ⟨fun h => absurd h (nI_ge hk (by omega)), fun _ => ⟨_, kX12_count (by omega) (by omega), ?_⟩⟩
        rintro v4 M4 ⟨rfl, rfl⟩
        have hkm : (k + s) % n < n := Nat.mod_lt _ (by omega)
        rw [hc, hH.1, nI_add, n_rem (by omega) (by omega) (by omega), z_bit (by omega) (by omega), z_bit (by omega) (by omega)]
        have eb : nI (i / 2 ^ k % 2) = nI (i / 2 ^ ((k + s) % n) % 2) ↔ zb i k = zb i ((k + s) % n) := nI_eq (by omega) (by omega)
        refine ⟨fun h => absurd rfl h, fun _ => ⟨nI_ne0 (by omega) (by omega), fun h => ?_, fun h => ?_⟩⟩
        · rw [Int32.add_zero, ← nI_succ]
          have := ih2 () trivial
          simp only [zs, if_neg (fun q => h (eb.mpr q)), Nat.add_zero] at this
          exact this
        · rw [← nI_succ, ← nI_succ]
          have := ih2 () trivial
          simp only [zs, if_pos (eb.mp h)] at this
          exact this
    · have eg : zs g (i + 1) = zs g i := by
        show zs g i + g i = zs g i
        rw [show g i = 0 from if_neg hc, Nat.add_zero]
      rw [eg] at hend
      have hz := zc_le i
      refine bX12_mean_43 _ _ _ _ _ ?_
      rw [hH.1]
      refine ⟨fun _ => hend, fun _ => ⟨_, kX12_count (by omega) (by omega), ?_⟩⟩
      rintro v4 M4 ⟨rfl, rfl⟩
      exact ⟨fun _ => hend, fun h => absurd ((nI_eq (by omega) (by omega)).mp h) hc⟩
end Z21
