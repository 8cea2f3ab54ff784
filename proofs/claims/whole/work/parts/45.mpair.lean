/-! CONTRACTS 26: pairs on the reference's side: the whole and its division -/
/-- Q(z + h), row by row from Q's top -/
def zmv (p h m : Nat) (q : Nat → Nat) : Nat → Nat → Nat
  | 0, _ => 0
  | t + 1, i => (zmv p h m q t i * h + (if i = 0 then q (m - t) else zmv p h m q t (i - 1))) % p
/-- (z + v) to the t -/
def zpw (p v : Nat) : Nat → Nat → Nat
  | 0, i => if i = 0 then 1 else 0
  | t + 1, i => (zpw p v t i * v + (if i = 0 then 0 else zpw p v t (i - 1))) % p
def zcr (pw mv : Nat → Nat) (k i j : Nat) : Nat := if i + j = k then pw i * mv j else 0
def zcv (pw mv : Nat → Nat) (k : Nat) : Nat := zs (fun i => zs (zcr pw mv k i) 3) 8
def zwh (p n t m : Nat) (q : Nat → Nat) (k : Nat) : Nat := (zcv (zpw p t n) (zmv p ((p - t) % p) m q (m + 1)) k % p + zcv (zpw p 0 n) (zmv p t m q (m + 1)) k) % p
/-- division by z^2 + a z + b (or z + a), from the top N -/
def zhe (p a b : Nat) (f : Nat → Nat) (N : Nat) : Nat → Nat × Nat
  | 0 => (0, 0)
  | t + 1 => (zm ((f (N - t) : Int) - (a : Int) * ((zhe p a b f N t).1 : Int) - (b : Int) * ((zhe p a b f N t).2 : Int)) p, (zhe p a b f N t).1)
def zH (p a b : Nat) (f : Nat → Nat) (N j : Nat) : Nat := (zhe p a b f N (N + 1 - j)).1
theorem zH_top (p a b : Nat) (f : Nat → Nat) (N j : Nat) (h : N < j) : zH p a b f N j = 0 := by
  unfold zH
  rw [show N + 1 - j = 0 by omega]
  rfl
theorem zH_rec (p a b : Nat) (f : Nat → Nat) (N j : Nat) (h : j ≤ N) : zH p a b f N j = zm ((f j : Int) - (a : Int) * (zH p a b f N (j + 1) : Int) - (b : Int) * (zH p a b f N (j + 2) : Int)) p := by
  obtain ⟨t, rfl⟩ : ∃ t, N = j + t := ⟨N - j, by omega⟩
  have e1 : zH p a b f (j + t) j = zm ((f (j + t - t) : Int) - (a : Int) * ((zhe p a b f (j + t) t).1 : Int) - (b : Int) * ((zhe p a b f (j + t) t).2 : Int)) p := by
    unfold zH
    rw [show j + t + 1 - j = t + 1 by omega]
    rfl
  have e2 : zH p a b f (j + t) (j + 1) = (zhe p a b f (j + t) t).1 := by
    unfold zH
    rw [show j + t + 1 - (j + 1) = t by omega]
  have e3 : zH p a b f (j + t) (j + 2) = (zhe p a b f (j + t) t).2 := by
    unfold zH
    cases t with
    | zero => rw [show j + 0 + 1 - (j + 2) = 0 by omega]; rfl
    | succ t =>
      rw [show j + (t + 1) + 1 - (j + 2) = t by omega]
      rfl
  rw [e1, e2, e3, show j + t - t = j by omega]
theorem zH_lt {p a b : Nat} {f : Nat → Nat} {N j : Nat} (hp : 0 < p) : zH p a b f N j < p := by
  unfold zH
  cases N + 1 - j with
  | zero => exact hp
  | succ t => exact zm_lt hp
def zna (m : Nat) (q : Nat → Nat) : Nat := if m = 2 then q 1 else if m = 1 then q 0 else 0
def znb (m : Nat) (q : Nat → Nat) : Nat := if m = 2 then q 0 else 0
/-- the quotient: its coefficient at k stands at k + m; below m what is left -/
def zqu (p n t m : Nat) (q : Nat → Nat) : Nat → Nat := zH p (zna m q) (znb m q) (zwh p n t m q) (n + m)
def zip (p n t m : Nat) (q : Nat → Nat) : Bool := (List.range m).all fun k => zqu p n t m q k == 0
theorem zpw_lt {p v : Nat} (hp : 1 < p) : ∀ t i, zpw p v t i < p
  | 0, i => by unfold zpw; split <;> omega
  | t + 1, i => Nat.mod_lt _ (by omega)
theorem zmv_lt {p h m : Nat} {q : Nat → Nat} (hp : 1 < p) : ∀ t i, zmv p h m q t i < p
  | 0, i => by unfold zmv; omega
  | t + 1, i => Nat.mod_lt _ (by omega)
section Z27
variable {X : a_X} {ad : Nat → Nat} {ca : Nat → ClassId} {d x : Nat} {M : a_M}
theorem n_mm (a : Nat) : nI a + -1 = nI a - 1 := by grind
theorem kX12_moves (hd : 1 ≤ d) {p h m : Nat} {q : Nat → Nat} (hP : M 119 2 = nI p) (hp : p ∈ zpl) (hh : h < p) (hm : m ≤ 2) (hq : ∀ i, i < 3 → M 148 i = nI (q i) ∧ q i < p) :
    mX12_moves X ad ca d x [.ref 118, .int (nI m), .int (nI h)] M (q_v (PT x) (fun M' => (∀ i, i < 3 → M' 151 i = nI (zmv p h m q (m + 1) i)) ∧ ∀ o, o ≠ 151 → M' o = M o)) := by
  obtain ⟨d, rfl⟩ := a_d1 (show 1 ≤ d by omega)
  have hpb := zpl_b p hp
  have hp0 : 0 < p := by omega
  generalize hPost : q_v (PT x) (fun M' => (∀ i, i < 3 → M' 151 i = nI (zmv p h m q (m + 1) i)) ∧ ∀ o, o ≠ 151 → M' o = M o) = Post
  refine eX12_moves _ _ (bX12_moves_0 _ _ ?_)
  have key := a_loop (σ := Unit) (fun i _ => wX12_moves X ad ca d x Post 2 [(0, .ref 118), (1, .int (nI m)), (2, .int (nI h)), (3, .int (nI i))] (mf M 151 0 (fun _ => 0) i)) (fun _ _ => True) 3 ?_ ?_ 0 () (Nat.zero_le _) trivial
  · rw [mf_0] at key; exact key
  rotate_left
  · intro i _ hi _ ih
    refine bX12_moves_2 _ _ _ ⟨fun h => absurd h (nI_ge (b := 3) hi (by omega)), fun _ => ⟨n_in hi (by omega), ?_⟩⟩
    rw [n_cl (by omega), mf_s (Nat.zero_le _) rfl, ← nI_succ]
    exact ih () trivial
  intro _ _
  refine bX12_moves_2 _ _ _ ⟨fun _ => ?_, fun h => absurd (nI_le (Nat.le_refl 3) (by omega)) h⟩
  have key := a_loop (σ := a_M) (fun t M' => wX12_moves X ad ca d x Post 22 [(0, .ref 118), (2, .int (nI h)), (3, .int (nI (m + 1 - t) - 1))] M') (fun t M' => (∀ i, i < 3 → M' 151 i = nI (zmv p h m q t i)) ∧ ∀ o, o ≠ 151 → M' o = M o) (m + 1) ?_ ?_ 0 (mf M 151 0 (fun _ => 0) 3) (Nat.zero_le _) ⟨fun i hi => by rw [mf_in _ _ _ _ _ _ (Nat.zero_le _) hi]; rfl, fun o ho => mf_no _ _ _ _ _ _ ho⟩
  · rw [Nat.sub_zero, nI_pred] at key; exact key
  · rintro M1 ⟨q1, q2⟩
    rw [Nat.sub_self]
    refine bX12_moves_22 _ _ ⟨fun _ => ?_, fun h => absurd (by decide) h⟩
    rw [← hPost]
    exact ⟨rfl, rfl, q1, q2⟩
  · rintro t M1 ht ⟨q1, q2⟩ ih
    have e1 : nI (m + 1 - t) - 1 = nI (m - t) := by
      rw [show m + 1 - t = (m - t) + 1 by omega, nI_pred]
    have e2 : nI (m - t) + -1 = nI (m + 1 - (t + 1)) - 1 := by
      rw [show m + 1 - (t + 1) = m - t by omega]; exact n_mm _
    have hlt := fun i => zmv_lt (p := p) (h := h) (m := m) (q := q) (by omega) t i
    have hs : ∀ i, zmv p h m q (t + 1) i = (zmv p h m q t i * h + (if i = 0 then q (m - t) else zmv p h m q t (i - 1))) % p := fun _ => rfl
    generalize zmv p h m q t = F at q1 hlt hs
    rw [e1]
    refine bX12_moves_22 _ _ ⟨fun h => absurd h (nI_nlt (b := 0) (Nat.zero_le _) (by omega)), fun _ => ?_⟩
    have key2 := a_loop (σ := a_M) (fun s M' => wX12_moves X ad ca d x Post 29 [(0, .ref 118), (2, .int (nI h)), (3, .int (nI (m - t))), (4, .int (nI (3 - s) - 1))] M') (fun s M' => (∀ i, i < 3 → M' 151 i = nI (if 3 ≤ i + s then (F i * h + (if i = 0 then 0 else F (i - 1))) % p else F i)) ∧ ∀ o, o ≠ 151 → M' o = M o) 3 ?_ ?_ 0 M1 (Nat.zero_le _) ⟨fun i hi => by rw [if_neg (by omega)]; exact q1 i hi, q2⟩
    · rw [Nat.sub_zero, show nI 3 - 1 = 2 by decide] at key2; exact key2
    · rintro M2 ⟨r1, r2⟩
      have hq1 := hq (m - t) (by omega)
      have h0 := r1 0 (by omega)
      rw [if_pos (by omega), if_pos rfl, Nat.add_zero] at h0
      have hFl : F 0 * h % p < p := Nat.mod_lt _ hp0
      rw [Nat.sub_self]
      refine bX12_moves_29 _ _ _ ⟨fun _ => ?_, fun h => absurd (by decide) h⟩
      rw [r2 119 (by decide), hP, r2 148 (by decide), n_cl (by omega), hq1.1, h0, nI_add, n_rem (by omega) hp0 (by omega), e2]
      refine ⟨n_in (by omega) (by omega), nI_ne0 hp0 (by omega), ih _ ⟨fun i hi => ?_, fun o ho => by rw [ms_row _ _ _ _ _ ho]; exact r2 o ho⟩⟩
      rw [hs i]
      by_cases ei : i = 0
      · subst ei
        rw [if_pos rfl]
        refine (ms_is _ _ _ _).trans ?_
        rw [Nat.mod_add_mod]
      · rw [if_neg ei, ms_no _ _ _ _ _ _ (by omega), r1 i hi, if_pos (by omega), if_neg ei]
    · rintro s M2 hs2 ⟨r1, r2⟩ ih2
      have f1 : nI (3 - s) - 1 = nI (2 - s) := by
        rw [show 3 - s = (2 - s) + 1 by omega, nI_pred]
      have f2 : nI (2 - s) + -1 = nI (3 - (s + 1)) - 1 := by
        rw [show 3 - (s + 1) = 2 - s by omega]; exact n_mm _
      have hi := r1 (2 - s) (by omega)
      rw [if_neg (by omega)] at hi
      have hb := n_p2 (hlt (2 - s)) hh (by omega)
      rw [f1]
      refine bX12_moves_29 _ _ _ ⟨fun h => absurd h (nI_nlt (b := 0) (Nat.zero_le _) (by omega)), fun _ => ⟨n_in (by omega) (by omega), fun h0 => ?_, fun h0 => ?_⟩⟩
      · have hz : 2 - s = 0 := by
          rcases Nat.eq_zero_or_pos (2 - s) with e | e
          · exact e
          · exact absurd h0 (nI_ge (a := 0) e (by omega))
        rw [n_cl (by omega), r2 119 (by decide), hP, hi, n_mul, Int32.add_zero, n_rem (by omega) hp0 (by omega), f2]
        refine ⟨nI_ne0 hp0 (by omega), n_in (by omega) (by omega), ih2 _ ⟨fun i hi2 => ?_, fun o ho => by rw [ms_row _ _ _ _ _ ho]; exact r2 o ho⟩⟩
        by_cases ei : i = 2 - s
        · subst ei
          rw [ms_is, if_pos (by omega), if_pos hz, Nat.add_zero]
        · rw [ms_no _ _ _ _ _ _ (by omega), r1 i hi2]
          congr 1
          by_cases e3 : 3 ≤ i + s
          · rw [if_pos e3, if_pos (show 3 ≤ i + (s + 1) by omega)]
          · rw [if_neg e3, if_neg (show ¬ 3 ≤ i + (s + 1) by omega)]
      · have hz : 0 < 2 - s := by
          rcases Nat.eq_zero_or_pos (2 - s) with e | e
          · exact absurd (by rw [e]; decide) h0
          · exact e
        have f3 : nI (2 - s) - 1 = nI (2 - s - 1) := pk_sub (b := 1) (by omega)
        have hi1 := r1 (2 - s - 1) (by omega)
        rw [if_neg (by omega)] at hi1
        have hl1 := hlt (2 - s - 1)
        rw [f3, n_cl (by omega), n_cl (by omega), r2 119 (by decide), hP, hi, hi1, n_mul, nI_add, n_rem (by omega) hp0 (by omega), f2]
        refine ⟨n_in (by omega) (by omega), nI_ne0 hp0 (by omega), n_in (by omega) (by omega), ih2 _ ⟨fun i hi2 => ?_, fun o ho => by rw [ms_row _ _ _ _ _ ho]; exact r2 o ho⟩⟩
        by_cases ei : i = 2 - s
        · subst ei
          rw [ms_is, if_pos (by omega), if_neg (by omega)]
        · rw [ms_no _ _ _ _ _ _ (by omega), r1 i hi2]
          congr 1
          by_cases e3 : 3 ≤ i + s
          · rw [if_pos e3, if_pos (show 3 ≤ i + (s + 1) by omega)]
          · rw [if_neg e3, if_neg (show ¬ 3 ≤ i + (s + 1) by omega)]
theorem kX12_laysPower (hd : 1 ≤ d) {n p v : Nat} (hN : M 119 0 = nI n) (hn : n < 8) (hP : M 119 2 = nI p) (hp : p ∈ zpl) (hv : v < p) :
    mX12_laysPower X ad ca d x [.ref 118, .int (nI v)] M (q_v (PT x) (fun M' => (∀ i, i < 8 → M' 152 i = nI (zpw p v n i)) ∧ ∀ o, o ≠ 152 → M' o = M o)) := by
  obtain ⟨d, rfl⟩ := a_d1 (show 1 ≤ d by omega)
  have hpb := zpl_b p hp
  have hp0 : 0 < p := by omega
  generalize hPost : q_v (PT x) (fun M' => (∀ i, i < 8 → M' 152 i = nI (zpw p v n i)) ∧ ∀ o, o ≠ 152 → M' o = M o) = Post
  refine eX12_laysPower _ (bX12_laysPower_0 _ ?_)
  have key := a_loop (σ := Unit) (fun i _ => wX12_laysPower X ad ca d x Post 2 [(0, .ref 118), (1, .int (nI v)), (2, .int (nI i))] (mf M 152 0 (fun i => nI (zpw p v 0 i)) i)) (fun _ _ => True) 8 ?_ ?_ 0 () (Nat.zero_le _) trivial
  · rw [mf_0] at key; exact key
  rotate_left
  · intro i _ hi _ ih
    refine bX12_laysPower_2 _ _ ⟨fun h => absurd h (nI_ge (b := 8) hi (by omega)), fun _ => ⟨fun h => ⟨n_in hi (by omega), ?_⟩, fun h => ⟨n_in hi (by omega), ?_⟩⟩⟩
    · have e : i ≠ 0 := fun q => h (by rw [q]; rfl)
      rw [n_cl (by omega), mf_s (Nat.zero_le _) (by unfold zpw; rw [if_neg e]; rfl), ← nI_succ]
      exact ih () trivial
    · have e : i = 0 := (nI_eq (b := 0) (by omega) (by omega)).mp h
      rw [n_cl (by omega), mf_s (Nat.zero_le _) (by unfold zpw; rw [if_pos e]; rfl), ← nI_succ]
      exact ih () trivial
  intro _ _
  refine bX12_laysPower_2 _ _ ⟨fun _ => ?_, fun h => absurd (nI_le (Nat.le_refl 8) (by omega)) h⟩
  refine a_loop (σ := a_M) (fun t M' => wX12_laysPower X ad ca d x Post 31 [(0, .ref 118), (1, .int (nI v)), (2, .int (nI t))] M') (fun t M' => (∀ i, i < 8 → M' 152 i = nI (zpw p v t i)) ∧ ∀ o, o ≠ 152 → M' o = M o) n ?_ ?_ 0 _ (Nat.zero_le _) ⟨fun i hi => by rw [mf_in _ _ _ _ _ _ (Nat.zero_le _) hi], fun o ho => mf_no _ _ _ _ _ _ ho⟩
  · rintro M1 ⟨q1, q2⟩
    refine bX12_laysPower_31 _ _ ?_
    rw [q2 119 (by decide), hN]
    refine ⟨fun _ => ?_, fun h => absurd (nI_le (Nat.le_refl _) (by omega)) h⟩
    rw [← hPost]
    exact ⟨rfl, rfl, q1, q2⟩
  · rintro t M1 ht ⟨q1, q2⟩ ih
    have hlt := fun i => zpw_lt (p := p) (v := v) (by omega) t i
    have hs : ∀ i, zpw p v (t + 1) i = (zpw p v t i * v + (if i = 0 then 0 else zpw p v t (i - 1))) % p := fun _ => rfl
    generalize zpw p v t = F at q1 hlt hs
    refine bX12_laysPower_31 _ _ ?_
    rw [q2 119 (by decide), hN]
    refine ⟨fun h => absurd h (nI_ge ht (by omega)), fun _ => ?_⟩
    have key2 := a_loop (σ := a_M) (fun s M' => wX12_laysPower X ad ca d x Post 44 [(0, .ref 118), (1, .int (nI v)), (2, .int (nI t)), (3, .int (nI (8 - s) - 1))] M') (fun s M' => (∀ i, i < 8 → M' 152 i = nI (if 8 ≤ i + s then (F i * v + (if i = 0 then 0 else F (i - 1))) % p else F i)) ∧ ∀ o, o ≠ 152 → M' o = M o) 8 ?_ ?_ 0 M1 (Nat.zero_le _) ⟨fun i hi => by rw [if_neg (by omega)]; exact q1 i hi, q2⟩
    · rw [Nat.sub_zero, show nI 8 - 1 = 7 by decide] at key2; exact key2
    · rintro M2 ⟨r1, r2⟩
      rw [Nat.sub_self]
      refine bX12_laysPower_44 _ _ _ ⟨fun _ => ?_, fun h => absurd (by decide) h⟩
      rw [← nI_succ]
      exact ih M2 ⟨fun i hi => by rw [r1 i hi, hs i, if_pos (by omega)], r2⟩
    · rintro s M2 hs2 ⟨r1, r2⟩ ih2
      have f1 : nI (8 - s) - 1 = nI (7 - s) := by
        rw [show 8 - s = (7 - s) + 1 by omega, nI_pred]
      have f2 : nI (7 - s) + -1 = nI (8 - (s + 1)) - 1 := by
        rw [show 8 - (s + 1) = 7 - s by omega]; exact n_mm _
      have hi := r1 (7 - s) (by omega)
      rw [if_neg (by omega)] at hi
      have hb := n_p2 (hlt (7 - s)) hv (by omega)
      rw [f1]
      refine bX12_laysPower_44 _ _ _ ⟨fun h => absurd h (nI_nlt (b := 0) (Nat.zero_le _) (by omega)), fun _ => ⟨n_in (by omega) (by omega), fun h0 => ?_, fun h0 => ?_⟩⟩
      · have hz : 7 - s = 0 := by
          rcases Nat.eq_zero_or_pos (7 - s) with e | e
          · exact e
          · exact absurd h0 (nI_ge (a := 0) e (by omega))
        rw [n_cl (by omega), r2 119 (by decide), hP, hi, n_mul, Int32.add_zero, n_rem (by omega) hp0 (by omega), f2]
        refine ⟨nI_ne0 hp0 (by omega), n_in (by omega) (by omega), ih2 _ ⟨fun i hi2 => ?_, fun o ho => by rw [ms_row _ _ _ _ _ ho]; exact r2 o ho⟩⟩
        by_cases ei : i = 7 - s
        · subst ei
          rw [ms_is, if_pos (by omega), if_pos hz, Nat.add_zero]
        · rw [ms_no _ _ _ _ _ _ (by omega), r1 i hi2]
          congr 1
          by_cases e3 : 8 ≤ i + s
          · rw [if_pos e3, if_pos (show 8 ≤ i + (s + 1) by omega)]
          · rw [if_neg e3, if_neg (show ¬ 8 ≤ i + (s + 1) by omega)]
      · have hz : 0 < 7 - s := by
          rcases Nat.eq_zero_or_pos (7 - s) with e | e
          · exact absurd (by rw [e]; decide) h0
          · exact e
        have f3 : nI (7 - s) - 1 = nI (7 - s - 1) := pk_sub (b := 1) (by omega)
        have hi1 := r1 (7 - s - 1) (by omega)
        rw [if_neg (by omega)] at hi1
        have hl1 := hlt (7 - s - 1)
        rw [f3, n_cl (by omega), n_cl (by omega), r2 119 (by decide), hP, hi, hi1, n_mul, nI_add, n_rem (by omega) hp0 (by omega), f2]
        refine ⟨n_in (by omega) (by omega), nI_ne0 hp0 (by omega), n_in (by omega) (by omega), ih2 _ ⟨fun i hi2 => ?_, fun o ho => by rw [ms_row _ _ _ _ _ ho]; exact r2 o ho⟩⟩
        by_cases ei : i = 7 - s
        · subst ei
          rw [ms_is, if_pos (by omega), if_neg (by omega)]
        · rw [ms_no _ _ _ _ _ _ (by omega), r1 i hi2]
          congr 1
          by_cases e3 : 8 ≤ i + s
          · rw [if_pos e3, if_pos (show 8 ≤ i + (s + 1) by omega)]
          · rw [if_neg e3, if_neg (show ¬ 8 ≤ i + (s + 1) by omega)]
theorem kX12_addsPower (hd : 1 ≤ d) {p : Nat} {pw mv W : Nat → Nat} (hP : M 119 2 = nI p) (hp : p ∈ zpl) (hpw : ∀ i, i < 8 → M 152 i = nI (pw i) ∧ pw i < p) (hmv : ∀ i, i < 3 → M 151 i = nI (mv i) ∧ mv i < p) (hW : ∀ k, k < 12 → M 149 k = nI (W k) ∧ W k < p) :
    mX12_addsPower X ad ca d x [.ref 118] M (q_v (PT x) (fun M' => (∀ k, k < 12 → M' 149 k = nI ((W k + zcv pw mv k) % p)) ∧ ∀ o, o ≠ 149 → M' o = M o)) := by
  obtain ⟨d, rfl⟩ := a_d1 (show 1 ≤ d by omega)
  have hpb := zpl_b p hp
  have hp0 : 0 < p := by omega
  refine eX12_addsPower (bX12_addsPower_0 ?_)
  refine a_loop (σ := a_M) (fun i M' => wX12_addsPower X ad ca d x _ 2 [(0, .ref 118), (1, .int (nI i))] M') (fun i M' => (∀ k, k < 12 → M' 149 k = nI ((W k + zs (fun i => zs (zcr pw mv k i) 3) i) % p)) ∧ ∀ o, o ≠ 149 → M' o = M o) 8 ?_ ?_ 0 M (Nat.zero_le _) ⟨fun k hk => ?_, fun _ _ => rfl⟩
  rotate_left 2
  · rw [(hW k hk).1]
    show _ = nI ((W k + 0) % p)
    rw [Nat.add_zero, Nat.mod_eq_of_lt (hW k hk).2]
  · rintro M1 ⟨q1, q2⟩
    exact bX12_addsPower_2 _ ⟨fun _ => ⟨rfl, rfl, q1, q2⟩, fun h => absurd (nI_le (Nat.le_refl 8) (by omega)) h⟩
  · rintro i M1 hi ⟨q1, q2⟩ ih
    refine bX12_addsPower_2 _ ⟨fun h => absurd h (nI_ge (b := 8) hi (by omega)), fun _ => ?_⟩
    refine a_loop (σ := a_M) (fun j M' => wX12_addsPower X ad ca d x _ 10 [(0, .ref 118), (1, .int (nI i)), (2, .int (nI j))] M') (fun j M' => (∀ k, k < 12 → M' 149 k = nI ((W k + (zs (fun i => zs (zcr pw mv k i) 3) i + zs (zcr pw mv k i) j)) % p)) ∧ ∀ o, o ≠ 149 → M' o = M o) 3 ?_ ?_ 0 M1 (Nat.zero_le _) ⟨q1, q2⟩
    · rintro M2 ⟨r1, r2⟩
      refine bX12_addsPower_10 _ _ ⟨fun _ => ?_, fun h => absurd (nI_le (Nat.le_refl 3) (by omega)) h⟩
      rw [← nI_succ]
      exact ih M2 ⟨r1, r2⟩
    · rintro j M2 hj ⟨r1, r2⟩ ih2
      have c1 := hpw i hi
      have c2 := hmv j hj
      have hb := n_p2 c1.2 c2.2 (by omega)
      have hk := r1 (i + j) (by omega)
      have hml : (W (i + j) + (zs (fun i_1 => zs (zcr pw mv (i + j) i_1) 3) i + zs (zcr pw mv (i + j) i) j)) % p < p := Nat.mod_lt _ hp0
      refine bX12_addsPower_10 _ _ ⟨fun h => absurd h (nI_ge (b := 3) hj (by omega)), fun _ => ?_⟩
      rw [nI_add, n_cl (by omega), n_cl (by omega), n_cl (by omega), r2 119 (by decide), hP, r2 152 (by decide), r2 151 (by decide), c1.1, c2.1, hk, n_mul, nI_add, n_rem (by omega) hp0 (by omega)]
      refine ⟨n_in (by omega) (by omega), n_in (by omega) (by omega), n_in (by omega) (by omega), nI_ne0 hp0 (by omega), n_in (by omega) (by omega), ?_⟩
      rw [← nI_succ]
      refine ih2 _ ⟨fun k hk2 => ?_, fun o ho => by rw [ms_row _ _ _ _ _ ho]; exact r2 o ho⟩
      have hz : zs (zcr pw mv k i) (j + 1) = zs (zcr pw mv k i) j + zcr pw mv k i j := rfl
      rw [hz]
      by_cases ek : k = i + j
      · subst ek
        rw [ms_is, Nat.mod_add_mod]
        congr 2
        unfold zcr
        rw [if_pos rfl]
        omega
      · rw [ms_no _ _ _ _ _ _ (by omega), r1 k hk2]
        have : zcr pw mv k i j = 0 := by unfold zcr; rw [if_neg (by omega)]
        rw [this, Nat.add_zero]
theorem kX12_isPair (hd : 2 ≤ d) {n r p t e m : Nat} {q : Nat → Nat} (hH : mH M n r p t e) (hw : wH n r p t e) (hm : m ≤ 2) (hq : ∀ i, i < 3 → M 148 i = nI (q i) ∧ q i < p) (hqm : q m = 1) :
    mX12_isPair X ad ca d x [.ref 118, .int (nI m)] M (q_i (PT x) (fun s M' => (s = if zip p n t m q = true then 1 else 0) ∧ (∀ k, k ≤ n → M' 150 k = nI (zqu p n t m q (k + m))) ∧ ∀ o, o < 149 → M' o = M o)) := by
  obtain ⟨d, rfl⟩ := a_d1 (show 1 ≤ d by omega)
  have hn := hw.1
  have hpb := zpl_b p hw.2.2.2.1
  have hp := hw.2.2.2.1
  have hp0 : 0 < p := by omega
  have htp := hw.2.2.2.2.2.1
  generalize hPost : q_i (PT x) (fun s M' => (s = if zip p n t m q = true then 1 else 0) ∧ (∀ k, k ≤ n → M' 150 k = nI (zqu p n t m q (k + m))) ∧ ∀ o, o < 149 → M' o = M o) = Post
  refine eX12_isPair _ (bX12_isPair_0 _ ?_)
  have key := a_loop (σ := Unit) (fun i _ => wX12_isPair X ad ca d x Post 2 [(0, .ref 118), (1, .int (nI m)), (2, .int (nI i))] (mf M 149 0 (fun _ => 0) i)) (fun _ _ => True) 12 ?_ ?_ 0 () (Nat.zero_le _) trivial
  · rw [mf_0] at key; exact key
  rotate_left
  · intro i _ hi _ ih
    refine bX12_isPair_2 _ _ ⟨fun h => absurd h (nI_ge (b := 12) hi (by omega)), fun _ => ⟨n_in hi (by omega), ?_⟩⟩
    rw [n_cl (by omega), mf_s (Nat.zero_le _) rfl, ← nI_succ]
    exact ih () trivial
  intro _ _
  have f0 : ∀ o, o ≠ 149 → mf M 149 0 (fun _ => 0) 12 o = M o := fun o ho => mf_no _ _ _ _ _ _ ho
  have w0 : ∀ k, k < 12 → mf M 149 0 (fun _ => 0) 12 149 k = nI 0 ∧ 0 < p := fun k hk => ⟨mf_in _ _ _ _ _ _ (Nat.zero_le _) hk, hp0⟩
  generalize mf M 149 0 (fun _ => 0) 12 = M0 at f0 w0
  refine bX12_isPair_2 _ _ ⟨fun _ => ?_, fun h => absurd (nI_le (Nat.le_refl 12) (by omega)) h⟩
  rw [f0 119 (by decide), hH.2.2.1, hH.2.2.2.1, pk_sub (Nat.le_of_lt htp), n_rem (by omega) hp0 (by omega)]
  have hlt1 := fun i => zmv_lt (p := p) (h := (p - t) % p) (m := m) (q := q) (by omega) (m + 1) i
  have hlt2 := fun i => zmv_lt (p := p) (h := t) (m := m) (q := q) (by omega) (m + 1) i
  have hlt3 := fun i => zpw_lt (p := p) (v := t) (by omega) n i
  have hlt4 := fun i => zpw_lt (p := p) (v := 0) (by omega) n i
  refine ⟨nI_ne0 hp0 (by omega), _, kX12_moves (q := q) (by omega) (by rw [f0 119 (by decide)]; exact hH.2.2.1) hp (Nat.mod_lt _ hp0) hm (fun i hi => by rw [f0 148 (by decide)]; exact hq i hi), ?_⟩
  rintro M1 ⟨a1, a2⟩
  have f1 : ∀ o, o ≠ 149 → o ≠ 151 → M1 o = M o := fun o h1 h2 => (a2 o h2).trans (f0 o h1)
  rw [f1 119 (by decide) (by decide), hH.2.2.2.1]
  refine ⟨_, kX12_laysPower (n := n) (by omega) (by rw [f1 119 (by decide) (by decide)]; exact hH.1) hn (by rw [f1 119 (by decide) (by decide)]; exact hH.2.2.1) hp htp, ?_⟩
  rintro M2 ⟨b1, b2⟩
  have f2 : ∀ o, o ≠ 149 → o ≠ 151 → o ≠ 152 → M2 o = M o := fun o h1 h2 h3 => (b2 o h3).trans (f1 o h1 h2)
  refine ⟨_, kX12_addsPower (W := fun _ => 0) (by omega) (by rw [f2 119 (by decide) (by decide) (by decide)]; exact hH.2.2.1) hp (fun i hi => ⟨b1 i hi, hlt3 i⟩) (fun i hi => ⟨by rw [b2 151 (by decide)]; exact a1 i hi, hlt1 i⟩) (fun k hk => by rw [b2 149 (by decide), a2 149 (by decide)]; exact w0 k hk), ?_⟩
  rintro M3 ⟨c1, c2⟩
  have f3 : ∀ o, o ≠ 149 → o ≠ 151 → o ≠ 152 → M3 o = M o := fun o h1 h2 h3 => (c2 o h1).trans (f2 o h1 h2 h3)
  rw [f3 119 (by decide) (by decide) (by decide), hH.2.2.2.1]
  refine ⟨_, kX12_moves (q := q) (by omega) (by rw [f3 119 (by decide) (by decide) (by decide)]; exact hH.2.2.1) hp htp hm (fun i hi => by rw [f3 148 (by decide) (by decide) (by decide)]; exact hq i hi), ?_⟩
  rintro M4 ⟨d1, d2⟩
  have f4 : ∀ o, o ≠ 149 → o ≠ 151 → o ≠ 152 → M4 o = M o := fun o h1 h2 h3 => (d2 o h2).trans (f3 o h1 h2 h3)
  refine ⟨_, kX12_laysPower (n := n) (v := 0) (by omega) (by rw [f4 119 (by decide) (by decide) (by decide)]; exact hH.1) hn (by rw [f4 119 (by decide) (by decide) (by decide)]; exact hH.2.2.1) hp hp0, ?_⟩
  rintro M5 ⟨e1, e2⟩
  have f5 : ∀ o, o ≠ 149 → o ≠ 151 → o ≠ 152 → M5 o = M o := fun o h1 h2 h3 => (e2 o h3).trans (f4 o h1 h2 h3)
  refine ⟨_, kX12_addsPower (W := fun k => (0 + zcv (zpw p t n) (zmv p ((p - t) % p) m q (m + 1)) k) % p) (by omega) (by rw [f5 119 (by decide) (by decide) (by decide)]; exact hH.2.2.1) hp (fun i hi => ⟨e1 i hi, hlt4 i⟩) (fun i hi => ⟨by rw [e2 151 (by decide)]; exact d1 i hi, hlt2 i⟩) (fun k hk => ⟨by rw [e2 149 (by decide), d2 149 (by decide)]; exact c1 k hk, Nat.mod_lt _ hp0⟩), ?_⟩
  rintro M6 ⟨g1, g2⟩
  have f6 : ∀ o, o < 149 → M6 o = M o := fun o h1 => (g2 o (by omega)).trans (f5 o (by omega) (by omega) (by omega))
  have hWh : ∀ k, k < 12 → M6 149 k = nI (zwh p n t m q k) ∧ zwh p n t m q k < p := by
    intro k hk
    refine ⟨?_, Nat.mod_lt _ hp0⟩
    rw [g1 k hk]
    unfold zwh
    simp only [Nat.zero_add]
  -- paired is cleared
  have key2 := a_loop (σ := Unit) (fun i _ => wX12_isPair X ad ca d x Post 82 [(0, .ref 118), (1, .int (nI m)), (2, .int (nI i))] (mf M6 150 0 (fun _ => 0) i)) (fun _ _ => True) 8 ?_ ?_ 0 () (Nat.zero_le _) trivial
  · rw [mf_0] at key2; exact key2
  rotate_left
  · intro i _ hi _ ih
    refine bX12_isPair_82 _ _ ⟨fun h => absurd h (nI_ge (b := 8) hi (by omega)), fun _ => ⟨n_in hi (by omega), ?_⟩⟩
    rw [n_cl (by omega), mf_s (Nat.zero_le _) rfl, ← nI_succ]
    exact ih () trivial
  intro _ _
  refine bX12_isPair_82 _ _ ⟨fun _ => ?_, fun h => absurd (nI_le (Nat.le_refl 8) (by omega)) h⟩
  rw [mf_no _ _ _ _ _ _ (show 119 ≠ 150 by decide), f6 119 (by decide), hH.1]
  have hz149 : ∀ k, k < 12 → mf M6 150 0 (fun _ => 0) 8 149 k = nI (zwh p n t m q k) := fun k hk => by
    rw [mf_no _ _ _ _ _ _ (by decide)]; exact (hWh k hk).1
  have f7 : ∀ o, o < 149 → mf M6 150 0 (fun _ => 0) 8 o = M o := fun o ho => by
    rw [mf_no _ _ _ _ _ _ (by omega)]; exact f6 o ho
  generalize mf M6 150 0 (fun _ => 0) 8 = M7 at hz149 f7
  have hWlt := fun k (hk : k < 12) => (hWh k hk).2
  have hrec := fun j (hj : j ≤ n + m) => zH_rec p (zna m q) (znb m q) (zwh p n t m q) (n + m) j hj
  have hHl := fun j => zH_lt (p := p) (a := zna m q) (b := znb m q) (f := zwh p n t m q) (N := n + m) (j := j) hp0
  have hHt := fun j (hj : n + m < j) => zH_top p (zna m q) (znb m q) (zwh p n t m q) (n + m) j hj
  have hzq : zqu p n t m q = zH p (zna m q) (znb m q) (zwh p n t m q) (n + m) := rfl
  have hzi : zip p n t m q = true ↔ ∀ k, k < m → zqu p n t m q k = 0 := by
    unfold zip
    rw [List.all_eq_true]
    constructor
    · intro h k hk
      have := h k (List.mem_range.mpr hk)
      simpa using this
    · intro h k hk
      have := h k (List.mem_range.mp hk)
      simpa using this
  rw [hzq] at hzi hPost
  generalize zwh p n t m q = W at hz149 hWlt hrec hHl hHt hzq hzi hPost
  generalize zH p (zna m q) (znb m q) W (n + m) = Hq at hrec hHl hHt hzi hPost hzq
  -- the state of the division
  let Xt : Nat → Nat → Nat := fun t i => if i + t = n + m then Hq i else if m = 2 ∧ i + t + 1 = n + m then zm ((W i : Int) - (znb m q : Int) * (Hq (i + 2) : Int)) p else W i
  have hfin : ∀ M8 : a_M, (∀ i, i + (n + 1) ≤ n + m → M8 149 i = nI (Xt (n + 1) i)) → (∀ k, k ≤ n → M8 150 k = nI (Hq (k + m))) → (∀ o, o < 149 → M8 o = M o) → wX12_isPair X ad ca d x Post 188 [(0, .ref 118), (1, .int (nI m)), (2, .int 1), (3, .int 0)] M8 := by
    intro M8 h1 h2 h3
    refine a_loop (σ := Int32) (fun k f => wX12_isPair X ad ca d x Post 188 [(0, .ref 118), (1, .int (nI m)), (2, .int f), (3, .int (nI k))] M8) (fun k f => (f = 1 ∧ ∀ j, j < k → Xt (n + 1) j = 0) ∨ (f = 0 ∧ ¬ ∀ j, j < m → Xt (n + 1) j = 0)) m ?_ ?_ 0 1 (Nat.zero_le _) (Or.inl ⟨rfl, fun j hj => absurd hj (Nat.not_lt_zero j)⟩)
    · intro f hf
      refine bX12_isPair_188 _ _ _ ⟨fun _ => ⟨?_, ?_⟩, fun h => absurd (nI_le (Nat.le_refl _) (by omega)) h⟩
      · rcases hf with ⟨q, -⟩ | ⟨q, -⟩
        · exact Or.inr q
        · exact Or.inl q
      · have hiff : (∀ j, j < m → Xt (n + 1) j = 0) ↔ ∀ k, k < m → Hq k = 0 := by
          rcases (show m = 0 ∨ m = 1 ∨ m = 2 by omega) with rfl | rfl | rfl
          · exact ⟨fun _ k hk => absurd hk (Nat.not_lt_zero k), fun _ k hk => absurd hk (Nat.not_lt_zero k)⟩
          · have : Xt (n + 1) 0 = Hq 0 := if_pos (by omega)
            constructor
            · intro h k hk; rw [show k = 0 by omega, ← this]; exact h 0 (by omega)
            · intro h k hk; rw [show k = 0 by omega, this]; exact h 0 (by omega)
          · have x1 : Xt (n + 1) 1 = Hq 1 := if_pos (by omega)
            have x0 : Xt (n + 1) 0 = zm ((W 0 : Int) - (znb 2 q : Int) * (Hq (0 + 2) : Int)) p := by
              simp only [Xt]
              rw [if_neg (by omega), if_pos ⟨trivial, by omega⟩]
            have r0 := hrec 0 (by omega)
            have heq : Hq 1 = 0 → Hq 0 = Xt (n + 1) 0 := by
              intro h
              rw [x0, r0, h]
              simp
            constructor
            · intro h k hk
              have h1 : Hq 1 = 0 := by rw [← x1]; exact h 1 (by omega)
              rcases (show k = 0 ∨ k = 1 by omega) with rfl | rfl
              · rw [heq h1]; exact h 0 (by omega)
              · exact h1
            · intro h k hk
              rcases (show k = 0 ∨ k = 1 by omega) with rfl | rfl
              · rw [← heq (h 1 (by omega))]; exact h 0 (by omega)
              · rw [x1]; exact h 1 (by omega)
        rw [← hPost]
        refine ⟨_, rfl, rfl, ?_, h2, h3⟩
        rcases hf with ⟨q1, q2⟩ | ⟨q1, q2⟩
        · rw [if_pos (hzi.mpr (hiff.mp q2))]; exact q1
        · rw [if_neg (fun q => q2 (hiff.mpr (hzi.mp q)))]; exact q1
    · intro k f hk hf ih
      have hX : Xt (n + 1) k < p := by
        simp only [Xt]
        split
        · exact hHl k
        split
        · exact zm_lt hp0
        · exact hWlt k (by omega)
      refine bX12_isPair_188 _ _ _ ⟨fun h => absurd h (nI_ge hk (by omega)), fun _ => ⟨fun h0 => bX12_isPair_210 _ _ ?_, fun h0 => ⟨n_in (by omega) (by omega), fun h4 => bX12_isPair_210 _ _ ?_, fun h4 => ?_⟩⟩⟩
      · rw [← nI_succ]
        refine ih 0 (Or.inr ⟨rfl, ?_⟩)
        rcases hf with ⟨q, -⟩ | ⟨-, q⟩
        · rw [q] at h0; exact absurd h0 (by decide)
        · exact q
      · rw [n_cl (by omega), h1 k (by omega)] at h4
        rw [← nI_succ]
        exact ih 0 (Or.inr ⟨rfl, fun hh => h4 (by rw [hh k hk]; rfl)⟩)
      · rw [n_cl (by omega), h1 k (by omega)] at h4
        have h5 : Xt (n + 1) k = 0 := (nI_eq (b := 0) (by omega) (by omega)).mp h4
        rw [← nI_succ]
        refine ih 1 (Or.inl ⟨rfl, fun j hj => ?_⟩)
        by_cases ej : j = k
        · rw [ej]; exact h5
        · rcases hf with ⟨-, q⟩ | ⟨q, -⟩
          · exact q j (by omega)
          · exact absurd q h0
  have key3 := a_loop (σ := a_M) (fun t M' => wX12_isPair X ad ca d x Post 108 [(0, .ref 118), (1, .int (nI m)), (2, .int (nI (n + 1 - t) - 1))] M') (fun t M' => (∀ i, i + t ≤ n + m → M' 149 i = nI (Xt t i)) ∧ (∀ k, k ≤ n → n < k + t → M' 150 k = nI (Hq (k + m))) ∧ ∀ o, o < 149 → M' o = M o) (n + 1) ?_ ?_ 0 M7 (Nat.zero_le _) ⟨fun i hi => ?_, fun k h1 h2 => absurd h2 (by omega), f7⟩
  · rw [Nat.sub_zero, nI_pred] at key3; exact key3
  · rintro M8 ⟨h1, h2, h3⟩
    rw [Nat.sub_self]
    refine bX12_isPair_108 _ _ ⟨fun _ => hfin M8 h1 (fun k hk => h2 k hk (by omega)) h3, fun h => absurd (by decide) h⟩
  · rintro s M8 hs ⟨h1, h2, h3⟩ ih
    have e1 : nI (n + 1 - s) - 1 = nI (n - s) := by
      rw [show n + 1 - s = (n - s) + 1 by omega, nI_pred]
    have e2 : nI (n - s) + -1 = nI (n + 1 - (s + 1)) - 1 := by
      rw [show n + 1 - (s + 1) = n - s by omega]; exact n_mm _
    have hc : M8 149 (n - s + m) = nI (Hq (n - s + m)) := by
      rw [h1 (n - s + m) (by omega)]
      congr 1
      exact if_pos (by omega)
    rw [e1]
    refine bX12_isPair_108 _ _ ⟨fun h => absurd h (nI_nlt (b := 0) (Nat.zero_le _) (by omega)), fun _ => ?_⟩
    rw [nI_add, n_cl (by omega), n_cl (by omega), hc]
    refine ⟨n_in (by omega) (by omega), n_in (by omega) (by omega), ?_⟩
    have hcl := hHl (n - s + m)
    generalize hk : n - s = k at *
    -- one cell
    have st : ∀ (j w0 : Nat) (M' : a_M), j ≤ m → M' 149 (k + j) = nI w0 → w0 < p → (∀ o, o < 149 → M' o = M o) → wX12_isPair X ad ca d x Post 131 [(0, .ref 118), (1, .int (nI m)), (2, .int (nI k)), (3, .int (nI (Hq (k + m)))), (4, .int (nI (j + 1)))] (ms M' 149 (k + j) (nI (zm ((w0 : Int) - (Hq (k + m) : Int) * (q j : Int)) p))) → wX12_isPair X ad ca d x Post 131 [(0, .ref 118), (1, .int (nI m)), (2, .int (nI k)), (3, .int (nI (Hq (k + m)))), (4, .int (nI j))] M' := by
      intro j w0 M' hj hw0 hw0p hM' h
      have hqj := hq j (by omega)
      refine bX12_isPair_131 _ _ _ _ ⟨fun h => absurd h (nI_nlt (by omega) (by omega)), fun _ => ?_⟩
      rw [nI_add, n_cl (by omega), n_cl (by omega), hw0, hM' 148 (by decide), hqj.1]
      refine ⟨n_in (by omega) (by omega), n_in (by omega) (by omega), _, kX12_left (by omega) _ (by rw [hM' 119 (by decide)]; exact hH.2.2.1) hp0 (by omega), ?_⟩
      rintro v9 M9 ⟨rfl, rfl⟩
      have hqp := hqj.2
      refine ⟨n_in (by omega) (by omega), ?_⟩
      rw [(n_l64 (by omega) (by omega) (by omega)).1, ← nI_succ]
      exact h
    have st2 : ∀ M' : a_M, (∀ i, i + (s + 1) ≤ n + m → M' 149 i = nI (Xt (s + 1) i)) → M' 150 = ms M8 150 k (nI (Hq (k + m))) 150 → (∀ o, o < 149 → M' o = M o) → wX12_isPair X ad ca d x Post 131 [(0, .ref 118), (1, .int (nI m)), (2, .int (nI k)), (3, .int (nI (Hq (k + m)))), (4, .int (nI (m + 1)))] M' := by
      intro M' g1 g2 g3
      refine bX12_isPair_131 _ _ _ _ ⟨fun _ => ?_, fun h => absurd (nI_lt (Nat.lt_succ_self m) (by omega)) h⟩
      rw [e2]
      refine ih M' ⟨g1, fun k2 hk2 hk3 => ?_, g3⟩
      rw [g2]
      by_cases ek : k2 = k
      · subst ek; rw [ms_is]
      · rw [ms_no _ _ _ _ _ _ (by omega)]
        exact h2 k2 hk2 (by omega)
    have h3' : ∀ o, o < 149 → ms M8 150 k (nI (Hq (k + m))) o = M o := fun o ho => by rw [ms_row _ _ _ _ _ (by omega)]; exact h3 o ho
    have h1' : ∀ i, i + s ≤ n + m → ms M8 150 k (nI (Hq (k + m))) 149 i = nI (Xt s i) := fun i hi => by rw [ms_row _ _ _ _ _ (by decide)]; exact h1 i hi
    generalize hM8' : ms M8 150 k (nI (Hq (k + m))) = N0 at h3' h1' st2
    rcases (show m = 0 ∨ m = 1 ∨ m = 2 by omega) with rfl | rfl | rfl
    · -- m = 0
      have hXk : Xt s k = Hq k := if_pos (by omega)
      refine st 0 (Hq k) N0 (by omega) (by rw [h1' (k + 0) (by omega)]; congr 1) (hHl k) h3' (st2 _ (fun i hi => ?_) (by rw [ms_row _ _ _ _ _ (by decide)]) (fun o ho => by rw [ms_row _ _ _ _ _ (by omega)]; exact h3' o ho))
      rw [ms_no _ _ _ _ _ _ (by omega), h1' i (by omega)]
      congr 1
      simp only [Xt]
      rw [if_neg (by omega), if_neg (by omega)]
      by_cases ei : i + (s + 1) = n + 0
      · rw [if_pos ei]
        have := hrec i (by omega)
        rw [this]
        simp only [zna, znb, if_neg (show ¬ (0 : Nat) = 2 by decide), if_neg (show ¬ (0 : Nat) = 1 by decide)]
        simp
        exact (zm_small (hWlt i (by omega))).symm
      · rw [if_neg ei, if_neg (by omega)]
    · -- m = 1
      have hXk : Xt s k = W k := by
        simp only [Xt]
        rw [if_neg (by omega), if_neg (by omega)]
      refine st 0 (W k) N0 (by omega) (by rw [h1' (k + 0) (by omega), ← hXk]; rfl) (hWlt k (by omega)) h3' (st 1 (Hq (k + 1)) _ (by omega) ?_ (hHl _) (fun o ho => by rw [ms_row _ _ _ _ _ (by omega)]; exact h3' o ho) (st2 _ (fun i hi => ?_) (by rw [ms_row _ _ _ _ _ (by decide), ms_row _ _ _ _ _ (by decide)]) (fun o ho => by rw [ms_row _ _ _ _ _ (by omega), ms_row _ _ _ _ _ (by omega)]; exact h3' o ho)))
      · rw [ms_no _ _ _ _ _ _ (by omega), h1' (k + 1) (by omega)]
        congr 1
        exact if_pos (by omega)
      · rw [ms_no _ _ _ _ _ _ (by omega)]
        by_cases ei : i = k
        · subst ei
          rw [show i + 0 = i from rfl, ms_is]
          congr 1
          have : Xt (s + 1) i = Hq i := if_pos (by omega)
          rw [this, hrec i (by omega)]
          simp only [zna, znb, if_neg (show ¬ (1 : Nat) = 2 by decide), if_pos (show (1 : Nat) = 1 from rfl)]
          congr 1
          simp
          rw [Int.mul_comm]
        · rw [ms_no _ _ _ _ _ _ (by omega), h1' i (by omega)]
          congr 1
          simp only [Xt]
          rw [if_neg (by omega), if_neg (by omega), if_neg (by omega), if_neg (by omega)]
    · -- m = 2
      have hXk : Xt s k = W k := by
        simp only [Xt]
        rw [if_neg (by omega), if_neg (by omega)]
      have hXk1 : Xt s (k + 1) = zm ((W (k + 1) : Int) - (znb 2 q : Int) * (Hq (k + 1 + 2) : Int)) p := by
        simp only [Xt]
        rw [if_neg (by omega), if_pos ⟨trivial, by omega⟩]
      refine st 0 (W k) N0 (by omega) (by rw [h1' (k + 0) (by omega), ← hXk]; rfl) (hWlt k (by omega)) h3' (st 1 (Xt s (k + 1)) _ (by omega) ?_ (by rw [hXk1]; exact zm_lt hp0) (fun o ho => by rw [ms_row _ _ _ _ _ (by omega)]; exact h3' o ho) (st 2 (Hq (k + 2)) _ (by omega) ?_ (hHl _) (fun o ho => by rw [ms_row _ _ _ _ _ (by omega), ms_row _ _ _ _ _ (by omega)]; exact h3' o ho) (st2 _ (fun i hi => ?_) (by rw [ms_row _ _ _ _ _ (by decide), ms_row _ _ _ _ _ (by decide), ms_row _ _ _ _ _ (by decide)]) (fun o ho => by rw [ms_row _ _ _ _ _ (by omega), ms_row _ _ _ _ _ (by omega), ms_row _ _ _ _ _ (by omega)]; exact h3' o ho))))
      · rw [ms_no _ _ _ _ _ _ (by omega), h1' (k + 1) (by omega)]
      · rw [ms_no _ _ _ _ _ _ (by omega), ms_no _ _ _ _ _ _ (by omega), h1' (k + 2) (by omega)]
        congr 1
        exact if_pos (by omega)
      · rw [ms_no _ _ _ _ _ _ (by omega)]
        by_cases ei1 : i = k + 1
        · subst ei1
          rw [ms_is]
          congr 1
          have : Xt (s + 1) (k + 1) = Hq (k + 1) := if_pos (by omega)
          rw [this, hrec (k + 1) (by omega), hXk1]
          obtain ⟨z, hz⟩ := zm_d (z := (W (k + 1) : Int) - (znb 2 q : Int) * (Hq (k + 1 + 2) : Int)) hp0
          rw [hz]
          refine zm_c z ?_
          simp only [zna, if_pos (show (2 : Nat) = 2 from rfl)]
          show _ = _ - (q 1 : Int) * (Hq (k + 2) : Int) - _ + _
          grind
        · rw [ms_no _ _ _ _ _ _ (by omega)]
          by_cases ei : i = k
          · subst ei
            rw [show i + 0 = i from rfl, ms_is]
            congr 1
            have : Xt (s + 1) i = zm ((W i : Int) - (znb 2 q : Int) * (Hq (i + 2) : Int)) p := by
              simp only [Xt]
              rw [if_neg (by omega), if_pos ⟨trivial, by omega⟩]
            rw [this]
            congr 1
            have hb2 : znb 2 q = q 0 := rfl
            rw [Int.mul_comm, hb2]
          · rw [ms_no _ _ _ _ _ _ (by omega), h1' i (by omega)]
            congr 1
            simp only [Xt]
            rw [if_neg (by omega), if_neg (by omega), if_neg (by omega), if_neg (by omega)]
  · rw [hz149 i (by omega)]
    congr 1
    simp only [Xt]
    by_cases e1 : i + 0 = n + m
    · rw [if_pos e1, hrec i (by omega), hHt (i + 1) (by omega), hHt (i + 2) (by omega)]
      simp
      exact (zm_small (hWlt i (by omega))).symm
    · rw [if_neg e1]
      by_cases e2 : m = 2 ∧ i + 0 + 1 = n + m
      · rw [if_pos e2, hHt (i + 2) (by omega)]
        simp
        exact (zm_small (hWlt i (by omega))).symm
      · rw [if_neg e2]
end Z27
