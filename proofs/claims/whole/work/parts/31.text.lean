/-! CONTRACTS 12: expressions of texts, reckoned on both sides. A word: a number (0 .. 9999), -1 u, -2 eta, -3 d, -4 minus, -5 +, -6 -, -7 *, -8 / -/
def zjn (p : Nat) (w : Int32) (a b : Nat) : Nat := if w = -5 then (a + b) % p else if w = -6 then (a + (p - b)) % p else if w = -7 then a * b % p else zv p a b
def znm (p t e u : Nat) (w : Int32) : Nat := if w < 0 then (if w = -1 then u else if w = -2 then t else e) else w.toInt.toNat % p
def zstep (p t e u : Nat) (q : Nat × (Nat → Nat)) (w : Int32) : Nat × (Nat → Nat) :=
  if w < -3 then (if w = -4 then (q.1, va_up q.2 (q.1 - 1) ((p - q.2 (q.1 - 1)) % p)) else (q.1 - 1, va_up q.2 (q.1 - 2) (zjn p w (q.2 (q.1 - 2)) (q.2 (q.1 - 1)))))
  else (q.1 + 1, va_up q.2 q.1 (znm p t e u w))
def zwd (w : Int32) : Prop := (∃ k, k ≤ 9999 ∧ w = nI k) ∨ w = -1 ∨ w = -2 ∨ w = -3 ∨ w = -4 ∨ w = -5 ∨ w = -6 ∨ w = -7 ∨ w = -8
def zok : List Int32 → Nat → Prop
  | [], k => k = 1
  | w :: c, k => zwd w ∧ if w < -3 then (if w = -4 then 1 ≤ k ∧ zok c k else 2 ≤ k ∧ zok c (k - 1)) else k < 40 ∧ zok c (k + 1)
def zrun (p t e u : Nat) (c : List Int32) (q : Nat × (Nat → Nat)) : Nat × (Nat → Nat) := c.foldl (zstep p t e u) q
def zval (p t e u : Nat) (c : List Int32) : Nat := (zrun p t e u c (0, fun _ => 0)).2 0
/-- the reference's order and value of a word -/
def zor (w : Int32) : Int32 := if w < 0 then (if w < -3 then (if w = -4 then 402 else if w = -5 then 43 else if w = -6 then 45 else if w = -7 then 42 else 47) else 401) else 400
def zvl (w : Int32) : Int32 := if w < 0 then (if w = -2 then 1 else if w = -3 then 2 else 0) else w
theorem zjn_lt {p : Nat} (hp : 0 < p) (w : Int32) (a b : Nat) : zjn p w a b < p := by
  unfold zjn
  split
  · exact Nat.mod_lt _ hp
  · split
    · exact Nat.mod_lt _ hp
    · split
      · exact Nat.mod_lt _ hp
      · exact zv_lt hp
theorem znm_lt {p t e u : Nat} (hp : 0 < p) (ht : t < p) (he : e < p) (hu : u < p) (w : Int32) : znm p t e u w < p := by
  unfold znm
  split
  · split
    · exact hu
    · split
      · exact ht
      · exact he
  · exact Nat.mod_lt _ hp
theorem zstep_ok {p t e u : Nat} (hp : 0 < p) (ht : t < p) (he : e < p) (hu : u < p) {q : Nat × (Nat → Nat)} {w : Int32} (hq : ∀ j, j < q.1 → q.2 j < p) : ∀ j, j < (zstep p t e u q w).1 → (zstep p t e u q w).2 j < p := by
  intro j hj
  unfold zstep at hj ⊢
  by_cases c1 : w < -3
  · rw [if_pos c1] at hj ⊢
    by_cases c2 : w = -4
    · rw [if_pos c2] at hj ⊢
      show va_up q.2 (q.1 - 1) _ j < p
      unfold va_up
      split
      · exact Nat.mod_lt _ hp
      · exact hq j hj
    · rw [if_neg c2] at hj ⊢
      have hj' : j < q.1 - 1 := hj
      show va_up q.2 (q.1 - 2) _ j < p
      unfold va_up
      split
      · exact zjn_lt hp _ _ _
      · exact hq j (by omega)
  · rw [if_neg c1] at hj ⊢
    have hj' : j < q.1 + 1 := hj
    show va_up q.2 q.1 _ j < p
    unfold va_up
    split
    · exact znm_lt hp ht he hu _
    · exact hq j (by omega)
theorem n_neg {p a : Nat} (ha : a < p) (hp : p < 2 ^ 30) : zm (-(nI a)).toInt p = (p - a) % p := by
  have e : (-(nI a)).toInt = -(a : Int) := sb_negT (by omega)
  rw [e]
  unfold zm
  by_cases h : a = 0
  · subst h; simp
  · rw [Nat.mod_eq_of_lt (by omega)]
    have : (-(a : Int)) % (p : Int) = (p : Int) - a := by
      rw [← Int.add_emod_right (-(a : Int)) p, Int.emod_eq_of_lt (by omega) (by omega)]
      omega
    omega
theorem n_subm {p a b : Nat} (ha : a < p) (hb : b < p) (hp : p < 2 ^ 30) : zm (nI a - nI b).toInt p = (a + (p - b)) % p := by
  have e : (nI a - nI b).toInt = (a : Int) - b := pk_sub_toInt (by omega) (by omega)
  rw [e]
  unfold zm
  have : ((a : Int) - b) % (p : Int) = (((a + (p - b)) % p : Nat) : Int) := by
    rw [Int.natCast_emod, show (((a + (p - b) : Nat)) : Int) = (a : Int) - b + p by omega, Int.add_emod_right]
  rw [this]
  omega
section Z13
variable {X : a_X} {ad : Nat → Nat} {ca : Nat → ClassId} {d x : Nat} {M : a_M}
theorem kX7_joined (hd : 2 ≤ d) {p a b : Nat} {w : Int32} (hp : p ∈ zpl) (ha : a < p) (hb : b < p) (hw : zwd w) (hw3 : w < -3) (hw4 : w ≠ -4) : mX7_joined X ad ca d x [.int w, .int (nI a), .int (nI b), .int (nI p)] M (q_i (PT x) (fun s M' => M' = M ∧ s = nI (zjn p w a b))) := by
  obtain ⟨d, rfl⟩ := a_d1 (show 1 ≤ d by omega)
  have hpb := zpl_b p hp
  have hab := n_p2 ha hb (by omega)
  refine eX7_joined _ _ _ _ (bX7_joined_0 _ _ _ _ ⟨fun h => ?_, fun h => ?_, fun h => ?_, fun h => ?_⟩)
  · rw [n_mul]
    refine ⟨_, kX11_left (by omega) _ (by omega) (by omega), ?_⟩
    rintro v1 M1 ⟨rfl, rfl⟩
    refine ⟨_, rfl, rfl, rfl, ?_⟩
    rw [nI_toInt (by omega), zm_nat, h]
    rfl
  · refine ⟨_, kX11_left (by omega) _ (by omega) (by omega), ?_⟩
    rintro v1 M1 ⟨rfl, rfl⟩
    refine ⟨_, rfl, rfl, rfl, ?_⟩
    rw [n_subm ha hb (by omega), h]
    rfl
  · rw [nI_add]
    refine ⟨_, kX11_left (by omega) _ (by omega) (by omega), ?_⟩
    rintro v1 M1 ⟨rfl, rfl⟩
    refine ⟨_, rfl, rfl, rfl, ?_⟩
    rw [nI_toInt (by omega), zm_nat, h]
    rfl
  · have hw8 : w = -8 := by
      rcases hw with ⟨k, hk, rfl⟩ | rfl | rfl | rfl | rfl | rfl | rfl | rfl | rfl
      · exact absurd (fa_trans hw3 (show (-3 : Int32) ≤ 0 by decide)) (nI_pos (by omega))
      · exact absurd hw3 (by decide)
      · exact absurd hw3 (by decide)
      · exact absurd hw3 (by decide)
      · exact absurd rfl hw4
      · exact absurd h (by decide)
      · exact absurd h (by decide)
      · exact absurd h (by decide)
      · rfl
    have e : nI p - 2 = nI (p - 2) := pk_sub (a := p) (b := 2) (by omega)
    rw [e]
    refine ⟨_, kX11_raised (by omega) (by omega) (by omega) (by omega) (by omega), ?_⟩
    rintro v1 M1 ⟨rfl, rfl⟩
    have hm : b ^ (p - 2) % p < p := Nat.mod_lt _ (by omega)
    have h2 := n_p2 ha hm (by omega)
    rw [n_mul]
    refine ⟨_, kX11_left (by omega) _ (by omega) (by omega), ?_⟩
    rintro v1 M1 ⟨rfl, rfl⟩
    refine ⟨_, rfl, rfl, rfl, ?_⟩
    rw [nI_toInt (by omega), zm_nat, hw8]
    rfl
theorem kX12_worked (hd : 2 ≤ d) {p a b : Nat} {w : Int32} (hP : M 119 2 = nI p) (hp : p ∈ zpl) (ha : a < p) (hb : b < p) (hw : zwd w) (hw3 : w < -3) (hw4 : w ≠ -4) : mX12_worked X ad ca d x [.ref 118, .int (zor w), .int (nI a), .int (nI b)] M (q_i (PT x) (fun s M' => M' = M ∧ s = nI (zjn p w a b))) := by
  obtain ⟨d, rfl⟩ := a_d1 (show 1 ≤ d by omega)
  have hpb := zpl_b p hp
  have hab := n_p2 ha hb (by omega)
  have hz : ¬ nI p = 0 := nI_ne0 (by omega) (by omega)
  refine eX12_worked _ _ _ (bX12_worked_0 _ _ _ ?_)
  rw [hP]
  have hsub : nI a - nI b + nI p = nI (a + (p - b)) := by
    apply Int32.toInt_inj.1
    have e1 : (nI a - nI b).toInt = (a : Int) - b := pk_sub_toInt (by omega) (by omega)
    have e2 : (nI p).toInt = (p : Int) := nI_toInt (by omega)
    have e3 : (nI (a + (p - b))).toInt = ((a + (p - b) : Nat) : Int) := nI_toInt (by omega)
    rw [fb_addI (by omega) (by omega), e1, e2, e3]
    omega
  rcases hw with ⟨k, hk, rfl⟩ | rfl | rfl | rfl | rfl | rfl | rfl | rfl | rfl
  · exact absurd (fa_trans hw3 (show (-3 : Int32) ≤ 0 by decide)) (nI_pos (by omega))
  · exact absurd hw3 (by decide)
  · exact absurd hw3 (by decide)
  · exact absurd hw3 (by decide)
  · exact absurd rfl hw4
  · refine ⟨fun h => absurd h (by decide), fun _ => ⟨hz, ?_⟩, fun h => absurd h (by decide), fun h => absurd h (by decide), fun h => absurd h (by decide)⟩
    rw [nI_add, n_rem (by omega) (by omega) (by omega)]
    exact ⟨_, rfl, rfl, rfl, rfl⟩
  · refine ⟨fun h => absurd h (by decide), fun h => absurd h (by decide), fun h => absurd h (by decide), fun _ => ⟨hz, ?_⟩, fun h => absurd h (by decide)⟩
    rw [hsub, n_rem (by omega) (by omega) (by omega)]
    exact ⟨_, rfl, rfl, rfl, rfl⟩
  · refine ⟨fun _ => ⟨hz, ?_⟩, fun h => absurd h (by decide), fun h => absurd h (by decide), fun h => absurd h (by decide), fun h => absurd h (by decide)⟩
    rw [n_mul, n_rem (by omega) (by omega) (by omega)]
    exact ⟨_, rfl, rfl, rfl, rfl⟩
  · refine ⟨fun h => absurd h (by decide), fun h => absurd h (by decide), fun h => absurd h (by decide), fun h => absurd h (by decide), fun _ => bX12_worked_72 _ _ ⟨_, kX12_over (by omega) hP hp ha hb, ?_⟩⟩
    rintro v1 M1 ⟨rfl, rfl⟩
    exact ⟨_, rfl, rfl, rfl, rfl⟩
theorem kX7_named (hd : 1 ≤ d) {o n r p t e u : Nat} {w : Int32} (hL : LY[o]? = some (6, 5)) (hH : rH M o n r p t e) (hw0 : w < 0) (hw3 : ¬ w < -3) : mX7_named X ad ca d x [.int w, .int (nI u), .ref o] M (q_i (PT x) (fun s M' => M' = M ∧ s = nI (znm p t e u w))) := by
  obtain ⟨d, rfl⟩ := a_d1 hd
  refine eX7_named _ _ _ (bX7_named_0 _ _ _ hL ⟨fun h1 => ⟨fun h2 => ⟨_, rfl, rfl, rfl, ?_⟩, fun h2 => ⟨_, rfl, rfl, rfl, ?_⟩⟩, fun h1 => ⟨_, rfl, rfl, rfl, ?_⟩⟩)
  · rw [hH.2.2.2.2]; unfold znm; rw [if_pos hw0, if_neg h1, if_neg h2]
  · rw [hH.2.2.2.1]; unfold znm; rw [if_pos hw0, if_neg h1, if_pos h2]
  · unfold znm; rw [if_pos hw0, if_pos h1]
/-- the words from place b on in a row -/
def wds (f : Nat → Int32) (b : Nat) (c : List Int32) : Prop := ∀ i w, c[i]? = some w → f (b + i) = w
theorem wds_cons {f : Nat → Int32} {b : Nat} {w : Int32} {c : List Int32} (h : wds f b (w :: c)) : f b = w ∧ wds f (b + 1) c := ⟨h 0 w rfl, fun i v hv => by have := h (i + 1) v hv; rw [show b + 1 + i = b + (i + 1) by omega]; exact this⟩
theorem kX7_reckoned (hd : 3 ≤ d) {o o3 n r p t e u k b : Nat} {c : List Int32} (hL : LY[o]? = some (7, 7)) (hL2 : LY[o + 2]? = some (100, 31)) (hL3 : LY[o + 3]? = some (100, 300)) (hL5 : LY[o + 5]? = some (100, 40)) (hp2 : PT x o 2 = (o + 2) + 1) (hp3 : PT x o 3 = (o + 3) + 1) (hp5 : PT x o 5 = (o + 5) + 1) (hLr : LY[o3]? = some (6, 5)) (hH : rH M o3 n r p t e) (hw : wH n r p t e) (hu : u < p) (hk : k < 30) (hb : M (o + 2) k = nI b) (hb2 : M (o + 2) (k + 1) = nI (b + c.length)) (hc3 : b + c.length ≤ 300) (hc : wds (M (o + 3)) b c) (hok : zok c 0) :
    mX7_reckoned X ad ca d x [.ref o, .int (nI k), .int (nI u), .ref o3] M (q_i (PT x) (fun s M' => s = nI (zval p t e u c) ∧ ∀ i, i ≠ o + 5 → M' i = M i)) := by
  obtain ⟨d, rfl⟩ := a_d1 (show 1 ≤ d by omega)
  have hpb := zpl_b p hw.2.2.2.1
  have ht := hw.2.2.2.2.2.1
  have he := hw.2.2.2.2.2.2
  have hne : o3 ≠ o + 5 := ly_ne hLr hL5 (by decide)
  refine eX7_reckoned _ _ _ _ (bX7_reckoned_0 _ _ _ _ _ _ hL hLr hL2 hp2 ⟨n_in (by omega) (by omega), ?_⟩)
  rw [n_cl (by omega), hb]
  have key : ∀ (c' : List Int32) (b' : Nat) (q : Nat × (Nat → Nat)) (M' : a_M), b' + c'.length = b + c.length → wds (M (o + 3)) b' c' → zok c' q.1 → q.1 ≤ 40 → (∀ j, j < q.1 → q.2 j < p) → (∀ j, j < q.1 → M' (o + 5) j = nI (q.2 j)) → (∀ i, i ≠ o + 5 → M' i = M i) → zrun p t e u c' q = zrun p t e u c (0, fun _ => 0) → wX7_reckoned X ad ca d x (q_i (PT x) (fun s M' => s = nI (zval p t e u c) ∧ ∀ i, i ≠ o + 5 → M' i = M i)) 11 [(0, .ref o), (1, .int (nI k)), (2, .int (nI u)), (3, .ref o3), (4, .int (nI q.1)), (5, .int (nI b'))] M' := by
    intro c'
    induction c' with
    | nil =>
      intro b' q M' hbl _ hk1 hk40 hq hr hf hrun
      have hk1' : q.1 = 1 := hk1
      refine bX7_reckoned_11 _ _ _ _ _ _ _ _ _ _ _ _ hL hLr hL2 hp2 hL5 hp5 hL3 hp3 ?_
      rw [nI_1, n_cl (by omega), hf (o + 2) (by omega), hb2]
      have hbl' : b' = b + c.length := by simpa using hbl
      refine ⟨n_in (by omega) (by omega), fun _ => ⟨fun h => absurd h (nI_nle (by omega) (by omega)), fun _ => ?_⟩, fun h => absurd (nI_le (by omega) (by omega)) h⟩
      have e1 : nI q.1 - 1 = nI 0 := by rw [hk1']; rfl
      rw [e1]
      refine ⟨n_in (by omega) (by omega), _, rfl, rfl, ?_, hf⟩
      rw [n_cl (by omega), hr 0 (by omega)]
      unfold zval
      rw [← hrun]
      rfl
    | cons w c' ih =>
      intro b' q M' hbl hwd hokc hk40 hq hr hf hrun
      obtain ⟨hwz, hokr⟩ := hokc
      obtain ⟨hf0, hwd'⟩ := wds_cons hwd
      have hlen : b' + (c'.length + 1) = b + c.length := by simpa using hbl
      have hword : M' (o + 3) b' = w := by rw [hf (o + 3) (by omega)]; exact hf0
      have hP' : M' o3 2 = nI p := by rw [hf o3 hne]; exact hH.2.2.1
      have hrun' : zrun p t e u c' (zstep p t e u q w) = zrun p t e u c (0, fun _ => 0) := hrun
      have hqs := zstep_ok (w := w) (show 0 < p by omega) ht he hu hq
      have hnext : ∀ (M2 : a_M), (zstep p t e u q w).1 ≤ 40 → zok c' (zstep p t e u q w).1 → (∀ j, j < (zstep p t e u q w).1 → M2 (o + 5) j = nI ((zstep p t e u q w).2 j)) → (∀ i, i ≠ o + 5 → M2 i = M i) → wX7_reckoned X ad ca d x (q_i (PT x) (fun s M' => s = nI (zval p t e u c) ∧ ∀ i, i ≠ o + 5 → M' i = M i)) 171 [(0, .ref o), (1, .int (nI k)), (2, .int (nI u)), (3, .ref o3), (4, .int (nI (zstep p t e u q w).1)), (5, .int (nI b'))] M2 := by
        intro M2 g1 g2 g3 g4
        refine bX7_reckoned_171 _ _ _ _ _ _ hL hLr ?_
        rw [← nI_succ]
        exact ih (b' + 1) _ M2 (by omega) hwd' g2 g1 hqs g3 g4 hrun'
      refine bX7_reckoned_11 _ _ _ _ _ _ _ _ _ _ _ _ hL hLr hL2 hp2 hL5 hp5 hL3 hp3 ?_
      rw [nI_1, n_cl (show k + 1 < 2 ^ 31 by omega), hf (o + 2) (by omega), hb2, n_cl (show b' < 2 ^ 31 by omega), hword, hP']
      refine ⟨n_in (by omega) (by omega), fun h => absurd h (nI_ge (by omega) (by omega)), fun _ => ⟨n_in (by omega) (by omega), fun h3 => ⟨fun h4 => ?_, fun h4 => ?_⟩, fun h3 => ?_⟩⟩
      · rw [if_pos h3, if_neg h4] at hokr
        obtain ⟨hk2, hokr⟩ := hokr
        have hz : zstep p t e u q w = (q.1 - 1, va_up q.2 (q.1 - 2) (zjn p w (q.2 (q.1 - 2)) (q.2 (q.1 - 1)))) := by unfold zstep; rw [if_pos h3, if_neg h4]
        have e1 : nI q.1 + (-1) = nI (q.1 - 1) := sb_m1 (by omega)
        have e2 : nI (q.1 - 1) - 1 = nI (q.1 - 2) := pk_sub (a := q.1 - 1) (b := 1) (by omega)
        rw [e1, e2, n_cl (show q.1 - 2 < 2 ^ 31 by omega), n_cl (show q.1 - 1 < 2 ^ 31 by omega), hr _ (show q.1 - 2 < q.1 by omega), hr _ (show q.1 - 1 < q.1 by omega)]
        refine ⟨fun h => absurd h (nI_ge (a := 1) (by omega) (by omega)), fun _ => ⟨n_in (by omega) (by omega), n_in (by omega) (by omega), _, kX7_joined (by omega) hw.2.2.2.1 (hq _ (by omega)) (hq _ (by omega)) hwz h3 h4, ?_⟩⟩
        rintro v1 M1 ⟨rfl, rfl⟩
        refine ⟨n_in (by omega) (by omega), ?_⟩
        have := hnext (ms M1 (o + 5) (q.1 - 2) (nI (zjn p w (q.2 (q.1 - 2)) (q.2 (q.1 - 1))))) (by rw [hz]; show q.1 - 1 ≤ 40; omega) (by rw [hz]; exact hokr) ?_ (fun i hi => by rw [ms_row _ _ _ _ _ hi]; exact hf i hi)
        · rw [hz] at this; exact this
        · rw [hz]
          intro j hj
          have hj' : j < q.1 - 1 := hj
          show _ = nI (va_up q.2 (q.1 - 2) _ j)
          by_cases ej : j = q.1 - 2
          · rw [ej, ms_is, vu]
          · rw [ms_no _ _ _ _ _ _ (fun g => ej g.2), vn _ _ _ _ ej]
            exact hr j (by omega)
      · rw [if_pos h3, if_pos h4] at hokr
        obtain ⟨hk1, hokr⟩ := hokr
        have hz : zstep p t e u q w = (q.1, va_up q.2 (q.1 - 1) ((p - q.2 (q.1 - 1)) % p)) := by unfold zstep; rw [if_pos h3, if_pos h4]
        have e1 : nI q.1 - 1 = nI (q.1 - 1) := pk_sub (a := q.1) (b := 1) (by omega)
        rw [e1, n_cl (show q.1 - 1 < 2 ^ 31 by omega), hr _ (show q.1 - 1 < q.1 by omega)]
        refine ⟨fun h => absurd h (nI_nle (by omega) (by omega)), fun _ => ⟨n_in (by omega) (by omega), _, kX11_left (by omega) _ (by omega) (by omega), ?_⟩⟩
        rintro v1 M1 ⟨rfl, rfl⟩
        refine ⟨n_in (by omega) (by omega), ?_⟩
        rw [n_neg (hq _ (by omega)) (by omega)]
        have := hnext (ms M1 (o + 5) (q.1 - 1) (nI ((p - q.2 (q.1 - 1)) % p))) (by rw [hz]; exact hk40) (by rw [hz]; exact hokr) ?_ (fun i hi => by rw [ms_row _ _ _ _ _ hi]; exact hf i hi)
        · rw [hz] at this; exact this
        · rw [hz]
          intro j hj
          have hj' : j < q.1 := hj
          show _ = nI (va_up q.2 (q.1 - 1) _ j)
          by_cases ej : j = q.1 - 1
          · rw [ej, ms_is, vu]
          · rw [ms_no _ _ _ _ _ _ (fun g => ej g.2), vn _ _ _ _ ej]
            exact hr j (by omega)
      · rw [if_neg h3] at hokr
        obtain ⟨hk1, hokr⟩ := hokr
        have hz : zstep p t e u q w = (q.1 + 1, va_up q.2 q.1 (znm p t e u w)) := by unfold zstep; rw [if_neg h3]
        have hpush : ∀ M1 : a_M, M1 = M' → wX7_reckoned X ad ca d x (q_i (PT x) (fun s M' => s = nI (zval p t e u c) ∧ ∀ i, i ≠ o + 5 → M' i = M i)) 171 [(0, .ref o), (1, .int (nI k)), (2, .int (nI u)), (3, .ref o3), (4, .int (nI (q.1 + 1))), (5, .int (nI b'))] (ms M1 (o + 5) q.1 (nI (znm p t e u w))) := by
          rintro M1 rfl
          have := hnext (ms M1 (o + 5) q.1 (nI (znm p t e u w))) (by rw [hz]; show q.1 + 1 ≤ 40; omega) (by rw [hz]; exact hokr) ?_ (fun i hi => by rw [ms_row _ _ _ _ _ hi]; exact hf i hi)
          · rw [hz] at this; exact this
          · rw [hz]
            intro j hj
            have hj' : j < q.1 + 1 := hj
            show _ = nI (va_up q.2 q.1 _ j)
            by_cases ej : j = q.1
            · rw [ej, ms_is, vu]
            · rw [ms_no _ _ _ _ _ _ (fun g => ej g.2), vn _ _ _ _ ej]
              exact hr j (by omega)
        have hzl := znm_lt (show 0 < p by omega) ht he hu w
        refine ⟨fun h => absurd h (nI_ge (by omega) (by omega)), fun _ => ⟨fun h0 => ⟨_, kX7_named (by omega) hLr (hH.same (hf o3 hne)) h0 h3, ?_⟩, fun h0 => ⟨_, kX11_left (by omega) _ (by omega) (by omega), ?_⟩⟩⟩
        · rintro v1 M1 ⟨rfl, rfl⟩
          rw [hP']
          refine ⟨_, kX11_left (by omega) _ (by omega) (by omega), ?_⟩
          rintro v1 M1 ⟨rfl, rfl⟩
          refine ⟨n_in (by omega) (by omega), ?_⟩
          rw [nI_toInt (by omega), zm_nat, Nat.mod_eq_of_lt hzl, n_cl (by omega), nI_1]
          exact hpush _ rfl
        · rintro v1 M1 ⟨rfl, rfl⟩
          refine ⟨n_in (by omega) (by omega), ?_⟩
          have e9 : zm w.toInt p = znm p t e u w := by
            unfold znm
            rw [if_neg h0]
            rcases hwz with ⟨j, hj, rfl⟩ | rfl | rfl | rfl | rfl | rfl | rfl | rfl | rfl
            · rw [nI_toInt (by omega), zm_nat]; rfl
            all_goals exact absurd (by decide) h0
          rw [e9, n_cl (by omega), nI_1]
          exact hpush _ rfl
  exact key c b (0, fun _ => 0) M rfl hc hok (by show 0 ≤ 40; omega) (fun j hj => absurd hj (Nat.not_lt_zero j)) (fun j hj => absurd hj (Nat.not_lt_zero j)) (fun _ _ => rfl) rfl
theorem kX12_saysOf (hd : 3 ≤ d) {n r p t e u b : Nat} {c : List Int32} (hH : mH M n r p t e) (hw : wH n r p t e) (hu : u < p) (hb : b + c.length < 1600) (hc : wds (M 126) b (c.map zor)) (hcv : wds (M 127) b (c.map zvl)) (hend : M 126 (b + c.length) = 408) (hok : zok c 0) :
    mX12_saysOf X ad ca d x [.ref 118, .int (nI b), .int (nI u)] M (q_i (PT x) (fun s M' => s = nI (zval p t e u c) ∧ ∀ i, i ≠ 136 → M' i = M i)) := by
  obtain ⟨d, rfl⟩ := a_d1 (show 1 ≤ d by omega)
  have hpb := zpl_b p hw.2.2.2.1
  have ht := hw.2.2.2.2.2.1
  have he := hw.2.2.2.2.2.2
  refine eX12_saysOf _ _ (bX12_saysOf_0 _ _ ?_)
  have key : ∀ (c' : List Int32) (b' : Nat) (q : Nat × (Nat → Nat)) (M' : a_M), b' + c'.length = b + c.length → wds (M 126) b' (c'.map zor) → wds (M 127) b' (c'.map zvl) → zok c' q.1 → q.1 ≤ 40 → (∀ j, j < q.1 → q.2 j < p) → (∀ j, j < q.1 → M' 136 j = nI (q.2 j)) → (∀ i, i ≠ 136 → M' i = M i) → zrun p t e u c' q = zrun p t e u c (0, fun _ => 0) → wX12_saysOf X ad ca d x (q_i (PT x) (fun s M' => s = nI (zval p t e u c) ∧ ∀ i, i ≠ 136 → M' i = M i)) 5 [(0, .ref 118), (2, .int (nI u)), (3, .int (nI q.1)), (4, .int (nI b'))] M' := by
    intro c'
    induction c' with
    | nil =>
      intro b' q M' hbl _ _ hk1 hk40 hq hr hf hrun
      have hk1' : q.1 = 1 := hk1
      have hbl' : b' = b + c.length := by simpa using hbl
      refine bX12_saysOf_5 _ _ _ ?_
      rw [n_cl (show b' < 2 ^ 31 by omega), hf 126 (by decide), hbl', hend]
      refine ⟨n_in (by omega) (by omega), fun _ => ⟨_, rfl, rfl, ?_, hf⟩, fun h => absurd rfl h⟩
      rw [hr 0 (by omega)]
      unfold zval
      rw [← hrun]
      rfl
    | cons w c' ih =>
      intro b' q M' hbl hwd hwv hokc hk40 hq hr hf hrun
      obtain ⟨hwz, hokr⟩ := hokc
      obtain ⟨hf0, hwd'⟩ := wds_cons hwd
      obtain ⟨hg0, hwv'⟩ := wds_cons hwv
      have hlen : b' + (c'.length + 1) = b + c.length := by simpa using hbl
      have hword : M' 126 b' = zor w := by rw [hf 126 (by decide)]; exact hf0
      have hvalw : M' 127 b' = zvl w := by rw [hf 127 (by decide)]; exact hg0
      have hP' : M' 119 2 = nI p := by rw [hf 119 (by decide)]; exact hH.2.2.1
      have hT' : M' 119 3 = nI t := by rw [hf 119 (by decide)]; exact hH.2.2.2.1
      have hE' : M' 119 4 = nI e := by rw [hf 119 (by decide)]; exact hH.2.2.2.2
      have hzp : ¬ nI p = 0 := nI_ne0 (by omega) (by omega)
      have hrun' : zrun p t e u c' (zstep p t e u q w) = zrun p t e u c (0, fun _ => 0) := hrun
      have hqs := zstep_ok (w := w) (show 0 < p by omega) ht he hu hq
      have hnext : ∀ (M2 : a_M), (zstep p t e u q w).1 ≤ 40 → zok c' (zstep p t e u q w).1 → (∀ j, j < (zstep p t e u q w).1 → M2 136 j = nI ((zstep p t e u q w).2 j)) → (∀ i, i ≠ 136 → M2 i = M i) → wX12_saysOf X ad ca d x (q_i (PT x) (fun s M' => s = nI (zval p t e u c) ∧ ∀ i, i ≠ 136 → M' i = M i)) 199 [(0, .ref 118), (2, .int (nI u)), (3, .int (nI (zstep p t e u q w).1)), (4, .int (nI b'))] M2 := by
        intro M2 g1 g2 g3 g4
        refine bX12_saysOf_199 _ _ _ ?_
        rw [← nI_succ]
        exact ih (b' + 1) _ M2 (by omega) hwd' hwv' g2 g1 hqs g3 g4 hrun'
      have hpush : ∀ v : Nat, ¬ w < -3 → v = znm p t e u w → wX12_saysOf X ad ca d x (q_i (PT x) (fun s M' => s = nI (zval p t e u c) ∧ ∀ i, i ≠ 136 → M' i = M i)) 199 [(0, .ref 118), (2, .int (nI u)), (3, .int (nI (q.1 + 1))), (4, .int (nI b'))] (ms M' 136 q.1 (nI v)) := by
        rintro v h3 rfl
        rw [if_neg h3] at hokr
        have hz : zstep p t e u q w = (q.1 + 1, va_up q.2 q.1 (znm p t e u w)) := by unfold zstep; rw [if_neg h3]
        have := hnext (ms M' 136 q.1 (nI (znm p t e u w))) (by rw [hz]; show q.1 + 1 ≤ 40; omega) (by rw [hz]; exact hokr.2) ?_ (fun i hi => by rw [ms_row _ _ _ _ _ hi]; exact hf i hi)
        · rw [hz] at this; exact this
        · rw [hz]
          intro j hj
          have hj' : j < q.1 + 1 := hj
          show _ = nI (va_up q.2 q.1 _ j)
          by_cases ej : j = q.1
          · rw [ej, ms_is, vu]
          · rw [ms_no _ _ _ _ _ _ (fun g => ej g.2), vn _ _ _ _ ej]
            exact hr j (by omega)
      have hjoin : w < -3 → w ≠ -4 → vp_in (nI b') 1600 ∧ vp_in ((nI q.1 + (-1)) - 1) 200 ∧ vp_in (nI q.1 + (-1)) 200 ∧ ∃ Q1 : Int32 → a_M → Prop, mX12_worked X ad ca d x [.ref 118, .int (zor w), .int (M' 136 (((nI q.1 + (-1)) - 1).toNatClampNeg)), .int (M' 136 ((nI q.1 + (-1)).toNatClampNeg))] M' (q_i (PT x) Q1) ∧ ∀ v1 M1, Q1 v1 M1 → vp_in ((nI q.1 + (-1)) - 1) 200 ∧ wX12_saysOf X ad ca d x (q_i (PT x) (fun s M' => s = nI (zval p t e u c) ∧ ∀ i, i ≠ 136 → M' i = M i)) 199 [(0, .ref 118), (2, .int (nI u)), (3, .int (nI q.1 + (-1))), (4, .int (nI b'))] (ms M1 136 (((nI q.1 + (-1)) - 1).toNatClampNeg) v1) := by
        intro h3 h4
        rw [if_pos h3, if_neg h4] at hokr
        obtain ⟨hk2, hokr⟩ := hokr
        have hz : zstep p t e u q w = (q.1 - 1, va_up q.2 (q.1 - 2) (zjn p w (q.2 (q.1 - 2)) (q.2 (q.1 - 1)))) := by unfold zstep; rw [if_pos h3, if_neg h4]
        have e1 : nI q.1 + (-1) = nI (q.1 - 1) := sb_m1 (by omega)
        have e2 : nI (q.1 - 1) - 1 = nI (q.1 - 2) := pk_sub (a := q.1 - 1) (b := 1) (by omega)
        rw [e1, e2, n_cl (show q.1 - 2 < 2 ^ 31 by omega), n_cl (show q.1 - 1 < 2 ^ 31 by omega), hr _ (show q.1 - 2 < q.1 by omega), hr _ (show q.1 - 1 < q.1 by omega)]
        refine ⟨n_in (by omega) (by omega), n_in (by omega) (by omega), n_in (by omega) (by omega), _, kX12_worked (by omega) hP' hw.2.2.2.1 (hq _ (by omega)) (hq _ (by omega)) hwz h3 h4, ?_⟩
        rintro v1 M1 ⟨rfl, rfl⟩
        refine ⟨n_in (by omega) (by omega), ?_⟩
        have := hnext (ms M1 136 (q.1 - 2) (nI (zjn p w (q.2 (q.1 - 2)) (q.2 (q.1 - 1))))) (by rw [hz]; show q.1 - 1 ≤ 40; omega) (by rw [hz]; exact hokr) ?_ (fun i hi => by rw [ms_row _ _ _ _ _ hi]; exact hf i hi)
        · rw [hz] at this; exact this
        · rw [hz]
          intro j hj
          have hj' : j < q.1 - 1 := hj
          show _ = nI (va_up q.2 (q.1 - 2) _ j)
          by_cases ej : j = q.1 - 2
          · rw [ej, ms_is, vu]
          · rw [ms_no _ _ _ _ _ _ (fun g => ej g.2), vn _ _ _ _ ej]
            exact hr j (by omega)
      have hbin : vp_in (nI b') 1600 := n_in (by omega) (by omega)
      refine bX12_saysOf_5 _ _ _ ?_
      rw [n_cl (show b' < 2 ^ 31 by omega), hword, hvalw, hP', hT', hE', n_cl (show q.1 < 2 ^ 31 by omega), nI_1]
      have hqin : ¬ w < -3 → vp_in (nI q.1) 200 := fun h3 => n_in (by omega) (by omega)
      rcases hwz with ⟨j, hj, rfl⟩ | rfl | rfl | rfl | rfl | rfl | rfl | rfl | rfl
      · have h0 : ¬ nI j < 0 := nI_pos (by omega)
        have h3 : ¬ nI j < -3 := fun g => h0 (fa_trans g (by decide))
        have ez : zor (nI j) = 400 := by unfold zor; rw [if_neg h0]
        have ev : zvl (nI j) = nI j := by unfold zvl; rw [if_neg h0]
        rw [ez, ev]
        refine ⟨hbin, fun h => absurd h (by decide), fun _ => ⟨hbin, fun _ => ⟨hbin, hzp, hqin h3, ?_⟩, fun h => absurd h (by decide), fun h => absurd h (by decide), fun h => absurd h (by decide)⟩⟩
        rw [n_rem (by omega) (by omega) (by omega)]
        refine hpush _ h3 ?_
        unfold znm
        rw [if_neg h0, nI_toInt (by omega)]
        rfl
      · refine ⟨hbin, fun h => absurd h (by decide), fun _ => ⟨hbin, fun h => absurd h (by decide), fun _ => ⟨hbin, fun h => absurd (by decide) h, fun _ => ⟨hqin (by decide), hpush u (by decide) rfl⟩⟩, fun h => absurd h (by decide), fun h => absurd h (by decide)⟩⟩
      · refine ⟨hbin, fun h => absurd h (by decide), fun _ => ⟨hbin, fun h => absurd h (by decide), fun _ => ⟨hbin, fun _ => ⟨hbin, fun h => absurd (by decide) h, fun _ => ⟨hqin (by decide), hpush t (by decide) rfl⟩⟩, fun h => absurd h (by decide)⟩, fun h => absurd h (by decide), fun h => absurd h (by decide)⟩⟩
      · refine ⟨hbin, fun h => absurd h (by decide), fun _ => ⟨hbin, fun h => absurd h (by decide), fun _ => ⟨hbin, fun _ => ⟨hbin, fun _ => ⟨hqin (by decide), hpush e (by decide) rfl⟩, fun h => absurd h (by decide)⟩, fun h => absurd h (by decide)⟩, fun h => absurd h (by decide), fun h => absurd h (by decide)⟩⟩
      · rw [if_pos (by decide), if_pos rfl] at hokr
        obtain ⟨hk1, hokr⟩ := hokr
        have hz : zstep p t e u q (-4) = (q.1, va_up q.2 (q.1 - 1) ((p - q.2 (q.1 - 1)) % p)) := rfl
        have e1 : nI q.1 - 1 = nI (q.1 - 1) := pk_sub (a := q.1) (b := 1) (by omega)
        have hq1 := hq (q.1 - 1) (by omega)
        refine ⟨hbin, fun h => absurd h (by decide), fun _ => ⟨hbin, fun h => absurd h (by decide), fun h => absurd h (by decide), fun _ => ?_, fun h => absurd h (by decide)⟩⟩
        rw [e1, n_cl (show q.1 - 1 < 2 ^ 31 by omega), hr _ (show q.1 - 1 < q.1 by omega), pk_sub (a := p) (b := q.2 (q.1 - 1)) (by omega), n_rem (by omega) (by omega) (by omega)]
        refine ⟨n_in (by omega) (by omega), hzp, n_in (by omega) (by omega), ?_⟩
        have := hnext (ms M' 136 (q.1 - 1) (nI ((p - q.2 (q.1 - 1)) % p))) (by rw [hz]; exact hk40) (by rw [hz]; exact hokr) ?_ (fun i hi => by rw [ms_row _ _ _ _ _ hi]; exact hf i hi)
        · rw [hz] at this; exact this
        · rw [hz]
          intro j hj
          have hj' : j < q.1 := hj
          show _ = nI (va_up q.2 (q.1 - 1) _ j)
          by_cases ej : j = q.1 - 1
          · rw [ej, ms_is, vu]
          · rw [ms_no _ _ _ _ _ _ (fun g => ej g.2), vn _ _ _ _ ej]
            exact hr j (by omega)
      all_goals exact ⟨hbin, fun h => absurd h (by decide), fun _ => ⟨hbin, fun h => absurd h (by decide), fun h => absurd h (by decide), fun h => absurd h (by decide), fun _ => hjoin (by decide) (by decide)⟩⟩
  exact key c b (0, fun _ => 0) M rfl hc hcv hok (by show 0 ≤ 40; omega) (fun j hj => absurd hj (Nat.not_lt_zero j)) (fun j hj => absurd hj (Nat.not_lt_zero j)) (fun _ _ => rfl) rfl
end Z13
