/-! CONTRACTS 22: bending a square and its polynomial: what they are, and the reference's side -/
def zis (f : Nat → Int) : Nat → Int
  | 0 => 0
  | n + 1 => zis f n + f n
def ztr (i m a : Nat) : Nat := if a = i then m else if a = m then i else a
def zsw (i m : Nat) (A : Nat → Nat → Nat) : Nat → Nat → Nat := fun a b => A (ztr i m a) (ztr i m b)
/-- row k less f times row m -/
def zr1 (p k m f : Nat) (A : Nat → Nat → Nat) : Nat → Nat → Nat := fun a b => if a = k then zm ((A k b : Int) - (f : Int) * (A m b : Int)) p else A a b
/-- column m and f times column k -/
def zr2 (p k m f : Nat) (A : Nat → Nat → Nat) : Nat → Nat → Nat := fun a b => if b = m then zm ((A a m : Int) + (f : Int) * (A a k : Int)) p else A a b
def zre (p k m f : Nat) (A : Nat → Nat → Nat) : Nat → Nat → Nat := if f = 0 then A else zr2 p k m f (zr1 p k m f A)
def zel (p m : Nat) (A : Nat → Nat → Nat) : Nat → Nat → Nat → Nat
  | 0 => A
  | j + 1 => zre p (m + 1 + j) m (zv p (zel p m A j (m + 1 + j) (m - 1)) (zel p m A j m (m - 1))) (zel p m A j)
/-- the first row from m on that isn't 0 left of m -/
def zpf (A : Nat → Nat → Nat) (m y : Nat) : Bool := !(A (m + y) (m - 1) == 0)
def zpv (A : Nat → Nat → Nat) (m w : Nat) : Option Nat := zEf (fun y => !zpf A m y) (w - m)
def zbs (p w m : Nat) (A : Nat → Nat → Nat) : Nat → Nat → Nat := match zpv A m w with
  | none => A
  | some j => zel p m (zsw (m + j) m A) (w - (m + 1))
def zbk (p w : Nat) (A : Nat → Nat → Nat) : Nat → Nat → Nat → Nat
  | 0 => A
  | j + 1 => zbs p w (j + 1) (zbk p w A j)
def zbn (p w : Nat) (A : Nat → Nat → Nat) : Nat → Nat → Nat := zbk p w A (w - 2)
def zsd (A : Nat → Nat → Nat) (k : Nat) : Nat → Nat
  | 0 => 1
  | s + 1 => zsd A k s * A (k - s) (k - s - 1)
def zQs (A Q : Nat → Nat → Nat) (k z s : Nat) : Int := ((zsd A k s * A (k - s) k * Q (k - s) z : Nat) : Int)
def zQ0 (Q : Nat → Nat → Nat) (k z : Nat) : Int := if z = 0 then 0 else (Q k (z - 1) : Int)
def zQr (p : Nat) (A Q : Nat → Nat → Nat) (k z : Nat) : Nat := zm (zQ0 Q k z - zis (zQs A Q k z) (k + 1)) p
def zQ (p : Nat) (A : Nat → Nat → Nat) : Nat → Nat → Nat → Nat
  | 0 => fun k z => if k = 0 ∧ z = 0 then 1 else 0
  | k + 1 => va_up (zQ p A k) (k + 1) (zQr p A (zQ p A k) k)
/-- the polynomial of a square of w rows: its coefficient at z -/
def zP (p w : Nat) (A : Nat → Nat → Nat) (z : Nat) : Nat := zQ p (zbn p w A) w w z
theorem zsw_same (m : Nat) (A : Nat → Nat → Nat) : zsw m m A = A := by
  have h : ∀ a, ztr m m a = a := fun a => by unfold ztr; split <;> simp_all
  funext a b
  unfold zsw
  rw [h, h]
theorem zm_c {z z' : Int} {p : Nat} (k : Int) (h : z = z' + (p : Int) * k) : zm z p = zm z' p := by
  unfold zm
  rw [h, Int.add_mul_emod_self_left]
theorem zm_d {z : Int} {p : Nat} (hp : 0 < p) : ∃ k : Int, ((zm z p : Nat) : Int) = z + (p : Int) * k := by
  refine ⟨-(z / p), ?_⟩
  rw [zm_int hp]
  have := Int.emod_add_mul_ediv z p
  rw [Int.mul_neg]
  omega
theorem zn_d (a : Nat) {p : Nat} (hp : 0 < p) : ∃ k : Int, ((a % p : Nat) : Int) = (a : Int) + (p : Int) * k := by
  have := zm_d (z := (a : Int)) hp
  rw [zm_nat] at this
  exact this
theorem zm_small {a p : Nat} (h : a < p) : zm (a : Int) p = a := by rw [zm_nat, Nat.mod_eq_of_lt h]
theorem zre_lt {p k m f w : Nat} {A : Nat → Nat → Nat} (hp : 0 < p) (h : ∀ a b, a < w → b < w → A a b < p) : ∀ a b, a < w → b < w → zre p k m f A a b < p := by
  intro a b ha hb
  unfold zre
  split
  · exact h a b ha hb
  · unfold zr2 zr1
    split
    · exact zm_lt hp
    · split
      · exact zm_lt hp
      · exact h a b ha hb
theorem zsw_lt {p i m w : Nat} {A : Nat → Nat → Nat} (hi : i < w) (hm : m < w) (h : ∀ a b, a < w → b < w → A a b < p) : ∀ a b, a < w → b < w → zsw i m A a b < p := by
  have ht : ∀ a, a < w → ztr i m a < w := fun a ha => by unfold ztr; split; exact hm; split; exact hi; exact ha
  exact fun a b ha hb => h _ _ (ht a ha) (ht b hb)
theorem zel_lt {p m w : Nat} {A : Nat → Nat → Nat} (hp : 0 < p) (h : ∀ a b, a < w → b < w → A a b < p) (j : Nat) : ∀ a b, a < w → b < w → zel p m A j a b < p := by
  induction j with
  | zero => exact h
  | succ j ih => exact zre_lt hp ih
theorem zbs_lt {p w m : Nat} {A : Nat → Nat → Nat} (hp : 0 < p) (hm : m < w) (h : ∀ a b, a < w → b < w → A a b < p) : ∀ a b, a < w → b < w → zbs p w m A a b < p := by
  unfold zbs
  cases hj : zpv A m w with
  | none => exact h
  | some j => exact zel_lt hp (zsw_lt (by have := zEf_lt _ _ _ hj; omega) hm h) _
theorem zbk_lt {p w : Nat} {A : Nat → Nat → Nat} (hp : 0 < p) (h : ∀ a b, a < w → b < w → A a b < p) : ∀ j, j + 1 < w ∨ j = 0 → ∀ a b, a < w → b < w → zbk p w A j a b < p
  | 0, _ => h
  | j + 1, hj => zbs_lt hp (by omega) (zbk_lt hp h j (by omega))
theorem zbn_lt {p w : Nat} {A : Nat → Nat → Nat} (hp : 0 < p) (h : ∀ a b, a < w → b < w → A a b < p) : ∀ a b, a < w → b < w → zbn p w A a b < p := zbk_lt hp h _ (by omega)
theorem zQ_old (p : Nat) (A : Nat → Nat → Nat) {i : Nat} : ∀ k, i ≤ k → zQ p A k i = zQ p A i i := by
  intro k h
  obtain ⟨t, rfl⟩ : ∃ t, k = i + t := ⟨k - i, by omega⟩
  clear h
  induction t with
  | zero => rfl
  | succ t ih =>
    show va_up (zQ p A (i + t)) (i + t + 1) _ i = _
    rw [vn _ _ _ _ (by omega)]
    exact ih
theorem zQ_lt {p : Nat} {A : Nat → Nat → Nat} (hp : 1 < p) : ∀ k i z, zQ p A k i z < p := by
  intro k
  induction k with
  | zero =>
    intro i z
    show (if i = 0 ∧ z = 0 then 1 else 0) < p
    split <;> omega
  | succ k ih =>
    intro i z
    show va_up (zQ p A k) (k + 1) _ i z < p
    by_cases e : i = k + 1
    · subst e; rw [vu]; exact zm_lt (by omega)
    · rw [vn _ _ _ _ e]; exact ih i z
theorem zis_0 {f : Nat → Int} {n : Nat} (h : ∀ k, k < n → f k = 0) : zis f n = 0 := by
  induction n with
  | zero => rfl
  | succ n ih =>
    show zis f n + f n = 0
    rw [ih (fun k hk => h k (by omega)), h n (by omega)]
    rfl
theorem zis_cong {f g : Nat → Int} {n : Nat} (h : ∀ k, k < n → f k = g k) : zis f n = zis g n := by
  induction n with
  | zero => rfl
  | succ n ih =>
    show zis f n + f n = zis g n + g n
    rw [ih (fun k hk => h k (by omega)), h n (by omega)]
/-- above its degree nothing -/
theorem zQ_deg {p : Nat} {A : Nat → Nat → Nat} : ∀ k i z, i < z → zQ p A k i z = 0 := by
  intro k
  induction k with
  | zero =>
    intro i z h
    show (if i = 0 ∧ z = 0 then 1 else 0) = 0
    rw [if_neg (by omega)]
  | succ k ih =>
    intro i z h
    show va_up (zQ p A k) (k + 1) _ i z = 0
    by_cases e : i = k + 1
    · subst e
      rw [vu]
      unfold zQr zQ0
      rw [if_neg (by omega), ih k (z - 1) (by omega), zis_0]
      · unfold zm; simp
      · intro s hs
        unfold zQs
        rw [ih (k - s) z (by omega), Nat.mul_zero]
        rfl
    · rw [vn _ _ _ _ e]; exact ih i z h
/-- longs of small numbers -/
theorem n_l64 {a f b : Nat} (ha : a < 2 ^ 14) (hf : f < 2 ^ 14) (hb : b < 2 ^ 14) : ((nI a).toInt64 - (nI f).toInt64 * (nI b).toInt64).toInt = (a : Int) - (f : Int) * (b : Int) ∧ ((nI a).toInt64 + (nI f).toInt64 * (nI b).toInt64).toInt = (a : Int) + (f : Int) * (b : Int) := by
  have h1 : f * b < 2 ^ 28 := by
    have : f * b ≤ (2 ^ 14 - 1) * (2 ^ 14 - 1) := Nat.mul_le_mul (by omega) (by omega)
    omega
  rw [nI_l (by omega), nI_l (by omega), nI_l (by omega), lN_mul, lN_add, pk_lT (by omega), Int64.toInt_sub, pk_lT (by omega), pk_lT (by omega), Int.bmod_eq_of_le (by omega) (by omega)]
  constructor
  · rw [Int.natCast_mul]
  · rw [Int.natCast_add, Int.natCast_mul]
section Z23
variable {X : a_X} {ad : Nat → Nat} {ca : Nat → ClassId} {d x : Nat} {M : a_M}
theorem mQ.K {M M' : a_M} {w p : Nat} {A : Nat → Nat → Nat} (h : mQ M w p A) (h1 : M' 118 44 = M 118 44) (h2 : M' 145 = M 145) : mQ M' w p A := ⟨by rw [h1]; exact h.1, fun i k hi hk => by rw [h2]; exact h.2 i k hi hk⟩
theorem kX12_swaps (hd : 1 ≤ d) {w p i m : Nat} {A : Nat → Nat → Nat} (hw35 : w ≤ 35) (hQ : mQ M w p A) (hi : i < w) (hm : m < w) (him : i ≠ m) :
    mX12_swaps X ad ca d x [.ref 118, .int (nI i), .int (nI m)] M (q_v (PT x) (fun M' => mQ M' w p (zsw i m A) ∧ ∀ o, o ≠ 145 → M' o = M o)) := by
  obtain ⟨d, rfl⟩ := a_d1 (show 1 ≤ d by omega)
  have ht : ∀ a, a < w → ztr i m a < w := fun a ha => by unfold ztr; split; exact hm; split; exact hi; exact ha
  refine eX12_swaps _ _ (bX12_swaps_0 _ _ ?_)
  refine a_loop (σ := a_M) (fun j M' => wX12_swaps X ad ca d x _ 2 [(0, .ref 118), (1, .int (nI i)), (2, .int (nI m)), (3, .int (nI j))] M') (fun j M' => (∀ a b, a < w → b < w → M' 145 (35 * a + b) = nI (if b < j then A (ztr i m a) b else A a b)) ∧ ∀ o, o ≠ 145 → M' o = M o) w ?_ ?_ 0 M (Nat.zero_le _) ⟨fun a b ha hb => by rw [if_neg (by omega)]; exact (hQ.2 a b ha hb).1, fun _ _ => rfl⟩
  · rintro M1 ⟨q1, q2⟩
    refine bX12_swaps_2 _ _ _ ?_
    rw [q2 118 (by decide), hQ.1]
    refine ⟨fun _ => ?_, fun h => absurd (nI_le (Nat.le_refl _) (by omega)) h⟩
    refine a_loop (σ := a_M) (fun j M' => wX12_swaps X ad ca d x _ 66 [(0, .ref 118), (1, .int (nI i)), (2, .int (nI m)), (3, .int (nI j))] M') (fun j M' => (∀ a b, a < w → b < w → M' 145 (35 * a + b) = nI (if a < j then A (ztr i m a) (ztr i m b) else A (ztr i m a) b)) ∧ ∀ o, o ≠ 145 → M' o = M o) w ?_ ?_ 0 M1 (Nat.zero_le _) ⟨fun a b ha hb => by rw [if_neg (by omega), q1 a b ha hb, if_pos hb], q2⟩
    · rintro M2 ⟨r1, r2⟩
      refine bX12_swaps_66 _ _ _ ?_
      rw [r2 118 (by decide), hQ.1]
      refine ⟨fun _ => ⟨rfl, rfl, ⟨by rw [r2 118 (by decide)]; exact hQ.1, fun a b ha hb => ⟨by rw [r1 a b ha hb, if_pos ha]; rfl, (hQ.2 _ _ (ht a ha) (ht b hb)).2⟩⟩, r2⟩, fun h => absurd (nI_le (Nat.le_refl _) (by omega)) h⟩
    · rintro j M2 hj ⟨r1, r2⟩ ih
      have e1 : 35 * nI j + nI i = nI (35 * j + i) := by rw [fa_lit 35, n_mul, nI_add]
      have e2 : 35 * nI j + nI m = nI (35 * j + m) := by rw [fa_lit 35, n_mul, nI_add]
      refine bX12_swaps_66 _ _ _ ?_
      rw [r2 118 (by decide), hQ.1, e1, e2, n_cl (by omega), n_cl (by omega)]
      refine ⟨fun h => absurd h (nI_ge hj (by omega)), fun _ => ⟨n_in (by omega) (by omega), n_in (by omega) (by omega), n_in (by omega) (by omega), n_in (by omega) (by omega), ?_⟩⟩
      rw [← nI_succ]
      refine ih _ ⟨fun a b ha hb => ?_, fun o ho => by rw [ms_row _ _ _ _ _ ho, ms_row _ _ _ _ _ ho]; exact r2 o ho⟩
      by_cases ea : a = j
      · subst ea
        rw [if_pos (by omega)]
        by_cases eb : b = m
        · subst eb
          rw [ms_is, r1 a i ha hi, if_neg (by omega)]
          congr 2
          unfold ztr
          rw [if_neg (fun q => him q.symm), if_pos rfl]
        · rw [ms_no _ _ _ _ _ _ (by omega)]
          by_cases eb2 : b = i
          · subst eb2
            rw [ms_is, r1 a m ha hm, if_neg (by omega)]
            congr 2
            unfold ztr
            rw [if_pos rfl]
          · rw [ms_no _ _ _ _ _ _ (by omega), r1 a b ha hb, if_neg (by omega)]
            congr 2
            unfold ztr
            rw [if_neg eb2, if_neg eb]
      · rw [ms_no _ _ _ _ _ _ (by omega), ms_no _ _ _ _ _ _ (by omega), r1 a b ha hb]
        by_cases ea2 : a < j
        · rw [if_pos ea2, if_pos (by omega)]
        · rw [if_neg ea2, if_neg (by omega)]
  · rintro j M1 hj ⟨q1, q2⟩ ih
    have e1 : 35 * nI i + nI j = nI (35 * i + j) := by rw [fa_lit 35, n_mul, nI_add]
    have e2 : 35 * nI m + nI j = nI (35 * m + j) := by rw [fa_lit 35, n_mul, nI_add]
    refine bX12_swaps_2 _ _ _ ?_
    rw [q2 118 (by decide), hQ.1, e1, e2, n_cl (by omega), n_cl (by omega)]
    refine ⟨fun h => absurd h (nI_ge hj (by omega)), fun _ => ⟨n_in (by omega) (by omega), n_in (by omega) (by omega), n_in (by omega) (by omega), n_in (by omega) (by omega), ?_⟩⟩
    rw [← nI_succ]
    refine ih _ ⟨fun a b ha hb => ?_, fun o ho => by rw [ms_row _ _ _ _ _ ho, ms_row _ _ _ _ _ ho]; exact q2 o ho⟩
    by_cases eb : b = j
    · subst eb
      rw [if_pos (by omega)]
      by_cases ea : a = m
      · subst ea
        rw [ms_is, q1 i b hi hb, if_neg (by omega)]
        congr 2
        unfold ztr
        rw [if_neg (fun q => him q.symm), if_pos rfl]
      · rw [ms_no _ _ _ _ _ _ (by omega)]
        by_cases ea2 : a = i
        · subst ea2
          rw [ms_is, q1 m b hm hb, if_neg (by omega)]
          congr 2
          unfold ztr
          rw [if_pos rfl]
        · rw [ms_no _ _ _ _ _ _ (by omega), q1 a b ha hb, if_neg (by omega)]
          congr 2
          unfold ztr
          rw [if_neg ea2, if_neg ea]
    · rw [ms_no _ _ _ _ _ _ (by omega), ms_no _ _ _ _ _ _ (by omega), q1 a b ha hb]
      by_cases eb2 : b < j
      · rw [if_pos eb2, if_pos (by omega)]
      · rw [if_neg eb2, if_neg (by omega)]
theorem kX12_bends (hd : 2 ≤ d) {w p : Nat} {A : Nat → Nat → Nat} (hp : p ∈ zpl) (hP : M 119 2 = nI p) (hw35 : w ≤ 35) (hQ : mQ M w p A) :
    mX12_bends X ad ca d x [.ref 118] M (q_v (PT x) (fun M' => mQ M' w p (zbn p w A) ∧ ∀ o, o ≠ 145 → M' o = M o)) := by
  obtain ⟨d, rfl⟩ := a_d1 (show 1 ≤ d by omega)
  have hpb := zpl_b p hp
  have hp0 : 0 < p := by omega
  have hAp : ∀ a b, a < w → b < w → A a b < p := fun a b ha hb => (hQ.2 a b ha hb).2
  generalize hPost : q_v (PT x) (fun M' => mQ M' w p (zbn p w A) ∧ ∀ o, o ≠ 145 → M' o = M o) = Post
  refine eX12_bends (bX12_bends_0 ?_)
  refine a_loop (σ := a_M) (fun j M' => wX12_bends X ad ca d x Post 2 [(0, .ref 118), (1, .int (nI (j + 1)))] M') (fun j M' => mQ M' w p (zbk p w A j) ∧ ∀ o, o ≠ 145 → M' o = M o) (w - 2) ?_ ?_ 0 M (Nat.zero_le _) ⟨hQ, fun _ _ => rfl⟩
  · rintro M1 ⟨q1, q2⟩
    refine bX12_bends_2 _ ?_
    rw [q2 118 (by decide), hQ.1]
    refine ⟨fun _ => by rw [← hPost]; exact ⟨rfl, rfl, q1, q2⟩, fun h => absurd ?_ h⟩
    rcases Nat.eq_zero_or_pos w with e | e
    · subst e; decide
    · rw [show nI w - 1 = nI (w - 1) from pk_sub (b := 1) (by omega)]
      exact nI_le (by omega) (by omega)
  · rintro j M1 hj ⟨q1, q2⟩ ih
    have hB := zbk_lt hp0 hAp j (by omega)
    have hbk : zbk p w A (j + 1) = zbs p w (j + 1) (zbk p w A j) := rfl
    rw [hbk] at ih
    generalize zbk p w A j = B at q1 hB ih
    refine bX12_bends_2 _ ?_
    rw [q2 118 (by decide), hQ.1, show nI w - 1 = nI (w - 1) from pk_sub (b := 1) (by omega)]
    refine ⟨fun h => absurd h (nI_ge (by omega) (by omega)), fun _ => ?_⟩
    generalize hm : j + 1 = m
    rw [hm] at ih
    have hmw : m + 1 < w := by omega
    have hm1 : 1 ≤ m := by omega
    have hend : ∀ M2 : a_M, mQ M2 w p (zbs p w m B) → (∀ o, o ≠ 145 → M2 o = M o) → wX12_bends X ad ca d x Post 253 [(0, .ref 118), (1, .int (nI m))] M2 := by
      intro M2 h1 h2
      refine bX12_bends_253 _ ?_
      rw [← nI_succ]
      exact ih M2 ⟨h1, h2⟩
    -- the search
    refine a_loop (σ := Unit) (fun y _ => wX12_bends X ad ca d x Post 14 [(0, .ref 118), (1, .int (nI m)), (2, .int (nI (m + y)))] M1) (fun y _ => ∀ z, z < y → zpf B m z = false) (w - m) ?_ ?_ 0 () (Nat.zero_le _) (fun z hz => absurd hz (Nat.not_lt_zero z))
    · intro _ hz
      have h44 : wX12_bends X ad ca d x Post 44 [(0, .ref 118), (1, .int (nI m)), (2, .int (nI (m + (w - m))))] M1 := by
        refine bX12_bends_44 _ _ ?_
        rw [q1.1]
        refine ⟨fun _ => hend M1 ?_ q2, fun h => absurd (nI_le (show w ≤ m + (w - m) by omega) (by omega)) h⟩
        have : zbs p w m B = B := by
          unfold zbs zpv
          rw [zff_succ _ _ hz]
        rw [this]
        exact q1
      refine bX12_bends_14 _ _ ?_
      rw [q1.1]
      exact ⟨fun _ => h44, fun h => absurd (nI_le (show w ≤ m + (w - m) by omega) (by omega)) h⟩
    · intro y _ hy hz ih2
      have e1 : 35 * nI (m + y) + nI m - 1 = nI (35 * (m + y) + (m - 1)) := by
        rw [fa_lit 35, n_mul, nI_add]
        rw [show nI (35 * (m + y) + m) - 1 = nI (35 * (m + y) + m - 1) from pk_sub (b := 1) (by omega)]
        congr 1
        omega
      have hcell := q1.2 (m + y) (m - 1) (by omega) (by omega)
      refine bX12_bends_14 _ _ ?_
      rw [q1.1, e1, n_cl (by omega), hcell.1]
      refine ⟨fun h => absurd h (nI_ge (by omega) (by omega)), fun _ => ⟨n_in (by omega) (by omega), fun hnz => bX12_bends_44 _ _ ?_, fun hz0 => ?_⟩⟩
      · rw [q1.1]
        refine ⟨fun h => absurd h (nI_ge (by omega) (by omega)), fun _ => ?_⟩
        have hpy : zpf B m y = true := by
          unfold zpf
          have : B (m + y) (m - 1) ≠ 0 := fun q => hnz (by rw [q]; rfl)
          simpa using this
        have hbs : zbs p w m B = zel p m (zsw (m + y) m B) (w - (m + 1)) := by
          unfold zbs zpv
          rw [zff_at (zpf B m) y (w - m) hz hpy hy]
        rw [hbs] at hend
        -- elimination
        have helim : ∀ M2 : a_M, mQ M2 w p (zsw (m + y) m B) → (∀ o, o ≠ 145 → M2 o = M o) → wX12_bends X ad ca d x Post 63 [(0, .ref 118), (1, .int (nI m))] M2 := by
          intro M2 h1 h2
          have hC := zsw_lt (i := m + y) (m := m) (show m + y < w by omega) (show m < w by omega) hB
          generalize zsw (m + y) m B = C at h1 hend hC
          refine bX12_bends_63 _ ?_
          rw [← nI_succ]
          refine a_loop (σ := a_M) (fun k M' => wX12_bends X ad ca d x Post 67 [(0, .ref 118), (1, .int (nI m)), (3, .int (nI (m + 1 + k)))] M') (fun k M' => mQ M' w p (zel p m C k) ∧ ∀ o, o ≠ 145 → M' o = M o) (w - (m + 1)) ?_ ?_ 0 M2 (Nat.zero_le _) ⟨h1, h2⟩
          · rintro M3 ⟨r1, r2⟩
            refine bX12_bends_67 _ _ ?_
            rw [r1.1]
            exact ⟨fun _ => hend M3 r1 r2, fun h => absurd (nI_le (show w ≤ m + 1 + (w - (m + 1)) by omega) (by omega)) h⟩
          · rintro k M3 hk ⟨r1, r2⟩ ih3
            have hE := zel_lt (m := m) hp0 hC k
            have hels : zel p m C (k + 1) = zre p (m + 1 + k) m (zv p (zel p m C k (m + 1 + k) (m - 1)) (zel p m C k m (m - 1))) (zel p m C k) := rfl
            rw [hels] at ih3
            generalize zel p m C k = E at r1 hE ih3
            have hkk : m + 1 + (k + 1) = m + 1 + k + 1 := by omega
            rw [hkk] at ih3
            generalize hq : m + 1 + k = q at ih3
            have hqw : q < w := by omega
            have hqm : q ≠ m := by omega
            have e1 : 35 * nI q + nI m - 1 = nI (35 * q + (m - 1)) := by
              rw [fa_lit 35, n_mul, nI_add]
              rw [show nI (35 * q + m) - 1 = nI (35 * q + m - 1) from pk_sub (b := 1) (by omega)]
              congr 1
              omega
            have e2 : 35 * nI m + nI m - 1 = nI (35 * m + (m - 1)) := by
              rw [fa_lit 35, n_mul, nI_add]
              rw [show nI (35 * m + m) - 1 = nI (35 * m + m - 1) from pk_sub (b := 1) (by omega)]
              congr 1
              omega
            have c1 := r1.2 q (m - 1) hqw (by omega)
            have c2 := r1.2 m (m - 1) (by omega) (by omega)
            refine bX12_bends_67 _ _ ?_
            rw [r1.1, e1, e2, n_cl (by omega), n_cl (by omega), c1.1, c2.1]
            refine ⟨fun h => absurd h (nI_ge hqw (by omega)), fun _ => ⟨n_in (by omega) (by omega), n_in (by omega) (by omega), _, kX12_over (by omega) (by rw [r2 119 (by decide)]; exact hP) hp c1.2 c2.2, ?_⟩⟩
            rintro v4 M4 ⟨rfl, rfl⟩
            generalize hf : zv p (E q (m - 1)) (E m (m - 1)) = f at ih3
            have hfp : f < p := by rw [← hf]; exact zv_lt hp0
            rcases Nat.eq_zero_or_pos f with hf0 | hf0
            · -- nothing to do
              subst hf0
              have hid : zre p q m 0 E = E := by unfold zre; rw [if_pos rfl]
              rw [hid] at ih3
              have h247 : wX12_bends X ad ca d x Post 247 [(0, .ref 118), (1, .int (nI m)), (3, .int (nI q))] M4 := by
                refine bX12_bends_247 _ _ ?_
                rw [← nI_succ]
                exact ih3 M4 ⟨r1, r2⟩
              have h177 : wX12_bends X ad ca d x Post 177 [(0, .ref 118), (1, .int (nI m)), (3, .int (nI q)), (4, .int (nI 0))] M4 := by
                refine bX12_bends_177 _ _ _ (bX12_bends_180 _ _ _ _ ?_)
                exact ⟨fun _ => h247, fun _ => ⟨fun _ => h247, fun h => absurd (by decide) h⟩⟩
              refine bX12_bends_110 _ _ _ _ ?_
              exact ⟨fun _ => h177, fun _ => ⟨fun _ => h177, fun h => absurd (by decide) h⟩⟩
            · have hfn : ¬ nI f ≤ 0 := nI_ge (a := 0) hf0 (by omega)
              have hre : zre p q m f E = zr2 p q m f (zr1 p q m f E) := by unfold zre; rw [if_neg (by omega)]
              rw [hre] at ih3
              -- the row
              refine a_loop (σ := a_M) (fun j M' => wX12_bends X ad ca d x Post 110 [(0, .ref 118), (1, .int (nI m)), (3, .int (nI q)), (4, .int (nI f)), (5, .int (nI j))] M') (fun j M' => (∀ a b, a < w → b < w → M' 145 (35 * a + b) = nI (if b < j then zr1 p q m f E a b else E a b)) ∧ ∀ o, o ≠ 145 → M' o = M o) w ?_ ?_ 0 M4 (Nat.zero_le _) ⟨fun a b ha hb => by rw [if_neg (by omega)]; exact (r1.2 a b ha hb).1, r2⟩
              · rintro M5 ⟨s1, s2⟩
                have hE1 : ∀ a b, a < w → b < w → zr1 p q m f E a b < p := by
                  intro a b ha hb
                  unfold zr1
                  split
                  · exact zm_lt hp0
                  · exact hE a b ha hb
                have h177 : wX12_bends X ad ca d x Post 177 [(0, .ref 118), (1, .int (nI m)), (3, .int (nI q)), (4, .int (nI f))] M5 := by
                  refine bX12_bends_177 _ _ _ ?_
                  refine a_loop (σ := a_M) (fun j M' => wX12_bends X ad ca d x Post 180 [(0, .ref 118), (1, .int (nI m)), (3, .int (nI q)), (4, .int (nI f)), (5, .int (nI j))] M') (fun j M' => (∀ a b, a < w → b < w → M' 145 (35 * a + b) = nI (if a < j then zr2 p q m f (zr1 p q m f E) a b else zr1 p q m f E a b)) ∧ ∀ o, o ≠ 145 → M' o = M o) w ?_ ?_ 0 M5 (Nat.zero_le _) ⟨fun a b ha hb => by rw [if_neg (by omega), s1 a b ha hb, if_pos hb], s2⟩
                  · rintro M6 ⟨t1, t2⟩
                    have h247 : wX12_bends X ad ca d x Post 247 [(0, .ref 118), (1, .int (nI m)), (3, .int (nI q))] M6 := by
                      refine bX12_bends_247 _ _ ?_
                      rw [← nI_succ]
                      refine ih3 M6 ⟨⟨by rw [t2 118 (by decide)]; exact hQ.1, fun a b ha hb => ⟨by rw [t1 a b ha hb, if_pos ha], ?_⟩⟩, t2⟩
                      unfold zr2
                      split
                      · exact zm_lt hp0
                      · exact hE1 a b ha hb
                    refine bX12_bends_180 _ _ _ _ ?_
                    rw [t2 118 (by decide), hQ.1]
                    exact ⟨fun _ => h247, fun h => absurd (nI_le (Nat.le_refl _) (by omega)) h⟩
                  · rintro j M6 hj ⟨t1, t2⟩ ih5
                    have e1 : 35 * nI j + nI m = nI (35 * j + m) := by rw [fa_lit 35, n_mul, nI_add]
                    have e2 : 35 * nI j + nI q = nI (35 * j + q) := by rw [fa_lit 35, n_mul, nI_add]
                    have d1 := t1 j m hj (by omega)
                    have d2 := t1 j q hj hqw
                    rw [if_neg (Nat.lt_irrefl j)] at d1 d2
                    have g1 := hE1 j m hj (by omega)
                    have g2 := hE1 j q hj hqw
                    refine bX12_bends_180 _ _ _ _ ?_
                    rw [t2 118 (by decide), hQ.1, e1, e2, n_cl (by omega), n_cl (by omega), d1, d2]
                    refine ⟨fun h => absurd h (nI_ge hj (by omega)), fun _ => ⟨fun h => absurd h hfn, fun _ => ⟨n_in (by omega) (by omega), n_in (by omega) (by omega), _, kX12_left (by omega) _ (by rw [t2 119 (by decide)]; exact hP) hp0 (by omega), ?_⟩⟩⟩
                    rintro v7 M7 ⟨rfl, rfl⟩
                    refine ⟨n_in (by omega) (by omega), ?_⟩
                    rw [(n_l64 (show zr1 p q m f E j m < 2 ^ 14 by omega) (show f < 2 ^ 14 by omega) (show zr1 p q m f E j q < 2 ^ 14 by omega)).2, ← nI_succ]
                    refine ih5 _ ⟨fun a b ha hb => ?_, fun o ho => by rw [ms_row _ _ _ _ _ ho]; exact t2 o ho⟩
                    by_cases eab : a = j ∧ b = m
                    · obtain ⟨rfl, rfl⟩ := eab
                      rw [ms_is, if_pos (by omega)]
                      congr 1
                      unfold zr2
                      rw [if_pos rfl]
                    · rw [ms_no _ _ _ _ _ _ (by omega), t1 a b ha hb]
                      congr 1
                      by_cases ea : a = j
                      · subst ea
                        rw [if_neg (Nat.lt_irrefl _), if_pos (by omega)]
                        unfold zr2
                        rw [if_neg (by omega)]
                      · by_cases ea2 : a < j
                        · rw [if_pos ea2, if_pos (by omega)]
                        · rw [if_neg ea2, if_neg (by omega)]
                refine bX12_bends_110 _ _ _ _ ?_
                rw [s2 118 (by decide), hQ.1]
                exact ⟨fun _ => h177, fun h => absurd (nI_le (Nat.le_refl _) (by omega)) h⟩
              · rintro j M5 hj ⟨s1, s2⟩ ih4
                have e1 : 35 * nI q + nI j = nI (35 * q + j) := by rw [fa_lit 35, n_mul, nI_add]
                have e2 : 35 * nI m + nI j = nI (35 * m + j) := by rw [fa_lit 35, n_mul, nI_add]
                have d1 := s1 q j hqw hj
                have d2 := s1 m j (by omega) hj
                rw [if_neg (Nat.lt_irrefl j)] at d1 d2
                have g1 := hE q j hqw hj
                have g2 := hE m j (by omega) hj
                refine bX12_bends_110 _ _ _ _ ?_
                rw [s2 118 (by decide), hQ.1, e1, e2, n_cl (by omega), n_cl (by omega), d1, d2]
                refine ⟨fun h => absurd h (nI_ge hj (by omega)), fun _ => ⟨fun h => absurd h hfn, fun _ => ⟨n_in (by omega) (by omega), n_in (by omega) (by omega), _, kX12_left (by omega) _ (by rw [s2 119 (by decide)]; exact hP) hp0 (by omega), ?_⟩⟩⟩
                rintro v7 M7 ⟨rfl, rfl⟩
                refine ⟨n_in (by omega) (by omega), ?_⟩
                rw [(n_l64 (show E q j < 2 ^ 14 by omega) (show f < 2 ^ 14 by omega) (show E m j < 2 ^ 14 by omega)).1, ← nI_succ]
                refine ih4 _ ⟨fun a b ha hb => ?_, fun o ho => by rw [ms_row _ _ _ _ _ ho]; exact s2 o ho⟩
                by_cases eab : a = q ∧ b = j
                · obtain ⟨rfl, rfl⟩ := eab
                  rw [ms_is, if_pos (by omega)]
                  congr 1
                  unfold zr1
                  rw [if_pos rfl]
                · rw [ms_no _ _ _ _ _ _ (by omega), s1 a b ha hb]
                  congr 1
                  by_cases eb : b = j
                  · subst eb
                    rw [if_neg (Nat.lt_irrefl _), if_pos (by omega)]
                    unfold zr1
                    rw [if_neg (by omega)]
                  · by_cases eb2 : b < j
                    · rw [if_pos eb2, if_pos (by omega)]
                    · rw [if_neg eb2, if_neg (by omega)]
        rcases Nat.eq_zero_or_pos y with ey | ey
        · subst ey
          refine ⟨fun _ => helim M1 (by rw [Nat.add_zero, zsw_same]; exact q1) q2, fun h => absurd (nI_le (Nat.le_refl _) (by omega)) h⟩
        · refine ⟨fun h => absurd h (nI_ge (by omega) (by omega)), fun _ => ⟨_, kX12_swaps (by omega) hw35 q1 (by omega) (by omega) (by omega), ?_⟩⟩
          rintro M2 ⟨h1, h2⟩
          exact helim M2 h1 (fun o ho => (h2 o ho).trans (q2 o ho))
      · rw [← nI_succ]
        refine ih2 () (fun z hz2 => ?_)
        by_cases e : z = y
        · subst e
          unfold zpf
          have : B (m + z) (m - 1) = 0 := (nI_eq (b := 0) (by have := hcell.2; omega) (by omega)).mp hz0
          simp [this]
        · exact hz z (by omega)
end Z23
