/-! MATHEMATICS 5: squares of whole numbers, their traces, and Newton's sums -/
theorem zis_add (f g : Nat → Int) : ∀ n, zis (fun k => f k + g k) n = zis f n + zis g n
  | 0 => rfl
  | n + 1 => by
    show zis (fun k => f k + g k) n + (f n + g n) = (zis f n + f n) + (zis g n + g n)
    rw [zis_add f g n]; omega
theorem zis_mul (c : Int) (f : Nat → Int) : ∀ n, zis (fun k => c * f k) n = c * zis f n
  | 0 => by show (0 : Int) = c * 0; rw [Int.mul_zero]
  | n + 1 => by
    show zis (fun k => c * f k) n + c * f n = c * (zis f n + f n)
    rw [zis_mul c f n, Int.mul_add]
theorem zis_mulr (c : Int) (f : Nat → Int) (n : Nat) : zis (fun k => f k * c) n = zis f n * c := by
  rw [Int.mul_comm, ← zis_mul]
  exact zis_cong (fun k _ => Int.mul_comm _ _)
theorem zis_swap (f : Nat → Nat → Int) (m : Nat) : ∀ n, zis (fun a => zis (fun b => f a b) n) m = zis (fun b => zis (fun a => f a b) m) n
  | 0 => zis_0 (fun _ _ => rfl)
  | n + 1 => by
    show zis (fun a => zis (fun b => f a b) n + f a n) m = zis (fun b => zis (fun a => f a b) m) n + zis (fun a => f a n) m
    rw [zis_add, zis_swap f m n]
theorem zis_one {f : Nat → Int} {k : Nat} : ∀ {n : Nat}, k < n → (∀ j, j < n → j ≠ k → f j = 0) → zis f n = f k
  | 0, hk, _ => absurd hk (Nat.not_lt_zero _)
  | n + 1, hk, h => by
    show zis f n + f n = f k
    by_cases e : k = n
    · subst e
      rw [zis_0 (fun j hj => h j (by omega) (by omega)), Int.zero_add]
    · rw [zis_one (k := k) (by omega) (fun j hj hne => h j (by omega) hne), h n (by omega) (by omega), Int.add_zero]
theorem zis_head (f : Nat → Int) : ∀ n, zis f (n + 1) = f 0 + zis (fun k => f (k + 1)) n
  | 0 => by show 0 + f 0 = f 0 + 0; omega
  | n + 1 => by
    show zis f (n + 1) + f (n + 1) = f 0 + (zis (fun k => f (k + 1)) n + f (n + 1))
    rw [zis_head f n]; omega
theorem zis_rev (f : Nat → Int) : ∀ n, zis f n = zis (fun k => f (n - 1 - k)) n
  | 0 => rfl
  | n + 1 => by
    rw [zis_head (fun k => f (n + 1 - 1 - k))]
    show zis f n + f n = f (n + 1 - 1 - 0) + zis (fun k => f (n + 1 - 1 - (k + 1))) n
    rw [zis_rev f n, show n + 1 - 1 - 0 = n by omega, Int.add_comm]
    congr 1
    exact zis_cong (fun k _ => by rw [show n + 1 - 1 - (k + 1) = n - 1 - k by omega])
theorem zis_neg (f : Nat → Int) : ∀ n, zis (fun k => - f k) n = - zis f n
  | 0 => rfl
  | n + 1 => by
    show zis (fun k => - f k) n + - f n = -(zis f n + f n)
    rw [zis_neg f n]; omega
theorem zis_const (c : Int) : ∀ n : Nat, zis (fun _ => c) n = (n : Int) * c
  | 0 => by show (0 : Int) = 0 * c; rw [Int.zero_mul]
  | n + 1 => by
    show zis (fun _ => c) n + c = _
    rw [zis_const c n, Int.natCast_add, Int.add_mul]
    show _ = _ + 1 * c
    rw [Int.one_mul]
abbrev iMt : Type := Nat → Nat → Int
def iM (n : Nat) (A B : iMt) : iMt := fun i k => zis (fun z => A i z * B z k) n
def iI : iMt := fun i k => if i = k then 1 else 0
def iP (n : Nat) (A : iMt) : Nat → iMt
  | 0 => iI
  | j + 1 => iM n A (iP n A j)
def iT (n : Nat) (A : iMt) : Int := zis (fun k => A k k) n
/-- alike as squares of n rows -/
def iQ (n : Nat) (A B : iMt) : Prop := ∀ i k, i < n → k < n → A i k = B i k
theorem iQ.symm {n : Nat} {A B : iMt} (h : iQ n A B) : iQ n B A := fun i k hi hk => (h i k hi hk).symm
theorem iQ.trans {n : Nat} {A B C : iMt} (h : iQ n A B) (h2 : iQ n B C) : iQ n A C := fun i k hi hk => (h i k hi hk).trans (h2 i k hi hk)
theorem iM_cong {n : Nat} {A A' B B' : iMt} (h : iQ n A A') (h2 : iQ n B B') : iQ n (iM n A B) (iM n A' B') := fun i k hi hk => zis_cong (fun z hz => by rw [h i z hi hz, h2 z k hz hk])
theorem iM_assoc (n : Nat) (A B C : iMt) : iM n (iM n A B) C = iM n A (iM n B C) := by
  funext i k
  show zis (fun z => zis (fun y => A i y * B y z) n * C z k) n = zis (fun y => A i y * zis (fun z => B y z * C z k) n) n
  have e1 : zis (fun z => zis (fun y => A i y * B y z) n * C z k) n = zis (fun z => zis (fun y => A i y * B y z * C z k) n) n := zis_cong (fun z _ => by rw [zis_mulr])
  have e2 : zis (fun y => A i y * zis (fun z => B y z * C z k) n) n = zis (fun y => zis (fun z => A i y * B y z * C z k) n) n := zis_cong (fun y _ => by
    rw [← zis_mul]
    exact zis_cong (fun z _ => by rw [Int.mul_assoc]))
  rw [e1, e2, zis_swap (fun z y => A i y * B y z * C z k)]
theorem iM_I {n : Nat} {A : iMt} : iQ n (iM n A iI) A := fun i k hi hk => by
  show zis (fun z => A i z * (if z = k then 1 else 0)) n = A i k
  rw [zis_one hk (fun j _ hj => by rw [if_neg hj, Int.mul_zero]), if_pos rfl, Int.mul_one]
theorem iI_M {n : Nat} {A : iMt} : iQ n (iM n iI A) A := fun i k hi hk => by
  show zis (fun z => (if i = z then 1 else 0) * A z k) n = A i k
  rw [zis_one hi (fun j _ hj => by rw [if_neg (Ne.symm hj), Int.zero_mul]), if_pos rfl, Int.one_mul]
theorem iT_cong {n : Nat} {A B : iMt} (h : iQ n A B) : iT n A = iT n B := zis_cong (fun k hk => h k k hk hk)
theorem iT_comm (n : Nat) (A B : iMt) : iT n (iM n A B) = iT n (iM n B A) := by
  show zis (fun k => zis (fun z => A k z * B z k) n) n = zis (fun k => zis (fun z => B k z * A z k) n) n
  rw [zis_swap (fun k z => A k z * B z k)]
  exact zis_cong (fun z _ => zis_cong (fun k _ => Int.mul_comm _ _))
theorem iP_cong {n : Nat} {A B : iMt} (h : iQ n A B) : ∀ j, iQ n (iP n A j) (iP n B j)
  | 0 => fun _ _ _ _ => rfl
  | j + 1 => iM_cong h (iP_cong h j)
theorem iP_sim {n : Nat} {F G U : iMt} (h : iQ n (iM n F U) (iM n U G)) : ∀ j, iQ n (iM n (iP n F j) U) (iM n U (iP n G j))
  | 0 => iI_M.trans iM_I.symm
  | j + 1 => by
    show iQ n (iM n (iM n F (iP n F j)) U) (iM n U (iM n G (iP n G j)))
    rw [iM_assoc, ← iM_assoc n U]
    have h1 : iQ n (iM n F (iM n (iP n F j) U)) (iM n F (iM n U (iP n G j))) := iM_cong (fun _ _ _ _ => rfl) (iP_sim h j)
    refine h1.trans ?_
    rw [← iM_assoc]
    exact iM_cong h (fun _ _ _ _ => rfl)
/-- alike by a change of basis: the traces are alike -/
theorem iT_sim {n : Nat} {F G U V : iMt} (h : iQ n (iM n F U) (iM n U G)) (h1 : iQ n (iM n U V) iI) (h2 : iQ n (iM n V U) iI) (j : Nat) : iT n (iP n F j) = iT n (iP n G j) := by
  have e1 : iQ n (iP n F j) (iM n (iM n (iP n F j) U) V) := by
    rw [iM_assoc]
    exact iM_I.symm.trans (iM_cong (fun _ _ _ _ => rfl) h1.symm)
  have e2 : iQ n (iM n (iM n (iP n F j) U) V) (iM n U (iM n (iP n G j) V)) := by
    rw [← iM_assoc]
    exact iM_cong (iP_sim h j) (fun _ _ _ _ => rfl)
  rw [iT_cong (e1.trans e2), iT_comm, iM_assoc]
  exact iT_cong ((iM_cong (fun _ _ _ _ => rfl) h2).trans iM_I)
/-- alike by p -/
def iC (p : Nat) (a b : Int) : Prop := ∃ k : Int, a = b + (p : Int) * k
theorem iC.rfl (p : Nat) (a : Int) : iC p a a := ⟨0, by rw [Int.mul_zero, Int.add_zero]⟩
theorem iC.symm {p : Nat} {a b : Int} (h : iC p a b) : iC p b a := by
  obtain ⟨k, hk⟩ := h
  exact ⟨-k, by rw [Int.mul_neg]; omega⟩
theorem iC.trans {p : Nat} {a b c : Int} (h : iC p a b) (h2 : iC p b c) : iC p a c := by
  obtain ⟨k, hk⟩ := h
  obtain ⟨l, hl⟩ := h2
  exact ⟨k + l, by rw [Int.mul_add]; omega⟩
theorem iC.add {p : Nat} {a b c d : Int} (h : iC p a b) (h2 : iC p c d) : iC p (a + c) (b + d) := by
  obtain ⟨k, hk⟩ := h
  obtain ⟨l, hl⟩ := h2
  exact ⟨k + l, by rw [Int.mul_add]; omega⟩
theorem iC.neg {p : Nat} {a b : Int} (h : iC p a b) : iC p (-a) (-b) := by
  obtain ⟨k, hk⟩ := h
  exact ⟨-k, by rw [Int.mul_neg]; omega⟩
theorem iC.sub {p : Nat} {a b c d : Int} (h : iC p a b) (h2 : iC p c d) : iC p (a - c) (b - d) := by
  obtain ⟨k, hk⟩ := h
  obtain ⟨l, hl⟩ := h2
  exact ⟨k - l, by rw [Int.mul_sub]; omega⟩
theorem iC.mul {p : Nat} {a b c d : Int} (h : iC p a b) (h2 : iC p c d) : iC p (a * c) (b * d) := by
  obtain ⟨k, rfl⟩ := h
  obtain ⟨l, rfl⟩ := h2
  refine ⟨k * d + b * l + (p : Int) * k * l, ?_⟩
  rw [Int.add_mul, Int.mul_add, Int.mul_add, Int.mul_add, Int.mul_add]
  have e1 : (p : Int) * k * d = (p : Int) * (k * d) := Int.mul_assoc _ _ _
  have e2 : b * ((p : Int) * l) = (p : Int) * (b * l) := Int.mul_left_comm _ _ _
  have e3 : (p : Int) * k * ((p : Int) * l) = (p : Int) * ((p : Int) * k * l) := by rw [Int.mul_left_comm, Int.mul_assoc]
  rw [e1, e2, e3]
  omega
theorem iC.sum {p : Nat} {f g : Nat → Int} : ∀ {n : Nat}, (∀ k, k < n → iC p (f k) (g k)) → iC p (zis f n) (zis g n)
  | 0, _ => iC.rfl p 0
  | n + 1, h => (iC.sum (n := n) (fun k hk => h k (by omega))).add (h n (by omega))
theorem iC.zm {p : Nat} (hp : 0 < p) (z : Int) : iC p (zm z p : Int) z := zm_d hp
theorem iC.md {p : Nat} (hp : 0 < p) (a : Nat) : iC p ((a % p : Nat) : Int) (a : Int) := zn_d a hp
theorem iC.nat {p a b : Nat} (ha : a < p) (hb : b < p) (h : iC p (a : Int) (b : Int)) : a = b := by
  obtain ⟨k, hk⟩ := h
  have h1 : ((a : Int) % (p : Int)) = ((b : Int) % (p : Int)) := by rw [hk, Int.add_mul_emod_self_left]
  rw [Int.emod_eq_of_lt (by omega) (by omega), Int.emod_eq_of_lt (by omega) (by omega)] at h1
  omega
def iCM (p n : Nat) (A B : iMt) : Prop := ∀ i k, i < n → k < n → iC p (A i k) (B i k)
theorem iCM.pow {p n : Nat} {A B : iMt} (h : iCM p n A B) : ∀ j, iCM p n (iP n A j) (iP n B j)
  | 0 => fun _ _ _ _ => iC.rfl _ _
  | j + 1 => fun i k hi hk => iC.sum (fun z hz => (h i z hi hz).mul (iCM.pow h j z k hz hk))
theorem iCM.tr {p n : Nat} {A B : iMt} (h : iCM p n A B) (j : Nat) : iC p (iT n (iP n A j)) (iT n (iP n B j)) := iC.sum (fun k hk => h.pow j k k hk hk)
/-- the square as whole numbers -/
def iN (A : Nat → Nat → Nat) : iMt := fun i k => (A i k : Int)
theorem iT_zsw {w i m : Nat} {A : Nat → Nat → Nat} (hi : i < w) (hm : m < w) (j : Nat) : iT w (iP w (iN (zsw i m A)) j) = iT w (iP w (iN A) j) := by
  have ht : ∀ a, ztr i m (ztr i m a) = a := fun a => by
    by_cases c1 : a = i
    · have e : ztr i m a = m := by unfold ztr; rw [if_pos c1]
      rw [e]
      unfold ztr
      by_cases c2 : m = i
      · rw [if_pos c2, c1, c2]
      · rw [if_neg c2, if_pos rfl, c1]
    · by_cases c2 : a = m
      · have e : ztr i m a = i := by unfold ztr; rw [if_neg c1, if_pos c2]
        rw [e]
        unfold ztr
        rw [if_pos rfl, c2]
      · have e : ztr i m a = a := by unfold ztr; rw [if_neg c1, if_neg c2]
        rw [e, e]
  let U : iMt := fun a b => if ztr i m a = b then 1 else 0
  have hUU : iQ w (iM w U U) iI := fun a b ha hb => by
    show zis (fun z => (if ztr i m a = z then 1 else 0) * (if ztr i m z = b then 1 else 0)) w = (if a = b then 1 else 0)
    rw [zis_one (ztr_lt hi hm ha) (fun j _ hj => by rw [if_neg (Ne.symm hj), Int.zero_mul]), if_pos rfl, Int.one_mul, ht]
  refine iT_sim (U := U) (V := U) (fun a b ha hb => ?_) hUU hUU j
  show zis (fun z => (A (ztr i m a) (ztr i m z) : Int) * (if ztr i m z = b then 1 else 0)) w = zis (fun z => (if ztr i m a = z then 1 else 0) * (A z b : Int)) w
  rw [zis_one (ztr_lt hi hm hb) (fun j _ hj => by rw [if_neg (fun q => hj (by rw [← q, ht])), Int.mul_zero]), zis_one (ztr_lt hi hm ha) (fun j _ hj => by rw [if_neg (Ne.symm hj), Int.zero_mul]), ht, if_pos rfl, if_pos rfl, Int.mul_one, Int.one_mul]
theorem iT_zre {p w k m f : Nat} {A : Nat → Nat → Nat} (hp : 0 < p) (hk : k < w) (hm : m < w) (hkm : k ≠ m) (j : Nat) : iC p (iT w (iP w (iN (zre p k m f A)) j)) (iT w (iP w (iN A) j)) := by
  by_cases c0 : f = 0
  · have e : zre p k m f A = A := by unfold zre; rw [if_pos c0]
    rw [e]; exact iC.rfl _ _
  let A1 : iMt := fun a b => if a = k then (A k b : Int) - (f : Int) * (A m b : Int) else (A a b : Int)
  let F : iMt := fun a b => if b = m then A1 a m + (f : Int) * A1 a k else A1 a b
  have hF : iCM p w (iN (zre p k m f A)) F := fun a b _ _ => by
    have e : zre p k m f A = zr2 p k m f (zr1 p k m f A) := by unfold zre; rw [if_neg c0]
    have h1 : ∀ b, iC p ((zr1 p k m f A a b : Nat) : Int) (A1 a b) := fun b => by
      show iC p ((if a = k then zm ((A k b : Int) - (f : Int) * (A m b : Int)) p else A a b : Nat) : Int) (if a = k then (A k b : Int) - (f : Int) * (A m b : Int) else (A a b : Int))
      by_cases c : a = k
      · rw [if_pos c, if_pos c]; exact iC.zm hp _
      · rw [if_neg c, if_neg c]; exact iC.rfl _ _
    show iC p ((zre p k m f A a b : Nat) : Int) (if b = m then A1 a m + (f : Int) * A1 a k else A1 a b)
    rw [e]
    by_cases c : b = m
    · subst c
      rw [zr2_is, if_pos rfl]
      exact (iC.zm hp _).trans ((h1 b).add ((iC.rfl p (f : Int)).mul (h1 k)))
    · rw [zr2_no c, if_neg c]
      exact h1 b
  refine (hF.tr j).trans ?_
  have hs : iT w (iP w F j) = iT w (iP w (iN A) j) := by
    let E : Int → iMt := fun g a b => (if a = b then 1 else 0) + (if a = k ∧ b = m then g else 0)
    have hE : ∀ (g : Int) (B : iMt) a b, a < w → iM w (E g) B a b = B a b + (if a = k then g * B m b else 0) := by
      intro g B a b ha
      show zis (fun z => ((if a = z then 1 else 0) + (if a = k ∧ z = m then g else 0)) * B z b) w = _
      have e1 : zis (fun z => ((if a = z then 1 else 0) + (if a = k ∧ z = m then g else 0)) * B z b) w = zis (fun z => (if a = z then 1 else 0) * B z b) w + zis (fun z => (if a = k ∧ z = m then g else 0) * B z b) w := by
        rw [← zis_add]
        exact zis_cong (fun z _ => Int.add_mul _ _ _)
      rw [e1, zis_one ha (fun j _ hj => by rw [if_neg (Ne.symm hj), Int.zero_mul]), if_pos rfl, Int.one_mul]
      congr 1
      rw [zis_one hm (fun j _ hj => by rw [if_neg (fun q => hj q.2), Int.zero_mul])]
      by_cases c : a = k
      · rw [if_pos ⟨c, rfl⟩, if_pos c]
      · rw [if_neg (fun q => c q.1), if_neg c, Int.zero_mul]
    have hinv : ∀ g : Int, iQ w (iM w (E g) (E (-g))) iI := fun g a b ha hb => by
      rw [hE g _ a b ha]
      show (if a = b then 1 else 0) + (if a = k ∧ b = m then -g else 0) + (if a = k then g * ((if m = b then 1 else 0) + (if m = k ∧ b = m then -g else 0)) else 0) = (if a = b then 1 else 0)
      rw [if_neg (fun q : m = k ∧ b = m => hkm q.1.symm), Int.add_zero]
      by_cases c1 : a = k
      · by_cases c2 : b = m
        · rw [if_pos (show a = k ∧ b = m from ⟨c1, c2⟩), if_pos c1, if_pos c2.symm, Int.mul_one]; omega
        · rw [if_neg (fun q : a = k ∧ b = m => c2 q.2), if_pos c1, if_neg (fun q : m = b => c2 q.symm), Int.mul_zero]; omega
      · rw [if_neg (fun q : a = k ∧ b = m => c1 q.1), if_neg c1]; omega
    refine iT_sim (U := E (-(f : Int))) (V := E (f : Int)) (fun a b ha hb => ?_) (by have := hinv (-(f : Int)); rw [Int.neg_neg] at this; exact this) (hinv f) j
    rw [hE _ _ a b ha]
    show zis (fun z => F a z * ((if z = b then 1 else 0) + (if z = k ∧ b = m then -(f : Int) else 0))) w = _
    have e1 : zis (fun z => F a z * ((if z = b then 1 else 0) + (if z = k ∧ b = m then -(f : Int) else 0))) w = zis (fun z => F a z * (if z = b then 1 else 0)) w + zis (fun z => F a z * (if z = k ∧ b = m then -(f : Int) else 0)) w := by
      rw [← zis_add]
      exact zis_cong (fun z _ => Int.mul_add _ _ _)
    rw [e1, zis_one hb (fun j _ hj => by rw [if_neg hj, Int.mul_zero]), if_pos rfl, Int.mul_one, zis_one hk (fun j _ hj => by rw [if_neg (fun q => hj q.1), Int.mul_zero])]
    have eF : ∀ c, c ≠ m → F a c = A1 a c := fun c hc => if_neg hc
    have eFm : F a m = A1 a m + (f : Int) * A1 a k := if_pos rfl
    have goal : F a b + F a k * (if k = k ∧ b = m then -(f : Int) else 0) = A1 a b := by
      rw [eF k hkm]
      by_cases c : b = m
      · subst c
        rw [if_pos ⟨rfl, rfl⟩, eFm, Int.mul_neg, Int.mul_comm (A1 a k)]
        omega
      · rw [if_neg (fun q => c q.2), Int.mul_zero, Int.add_zero, eF b c]
    rw [goal]
    show (if a = k then (A k b : Int) - (f : Int) * (A m b : Int) else (A a b : Int)) = (A a b : Int) + (if a = k then -(f : Int) * (A m b : Int) else 0)
    by_cases c : a = k
    · rw [if_pos c, if_pos c, c, Int.neg_mul]; omega
    · rw [if_neg c, if_neg c, Int.add_zero]
  rw [hs]
  exact iC.rfl _ _
theorem iT_zbn {p w : Nat} {A : Nat → Nat → Nat} (hp : 0 < p) (j : Nat) : iC p (iT w (iP w (iN (zbn p w A)) j)) (iT w (iP w (iN A) j)) := by
  have hel : ∀ m B, m < w → ∀ i, i ≤ w - (m + 1) → iC p (iT w (iP w (iN (zel p m B i)) j)) (iT w (iP w (iN B) j)) := by
    intro m B hm i
    induction i with
    | zero => intro _; exact iC.rfl _ _
    | succ i ih =>
      intro hi
      exact (iT_zre hp (show m + 1 + i < w by omega) hm (by omega) j).trans (ih (by omega))
  have hbs : ∀ m B, m < w → iC p (iT w (iP w (iN (zbs p w m B)) j)) (iT w (iP w (iN B) j)) := by
    intro m B hm
    unfold zbs
    cases h : zpv B m w with
    | none => exact iC.rfl _ _
    | some y =>
      have hy := (zpv_some h).1
      refine (hel m _ hm _ (Nat.le_refl _)).trans ?_
      rw [iT_zsw (by omega) hm]
      exact iC.rfl _ _
  have hbk : ∀ i, i + 1 < w ∨ i = 0 → iC p (iT w (iP w (iN (zbk p w A i)) j)) (iT w (iP w (iN A) j)) := by
    intro i
    induction i with
    | zero => intro _; exact iC.rfl _ _
    | succ i ih =>
      intro hi
      exact (hbs (i + 1) _ (by omega)).trans (ih (by omega))
  exact hbk (w - 2) (by omega)
/-- a square with ones on the diagonal and nothing below has an inverse -/
def iUt (n : Nat) (W : iMt) : Prop := (∀ k, k < n → W k k = 1) ∧ ∀ i k, i < n → k < i → W i k = 0
theorem iUt_inv {W : iMt} : ∀ n, iUt n W → ∃ V : iMt, iUt n V ∧ iQ n (iM n W V) iI
  | 0, _ => ⟨iI, ⟨fun k h => absurd h (Nat.not_lt_zero _), fun i k h => absurd h (Nat.not_lt_zero _)⟩, fun i k h => absurd h (Nat.not_lt_zero _)⟩
  | n + 1, h => by
    obtain ⟨V, hV, hI⟩ := iUt_inv n ⟨fun k hk => h.1 k (by omega), fun i k hi hk => h.2 i k (by omega) hk⟩
    let V' : iMt := fun i k => if k < n then (if i < n then V i k else 0) else (if i < n then - zis (fun z => V i z * W z n) n else 1)
    refine ⟨V', ⟨fun k hk => ?_, fun i k hi hk => ?_⟩, fun i k hi hk => ?_⟩
    · show (if k < n then (if k < n then V k k else 0) else (if k < n then _ else 1)) = 1
      by_cases c : k < n
      · rw [if_pos c, if_pos c]; exact hV.1 k c
      · rw [if_neg c, if_neg c]
    · show (if k < n then (if i < n then V i k else 0) else _) = 0
      rw [if_pos (by omega)]
      by_cases c : i < n
      · rw [if_pos c]; exact hV.2 i k c hk
      · rw [if_neg c]
    · show zis (fun z => W i z * V' z k) n + W i n * V' n k = (if i = k then 1 else 0)
      have eV : ∀ z, z < n → V' z k = if k < n then V z k else - zis (fun y => V z y * W y n) n := fun z hz => by
        show (if k < n then (if z < n then V z k else 0) else (if z < n then - zis (fun y => V z y * W y n) n else 1)) = _
        rw [if_pos hz, if_pos hz]
      have eN : V' n k = if k < n then 0 else 1 := by
        show (if k < n then (if n < n then V n k else 0) else (if n < n then _ else 1)) = _
        rw [if_neg (Nat.lt_irrefl n), if_neg (Nat.lt_irrefl n)]
      rw [zis_cong (fun z hz => by rw [eV z hz]), eN]
      by_cases c : k < n
      · rw [if_pos c, Int.mul_zero, Int.add_zero]
        have e3 : zis (fun z => W i z * (if k < n then V z k else - zis (fun y => V z y * W y n) n)) n = zis (fun z => W i z * V z k) n := zis_cong (fun z _ => by rw [if_pos c])
        rw [e3]
        by_cases c2 : i < n
        · exact hI i k c2 c
        · rw [if_neg (by omega)]
          exact zis_0 (fun z hz => by rw [h.2 i z hi (by omega), Int.zero_mul])
      · rw [if_neg c, Int.mul_one]
        have hkn : k = n := by omega
        have e3 : zis (fun z => W i z * (if k < n then V z k else - zis (fun y => V z y * W y n) n)) n = - iM n W (iM n V W) i n := by
          show _ = - zis (fun z => W i z * iM n V W z n) n
          rw [← zis_neg]
          refine zis_cong (fun z _ => ?_)
          rw [if_neg c, Int.mul_neg]
          rfl
        rw [e3, ← iM_assoc]
        by_cases c2 : i < n
        · rw [if_neg (by omega)]
          have e4 : iM n (iM n W V) W i n = W i n := by
            show zis (fun z => iM n W V i z * W z n) n = W i n
            rw [zis_one c2 (fun z hz hne => by rw [hI i z c2 hz]; show (if i = z then (1 : Int) else 0) * _ = 0; rw [if_neg (Ne.symm hne), Int.zero_mul]), hI i i c2 c2]
            show (if i = i then (1 : Int) else 0) * _ = _
            rw [if_pos rfl, Int.one_mul]
          rw [e4]; omega
        · have hin : i = n := by omega
          rw [if_pos (by omega), hin, h.1 n (by omega)]
          have e4 : iM n (iM n W V) W n n = 0 := by
            rw [iM_assoc]
            exact zis_0 (fun z hz => by rw [h.2 n z (by omega) hz, Int.zero_mul])
          rw [e4]; omega
theorem iUt_inv2 {n : Nat} {W : iMt} (h : iUt n W) : ∃ V : iMt, iQ n (iM n W V) iI ∧ iQ n (iM n V W) iI := by
  obtain ⟨V, hV, h1⟩ := iUt_inv n h
  obtain ⟨V2, -, h2⟩ := iUt_inv n hV
  refine ⟨V, h1, ?_⟩
  -- W is V2
  have e : iQ n W V2 := by
    have a1 : iQ n W (iM n W (iM n V V2)) := iM_I.symm.trans (iM_cong (fun _ _ _ _ => rfl) h2.symm)
    refine a1.trans ?_
    rw [← iM_assoc]
    exact (iM_cong h1 (fun _ _ _ _ => rfl)).trans iI_M
  exact (iM_cong (fun _ _ _ _ => rfl) e).trans h2
