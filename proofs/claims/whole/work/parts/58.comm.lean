/-! MATHEMATICS 4: operators as tables; commuting in sectors -/
theorem zs_modc {p : Nat} {f g : Nat → Nat} : ∀ {n : Nat}, (∀ k, k < n → f k % p = g k % p) → zs f n % p = zs g n % p
  | 0, _ => rfl
  | n + 1, h => by
    show (zs f n + f n) % p = (zs g n + g n) % p
    rw [Nat.add_mod, zs_modc (fun k hk => h k (by omega)), h n (by omega), ← Nat.add_mod]
/-- THE SUM's table -/
def zSg (n b e a y : Nat) : Nat := zs (fun i => if ztg n a i = y then zwt n e a i else 0) b
theorem zS_lin (p n b e : Nat) (v : Nat → Nat) (y : Nat) : zS p n b e v y = zs (fun a => v a * zSg n b e a y) (2 ^ n) % p := by
  unfold zS
  congr 1
  refine zs_cong (fun a _ => ?_)
  unfold zSg
  rw [← zs_mul]
  refine zs_cong (fun i _ => ?_)
  unfold zt
  split
  · rfl
  · rw [Nat.mul_zero]
theorem zu_sum {a N : Nat} (h : a < N) (f : Nat → Nat) : zs (fun z => zu a z * f z) N = f a := by
  rw [zs_one h (fun j _ hj => by show zu a j * f j = 0; unfold zu; rw [if_neg hj, Nat.zero_mul])]
  unfold zu
  rw [if_pos rfl, Nat.one_mul]
theorem zS_unit {p n b e a : Nat} (ha : a < 2 ^ n) (y : Nat) : zS p n b e (zu a) y = zSg n b e a y % p := by
  rw [zS_lin, zu_sum ha]
theorem zx_lin {p i j A B C N : Nat} {f : Nat → Nat} {c : Nat → Nat} {g : Nat → Nat → Nat} (h : ∀ z, f z % p = zs (fun a => c a * g a z) N % p) (y : Nat) : zx p i j A B C f y % p = zs (fun a => c a * zx p i j A B C (g a) y) N % p := by
  unfold zx
  split
  · rw [Nat.mod_mod, ← Nat.mul_mod_mod, h, Nat.mul_mod_mod, ← zs_mul]
    refine zs_modc (fun a _ => ?_)
    rw [Nat.mul_mod_mod, Nat.mul_left_comm]
  · rw [Nat.mod_mod, Nat.add_mod, ← Nat.mul_mod_mod B, h, ← Nat.mul_mod_mod C, h, Nat.mul_mod_mod, Nat.mul_mod_mod, ← Nat.add_mod, ← zs_mul, ← zs_mul, ← zs_add]
    refine zs_modc (fun a _ => ?_)
    rw [Nat.mul_mod_mod, Nat.mul_add, Nat.mul_left_comm B, Nat.mul_left_comm C]
theorem zti_lin {p n A B C N : Nat} {f : Nat → Nat} {c : Nat → Nat} {g : Nat → Nat → Nat} (h : ∀ z, f z % p = zs (fun a => c a * g a z) N % p) : ∀ k y, zti p n A B C k f y % p = zs (fun a => c a * zti p n A B C k (g a) y) N % p
  | 0, y => h y
  | k + 1, y => zx_lin (fun z => zti_lin h k z) y
theorem zt0_lin (n : Nat) (v : Nat → Nat) (e z : Nat) : zt0 n v e z = zs (fun a => v a * zt0 n (zu a) e z) (2 ^ n) := by
  unfold zt0
  by_cases c : z / 2 ^ n = e
  · rw [if_pos c]
    have hm : z % 2 ^ n < 2 ^ n := Nat.mod_lt _ (Nat.pow_pos (by omega))
    rw [zs_one hm]
    · rw [if_pos c]; unfold zu; rw [if_pos rfl, Nat.mul_one]
    · intro j _ hj
      rw [if_pos c]
      unfold zu
      rw [if_neg (Ne.symm hj), Nat.mul_zero]
  · rw [if_neg c]
    symm
    refine zs_zero (fun k _ => ?_)
    rw [if_neg c, Nat.mul_zero]
theorem zTb_lin (p n A B C : Nat) (v : Nat → Nat) (y : Nat) : zTb p n A B C v y = zs (fun a => v a * zTb p n A B C (zu a) y) (2 ^ n) % p := by
  have h : ∀ e z, zt0 n v e z % p = zs (fun a => v a * zt0 n (zu a) e z) (2 ^ n) % p := fun e z => by rw [← zt0_lin]
  show (_ + _) % p = _
  rw [Nat.add_mod, zti_lin (h 0) n y, zti_lin (h 1) n (2 ^ n + y), ← Nat.add_mod, ← zs_add]
  refine zs_modc (fun a _ => ?_)
  show _ = v a * ((_ + _) % p) % p
  rw [Nat.mul_mod_mod, Nat.mul_add]
/-- an operator is told by a table -/
def zLn (p n : Nat) (F : (Nat → Nat) → Nat → Nat) (K : Nat → Nat → Nat) : Prop := ∀ v y, y < 2 ^ n → F v y = zs (fun a => v a * K a y) (2 ^ n) % p
theorem zLn_S (p n b e : Nat) : zLn p n (zS p n b e) (zSg n b e) := fun v y _ => zS_lin p n b e v y
theorem zLn_T {p n A B C : Nat} (hp : 1 < p) (hn : n < 8) : zLn p n (zTb p n A B C) (ztb p n A B C) := fun v y hy => by
  rw [zTb_lin]
  congr 1
  refine zs_cong (fun a ha => ?_)
  rw [ztb_eq hp hn ha hy]
theorem zLn_two {p n : Nat} {F G : (Nat → Nat) → Nat → Nat} {K H : Nat → Nat → Nat} (hF : zLn p n F K) (hG : zLn p n G H) {a y : Nat} (ha : a < 2 ^ n) (hy : y < 2 ^ n) : G (F (zu a)) y = zs (fun z => K a z * H z y) (2 ^ n) % p := by
  rw [hG _ y hy]
  refine zs_modc (fun z hz => ?_)
  rw [hF _ z hz, zu_sum ha, Nat.mod_mul_mod]
theorem zs_filter (f : Nat → Bool) (h : Nat → Nat) : ∀ N, zs (fun z => if f z = true then h z else 0) N = zs (fun k => h ((zfl f N).getD k 0)) (zfl f N).length
  | 0 => rfl
  | N + 1 => by
    show zs (fun z => if f z = true then h z else 0) N + (if f N = true then h N else 0) = _
    rw [zs_filter f h N, zfl_len]
    by_cases c : f N = true
    · rw [if_pos c, if_pos c]
      show _ = zs (fun k => h ((zfl f (N + 1)).getD k 0)) (zfl f N).length + h ((zfl f (N + 1)).getD (zfl f N).length 0)
      rw [zfl_s, if_pos c]
      congr 1
      · refine zs_cong (fun k hk => ?_)
        congr 1
        rw [List.getD_eq_getElem?_getD, List.getD_eq_getElem?_getD, List.getElem?_append_left hk]
      · congr 1
        rw [List.getD_eq_getElem?_getD, List.getElem?_append_right (Nat.le_refl _), Nat.sub_self]
        rfl
    · rw [if_neg c, if_neg c, zfl_s, if_neg c, List.append_nil]
      rfl
theorem zs_rev (h : Nat → Nat) : ∀ N, zs h N = zs (fun z => h (N - 1 - z)) N
  | 0 => rfl
  | N + 1 => by
    have e : ∀ (g : Nat → Nat) M, zs g (M + 1) = g 0 + zs (fun z => g (z + 1)) M := by
      intro g M
      induction M with
      | zero => show 0 + g 0 = g 0 + 0; omega
      | succ M ih =>
        show zs g (M + 1) + g (M + 1) = g 0 + (zs (fun z => g (z + 1)) M + g (M + 1))
        rw [ih]; omega
    rw [e (fun z => h (N + 1 - 1 - z))]
    show zs h N + h N = h (N + 1 - 1 - 0) + zs (fun z => h (N + 1 - 1 - (z + 1))) N
    rw [zs_rev h N, show N + 1 - 1 - 0 = N by omega, Nat.add_comm]
    congr 1
    refine zs_cong (fun z _ => ?_)
    rw [show N + 1 - 1 - (z + 1) = N - 1 - z by omega]
/-- all letters turned -/
def zk (n a : Nat) : Nat := 2 ^ n - 1 - a
theorem zk_all : ((List.range 8).all fun n => (List.range (2 ^ n)).all fun a => (zc (zk n a) == n - zc a) && decide (zc a ≤ n) && ((List.range n).all fun i => (zb (zk n a) i == 1 - zb a i) && (decide (n < 2) || ((ztg n (zk n a) i == zk n (ztg n a i)) && (zal n (zk n a) i == zal n a i) && (ztg n (ztg n a i) i == a) && (zal n (ztg n a i) i == zal n a i))))) = true := by decide +kernel
theorem zk_f {n a : Nat} (hn : n < 8) (ha : a < 2 ^ n) : zc (zk n a) = n - zc a ∧ zc a ≤ n ∧ ∀ i, i < n → zb (zk n a) i = 1 - zb a i ∧ (2 ≤ n → ztg n (zk n a) i = zk n (ztg n a i) ∧ zal n (zk n a) i = zal n a i ∧ ztg n (ztg n a i) i = a ∧ zal n (ztg n a i) i = zal n a i) := by
  have h1 := List.all_eq_true.mp (List.all_eq_true.mp zk_all n (List.mem_range.mpr hn)) a (List.mem_range.mpr ha)
  rw [Bool.and_eq_true, Bool.and_eq_true, beq_iff_eq, decide_eq_true_eq] at h1
  refine ⟨h1.1.1, h1.1.2, fun i hi => ?_⟩
  have h2 := List.all_eq_true.mp h1.2 i (List.mem_range.mpr hi)
  rw [Bool.and_eq_true, beq_iff_eq, Bool.or_eq_true, decide_eq_true_eq, Bool.and_eq_true, Bool.and_eq_true, Bool.and_eq_true, beq_iff_eq, beq_iff_eq, beq_iff_eq, beq_iff_eq] at h2
  refine ⟨h2.1, fun h => ?_⟩
  rcases h2.2 with q | ⟨⟨⟨q1, q2⟩, q3⟩, q4⟩
  · omega
  · exact ⟨q1, q2, q3, q4⟩
theorem zk_lt {n a : Nat} (ha : a < 2 ^ n) : zk n a < 2 ^ n := by unfold zk; omega
theorem zk_zk {n a : Nat} (ha : a < 2 ^ n) : zk n (zk n a) = a := by unfold zk; omega
theorem zSg_k {n b e a y : Nat} (hn : n < 8) (hn2 : 2 ≤ n) (hb : b ≤ n) (ha : a < 2 ^ n) (hy : y < 2 ^ n) : zSg n b e (zk n a) (zk n y) = zSg n b e a y := by
  unfold zSg
  refine zs_cong (fun i hi => ?_)
  obtain ⟨-, h⟩ := (zk_f hn ha).2.2 i (by omega)
  obtain ⟨h1, h2, -⟩ := h hn2
  have hlt := ztg_lt n hn hn2 a ha i (by omega)
  unfold zwt
  rw [h1, h2]
  by_cases c : ztg n a i = y
  · rw [if_pos (by rw [c]), if_pos c]
  · rw [if_neg (fun q => c (by rw [← zk_zk hlt, q, zk_zk hy])), if_neg c]
theorem zSg_c {n b e a y : Nat} (hn : n < 8) (hn2 : 2 ≤ n) (hb : b ≤ n) (ha : a < 2 ^ n) (h : zc a ≠ zc y) : zSg n b e a y = 0 := by
  unfold zSg
  refine zs_zero (fun i hi => ?_)
  rw [if_neg]
  intro q
  apply h
  rw [← q, zctg n hn hn2 a ha i (by omega)]
/-- THE SUM's table is its own mirror -/
theorem zSg_sym {n b e a y : Nat} (hn : n < 8) (hn2 : 2 ≤ n) (hb : b ≤ n) (ha : a < 2 ^ n) (hy : y < 2 ^ n) : zSg n b e a y = zSg n b e y a := by
  unfold zSg
  refine zs_cong (fun i hi => ?_)
  obtain ⟨-, -, h1, h2⟩ := ((zk_f hn ha).2.2 i (by omega)).2 hn2
  obtain ⟨-, -, h3, h4⟩ := ((zk_f hn hy).2.2 i (by omega)).2 hn2
  unfold zwt
  by_cases c : ztg n a i = y
  · subst c
    rw [if_pos rfl, if_pos h1, h2]
  · rw [if_neg c, if_neg (fun q => c (by rw [← q]; exact h3))]
theorem zwy_k {p n A B C a b f : Nat} (hn : n < 8) (ha : a < 2 ^ n) (hb : b < 2 ^ n) (hp : 1 < p) (hf : f ≤ 1) : ∀ k, k ≤ n → zwy p A B C (zk n a) (zk n b) (1 - f) k = (1 - (zwy p A B C a b f k).1, (zwy p A B C a b f k).2)
  | 0, _ => rfl
  | k + 1, hk => by
    have ih := zwy_k (p := p) (A := A) (B := B) (C := C) hn ha hb hp hf k (by omega)
    have hl := (zwy_lt (p := p) (A := A) (B := B) (C := C) (a := a) (b := b) hp hf k).1
    have e1 := ((zk_f hn ha).2.2 k (by omega)).1
    have e2 := ((zk_f hn hb).2.2 k (by omega)).1
    have l1 := zb_le a k
    have l2 := zb_le b k
    unfold zwy
    rw [ih, e1, e2]
    generalize zwy p A B C a b f k = q at hl
    dsimp only
    by_cases c1 : zb a k = zb b k
    · rw [if_pos c1, if_pos (by omega)]
      by_cases c2 : zb a k = q.1
      · rw [if_pos c2, if_pos (by omega)]
      · rw [if_neg c2, if_neg (by omega)]
    · rw [if_neg c1, if_neg (by omega)]
      by_cases c2 : zb a k = q.1
      · rw [if_neg (by omega), if_neg (by omega)]
      · rw [if_pos (by omega), if_pos (by omega)]
theorem ztb_k {p n A B C a y : Nat} (hn : n < 8) (hp : 1 < p) (ha : a < 2 ^ n) (hy : y < 2 ^ n) : ztb p n A B C (zk n a) (zk n y) = ztb p n A B C a y := by
  have hw : ∀ f, f ≤ 1 → zwr p n A B C (zk n a) (zk n y) (1 - f) = zwr p n A B C a y f := fun f hf => by
    have hl := (zwy_lt (p := p) (A := A) (B := B) (C := C) (a := a) (b := y) hp hf n).1
    unfold zwr
    rw [zwy_k hn ha hy hp hf n (Nat.le_refl _)]
    dsimp only
    by_cases c : (zwy p A B C a y f n).1 = f
    · rw [if_pos c, if_pos (by omega)]
    · rw [if_neg c, if_neg (by omega)]
  have h0 := hw 0 (by omega)
  have h1 := hw 1 (by omega)
  have c1 := (zk_f hn ha)
  have c2 := (zk_f hn hy)
  unfold ztb
  by_cases c : zc a = zc y
  · rw [if_pos c, if_pos (by rw [c1.1, c2.1, c])]
    rw [show 1 - 0 = 1 from rfl] at h0
    rw [show 1 - 1 = 0 from rfl] at h1
    rw [h0, h1, Nat.add_comm]
  · rw [if_neg c, if_neg (by rw [c1.1, c2.1]; have := c1.2.1; have := c2.2.1; omega)]
theorem zm_sub {a b p : Nat} (hp : 0 < p) : zm ((a : Int) - (b : Int)) p = 0 ↔ a % p = b % p := by
  rw [zm_z hp]
  constructor
  · rintro ⟨k, hk⟩
    have h1 : ((a : Int) % (p : Int)) = ((b : Int) % (p : Int)) := by
      rw [show (a : Int) = (b : Int) + (p : Int) * k by omega, Int.add_mul_emod_self_left]
    omega
  · intro h
    refine ⟨((a / p : Nat) : Int) - ((b / p : Nat) : Int), ?_⟩
    have h1 := Nat.div_add_mod a p
    have h2 := Nat.div_add_mod b p
    have h3 : (a : Int) = (p : Int) * ((a / p : Nat) : Int) + ((a % p : Nat) : Int) := by rw [← Int.natCast_mul, ← Int.natCast_add, h1]
    have h4 : (b : Int) = (p : Int) * ((b / p : Nat) : Int) + ((b % p : Nat) : Int) := by rw [← Int.natCast_mul, ← Int.natCast_add, h2]
    rw [Int.mul_sub]
    rw [h] at h3
    omega
theorem zis_sub (f g : Nat → Nat) : ∀ n, zis (fun z => (f z : Int) - (g z : Int)) n = (zs f n : Int) - (zs g n : Int)
  | 0 => rfl
  | n + 1 => by
    show zis _ n + _ = ((zs f n + f n : Nat) : Int) - ((zs g n + g n : Nat) : Int)
    rw [zis_sub f g n]
    show _ + ((f n : Int) - (g n : Int)) = _
    omega
theorem zAg_iff {p w : Nat} (hp : 0 < p) {F G : Nat → Nat → Nat} : zAg p w F G ↔ ∀ i k, i < w → k < w → zs (fun z => F i z * G z k) w % p = zs (fun z => G i z * F z k) w % p := by
  have e : ∀ i k, zis (zdf F G i k) w = ((zs (fun z => F i z * G z k) w : Nat) : Int) - ((zs (fun z => G i z * F z k) w : Nat) : Int) := fun i k => zis_sub (fun z => F i z * G z k) (fun z => G i z * F z k) w
  unfold zAg
  constructor
  · intro h i k hi hk
    exact (zm_sub hp).mp (by rw [← e]; exact h i k hi hk)
  · intro h i k hi hk
    rw [e]
    exact (zm_sub hp).mpr (h i k hi hk)
theorem zsec_get {n m k : Nat} (hk : k < (zsec n m).length) : ∃ a, (zsec n m)[k]? = some a ∧ (zsec n m).getD k 0 = a ∧ a < 2 ^ n ∧ zc a = m := by
  have h1 : (zsec n m)[k]? = some (zsec n m)[k] := List.getElem?_eq_getElem hk
  refine ⟨_, h1, by rw [List.getD_eq_getElem?_getD, h1]; rfl, ?_⟩
  obtain ⟨h2, h3, -⟩ := zfl_mem h1
  exact ⟨h2, beq_iff_eq.mp h3⟩
theorem zsec_idx {n m a : Nat} (ha : a < 2 ^ n) (hc : zc a = m) : (zfl (zsf m) a).length < (zsec n m).length ∧ (zsec n m).getD (zfl (zsf m) a).length 0 = a := by
  have hf : zsf m a = true := beq_iff_eq.mpr hc
  refine ⟨zfl_lt ha hf, ?_⟩
  have := zfl_at ha hf
  unfold zsec
  rw [List.getD_eq_getElem?_getD, this]
  rfl
/-- a sum over all states that knows the sector -/
theorem zs_sec {n m : Nat} {h : Nat → Nat} (hz : ∀ z, z < 2 ^ n → zc z ≠ m → h z = 0) : zs h (2 ^ n) = zs (fun k => h ((zsec n m).getD k 0)) (zsec n m).length := by
  unfold zsec
  rw [← zs_filter (zsf m) h]
  refine zs_cong (fun z hz' => ?_)
  by_cases c : zc z = m
  · rw [if_pos (show zsf m z = true from beq_iff_eq.mpr c)]
  · rw [if_neg (fun q : zsf m z = true => c (beq_iff_eq.mp q)), hz z hz' c]
theorem zAS_iff {p n : Nat} {F G : (Nat → Nat) → Nat → Nat} {K H : Nat → Nat → Nat} {H' : Nat → Nat → Nat → Nat} (hp : 0 < p) (hn : n < 8) (hF : zLn p n F K) (hG : zLn p n G H)
    (hK : ∀ a y, a < 2 ^ n → y < 2 ^ n → zc a ≠ zc y → K a y = 0) (hH : ∀ a y, a < 2 ^ n → y < 2 ^ n → zc a ≠ zc y → H a y = 0)
    (hKk : ∀ a y, a < 2 ^ n → y < 2 ^ n → K (zk n a) (zk n y) = K a y) (hHk : ∀ a y, a < 2 ^ n → y < 2 ^ n → H (zk n a) (zk n y) = H a y)
    (hH' : ∀ m i j, i < (zsec n m).length → j < (zsec n m).length → H' m i j % p = zin (zsec n m) H i j % p) : zAS p n K H' ↔ zCm n F G := by
  -- the two products at a pair of states
  let P : Nat → Nat → Prop := fun a y => zs (fun z => K a z * H z y) (2 ^ n) % p = zs (fun z => H a z * K z y) (2 ^ n) % p
  have hCm : zCm n F G ↔ ∀ a y, a < 2 ^ n → y < 2 ^ n → P a y := by
    unfold zCm
    constructor
    · intro h a y ha hy
      have := h a ha y hy
      rw [zLn_two hF hG ha hy, zLn_two hG hF ha hy] at this
      exact this
    · intro h a ha y hy
      rw [zLn_two hF hG ha hy, zLn_two hG hF ha hy]
      exact h a y ha hy
  have hoff : ∀ a y, a < 2 ^ n → y < 2 ^ n → zc a ≠ zc y → P a y := by
    intro a y ha hy hc
    show _ % p = _ % p
    have e1 : zs (fun z => K a z * H z y) (2 ^ n) = 0 := zs_zero (fun z hz => by
      by_cases c : zc a = zc z
      · rw [hH z y hz hy (by omega), Nat.mul_zero]
      · rw [hK a z ha hz c, Nat.zero_mul])
    have e2 : zs (fun z => H a z * K z y) (2 ^ n) = 0 := zs_zero (fun z hz => by
      by_cases c : zc a = zc z
      · rw [hK z y hz hy (by omega), Nat.mul_zero]
      · rw [hH a z ha hz c, Nat.zero_mul])
    rw [e1, e2]
  have hrev : ∀ (K1 H1 : Nat → Nat → Nat) a y, (∀ a y, a < 2 ^ n → y < 2 ^ n → K1 (zk n a) (zk n y) = K1 a y) → (∀ a y, a < 2 ^ n → y < 2 ^ n → H1 (zk n a) (zk n y) = H1 a y) → a < 2 ^ n → y < 2 ^ n → zs (fun z => K1 (zk n a) z * H1 z (zk n y)) (2 ^ n) = zs (fun z => K1 a z * H1 z y) (2 ^ n) := by
    intro K1 H1 a y h1 h2 ha hy
    rw [zs_rev]
    refine zs_cong (fun z hz => ?_)
    show K1 (zk n a) (zk n z) * H1 (zk n z) (zk n y) = _
    rw [h1 a z ha hz, h2 z y hz hy]
  have hkk : ∀ a y, a < 2 ^ n → y < 2 ^ n → (P (zk n a) (zk n y) ↔ P a y) := by
    intro a y ha hy
    show _ % p = _ % p ↔ _ % p = _ % p
    rw [hrev K H a y hKk hHk ha hy, hrev H K a y hHk hKk ha hy]
  have hsec : ∀ m, zAg p (zsec n m).length (zin (zsec n m) K) (H' m) ↔ ∀ a y, a < 2 ^ n → y < 2 ^ n → zc a = m → zc y = m → P a y := by
    intro m
    rw [zAg_iff hp]
    have e1 : ∀ i k a y, i < (zsec n m).length → k < (zsec n m).length → (zsec n m).getD i 0 = a → (zsec n m).getD k 0 = y → a < 2 ^ n → y < 2 ^ n → zc a = m → zc y = m → (zs (fun z => zin (zsec n m) K i z * H' m z k) (zsec n m).length % p = zs (fun z => H' m i z * zin (zsec n m) K z k) (zsec n m).length % p ↔ P a y) := by
      intro i k a y hi hk ei ek ha hy hca hcy
      show _ ↔ zs (fun z => K a z * H z y) (2 ^ n) % p = zs (fun z => H a z * K z y) (2 ^ n) % p
      rw [zs_sec (m := m) (fun z hz hc => by rw [hK a z ha hz (by omega), Nat.zero_mul]), zs_sec (m := m) (h := fun z => H a z * K z y) (fun z hz hc => by rw [hH a z ha hz (by omega), Nat.zero_mul])]
      have h1 : zs (fun z => zin (zsec n m) K i z * H' m z k) (zsec n m).length % p = zs (fun z => K a ((zsec n m).getD z 0) * H ((zsec n m).getD z 0) y) (zsec n m).length % p := zs_modc (fun z hz => by
        rw [← Nat.mul_mod_mod, hH' m z k hz hk, Nat.mul_mod_mod]
        unfold zin
        rw [ei, ek])
      have h2 : zs (fun z => H' m i z * zin (zsec n m) K z k) (zsec n m).length % p = zs (fun z => H a ((zsec n m).getD z 0) * K ((zsec n m).getD z 0) y) (zsec n m).length % p := zs_modc (fun z hz => by
        rw [← Nat.mod_mul_mod, hH' m i z hi hz, Nat.mod_mul_mod]
        unfold zin
        rw [ei, ek])
      rw [h1, h2]
    constructor
    · intro h a y ha hy hca hcy
      obtain ⟨i1, i2⟩ := zsec_idx ha hca
      obtain ⟨k1, k2⟩ := zsec_idx hy hcy
      exact (e1 _ _ a y i1 k1 i2 k2 ha hy hca hcy).mp (h _ _ i1 k1)
    · intro h i k hi hk
      obtain ⟨a, -, a2, a3, a4⟩ := zsec_get hi
      obtain ⟨y, -, y2, y3, y4⟩ := zsec_get hk
      exact (e1 i k a y hi hk a2 y2 a3 y3 a4 y4).mpr (h a y a3 y3 a4 y4)
  rw [hCm]
  unfold zAS
  constructor
  · intro h a y ha hy
    by_cases c : zc a = zc y
    · by_cases c2 : 2 * zc a ≤ n
      · exact (hsec (zc a)).mp (h (zc a) c2) a y ha hy rfl c.symm
      · have k1 := zk_f hn ha
        have k2 := zk_f hn hy
        refine (hkk a y ha hy).mp ((hsec (n - zc a)).mp (h (n - zc a) (by have := k1.2.1; omega)) _ _ (zk_lt ha) (zk_lt hy) k1.1 (by rw [k2.1, c]))
    · exact hoff a y ha hy c
  · intro h m hm
    exact (hsec m).mpr (fun a y ha hy _ _ => h a y ha hy)
/-- the class's square of THE SUM in a sector -/
theorem zSA_sec {p n r e m i j : Nat} (hn : n < 8) (hn2 : 2 ≤ n) (hi : i < (zsec n m).length) (hj : j < (zsec n m).length) : zSA p n r e m none i j = zSg n (zbd n r) e ((zsec n m).getD i 0) ((zsec n m).getD j 0) % p := by
  obtain ⟨a, a1, a2, a3, a4⟩ := zsec_get hi
  obtain ⟨y, y1, y2, y3, y4⟩ := zsec_get hj
  have hb : zbd n r ≤ n := by unfold zbd; split <;> omega
  show zs (zFt n e (zsec n m) (zpn m) (fun _ => 1) i j) (zbd n r) % p = _
  rw [a2, y2]
  unfold zSg
  congr 1
  refine zs_cong (fun k hk => ?_)
  unfold zFt zwt zpn
  rw [a2]
  have ht := ztg_lt n hn hn2 a a3 k (by omega)
  have hc : zc (ztg n a k) = m := by rw [zctg n hn hn2 a a3 k (by omega)]; exact a4
  by_cases c : ztg n a k = y
  · rw [if_pos c, if_pos]
    rw [c, (zfl_mem y1).2.2]
  · rw [if_neg c, if_neg]
    intro q
    apply c
    have q2 := Option.some.inj q
    have h1 := (zsec_idx ht hc).2
    rw [q2, y2] at h1
    exact h1.symm
theorem zAS_T {p n r t e u k : Nat} {T : zTx} (hw : wH n r p t e) : zAS p n (ztb p n (zW T p t e 0 u) (zW T p t e 1 u) (zW T p t e 2 u)) (zGo p n r t e T (some k)) ↔ zCm n (zTT p n t e T u) (zTT p n t e T k) := by
  have hpb := zpl_b _ hw.2.2.2.1
  refine zAS_iff (F := zTb p n (zW T p t e 0 u) (zW T p t e 1 u) (zW T p t e 2 u)) (G := zTb p n (zW T p t e 0 k) (zW T p t e 1 k) (zW T p t e 2 k)) (H := ztb p n (zW T p t e 0 k) (zW T p t e 1 k) (zW T p t e 2 k)) (by omega) hw.1 (zLn_T (by omega) hw.1) (zLn_T (by omega) hw.1) ?_ ?_ (fun a y ha hy => ztb_k hw.1 (by omega) ha hy) (fun a y ha hy => ztb_k hw.1 (by omega) ha hy) (fun m i j _ _ => rfl)
  · intro a y _ _ hc
    unfold ztb
    rw [if_neg hc]
  · intro a y _ _ hc
    unfold ztb
    rw [if_neg hc]
theorem zAS_S {p n r t e u : Nat} {T : zTx} (hw : wH n r p t e) : zAS p n (ztb p n (zW T p t e 0 u) (zW T p t e 1 u) (zW T p t e 2 u)) (zGo p n r t e T none) ↔ zCm n (zTT p n t e T u) (zS p n (zbd n r) e) := by
  have hpb := zpl_b _ hw.2.2.2.1
  have hb : zbd n r ≤ n := by unfold zbd; split <;> omega
  refine zAS_iff (F := zTb p n (zW T p t e 0 u) (zW T p t e 1 u) (zW T p t e 2 u)) (G := zS p n (zbd n r) e) (H := zSg n (zbd n r) e) (by omega) hw.1 (zLn_T (by omega) hw.1) (zLn_S p n (zbd n r) e) ?_ (fun a y ha _ hc => zSg_c hw.1 hw.2.1 hb ha hc) (fun a y ha hy => ztb_k hw.1 (by omega) ha hy) (fun a y ha hy => zSg_k hw.1 hw.2.1 hb ha hy) (fun m i j hi hj => ?_)
  · intro a y _ _ hc
    unfold ztb
    rw [if_neg hc]
  · show zSA p n r e m none i j % p = _
    rw [zSA_sec hw.1 hw.2.1 hi hj, Nat.mod_mod]
    rfl
