/-! MATHEMATICS 9: pairs: what the Q of one row share, and its quotient -/
/-- f, s places on -/
def zsh (f : Nat → Int) (s k : Nat) : Int := if s ≤ k then f (k - s) else 0
theorem zsh_s (f : Nat → Int) (s k : Nat) : zsh f (s + 1) (k + 1) = zsh f s k := by
  unfold zsh
  by_cases c : s ≤ k
  · rw [if_pos c, if_pos (by omega), show k + 1 - (s + 1) = k - s by omega]
  · rw [if_neg c, if_neg (by omega)]
theorem zsh_0 (f : Nat → Int) (k : Nat) : zsh f 0 k = f k := by
  unfold zsh
  rw [if_pos (Nat.zero_le _), Nat.sub_zero]
theorem zsh_hi {f : Nat → Int} {s k n : Nat} (hf : ∀ i, n < i → f i = 0) (h : n + s < k) : zsh f s k = 0 := by
  unfold zsh
  rw [if_pos (by omega), hf _ (by omega)]
theorem zpw_z {p : Nat} (hp : 1 < p) : ∀ n i, zpw p 0 n i = if i = n then 1 else 0
  | 0, i => rfl
  | n + 1, i => by
    show (zpw p 0 n i * 0 + (if i = 0 then 0 else zpw p 0 n (i - 1))) % p = _
    rw [Nat.mul_zero, Nat.zero_add]
    by_cases c : i = 0
    · rw [if_pos c, Nat.zero_mod, if_neg (by omega)]
    · rw [if_neg c, zpw_z hp n (i - 1)]
      by_cases c2 : i = n + 1
      · rw [if_pos (by omega), if_pos c2, Nat.mod_eq_of_lt hp]
      · rw [if_neg (by omega), if_neg c2, Nat.zero_mod]
theorem zpw_hi {p v : Nat} : ∀ n i, n < i → zpw p v n i = 0
  | 0, i, h => by
    show (if i = 0 then 1 else 0) = 0
    rw [if_neg (by omega)]
  | n + 1, i, h => by
    show (zpw p v n i * v + (if i = 0 then 0 else zpw p v n (i - 1))) % p = 0
    rw [zpw_hi n i (by omega), if_neg (by omega), zpw_hi n (i - 1) (by omega), Nat.zero_mul, Nat.zero_mod]
theorem zcv_one {pw : Nat → Nat} (h : ∀ i, 8 ≤ i → pw i = 0) (k s c : Nat) : ((zs (fun i => if i + s = k then pw i * c else 0) 8 : Nat) : Int) = zsh (fun i => (pw i : Int)) s k * (c : Int) := by
  unfold zsh
  by_cases c1 : s ≤ k
  · rw [if_pos c1]
    by_cases c2 : k - s < 8
    · rw [zs_one (k := k - s) c2 (fun j hj hne => by rw [if_neg (by omega)]), if_pos (by omega), Int.natCast_mul]
    · rw [zs_zero (fun j hj => by rw [if_neg (by omega)])]
      show (0 : Int) = ((pw (k - s) : Nat) : Int) * (c : Int)
      rw [h (k - s) (by omega)]
      simp
  · rw [if_neg c1, zs_zero (fun j hj => by rw [if_neg (by omega)])]
    simp
theorem zcv_sh {pw mv : Nat → Nat} (h : ∀ i, 8 ≤ i → pw i = 0) (k : Nat) : ((zcv pw mv k : Nat) : Int) = zsh (fun i => (pw i : Int)) 0 k * (mv 0 : Int) + zsh (fun i => (pw i : Int)) 1 k * (mv 1 : Int) + zsh (fun i => (pw i : Int)) 2 k * (mv 2 : Int) := by
  have e : zcv pw mv k = zs (fun i => if i + 0 = k then pw i * mv 0 else 0) 8 + zs (fun i => if i + 1 = k then pw i * mv 1 else 0) 8 + zs (fun i => if i + 2 = k then pw i * mv 2 else 0) 8 := by
    rw [← zs_add, ← zs_add]
    refine zs_cong (fun i _ => ?_)
    show 0 + zcr pw mv k i 0 + zcr pw mv k i 1 + zcr pw mv k i 2 = _
    rw [Nat.zero_add]
    rfl
  rw [e, Int.natCast_add, Int.natCast_add, zcv_one h, zcv_one h, zcv_one h]
def zmI (H : Int) (m : Nat) (q : Nat → Nat) : Nat → Nat → Int
  | 0, _ => 0
  | t + 1, i => zmI H m q t i * H + (if i = 0 then (q (m - t) : Int) else zmI H m q t (i - 1))
theorem zmv_I {p h m : Nat} {H : Int} {q : Nat → Nat} (hp : 0 < p) (hH : iC p (h : Int) H) : ∀ t i, iC p ((zmv p h m q t i : Nat) : Int) (zmI H m q t i)
  | 0, _ => iC.rfl _ _
  | t + 1, i => by
    show iC p (((zmv p h m q t i * h + (if i = 0 then q (m - t) else zmv p h m q t (i - 1))) % p : Nat) : Int) (zmI H m q t i * H + (if i = 0 then (q (m - t) : Int) else zmI H m q t (i - 1)))
    refine (iC.md hp _).trans ?_
    rw [Int.natCast_add, Int.natCast_mul]
    refine ((zmv_I hp hH t i).mul hH).add ?_
    by_cases c : i = 0
    · rw [if_pos c, if_pos c]; exact iC.rfl _ _
    · rw [if_neg c, if_neg c]; exact zmv_I hp hH t (i - 1)
def zE1 (n : Nat) (k : Nat) : Int := if k = n then 1 else 0
def zP1 (p t n : Nat) (k : Nat) : Int := ((zpw p t n k : Nat) : Int)
theorem zwh_c {p n t m : Nat} {q : Nat → Nat} (hp : 1 < p) (hn : n < 8) (ht : t < p) (k : Nat) : iC p ((zwh p n t m q k : Nat) : Int)
    ((zsh (zP1 p t n) 0 k * zmI (-(t : Int)) m q (m + 1) 0 + zsh (zP1 p t n) 1 k * zmI (-(t : Int)) m q (m + 1) 1 + zsh (zP1 p t n) 2 k * zmI (-(t : Int)) m q (m + 1) 2) + (zsh (zE1 n) 0 k * zmI (t : Int) m q (m + 1) 0 + zsh (zE1 n) 1 k * zmI (t : Int) m q (m + 1) 1 + zsh (zE1 n) 2 k * zmI (t : Int) m q (m + 1) 2)) := by
  have hp0 : 0 < p := by omega
  have hneg : iC p (((p - t) % p : Nat) : Int) (-(t : Int)) := by
    refine (iC.md hp0 _).trans ⟨1, ?_⟩
    omega
  unfold zwh
  refine (iC.md hp0 _).trans ?_
  rw [Int.natCast_add]
  refine iC.add ((iC.md hp0 _).trans ?_) ?_
  · rw [zcv_sh (fun i hi => zpw_hi n i (by omega))]
    exact (((iC.rfl p _).mul (zmv_I hp0 hneg _ _)).add ((iC.rfl p _).mul (zmv_I hp0 hneg _ _))).add ((iC.rfl p _).mul (zmv_I hp0 hneg _ _))
  · rw [zcv_sh (fun i hi => zpw_hi n i (by omega))]
    have e : (fun i => ((zpw p 0 n i : Nat) : Int)) = zE1 n := by
      funext i
      rw [zpw_z hp]
      unfold zE1
      split <;> rfl
    rw [e]
    exact (((iC.rfl p _).mul (zmv_I hp0 (iC.rfl p _) _ _)).add ((iC.rfl p _).mul (zmv_I hp0 (iC.rfl p _) _ _))).add ((iC.rfl p _).mul (zmv_I hp0 (iC.rfl p _) _ _))
/-- what the Q of a row share -/
def zco (t m row : Nat) : Int := if m = 2 then (t : Int) * (row : Int) else (t : Int) * (m : Int)
def zsl (t m : Nat) : Int := if m = 2 then 2 * (t : Int) else 0
def zsq (t m : Nat) : Int := if m = 2 then (t : Int) * (t : Int) else 0
def zFj (P E : Nat → Int) (co sl sq : Int) (j : Nat) : Int := P j * (sq - co) - zsh P 1 j * sl + E j * (sq + co) + zsh E 1 j * sl
def zGg (p t n : Nat) (k : Nat) : Int := zP1 p t n k + zE1 n k
theorem zGg_hi {p t n k : Nat} (h : n < k) : zGg p t n k = 0 := by
  unfold zGg zP1 zE1
  rw [zpw_hi n k h, if_neg (by omega)]
  rfl
theorem zsh_G (p t n s k : Nat) : zsh (zGg p t n) s k = zsh (zP1 p t n) s k + zsh (zE1 n) s k := by
  unfold zsh
  split
  · rfl
  · rfl
/-- Q times what is to be added -/
def zQG (p t n m : Nat) (q : Nat → Nat) (k : Nat) : Int := zsh (zGg p t n) m k + (if m = 0 then 0 else (zna m q : Int) * zsh (zGg p t n) (m - 1) k) + (if m = 2 then (znb m q : Int) * zGg p t n k else 0)
theorem zwh_F {p n t m : Nat} {q : Nat → Nat} (hp : 1 < p) (hn : n < 8) (ht : t < p) (hm : m ≤ 2) (hq : q m = 1) (k : Nat) : iC p ((zwh p n t m q k : Nat) : Int) (zFj (zP1 p t n) (zE1 n) (zco t m (q 1)) (zsl t m) (zsq t m) k + zQG p t n m q k) := by
  have h := zwh_c (m := m) (q := q) hp hn ht k
  have hm' : m = 0 ∨ m = 1 ∨ m = 2 := by omega
  rcases hm' with rfl | rfl | rfl
  · simp only [zmI] at h
    unfold zFj zQG zco zsl zsq
    rw [zsh_G]
    simp only [zsh_0] at h ⊢
    simp at h ⊢
    rw [hq] at h
    simp at h
    exact h
  · simp only [zmI] at h
    unfold zFj zQG zco zsl zsq zna znb
    rw [zsh_G, zsh_G]
    simp only [zsh_0] at h ⊢
    simp at h ⊢
    rw [hq] at h
    refine h.trans ⟨0, ?_⟩
    simp only [Nat.sub_self, zsh_0]
    simp
    grind
  · simp only [zmI] at h
    unfold zFj zQG zco zsl zsq zna znb
    rw [zsh_G, zsh_G]
    simp only [zsh_0] at h ⊢
    simp at h ⊢
    rw [hq] at h
    refine h.trans ⟨0, ?_⟩
    unfold zGg
    simp
    grind
theorem zH_all {p a b N : Nat} {f : Nat → Nat} (hp : 0 < p) (hf : ∀ j, N < j → iC p ((f j : Nat) : Int) 0) (j : Nat) : iC p ((zH p a b f N j : Nat) : Int) ((f j : Int) - (a : Int) * (zH p a b f N (j + 1) : Int) - (b : Int) * (zH p a b f N (j + 2) : Int)) := by
  by_cases c : j ≤ N
  · rw [zH_rec p a b f N j c]
    exact iC.zm hp _
  · rw [zH_top p a b f N j (by omega), zH_top p a b f N (j + 1) (by omega), zH_top p a b f N (j + 2) (by omega)]
    refine iC.symm ?_
    simp
    exact hf j (by omega)
theorem zFj_hi {p t n : Nat} {co sl sq : Int} {j : Nat} (h : n + 1 < j) : zFj (zP1 p t n) (zE1 n) co sl sq j = 0 := by
  have hP : ∀ i, n < i → zP1 p t n i = 0 := fun i hi => by unfold zP1; rw [zpw_hi n i hi]; rfl
  have hE : ∀ i, n < i → zE1 n i = 0 := fun i hi => by unfold zE1; rw [if_neg (by omega)]
  unfold zFj
  rw [hP j (by omega), hE j (by omega), zsh_hi hP (by omega), zsh_hi hE (by omega)]
  simp
theorem zQG_hi {p t n m : Nat} {q : Nat → Nat} {j : Nat} (hm : m ≤ 2) (h : n + m < j) : zQG p t n m q j = 0 := by
  have hG : ∀ i, n < i → zGg p t n i = 0 := fun i hi => zGg_hi hi
  unfold zQG
  rw [zsh_hi hG h, zsh_hi hG (by omega), hG j (by omega)]
  simp
/-- the quotient of the whole is the quotient of what is shared, and what was added -/
theorem zqu_key {p n t m : Nat} {q f : Nat → Nat} (hp : 1 < p) (hn : n < 8) (ht : t < p) (hm : m ≤ 2) (hq : q m = 1) (hf : ∀ j, iC p ((f j : Nat) : Int) (zFj (zP1 p t n) (zE1 n) (zco t m (q 1)) (zsl t m) (zsq t m) j)) : ∀ s j, n + 3 ≤ j + s → iC p ((zqu p n t m q j : Nat) : Int) ((zH p (zna m q) (znb m q) f (n + 1) j : Int) + zsh (zGg p t n) m j) := by
  have hp0 : 0 < p := by omega
  have hG : ∀ i, n < i → zGg p t n i = 0 := fun i hi => zGg_hi hi
  have hW : ∀ j, n + m < j → iC p ((zwh p n t m q j : Nat) : Int) 0 := fun j hj => by
    have h1 := zwh_F (q := q) hp hn ht hm hq j
    rw [zQG_hi hm hj, Int.add_zero] at h1
    by_cases c : m = 0
    · subst c
      refine h1.trans ⟨0, ?_⟩
      unfold zFj zco zsl zsq
      simp
    · rw [zFj_hi (by omega)] at h1
      exact h1
  have hF : ∀ j, n + 1 < j → iC p ((f j : Nat) : Int) 0 := fun j hj => by
    have h1 := hf j
    rw [zFj_hi hj] at h1
    exact h1
  intro s
  induction s with
  | zero =>
    intro j hj
    unfold zqu
    rw [zH_top _ _ _ _ _ _ (by omega), zH_top _ _ _ _ _ _ (by omega), zsh_hi hG (by omega)]
    exact iC.rfl _ _
  | succ s ih =>
    intro j hj
    have h1 := ih (j + 1) (by omega)
    have h2 := ih (j + 2) (by omega)
    have h3 := zH_all (a := zna m q) (b := znb m q) hp0 hW j
    have h4 := zH_all (a := zna m q) (b := znb m q) hp0 hF j
    have h5 := zwh_F (q := q) hp hn ht hm hq j
    have h6 := hf j
    show iC p ((zH p (zna m q) (znb m q) (zwh p n t m q) (n + m) j : Nat) : Int) _
    refine h3.trans ?_
    have h7 := (h5.sub ((iC.rfl p (zna m q : Int)).mul h1)).sub ((iC.rfl p (znb m q : Int)).mul h2)
    refine iC.trans h7 ?_
    have h8 : iC p (zFj (zP1 p t n) (zE1 n) (zco t m (q 1)) (zsl t m) (zsq t m) j - (zna m q : Int) * (zH p (zna m q) (znb m q) f (n + 1) (j + 1) : Int) - (znb m q : Int) * (zH p (zna m q) (znb m q) f (n + 1) (j + 2) : Int)) (zH p (zna m q) (znb m q) f (n + 1) j : Int) := (((h6.symm).sub (iC.rfl p _)).sub (iC.rfl p _)).trans h4.symm
    refine iC.trans ?_ (h8.add (iC.rfl p (zsh (zGg p t n) m j)))
    refine ⟨0, ?_⟩
    have hm' : m = 0 ∨ m = 1 ∨ m = 2 := by omega
    rcases hm' with rfl | rfl | rfl
    · unfold zQG zna znb
      simp
    · unfold zQG zna znb
      rw [zsh_s]
      simp
      grind
    · unfold zQG zna znb
      rw [show j + 2 = (j + 1) + 1 by omega, zsh_s, zsh_s, zsh_s, zsh_0]
      simp
      grind
