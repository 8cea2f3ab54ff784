/-! THE LAW 7: what the constructors leave -/
def PL11 : List (Nat × Nat × Nat) := [(5, 3, 113), (112, 5, 118), (112, 4, 117), (112, 3, 116), (112, 2, 115), (112, 1, 114), (5, 2, 107), (106, 5, 112), (106, 4, 111), (106, 3, 110), (106, 2, 109), (106, 1, 108), (5, 1, 101), (100, 5, 106), (100, 4, 105), (100, 3, 104), (100, 2, 103), (100, 1, 102), (5, 0, 95), (94, 5, 100), (94, 4, 99), (94, 3, 98), (94, 2, 97), (94, 1, 96), (0, 1, 70), (69, 1, 72), (71, 0, 73), (72, 20, 94), (72, 19, 93), (72, 18, 92), (72, 17, 91), (72, 16, 90), (72, 15, 89), (72, 14, 88), (72, 13, 87), (72, 12, 86), (72, 11, 85), (72, 10, 84), (72, 9, 83), (72, 8, 82), (72, 7, 81), (72, 6, 80), (72, 5, 79), (72, 4, 78), (72, 3, 77), (72, 2, 76), (72, 1, 75), (72, 0, 74), (69, 0, 71), (0, 0, 45), (44, 1, 47), (46, 0, 48), (47, 20, 69), (47, 19, 68), (47, 18, 67), (47, 17, 66), (47, 16, 65), (47, 15, 64), (47, 14, 63), (47, 13, 62), (47, 12, 61), (47, 11, 60), (47, 10, 59), (47, 9, 58), (47, 8, 57), (47, 7, 56), (47, 6, 55), (47, 5, 54), (47, 4, 53), (47, 3, 52), (47, 2, 51), (47, 1, 50), (47, 0, 49), (44, 0, 46), (0, 13, 44), (0, 12, 43), (0, 11, 42), (0, 10, 34), (33, 7, 41), (33, 6, 40), (33, 5, 39), (33, 4, 38), (33, 3, 37), (33, 2, 36), (33, 0, 35), (0, 9, 31), (30, 0, 20), (30, 2, 33), (30, 1, 32), (0, 8, 24), (23, 0, 20), (23, 8, 30), (23, 7, 29), (23, 6, 28), (23, 5, 27), (23, 4, 26), (23, 1, 25), (0, 7, 20), (19, 2, 23), (19, 1, 22), (19, 0, 21), (0, 6, 14), (13, 4, 19), (13, 3, 18), (13, 2, 17), (13, 1, 16), (13, 0, 15), (0, 5, 13), (12, 1, 7), (12, 0, 2), (0, 4, 7), (6, 5, 12), (6, 4, 11), (6, 3, 10), (6, 2, 9), (6, 1, 8), (0, 3, 6), (0, 2, 2), (1, 2, 5), (1, 1, 4), (1, 0, 3)]
def ML11 (z : Int32) : List (Nat × Nat × Int32) := [(112, 6, 0), (116, 2, (-1)), (116, 1, (-1)), (116, 0, (-1)), (112, 0, 0), (106, 6, 0), (110, 2, (-1)), (110, 1, (-1)), (110, 0, (-1)), (106, 0, 0), (100, 6, 0), (104, 2, (-1)), (104, 1, (-1)), (104, 0, (-1)), (100, 0, 0), (94, 6, 0), (98, 2, (-1)), (98, 1, (-1)), (98, 0, (-1)), (94, 0, 0), (70, 0, z), (69, 3, (-1)), (69, 2, 0), (71, 3, 0), (71, 2, 0), (71, 1, 0), (70, 4, 1), (70, 3, 1), (70, 2, 13), (70, 1, 1), (70, 0, 2), (45, 0, z), (44, 3, (-1)), (44, 2, 0), (46, 3, 0), (46, 2, 0), (46, 1, 0), (45, 4, 1), (45, 3, 1), (45, 2, 13), (45, 1, 1), (45, 0, 2), (41, 4, 1), (41, 3, 1), (41, 2, 13), (41, 1, 1), (41, 0, 2), (33, 1, 0), (34, 4, 1), (34, 3, 1), (34, 2, 13), (34, 1, 1), (34, 0, 2), (23, 9, 0), (23, 3, (-1)), (23, 2, (-1)), (24, 4, 1), (24, 3, 1), (24, 2, 13), (24, 1, 1), (24, 0, 2), (19, 3, 0), (13, 9, (-1)), (13, 8, (-1)), (13, 7, 0), (13, 6, 0), (13, 5, (-1)), (18, 4, 1), (18, 3, 1), (18, 2, 13), (18, 1, 1), (18, 0, 2), (12, 7, (-1)), (12, 6, 0), (12, 5, 0), (12, 4, 0), (12, 3, (-1)), (12, 2, 0), (6, 6, 0), (10, 2, (-1)), (10, 1, (-1)), (10, 0, (-1)), (6, 0, 0), (1, 3, 0)]
def ML12 (z : Int32) : List (Nat × Nat × Int32) := [(119, 6, (-1)), (119, 4, 1), (119, 3, 1), (119, 2, 13), (119, 1, 1), (119, 0, z), (118, 5, (-1)), (118, 4, (-1))]
def Z0 : a_M := fun _ _ => 0
def ZP : a_P := fun _ _ => 0
theorem zcl_max (x : Int32) : ∃ N, 2 ≤ N ∧ N ≤ 7 ∧ zmax 2 (zmin 7 x) = nI N ∧ zcl x = nI N := by
  by_cases h1 : 2 ≤ x
  · by_cases h2 : x ≤ 7
    · obtain ⟨k, k1, k2, rfl⟩ := (n_btw (u := x) (lo := 2) (hi := 7) (a := 2) (b := 7) rfl rfl (by omega) (by omega)).mp ⟨h1, h2⟩
      refine ⟨k, k1, k2, ?_, zcl_3 h1 h2⟩
      have e1 : zmin 7 (nI k) = nI k := by
        unfold zmin
        by_cases c : nI k < 7
        · rw [if_pos c]
        · rw [if_neg c]
          have : k = 7 := by
            have : ¬ k < 7 := fun q => c (nI_lt (b := 7) q (by omega))
            omega
          rw [this]; rfl
      rw [e1]
      unfold zmax
      by_cases c : 2 < nI k
      · rw [if_pos c]
      · rw [if_neg c]
        have : k = 2 := by
          have : ¬ 2 < k := fun q => c (nI_lt (a := 2) q (by omega))
          omega
        rw [this]; rfl
    · refine ⟨7, by omega, by omega, ?_, zcl_2 h1 h2⟩
      have e1 : zmin 7 x = 7 := by
        unfold zmin
        rw [if_neg (fun c => h2 (Int32.le_of_lt c))]
      rw [e1]
      decide
  · refine ⟨2, by omega, by omega, ?_, zcl_1 h1⟩
    have hx : x < 2 := Int32.not_le.mp h1
    have e1 : zmin 7 x = x := by
      unfold zmin
      rw [if_pos (Int32.lt_of_lt_of_le hx (by decide))]
    rw [e1]
    unfold zmax
    rw [if_neg (fun c => h1 (Int32.le_of_lt c))]
    rfl
theorem pw_out {l : List (Nat × Nat × Nat)} (h : ∀ q ∈ l, q.1 < 153 ∧ q.2.1 < 60) {o k : Nat} (ho : ¬ (o < 153 ∧ k < 60)) : pw ZP l o k = 0 := by
  induction l with
  | nil => rfl
  | cons q l ih =>
    have h1 := h q List.mem_cons_self
    have ih' := ih (fun q hq => h q (List.mem_cons_of_mem _ hq))
    show va_up (pw ZP l) q.1 (va_up (pw ZP l q.1) q.2.1 q.2.2) o k = 0
    by_cases c : o = q.1
    · subst c
      rw [vu, vn _ _ _ _ (by omega)]
      exact ih'
    · rw [vn _ _ _ _ c]
      exact ih'
theorem PL_ok : ∀ q ∈ PL12 ++ PL11, q.1 < 153 ∧ q.2.1 < 60 := by decide +kernel
theorem PT_rows : ∀ r ∈ PTl, r.length ≤ 60 := by decide +kernel
theorem PT_len : PTl.length ≤ 153 := by decide +kernel
def pgt (l : List (Nat × Nat × Nat)) (k : Nat) : Nat := match l with
  | [] => 0
  | q :: l => if q.2.1 == k then q.2.2 else pgt l k
theorem pw_get (l : List (Nat × Nat × Nat)) (o k : Nat) : pw ZP l o k = pgt (l.filter (fun q => q.1 == o)) k := by
  induction l with
  | nil => rfl
  | cons q l ih =>
    show va_up (pw ZP l) q.1 (va_up (pw ZP l q.1) q.2.1 q.2.2) o k = _
    by_cases c : q.1 = o
    · subst c
      rw [vu, List.filter_cons_of_pos (by simp)]
      show _ = if q.2.1 == k then q.2.2 else pgt (l.filter (fun z => z.1 == q.1)) k
      by_cases c2 : q.2.1 = k
      · subst c2
        rw [vu, if_pos (by simp)]
      · rw [vn _ _ _ _ (Ne.symm c2), if_neg (by simpa using c2)]
        exact ih
    · rw [vn _ _ _ _ (Ne.symm c), List.filter_cons_of_neg (by simpa using c)]
      exact ih
def pck (l : List (Nat × Nat × Nat)) (o : Nat) : Nat → Bool
  | 0 => true
  | k + 1 => Nat.beq (pgt l k) (PT 6 o k) && pck l o k
theorem pck_at {l : List (Nat × Nat × Nat)} {o : Nat} : ∀ n, pck l o n = true → ∀ k, k < n → pgt l k = PT 6 o k
  | 0, _, k, hk => absurd hk (Nat.not_lt_zero _)
  | n + 1, h, k, hk => by
    have h' : (Nat.beq (pgt l n) (PT 6 o n) && pck l o n) = true := h
    rw [Bool.and_eq_true] at h'
    by_cases c : k = n
    · subst c; exact Nat.eq_of_beq_eq_true h'.1
    · exact pck_at n h'.2 k (by omega)
theorem pck_1 : ∀ o, o < 40 → pck ((PL12 ++ PL11).filter (fun q => q.1 == o)) o 60 = true := by decide +kernel
theorem pck_2 : ∀ o, o < 40 → pck ((PL12 ++ PL11).filter (fun q => q.1 == o + 40)) (o + 40) 60 = true := by decide +kernel
theorem pck_3 : ∀ o, o < 40 → pck ((PL12 ++ PL11).filter (fun q => q.1 == o + 80)) (o + 80) 60 = true := by decide +kernel
theorem pck_4 : ∀ o, o < 33 → pck ((PL12 ++ PL11).filter (fun q => q.1 == o + 120)) (o + 120) 60 = true := by decide +kernel
theorem PT_same (o : Nat) (ho : o < 153) (k : Nat) (hk : k < 60) : pw ZP (PL12 ++ PL11) o k = PT 6 o k := by
  rw [pw_get]
  by_cases c1 : o < 40
  · exact pck_at 60 (pck_1 o c1) k hk
  by_cases c2 : o < 80
  · have := pck_2 (o - 40) (by omega)
    rw [show o - 40 + 40 = o by omega] at this
    exact pck_at 60 this k hk
  by_cases c3 : o < 120
  · have := pck_3 (o - 80) (by omega)
    rw [show o - 80 + 80 = o by omega] at this
    exact pck_at 60 this k hk
  · have := pck_4 (o - 120) (by omega)
    rw [show o - 120 + 120 = o by omega] at this
    exact pck_at 60 this k hk
theorem PT_eq : pw (pw ZP PL11) PL12 = PT 6 := by
  rw [pw_app]
  funext o k
  by_cases c : o < 153 ∧ k < 60
  · exact PT_same o c.1 k c.2
  · rw [pw_out PL_ok c]
    unfold PT
    rw [if_neg (by omega)]
    symm
    by_cases c1 : o < 153
    · have hk : 60 ≤ k := by omega
      rw [List.getD_eq_getElem?_getD, List.getD_eq_getElem?_getD]
      cases hr : PTl[o]? with
      | none => rfl
      | some r =>
        have := PT_rows r (List.mem_of_getElem? hr)
        rw [Option.getD_some, List.getElem?_eq_none (by omega)]
        rfl
    · have hn : PTl[o]? = none := List.getElem?_eq_none (by have := PT_len; omega)
      rw [List.getD_eq_getElem?_getD, List.getD_eq_getElem?_getD, hn]
      rfl
def zS0 (N : Nat) : Nat → Nat := fun k => [N, 1, 13, 1, 1, 0, 0, 0, 0].getD k 0
def zM1 (N : Nat) : a_M := mw (mw Z0 (ML11 (nI N))) (ML12 (nI N))
def zM0 (N : Nat) : a_M := mf (zM1 N) 120 0 (zM1 N 119) 2698
theorem zM1_119 (N j : Nat) (hj : 7 ≤ j) : zM1 N 119 j = 0 := by
  unfold zM1 ML12
  simp only [mw]
  rw [ms_no _ _ _ _ _ _ (by omega), ms_no _ _ _ _ _ _ (by omega), ms_no _ _ _ _ _ _ (by omega), ms_no _ _ _ _ _ _ (by omega), ms_no _ _ _ _ _ _ (by omega), ms_no _ _ _ _ _ _ (by omega), ms_no _ _ _ _ _ _ (by omega), ms_no _ _ _ _ _ _ (by omega)]
  rfl
set_option maxRecDepth 100000 in
theorem zM0_m (N : Nat) : mSt (zM1 N) 119 (zS0 N) (fun _ _ => 0) := ⟨rfl, rfl, rfl, rfl, rfl, rfl, rfl, rfl, rfl, fun k hk s hs => zM1_119 N _ (by omega)⟩
set_option maxRecDepth 100000 in
theorem zM0_c (N σ : Nat) (h : σ = 44 ∨ σ = 69) : cSt (zM1 N) σ (zS0 N) (fun _ _ => 0) := by
  rcases h with rfl | rfl
  · refine ⟨⟨rfl, rfl, rfl, rfl, rfl⟩, rfl, rfl, rfl, rfl, 0, by omega, rfl, fun k hk s hs => ?_⟩
    have hk' : k ≤ 0 := hk
    have e : k = 0 := by omega
    subst e
    rfl
  · refine ⟨⟨rfl, rfl, rfl, rfl, rfl⟩, rfl, rfl, rfl, rfl, 0, by omega, rfl, fun k hk s hs => ?_⟩
    have hk' : k ≤ 0 := hk
    have e : k = 0 := by omega
    subst e
    rfl
set_option maxRecDepth 100000 in
theorem zM0_LI (N : Nat) (h2 : 2 ≤ N) (h7 : N ≤ 7) : LI 1 (zM0 N) := by
  have e : ∀ o, o ≠ 120 → zM0 N o = zM1 N o := fun o ho => mf_no _ _ _ _ _ _ ho
  have hw : wSt (zS0 N) (fun _ _ => 0) := ⟨⟨by show N < 8; omega, h2, by show 1 ≤ 1; omega, by show 13 ∈ zpl; decide, by show 1 ≤ 1; omega, by show 1 < 13; omega, by show 1 < 13; omega⟩, by show 0 ≤ 4; omega, by show 0 ≤ 0; omega, by show 0 ≤ 0; omega, by show 0 ≤ 20; omega, fun k _ s _ => by show 0 < 13; omega⟩
  refine ⟨zS0 N, fun _ _ => 0, zS0 N, fun _ _ => 0, 0, fun _ => 0, -1, -1, fun _ => [], 0, fun _ => [], ⟨hw, hw, Nat.le_refl _, fun t ht => absurd ht (Nat.not_lt_zero _)⟩, ⟨(zM0_c N 44 (Or.inl rfl)).same (fun i a b => e i (by omega)), (zM0_c N 69 (Or.inr rfl)).same (fun i a b => e i (by omega)), ⟨by rw [e 1 (by decide)]; rfl, by omega, fun i hi => absurd hi (Nat.not_lt_zero _)⟩, Or.inl ⟨by rw [e 12 (by decide)]; rfl, rfl, rfl⟩, Or.inl (by rw [e 13 (by decide)]; rfl), Or.inl (by rw [e 23 (by decide)]; rfl), Or.inl (by rw [e 33 (by decide)]; rfl), by rw [e 12 (by decide)]; rfl, fun t ht => absurd ht (Nat.not_lt_zero _), ⟨by rw [e 6 (by decide)]; rfl, ⟨fun _ => 0, fun i q hq => by cases hq⟩, fun w hw => ?_⟩, by rw [e 6 (by decide)]; rfl, rfl⟩, ⟨(zM0_m N).same (e 119 (by decide)), ?_, ⟨by rw [e 118 (by decide)]; rfl, by omega, fun i hi => absurd hi (Nat.not_lt_zero _)⟩, ⟨by rw [e 118 (by decide)]; rfl, by rw [e 118 (by decide)]; rfl⟩, fun t ht => absurd ht (Nat.not_lt_zero _)⟩, by omega⟩
  · rw [e 10 (by decide)]
    rcases (show w = 0 ∨ w = 1 ∨ w = 2 by omega) with rfl | rfl | rfl <;> rfl
  · have q : ∀ j, j < 2698 → zM0 N 120 j = zM1 N 119 j := fun j hj => mf_in _ _ _ _ _ _ (Nat.zero_le _) hj
    obtain ⟨s0, s1, s2, s3, s4, s5, s6, s7, s8, s9⟩ := zM0_m N
    refine ⟨by rw [q 0 (by omega)]; exact s0, by rw [q 1 (by omega)]; exact s1, by rw [q 2 (by omega)]; exact s2, by rw [q 3 (by omega)]; exact s3, by rw [q 4 (by omega)]; exact s4, by rw [q 5 (by omega)]; exact s5, by rw [q 6 (by omega)]; exact s6, by rw [q 7 (by omega)]; exact s7, by rw [q 8 (by omega)]; exact s8, fun k hk s hs => ?_⟩
    have hk' : k ≤ 0 := hk
    have hs' : s < 2 ^ N := hs
    have := b128 (show N < 8 by omega)
    rw [q _ (by omega)]
    exact s9 k hk s hs
