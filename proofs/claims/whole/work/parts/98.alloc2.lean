/-! ALLOCATION 2: objects and arrays are made -/
def a_lo (n : Nat) : Value → Bool
  | .ref r => Nat.blt r n || Nat.ble 1000 r
  | _ => true
theorem a_cv_lo {ad ad1 : Nat → Nat} {n n1 : Nat} (h : ∀ i, (i < n ∨ n1 ≤ i) → ad1 i = ad i) (hn : n1 ≤ 1000) {v : Value} (hv : a_lo n v = true) : a_cv ad1 v = a_cv ad v := by
  cases v with
  | ref r =>
    show Value.ref (ad1 r) = Value.ref (ad r)
    have hv' : r < n ∨ 1000 ≤ r := by
      have h9 : (Nat.blt r n || Nat.ble 1000 r) = true := hv
      rw [Bool.or_eq_true] at h9
      rcases h9 with h9 | h9
      · exact Or.inl (Nat.blt_eq.mp h9)
      · exact Or.inr (Nat.le_of_ble_eq_true h9)
    rcases hv' with h9 | h9
    · rw [h r (Or.inl h9)]
    · rw [h r (Or.inr (Nat.le_trans hn h9))]
  | _ => rfl
theorem a_st_lo {ad ad1 : Nat → Nat} {n n1 : Nat} (h : ∀ i, (i < n ∨ n1 ≤ i) → ad1 i = ad i) (hn : n1 ≤ 1000) {st : List Value} (hv : st.all (a_lo n) = true) : st.map (a_cv ad1) = st.map (a_cv ad) := List.map_congr_left (fun v hm => a_cv_lo h hn (List.all_eq_true.mp hv v hm))
theorem a_mp_lo {ad ad1 : Nat → Nat} {n n1 : Nat} (h : ∀ i, (i < n ∨ n1 ≤ i) → ad1 i = ad i) (hn : n1 ≤ 1000) {lv : List (Nat × Value)} (hv : lv.all (fun q => a_lo n q.2) = true) : a_mp ad1 lv = a_mp ad lv := List.map_congr_left (fun q hm => by rw [a_cv_lo h hn (List.all_eq_true.mp hv q hm)])
theorem a_e_ad {ad ad1 : Nat → Nat} {ca ca1 : Nat → ClassId} {M : a_M} {P : a_P} {q : Nat × Nat} {i : Nat} (h : ∀ k, a_or ad1 (P i k) = a_or ad (P i k)) (hc : ca1 i = ca i) : a_e ad1 ca1 M P q i = a_e ad ca M P q i := by
  have hf : ∀ ci, a_fv ad1 M P ci i = a_fv ad M P ci i := fun ci => by
    funext k
    unfold a_fv
    rw [h k]
  simp only [a_e, hf, hc, h]
theorem a_or_lo {ad ad1 : Nat → Nat} {n x : Nat} (h : ∀ i, i < n → ad1 i = ad i) (hx : x ≤ n) : a_or ad1 x = a_or ad x := by
  unfold a_or
  by_cases c : x = 0
  · rw [if_pos c, if_pos c]
  · rw [if_neg c, if_neg c, h (x - 1) (by omega)]
theorem a_c_push {ad ad1 : Nat → Nat} {ca ca1 : Nat → ClassId} {M : a_M} {P : a_P} {n : Nat} {q : Nat × Nat} (hq : LY[n]? = some q) (h : ∀ i, i < n → ad1 i = ad i) (hc : ∀ i, i < n → ca1 i = ca i) (hP : ∀ i k, P i k ≤ n) : a_c ad1 ca1 (LY.take (n + 1)) M P = a_c ad ca (LY.take n) M P ++ [(ad1 n, a_e ad1 ca1 M P q n)] := by
  have hl : n < LY.length := (List.getElem?_eq_some_iff.mp hq).1
  have hlen : (a_c ad ca (LY.take n) M P).length = n := by rw [a_c_len, List.length_take]; omega
  apply List.ext_getElem?
  intro j
  by_cases c : j < n
  · rw [List.getElem?_append_left (by omega)]
    have hj : LY[j]? = some LY[j] := List.getElem?_eq_getElem (by omega)
    rw [a_c_at (tk_at hj (by omega)), a_c_at (tk_at hj c), h j c, a_e_ad (fun k => a_or_lo h (hP j k)) (hc j c)]
  · rw [List.getElem?_append_right (by omega), hlen]
    by_cases c2 : j = n
    · subst c2
      rw [a_c_at (tk_at hq (by omega)), Nat.sub_self]
      rfl
    · rw [a_c_no (by rw [List.getElem?_take, if_neg (by omega)])]
      symm
      apply List.getElem?_eq_none
      show 1 ≤ j - n
      omega
theorem n_push {X : a_X} {ad0 ad : Nat → Nat} {ca : Nat → ClassId} {n0 n sz : Nat} {M : a_M} {P : a_P} {q : Nat} {cA : ClassId} {e : va_E} {r : Nat × Nat} {H1 : Heap} (hb : b_ok ad0 ad n0 n sz) (hz : zN M P n) (hL : LY[n]? = some r) (he : a_e (va_up ad n q) (va_up ca n cA) M P r n = e) (hP : va_P X.1 a_cls (a_c ad ca (LY.take n) M P ++ [(q, e)]) H1) (hD : va_D (a_A ad0 (LY.take n0) sz) (a_c ad ca (LY.take n) M P ++ [(q, e)])) : b_ok ad0 (va_up ad n q) n0 (n + 1) sz ∧ a_wd X (va_up ad n q) (va_up ca n cA) (LY.take (n + 1)) M P H1 := by
  have hl : n < 153 := by have := (List.getElem?_eq_some_iff.mp hL).1; rw [LY_len] at this; exact this
  have hlen : (a_c ad ca (LY.take n) M P).length = n := by rw [a_c_len, tk_len (by omega)]
  have hlast : (a_c ad ca (LY.take n) M P ++ [(q, e)])[n]? = some (q, e) := by
    rw [List.getElem?_append_right (by omega), hlen, Nat.sub_self]; rfl
  have heq := a_c_push (ad := ad) (ad1 := va_up ad n q) (ca := ca) (ca1 := va_up ca n cA) (M := M) (P := P) hL (fun i hi => vn _ _ _ _ (by omega)) (fun i hi => vn _ _ _ _ (by omega)) hz.2.2
  rw [vu, he] at heq
  obtain ⟨b1, b2, b3, b4⟩ := hb
  refine ⟨⟨by omega, by omega, fun i hi => ?_, fun i h1 h2 => ?_⟩, ⟨by rw [heq]; exact hP, by rw [heq]; exact ⟨hD.1, fun _ _ _ => trivial⟩⟩⟩
  · rw [vn _ _ _ _ (by omega)]; exact b3 i (by omega)
  · by_cases c : i = n
    · subst c
      rw [vu]
      rcases hD.2 _ _ hlast with ⟨j, hj, hq⟩ | hq
      · rw [tk_len (by omega)] at hj
        have hjn : j < LY.length := by rw [LY_len]; exact Nat.lt_of_lt_of_le hj (by omega)
        have hj2 : LY[j]? = some (LY[j]'hjn) := List.getElem?_eq_getElem hjn
        have hjl : (a_c ad ca (LY.take i) M P ++ [(q, e)])[j]? = some (ad j, a_e ad ca M P (LY[j]'hjn) j) := by
          rw [List.getElem?_append_left (by omega)]
          exact a_c_at (tk_at hj2 (by omega))
        have := hD.1 _ _ _ _ hjl hlast (by show ad j = q; rw [b3 j (Or.inl hj)]; exact hq.symm)
        omega
      · exact hq
    · rw [vn _ _ _ _ c]; exact b4 i h1 (by omega)
theorem zN.up {M : a_M} {P : a_P} {n n1 : Nat} (h : zN M P n) (hn : n ≤ n1) : zN M P n1 := ⟨fun i hi => h.1 i (by omega), fun i hi => h.2.1 i (by omega), fun i k => Nat.le_trans (h.2.2 i k) hn⟩
theorem kd_push {X : a_X} {ca : Nat → ClassId} {n : Nat} {s : State} {r : Nat × Nat} {cA : ClassId} (hk : a_kd X ca (LY.take n) s) (hL : LY[n]? = some r) (h : 50 ≤ r.1 → ArrOfT s cA (a_at r.1) ∧ va_RA s cA (a_at r.1)) : a_kd X (va_up ca n cA) (LY.take (n + 1)) s := by
  refine ⟨hk.1, fun i q hi hq => ?_⟩
  obtain ⟨h1, h2⟩ := tk_of hi
  by_cases c : i = n
  · subst c
    rw [hL] at h2
    cases h2
    rw [vu]
    exact h hq
  · rw [vn _ _ _ _ c]
    exact hk.2 i q (tk_at h2 (by omega)) hq
def a_okt : FieldType → Bool
  | .int => true
  | .boolean => true
  | .object _ => true
  | .array _ => true
  | _ => false
theorem a_okt_d {t : FieldType} (h : a_okt t = true) : defaultValue t = if a_isr t = true then .null else .int 0 := by
  cases t <;> first | rfl | (cases h)
section WNA
variable {X : a_X} {ad0 : Nat → Nat} {ca0 : Nat → ClassId} {n0 : Nat} {own : String} {cc : ByteArray} {nL : Nat} {ret : Option FieldType} {d KC KS kc ks n : Nat} {fi : Prop} {QF : List Frame → Array Value → State → State → Prop} {pc : Nat} {lv lv' : List (Nat × Value)} {st : List Value} {M : a_M} {P : a_P}
theorem wn_new {idx ci N : Nat} {C : String} {T : u_T} (hdg : decode cc pc = .ok (.new idx, 3)) (hL : LY[n]? = some (ci, N)) (hck : a_CK ci C T N) (hcl : Cond.classLink own idx C ∈ a_tb) (hinst : Cond.instantiable C N ∈ a_tb) (hini : Cond.initialized C ∈ a_tb) (hokt : ∀ j, j < N → a_okt (a_ty ci j) = true) (hkc : Nat.ble (kc + 1) KC = true) (hks : Nat.ble (ks + N) KS = true) (hst : st.all (a_lo n) = true) (hlv : lv.all (fun q => a_lo n q.2) = true) (h : WN X ad0 ca0 n0 own cc nL ret d KC KS (kc + 1) (ks + N) (n + 1) fi QF (pc + 3) lv (.ref n :: st) M P) : WN X ad0 ca0 n0 own cc nL ret d KC KS kc ks n fi QF pc lv st M P := by
  intro ad ca R p l e s m args below meth c H locs ls hR hI F hov hb hca hk9 hz w S hl
  have hkc' := Nat.le_of_ble_eq_true hkc
  have hks' := Nat.le_of_ble_eq_true hks
  obtain ⟨hc, h50, hin, hty, hnm⟩ := hck
  have hfs : ∀ j, j < N → defaultValue (a_ty ci j) = vp_V ((List.range N).map (a_fv ad M P ci n)) j := fun j hj => by
    unfold vp_V
    rw [List.getD_eq_getElem?_getD, List.getElem?_map, List.getElem?_range hj, Option.map_some, Option.getD_some, a_okt_d (hokt j hj)]
    unfold a_fv a_rf
    rw [hz.1 n (Nat.le_refl _), hz.2.1 n (Nat.le_refl _)]
    rfl
  refine va_new (D := X.1) (cl := a_cls) (tys := []) (ci := ci) (C := C) (T := T) (N := N) F.1 F.2.1 F.2.2.2.2.2.1 hin (a_ty ci) hty F.2.2.2.2.1 (F.2.2.2.2.2.1 _ hcl) (F.2.2.2.2.2.1 _ hinst) (F.2.2.2.2.2.1 _ hini) hk9.1 w.1 (n_D w.2 hb) S (fun q hq => Or.inr hq) hc hfs (by omega) (by omega) hdg (fun q H1 hP1 hD1 hS1 => ?_)
  have he : a_e (va_up ad n q) (va_up ca n (ca n)) M P (ci, N) n = .inr (ci, (List.range N).map (a_fv ad M P ci n)) := by
    rw [a_e_obj h50]
    congr 2
    apply List.map_congr_left
    intro j _
    unfold a_fv
    rw [hz.2.1 n (Nat.le_refl _)]
    rfl
  obtain ⟨hb1, w1⟩ := n_push hb hz hL he hP1 hD1
  have hsame : ∀ i, (i < n ∨ n + 1 ≤ i) → va_up ad n q i = ad i := fun i hi => vn _ _ _ _ (by omega)
  have hn1 : n + 1 ≤ 1000 := by have := hb1.2.1; omega
  have h9 := h (va_up ad n q) (va_up ca n (ca n)) R p l e s m args below meth c H1 locs ls hR hI F hov hb1 (fun i hi => by rw [vn _ _ _ _ (by have := hb.1; omega)]; exact hca i hi) (kd_push hk9 hL (fun h5 => by have h5' : 50 ≤ ci := h5; omega)) (hz.up (by omega)) w1 hS1 (by rw [a_mp_lo hsame hn1 hlv]; exact hl)
  rw [List.map_cons, a_st_lo hsame hn1 hst] at h9
  have hv : a_cv (va_up ad n q) (.ref n) = .ref q := by show Value.ref (va_up ad n q n) = _; rw [vu]
  rw [hv] at h9
  exact h9
theorem wn_newa {atype : ArrayType} {kd N : Nat} {v : Int32} (hdg : decode cc pc = .ok (.newarray atype, 2)) (hty : newarray.typeOf atype = a_at kd) (hdf : defaultValue (a_at kd) = .int 0) (hkd : Nat.ble 50 kd = true ∧ Nat.blt kd 102 = true) (harr : Cond.arrayClass (newarray.typeOf atype) ∈ a_tb) (hL : LY[n]? = some (kd, N)) (hv1 : ¬ v < 0) (hv : v.toNatClampNeg = N) (hby : Nat.ble (N * componentBytes (a_at kd)) 536870912 = true) (hkc : Nat.ble (kc + 1) KC = true) (hks : Nat.ble (ks + N) KS = true) (hst : st.all (a_lo n) = true) (hlv : lv.all (fun q => a_lo n q.2) = true) (h : WN X ad0 ca0 n0 own cc nL ret d KC KS (kc + 1) (ks + N) (n + 1) fi QF (pc + 2) lv (.ref n :: st) M P) : WN X ad0 ca0 n0 own cc nL ret d KC KS kc ks n fi QF pc lv (.int v :: st) M P := by
  intro ad ca R p l e s m args below meth c H locs ls hR hI F hov hb hca hk9 hz w S hl
  have hkc' := Nat.le_of_ble_eq_true hkc
  have hks' := Nat.le_of_ble_eq_true hks
  have hk1 := Nat.le_of_ble_eq_true hkd.1
  have hk2 := Nat.blt_eq.mp hkd.2
  have hM0 : M n = fun _ => 0 := funext (hz.1 n (Nat.le_refl _))
  refine va_newa (D := X.1) (cl := a_cls) (tys := []) (a0 := (N, .inl (M n))) F.1 F.2.1 (F.2.2.2.2.2.1 _ harr) hty hk9.1 w.1 (n_D w.2 hb) S (fun q hq => Or.inr hq) (fun cA => by rw [hM0, hdf]; rfl) hv1 hv (Nat.le_of_ble_eq_true hby) (by omega) (by omega) hdg (fun q cA H1 hK1 hP1 hD1 hS1 => ?_)
  have he : a_e (va_up ad n q) (va_up ca n cA) M P (kd, N) n = .inl (cA, N, .inl (M n)) := by
    rw [a_e_int (by omega) hk2, vu]
  obtain ⟨hb1, w1⟩ := n_push hb hz hL he hP1 hD1
  have hsame : ∀ i, (i < n ∨ n + 1 ≤ i) → va_up ad n q i = ad i := fun i hi => vn _ _ _ _ (by omega)
  have hn1 : n + 1 ≤ 1000 := by have := hb1.2.1; omega
  have h9 := h (va_up ad n q) (va_up ca n cA) R p l e s m args below meth c H1 locs ls hR hI F hov hb1 (fun i hi => by rw [vn _ _ _ _ (by have := hb.1; omega)]; exact hca i hi) (kd_push hk9 hL (fun _ => hK1.2 0 _ rfl)) (hz.up (by omega)) w1 hS1 (by rw [a_mp_lo hsame hn1 hlv]; exact hl)
  rw [List.map_cons, a_st_lo hsame hn1 hst] at h9
  have hv : a_cv (va_up ad n q) (.ref n) = .ref q := by show Value.ref (va_up ad n q n) = _; rw [vu]
  rw [hv] at h9
  exact h9
theorem wn_newq {idx N : Nat} {v : Int32} (hdg : decode cc pc = .ok (.anewarray idx, 3)) (hcl : Cond.classLink own idx "SolvedChains$Script" ∈ a_tb) (hL : LY[n]? = some (102, N)) (hv1 : ¬ v < 0) (hv : v.toNatClampNeg = N) (hby : Nat.ble (N * 4) 536870912 = true) (hkc : Nat.ble (kc + 1) KC = true) (hks : Nat.ble (ks + N) KS = true) (hst : st.all (a_lo n) = true) (hlv : lv.all (fun q => a_lo n q.2) = true) (h : WN X ad0 ca0 n0 own cc nL ret d KC KS (kc + 1) (ks + N) (n + 1) fi QF (pc + 3) lv (.ref n :: st) M P) : WN X ad0 ca0 n0 own cc nL ret d KC KS kc ks n fi QF pc lv (.int v :: st) M P := by
  intro ad ca R p l e s m args below meth c H locs ls hR hI F hov hb hca hk9 hz w S hl
  have hkc' := Nat.le_of_ble_eq_true hkc
  have hks' := Nat.le_of_ble_eq_true hks
  refine va_newq (D := X.1) (cl := a_cls) (tys := []) F.1 F.2.1 F.2.2.2.2.1 (F.2.2.2.2.2.1 _ hcl) hov.1 hk9.1 w.1 (n_D w.2 hb) S (fun q hq => Or.inr hq) hv1 hv (Nat.le_of_ble_eq_true hby) (by omega) (by omega) hdg (fun q cA H1 hK1 hP1 hD1 hS1 => ?_)
  have he : a_e (va_up ad n q) (va_up ca n cA) M P (102, N) n = .inl (cA, N, .inr (.inr (.inr (.inr (fun _ => none))))) := by
    have hf : (fun j => a_or (va_up ad n q) (P n j)) = fun _ => none := funext fun j => by rw [hz.2.1 n (Nat.le_refl _)]; rfl
    rw [a_e_ref (by decide), vu, hf]
  obtain ⟨hb1, w1⟩ := n_push hb hz hL he hP1 hD1
  have hsame : ∀ i, (i < n ∨ n + 1 ≤ i) → va_up ad n q i = ad i := fun i hi => vn _ _ _ _ (by omega)
  have hn1 : n + 1 ≤ 1000 := by have := hb1.2.1; omega
  have h9 := h (va_up ad n q) (va_up ca n cA) R p l e s m args below meth c H1 locs ls hR hI F hov hb1 (fun i hi => by rw [vn _ _ _ _ (by have := hb.1; omega)]; exact hca i hi) (kd_push hk9 hL (fun _ => hK1.2 0 _ rfl)) (hz.up (by omega)) w1 hS1 (by rw [a_mp_lo hsame hn1 hlv]; exact hl)
  rw [List.map_cons, a_st_lo hsame hn1 hst] at h9
  have hv : a_cv (va_up ad n q) (.ref n) = .ref q := by show Value.ref (va_up ad n q n) = _; rw [vu]
  rw [hv] at h9
  exact h9
/-- the constructor of Object -/
theorem wn_obj {idx o : Nat} (hdg : decode cc pc = .ok (.invokespecial idx, 3)) (hlk : Cond.methodLink own idx objectInit ∈ a_tb) (hin : Cond.instanceMethod objectInit ∈ a_tb) (hcd : Cond.code objectInit ⟨#[0xb1]⟩ 1 none ∈ a_tb) (hd : Nat.ble 1 d = true) (hc : Nat.ble ((st.map fun v => v.category).sum) 8 = true) (h : WN X ad0 ca0 n0 own cc nL ret d KC KS kc ks n fi QF (pc + 3) lv st M P) : WN X ad0 ca0 n0 own cc nL ret d KC KS kc ks n fi QF pc lv (.ref o :: st) M P := by
  intro ad ca R p l e s m args below meth c H locs ls hR hI F hov hb hca hk9 hz w S hl
  have hd' := Nat.le_of_ble_eq_true hd
  have hcs : (((st.map (a_cv ad)).map fun v => v.category).sum) ≤ 8 := by rw [a_cats]; exact Nat.le_of_ble_eq_true hc
  exact W.objInit F.1 F.2.1 F.2.2.2.2.1 (F.2.2.2.2.2.1 _ hlk) (F.2.2.2.2.2.1 _ hin) (F.2.2.2.2.2.1 _ hcd) rfl (hl.1.trans F.2.2.2.1.symm) rfl hdg (by omega) (by show 2 * 0 + _ + 12 ≤ _; omega) (h ad ca R p l e s m args below meth c H locs ls hR hI F hov hb hca hk9 hz w S hl)
end WNA
