/-! ALLOCATION 1: the judgement of a frame in which objects are made. n: how many of the layout's objects stand by now, n0: how many stood at the frame's start -/
theorem LY_len : LY.length = 153 := by decide +kernel
theorem tk_at {n o : Nat} {q : Nat × Nat} (h : LY[o]? = some q) (ho : o < n) : (LY.take n)[o]? = some q := by rw [List.getElem?_take, if_pos ho]; exact h
theorem tk_len {n : Nat} (h : n ≤ 153) : (LY.take n).length = n := by rw [List.length_take, LY_len]; omega
theorem tk_of {n o : Nat} {q : Nat × Nat} (h : (LY.take n)[o]? = some q) : o < n ∧ LY[o]? = some q := by
  rw [List.getElem?_take] at h
  by_cases c : o < n
  · rw [if_pos c] at h; exact ⟨c, h⟩
  · rw [if_neg c] at h; cases h
def b_ok (ad0 ad : Nat → Nat) (n0 n sz : Nat) : Prop := n0 ≤ n ∧ n ≤ 153 ∧ (∀ i, (i < n0 ∨ n ≤ i) → ad i = ad0 i) ∧ ∀ i, n0 ≤ i → i < n → sz ≤ ad i
/-- objects yet to come are empty, and nothing points to them -/
def zN (M : a_M) (P : a_P) (n : Nat) : Prop := (∀ i, n ≤ i → ∀ k, M i k = 0) ∧ (∀ i, n ≤ i → ∀ k, P i k = 0) ∧ ∀ i k, P i k ≤ n
theorem zN.puti {M : a_M} {P : a_P} {n o k : Nat} {x : Int32} (h : zN M P n) (ho : o < n) : zN (va_up M o (upd (M o) k x)) P n := ⟨fun i hi j => by rw [vn _ _ _ _ (by omega)]; exact h.1 i hi j, h.2.1, h.2.2⟩
theorem zN.putr {M : a_M} {P : a_P} {n o k r : Nat} (h : zN M P n) (ho : o < n) (hr : r < n) : zN M (va_up P o (va_up (P o) k (r + 1))) n := ⟨h.1, fun i hi j => by rw [vn _ _ _ _ (by omega)]; exact h.2.1 i hi j, fun i j => by
  by_cases c : i = o
  · subst c
    rw [vu]
    by_cases c2 : j = k
    · subst c2; rw [vu]; omega
    · rw [vn _ _ _ _ c2]; exact h.2.2 _ _
  · rw [vn _ _ _ _ c]; exact h.2.2 _ _⟩
def b_ov (s : State) : Prop := va_AO "SolvedChains$Script" s ∧ va_AOA .int s
def WN (X : a_X) (ad0 : Nat → Nat) (ca0 : Nat → ClassId) (n0 : Nat) (own : String) (cc : ByteArray) (nL : Nat) (ret : Option FieldType) (d KC KS kc ks n : Nat) (fi : Prop) (QF : List Frame → Array Value → State → State → Prop) (pc : Nat) (lv : List (Nat × Value)) (st : List Value) (M : a_M) (P : a_P) : Prop :=
  ∀ (ad : Nat → Nat) (ca : Nat → ClassId) (R : Room) (p : Program) (l : Launch) (e : Env) (s : State) (m : MethodId) (args : Array Value) (below : List Frame) (meth : Method) (c : Code) (H : Heap) (locs : List Loc) (ls : Array Slot),
    (d ≤ R.frames ∧ 64 * d ≤ R.locals ∧ KC ≤ R.cells ∧ KS ≤ R.slots) → (fi → meth.name = "<init>") → a_fx X ad0 ca0 (LY.take n0) own cc nL ret p s m args meth c → b_ov s → b_ok ad0 ad n0 n s.heap.size → (∀ i, i < n0 → ca i = ca0 i) → a_kd X ca (LY.take n) s → zN M P n → a_wd X ad ca (LY.take n) M P H → va_S (a_A ad0 (LY.take n0) s.heap.size) s.heap H locs → lv_has ls nL (a_mp ad lv) →
    W p l e R s m args below meth c H locs kc ks (QF below args s) (F0 m pc ls (st.map (a_cv ad)))
theorem b_ok.A {ad0 ad : Nat → Nat} {n0 n sz i : Nat} (h : b_ok ad0 ad n0 n sz) (hi : i < n) : a_A ad0 (LY.take n0) sz (ad i) := by
  obtain ⟨h1, h2, h3, h4⟩ := h
  by_cases c : i < n0
  · exact Or.inl ⟨i, by rw [tk_len (by omega)]; exact c, h3 i (Or.inl c)⟩
  · exact Or.inr (h4 i (by omega) hi)
theorem n_D {ad0 ad : Nat → Nat} {ca : Nat → ClassId} {n0 n sz : Nat} {M : a_M} {P : a_P} (h : va_D (fun _ => True) (a_c ad ca (LY.take n) M P)) (hb : b_ok ad0 ad n0 n sz) : va_D (a_A ad0 (LY.take n0) sz) (a_c ad ca (LY.take n) M P) := ⟨h.1, fun k q hk => by
  have hl : k < (a_c ad ca (LY.take n) M P).length := (List.getElem?_eq_some_iff.mp hk).1
  rw [a_c_len] at hl
  have hq : (LY.take n)[k]? = some (LY.take n)[k] := List.getElem?_eq_getElem hl
  rw [a_c_at hq] at hk
  cases hk
  exact hb.A (tk_of hq).1⟩
def a_FF (own : String) (ci k : Nat) : Prop := ∀ (C : String) (T : u_T) (N : Nat), a_cls[ci]? = some (C, T, N) → (T k).2.2.2 = true ∧ (T k).1 = own
section WNR
variable {X : a_X} {ad0 : Nat → Nat} {ca0 : Nat → ClassId} {n0 : Nat} {own : String} {cc : ByteArray} {nL : Nat} {ret : Option FieldType} {d KC KS kc ks n : Nat} {fi : Prop} {QF : List Frame → Array Value → State → State → Prop} {pc : Nat} {lv lv' : List (Nat × Value)} {st : List Value} {M : a_M} {P : a_P}
theorem wn_iconst {n9 : Int} {v : Int32} (hdg : decode cc pc = .ok (.iconst n9, 1)) (hv : Int32.ofInt n9 = v) (h : WN X ad0 ca0 n0 own cc nL ret d KC KS kc ks n fi QF (pc + 1) lv (.int v :: st) M P) : WN X ad0 ca0 n0 own cc nL ret d KC KS kc ks n fi QF pc lv (st) M P := by
  intro ad ca R p l e s m args below meth c H locs ls hR hI F hov hb hca hk9 hz w S hl
  exact lv_iconst F.1 F.2.1 hdg hv (h ad ca R p l e s m args below meth c H locs ls hR hI F hov hb hca hk9 hz w S hl)
theorem wn_bipush {n9 : Int} {v : Int32} (hdg : decode cc pc = .ok (.bipush n9, 2)) (hv : (Int8.ofInt n9).toInt32 = v) (h : WN X ad0 ca0 n0 own cc nL ret d KC KS kc ks n fi QF (pc + 2) lv (.int v :: st) M P) : WN X ad0 ca0 n0 own cc nL ret d KC KS kc ks n fi QF pc lv (st) M P := by
  intro ad ca R p l e s m args below meth c H locs ls hR hI F hov hb hca hk9 hz w S hl
  exact lv_bipush F.1 F.2.1 hdg hv (h ad ca R p l e s m args below meth c H locs ls hR hI F hov hb hca hk9 hz w S hl)
theorem wn_sipush {n9 : Int} {v : Int32} (hdg : decode cc pc = .ok (.sipush n9, 3)) (hv : (Int16.ofInt n9).toInt32 = v) (h : WN X ad0 ca0 n0 own cc nL ret d KC KS kc ks n fi QF (pc + 3) lv (.int v :: st) M P) : WN X ad0 ca0 n0 own cc nL ret d KC KS kc ks n fi QF pc lv (st) M P := by
  intro ad ca R p l e s m args below meth c H locs ls hR hI F hov hb hca hk9 hz w S hl
  exact lv_sipush F.1 F.2.1 hdg hv (h ad ca R p l e s m args below meth c H locs ls hR hI F hov hb hca hk9 hz w S hl)
theorem wn_iload_n {k : Fin 4} {i : Nat} {x : Int32} (hdg : decode cc pc = .ok (.iload_n k, 1)) (j : Nat) (hi : (k : Nat) = i) (hj : lv[j]? = some (i, .int x)) (h : WN X ad0 ca0 n0 own cc nL ret d KC KS kc ks n fi QF (pc + 1) lv (.int x :: st) M P) : WN X ad0 ca0 n0 own cc nL ret d KC KS kc ks n fi QF pc lv (st) M P := by
  intro ad ca R p l e s m args below meth c H locs ls hR hI F hov hb hca hk9 hz w S hl
  exact lv_iload_n F.1 F.2.1 hdg hi (a_mp_at hl hj) (h ad ca R p l e s m args below meth c H locs ls hR hI F hov hb hca hk9 hz w S hl)
theorem wn_aload_n {k : Fin 4} {i : Nat} {x : Nat} (hdg : decode cc pc = .ok (.aload_n k, 1)) (j : Nat) (hi : (k : Nat) = i) (hj : lv[j]? = some (i, .ref x)) (h : WN X ad0 ca0 n0 own cc nL ret d KC KS kc ks n fi QF (pc + 1) lv (.ref x :: st) M P) : WN X ad0 ca0 n0 own cc nL ret d KC KS kc ks n fi QF pc lv (st) M P := by
  intro ad ca R p l e s m args below meth c H locs ls hR hI F hov hb hca hk9 hz w S hl
  exact lv_aload_n F.1 F.2.1 hdg hi (a_mp_at hl hj) (h ad ca R p l e s m args below meth c H locs ls hR hI F hov hb hca hk9 hz w S hl)
theorem wn_dup {v : Value} (hdg : decode cc pc = .ok (.dup, 1)) (hv : v.category = 1) (h : WN X ad0 ca0 n0 own cc nL ret d KC KS kc ks n fi QF (pc + 1) lv (v :: v :: st) M P) : WN X ad0 ca0 n0 own cc nL ret d KC KS kc ks n fi QF pc lv (v :: st) M P := by
  intro ad ca R p l e s m args below meth c H locs ls hR hI F hov hb hca hk9 hz w S hl
  exact lv_dup F.1 F.2.1 hdg ((a_cv_cat ad v).trans hv) (h ad ca R p l e s m args below meth c H locs ls hR hI F hov hb hca hk9 hz w S hl)
theorem wn_istore_n {k : Fin 4} {i : Nat} {x : Int32} (hdg : decode cc pc = .ok (.istore_n k, 1)) (hi : (k : Nat) = i) (hn : Nat.blt (i) nL = true) (hl9 : (i, Value.int x) :: lv.filter (fun q => !(q.1 == i) && !(q.1 + 1 == i && q.2.category == 2)) = lv') (h : WN X ad0 ca0 n0 own cc nL ret d KC KS kc ks n fi QF (pc + 1) lv' (st) M P) : WN X ad0 ca0 n0 own cc nL ret d KC KS kc ks n fi QF pc lv (.int x :: st) M P := by
  intro ad ca R p l e s m args below meth c H locs ls hR hI F hov hb hca hk9 hz w S hl
  refine lv_istore_n F.1 F.2.1 hdg hi hl (Nat.blt_eq.mp hn) rfl (fun ls' hl' => h ad ca R p l e s m args below meth c H locs ls' hR hI F hov hb hca hk9 hz w S ?_)
  rw [a_mp_filter ad lv _ (fun q => by simp only [a_cv_cat])] at hl'
  rw [← hl9]
  exact hl'
theorem wn_astore_n {k : Fin 4} {i : Nat} {x : Nat} (hdg : decode cc pc = .ok (.astore_n k, 1)) (hi : (k : Nat) = i) (hn : Nat.blt (i) nL = true) (hl9 : (i, Value.ref x) :: lv.filter (fun q => !(q.1 == i) && !(q.1 + 1 == i && q.2.category == 2)) = lv') (h : WN X ad0 ca0 n0 own cc nL ret d KC KS kc ks n fi QF (pc + 1) lv' (st) M P) : WN X ad0 ca0 n0 own cc nL ret d KC KS kc ks n fi QF pc lv (.ref x :: st) M P := by
  intro ad ca R p l e s m args below meth c H locs ls hR hI F hov hb hca hk9 hz w S hl
  refine lv_astore_n F.1 F.2.1 hdg hi hl (Nat.blt_eq.mp hn) rfl (fun ls' hl' => h ad ca R p l e s m args below meth c H locs ls' hR hI F hov hb hca hk9 hz w S ?_)
  rw [a_mp_filter ad lv _ (fun q => by simp only [a_cv_cat])] at hl'
  rw [← hl9]
  exact hl'
theorem wn_iinc {i : Nat} {n9 : Int} {x v : Int32} (hdg : decode cc pc = .ok (.iinc i n9, 3)) (j : Nat) (hj : lv[j]? = some (i, .int x)) (hv : x + Int32.ofInt n9 = v) (hn : Nat.blt i nL = true) (hl9 : (i, Value.int v) :: lv.filter (fun q => !(q.1 == i) && !(q.1 + 1 == i && q.2.category == 2)) = lv') (h : WN X ad0 ca0 n0 own cc nL ret d KC KS kc ks n fi QF (pc + 3) lv' (st) M P) : WN X ad0 ca0 n0 own cc nL ret d KC KS kc ks n fi QF pc lv (st) M P := by
  intro ad ca R p l e s m args below meth c H locs ls hR hI F hov hb hca hk9 hz w S hl
  have hj' : (a_mp ad lv)[j]? = some (i, .int x) := by unfold a_mp; rw [List.getElem?_map, hj]; rfl
  refine lv_iinc F.1 F.2.1 hdg hl hj' hv (Nat.blt_eq.mp hn) rfl (fun ls' hl' => h ad ca R p l e s m args below meth c H locs ls' hR hI F hov hb hca hk9 hz w S ?_)
  rw [a_mp_filter ad lv _ (fun q => by simp only [a_cv_cat])] at hl'
  rw [← hl9]
  exact hl'
theorem wn_icmp_ge {x y : Int32} {off : Int} {tgt : Nat} (hdg : decode cc pc = .ok (.if_icmp .ge off, 3)) (ht : (pc : Int) + off = (tgt : Int)) (kt : y ≤ x → WN X ad0 ca0 n0 own cc nL ret d KC KS kc ks n fi QF tgt lv (st) M P) (kf : ¬ y ≤ x → WN X ad0 ca0 n0 own cc nL ret d KC KS kc ks n fi QF (pc + 3) lv (st) M P) : WN X ad0 ca0 n0 own cc nL ret d KC KS kc ks n fi QF pc lv (.int y :: .int x :: st) M P := by
  intro ad ca R p l e s m args below meth c H locs ls hR hI F hov hb hca hk9 hz w S hl
  exact lv_icmp_ge F.1 F.2.1 hdg ht (fun hc => kt hc ad ca R p l e s m args below meth c H locs ls hR hI F hov hb hca hk9 hz w S hl) (fun hc => kf hc ad ca R p l e s m args below meth c H locs ls hR hI F hov hb hca hk9 hz w S hl)
theorem wn_icmp_le {x y : Int32} {off : Int} {tgt : Nat} (hdg : decode cc pc = .ok (.if_icmp .le off, 3)) (ht : (pc : Int) + off = (tgt : Int)) (kt : x ≤ y → WN X ad0 ca0 n0 own cc nL ret d KC KS kc ks n fi QF tgt lv (st) M P) (kf : ¬ x ≤ y → WN X ad0 ca0 n0 own cc nL ret d KC KS kc ks n fi QF (pc + 3) lv (st) M P) : WN X ad0 ca0 n0 own cc nL ret d KC KS kc ks n fi QF pc lv (.int y :: .int x :: st) M P := by
  intro ad ca R p l e s m args below meth c H locs ls hR hI F hov hb hca hk9 hz w S hl
  exact lv_icmp_le F.1 F.2.1 hdg ht (fun hc => kt hc ad ca R p l e s m args below meth c H locs ls hR hI F hov hb hca hk9 hz w S hl) (fun hc => kf hc ad ca R p l e s m args below meth c H locs ls hR hI F hov hb hca hk9 hz w S hl)
theorem wn_goto {off : Int} {tgt : Nat} (hdg : decode cc pc = .ok (.goto off, 3)) (ht : (pc : Int) + off = (tgt : Int)) (h : WN X ad0 ca0 n0 own cc nL ret d KC KS kc ks n fi QF tgt lv (st) M P) : WN X ad0 ca0 n0 own cc nL ret d KC KS kc ks n fi QF pc lv (st) M P := by
  intro ad ca R p l e s m args below meth c H locs ls hR hI F hov hb hca hk9 hz w S hl
  exact lv_goto F.1 F.2.1 hdg ht (h ad ca R p l e s m args below meth c H locs ls hR hI F hov hb hca hk9 hz w S hl)
theorem wn_geti {o ci k N idx : Nat} (hdg : decode cc pc = .ok (.getfield idx, 3)) (hf : a_FL own idx ci k N) (hr : a_rf ci k = false) (hL : LY[o]? = some (ci, N)) (ho : o < n) (h : WN X ad0 ca0 n0 own cc nL ret d KC KS kc ks n fi QF (pc + 3) lv (.int (M o k) :: st) M P) : WN X ad0 ca0 n0 own cc nL ret d KC KS kc ks n fi QF pc lv (.ref o :: st) M P := by
  intro ad ca R p l e s m args below meth c H locs ls hR hI F hov hb hca hk9 hz w S hl
  obtain ⟨C, T, ⟨hc, h50, hin, -, -⟩, hk, hlk⟩ := hf
  have he := a_c_at (ad := ad) (ca := ca) (M := M) (P := P) (tk_at hL ho)
  rw [a_e_obj h50] at he
  refine va_get (D := X.1) (cl := a_cls) (tys := []) (ci := ci) (v := .int (M o k)) (C := C) (T := T) (N := N) F.1 F.2.1 F.2.2.2.2.2.1 hin F.2.2.2.2.1 hk9.1 w.1 o he hc k hk (F.2.2.2.2.2.1 _ hlk) (fun _ h9 => h9) ?_ hdg (h ad ca R p l e s m args below meth c H locs ls hR hI F hov hb hca hk9 hz w S hl)
  rw [List.getElem?_map, List.getElem?_range hk, Option.map_some]
  unfold a_fv
  rw [hr]
  rfl
theorem wn_getr {o ci k N idx r : Nat} (hdg : decode cc pc = .ok (.getfield idx, 3)) (hf : a_FL own idx ci k N) (hr : a_rf ci k = true) (hL : LY[o]? = some (ci, N)) (ho : o < n) (hp : P o k = r + 1) (h : WN X ad0 ca0 n0 own cc nL ret d KC KS kc ks n fi QF (pc + 3) lv (.ref r :: st) M P) : WN X ad0 ca0 n0 own cc nL ret d KC KS kc ks n fi QF pc lv (.ref o :: st) M P := by
  intro ad ca R p l e s m args below meth c H locs ls hR hI F hov hb hca hk9 hz w S hl
  obtain ⟨C, T, ⟨hc, h50, hin, -, -⟩, hk, hlk⟩ := hf
  have he := a_c_at (ad := ad) (ca := ca) (M := M) (P := P) (tk_at hL ho)
  rw [a_e_obj h50] at he
  refine va_get (D := X.1) (cl := a_cls) (tys := []) (ci := ci) (v := .ref (ad r)) (C := C) (T := T) (N := N) F.1 F.2.1 F.2.2.2.2.2.1 hin F.2.2.2.2.1 hk9.1 w.1 o he hc k hk (F.2.2.2.2.2.1 _ hlk) (fun _ h9 => h9) ?_ hdg (h ad ca R p l e s m args below meth c H locs ls hR hI F hov hb hca hk9 hz w S hl)
  rw [List.getElem?_map, List.getElem?_range hk, Option.map_some]
  unfold a_fv
  rw [hr, hp]
  rfl
theorem wn_puti {o ci k N idx : Nat} {x : Int32} (hdg : decode cc pc = .ok (.putfield idx, 3)) (hf : a_FL own idx ci k N) (hm : a_FM ci k) (hr : a_rf ci k = false) (hL : LY[o]? = some (ci, N)) (ho : o < n) (hn : narrow (a_ty ci k) (.int x) = .int x) (hfit : fits (a_ty ci k) (.int x) = true) (h : WN X ad0 ca0 n0 own cc nL ret d KC KS kc ks n fi QF (pc + 3) lv (st) (va_up M o (upd (M o) k x)) P) : WN X ad0 ca0 n0 own cc nL ret d KC KS kc ks n fi QF pc lv (.int x :: .ref o :: st) M P := by
  intro ad ca R p l e s m args below meth c H locs ls hR hI F hov hb hca hk9 hz w S hl
  obtain ⟨C, T, ⟨hc, h50, hin, hty, hnm⟩, hk, hlk⟩ := hf
  have he := a_c_at (ad := ad) (ca := ca) (M := M) (P := P) (tk_at hL ho)
  rw [a_e_obj h50] at he
  refine va_put (D := X.1) (cl := a_cls) (tys := []) (ci := ci) (v := .int x) (ty := a_ty ci k) (C := C) (T := T) (N := N) F.1 F.2.1 F.2.2.2.2.2.1 hin (a_ty ci) hty hnm F.2.2.2.2.1 hk9.1 w.1 (n_D w.2 hb) S o he hc k hk (F.2.2.2.2.2.1 _ hlk) (fun _ h9 => h9) (hm C T N hc) (hty k hk) hn hfit (by simpa using hk) hdg (fun H1 locs1 hP1 hD1 hS1 => h ad ca R p l e s m args below meth c H1 locs1 ls hR hI F hov hb hca hk9 (hz.puti ho) ?_ hS1 hl)
  have hset : (a_c ad ca (LY.take n) M P).set o (ad o, .inr (ci, ((List.range N).map (a_fv ad M P ci o)).set k (.int x))) = a_c ad ca (LY.take n) (va_up M o (upd (M o) k x)) P := by
    rw [← a_c_set (ad := ad) (ca := ca) (M := M) (P := P) (M' := va_up M o (upd (M o) k x)) (P' := P) (tk_at hL ho) (fun i hi => by unfold va_up; rw [if_neg hi]) (fun i _ => rfl), a_e_obj h50, a_map_set]
    congr 4
    apply List.map_congr_left
    intro j _
    unfold a_fv
    by_cases e : j = k
    · subst e; rw [hr]; simp [va_up, upd]
    · simp [va_up, upd, e]
  rw [hset] at hP1 hD1
  exact ⟨hP1, hD1.1, fun _ _ _ => trivial⟩
theorem wn_putr {o ci k N idx r : Nat} (hdg : decode cc pc = .ok (.putfield idx, 3)) (hf : a_FL own idx ci k N) (hm : a_FM ci k) (hr : a_rf ci k = true) (hL : LY[o]? = some (ci, N)) (ho : o < n) (hn : ∀ b, narrow (a_ty ci k) (.ref b) = .ref b) (hfit : ∀ b, fits (a_ty ci k) (.ref b) = true) (hr9 : r < n) (h : WN X ad0 ca0 n0 own cc nL ret d KC KS kc ks n fi QF (pc + 3) lv (st) M (va_up P o (va_up (P o) k (r + 1)))) : WN X ad0 ca0 n0 own cc nL ret d KC KS kc ks n fi QF pc lv (.ref r :: .ref o :: st) M P := by
  intro ad ca R p l e s m args below meth c H locs ls hR hI F hov hb hca hk9 hz w S hl
  obtain ⟨C, T, ⟨hc, h50, hin, hty, hnm⟩, hk, hlk⟩ := hf
  have he := a_c_at (ad := ad) (ca := ca) (M := M) (P := P) (tk_at hL ho)
  rw [a_e_obj h50] at he
  refine va_put (D := X.1) (cl := a_cls) (tys := []) (ci := ci) (v := .ref (ad r)) (ty := a_ty ci k) (C := C) (T := T) (N := N) F.1 F.2.1 F.2.2.2.2.2.1 hin (a_ty ci) hty hnm F.2.2.2.2.1 hk9.1 w.1 (n_D w.2 hb) S o he hc k hk (F.2.2.2.2.2.1 _ hlk) (fun _ h9 => h9) (hm C T N hc) (hty k hk) (hn _) (hfit _) (by simpa using hk) hdg (fun H1 locs1 hP1 hD1 hS1 => h ad ca R p l e s m args below meth c H1 locs1 ls hR hI F hov hb hca hk9 (hz.putr ho hr9) ?_ hS1 hl)
  have hset : (a_c ad ca (LY.take n) M P).set o (ad o, .inr (ci, ((List.range N).map (a_fv ad M P ci o)).set k (.ref (ad r)))) = a_c ad ca (LY.take n) M (va_up P o (va_up (P o) k (r + 1))) := by
    rw [← a_c_set (ad := ad) (ca := ca) (M := M) (P := P) (M' := M) (P' := va_up P o (va_up (P o) k (r + 1))) (tk_at hL ho) (fun i _ => rfl) (fun i hi => by unfold va_up; rw [if_neg hi]), a_e_obj h50, a_map_set]
    congr 4
    apply List.map_congr_left
    intro j _
    unfold a_fv
    by_cases e : j = k
    · subst e; rw [hr]; simp [va_up, a_or, va_rf]
    · simp [va_up, e]
  rw [hset] at hP1 hD1
  exact ⟨hP1, hD1.1, fun _ _ _ => trivial⟩
theorem wn_putf {o ci k N idx r : Nat} (hdg : decode cc pc = .ok (.putfield idx, 3)) (hf : a_FL own idx ci k N) (hm : a_FF own ci k) (hfi : fi) (hr : a_rf ci k = true) (hL : LY[o]? = some (ci, N)) (ho : o < n) (hn : ∀ b, narrow (a_ty ci k) (.ref b) = .ref b) (hfit : ∀ b, fits (a_ty ci k) (.ref b) = true) (hr9 : r < n) (h : WN X ad0 ca0 n0 own cc nL ret d KC KS kc ks n fi QF (pc + 3) lv (st) M (va_up P o (va_up (P o) k (r + 1)))) : WN X ad0 ca0 n0 own cc nL ret d KC KS kc ks n fi QF pc lv (.ref r :: .ref o :: st) M P := by
  intro ad ca R p l e s m args below meth c H locs ls hR hI F hov hb hca hk9 hz w S hl
  obtain ⟨C, T, ⟨hc, h50, hin, hty, hnm⟩, hk, hlk⟩ := hf
  have he := a_c_at (ad := ad) (ca := ca) (M := M) (P := P) (tk_at hL ho)
  rw [a_e_obj h50] at he
  refine va_putF (D := X.1) (cl := a_cls) (tys := []) (ci := ci) (v := .ref (ad r)) (ty := a_ty ci k) (C := C) (T := T) (N := N) F.1 F.2.1 F.2.2.2.2.2.1 hin (a_ty ci) hty hnm F.2.2.2.2.1 hk9.1 w.1 (n_D w.2 hb) S o he hc k hk (F.2.2.2.2.2.1 _ hlk) (fun _ h9 => h9) (hm C T N hc).1 (hI hfi) (hm C T N hc).2 (hty k hk) (hn _) (hfit _) (by simpa using hk) hdg (fun H1 locs1 hP1 hD1 hS1 => h ad ca R p l e s m args below meth c H1 locs1 ls hR hI F hov hb hca hk9 (hz.putr ho hr9) ?_ hS1 hl)
  have hset : (a_c ad ca (LY.take n) M P).set o (ad o, .inr (ci, ((List.range N).map (a_fv ad M P ci o)).set k (.ref (ad r)))) = a_c ad ca (LY.take n) M (va_up P o (va_up (P o) k (r + 1))) := by
    rw [← a_c_set (ad := ad) (ca := ca) (M := M) (P := P) (M' := M) (P' := va_up P o (va_up (P o) k (r + 1))) (tk_at hL ho) (fun i _ => rfl) (fun i hi => by unfold va_up; rw [if_neg hi]), a_e_obj h50, a_map_set]
    congr 4
    apply List.map_congr_left
    intro j _
    unfold a_fv
    by_cases e : j = k
    · subst e; rw [hr]; simp [va_up, a_or, va_rf]
    · simp [va_up, e]
  rw [hset] at hP1 hD1
  exact ⟨hP1, hD1.1, fun _ _ _ => trivial⟩
theorem wn_iast {o n9 : Nat} {i x : Int32} (hdg : decode cc pc = .ok (.iastore, 1)) (hL : LY[o]? = some (100, n9)) (ho : o < n) (hin : vp_in i n9) (h : WN X ad0 ca0 n0 own cc nL ret d KC KS kc ks n fi QF (pc + 1) lv (st) (va_up M o (upd (M o) i.toNatClampNeg x)) P) : WN X ad0 ca0 n0 own cc nL ret d KC KS kc ks n fi QF pc lv (.int x :: .int i :: .ref o :: st) M P := by
  intro ad ca R p l e s m args below meth c H locs ls hR hI F hov hb hca hk9 hz w S hl
  refine va_iast (D := X.1) (cl := a_cls) (tys := [(ca o, .int)]) F.1 F.2.1 (hk9.K (tk_at hL ho) (by show 50 ≤ _; omega)) w.1 (n_D w.2 hb) S o 0 (a_int_at (tk_at hL ho) (by decide) (by decide)) rfl hin hdg (fun H1 locs1 hP1 hD1 hS1 => h ad ca R p l e s m args below meth c H1 locs1 ls hR hI F hov hb hca hk9 (hz.puti ho) ?_ hS1 hl)
  rw [a_set_int (tk_at hL ho) (by decide) (by decide)] at hP1 hD1
  exact ⟨hP1, hD1.1, fun _ _ _ => trivial⟩
theorem wn_alen {o n9 k : Nat} {v : Int32} (hdg : decode cc pc = .ok (.arraylength, 1)) (hL : LY[o]? = some (k, n9)) (ho : o < n) (hk : 50 ≤ k) (hv : Int32.ofNat n9 = v) (h : WN X ad0 ca0 n0 own cc nL ret d KC KS kc ks n fi QF (pc + 1) lv (.int v :: st) M P) : WN X ad0 ca0 n0 own cc nL ret d KC KS kc ks n fi QF pc lv (.ref o :: st) M P := by
  intro ad ca R p l e s m args below meth c H locs ls hR hI F hov hb hca hk9 hz w S hl
  have he := a_c_at (ad := ad) (ca := ca) (M := M) (P := P) (tk_at hL ho)
  unfold a_e at he
  rw [if_neg (by omega)] at he
  split at he
  · exact va_alen (D := X.1) (cl := a_cls) (tys := [(ca o, a_at k)]) F.1 F.2.1 (hk9.K (tk_at hL ho) hk) w.1 o 0 he rfl hv hdg (h ad ca R p l e s m args below meth c H locs ls hR hI F hov hb hca hk9 hz w S hl)
  · exact va_alen (D := X.1) (cl := a_cls) (tys := [(ca o, a_at k)]) F.1 F.2.1 (hk9.K (tk_at hL ho) hk) w.1 o 0 he rfl hv hdg (h ad ca R p l e s m args below meth c H locs ls hR hI F hov hb hca hk9 hz w S hl)
end WNR
