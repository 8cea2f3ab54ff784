/-! THE ABSTRACT JUDGEMENT. WA: the machine, at pc with these locals and this stack, over a heap that holds the abstract state, comes to an end with QF. Mt: a method's contract over the abstract state. -/
abbrev a_rm (d : Nat) : Room := { frames := d, cells := 0, slots := 0, locals := 64 * d }
def a_Q (X : a_X) (ad : Nat → Nat) (ca : Nat → ClassId) (L : a_L) (sz : Nat) (Post : Option Value → a_M → a_P → Prop) : Array Value → State → Outcome → State → Prop := fun _ st o t =>
  (∃ (r : Option Value) (M : a_M) (P : a_P), o = .returned (r.map (a_cv ad)) ∧ Post r M P ∧ a_wd X ad ca L M P t.heap) ∧ va_F (a_A ad L sz) st t
def a_Pre (X : a_X) (ad : Nat → Nat) (ca : Nat → ClassId) (L : a_L) (sz : Nat) (args : List Value) (M : a_M) (P : a_P) : Array Value → State → Prop := va_Pc (args.map (a_cv ad)) (fun U => U.heap.size = sz ∧ a_wd X ad ca L M P U.heap ∧ a_kd X ca L U ∧ a_cx X (a_A ad L sz) U U.heap ∧ a_sp X ad)
def Mt (X : a_X) (ad : Nat → Nat) (ca : Nat → ClassId) (L : a_L) (d : Nat) (y : MethodName) (cc : ByteArray) (nL : Nat) (ret : Option FieldType) (args : List Value) (M : a_M) (P : a_P) (Post : Option Value → a_M → a_P → Prop) : Prop :=
  ∀ (l : Launch) (sz : Nat), Met l y (a_ws y cc nL ret) (a_rm d) (a_Pre X ad ca L sz args M P) (a_Q X ad ca L sz Post) 0 0 (a_A ad L sz)
def a_fx (X : a_X) (ad : Nat → Nat) (ca : Nat → ClassId) (L : a_L) (own : String) (cc : ByteArray) (nL : Nat) (ret : Option FieldType) (p : Program) (s : State) (m : MethodId) (args : Array Value) (meth : Method) (c : Code) : Prop :=
  p.tables.exec = Jvm.exec ∧ c.code = cc ∧ meth.sig.returnType = ret ∧ c.maxLocals = nL ∧ s.vm.findClass own = some m.cls ∧ (∀ w ∈ a_tb, w.before args s = true) ∧ a_kd X ca L s ∧ a_cx X (a_A ad L s.heap.size) s s.heap ∧ a_sp X ad ∧ meth.locks = false
def a_mp (ad : Nat → Nat) (lv : List (Nat × Value)) : List (Nat × Value) := lv.map fun q => (q.1, a_cv ad q.2)
def WA (X : a_X) (ad : Nat → Nat) (ca : Nat → ClassId) (L : a_L) (own : String) (cc : ByteArray) (nL : Nat) (ret : Option FieldType) (d kc ks : Nat) (QF : List Frame → Array Value → State → State → Prop) (pc : Nat) (lv : List (Nat × Value)) (st : List Value) (M : a_M) (P : a_P) : Prop :=
  ∀ (R : Room) (p : Program) (l : Launch) (e : Env) (s : State) (m : MethodId) (args : Array Value) (below : List Frame) (meth : Method) (c : Code) (H : Heap) (locs : List Loc) (ls : Array Slot),
    (d ≤ R.frames ∧ 64 * d ≤ R.locals ∧ kc ≤ R.cells ∧ ks ≤ R.slots) → a_fx X ad ca L own cc nL ret p s m args meth c → a_wd X ad ca L M P H → va_S (a_A ad L s.heap.size) s.heap H locs → lv_has ls nL (a_mp ad lv) →
    W p l e R s m args below meth c H locs kc ks (QF below args s) (F0 m pc ls (st.map (a_cv ad)))
/-- a method's end -/
def a_E (X : a_X) (ad : Nat → Nat) (ca : Nat → ClassId) (L : a_L) (Post : Option Value → a_M → a_P → Prop) : List Frame → Array Value → State → State → Prop := fun below args s => MQ below (a_Q X ad ca L s.heap.size Post) args s 0 0 (a_A ad L s.heap.size)
theorem a_mp_filter (ad : Nat → Nat) (lv : List (Nat × Value)) (f : Nat × Value → Bool) (hf : ∀ q, f (q.1, a_cv ad q.2) = f q) : (a_mp ad lv).filter f = a_mp ad (lv.filter f) := by
  unfold a_mp
  rw [List.filter_map]
  congr 1
  apply List.filter_congr
  intro q _
  exact hf q
theorem a_mp_at {ad : Nat → Nat} {lv : List (Nat × Value)} {ls : Array Slot} {nL k i : Nat} {v : Value} (h : lv_has ls nL (a_mp ad lv)) (hk : lv[k]? = some (i, v)) : ls[i]? = some (.val (a_cv ad v)) := h.2.2 (i, a_cv ad v) (List.mem_map.mpr ⟨(i, v), List.mem_of_getElem? hk, rfl⟩)
section WAR
variable {X : a_X} {ad : Nat → Nat} {ca : Nat → ClassId} {L : a_L} {own : String} {cc : ByteArray} {nL : Nat} {ret : Option FieldType} {d kc ks : Nat} {QF : List Frame → Array Value → State → State → Prop} {pc : Nat} {lv lv' : List (Nat × Value)} {st : List Value} {M : a_M} {P : a_P}
theorem wa_sub (hs : ∀ q ∈ lv', q ∈ lv) (h : WA X ad ca L own cc nL ret d kc ks QF pc lv' st M P) : WA X ad ca L own cc nL ret d kc ks QF pc lv st M P := by
  intro R p l e s m args below meth c H locs ls hR F w S hl
  refine h R p l e s m args below meth c H locs ls hR F w S ⟨hl.1, hl.2.1, fun q hq => ?_⟩
  obtain ⟨z, hz, rfl⟩ := List.mem_map.mp hq
  exact hl.2.2 _ (List.mem_map.mpr ⟨z, hs z hz, rfl⟩)
theorem wa_pick (ks9 : List Nat) (hs : ks9.filterMap (fun k => lv[k]?) = lv') (h : WA X ad ca L own cc nL ret d kc ks QF pc lv' st M P) : WA X ad ca L own cc nL ret d kc ks QF pc lv st M P := by
  refine wa_sub (fun q hq => ?_) h
  rw [← hs] at hq
  obtain ⟨k, -, hk⟩ := List.mem_filterMap.mp hq
  exact List.mem_of_getElem? hk
theorem wa_iadd {x y : Int32} (hdg : decode cc pc = .ok (.iadd, 1))  (h : WA X ad ca L own cc nL ret d kc ks QF (pc + 1) lv (.int (x + y) :: st) M P) : WA X ad ca L own cc nL ret d kc ks QF pc lv (.int y :: .int x :: st) M P := by
  intro R p l e s m args below meth c H locs ls hR F w S hl
  exact lv_iadd F.1 F.2.1 hdg  (h R p l e s m args below meth c H locs ls hR F w S hl)
theorem wa_isub {x y : Int32} (hdg : decode cc pc = .ok (.isub, 1))  (h : WA X ad ca L own cc nL ret d kc ks QF (pc + 1) lv (.int (x - y) :: st) M P) : WA X ad ca L own cc nL ret d kc ks QF pc lv (.int y :: .int x :: st) M P := by
  intro R p l e s m args below meth c H locs ls hR F w S hl
  exact lv_isub F.1 F.2.1 hdg  (h R p l e s m args below meth c H locs ls hR F w S hl)
theorem wa_imul {x y : Int32} (hdg : decode cc pc = .ok (.imul, 1))  (h : WA X ad ca L own cc nL ret d kc ks QF (pc + 1) lv (.int (x * y) :: st) M P) : WA X ad ca L own cc nL ret d kc ks QF pc lv (.int y :: .int x :: st) M P := by
  intro R p l e s m args below meth c H locs ls hR F w S hl
  exact lv_imul F.1 F.2.1 hdg  (h R p l e s m args below meth c H locs ls hR F w S hl)
theorem wa_iand {x y : Int32} (hdg : decode cc pc = .ok (.iand, 1))  (h : WA X ad ca L own cc nL ret d kc ks QF (pc + 1) lv (.int (x &&& y) :: st) M P) : WA X ad ca L own cc nL ret d kc ks QF pc lv (.int y :: .int x :: st) M P := by
  intro R p l e s m args below meth c H locs ls hR F w S hl
  exact lv_iand F.1 F.2.1 hdg  (h R p l e s m args below meth c H locs ls hR F w S hl)
theorem wa_ior {x y : Int32} (hdg : decode cc pc = .ok (.ior, 1))  (h : WA X ad ca L own cc nL ret d kc ks QF (pc + 1) lv (.int (x ||| y) :: st) M P) : WA X ad ca L own cc nL ret d kc ks QF pc lv (.int y :: .int x :: st) M P := by
  intro R p l e s m args below meth c H locs ls hR F w S hl
  exact lv_ior F.1 F.2.1 hdg  (h R p l e s m args below meth c H locs ls hR F w S hl)
theorem wa_ixor {x y : Int32} (hdg : decode cc pc = .ok (.ixor, 1))  (h : WA X ad ca L own cc nL ret d kc ks QF (pc + 1) lv (.int (x ^^^ y) :: st) M P) : WA X ad ca L own cc nL ret d kc ks QF pc lv (.int y :: .int x :: st) M P := by
  intro R p l e s m args below meth c H locs ls hR F w S hl
  exact lv_ixor F.1 F.2.1 hdg  (h R p l e s m args below meth c H locs ls hR F w S hl)
theorem wa_ishl {x y : Int32} (hdg : decode cc pc = .ok (.ishl, 1))  (h : WA X ad ca L own cc nL ret d kc ks QF (pc + 1) lv (.int (x <<< (y &&& 31)) :: st) M P) : WA X ad ca L own cc nL ret d kc ks QF pc lv (.int y :: .int x :: st) M P := by
  intro R p l e s m args below meth c H locs ls hR F w S hl
  exact lv_ishl F.1 F.2.1 hdg  (h R p l e s m args below meth c H locs ls hR F w S hl)
theorem wa_ishr {x y : Int32} (hdg : decode cc pc = .ok (.ishr, 1))  (h : WA X ad ca L own cc nL ret d kc ks QF (pc + 1) lv (.int (x >>> (y &&& 31)) :: st) M P) : WA X ad ca L own cc nL ret d kc ks QF pc lv (.int y :: .int x :: st) M P := by
  intro R p l e s m args below meth c H locs ls hR F w S hl
  exact lv_ishr F.1 F.2.1 hdg  (h R p l e s m args below meth c H locs ls hR F w S hl)
theorem wa_iushr {x y : Int32} (hdg : decode cc pc = .ok (.iushr, 1))  (h : WA X ad ca L own cc nL ret d kc ks QF (pc + 1) lv (.int ((x.toUInt32 >>> (y.toUInt32 &&& Int32.toUInt32 31)).toInt32) :: st) M P) : WA X ad ca L own cc nL ret d kc ks QF pc lv (.int y :: .int x :: st) M P := by
  intro R p l e s m args below meth c H locs ls hR F w S hl
  exact lv_iushr F.1 F.2.1 hdg rfl (h R p l e s m args below meth c H locs ls hR F w S hl)
theorem wa_idiv {x y : Int32} (hdg : decode cc pc = .ok (.idiv, 1)) (hne : ¬ y = 0) (h : WA X ad ca L own cc nL ret d kc ks QF (pc + 1) lv (.int (x / y) :: st) M P) : WA X ad ca L own cc nL ret d kc ks QF pc lv (.int y :: .int x :: st) M P := by
  intro R p l e s m args below meth c H locs ls hR F w S hl
  exact lv_idiv F.1 F.2.1 hdg hne (h R p l e s m args below meth c H locs ls hR F w S hl)
theorem wa_irem {x y : Int32} (hdg : decode cc pc = .ok (.irem, 1)) (hne : ¬ y = 0) (h : WA X ad ca L own cc nL ret d kc ks QF (pc + 1) lv (.int (x - x / y * y) :: st) M P) : WA X ad ca L own cc nL ret d kc ks QF pc lv (.int y :: .int x :: st) M P := by
  intro R p l e s m args below meth c H locs ls hR F w S hl
  exact lv_irem F.1 F.2.1 hdg hne (h R p l e s m args below meth c H locs ls hR F w S hl)
theorem wa_ineg {x : Int32} (hdg : decode cc pc = .ok (.ineg, 1))  (h : WA X ad ca L own cc nL ret d kc ks QF (pc + 1) lv (.int (-x) :: st) M P) : WA X ad ca L own cc nL ret d kc ks QF pc lv (.int x :: st) M P := by
  intro R p l e s m args below meth c H locs ls hR F w S hl
  exact lv_ineg F.1 F.2.1 hdg  (h R p l e s m args below meth c H locs ls hR F w S hl)
theorem wa_i2l {x : Int32} (hdg : decode cc pc = .ok (.i2l, 1))  (h : WA X ad ca L own cc nL ret d kc ks QF (pc + 1) lv (.long (x.toInt64) :: st) M P) : WA X ad ca L own cc nL ret d kc ks QF pc lv (.int x :: st) M P := by
  intro R p l e s m args below meth c H locs ls hR F w S hl
  exact lv_i2l F.1 F.2.1 hdg rfl (h R p l e s m args below meth c H locs ls hR F w S hl)
theorem wa_l2i {x : Int64} (hdg : decode cc pc = .ok (.l2i, 1))  (h : WA X ad ca L own cc nL ret d kc ks QF (pc + 1) lv (.int (x.toInt32) :: st) M P) : WA X ad ca L own cc nL ret d kc ks QF pc lv (.long x :: st) M P := by
  intro R p l e s m args below meth c H locs ls hR F w S hl
  exact lv_l2i F.1 F.2.1 hdg rfl (h R p l e s m args below meth c H locs ls hR F w S hl)
theorem wa_i2b {x : Int32} (hdg : decode cc pc = .ok (.i2b, 1))  (h : WA X ad ca L own cc nL ret d kc ks QF (pc + 1) lv (.int (x.toInt8.toInt32) :: st) M P) : WA X ad ca L own cc nL ret d kc ks QF pc lv (.int x :: st) M P := by
  intro R p l e s m args below meth c H locs ls hR F w S hl
  exact lv_i2b F.1 F.2.1 hdg rfl (h R p l e s m args below meth c H locs ls hR F w S hl)
theorem wa_i2c {x : Int32} (hdg : decode cc pc = .ok (.i2c, 1))  (h : WA X ad ca L own cc nL ret d kc ks QF (pc + 1) lv (.int ((x.toUInt32 % 65536).toInt32) :: st) M P) : WA X ad ca L own cc nL ret d kc ks QF pc lv (.int x :: st) M P := by
  intro R p l e s m args below meth c H locs ls hR F w S hl
  exact lv_i2c F.1 F.2.1 hdg rfl (h R p l e s m args below meth c H locs ls hR F w S hl)
theorem wa_ladd {x y : Int64} (hdg : decode cc pc = .ok (.ladd, 1))  (h : WA X ad ca L own cc nL ret d kc ks QF (pc + 1) lv (.long (x + y) :: st) M P) : WA X ad ca L own cc nL ret d kc ks QF pc lv (.long y :: .long x :: st) M P := by
  intro R p l e s m args below meth c H locs ls hR F w S hl
  exact lv_ladd F.1 F.2.1 hdg  (h R p l e s m args below meth c H locs ls hR F w S hl)
theorem wa_lsub {x y : Int64} (hdg : decode cc pc = .ok (.lsub, 1))  (h : WA X ad ca L own cc nL ret d kc ks QF (pc + 1) lv (.long (x - y) :: st) M P) : WA X ad ca L own cc nL ret d kc ks QF pc lv (.long y :: .long x :: st) M P := by
  intro R p l e s m args below meth c H locs ls hR F w S hl
  exact lv_lsub F.1 F.2.1 hdg  (h R p l e s m args below meth c H locs ls hR F w S hl)
theorem wa_lmul {x y : Int64} (hdg : decode cc pc = .ok (.lmul, 1))  (h : WA X ad ca L own cc nL ret d kc ks QF (pc + 1) lv (.long (x * y) :: st) M P) : WA X ad ca L own cc nL ret d kc ks QF pc lv (.long y :: .long x :: st) M P := by
  intro R p l e s m args below meth c H locs ls hR F w S hl
  exact lv_lmul F.1 F.2.1 hdg  (h R p l e s m args below meth c H locs ls hR F w S hl)
theorem wa_lrem {x y : Int64} (hdg : decode cc pc = .ok (.lrem, 1)) (hne : ¬ y = 0) (h : WA X ad ca L own cc nL ret d kc ks QF (pc + 1) lv (.long (x - x / y * y) :: st) M P) : WA X ad ca L own cc nL ret d kc ks QF pc lv (.long y :: .long x :: st) M P := by
  intro R p l e s m args below meth c H locs ls hR F w S hl
  exact lv_lrem F.1 F.2.1 hdg hne (h R p l e s m args below meth c H locs ls hR F w S hl)
theorem wa_lcmp {x y : Int64} (hdg : decode cc pc = .ok (.lcmp, 1))  (h : WA X ad ca L own cc nL ret d kc ks QF (pc + 1) lv (.int (lg_cmp x y) :: st) M P) : WA X ad ca L own cc nL ret d kc ks QF pc lv (.long y :: .long x :: st) M P := by
  intro R p l e s m args below meth c H locs ls hR F w S hl
  exact W.lcmp F.1 F.2.1 hdg  (h R p l e s m args below meth c H locs ls hR F w S hl)
theorem wa_iconst {n : Int} {v : Int32} (hdg : decode cc pc = .ok (.iconst n, 1)) (hv : Int32.ofInt n = v) (h : WA X ad ca L own cc nL ret d kc ks QF (pc + 1) lv (.int v :: st) M P) : WA X ad ca L own cc nL ret d kc ks QF pc lv (st) M P := by
  intro R p l e s m args below meth c H locs ls hR F w S hl
  exact lv_iconst F.1 F.2.1 hdg hv (h R p l e s m args below meth c H locs ls hR F w S hl)
theorem wa_bipush {n : Int} {v : Int32} (hdg : decode cc pc = .ok (.bipush n, 2)) (hv : (Int8.ofInt n).toInt32 = v) (h : WA X ad ca L own cc nL ret d kc ks QF (pc + 2) lv (.int v :: st) M P) : WA X ad ca L own cc nL ret d kc ks QF pc lv (st) M P := by
  intro R p l e s m args below meth c H locs ls hR F w S hl
  exact lv_bipush F.1 F.2.1 hdg hv (h R p l e s m args below meth c H locs ls hR F w S hl)
theorem wa_sipush {n : Int} {v : Int32} (hdg : decode cc pc = .ok (.sipush n, 3)) (hv : (Int16.ofInt n).toInt32 = v) (h : WA X ad ca L own cc nL ret d kc ks QF (pc + 3) lv (.int v :: st) M P) : WA X ad ca L own cc nL ret d kc ks QF pc lv (st) M P := by
  intro R p l e s m args below meth c H locs ls hR F w S hl
  exact lv_sipush F.1 F.2.1 hdg hv (h R p l e s m args below meth c H locs ls hR F w S hl)
theorem wa_lconst {n : Fin 2} {v : Int64} (hdg : decode cc pc = .ok (.lconst n, 1)) (hv : Int64.ofNat (n : Nat) = v) (h : WA X ad ca L own cc nL ret d kc ks QF (pc + 1) lv (.long v :: st) M P) : WA X ad ca L own cc nL ret d kc ks QF pc lv (st) M P := by
  intro R p l e s m args below meth c H locs ls hR F w S hl
  exact lv_lconst F.1 F.2.1 hdg hv (h R p l e s m args below meth c H locs ls hR F w S hl)
theorem wa_iload_n {k : Fin 4} {i : Nat} {x : Int32} (hdg : decode cc pc = .ok (.iload_n k, 1)) (j : Nat) (hi : (k : Nat) = i) (hj : lv[j]? = some (i, .int x)) (h : WA X ad ca L own cc nL ret d kc ks QF (pc + 1) lv (.int x :: st) M P) : WA X ad ca L own cc nL ret d kc ks QF pc lv (st) M P := by
  intro R p l e s m args below meth c H locs ls hR F w S hl
  exact lv_iload_n F.1 F.2.1 hdg hi (a_mp_at hl hj) (h R p l e s m args below meth c H locs ls hR F w S hl)
theorem wa_iload {i : Nat} {x : Int32} (hdg : decode cc pc = .ok (.iload i, 2)) (j : Nat) (hj : lv[j]? = some (i, .int x)) (h : WA X ad ca L own cc nL ret d kc ks QF (pc + 2) lv (.int x :: st) M P) : WA X ad ca L own cc nL ret d kc ks QF pc lv (st) M P := by
  intro R p l e s m args below meth c H locs ls hR F w S hl
  exact lv_iload F.1 F.2.1 hdg (a_mp_at hl hj) (h R p l e s m args below meth c H locs ls hR F w S hl)
theorem wa_lload_n {k : Fin 4} {i : Nat} {x : Int64} (hdg : decode cc pc = .ok (.lload_n k, 1)) (j : Nat) (hi : (k : Nat) = i) (hj : lv[j]? = some (i, .long x)) (h : WA X ad ca L own cc nL ret d kc ks QF (pc + 1) lv (.long x :: st) M P) : WA X ad ca L own cc nL ret d kc ks QF pc lv (st) M P := by
  intro R p l e s m args below meth c H locs ls hR F w S hl
  exact lv_lload_n F.1 F.2.1 hdg hi (a_mp_at hl hj) (h R p l e s m args below meth c H locs ls hR F w S hl)
theorem wa_aload_n {k : Fin 4} {i : Nat} {x : Nat} (hdg : decode cc pc = .ok (.aload_n k, 1)) (j : Nat) (hi : (k : Nat) = i) (hj : lv[j]? = some (i, .ref x)) (h : WA X ad ca L own cc nL ret d kc ks QF (pc + 1) lv (.ref x :: st) M P) : WA X ad ca L own cc nL ret d kc ks QF pc lv (st) M P := by
  intro R p l e s m args below meth c H locs ls hR F w S hl
  exact lv_aload_n F.1 F.2.1 hdg hi (a_mp_at hl hj) (h R p l e s m args below meth c H locs ls hR F w S hl)
theorem wa_aload {i : Nat} {x : Nat} (hdg : decode cc pc = .ok (.aload i, 2)) (j : Nat) (hj : lv[j]? = some (i, .ref x)) (h : WA X ad ca L own cc nL ret d kc ks QF (pc + 2) lv (.ref x :: st) M P) : WA X ad ca L own cc nL ret d kc ks QF pc lv (st) M P := by
  intro R p l e s m args below meth c H locs ls hR F w S hl
  exact lv_aload F.1 F.2.1 hdg (a_mp_at hl hj) (h R p l e s m args below meth c H locs ls hR F w S hl)
theorem wa_dup {v : Value} (hdg : decode cc pc = .ok (.dup, 1)) (hv : v.category = 1) (h : WA X ad ca L own cc nL ret d kc ks QF (pc + 1) lv (v :: v :: st) M P) : WA X ad ca L own cc nL ret d kc ks QF pc lv (v :: st) M P := by
  intro R p l e s m args below meth c H locs ls hR F w S hl
  exact lv_dup F.1 F.2.1 hdg ((a_cv_cat ad v).trans hv) (h R p l e s m args below meth c H locs ls hR F w S hl)
theorem wa_pop {v : Value} (hdg : decode cc pc = .ok (.pop, 1)) (hv : v.category = 1) (h : WA X ad ca L own cc nL ret d kc ks QF (pc + 1) lv (st) M P) : WA X ad ca L own cc nL ret d kc ks QF pc lv (v :: st) M P := by
  intro R p l e s m args below meth c H locs ls hR F w S hl
  exact lv_pop F.1 F.2.1 hdg ((a_cv_cat ad v).trans hv) (h R p l e s m args below meth c H locs ls hR F w S hl)
theorem wa_dup2 {v u : Value} (hdg : decode cc pc = .ok (.dup2, 1)) (hv : v.category = 1) (hu : u.category = 1) (h : WA X ad ca L own cc nL ret d kc ks QF (pc + 1) lv (v :: u :: v :: u :: st) M P) : WA X ad ca L own cc nL ret d kc ks QF pc lv (v :: u :: st) M P := by
  intro R p l e s m args below meth c H locs ls hR F w S hl
  exact lv_dup2_11 F.1 F.2.1 hdg ((a_cv_cat ad v).trans hv) ((a_cv_cat ad u).trans hu) (h R p l e s m args below meth c H locs ls hR F w S hl)
theorem wa_istore  {i : Nat} {x : Int32} (hdg : decode cc pc = .ok (.istore i, 2))  (hn : Nat.blt (i) nL = true) (hl9 : (i, Value.int x) :: lv.filter (fun q => !(q.1 == i) && !(q.1 + 1 == i && q.2.category == 2)) = lv') (h : WA X ad ca L own cc nL ret d kc ks QF (pc + 2) lv' (st) M P) : WA X ad ca L own cc nL ret d kc ks QF pc lv (.int x :: st) M P := by
  intro R p l e s m args below meth c H locs ls hR F w S hl
  refine lv_istore F.1 F.2.1 hdg  hl (Nat.blt_eq.mp hn) rfl (fun ls' hl' => h R p l e s m args below meth c H locs ls' hR F w S ?_)
  rw [a_mp_filter ad lv _ (fun q => by simp only [a_cv_cat])] at hl'
  rw [← hl9]
  exact hl'
theorem wa_istore_n {k : Fin 4} {i : Nat} {x : Int32} (hdg : decode cc pc = .ok (.istore_n k, 1)) (hi : (k : Nat) = i) (hn : Nat.blt (i) nL = true) (hl9 : (i, Value.int x) :: lv.filter (fun q => !(q.1 == i) && !(q.1 + 1 == i && q.2.category == 2)) = lv') (h : WA X ad ca L own cc nL ret d kc ks QF (pc + 1) lv' (st) M P) : WA X ad ca L own cc nL ret d kc ks QF pc lv (.int x :: st) M P := by
  intro R p l e s m args below meth c H locs ls hR F w S hl
  refine lv_istore_n F.1 F.2.1 hdg hi hl (Nat.blt_eq.mp hn) rfl (fun ls' hl' => h R p l e s m args below meth c H locs ls' hR F w S ?_)
  rw [a_mp_filter ad lv _ (fun q => by simp only [a_cv_cat])] at hl'
  rw [← hl9]
  exact hl'
theorem wa_astore  {i : Nat} {x : Nat} (hdg : decode cc pc = .ok (.astore i, 2))  (hn : Nat.blt (i) nL = true) (hl9 : (i, Value.ref x) :: lv.filter (fun q => !(q.1 == i) && !(q.1 + 1 == i && q.2.category == 2)) = lv') (h : WA X ad ca L own cc nL ret d kc ks QF (pc + 2) lv' (st) M P) : WA X ad ca L own cc nL ret d kc ks QF pc lv (.ref x :: st) M P := by
  intro R p l e s m args below meth c H locs ls hR F w S hl
  refine lv_astore F.1 F.2.1 hdg  hl (Nat.blt_eq.mp hn) rfl (fun ls' hl' => h R p l e s m args below meth c H locs ls' hR F w S ?_)
  rw [a_mp_filter ad lv _ (fun q => by simp only [a_cv_cat])] at hl'
  rw [← hl9]
  exact hl'
theorem wa_astore_n {k : Fin 4} {i : Nat} {x : Nat} (hdg : decode cc pc = .ok (.astore_n k, 1)) (hi : (k : Nat) = i) (hn : Nat.blt (i) nL = true) (hl9 : (i, Value.ref x) :: lv.filter (fun q => !(q.1 == i) && !(q.1 + 1 == i && q.2.category == 2)) = lv') (h : WA X ad ca L own cc nL ret d kc ks QF (pc + 1) lv' (st) M P) : WA X ad ca L own cc nL ret d kc ks QF pc lv (.ref x :: st) M P := by
  intro R p l e s m args below meth c H locs ls hR F w S hl
  refine lv_astore_n F.1 F.2.1 hdg hi hl (Nat.blt_eq.mp hn) rfl (fun ls' hl' => h R p l e s m args below meth c H locs ls' hR F w S ?_)
  rw [a_mp_filter ad lv _ (fun q => by simp only [a_cv_cat])] at hl'
  rw [← hl9]
  exact hl'
theorem wa_lstore_n {k : Fin 4} {i : Nat} {x : Int64} (hdg : decode cc pc = .ok (.lstore_n k, 1)) (hi : (k : Nat) = i) (hn : Nat.blt (i + 1) nL = true) (hl9 : (i, Value.long x) :: lv.filter (fun q => !(q.1 == i) && (!(q.1 == i + 1) && !(q.1 + 1 == i && q.2.category == 2))) = lv') (h : WA X ad ca L own cc nL ret d kc ks QF (pc + 1) lv' (st) M P) : WA X ad ca L own cc nL ret d kc ks QF pc lv (.long x :: st) M P := by
  intro R p l e s m args below meth c H locs ls hR F w S hl
  refine lv_lstore_n F.1 F.2.1 hdg hi hl (Nat.blt_eq.mp hn) rfl (fun ls' hl' => h R p l e s m args below meth c H locs ls' hR F w S ?_)
  rw [a_mp_filter ad lv _ (fun q => by simp only [a_cv_cat])] at hl'
  rw [← hl9]
  exact hl'
theorem wa_iinc {i : Nat} {n : Int} {x v : Int32} (hdg : decode cc pc = .ok (.iinc i n, 3)) (j : Nat) (hj : lv[j]? = some (i, .int x)) (hv : x + Int32.ofInt n = v) (hn : Nat.blt i nL = true) (hl9 : (i, Value.int v) :: lv.filter (fun q => !(q.1 == i) && !(q.1 + 1 == i && q.2.category == 2)) = lv') (h : WA X ad ca L own cc nL ret d kc ks QF (pc + 3) lv' (st) M P) : WA X ad ca L own cc nL ret d kc ks QF pc lv (st) M P := by
  intro R p l e s m args below meth c H locs ls hR F w S hl
  have hj' : (a_mp ad lv)[j]? = some (i, .int x) := by unfold a_mp; rw [List.getElem?_map, hj]; rfl
  refine lv_iinc F.1 F.2.1 hdg hl hj' hv (Nat.blt_eq.mp hn) rfl (fun ls' hl' => h R p l e s m args below meth c H locs ls' hR F w S ?_)
  rw [a_mp_filter ad lv _ (fun q => by simp only [a_cv_cat])] at hl'
  rw [← hl9]
  exact hl'
theorem wa_icmp_eq {x y : Int32} {off : Int} {tgt : Nat} (hdg : decode cc pc = .ok (.if_icmp .eq off, 3)) (ht : (pc : Int) + off = (tgt : Int)) (kt : x = y → WA X ad ca L own cc nL ret d kc ks QF tgt lv (st) M P) (kf : ¬ x = y → WA X ad ca L own cc nL ret d kc ks QF (pc + 3) lv (st) M P) : WA X ad ca L own cc nL ret d kc ks QF pc lv (.int y :: .int x :: st) M P := by
  intro R p l e s m args below meth c H locs ls hR F w S hl
  exact lv_icmp_eq F.1 F.2.1 hdg ht (fun hc => kt hc R p l e s m args below meth c H locs ls hR F w S hl) (fun hc => kf hc R p l e s m args below meth c H locs ls hR F w S hl)
theorem wa_if_eq {x : Int32} {off : Int} {tgt : Nat} (hdg : decode cc pc = .ok (.ifCond .eq off, 3)) (ht : (pc : Int) + off = (tgt : Int)) (kt : x = 0 → WA X ad ca L own cc nL ret d kc ks QF tgt lv (st) M P) (kf : ¬ x = 0 → WA X ad ca L own cc nL ret d kc ks QF (pc + 3) lv (st) M P) : WA X ad ca L own cc nL ret d kc ks QF pc lv (.int x :: st) M P := by
  intro R p l e s m args below meth c H locs ls hR F w S hl
  exact lv_if_eq F.1 F.2.1 hdg ht (fun hc => kt hc R p l e s m args below meth c H locs ls hR F w S hl) (fun hc => kf hc R p l e s m args below meth c H locs ls hR F w S hl)
theorem wa_icmp_ne {x y : Int32} {off : Int} {tgt : Nat} (hdg : decode cc pc = .ok (.if_icmp .ne off, 3)) (ht : (pc : Int) + off = (tgt : Int)) (kt : ¬ x = y → WA X ad ca L own cc nL ret d kc ks QF tgt lv (st) M P) (kf : x = y → WA X ad ca L own cc nL ret d kc ks QF (pc + 3) lv (st) M P) : WA X ad ca L own cc nL ret d kc ks QF pc lv (.int y :: .int x :: st) M P := by
  intro R p l e s m args below meth c H locs ls hR F w S hl
  exact lv_icmp_ne F.1 F.2.1 hdg ht (fun hc => kt hc R p l e s m args below meth c H locs ls hR F w S hl) (fun hc => kf hc R p l e s m args below meth c H locs ls hR F w S hl)
theorem wa_if_ne {x : Int32} {off : Int} {tgt : Nat} (hdg : decode cc pc = .ok (.ifCond .ne off, 3)) (ht : (pc : Int) + off = (tgt : Int)) (kt : ¬ x = 0 → WA X ad ca L own cc nL ret d kc ks QF tgt lv (st) M P) (kf : x = 0 → WA X ad ca L own cc nL ret d kc ks QF (pc + 3) lv (st) M P) : WA X ad ca L own cc nL ret d kc ks QF pc lv (.int x :: st) M P := by
  intro R p l e s m args below meth c H locs ls hR F w S hl
  exact lv_if_ne F.1 F.2.1 hdg ht (fun hc => kt hc R p l e s m args below meth c H locs ls hR F w S hl) (fun hc => kf hc R p l e s m args below meth c H locs ls hR F w S hl)
theorem wa_icmp_lt {x y : Int32} {off : Int} {tgt : Nat} (hdg : decode cc pc = .ok (.if_icmp .lt off, 3)) (ht : (pc : Int) + off = (tgt : Int)) (kt : x < y → WA X ad ca L own cc nL ret d kc ks QF tgt lv (st) M P) (kf : ¬ x < y → WA X ad ca L own cc nL ret d kc ks QF (pc + 3) lv (st) M P) : WA X ad ca L own cc nL ret d kc ks QF pc lv (.int y :: .int x :: st) M P := by
  intro R p l e s m args below meth c H locs ls hR F w S hl
  exact lv_icmp_lt F.1 F.2.1 hdg ht (fun hc => kt hc R p l e s m args below meth c H locs ls hR F w S hl) (fun hc => kf hc R p l e s m args below meth c H locs ls hR F w S hl)
theorem wa_if_lt {x : Int32} {off : Int} {tgt : Nat} (hdg : decode cc pc = .ok (.ifCond .lt off, 3)) (ht : (pc : Int) + off = (tgt : Int)) (kt : x < 0 → WA X ad ca L own cc nL ret d kc ks QF tgt lv (st) M P) (kf : ¬ x < 0 → WA X ad ca L own cc nL ret d kc ks QF (pc + 3) lv (st) M P) : WA X ad ca L own cc nL ret d kc ks QF pc lv (.int x :: st) M P := by
  intro R p l e s m args below meth c H locs ls hR F w S hl
  exact lv_if_lt F.1 F.2.1 hdg ht (fun hc => kt hc R p l e s m args below meth c H locs ls hR F w S hl) (fun hc => kf hc R p l e s m args below meth c H locs ls hR F w S hl)
theorem wa_icmp_ge {x y : Int32} {off : Int} {tgt : Nat} (hdg : decode cc pc = .ok (.if_icmp .ge off, 3)) (ht : (pc : Int) + off = (tgt : Int)) (kt : y ≤ x → WA X ad ca L own cc nL ret d kc ks QF tgt lv (st) M P) (kf : ¬ y ≤ x → WA X ad ca L own cc nL ret d kc ks QF (pc + 3) lv (st) M P) : WA X ad ca L own cc nL ret d kc ks QF pc lv (.int y :: .int x :: st) M P := by
  intro R p l e s m args below meth c H locs ls hR F w S hl
  exact lv_icmp_ge F.1 F.2.1 hdg ht (fun hc => kt hc R p l e s m args below meth c H locs ls hR F w S hl) (fun hc => kf hc R p l e s m args below meth c H locs ls hR F w S hl)
theorem wa_if_ge {x : Int32} {off : Int} {tgt : Nat} (hdg : decode cc pc = .ok (.ifCond .ge off, 3)) (ht : (pc : Int) + off = (tgt : Int)) (kt : 0 ≤ x → WA X ad ca L own cc nL ret d kc ks QF tgt lv (st) M P) (kf : ¬ 0 ≤ x → WA X ad ca L own cc nL ret d kc ks QF (pc + 3) lv (st) M P) : WA X ad ca L own cc nL ret d kc ks QF pc lv (.int x :: st) M P := by
  intro R p l e s m args below meth c H locs ls hR F w S hl
  exact lv_if_ge F.1 F.2.1 hdg ht (fun hc => kt hc R p l e s m args below meth c H locs ls hR F w S hl) (fun hc => kf hc R p l e s m args below meth c H locs ls hR F w S hl)
theorem wa_icmp_gt {x y : Int32} {off : Int} {tgt : Nat} (hdg : decode cc pc = .ok (.if_icmp .gt off, 3)) (ht : (pc : Int) + off = (tgt : Int)) (kt : y < x → WA X ad ca L own cc nL ret d kc ks QF tgt lv (st) M P) (kf : ¬ y < x → WA X ad ca L own cc nL ret d kc ks QF (pc + 3) lv (st) M P) : WA X ad ca L own cc nL ret d kc ks QF pc lv (.int y :: .int x :: st) M P := by
  intro R p l e s m args below meth c H locs ls hR F w S hl
  exact lv_icmp_gt F.1 F.2.1 hdg ht (fun hc => kt hc R p l e s m args below meth c H locs ls hR F w S hl) (fun hc => kf hc R p l e s m args below meth c H locs ls hR F w S hl)
theorem wa_if_gt {x : Int32} {off : Int} {tgt : Nat} (hdg : decode cc pc = .ok (.ifCond .gt off, 3)) (ht : (pc : Int) + off = (tgt : Int)) (kt : 0 < x → WA X ad ca L own cc nL ret d kc ks QF tgt lv (st) M P) (kf : ¬ 0 < x → WA X ad ca L own cc nL ret d kc ks QF (pc + 3) lv (st) M P) : WA X ad ca L own cc nL ret d kc ks QF pc lv (.int x :: st) M P := by
  intro R p l e s m args below meth c H locs ls hR F w S hl
  exact lv_if_gt F.1 F.2.1 hdg ht (fun hc => kt hc R p l e s m args below meth c H locs ls hR F w S hl) (fun hc => kf hc R p l e s m args below meth c H locs ls hR F w S hl)
theorem wa_icmp_le {x y : Int32} {off : Int} {tgt : Nat} (hdg : decode cc pc = .ok (.if_icmp .le off, 3)) (ht : (pc : Int) + off = (tgt : Int)) (kt : x ≤ y → WA X ad ca L own cc nL ret d kc ks QF tgt lv (st) M P) (kf : ¬ x ≤ y → WA X ad ca L own cc nL ret d kc ks QF (pc + 3) lv (st) M P) : WA X ad ca L own cc nL ret d kc ks QF pc lv (.int y :: .int x :: st) M P := by
  intro R p l e s m args below meth c H locs ls hR F w S hl
  exact lv_icmp_le F.1 F.2.1 hdg ht (fun hc => kt hc R p l e s m args below meth c H locs ls hR F w S hl) (fun hc => kf hc R p l e s m args below meth c H locs ls hR F w S hl)
theorem wa_if_le {x : Int32} {off : Int} {tgt : Nat} (hdg : decode cc pc = .ok (.ifCond .le off, 3)) (ht : (pc : Int) + off = (tgt : Int)) (kt : x ≤ 0 → WA X ad ca L own cc nL ret d kc ks QF tgt lv (st) M P) (kf : ¬ x ≤ 0 → WA X ad ca L own cc nL ret d kc ks QF (pc + 3) lv (st) M P) : WA X ad ca L own cc nL ret d kc ks QF pc lv (.int x :: st) M P := by
  intro R p l e s m args below meth c H locs ls hR F w S hl
  exact lv_if_le F.1 F.2.1 hdg ht (fun hc => kt hc R p l e s m args below meth c H locs ls hR F w S hl) (fun hc => kf hc R p l e s m args below meth c H locs ls hR F w S hl)
theorem wa_goto {off : Int} {tgt : Nat} (hdg : decode cc pc = .ok (.goto off, 3)) (ht : (pc : Int) + off = (tgt : Int)) (h : WA X ad ca L own cc nL ret d kc ks QF tgt lv (st) M P) : WA X ad ca L own cc nL ret d kc ks QF pc lv (st) M P := by
  intro R p l e s m args below meth c H locs ls hR F w S hl
  exact lv_goto F.1 F.2.1 hdg ht (h R p l e s m args below meth c H locs ls hR F w S hl)
theorem wa_tableIn {dflt lo hi off : Int} {offs : Array Int} {len tgt : Nat} {x : Int32} (hdg : decode cc pc = .ok (.tableswitch dflt lo hi offs, len)) (h1 : ¬ x.toInt < lo) (h2 : ¬ hi < x.toInt) (ho : offs[(x.toInt - lo).toNat]? = some off) (ht : (pc : Int) + off = (tgt : Int)) (h : WA X ad ca L own cc nL ret d kc ks QF tgt lv (st) M P) : WA X ad ca L own cc nL ret d kc ks QF pc lv (.int x :: st) M P := by
  intro R p l e s m args below meth c H locs ls hR F w S hl
  exact lv_tableIn F.1 F.2.1 hdg h1 h2 ho ht (h R p l e s m args below meth c H locs ls hR F w S hl)
theorem wa_tableOut {dflt lo hi : Int} {offs : Array Int} {len tgt : Nat} {x : Int32} (hdg : decode cc pc = .ok (.tableswitch dflt lo hi offs, len)) (h1 : x.toInt < lo ∨ hi < x.toInt) (ht : (pc : Int) + dflt = (tgt : Int)) (h : WA X ad ca L own cc nL ret d kc ks QF tgt lv (st) M P) : WA X ad ca L own cc nL ret d kc ks QF pc lv (.int x :: st) M P := by
  intro R p l e s m args below meth c H locs ls hR F w S hl
  exact lv_tableOut F.1 F.2.1 hdg h1 ht (h R p l e s m args below meth c H locs ls hR F w S hl)
theorem wa_lookup {dflt : Int} {ps : Array (Int × Int)} {len tgt : Nat} {x : Int32} {off : Int} (hdg : decode cc pc = .ok (.lookupswitch dflt ps, len)) (hp : (ps.toList.zip (ps.toList.drop 1)).all (fun (a, next) => a.1 < next.1) = true) (ho : Op.lookupswitch.offset ps.toList dflt x.toInt = off) (ht : (pc : Int) + off = (tgt : Int)) (h : WA X ad ca L own cc nL ret d kc ks QF tgt lv (st) M P) : WA X ad ca L own cc nL ret d kc ks QF pc lv (.int x :: st) M P := by
  intro R p l e s m args below meth c H locs ls hR F w S hl
  exact lv_lookup F.1 F.2.1 hdg hp ho ht (h R p l e s m args below meth c H locs ls hR F w S hl)
theorem wa_ldc {index : Nat} {v : Int32} (hdg : decode cc pc = .ok (.ldc index, 2)) (hk : Cond.constant own index v ∈ a_tb) (h : WA X ad ca L own cc nL ret d kc ks QF (pc + 2) lv (.int v :: st) M P) : WA X ad ca L own cc nL ret d kc ks QF pc lv (st) M P := by
  intro R p l e s m args below meth c H locs ls hR F w S hl
  exact lv_ldc F.1 F.2.1 F.2.2.2.2.1 (F.2.2.2.2.2.1 _ hk) hdg (h R p l e s m args below meth c H locs ls hR F w S hl)
theorem wa_ldc2 {index : Nat} {v : Int64} (hdg : decode cc pc = .ok (.ldc2_w index, 3)) (hk : Cond.constantLong own index v ∈ a_tb) (h : WA X ad ca L own cc nL ret d kc ks QF (pc + 3) lv (.long v :: st) M P) : WA X ad ca L own cc nL ret d kc ks QF pc lv (st) M P := by
  intro R p l e s m args below meth c H locs ls hR F w S hl
  exact lv_ldc2 F.1 F.2.1 F.2.2.2.2.1 (F.2.2.2.2.2.1 _ hk) hdg (h R p l e s m args below meth c H locs ls hR F w S hl)
theorem wa_geti {o ci k N idx : Nat} (hdg : decode cc pc = .ok (.getfield idx, 3)) (hf : a_FL own idx ci k N) (hr : a_rf ci k = false) (hL : L[o]? = some (ci, N)) (h : WA X ad ca L own cc nL ret d kc ks QF (pc + 3) lv (.int (M o k) :: st) M P) : WA X ad ca L own cc nL ret d kc ks QF pc lv (.ref o :: st) M P := by
  intro R p l e s m args below meth c H locs ls hR F w S hl
  obtain ⟨C, T, ⟨hc, h50, hin, -, -⟩, hk, hlk⟩ := hf
  have he := a_c_at (ad := ad) (ca := ca) (M := M) (P := P) hL
  rw [a_e_obj h50] at he
  refine va_get (D := X.1) (cl := a_cls) (tys := []) (ci := ci) (v := .int (M o k)) (C := C) (T := T) (N := N) F.1 F.2.1 F.2.2.2.2.2.1 hin F.2.2.2.2.1 F.2.2.2.2.2.2.1.1 w.1 o he hc k hk (F.2.2.2.2.2.1 _ hlk) (fun _ h9 => h9) ?_ hdg (h R p l e s m args below meth c H locs ls hR F w S hl)
  rw [List.getElem?_map, List.getElem?_range hk, Option.map_some]
  unfold a_fv
  rw [hr]
  rfl
theorem wa_getr {o ci k N idx r : Nat} (hdg : decode cc pc = .ok (.getfield idx, 3)) (hf : a_FL own idx ci k N) (hr : a_rf ci k = true) (hL : L[o]? = some (ci, N)) (hp : P o k = r + 1) (h : WA X ad ca L own cc nL ret d kc ks QF (pc + 3) lv (.ref r :: st) M P) : WA X ad ca L own cc nL ret d kc ks QF pc lv (.ref o :: st) M P := by
  intro R p l e s m args below meth c H locs ls hR F w S hl
  obtain ⟨C, T, ⟨hc, h50, hin, -, -⟩, hk, hlk⟩ := hf
  have he := a_c_at (ad := ad) (ca := ca) (M := M) (P := P) hL
  rw [a_e_obj h50] at he
  refine va_get (D := X.1) (cl := a_cls) (tys := []) (ci := ci) (v := .ref (ad r)) (C := C) (T := T) (N := N) F.1 F.2.1 F.2.2.2.2.2.1 hin F.2.2.2.2.1 F.2.2.2.2.2.2.1.1 w.1 o he hc k hk (F.2.2.2.2.2.1 _ hlk) (fun _ h9 => h9) ?_ hdg (h R p l e s m args below meth c H locs ls hR F w S hl)
  rw [List.getElem?_map, List.getElem?_range hk, Option.map_some]
  unfold a_fv
  rw [hr, hp]
  rfl
theorem wa_puti {o ci k N idx : Nat} {x : Int32} (hdg : decode cc pc = .ok (.putfield idx, 3)) (hf : a_FL own idx ci k N) (hm : a_FM ci k) (hr : a_rf ci k = false) (hL : L[o]? = some (ci, N)) (hn : narrow (a_ty ci k) (.int x) = .int x) (hfit : fits (a_ty ci k) (.int x) = true) (h : WA X ad ca L own cc nL ret d kc ks QF (pc + 3) lv (st) (va_up M o (upd (M o) k x)) P) : WA X ad ca L own cc nL ret d kc ks QF pc lv (.int x :: .ref o :: st) M P := by
  intro R p l e s m args below meth c H locs ls hR F w S hl
  obtain ⟨C, T, ⟨hc, h50, hin, hty, hnm⟩, hk, hlk⟩ := hf
  have he := a_c_at (ad := ad) (ca := ca) (M := M) (P := P) hL
  rw [a_e_obj h50] at he
  refine va_put (D := X.1) (cl := a_cls) (tys := []) (ci := ci) (v := .int x) (ty := a_ty ci k) (C := C) (T := T) (N := N) F.1 F.2.1 F.2.2.2.2.2.1 hin (a_ty ci) hty hnm F.2.2.2.2.1 F.2.2.2.2.2.2.1.1 w.1 (a_D w.2) S o he hc k hk (F.2.2.2.2.2.1 _ hlk) (fun _ h9 => h9) (hm C T N hc) (hty k hk) hn hfit (by simpa using hk) hdg (fun H1 locs1 hP1 hD1 hS1 => h R p l e s m args below meth c H1 locs1 ls hR F ?_ hS1 hl)
  have hset : (a_c ad ca L M P).set o (ad o, .inr (ci, ((List.range N).map (a_fv ad M P ci o)).set k (.int x))) = a_c ad ca L (va_up M o (upd (M o) k x)) P := by
    rw [← a_c_set (ad := ad) (ca := ca) (M := M) (P := P) (M' := va_up M o (upd (M o) k x)) (P' := P) hL (fun i hi => by unfold va_up; rw [if_neg hi]) (fun i _ => rfl), a_e_obj h50, a_map_set]
    congr 4
    apply List.map_congr_left
    intro j _
    unfold a_fv
    by_cases e : j = k
    · subst e; rw [hr]; simp [va_up, upd]
    · simp [va_up, upd, e]
  rw [hset] at hP1 hD1
  exact ⟨hP1, hD1.1, fun _ _ _ => trivial⟩
theorem wa_putr {o ci k N idx r : Nat} (hdg : decode cc pc = .ok (.putfield idx, 3)) (hf : a_FL own idx ci k N) (hm : a_FM ci k) (hr : a_rf ci k = true) (hL : L[o]? = some (ci, N)) (hn : narrow (a_ty ci k) (.ref (ad r)) = .ref (ad r)) (hfit : fits (a_ty ci k) (.ref (ad r)) = true) (h : WA X ad ca L own cc nL ret d kc ks QF (pc + 3) lv (st) M (va_up P o (va_up (P o) k (r + 1)))) : WA X ad ca L own cc nL ret d kc ks QF pc lv (.ref r :: .ref o :: st) M P := by
  intro R p l e s m args below meth c H locs ls hR F w S hl
  obtain ⟨C, T, ⟨hc, h50, hin, hty, hnm⟩, hk, hlk⟩ := hf
  have he := a_c_at (ad := ad) (ca := ca) (M := M) (P := P) hL
  rw [a_e_obj h50] at he
  refine va_put (D := X.1) (cl := a_cls) (tys := []) (ci := ci) (v := .ref (ad r)) (ty := a_ty ci k) (C := C) (T := T) (N := N) F.1 F.2.1 F.2.2.2.2.2.1 hin (a_ty ci) hty hnm F.2.2.2.2.1 F.2.2.2.2.2.2.1.1 w.1 (a_D w.2) S o he hc k hk (F.2.2.2.2.2.1 _ hlk) (fun _ h9 => h9) (hm C T N hc) (hty k hk) hn hfit (by simpa using hk) hdg (fun H1 locs1 hP1 hD1 hS1 => h R p l e s m args below meth c H1 locs1 ls hR F ?_ hS1 hl)
  have hset : (a_c ad ca L M P).set o (ad o, .inr (ci, ((List.range N).map (a_fv ad M P ci o)).set k (.ref (ad r)))) = a_c ad ca L M (va_up P o (va_up (P o) k (r + 1))) := by
    rw [← a_c_set (ad := ad) (ca := ca) (M := M) (P := P) (M' := M) (P' := va_up P o (va_up (P o) k (r + 1))) hL (fun i _ => rfl) (fun i hi => by unfold va_up; rw [if_neg hi]), a_e_obj h50, a_map_set]
    congr 4
    apply List.map_congr_left
    intro j _
    unfold a_fv
    by_cases e : j = k
    · subst e; rw [hr]; simp [va_up, a_or, va_rf]
    · simp [va_up, e]
  rw [hset] at hP1 hD1
  exact ⟨hP1, hD1.1, fun _ _ _ => trivial⟩
theorem a_int_at {o n k : Nat} (hL : L[o]? = some (k, n)) (h1 : ¬ k < 50) (h2 : k < 102) : (a_c ad ca L M P)[o]? = some (ad o, .inl (ca o, n, .inl (M o))) := by
  rw [a_c_at hL, a_e_int h1 h2]
theorem a_set_int {o n k : Nat} {f : Nat → Int32} (hL : L[o]? = some (k, n)) (h1 : ¬ k < 50) (h2 : k < 102) : (a_c ad ca L M P).set o (ad o, .inl (ca o, n, .inl f)) = a_c ad ca L (va_up M o f) P := by
  rw [← a_c_set (ad := ad) (ca := ca) (M := M) (P := P) (M' := va_up M o f) (P' := P) hL (fun i hi => by unfold va_up; rw [if_neg hi]) (fun i _ => rfl), a_e_int h1 h2]
  simp [va_up]
theorem wa_iald {o n : Nat} {i : Int32} (hdg : decode cc pc = .ok (.iaload, 1)) (hL : L[o]? = some (100, n)) (hin : vp_in i n) (h : WA X ad ca L own cc nL ret d kc ks QF (pc + 1) lv (.int (M o i.toNatClampNeg) :: st) M P) : WA X ad ca L own cc nL ret d kc ks QF pc lv (.int i :: .ref o :: st) M P := by
  intro R p l e s m args below meth c H locs ls hR F w S hl
  exact va_iald (D := X.1) (cl := a_cls) (tys := [(ca o, .int)]) F.1 F.2.1 (F.2.2.2.2.2.2.1.K hL (by show 50 ≤ _; omega)) w.1 o 0 (a_int_at hL (by decide) (by decide)) rfl hin hdg (h R p l e s m args below meth c H locs ls hR F w S hl)
theorem wa_bald {o n : Nat} {i : Int32} (hdg : decode cc pc = .ok (.baload, 1)) (hL : L[o]? = some (101, n)) (hin : vp_in i n) (h : WA X ad ca L own cc nL ret d kc ks QF (pc + 1) lv (.int (M o i.toNatClampNeg) :: st) M P) : WA X ad ca L own cc nL ret d kc ks QF pc lv (.int i :: .ref o :: st) M P := by
  intro R p l e s m args below meth c H locs ls hR F w S hl
  exact va_bald (D := X.1) (cl := a_cls) (tys := [(ca o, .byte)]) F.1 F.2.1 (F.2.2.2.2.2.2.1.K hL (by show 50 ≤ _; omega)) w.1 o 0 (a_int_at hL (by decide) (by decide)) rfl hin hdg (h R p l e s m args below meth c H locs ls hR F w S hl)
theorem wa_iast {o n : Nat} {i x : Int32} (hdg : decode cc pc = .ok (.iastore, 1)) (hL : L[o]? = some (100, n)) (hin : vp_in i n) (h : WA X ad ca L own cc nL ret d kc ks QF (pc + 1) lv (st) (va_up M o (upd (M o) i.toNatClampNeg x)) P) : WA X ad ca L own cc nL ret d kc ks QF pc lv (.int x :: .int i :: .ref o :: st) M P := by
  intro R p l e s m args below meth c H locs ls hR F w S hl
  refine va_iast (D := X.1) (cl := a_cls) (tys := [(ca o, .int)]) F.1 F.2.1 (F.2.2.2.2.2.2.1.K hL (by show 50 ≤ _; omega)) w.1 (a_D w.2) S o 0 (a_int_at hL (by decide) (by decide)) rfl hin hdg (fun H1 locs1 hP1 hD1 hS1 => h R p l e s m args below meth c H1 locs1 ls hR F ?_ hS1 hl)
  rw [a_set_int hL (by decide) (by decide)] at hP1 hD1
  exact ⟨hP1, hD1.1, fun _ _ _ => trivial⟩
theorem wa_bast {o n : Nat} {i x : Int32} (hdg : decode cc pc = .ok (.bastore, 1)) (hL : L[o]? = some (101, n)) (hin : vp_in i n) (h : WA X ad ca L own cc nL ret d kc ks QF (pc + 1) lv (st) (va_up M o (upd (M o) i.toNatClampNeg (vp_nar .byte x))) P) : WA X ad ca L own cc nL ret d kc ks QF pc lv (.int x :: .int i :: .ref o :: st) M P := by
  intro R p l e s m args below meth c H locs ls hR F w S hl
  refine va_bast (D := X.1) (cl := a_cls) (tys := [(ca o, .byte)]) F.1 F.2.1 (F.2.2.2.2.2.2.1.K hL (by show 50 ≤ _; omega)) w.1 (a_D w.2) S o 0 (a_int_at hL (by decide) (by decide)) rfl hin hdg (fun H1 locs1 hP1 hD1 hS1 => h R p l e s m args below meth c H1 locs1 ls hR F ?_ hS1 hl)
  rw [a_set_int hL (by decide) (by decide)] at hP1 hD1
  exact ⟨hP1, hD1.1, fun _ _ _ => trivial⟩
theorem wa_alen {o n k : Nat} {v : Int32} (hdg : decode cc pc = .ok (.arraylength, 1)) (hL : L[o]? = some (k, n)) (hk : 50 ≤ k) (hv : Int32.ofNat n = v) (h : WA X ad ca L own cc nL ret d kc ks QF (pc + 1) lv (.int v :: st) M P) : WA X ad ca L own cc nL ret d kc ks QF pc lv (.ref o :: st) M P := by
  intro R p l e s m args below meth c H locs ls hR F w S hl
  have he := a_c_at (ad := ad) (ca := ca) (M := M) (P := P) hL
  unfold a_e at he
  rw [if_neg (by omega)] at he
  split at he
  · exact va_alen (D := X.1) (cl := a_cls) (tys := [(ca o, a_at k)]) F.1 F.2.1 (F.2.2.2.2.2.2.1.K hL hk) w.1 o 0 he rfl hv hdg (h R p l e s m args below meth c H locs ls hR F w S hl)
  · exact va_alen (D := X.1) (cl := a_cls) (tys := [(ca o, a_at k)]) F.1 F.2.1 (F.2.2.2.2.2.2.1.K hL hk) w.1 o 0 he rfl hv hdg (h R p l e s m args below meth c H locs ls hR F w S hl)
theorem wa_aald {o n k r : Nat} {i : Int32} (hdg : decode cc pc = .ok (.aaload, 1)) (hL : L[o]? = some (k, n)) (hk : 102 ≤ k) (hin : vp_in i n) (hp : P o i.toNatClampNeg = r + 1) (h : WA X ad ca L own cc nL ret d kc ks QF (pc + 1) lv (.ref r :: st) M P) : WA X ad ca L own cc nL ret d kc ks QF pc lv (.int i :: .ref o :: st) M P := by
  intro R p l e s m args below meth c H locs ls hR F w S hl
  have he := a_c_at (ad := ad) (ca := ca) (M := M) (P := P) hL
  rw [a_e_ref (by omega)] at he
  have hlt : i.toNatClampNeg < n := Nat.not_le.mp fun q => hin (Or.inr q)
  have hK := (F.2.2.2.2.2.2.1.2 o _ hL (by show 50 ≤ k; omega)).1
  have hty : (a_at k).isReference = true := by
    unfold a_at
    rw [if_neg (by omega), if_neg (by omega)]
    split <;> rfl
  refine W.aald (v := .ref (ad r)) (ty := a_at k) F.1 F.2.1 (w.1 o _ he) (hK n (fun j => va_rf (a_or ad (P o j)))) hty (fun q => by cases q) (by show ¬ (i < 0 ∨ (arrV _ _ _).slots.size ≤ _); rw [arrV_size]; exact hin) (by show (arrV _ _ _).slots[_]? = _; rw [arrV_read _ _ hlt]; show some (va_rf (a_or ad (P o i.toNatClampNeg))) = _; rw [hp]; rfl) rfl rfl hdg (h R p l e s m args below meth c H locs ls hR F w S hl)
theorem wa_sld {i : Int32} (hdg : decode cc pc = .ok (.iaload, 1)) (hin : vp_in i X.2.1.2.1) (h : WA X ad ca L own cc nL ret d kc ks QF (pc + 1) lv (.int (X.2.1.2.2 i.toNatClampNeg) :: st) M P) : WA X ad ca L own cc nL ret d kc ks QF pc lv (.int i :: .ref 1000000 :: st) M P := by
  intro R p l e s m args below meth c H locs ls hR F w S hl
  have hc := F.2.2.2.2.2.2.2.1
  have hz : a_cv ad (.ref 1000000) = .ref X.2.1.1 := by show Value.ref (ad 1000000) = _; rw [F.2.2.2.2.2.2.2.2.1.1]
  rw [List.map_cons, List.map_cons, hz]
  exact va_sld F.1 F.2.1 hc.1 hc.2.1 hc.2.2.1 S hin hdg (h R p l e s m args below meth c H locs ls hR F w S hl)
theorem wa_slen (hdg : decode cc pc = .ok (.arraylength, 1)) (h : WA X ad ca L own cc nL ret d kc ks QF (pc + 1) lv (.int (Int32.ofNat X.2.1.2.1) :: st) M P) : WA X ad ca L own cc nL ret d kc ks QF pc lv (.ref 1000000 :: st) M P := by
  intro R p l e s m args below meth c H locs ls hR F w S hl
  have hc := F.2.2.2.2.2.2.2.1
  have hz : a_cv ad (.ref 1000000) = .ref X.2.1.1 := by show Value.ref (ad 1000000) = _; rw [F.2.2.2.2.2.2.2.2.1.1]
  rw [List.map_cons, hz]
  exact va_slen F.1 F.2.1 hc.1 hc.2.1 hc.2.2.1 S hdg (h R p l e s m args below meth c H locs ls hR F w S hl)
theorem wa_iret {Post : Option Value → a_M → a_P → Prop} {x : Int32} {ty : FieldType} (hdg : decode cc pc = .ok (.ireturn, 1)) (hret : ret = some ty) (hn : narrow ty (.int x) = .int x) (h : Post (some (.int x)) M P) : WA X ad ca L own cc nL ret d 0 0 (a_E X ad ca L Post) pc lv [.int x] M P := by
  intro R p l e s m args below meth c H locs ls hR F w S hl
  have hlk : meth.locks = false := F.2.2.2.2.2.2.2.2.2
  exact W.zret F.1 F.2.1 (F.2.2.1.trans hret) hn (fun t ht hW => ⟨⟨some (.int x), M, P, rfl, h, by rw [ht]; exact w⟩, S.F ht⟩) S.2.2 hdg hlk
theorem wa_vret {Post : Option Value → a_M → a_P → Prop} (hdg : decode cc pc = .ok (.return_, 1)) (hret : ret = none) (h : Post none M P) : WA X ad ca L own cc nL ret d 0 0 (a_E X ad ca L Post) pc lv [] M P := by
  intro R p l e s m args below meth c H locs ls hR F w S hl
  have hlk : meth.locks = false := F.2.2.2.2.2.2.2.2.2
  exact W.vret F.1 F.2.1 (F.2.2.1.trans hret) (fun t ht hW => ⟨⟨none, M, P, rfl, h, by rw [ht]; exact w⟩, S.F ht⟩) S.2.2 hdg hlk
theorem wa_aret {Post : Option Value → a_M → a_P → Prop} {r : Nat} {ty : FieldType} (hdg : decode cc pc = .ok (.areturn, 1)) (hret : ret = some ty) (hty : (∃ n, ty = .object n) ∨ ∃ t, ty = .array t) (h : Post (some (.ref r)) M P) : WA X ad ca L own cc nL ret d 0 0 (a_E X ad ca L Post) pc lv [.ref r] M P := by
  intro R p l e s m args below meth c H locs ls hR F w S hl
  have hlk : meth.locks = false := F.2.2.2.2.2.2.2.2.2
  exact W.aret F.1 F.2.1 (F.2.2.1.trans hret) hty (Or.inr ⟨_, rfl⟩) (fun t ht hW => ⟨⟨some (.ref r), M, P, rfl, h, by rw [ht]; exact w⟩, S.F ht⟩) S.2.2 hdg hlk
end WAR
