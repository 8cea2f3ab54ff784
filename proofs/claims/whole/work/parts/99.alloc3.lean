/-! ALLOCATION 3: constructors and their contracts -/
abbrev b_rm (d KC KS : Nat) : Room := { frames := d, cells := KC, slots := KS, locals := 64 * d }
def a_QB (X : a_X) (ad0 : Nat → Nat) (ca0 : Nat → ClassId) (n0 n1 sz : Nat) (Post : a_M → a_P → Prop) : Array Value → State → Outcome → State → Prop := fun _ st o t =>
  (∃ (ad : Nat → Nat) (ca : Nat → ClassId) (M : a_M) (P : a_P), o = .returned none ∧ Post M P ∧ b_ok ad0 ad n0 n1 sz ∧ (∀ i, i < n0 → ca i = ca0 i) ∧ a_kd X ca (LY.take n1) t ∧ zN M P n1 ∧ a_wd X ad ca (LY.take n1) M P t.heap) ∧ va_F (a_A ad0 (LY.take n0) sz) st t
def a_PreB (X : a_X) (ad0 : Nat → Nat) (ca0 : Nat → ClassId) (n0 sz : Nat) (As : List Value) (M : a_M) (P : a_P) : Array Value → State → Prop := va_Pc (As.map (a_cv ad0)) (fun U => U.heap.size = sz ∧ a_wd X ad0 ca0 (LY.take n0) M P U.heap ∧ a_kd X ca0 (LY.take n0) U ∧ a_cx X (a_A ad0 (LY.take n0) sz) U U.heap ∧ a_sp X ad0 ∧ b_ov U ∧ zN M P n0 ∧ n0 ≤ 153)
def Mb (X : a_X) (ad0 : Nat → Nat) (ca0 : Nat → ClassId) (n0 d KC KS : Nat) (y : MethodName) (cc : ByteArray) (nL : Nat) (As : List Value) (M : a_M) (P : a_P) (n1 : Nat) (Post : a_M → a_P → Prop) : Prop :=
  ∀ (l : Launch) (sz : Nat), Met l y (a_ws y cc nL none) (b_rm d KC KS) (a_PreB X ad0 ca0 n0 sz As M P) (a_QB X ad0 ca0 n0 n1 sz Post) KC KS (a_A ad0 (LY.take n0) sz)
def a_EB (X : a_X) (ad0 : Nat → Nat) (ca0 : Nat → ClassId) (n0 n1 KC KS : Nat) (Post : a_M → a_P → Prop) : List Frame → Array Value → State → State → Prop := fun below args s => MQ below (a_QB X ad0 ca0 n0 n1 s.heap.size Post) args s KC KS (a_A ad0 (LY.take n0) s.heap.size)
theorem b_blind {X : a_X} {ad0 : Nat → Nat} {ca0 : Nat → ClassId} {n0 sz : Nat} {As : List Value} {M : a_M} {P : a_P} : FrameBlind (a_PreB X ad0 ca0 n0 sz As M P) := by
  intro a U g mk h
  obtain ⟨h0, h1, h2, h3, h4, h5, h6, h7⟩ := h
  exact ⟨h0, h1, h2, a_kd.moved (u := U) (U := U.calling g mk a) (Vm.Alike.refl U.vm) h3, a_cx.same (u := U) (U := U.calling g mk a) h4 rfl, h5, ⟨va_AO.moved (u := U) (U := U.calling g mk a) (Vm.Alike.refl U.vm) h6.1, va_AOA.moved (u := U) (U := U.calling g mk a) (Vm.Alike.refl U.vm) h6.2⟩, h7⟩
theorem b_ok.sub {ad0 ad : Nat → Nat} {n0 n sz sz1 q : Nat} (h : b_ok ad0 ad n0 n sz) (hs : sz ≤ sz1) (hq : a_A ad (LY.take n) sz1 q) : a_A ad0 (LY.take n0) sz q := by
  rcases hq with ⟨i, hi, rfl⟩ | hq
  · rw [tk_len h.2.1] at hi
    exact h.A hi
  · exact Or.inr (Nat.le_trans hs hq)
theorem b_ok.trans {ad0 ad ad1 : Nat → Nat} {n0 n n1 sz sz1 : Nat} (h : b_ok ad0 ad n0 n sz) (h1 : b_ok ad ad1 n n1 sz1) (hs : sz ≤ sz1) : b_ok ad0 ad1 n0 n1 sz := by
  obtain ⟨a1, a2, a3, a4⟩ := h
  obtain ⟨b1, b2, b3, b4⟩ := h1
  refine ⟨by omega, b2, fun i hi => ?_, fun i c1 c2 => ?_⟩
  · rw [b3 i (by omega), a3 i (by omega)]
  · by_cases c : i < n
    · rw [b3 i (Or.inl c)]; exact a4 i c1 c
    · exact Nat.le_trans hs (b4 i (by omega) c2)
theorem b_ok.sp {X : a_X} {ad0 ad : Nat → Nat} {n0 n sz : Nat} (h : b_ok ad0 ad n0 n sz) (hs : a_sp X ad0) : a_sp X ad := ⟨by rw [h.2.2.1 1000000 (by have := h.2.1; omega)]; exact hs.1, fun k => by rw [h.2.2.1 (2000000 + k) (by have := h.2.1; omega)]; exact hs.2.1 k, fun k => by rw [h.2.2.1 (2000100 + k) (by have := h.2.1; omega)]; exact hs.2.2 k⟩
section WNC
variable {X : a_X} {ad0 : Nat → Nat} {ca0 : Nat → ClassId} {n0 : Nat} {own : String} {cc : ByteArray} {nL : Nat} {ret : Option FieldType} {d KC KS kc ks n : Nat} {fi : Prop} {QF : List Frame → Array Value → State → State → Prop} {pc : Nat} {lv lv' : List (Nat × Value)} {st : List Value} {M : a_M} {P : a_P}
theorem n_pre {ad : Nat → Nat} {ca : Nat → ClassId} {As : List Value} {p : Program} {s : State} {m : MethodId} {args : Array Value} {meth : Method} {c : Code} {H : Heap} {locs : List Loc} (F : a_fx X ad0 ca0 (LY.take n0) own cc nL ret p s m args meth c) (hov : b_ov s) (hb : b_ok ad0 ad n0 n s.heap.size) (hk : a_kd X ca (LY.take n) s) (hz : zN M P n) (w : a_wd X ad ca (LY.take n) M P H) (S : va_S (a_A ad0 (LY.take n0) s.heap.size) s.heap H locs) : PreS s H (a_PreB X ad ca n H.size As M P) (As.map (a_cv ad)) := by
  refine ⟨b_blind, fun U hU hW => ⟨rfl, by rw [hU], by rw [hU]; exact w, hk.moved hW.alike, ?_, hb.sp F.2.2.2.2.2.2.2.2.1, ⟨va_AO.moved hW.alike hov.1, va_AOA.moved hW.alike hov.2⟩, hz, hb.2.1⟩⟩
  rw [hU]
  exact F.2.2.2.2.2.2.2.1.to hW S.1 S.2.1 (fun q hq => hb.sub S.1 hq)
theorem n_after {ad : Nat → Nat} {ca : Nat → ClassId} {Q : State → Prop} {R : Room} {p : Program} {l : Launch} {e : Env} {s : State} {m : MethodId} {args : Array Value} {below : List Frame} {meth : Method} {c : Code} {H : Heap} {locs : List Loc} {ls : Array Slot} {st0 rest : List Value} {arr : Array Value} {Post : a_M → a_P → Prop} {n1 KC9 KS9 : Nat}
    (hr : va_Run p l e R s m args below meth c H locs kc ks KC9 KS9 (F0 m pc ls st0) rest (a_QB X ad ca n n1 H.size Post arr) (a_A ad (LY.take n) H.size)) (S : va_S (a_A ad0 (LY.take n0) s.heap.size) s.heap H locs) (hb : b_ok ad0 ad n0 n s.heap.size)
    (kk : ∀ (ad1 : Nat → Nat) (ca1 : Nat → ClassId) (M1 : a_M) (P1 : a_P) (H1 : Heap) (locs1 : List Loc), Post M1 P1 → b_ok ad ad1 n n1 H.size → (∀ i, i < n → ca1 i = ca i) → a_kd X ca1 (LY.take n1) s → zN M1 P1 n1 → a_wd X ad1 ca1 (LY.take n1) M1 P1 H1 → va_S (a_A ad0 (LY.take n0) s.heap.size) s.heap H1 locs1 → W p l e R s m args below meth c H1 locs1 (kc + KC9) (ks + KS9) Q (F0 m (pc + 3) ls rest)) : W p l e R s m args below meth c H locs kc ks Q (F0 m pc ls st0) := by
  intro T hT X0
  obtain ⟨v, st₀, t, T', L0, h0, X', hL, e1, e2, ⟨⟨ad1, ca1, M1, P1, hv, hp, hb1, hc1, hkd, hzn, hw⟩, hz, hk⟩, stp⟩ := hr T hT X0
  cases hv
  rw [h0] at hz hk
  have hal : s.vm.Alike t.vm := by rw [← e2]; exact X'.warmed.alike
  obtain ⟨t2, a1, b1⟩ := kk ad1 ca1 M1 P1 T'.heap (locs ++ L0) hp hb1 hc1 (a_kd.moved hal.symm hkd) hzn (by rw [e1]; exact hw)
    ⟨Nat.le_trans S.1 (by rw [e1]; exact hz), fun q h1 h2 => by rw [e1, hk q (Nat.lt_of_lt_of_le h1 S.1) (fun z => h2 (hb.sub S.1 z))]; exact S.2.1 q h1 h2, fun q hq => by
      rcases List.mem_append.mp hq with h | h
      · exact S.2.2 q h
      · exact hb.sub S.1 (hL q h)⟩ T' rfl X'
  exact ⟨t2, stp t2 a1, b1⟩
theorem b_room {d9 nL9 KC9 KS9 : Nat} {R : Room} (hR : d ≤ R.frames ∧ 64 * d ≤ R.locals ∧ KC ≤ R.cells ∧ KS ≤ R.slots) (hd : Nat.blt d9 d = true) (hn : Nat.ble nL9 45 = true) : (b_rm d9 KC9 KS9).frames + 1 ≤ R.frames ∧ 8 + (nL9 + 11) + (b_rm d9 KC9 KS9).locals ≤ R.locals := by
  have h1 := Nat.blt_eq.mp hd
  have h2 := Nat.le_of_ble_eq_true hn
  exact ⟨by show d9 + 1 ≤ _; omega, by show 8 + (nL9 + 11) + 64 * d9 ≤ _; omega⟩
theorem wn_back {ad ad1 : Nat → Nat} {n1 H0 : Nat} {ls : Array Slot} (hb1 : b_ok ad ad1 n n1 H0) (hst : st.all (a_lo n) = true) (hlv : lv.all (fun q => a_lo n q.2) = true) (hl : lv_has ls nL (a_mp ad lv)) : st.map (a_cv ad1) = st.map (a_cv ad) ∧ lv_has ls nL (a_mp ad1 lv) := by
  have hn1 : n1 ≤ 1000 := by have := hb1.2.1; omega
  exact ⟨a_st_lo hb1.2.2.1 hn1 hst, by rw [a_mp_lo hb1.2.2.1 hn1 hlv]; exact hl⟩
/-- a constructor -/
theorem wn_ctor {y : MethodName} {o : Nat} {cc9 : ByteArray} {nL9 d9 na idx KC9 KS9 n1 : Nat} {Post : a_M → a_P → Prop} (As : List Value) (hdg : decode cc pc = .ok (.invokespecial idx, 3)) (hm : a_ML own idx y cc9 nL9 none na) (hlk : Cond.methodLink own idx y ∈ a_tb) (hin : Cond.instanceMethod y ∈ a_tb) (hy : y.name = "<init>") (hn : As.length = na) (hd : Nat.blt d9 d = true) (hc : Nat.ble ((st.map fun v => v.category).sum) 8 = true) {stk : List Value} (hs : As.reverse ++ (.ref o :: st) = stk) (hkc : Nat.ble (kc + KC9) KC = true) (hks : Nat.ble (ks + KS9) KS = true) (hst : st.all (a_lo n) = true) (hlv : lv.all (fun q => a_lo n q.2) = true)
    (hM : ∀ ad ca, Mb X ad ca n d9 KC9 KS9 y cc9 nL9 (.ref o :: As) M P n1 Post) (h : ∀ (M1 : a_M) (P1 : a_P), Post M1 P1 → WN X ad0 ca0 n0 own cc nL ret d KC KS (kc + KC9) (ks + KS9) n1 fi QF (pc + 3) lv st M1 P1) : WN X ad0 ca0 n0 own cc nL ret d KC KS kc ks n fi QF pc lv stk M P := by
  intro ad ca R p l e s m args below meth c H locs ls hR hI F hov hb hca hk9 hz w S hl
  have hp := n_pre (As := .ref o :: As) F hov hb hk9 hz w S
  have hkc' := Nat.le_of_ble_eq_true hkc
  have hks' := Nat.le_of_ble_eq_true hks
  rw [← hs, a_stk]
  refine n_after (va_runI (As := As.map (a_cv ad)) (rest := st.map (a_cv ad)) (b := ad o) (n := na) ⟨F.1, F.2.1, F.2.2.2.1, F.2.2.2.2.1, F.2.2.2.2.2.1⟩ (hM ad ca l H.size) ⟨callB_of na F.2.2.2.2.2.1 (a_goodB hm.1) rfl rfl rfl (F.2.2.2.2.2.1 _ hm.2.1) (F.2.2.2.2.2.1 _ hlk) hm.2.2.1 (b_room hR hd hm.2.2.2), hy, F.2.2.2.2.2.1 _ hin⟩ hp rfl (by rw [List.length_map]; exact hn) hl.1 rfl (lv_room (by rw [a_cats]; exact Nat.le_of_ble_eq_true hc)) hdg ⟨by omega, by omega⟩) S hb (fun ad1 ca1 M1 P1 H1 locs1 hp1 hb1 hc1 hkd hzn w1 S1 => ?_)
  obtain ⟨q1, q2⟩ := wn_back hb1 hst hlv hl
  have h9 := h M1 P1 hp1 ad1 ca1 R p l e s m args below meth c H1 locs1 ls hR hI F hov (hb.trans hb1 S.1) (fun i hi => by rw [hc1 i (by have := hb.1; omega)]; exact hca i hi) hkd hzn w1 S1 q2
  rw [q1] at h9
  exact h9
/-- a nest mate's -/
theorem wn_ctorN {y : MethodName} {host : String} {o : Nat} {cc9 : ByteArray} {nL9 d9 na idx KC9 KS9 n1 : Nat} {Post : a_M → a_P → Prop} (As : List Value) (hdg : decode cc pc = .ok (.invokespecial idx, 3)) (hm : a_ML own idx y cc9 nL9 none na) (hlk : Cond.methodLinkNest own idx y host ∈ lw_tbl) (hin : Cond.instanceMethod y ∈ a_tb) (hy : y.name = "<init>") (hn : As.length = na) (hd : Nat.blt d9 d = true) (hc : Nat.ble ((st.map fun v => v.category).sum) 8 = true) {stk : List Value} (hs : As.reverse ++ (.ref o :: st) = stk) (hkc : Nat.ble (kc + KC9) KC = true) (hks : Nat.ble (ks + KS9) KS = true) (hst : st.all (a_lo n) = true) (hlv : lv.all (fun q => a_lo n q.2) = true)
    (hM : ∀ ad ca, Mb X ad ca n d9 KC9 KS9 y cc9 nL9 (.ref o :: As) M P n1 Post) (h : ∀ (M1 : a_M) (P1 : a_P), Post M1 P1 → WN X ad0 ca0 n0 own cc nL ret d KC KS (kc + KC9) (ks + KS9) n1 fi QF (pc + 3) lv st M1 P1) : WN X ad0 ca0 n0 own cc nL ret d KC KS kc ks n fi QF pc lv stk M P := by
  intro ad ca R p l e s m args below meth c H locs ls hR hI F hov hb hca hk9 hz w S hl
  have hp := n_pre (As := .ref o :: As) F hov hb hk9 hz w S
  have hkc' := Nat.le_of_ble_eq_true hkc
  have hks' := Nat.le_of_ble_eq_true hks
  rw [← hs, a_stk]
  refine n_after (va_runIN (As := As.map (a_cv ad)) (rest := st.map (a_cv ad)) (b := ad o) (n := na) ⟨F.1, F.2.1, F.2.2.2.1, F.2.2.2.2.1, F.2.2.2.2.2.1⟩ (hM ad ca l H.size) ⟨va_cnB na F.2.2.2.2.2.1 (a_goodB hm.1) rfl rfl rfl (F.2.2.2.2.2.2.2.1.2.2.2.2.2.1 _ hlk rfl) (F.2.2.2.2.2.1 _ hm.2.1) hm.2.2.1 (b_room hR hd hm.2.2.2), hy, F.2.2.2.2.2.1 _ hin⟩ hp rfl (by rw [List.length_map]; exact hn) hl.1 rfl (lv_room (by rw [a_cats]; exact Nat.le_of_ble_eq_true hc)) hdg ⟨by omega, by omega⟩) S hb (fun ad1 ca1 M1 P1 H1 locs1 hp1 hb1 hc1 hkd hzn w1 S1 => ?_)
  obtain ⟨q1, q2⟩ := wn_back hb1 hst hlv hl
  have h9 := h M1 P1 hp1 ad1 ca1 R p l e s m args below meth c H1 locs1 ls hR hI F hov (hb.trans hb1 S.1) (fun i hi => by rw [hc1 i (by have := hb.1; omega)]; exact hca i hi) hkd hzn w1 S1 q2
  rw [q1] at h9
  exact h9
/-- a constructor's end -/
theorem wn_vret {Post : a_M → a_P → Prop} (hdg : decode cc pc = .ok (.return_, 1)) (hkc : Nat.ble kc KC = true) (hks : Nat.ble ks KS = true) (h : Post M P) : WN X ad0 ca0 n0 own cc nL none d KC KS kc ks n fi (a_EB X ad0 ca0 n0 n KC KS Post) pc lv [] M P := by
  intro ad ca R p l e s m args below meth c H locs ls hR hI F hov hb hca hk9 hz w S hl
  have hlk : meth.locks = false := F.2.2.2.2.2.2.2.2.2
  refine W.widen (k := KC) (n := KS) (Nat.le_of_ble_eq_true hkc) (Nat.le_of_ble_eq_true hks) ?_
  exact W.vret F.1 F.2.1 F.2.2.1 (fun t ht hW => ⟨⟨ad, ca, M, P, rfl, h, hb, hca, hk9.moved hW.alike, hz, by rw [ht]; exact w⟩, S.F ht⟩) S.2.2 hdg hlk
theorem Mb.of {y : MethodName} {As : List Value} {Post : a_M → a_P → Prop} {n1 : Nat} (hy : plainFor y = true) (hyn : y.name = "<init>") (hown : own = y.cls) (hlen : Nat.ble ((lg_sl As).length) nL = true) (hlv : lv_args 0 As = lv) (h : WN X ad0 ca0 n0 own cc nL none d KC KS 0 0 n0 True (a_EB X ad0 ca0 n0 n1 KC KS Post) 0 lv [] M P) : Mb X ad0 ca0 n0 d KC KS y cc nL As M P n1 Post := by
  intro l sz
  refine Met.ofWF (cc := cc) (maxL := nL) (ret := none) hy rfl ?_
  intro p e s m args below meth c s₁ B hml hv
  obtain ⟨rfl, hsz, hw, hk, hc, hsp, hov, hz, h153⟩ := hv
  have hts := atoms_spec (ws := a_ws y cc nL none) B.pre
  have hown' : s.vm.findClass y.cls = some m.cls := findClass_of_methodNamed B.named
  have hin : meth.name = "<init>" := by rw [← hyn]; exact (name_of_methodNamed B.named B.method).1
  subst hsz
  have hl := lv_entry (As.map (a_cv ad0)) (n := nL) (by rw [a_sl_len]; exact Nat.le_of_ble_eq_true hlen)
  rw [lg_entry_eq]
  rw [a_args, hlv] at hl
  exact h ad0 ca0 _ p l e s m _ below meth c s.heap [] _ ⟨Nat.le_refl _, Nat.le_refl _, Nat.le_refl _, Nat.le_refl _⟩ (fun _ => hin) ⟨B.exec, B.bytes, B.returns, hml, by rw [hown]; exact hown', fun w hw' => hts w (List.mem_cons_of_mem _ hw'), hk, hc, hsp, B.notSynchronized⟩ hov ⟨Nat.le_refl _, h153, fun _ _ => rfl, fun i h1 h2 => by omega⟩ (fun _ _ => rfl) hk hz hw va_S.rf hl
/-- a place of the texts' array -/
theorem wn_aast {o N r : Nat} {i : Int32} (hdg : decode cc pc = .ok (.aastore, 1)) (hL : LY[o]? = some (102, N)) (ho : o < n) (hLr : LY[r]? = some (7, 7)) (hr : r < n) (hin : vp_in i N) (h : WN X ad0 ca0 n0 own cc nL ret d KC KS kc ks n fi QF (pc + 1) lv st M (va_up P o (va_up (P o) i.toNatClampNeg (r + 1)))) : WN X ad0 ca0 n0 own cc nL ret d KC KS kc ks n fi QF pc lv (.ref r :: .int i :: .ref o :: st) M P := by
  intro ad ca R p l e s m args below meth c H locs ls hR hI F hov hb hca hk9 hz w S hl
  have he := a_c_at (ad := ad) (ca := ca) (M := M) (P := P) (tk_at hL ho)
  rw [a_e_ref (by decide)] at he
  have her := a_c_at (ad := ad) (ca := ca) (M := M) (P := P) (tk_at hLr hr)
  rw [a_e_obj (by decide)] at her
  refine va_astq (D := X.1) (cl := a_cls) (tys := [(ca o, a_at 102)]) (r := (RX7, TX7, 7)) F.1 F.2.1 (hk9.K (tk_at hL ho) (by show 50 ≤ 102; omega)) w.1 (n_D w.2 hb) S o 0 r 7 he rfl her rfl hin hdg (fun H1 locs1 hP1 hD1 hS1 => ?_)
  have hset : (a_c ad ca (LY.take n) M P).set o (ad o, .inl (ca o, N, .inr (.inr (.inr (.inr (va_up (fun j => a_or ad (P o j)) i.toNatClampNeg (some (ad r)))))))) = a_c ad ca (LY.take n) M (va_up P o (va_up (P o) i.toNatClampNeg (r + 1))) := by
    rw [← a_c_set (ad := ad) (ca := ca) (M := M) (P := P) (M' := M) (P' := va_up P o (va_up (P o) i.toNatClampNeg (r + 1))) (tk_at hL ho) (fun _ _ => rfl) (fun j hj => vn _ _ _ _ hj), a_e_ref (by decide)]
    have hf : (fun j => a_or ad (va_up P o (va_up (P o) i.toNatClampNeg (r + 1)) o j)) = va_up (fun j => a_or ad (P o j)) i.toNatClampNeg (some (ad r)) := funext fun j => by
      rw [vu]
      by_cases c : j = i.toNatClampNeg
      · rw [c, vu, vu]; rfl
      · rw [vn _ _ _ _ c, vn _ _ _ _ c]
    rw [hf]
  rw [hset] at hP1 hD1
  exact h ad ca R p l e s m args below meth c H1 locs1 ls hR hI F hov hb hca hk9 (hz.putr ho hr) ⟨hP1, hD1.1, fun _ _ _ => trivial⟩ hS1 hl
theorem n_preM {ad : Nat → Nat} {ca : Nat → ClassId} {As : List Value} {p : Program} {s : State} {m : MethodId} {args : Array Value} {meth : Method} {c : Code} {H : Heap} {locs : List Loc} (F : a_fx X ad0 ca0 (LY.take n0) own cc nL ret p s m args meth c) (hb : b_ok ad0 ad n0 n s.heap.size) (hk : a_kd X ca (LY.take n) s) (w : a_wd X ad ca (LY.take n) M P H) (S : va_S (a_A ad0 (LY.take n0) s.heap.size) s.heap H locs) : PreS s H (a_Pre X ad ca (LY.take n) H.size As M P) (As.map (a_cv ad)) := by
  refine ⟨a_blind, fun U hU hW => ⟨rfl, by rw [hU], by rw [hU]; exact w, hk.moved hW.alike, ?_, hb.sp F.2.2.2.2.2.2.2.2.1⟩⟩
  rw [hU]
  exact F.2.2.2.2.2.2.2.1.to hW S.1 S.2.1 (fun q hq => hb.sub S.1 hq)
theorem n_afterM {ad : Nat → Nat} {ca : Nat → ClassId} {Q : State → Prop} {R : Room} {p : Program} {l : Launch} {e : Env} {s : State} {m : MethodId} {args : Array Value} {below : List Frame} {meth : Method} {c : Code} {H : Heap} {locs : List Loc} {ls : Array Slot} {st0 rest : List Value} {arr : Array Value} {Post : Option Value → a_M → a_P → Prop}
    (hr : va_Run p l e R s m args below meth c H locs kc ks 0 0 (F0 m pc ls st0) rest (a_Q X ad ca (LY.take n) H.size Post arr) (a_A ad (LY.take n) H.size)) (S : va_S (a_A ad0 (LY.take n0) s.heap.size) s.heap H locs) (hb : b_ok ad0 ad n0 n s.heap.size)
    (kk : ∀ (r : Option Value) (M1 : a_M) (P1 : a_P) (H1 : Heap) (locs1 : List Loc), Post r M1 P1 → a_wd X ad ca (LY.take n) M1 P1 H1 → va_S (a_A ad0 (LY.take n0) s.heap.size) s.heap H1 locs1 → W p l e R s m args below meth c H1 locs1 kc ks Q (F0 m (pc + 3) ls ((r.map (a_cv ad)).toList ++ rest))) : W p l e R s m args below meth c H locs kc ks Q (F0 m pc ls st0) := by
  intro T hT X0
  obtain ⟨v, st₀, t, T', L0, h0, X', hL, e1, e2, ⟨⟨r, M1, P1, hv, hp, hw⟩, hz, hk⟩, stp⟩ := hr T hT X0
  cases hv
  rw [h0] at hz hk
  obtain ⟨t2, a1, b1⟩ := kk r M1 P1 T'.heap (locs ++ L0) hp (by rw [e1]; exact hw)
    ⟨Nat.le_trans S.1 (by rw [e1]; exact hz), fun q h1 h2 => by rw [e1, hk q (Nat.lt_of_lt_of_le h1 S.1) (fun z => h2 (hb.sub S.1 z))]; exact S.2.1 q h1 h2, fun q hq => by
      rcases List.mem_append.mp hq with h | h
      · exact S.2.2 q h
      · exact hb.sub S.1 (hL q h)⟩ T' rfl X'
  exact ⟨t2, stp t2 a1, b1⟩
/-- a static method that makes nothing -/
theorem wn_callS {y : MethodName} {cc9 : ByteArray} {nL9 d9 na idx : Nat} {ret9 : Option FieldType} {Post : Option Value → a_M → a_P → Prop} (As : List Value) (hdg : decode cc pc = .ok (.invokestatic idx, 3)) (hm : a_ML own idx y cc9 nL9 ret9 na) (hlk : Cond.methodLink own idx y ∈ a_tb) (hst : Cond.static y ∈ a_tb) (hn : As.length = na) (hd : Nat.blt d9 d = true) (hc : Nat.ble ((st.map fun v => v.category).sum) 8 = true) {stk : List Value} (hs : As.reverse ++ st = stk) (hkc : Nat.ble kc KC = true) (hks : Nat.ble ks KS = true)
    (hM : ∀ ad ca, Mt X ad ca (LY.take n) d9 y cc9 nL9 ret9 As M P Post) (hzn : ∀ r M1 P1, Post r M1 P1 → zN M P n → zN M1 P1 n) (h : ∀ (r : Option Value) (M1 : a_M) (P1 : a_P), Post r M1 P1 → WN X ad0 ca0 n0 own cc nL ret d KC KS kc ks n fi QF (pc + 3) lv (r.toList ++ st) M1 P1) : WN X ad0 ca0 n0 own cc nL ret d KC KS kc ks n fi QF pc lv stk M P := by
  intro ad ca R p l e s m args below meth c H locs ls hR hI F hov hb hca hk9 hz w S hl
  have hkc' := Nat.le_of_ble_eq_true hkc
  have hks' := Nat.le_of_ble_eq_true hks
  rw [← hs, a_stk]
  refine n_afterM (va_runS (As := As.map (a_cv ad)) (rest := st.map (a_cv ad)) (n := na) ⟨F.1, F.2.1, F.2.2.2.1, F.2.2.2.2.1, F.2.2.2.2.2.1⟩ (hM ad ca l H.size) ⟨callB_of na F.2.2.2.2.2.1 (a_goodB hm.1) rfl rfl rfl (F.2.2.2.2.2.1 _ hm.2.1) (F.2.2.2.2.2.1 _ hlk) hm.2.2.1 (b_room (KC9 := 0) (KS9 := 0) hR hd hm.2.2.2), F.2.2.2.2.2.1 _ hst⟩ (n_preM F hb hk9 w S) rfl (by rw [List.length_map]; exact hn) hl.1 rfl (lv_room (by rw [a_cats]; exact Nat.le_of_ble_eq_true hc)) hdg ⟨by omega, by omega⟩) S hb (fun r M1 P1 H1 locs1 hp w1 S1 => ?_)
  have h9 := h r M1 P1 hp ad ca R p l e s m args below meth c H1 locs1 ls hR hI F hov hb hca hk9 (hzn r M1 P1 hp hz) w1 S1 hl
  rw [List.map_append] at h9
  cases r <;> exact h9
/-- a method that makes nothing -/
theorem wn_callV {y : MethodName} {C : String} {T : u_T} {N ci o : Nat} {cc9 : ByteArray} {nL9 d9 na idx : Nat} {ret9 : Option FieldType} {Post : Option Value → a_M → a_P → Prop} (As : List Value) (hdg : decode cc pc = .ok (.invokevirtual idx, 3)) (hm : a_ML own idx y cc9 nL9 ret9 na) (hlk : Cond.methodLink own idx y ∈ a_tb) (hin : Cond.instanceMethod y ∈ a_tb) (hse : Cond.selects C y y ∈ a_tb) (hL : LY[o]? = some (ci, N)) (ho : o < n) (hcl : a_cls[ci]? = some (C, T, N)) (h50 : Nat.blt ci 50 = true) (hn : As.length = na) (hd : Nat.blt d9 d = true) (hc : Nat.ble ((st.map fun v => v.category).sum) 8 = true) {stk : List Value} (hs : As.reverse ++ (.ref o :: st) = stk) (hkc : Nat.ble kc KC = true) (hks : Nat.ble ks KS = true)
    (hM : ∀ ad ca, Mt X ad ca (LY.take n) d9 y cc9 nL9 ret9 (.ref o :: As) M P Post) (hzn : ∀ r M1 P1, Post r M1 P1 → zN M P n → zN M1 P1 n) (h : ∀ (r : Option Value) (M1 : a_M) (P1 : a_P), Post r M1 P1 → WN X ad0 ca0 n0 own cc nL ret d KC KS kc ks n fi QF (pc + 3) lv (r.toList ++ st) M1 P1) : WN X ad0 ca0 n0 own cc nL ret d KC KS kc ks n fi QF pc lv stk M P := by
  intro ad ca R p l e s m args below meth c H locs ls hR hI F hov hb hca hk9 hz w S hl
  have hkc' := Nat.le_of_ble_eq_true hkc
  have hks' := Nat.le_of_ble_eq_true hks
  have he := a_c_at (ad := ad) (ca := ca) (M := M) (P := P) (tk_at hL ho)
  rw [a_e_obj (Nat.blt_eq.mp h50)] at he
  have hp := n_preM (As := .ref o :: As) F hb hk9 w S
  rw [← hs, a_stk]
  refine n_afterM (va_runV (As := As.map (a_cv ad)) (rest := st.map (a_cv ad)) (b := ad o) (C := C) (n := na) ⟨F.1, F.2.1, F.2.2.2.1, F.2.2.2.2.1, F.2.2.2.2.2.1⟩ (hM ad ca l H.size) ⟨callB_of na F.2.2.2.2.2.1 (a_goodB hm.1) rfl rfl rfl (F.2.2.2.2.2.1 _ hm.2.1) (F.2.2.2.2.2.1 _ hlk) hm.2.2.1 (b_room (KC9 := 0) (KS9 := 0) hR hd hm.2.2.2), F.2.2.2.2.2.1 _ hin, F.2.2.2.2.2.1 _ hse⟩ ⟨hp.1, va_recv hk9.1 w.1 hcl he, hp.2⟩ rfl (by rw [List.length_map]; exact hn) hl.1 rfl (lv_room (by rw [a_cats]; exact Nat.le_of_ble_eq_true hc)) hdg ⟨by omega, by omega⟩) S hb (fun r M1 P1 H1 locs1 hp1 w1 S1 => ?_)
  have h9 := h r M1 P1 hp1 ad ca R p l e s m args below meth c H1 locs1 ls hR hI F hov hb hca hk9 (hzn r M1 P1 hp1 hz) w1 S1 hl
  rw [List.map_append] at h9
  cases r <;> exact h9
end WNC
