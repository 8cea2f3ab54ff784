/-! CALLS over the abstract state -/
theorem a_cx.same {X : a_X} {A : Nat → Prop} {u U : State} {H : Heap} (h : a_cx X A u H) (hv : U.vm = u.vm) : a_cx X A U H := by
  obtain ⟨h1, h2, h3, h4, h5, h6, h7, h8⟩ := h
  have hal : u.vm.Alike U.vm := by rw [hv]; exact Vm.Alike.refl u.vm
  refine ⟨h1.moved hal, h2, h3, h4.moved hal, fun k q hq => (h5 k q hq).same hv, fun w hw hn => ?_, h7.moved hal, h8.elim (fun h9 => Or.inl (h9.moved hal)) (fun ⟨t, h9⟩ => Or.inr ⟨t, h9.moved hal⟩)⟩
  cases w <;> first | (exact va_Nw.same rfl hv.symm (h6 _ hw hn)) | (cases hn)
theorem a_blind {X : a_X} {ad : Nat → Nat} {ca : Nat → ClassId} {L : a_L} {sz : Nat} {As : List Value} {M : a_M} {P : a_P} : FrameBlind (a_Pre X ad ca L sz As M P) := by
  intro a U g mk h
  obtain ⟨h0, h1, h2, h3, h4, h5⟩ := h
  exact ⟨h0, h1, h2, a_kd.moved (u := U) (U := U.calling g mk a) (Vm.Alike.refl U.vm) h3, a_cx.same (u := U) (U := U.calling g mk a) h4 rfl, h5⟩
section WAC
variable {X : a_X} {ad : Nat → Nat} {ca : Nat → ClassId} {L : a_L} {own : String} {cc : ByteArray} {nL : Nat} {ret : Option FieldType} {d kc ks : Nat} {QF : List Frame → Array Value → State → State → Prop} {pc : Nat} {lv lv' : List (Nat × Value)} {st : List Value} {M : a_M} {P : a_P}
theorem a_pre {As : List Value} {p : Program} {s : State} {m : MethodId} {args : Array Value} {meth : Method} {c : Code} {H : Heap} {locs : List Loc} (F : a_fx X ad ca L own cc nL ret p s m args meth c) (w : a_wd X ad ca L M P H) (S : va_S (a_A ad L s.heap.size) s.heap H locs) : PreS s H (a_Pre X ad ca L H.size As M P) (As.map (a_cv ad)) := by
  refine ⟨a_blind, fun U hU hW => ⟨rfl, by rw [hU], by rw [hU]; exact w, F.2.2.2.2.2.2.1.moved hW.alike, ?_, F.2.2.2.2.2.2.2.2.1⟩⟩
  rw [hU]
  exact F.2.2.2.2.2.2.2.1.to hW S.1 S.2.1 (fun q hq => a_A.mono S.1 hq)
theorem a_after {Q : State → Prop} {R : Room} {p : Program} {l : Launch} {e : Env} {s : State} {m : MethodId} {args : Array Value} {below : List Frame} {meth : Method} {c : Code} {H : Heap} {locs : List Loc} {ls : Array Slot} {st0 rest : List Value} {arr : Array Value} {Post : Option Value → a_M → a_P → Prop}
    (hr : va_Run p l e R s m args below meth c H locs kc ks 0 0 (F0 m pc ls st0) rest (a_Q X ad ca L H.size Post arr) (a_A ad L H.size)) (S : va_S (a_A ad L s.heap.size) s.heap H locs)
    (kk : ∀ (r : Option Value) (M1 : a_M) (P1 : a_P) (H1 : Heap) (locs1 : List Loc), Post r M1 P1 → a_wd X ad ca L M1 P1 H1 → va_S (a_A ad L s.heap.size) s.heap H1 locs1 → W p l e R s m args below meth c H1 locs1 kc ks Q (F0 m (pc + 3) ls ((r.map (a_cv ad)).toList ++ rest))) : W p l e R s m args below meth c H locs kc ks Q (F0 m pc ls st0) := by
  intro T hT X0
  obtain ⟨v, st₀, t, T', L0, h0, X', hL, e1, e2, ⟨⟨r, M1, P1, hv, hp, hw⟩, hz, hk⟩, stp⟩ := hr T hT X0
  cases hv
  rw [h0] at hz hk
  obtain ⟨t2, a1, b1⟩ := kk r M1 P1 T'.heap (locs ++ L0) hp (by rw [e1]; exact hw)
    ⟨Nat.le_trans S.1 (by rw [e1]; exact hz), fun q h1 h2 => by rw [e1, hk q (Nat.lt_of_lt_of_le h1 S.1) (fun z => h2 (a_A.mono S.1 z))]; exact S.2.1 q h1 h2, fun q hq => by
      rcases List.mem_append.mp hq with h | h
      · exact S.2.2 q h
      · exact a_A.mono S.1 (hL q h)⟩ T' rfl X'
  exact ⟨t2, stp t2 a1, b1⟩
theorem a_goodB {y : MethodName} {cc : ByteArray} {nL : Nat} {ret : Option FieldType} (h : Cond.code y cc nL ret ∈ a_tb) : GoodIn a_tb (a_ws y cc nL ret) := by
  intro w hw
  have hw' : w ∈ a_tb := by
    rcases List.mem_cons.mp hw with e | hw
    · rw [e]; exact h
    · exact hw
  exact ⟨hw', good_of_word (List.mem_filter.mp hw').2⟩
theorem a_room {d9 nL9 : Nat} {R : Room} (hR : d ≤ R.frames ∧ 64 * d ≤ R.locals ∧ kc ≤ R.cells ∧ ks ≤ R.slots) (hd : Nat.blt d9 d = true) (hn : Nat.ble nL9 45 = true) : (a_rm d9).frames + 1 ≤ R.frames ∧ 8 + (nL9 + 11) + (a_rm d9).locals ≤ R.locals := by
  have h1 := Nat.blt_eq.mp hd
  have h2 := Nat.le_of_ble_eq_true hn
  exact ⟨by show d9 + 1 ≤ _; omega, by show 8 + (nL9 + 11) + 64 * d9 ≤ _; omega⟩
theorem a_stk (ad : Nat → Nat) (As rest : List Value) : (As.reverse ++ rest).map (a_cv ad) = (As.map (a_cv ad)).reverse ++ rest.map (a_cv ad) := by rw [List.map_append, List.map_reverse]
theorem a_cats (ad : Nat → Nat) (rest : List Value) : ((rest.map (a_cv ad)).map fun v => v.category).sum = (rest.map fun v => v.category).sum := by
  rw [List.map_map]
  congr 1
  apply List.map_congr_left
  intro v _
  exact a_cv_cat ad v
/-- invokestatic -/
theorem wa_callS {y : MethodName} {cc9 : ByteArray} {nL9 d9 n idx : Nat} {ret9 : Option FieldType} {Post : Option Value → a_M → a_P → Prop} (As : List Value) (hdg : decode cc pc = .ok (.invokestatic idx, 3)) (hm : a_ML own idx y cc9 nL9 ret9 n) (hlk : Cond.methodLink own idx y ∈ a_tb) (hst : Cond.static y ∈ a_tb) (hn : As.length = n) (hd : Nat.blt d9 d = true) (hc : Nat.ble ((st.map fun v => v.category).sum) 8 = true) {stk : List Value} (hs : As.reverse ++ st = stk)
    (hM : Mt X ad ca L d9 y cc9 nL9 ret9 As M P Post) (h : ∀ (r : Option Value) (M1 : a_M) (P1 : a_P), Post r M1 P1 → WA X ad ca L own cc nL ret d kc ks QF (pc + 3) lv (r.toList ++ st) M1 P1) : WA X ad ca L own cc nL ret d kc ks QF pc lv stk M P := by
  intro R p l e s m args below meth c H locs ls hR F w S hl
  rw [← hs, a_stk]
  refine a_after (va_runS (As := As.map (a_cv ad)) (rest := st.map (a_cv ad)) (n := n) ⟨F.1, F.2.1, F.2.2.2.1, F.2.2.2.2.1, F.2.2.2.2.2.1⟩ (hM l H.size) ⟨callB_of n F.2.2.2.2.2.1 (a_goodB hm.1) rfl rfl rfl (F.2.2.2.2.2.1 _ hm.2.1) (F.2.2.2.2.2.1 _ hlk) hm.2.2.1 (a_room hR hd hm.2.2.2), F.2.2.2.2.2.1 _ hst⟩ (a_pre F w S) rfl (by rw [List.length_map]; exact hn) hl.1 rfl (lv_room (by rw [a_cats]; exact Nat.le_of_ble_eq_true hc)) hdg ⟨hR.2.2.1, hR.2.2.2⟩) S (fun r M1 P1 H1 locs1 hp w1 S1 => ?_)
  have h9 := h r M1 P1 hp R p l e s m args below meth c H1 locs1 ls hR F w1 S1 hl
  rw [List.map_append] at h9
  cases r <;> exact h9
/-- invokestatic of a nest mate's private method -/
theorem wa_callSN {y : MethodName} {host : String} {cc9 : ByteArray} {nL9 d9 n idx : Nat} {ret9 : Option FieldType} {Post : Option Value → a_M → a_P → Prop} (As : List Value) (hdg : decode cc pc = .ok (.invokestatic idx, 3)) (hm : a_ML own idx y cc9 nL9 ret9 n) (hlk : Cond.methodLinkNest own idx y host ∈ lw_tbl) (hst : Cond.static y ∈ a_tb) (hn : As.length = n) (hd : Nat.blt d9 d = true) (hc : Nat.ble ((st.map fun v => v.category).sum) 8 = true) {stk : List Value} (hs : As.reverse ++ st = stk)
    (hM : Mt X ad ca L d9 y cc9 nL9 ret9 As M P Post) (h : ∀ (r : Option Value) (M1 : a_M) (P1 : a_P), Post r M1 P1 → WA X ad ca L own cc nL ret d kc ks QF (pc + 3) lv (r.toList ++ st) M1 P1) : WA X ad ca L own cc nL ret d kc ks QF pc lv stk M P := by
  intro R p l e s m args below meth c H locs ls hR F w S hl
  rw [← hs, a_stk]
  refine a_after (va_runSN (As := As.map (a_cv ad)) (rest := st.map (a_cv ad)) (n := n) ⟨F.1, F.2.1, F.2.2.2.1, F.2.2.2.2.1, F.2.2.2.2.2.1⟩ (hM l H.size) ⟨va_cnB n F.2.2.2.2.2.1 (a_goodB hm.1) rfl rfl rfl (F.2.2.2.2.2.2.2.1.2.2.2.2.2.1 _ hlk rfl) (F.2.2.2.2.2.1 _ hm.2.1) hm.2.2.1 (a_room hR hd hm.2.2.2), F.2.2.2.2.2.1 _ hst, trivial⟩ (a_pre F w S) rfl (by rw [List.length_map]; exact hn) hl.1 rfl (lv_room (by rw [a_cats]; exact Nat.le_of_ble_eq_true hc)) hdg ⟨hR.2.2.1, hR.2.2.2⟩) S (fun r M1 P1 H1 locs1 hp w1 S1 => ?_)
  have h9 := h r M1 P1 hp R p l e s m args below meth c H1 locs1 ls hR F w1 S1 hl
  rw [List.map_append] at h9
  cases r <;> exact h9
/-- invokevirtual on an object of the world -/
theorem wa_callV {y : MethodName} {C : String} {T : u_T} {N ci o : Nat} {cc9 : ByteArray} {nL9 d9 n idx : Nat} {ret9 : Option FieldType} {Post : Option Value → a_M → a_P → Prop} (As : List Value) (hdg : decode cc pc = .ok (.invokevirtual idx, 3)) (hm : a_ML own idx y cc9 nL9 ret9 n) (hlk : Cond.methodLink own idx y ∈ a_tb) (hin : Cond.instanceMethod y ∈ a_tb) (hse : Cond.selects C y y ∈ a_tb) (hL : L[o]? = some (ci, N)) (hcl : a_cls[ci]? = some (C, T, N)) (h50 : Nat.blt ci 50 = true) (hn : As.length = n) (hd : Nat.blt d9 d = true) (hc : Nat.ble ((st.map fun v => v.category).sum) 8 = true) {stk : List Value} (hs : As.reverse ++ (.ref o :: st) = stk)
    (hM : Mt X ad ca L d9 y cc9 nL9 ret9 (.ref o :: As) M P Post) (h : ∀ (r : Option Value) (M1 : a_M) (P1 : a_P), Post r M1 P1 → WA X ad ca L own cc nL ret d kc ks QF (pc + 3) lv (r.toList ++ st) M1 P1) : WA X ad ca L own cc nL ret d kc ks QF pc lv stk M P := by
  intro R p l e s m args below meth c H locs ls hR F w S hl
  have he := a_c_at (ad := ad) (ca := ca) (M := M) (P := P) hL
  rw [a_e_obj (Nat.blt_eq.mp h50)] at he
  have hp := a_pre (As := .ref o :: As) F w S
  rw [← hs, a_stk]
  refine a_after (va_runV (As := As.map (a_cv ad)) (rest := st.map (a_cv ad)) (b := ad o) (C := C) (n := n) ⟨F.1, F.2.1, F.2.2.2.1, F.2.2.2.2.1, F.2.2.2.2.2.1⟩ (hM l H.size) ⟨callB_of n F.2.2.2.2.2.1 (a_goodB hm.1) rfl rfl rfl (F.2.2.2.2.2.1 _ hm.2.1) (F.2.2.2.2.2.1 _ hlk) hm.2.2.1 (a_room hR hd hm.2.2.2), F.2.2.2.2.2.1 _ hin, F.2.2.2.2.2.1 _ hse⟩ ⟨hp.1, va_recv F.2.2.2.2.2.2.1.1 w.1 hcl he, hp.2⟩ rfl (by rw [List.length_map]; exact hn) hl.1 rfl (lv_room (by rw [a_cats]; exact Nat.le_of_ble_eq_true hc)) hdg ⟨hR.2.2.1, hR.2.2.2⟩) S (fun r M1 P1 H1 locs1 hp1 w1 S1 => ?_)
  have h9 := h r M1 P1 hp1 R p l e s m args below meth c H1 locs1 ls hR F w1 S1 hl
  rw [List.map_append] at h9
  cases r <;> exact h9
/-- invokevirtual of a nest mate's private method -/
theorem wa_callVN {y : MethodName} {C host : String} {T : u_T} {N ci o : Nat} {cc9 : ByteArray} {nL9 d9 n idx : Nat} {ret9 : Option FieldType} {Post : Option Value → a_M → a_P → Prop} (As : List Value) (hdg : decode cc pc = .ok (.invokevirtual idx, 3)) (hm : a_ML own idx y cc9 nL9 ret9 n) (hlk : Cond.methodLinkNest own idx y host ∈ lw_tbl) (hin : Cond.instanceMethod y ∈ a_tb) (hse : Cond.selects C y y ∈ a_tb) (hL : L[o]? = some (ci, N)) (hcl : a_cls[ci]? = some (C, T, N)) (h50 : Nat.blt ci 50 = true) (hn : As.length = n) (hd : Nat.blt d9 d = true) (hc : Nat.ble ((st.map fun v => v.category).sum) 8 = true) {stk : List Value} (hs : As.reverse ++ (.ref o :: st) = stk)
    (hM : Mt X ad ca L d9 y cc9 nL9 ret9 (.ref o :: As) M P Post) (h : ∀ (r : Option Value) (M1 : a_M) (P1 : a_P), Post r M1 P1 → WA X ad ca L own cc nL ret d kc ks QF (pc + 3) lv (r.toList ++ st) M1 P1) : WA X ad ca L own cc nL ret d kc ks QF pc lv stk M P := by
  intro R p l e s m args below meth c H locs ls hR F w S hl
  have he := a_c_at (ad := ad) (ca := ca) (M := M) (P := P) hL
  rw [a_e_obj (Nat.blt_eq.mp h50)] at he
  have hp := a_pre (As := .ref o :: As) F w S
  rw [← hs, a_stk]
  refine a_after (va_runVN (As := As.map (a_cv ad)) (rest := st.map (a_cv ad)) (b := ad o) (C := C) (n := n) ⟨F.1, F.2.1, F.2.2.2.1, F.2.2.2.2.1, F.2.2.2.2.2.1⟩ (hM l H.size) ⟨va_cnB n F.2.2.2.2.2.1 (a_goodB hm.1) rfl rfl rfl (F.2.2.2.2.2.2.2.1.2.2.2.2.2.1 _ hlk rfl) (F.2.2.2.2.2.1 _ hm.2.1) hm.2.2.1 (a_room hR hd hm.2.2.2), F.2.2.2.2.2.1 _ hin, F.2.2.2.2.2.1 _ hse⟩ ⟨hp.1, va_recv F.2.2.2.2.2.2.1.1 w.1 hcl he, hp.2⟩ rfl (by rw [List.length_map]; exact hn) hl.1 rfl (lv_room (by rw [a_cats]; exact Nat.le_of_ble_eq_true hc)) hdg ⟨hR.2.2.1, hR.2.2.2⟩) S (fun r M1 P1 H1 locs1 hp1 w1 S1 => ?_)
  have h9 := h r M1 P1 hp1 R p l e s m args below meth c H1 locs1 ls hR F w1 S1 hl
  rw [List.map_append] at h9
  cases r <;> exact h9
theorem a_sl_len (ad : Nat → Nat) (As : List Value) : (lg_sl (As.map (a_cv ad))).length = (lg_sl As).length := by
  induction As with
  | nil => rfl
  | cons v t ih =>
    simp only [lg_sl, List.map_cons, List.flatMap_cons, List.length_append] at ih ⊢
    rw [ih, a_cv_cat]
    split <;> rfl
theorem a_args (ad : Nat → Nat) (As : List Value) : ∀ i, lv_args i (As.map (a_cv ad)) = a_mp ad (lv_args i As) := by
  induction As with
  | nil => intro i; rfl
  | cons v t ih =>
    intro i
    simp only [List.map_cons, lv_args, a_cv_cat]
    rw [ih]
    rfl
theorem Met.ofWF {l : Launch} {y : MethodName} {ws ws' : List Cond} {rm : Room} {Pc : Array Value → State → Prop} {Qc : Array Value → State → Outcome → State → Prop} {mc ms : Nat} {free : Addr → Prop} {cc : ByteArray} {maxL : Nat} {ret : Option FieldType}
    (hy : plainFor y = true) (hw : ws = Cond.code y cc maxL ret :: ws')
    (body : ∀ p e s m args below meth c s₁, BodyLoose p l y (headSpec ws rm) cc maxL ret e s m args below meth c s₁ → c.maxLocals = maxL → Pc args s →
      W p l e (headSpec ws rm).room s m args below meth c s.heap [] 0 0 (MQ below Qc args s mc ms free) (entryFrame m args maxL)) : Met l y ws rm Pc Qc mc ms free := by
  refine MetFree.of_bodySF (code := cc) (maxLocals := maxL) (ret := ret) hy ?_ ?_
  · intro args s m h hn
    obtain ⟨meth, c, h1, h2, h3, h4, h5, h6, -, -⟩ := Cond.code_spec hn (atoms_spec (ws := ws) h _ (by rw [hw]; exact List.mem_cons_self))
    exact ⟨meth, c, h1, h2, h3, h4, h5, h6⟩
  · intro p e s m args below meth c s₁ B hml hP _
    have hh0 : s₁.heap = s.heap := by rw [B.state]; rfl
    obtain ⟨t, a1, o, b1, b2, b3⟩ := body p e s m args below meth c s₁ B hml hP s₁ hh0 (Stand.of_body B)
    exact ⟨t, o, a1, b1, b2, ⟨b3.1, b3.2⟩⟩
/-- a contract out of a walk from the entry -/
theorem Mt.of {y : MethodName} {As : List Value} {Post : Option Value → a_M → a_P → Prop} (hy : plainFor y = true) (hown : own = y.cls) (hlen : Nat.ble ((lg_sl As).length) nL = true) (hlv : lv_args 0 As = lv) (h : WA X ad ca L own cc nL ret d 0 0 (a_E X ad ca L Post) 0 lv [] M P) : Mt X ad ca L d y cc nL ret As M P Post := by
  intro l sz
  refine Met.ofWF (cc := cc) (maxL := nL) (ret := ret) hy rfl ?_
  intro p e s m args below meth c s₁ B hml hv
  obtain ⟨rfl, hsz, hw, hk, hc, hsp⟩ := hv
  have hts := atoms_spec (ws := a_ws y cc nL ret) B.pre
  have hown' : s.vm.findClass y.cls = some m.cls := findClass_of_methodNamed B.named
  subst hsz
  have hl := lv_entry (As.map (a_cv ad)) (n := nL) (by rw [a_sl_len]; exact Nat.le_of_ble_eq_true hlen)
  rw [lg_entry_eq]
  rw [a_args, hlv] at hl
  exact h _ p l e s m _ below meth c s.heap [] _ ⟨Nat.le_refl _, Nat.le_refl _, Nat.le_refl _, Nat.le_refl _⟩ ⟨B.exec, B.bytes, B.returns, hml, by rw [hown]; exact hown', fun w hw' => hts w (List.mem_cons_of_mem _ hw'), hk, hc, hsp, B.notSynchronized⟩ hw va_S.rf hl
end WAC
