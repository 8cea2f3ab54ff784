/-! STRINGS: length and charAt of the five constants, isWord -/
theorem flJ0_9 : Cond.fieldLink RJ0 9 "java/lang/String" "value" "[B" ∈ a_tb := a_in 1788 (by decide +kernel) rfl
theorem flJ0_15 : Cond.fieldLink RJ0 15 "java/lang/String" "coder" "B" ∈ a_tb := a_in 1789 (by decide +kernel) rfl
theorem flJ0_38 : Cond.fieldLink RJ0 38 "java/lang/String" "COMPACT_STRINGS" "Z" ∈ a_tb := a_in 622 (by decide +kernel) rfl
theorem flJ0_1053 : Cond.fieldLink RJ0 1053 "jdk/internal/util/Preconditions" "SIOOBE_FORMATTER" "Ljava/util/function/BiFunction;" ∈ a_tb := a_in 638 (by decide +kernel) rfl
section WST
variable {X : a_X} {ad : Nat → Nat} {ca : Nat → ClassId} {L : a_L} {own : String} {cc : ByteArray} {nL : Nat} {ret : Option FieldType} {d kc ks : Nat} {QF : List Frame → Array Value → State → State → Prop} {pc : Nat} {lv lv' : List (Nat × Value)} {st : List Value} {M : a_M} {P : a_P}
theorem wa_sval {k : Nat} (hdg : decode cc pc = .ok (.getfield 9, 3)) (ho : own = RJ0) (hk : k < 5) (h : WA X ad ca L own cc nL ret d kc ks QF (pc + 3) lv (.ref (2000100 + k) :: st) M P) : WA X ad ca L own cc nL ret d kc ks QF pc lv (.ref (2000000 + k) :: st) M P := by
  intro R p l e s m args below meth c H locs ls hR F w S hl
  have hc := F.2.2.2.2.2.2.2.1
  have hsp := F.2.2.2.2.2.2.2.2.1
  have hz : a_cv ad (.ref (2000000 + k)) = .ref (X.2.2.1 k) := by show Value.ref (ad (2000000 + k)) = _; rw [hsp.2.1 k]
  have hz2 : a_cv ad (.ref (2000100 + k)) = .ref (X.2.2.2 k) := by show Value.ref (ad (2000100 + k)) = _; rw [hsp.2.2 k]
  have h9 := h R p l e s m args below meth c H locs ls hR F w S hl
  rw [List.map_cons, hz2] at h9
  rw [List.map_cons, hz]
  subst ho
  exact vk_getf F.1 F.2.1 (hc.2.2.2.1.1 k hk).2.2.1 S F.2.2.2.2.1 (F.2.2.2.2.2.1 _ flJ0_9) (fun _ h => h) hdg h9
theorem wa_scod {k : Nat} (hdg : decode cc pc = .ok (.getfield 15, 3)) (ho : own = RJ0) (hk : k < 5) (h : WA X ad ca L own cc nL ret d kc ks QF (pc + 3) lv (.int 0 :: st) M P) : WA X ad ca L own cc nL ret d kc ks QF pc lv (.ref (2000000 + k) :: st) M P := by
  intro R p l e s m args below meth c H locs ls hR F w S hl
  have hc := F.2.2.2.2.2.2.2.1
  have hsp := F.2.2.2.2.2.2.2.2.1
  have hz : a_cv ad (.ref (2000000 + k)) = .ref (X.2.2.1 k) := by show Value.ref (ad (2000000 + k)) = _; rw [hsp.2.1 k]
  have h9 := h R p l e s m args below meth c H locs ls hR F w S hl
  rw [List.map_cons, hz]
  subst ho
  exact vk_getf F.1 F.2.1 (hc.2.2.2.1.1 k hk).2.1 S F.2.2.2.2.1 (F.2.2.2.2.2.1 _ flJ0_15) (fun _ h => h) hdg h9
theorem wa_scs (hdg : decode cc pc = .ok (.getstatic 38, 3)) (ho : own = RJ0) (h : WA X ad ca L own cc nL ret d kc ks QF (pc + 3) lv (.int 1 :: st) M P) : WA X ad ca L own cc nL ret d kc ks QF pc lv st M P := by
  intro R p l e s m args below meth c H locs ls hR F w S hl
  have hc := F.2.2.2.2.2.2.2.1
  have h9 := h R p l e s m args below meth c H locs ls hR F w S hl
  subst ho
  exact va_gets F.1 F.2.1 hc.2.2.2.2.2.2.1 S F.2.2.2.2.1 (F.2.2.2.2.2.1 _ flJ0_38) (fun _ h => h) hdg h9
theorem wa_stlen {k : Nat} (hdg : decode cc pc = .ok (.arraylength, 1)) (hk : k < 5) (h : WA X ad ca L own cc nL ret d kc ks QF (pc + 1) lv (.int (nI (a_sl.getD k 0)) :: st) M P) : WA X ad ca L own cc nL ret d kc ks QF pc lv (.ref (2000100 + k) :: st) M P := by
  intro R p l e s m args below meth c H locs ls hR F w S hl
  have hc := F.2.2.2.2.2.2.2.1
  have hsp := F.2.2.2.2.2.2.2.2.1
  have hz : a_cv ad (.ref (2000100 + k)) = .ref (X.2.2.2 k) := by show Value.ref (ad (2000100 + k)) = _; rw [hsp.2.2 k]
  have h9 := h R p l e s m args below meth c H locs ls hR F w S hl
  rw [List.map_cons, hz]
  exact va_tlen F.1 F.2.1 (hc.2.2.2.1.1 k hk).2.2.2 S rfl hdg h9
theorem wa_stld {k : Nat} {i : Int32} (hdg : decode cc pc = .ok (.baload, 1)) (hk : k < 5) (hi : vp_in i (a_sl.getD k 0)) (h : WA X ad ca L own cc nL ret d kc ks QF (pc + 1) lv (.int ((a_sb.getD k []).getD i.toNatClampNeg 0) :: st) M P) : WA X ad ca L own cc nL ret d kc ks QF pc lv (.int i :: .ref (2000100 + k) :: st) M P := by
  intro R p l e s m args below meth c H locs ls hR F w S hl
  have hc := F.2.2.2.2.2.2.2.1
  have hsp := F.2.2.2.2.2.2.2.2.1
  have hz : a_cv ad (.ref (2000100 + k)) = .ref (X.2.2.2 k) := by show Value.ref (ad (2000100 + k)) = _; rw [hsp.2.2 k]
  have h9 := h R p l e s m args below meth c H locs ls hR F w S hl
  rw [List.map_cons, List.map_cons, hz]
  exact va_tb F.1 F.2.1 (hc.2.2.2.1.1 k hk).2.2.2 S hi rfl hdg h9
/-- invokevirtual on a String constant -/
theorem wa_callVS {y : MethodName} {k : Nat} {cc9 : ByteArray} {nL9 d9 n idx : Nat} {ret9 : Option FieldType} {Post : Option Value → a_M → a_P → Prop} (As : List Value) (hdg : decode cc pc = .ok (.invokevirtual idx, 3)) (hm : a_ML own idx y cc9 nL9 ret9 n) (hlk : Cond.methodLink own idx y ∈ a_tb) (hin : Cond.instanceMethod y ∈ a_tb) (hse : Cond.selects "java/lang/String" y y ∈ a_tb) (hk : k < 5) (hn : As.length = n) (hd : Nat.blt d9 d = true) (hc : Nat.ble ((st.map fun v => v.category).sum) 8 = true) {stk : List Value} (hs : As.reverse ++ (.ref (2000000 + k) :: st) = stk)
    (hM : Mt X ad ca L d9 y cc9 nL9 ret9 (.ref (2000000 + k) :: As) M P Post) (h : ∀ (r : Option Value) (M1 : a_M) (P1 : a_P), Post r M1 P1 → WA X ad ca L own cc nL ret d kc ks QF (pc + 3) lv (r.toList ++ st) M1 P1) : WA X ad ca L own cc nL ret d kc ks QF pc lv stk M P := by
  intro R p l e s m args below meth c H locs ls hR F w S hl
  have hp := a_pre (As := .ref (2000000 + k) :: As) F w S
  have hsp := F.2.2.2.2.2.2.2.2.1
  rw [← hs, a_stk]
  refine a_after (va_runV (As := As.map (a_cv ad)) (rest := st.map (a_cv ad)) (b := ad (2000000 + k)) (C := "java/lang/String") (n := n) ⟨F.1, F.2.1, F.2.2.2.1, F.2.2.2.2.1, F.2.2.2.2.2.1⟩ (hM l H.size) ⟨callB_of n F.2.2.2.2.2.1 (a_goodB hm.1) rfl rfl rfl (F.2.2.2.2.2.1 _ hm.2.1) (F.2.2.2.2.2.1 _ hlk) hm.2.2.1 (a_room hR hd hm.2.2.2), F.2.2.2.2.2.1 _ hin, F.2.2.2.2.2.1 _ hse⟩ ⟨hp.1, by rw [hsp.2.1 k]; exact vk_recv F.2.2.2.2.2.2.2.1.2.2.2.1 hk S, hp.2⟩ rfl (by rw [List.length_map]; exact hn) hl.1 rfl (lv_room (by rw [a_cats]; exact Nat.le_of_ble_eq_true hc)) hdg ⟨hR.2.2.1, hR.2.2.2⟩) S (fun r M1 P1 H1 locs1 hp1 w1 S1 => ?_)
  have h9 := h r M1 P1 hp1 R p l e s m args below meth c H1 locs1 ls hR F w1 S1 hl
  rw [List.map_append] at h9
  cases r <;> exact h9
/-- a contract whose arguments are told as they are -/
def a_PreR (X : a_X) (ad : Nat → Nat) (ca : Nat → ClassId) (L : a_L) (sz : Nat) (raw : List Value) (M : a_M) (P : a_P) : Array Value → State → Prop := va_Pc raw (fun U => U.heap.size = sz ∧ a_wd X ad ca L M P U.heap ∧ a_kd X ca L U ∧ a_cx X (a_A ad L sz) U U.heap ∧ a_sp X ad)
theorem a_preR {raw : List Value} {p : Program} {s : State} {m : MethodId} {args : Array Value} {meth : Method} {c : Code} {H : Heap} {locs : List Loc} (F : a_fx X ad ca L own cc nL ret p s m args meth c) (w : a_wd X ad ca L M P H) (S : va_S (a_A ad L s.heap.size) s.heap H locs) : PreS s H (a_PreR X ad ca L H.size raw M P) raw := by
  refine ⟨?_, fun U hU hW => ⟨rfl, by rw [hU], by rw [hU]; exact w, F.2.2.2.2.2.2.1.moved hW.alike, ?_, F.2.2.2.2.2.2.2.2.1⟩⟩
  · intro a U g mk h
    obtain ⟨h0, h1, h2, h3, h4, h5⟩ := h
    exact ⟨h0, h1, h2, a_kd.moved (u := U) (U := U.calling g mk a) (Vm.Alike.refl U.vm) h3, a_cx.same (u := U) (U := U.calling g mk a) h4 rfl, h5⟩
  · rw [hU]
    exact F.2.2.2.2.2.2.2.1.to hW S.1 S.2.1 (fun q hq => a_A.mono S.1 hq)
theorem kJ3_checkIndex (hd : 1 ≤ d) {i n : Nat} (hi : i < n) (hn : n < 2 ^ 31) {v : Value} (hv : v = .null ∨ ∃ t, v = .ref t) (l : Launch) (sz : Nat) :
    Met l yJ3_checkIndex_8e157 (a_ws yJ3_checkIndex_8e157 cJ3_checkIndex_8e157 3 (some FieldType.int)) (a_rm d) (a_PreR X ad ca L sz [.int (nI i), .int (nI n), v] M P) (a_Q X ad ca L sz (q_i P (fun s M' => M' = M ∧ s = nI i))) 0 0 (a_A ad L sz) := by
  have body : WA X ad ca L RJ3 cJ3_checkIndex_8e157 3 (some FieldType.int) d 0 0 (a_E X ad ca L (q_i P (fun s M' => M' = M ∧ s = nI i))) 0 [(0, .int (nI i)), (1, .int (nI n))] [] M P := by
    refine wa_iload_n dJ3_checkIndex_8e157_0 0 rfl rfl ?_
    refine wa_if_lt (tgt := 9) dJ3_checkIndex_8e157_1 rfl (fun q => absurd q (nI_pos (by omega))) (fun _ => ?_)
    refine wa_iload_n dJ3_checkIndex_8e157_4 0 rfl rfl ?_
    refine wa_iload_n dJ3_checkIndex_8e157_5 1 rfl rfl ?_
    refine wa_icmp_lt (tgt := 16) dJ3_checkIndex_8e157_6 rfl (fun _ => ?_) (fun q => absurd (nI_lt hi hn) q)
    refine wa_iload_n dJ3_checkIndex_8e157_16 0 rfl rfl ?_
    exact wa_iret dJ3_checkIndex_8e157_17 rfl rfl ⟨_, rfl, rfl, rfl, rfl⟩
  refine Met.ofWF (cc := cJ3_checkIndex_8e157) (maxL := 3) (ret := some FieldType.int) (by decide +kernel) rfl ?_
  intro p e s m args below meth c s₁ B hml hv9
  obtain ⟨rfl, hsz, hw, hk, hc, hsp⟩ := hv9
  have hts := atoms_spec (ws := a_ws yJ3_checkIndex_8e157 cJ3_checkIndex_8e157 3 (some FieldType.int)) B.pre
  have hown' : s.vm.findClass yJ3_checkIndex_8e157.cls = some m.cls := findClass_of_methodNamed B.named
  subst hsz
  have hlen : (lg_sl [Value.int (nI i), .int (nI n), v]).length ≤ 3 := by rcases hv with rfl | ⟨t, rfl⟩ <;> exact Nat.le_refl 3
  have hl := lv_entry [.int (nI i), .int (nI n), v] (n := 3) hlen
  rw [lg_entry_eq]
  have hl2 : lv_has (lg_sl [Value.int (nI i), .int (nI n), v] ++ List.replicate (3 - (lg_sl [Value.int (nI i), .int (nI n), v]).length) Slot.unset).toArray 3 (a_mp ad [(0, .int (nI i)), (1, .int (nI n))]) := by
    rcases hv with rfl | ⟨t, rfl⟩ <;> exact lv_sub hl [0, 1] rfl
  exact body _ p l e s m _ below meth c s.heap [] _ ⟨Nat.le_refl _, Nat.le_refl _, Nat.le_refl _, Nat.le_refl _⟩ ⟨B.exec, B.bytes, B.returns, hml, hown', fun w hw' => hts w (List.mem_cons_of_mem _ hw'), hk, hc, hsp, B.notSynchronized⟩ hw va_S.rf hl2
theorem kJ0_checkIndex (hd : 2 ≤ d) {i n : Nat} (hi : i < n) (hn : n < 2 ^ 31) : Mt X ad ca L d yJ0_checkIndex_df160 cJ0_checkIndex_df160 2 none [.int (nI i), .int (nI n)] M P (q_v P (fun M' => M' = M)) := by
  obtain ⟨d, rfl⟩ := a_d1 (show 1 ≤ d by omega)
  refine Mt.of (lv := [(0, .int (nI i)), (1, .int (nI n))]) (by decide +kernel) rfl rfl rfl ?_
  refine wa_iload_n dJ0_checkIndex_df160_0 0 rfl rfl ?_
  refine wa_iload_n dJ0_checkIndex_df160_1 1 rfl rfl ?_
  intro R p l e s m args below meth c H locs ls hR F w S hl
  have hc := F.2.2.2.2.2.2.2.1
  have step : ∀ v : Value, (v = .null ∨ ∃ t, v = .ref t) → va_Z "jdk/internal/util/Preconditions" "SIOOBE_FORMATTER" "Ljava/util/function/BiFunction;" v (a_A ad L s.heap.size) s s.heap → W p l e R s m args below meth c H locs 0 0 (a_E X ad ca L (q_v P (fun M' => M' = M)) below args s) (F0 m 2 ls [.int (nI n), .int (nI i)]) := by
    intro v hv hz
    refine va_gets F.1 F.2.1 hz S F.2.2.2.2.1 (F.2.2.2.2.2.1 _ flJ0_1053) (fun _ h => h) dJ0_checkIndex_df160_2 ?_
    have hm := mmJ3_checkIndex_8e157 RJ0 1059
    refine a_after (va_runS (As := [.int (nI i), .int (nI n), v]) (rest := []) (n := 3) ⟨F.1, F.2.1, F.2.2.2.1, F.2.2.2.2.1, F.2.2.2.2.2.1⟩ (kJ3_checkIndex (d := d) (by omega) hi hn hv l H.size) ⟨callB_of 3 F.2.2.2.2.2.1 (a_goodB hm.1) rfl rfl rfl (F.2.2.2.2.2.1 _ hm.2.1) (F.2.2.2.2.2.1 _ mlJ0_1059) hm.2.2.1 (a_room hR (a_dlt d) hm.2.2.2), F.2.2.2.2.2.1 _ mstJ3_checkIndex_8e157⟩ (a_preR F w S) rfl rfl hl.1 rfl (lv_room (Nat.zero_le _)) dJ0_checkIndex_df160_5 ⟨hR.2.2.1, hR.2.2.2⟩) S (fun r M1 P1 H1 locs1 hp w1 S1 => ?_)
    obtain ⟨v1, rfl, rfl, rfl, rfl⟩ := hp
    exact (wa_pop (v := .int (nI i)) dJ0_checkIndex_df160_8 rfl (wa_vret (lv := [(0, .int (nI i)), (1, .int (nI n))]) dJ0_checkIndex_df160_9 rfl ⟨rfl, rfl, rfl⟩)) R p l e s m args below meth c H1 locs1 ls hR F w1 S1 hl
  rcases hc.2.2.2.2.2.2.2 with h | ⟨t, h⟩
  · exact step .null (Or.inl rfl) h
  · exact step (.ref t) (Or.inr ⟨t, rfl⟩) h
theorem a_sl_lt {k : Nat} (hk : k < 5) : a_sl.getD k 0 < 8 := by
  have : k = 0 ∨ k = 1 ∨ k = 2 ∨ k = 3 ∨ k = 4 := by omega
  rcases this with rfl | rfl | rfl | rfl | rfl <;> decide
theorem kJ1_charAt (hd : 3 ≤ d) {k i : Nat} (hk : k < 5) (hi : i < a_sl.getD k 0) : Mt X ad ca L d yJ1_charAt_3b067 cJ1_charAt_3b067 2 (some FieldType.char) [.ref (2000100 + k), .int (nI i)] M P (q_i P (fun s M' => M' = M ∧ s = (a_sb.getD k []).getD i 0 &&& 255)) := by
  obtain ⟨d, rfl⟩ := a_d1 (show 1 ≤ d by omega)
  have hl8 := a_sl_lt hk
  refine Mt.of (lv := [(0, .ref (2000100 + k)), (1, .int (nI i))]) (by decide +kernel) rfl rfl rfl ?_
  refine wa_iload_n dJ1_charAt_3b067_0 1 rfl rfl ?_
  refine wa_aload_n dJ1_charAt_3b067_1 0 rfl rfl ?_
  refine wa_stlen dJ1_charAt_3b067_2 hk ?_
  refine wa_callS [.int (nI i), .int (nI (a_sl.getD k 0))] dJ1_charAt_3b067_3 (mmJ0_checkIndex_df160 _ _) mlJ1_9 mstJ0_checkIndex_df160 rfl (a_dlt d) rfl rfl (kJ0_checkIndex (by omega) hi (by omega)) ?_
  rintro r M1 P1 ⟨rfl, rfl, rfl⟩
  refine wa_aload_n dJ1_charAt_3b067_6 0 rfl rfl ?_
  refine wa_iload_n dJ1_charAt_3b067_7 1 rfl rfl ?_
  refine wa_stld dJ1_charAt_3b067_8 hk (n_in hi (by omega)) ?_
  refine wa_sipush (v := 255) dJ1_charAt_3b067_9 rfl ?_
  refine wa_iand dJ1_charAt_3b067_12 ?_
  refine wa_i2c dJ1_charAt_3b067_13 ?_
  rw [n_cl (by omega)]
  have e : ((((a_sb.getD k []).getD i 0) &&& 255).toUInt32 % 65536).toInt32 = (a_sb.getD k []).getD i 0 &&& 255 ∧ narrow .char (.int ((a_sb.getD k []).getD i 0 &&& 255)) = .int ((a_sb.getD k []).getD i 0 &&& 255) := by
    have : ∀ k, k < 5 → ∀ i, i < 8 → ((((a_sb.getD k []).getD i 0) &&& 255).toUInt32 % 65536).toInt32 = (a_sb.getD k []).getD i 0 &&& 255 ∧ narrow .char (.int ((a_sb.getD k []).getD i 0 &&& 255)) = .int ((a_sb.getD k []).getD i 0 &&& 255) := by decide +kernel
    exact this k hk i (by omega)
  rw [e.1]
  exact wa_iret dJ1_charAt_3b067_14 rfl e.2 ⟨_, rfl, rfl, rfl, rfl⟩
theorem kJ0_coder (hd : 1 ≤ d) {k : Nat} (hk : k < 5) : Mt X ad ca L d yJ0_coder_7d493 cJ0_coder_7d493 1 (some FieldType.byte) [.ref (2000000 + k)] M P (q_i P (fun s M' => M' = M ∧ s = 0)) := by
  refine Mt.of (lv := [(0, .ref (2000000 + k))]) (by decide +kernel) rfl rfl rfl ?_
  refine wa_scs dJ0_coder_7d493_0 rfl ?_
  refine wa_if_eq (tgt := 13) dJ0_coder_7d493_3 rfl (fun q => absurd q (by decide)) (fun _ => ?_)
  refine wa_aload_n dJ0_coder_7d493_6 0 rfl rfl ?_
  refine wa_scod dJ0_coder_7d493_7 rfl hk ?_
  refine wa_goto (tgt := 14) dJ0_coder_7d493_10 rfl ?_
  exact wa_iret dJ0_coder_7d493_14 rfl rfl ⟨_, rfl, rfl, rfl, rfl⟩
theorem kJ0_isLatin1 (hd : 1 ≤ d) {k : Nat} (hk : k < 5) : Mt X ad ca L d yJ0_isLatin1_aae02 cJ0_isLatin1_aae02 1 (some FieldType.boolean) [.ref (2000000 + k)] M P (q_i P (fun s M' => M' = M ∧ s = 1)) := by
  refine Mt.of (lv := [(0, .ref (2000000 + k))]) (by decide +kernel) rfl rfl rfl ?_
  refine wa_scs dJ0_isLatin1_aae02_0 rfl ?_
  refine wa_if_eq (tgt := 17) dJ0_isLatin1_aae02_3 rfl (fun q => absurd q (by decide)) (fun _ => ?_)
  refine wa_aload_n dJ0_isLatin1_aae02_6 0 rfl rfl ?_
  refine wa_scod dJ0_isLatin1_aae02_7 rfl hk ?_
  refine wa_if_ne (tgt := 17) dJ0_isLatin1_aae02_10 rfl (fun q => absurd rfl q) (fun _ => ?_)
  refine wa_iconst (v := 1) dJ0_isLatin1_aae02_13 rfl ?_
  refine wa_goto (tgt := 18) dJ0_isLatin1_aae02_14 rfl ?_
  exact wa_iret dJ0_isLatin1_aae02_18 rfl rfl ⟨_, rfl, rfl, rfl, rfl⟩
theorem kJ0_length (hd : 2 ≤ d) {k : Nat} (hk : k < 5) : Mt X ad ca L d yJ0_length_8abf5 cJ0_length_8abf5 1 (some FieldType.int) [.ref (2000000 + k)] M P (q_i P (fun s M' => M' = M ∧ s = nI (a_sl.getD k 0))) := by
  obtain ⟨d, rfl⟩ := a_d1 (show 1 ≤ d by omega)
  refine Mt.of (lv := [(0, .ref (2000000 + k))]) (by decide +kernel) rfl rfl rfl ?_
  refine wa_aload_n dJ0_length_8abf5_0 0 rfl rfl ?_
  refine wa_sval dJ0_length_8abf5_1 rfl hk ?_
  refine wa_stlen dJ0_length_8abf5_4 hk ?_
  refine wa_aload_n dJ0_length_8abf5_5 0 rfl rfl ?_
  refine wa_callVS [] dJ0_length_8abf5_6 (mmJ0_coder_7d493 _ _) mlJ0_335 mnJ0_coder_7d493 mseJ0_coder_7d493 hk rfl (a_dlt d) rfl rfl (kJ0_coder (by omega) hk) ?_
  rintro r M1 P1 ⟨v, rfl, rfl, rfl, rfl⟩
  refine wa_ishr dJ0_length_8abf5_9 ?_
  refine wa_iret dJ0_length_8abf5_10 rfl rfl ⟨_, rfl, rfl, rfl, ?_⟩
  have : ∀ k, k < 5 → nI (a_sl.getD k 0) >>> ((0 : Int32) &&& 31) = nI (a_sl.getD k 0) := by decide +kernel
  exact this k hk
theorem kJ0_charAt (hd : 4 ≤ d) {k i : Nat} (hk : k < 5) (hi : i < a_sl.getD k 0) : Mt X ad ca L d yJ0_charAt_5068e cJ0_charAt_5068e 2 (some FieldType.char) [.ref (2000000 + k), .int (nI i)] M P (q_i P (fun s M' => M' = M ∧ s = (a_sb.getD k []).getD i 0 &&& 255)) := by
  obtain ⟨d, rfl⟩ := a_d1 (show 1 ≤ d by omega)
  have hl8 := a_sl_lt hk
  refine Mt.of (lv := [(0, .ref (2000000 + k)), (1, .int (nI i))]) (by decide +kernel) rfl rfl rfl ?_
  refine wa_aload_n dJ0_charAt_5068e_0 0 rfl rfl ?_
  refine wa_callVS [] dJ0_charAt_5068e_1 (mmJ0_isLatin1_aae02 _ _) mlJ0_492 mnJ0_isLatin1_aae02 mseJ0_isLatin1_aae02 hk rfl (a_dlt d) rfl rfl (kJ0_isLatin1 (by omega) hk) ?_
  rintro r M1 P1 ⟨v, rfl, rfl, rfl, rfl⟩
  refine wa_if_eq (tgt := 16) dJ0_charAt_5068e_4 rfl (fun q => absurd q (by decide)) (fun _ => ?_)
  refine wa_aload_n dJ0_charAt_5068e_7 0 rfl rfl ?_
  refine wa_sval dJ0_charAt_5068e_8 rfl hk ?_
  refine wa_iload_n dJ0_charAt_5068e_11 1 rfl rfl ?_
  refine wa_callS [.ref (2000100 + k), .int (nI i)] dJ0_charAt_5068e_12 (mmJ1_charAt_3b067 _ _) mlJ0_495 mstJ1_charAt_3b067 rfl (a_dlt d) rfl rfl (kJ1_charAt (by omega) hk hi) ?_
  rintro r M2 P2 ⟨v, rfl, rfl, rfl, rfl⟩
  refine wa_iret dJ0_charAt_5068e_15 rfl ?_ ⟨_, rfl, rfl, rfl, rfl⟩
  have : ∀ k, k < 5 → ∀ i, i < 8 → narrow .char (.int ((a_sb.getD k []).getD i 0 &&& 255)) = .int ((a_sb.getD k []).getD i 0 &&& 255) := by decide +kernel
  exact this k hk i (by omega)
end WST
