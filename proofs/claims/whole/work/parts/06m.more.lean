/-! ldc_w, String constants, System.arraycopy -/
section WAM
variable {X : a_X} {ad : Nat → Nat} {ca : Nat → ClassId} {L : a_L} {own : String} {cc : ByteArray} {nL : Nat} {ret : Option FieldType} {d kc ks : Nat} {QF : List Frame → Array Value → State → State → Prop} {pc : Nat} {lv lv' : List (Nat × Value)} {st : List Value} {M : a_M} {P : a_P}
theorem wa_ldcw {index : Nat} {v : Int32} (hdg : decode cc pc = .ok (.ldc_w index, 3)) (hk : Cond.constant own index v ∈ a_tb) (h : WA X ad ca L own cc nL ret d kc ks QF (pc + 3) lv (.int v :: st) M P) : WA X ad ca L own cc nL ret d kc ks QF pc lv st M P := by
  intro R p l e s m args below meth c H locs ls hR F w S hl
  exact lv_ldcw F.1 F.2.1 F.2.2.2.2.1 (F.2.2.2.2.2.1 _ hk) hdg (h R p l e s m args below meth c H locs ls hR F w S hl)
theorem wa_ldcS {index k : Nat} {tx : String} (hdg : decode cc pc = .ok (.ldc index, 2)) (ho : own = "SolvedChains$Tape") (hk : a_sk[k]? = some (index, tx)) (h : WA X ad ca L own cc nL ret d kc ks QF (pc + 2) lv (.ref (2000000 + k) :: st) M P) : WA X ad ca L own cc nL ret d kc ks QF pc lv st M P := by
  intro R p l e s m args below meth c H locs ls hR F w S hl
  have hc := F.2.2.2.2.2.2.2.1.2.2.2.2.1 k _ hk
  have h9 := h R p l e s m args below meth c H locs ls hR F w S hl
  have hz : a_cv ad (.ref (2000000 + k)) = .ref (X.2.2.1 k) := by show Value.ref (ad (2000000 + k)) = _; rw [F.2.2.2.2.2.2.2.2.1.2.1 k]
  rw [List.map_cons, hz] at h9
  subst ho
  exact va_ldcS F.1 F.2.1 F.2.2.2.2.1 hc hdg h9
theorem wa_copy {index o0 o1 n0 n1 : Nat} {sp dp n : Int32} (hdg : decode cc pc = .ok (.invokestatic index, 3)) (hlk : Cond.methodLink own index arraycopyName ∈ a_tb) (hna : Cond.native arraycopyName ∈ a_tb) (hst : Cond.static arraycopyName ∈ a_tb) (hin : Cond.initialized "java/lang/System" ∈ a_tb) (hL0 : L[o0]? = some (100, n0)) (hL1 : L[o1]? = some (100, n1)) (h1 : ¬ sp < 0) (h2 : ¬ dp < 0) (h3 : ¬ n < 0) (h4 : sp.toNatClampNeg + n.toNatClampNeg ≤ n0) (h5 : dp.toNatClampNeg + n.toNatClampNeg ≤ n1) (hc : Nat.ble ((st.map fun v => v.category).sum) 8 = true)
    (h : WA X ad ca L own cc nL ret (d + 1) kc ks QF (pc + 3) lv st (va_up M o1 (va_cpy (M o0) (M o1) sp.toNatClampNeg dp.toNatClampNeg n.toNatClampNeg)) P) : WA X ad ca L own cc nL ret (d + 1) kc ks QF pc lv (.int n :: .int dp :: .ref o1 :: .int sp :: .ref o0 :: st) M P := by
  intro R p l e s m args below meth c H locs ls hR F w S hl
  have hT := F.2.2.2.2.2.1
  have hK : va_K X.1 a_cls [(ca o0, .int), (ca o1, .int)] s := ⟨F.2.2.2.2.2.2.1.1.1, fun k x hk => by
    have hk0 : k < 2 := (List.getElem?_eq_some_iff.mp hk).1
    rcases (show k = 0 ∨ k = 1 by omega) with rfl | rfl
    · cases hk; exact F.2.2.2.2.2.2.1.2 o0 _ hL0 (by show 50 ≤ 100; omega)
    · cases hk; exact F.2.2.2.2.2.2.1.2 o1 _ hL1 (by show 50 ≤ 100; omega)⟩
  have hw : (((st.map (a_cv ad)).map fun v => v.category).sum) ≤ 8 := by rw [a_cats]; exact Nat.le_of_ble_eq_true hc
  have hnw : nativeFrameWords "java/lang/System" "arraycopy" 5 ≤ 40 := by decide
  refine va_copyi (D := X.1) (cl := a_cls) (tys := [(ca o0, .int), (ca o1, .int)]) F.1 F.2.1 (F.2.2.2.1.trans hl.1.symm) F.2.2.2.2.1 (hT _ hlk) (hT _ hna) (hT _ hst) (hT _ hin) hK w.1 (a_D w.2) S o0 o1 0 1 (a_int_at hL0 (by decide) (by decide)) (a_int_at hL1 (by decide) (by decide)) rfl rfl rfl h1 h2 h3 h4 h5 (fun _ _ => rfl) (by omega) (by omega) hdg (fun H1 locs1 hP1 hD1 hS1 => h R p l e s m args below meth c H1 locs1 ls hR F ?_ hS1 hl)
  rw [a_set_int hL1 (by decide) (by decide)] at hP1 hD1
  exact ⟨hP1, hD1.1, fun _ _ _ => trivial⟩
end WAM
