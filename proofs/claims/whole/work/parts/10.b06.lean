theorem bX10_stopOf_0 {X : a_X} {ad : Nat → Nat} {ca : Nat → ClassId} {d : Nat} {kc ks : Nat} {QF : List Frame → Array Value → State → State → Prop} {x : Nat} {M : a_M} (x1 : Int32)  (hF : (vp_in x1 300 ∧ (∃ Q1 : Int32 → a_M → Prop, Mt X ad ca LY d yX10_sortOf cX10_sortOf 1 (some FieldType.int) [.int (M 2 x1.toNatClampNeg)] M (PT x) (q_i (PT x) Q1) ∧ ∀ v1 M1, Q1 v1 M1 → WA X ad ca LY RX10 cX10_stopOf 4 (some FieldType.int) (d + 1) kc ks QF 14 [(0, .ref 1), (2, .int v1), (3, .int (x1 + 1))] [] M1 (PT x)))) : WA X ad ca LY RX10 cX10_stopOf 4 (some FieldType.int) (d + 1) kc ks QF 0 [(0, .ref 1), (1, .int x1)] [] M (PT x) := by
  refine wa_aload_n dX10_stopOf_0 0 rfl rfl ?_
  refine wa_getr (r := 2) dX10_stopOf_1 fkX10_9 rfl rfl rfl ?_
  refine wa_iload_n dX10_stopOf_4 1 rfl rfl ?_
  obtain ⟨hi9, hF⟩ := hF
  refine wb_iald (j := x1.toNatClampNeg) (v := M 2 x1.toNatClampNeg) dX10_stopOf_5 rfl hi9 rfl rfl ?_
  obtain ⟨Q1, hM9, hF⟩ := hF
  refine wa_callS [.int (M 2 x1.toNatClampNeg)] dX10_stopOf_6 (mmX10_sortOf _ _) mlX10_31 mstX10_sortOf rfl (a_dlt d) rfl rfl hM9 ?_
  rintro r9 M1 P9 ⟨v1, rfl, rfl, hq9⟩
  replace hF := hF v1 M1 hq9
  simp only [Option.toList, List.cons_append, List.nil_append]
  refine wa_istore_n (lv' := [(2, .int v1), (0, .ref 1), (1, .int x1)]) dX10_stopOf_9 rfl rfl rfl ?_
  refine wa_iload_n dX10_stopOf_10 2 rfl rfl ?_
  refine wa_iconst (v := 1) dX10_stopOf_11 rfl ?_
  refine wa_iadd dX10_stopOf_12 ?_
  refine wa_istore_n (lv' := [(3, .int (x1 + 1)), (2, .int v1), (0, .ref 1), (1, .int x1)]) dX10_stopOf_13 rfl rfl rfl ?_
  exact wa_pick [2, 1, 0] rfl hF

theorem bX10_stopOf_14 {X : a_X} {ad : Nat → Nat} {ca : Nat → ClassId} {d : Nat} {kc ks : Nat} {QF : List Frame → Array Value → State → State → Prop} {x : Nat} {M : a_M} (x2 : Int32) (x3 : Int32)  (hF : (((M 1 3) ≤ x3 → WA X ad ca LY RX10 cX10_stopOf 4 (some FieldType.int) (d + 1) kc ks QF 45 [(3, .int x3)] [] M (PT x)) ∧ (¬ (M 1 3) ≤ x3 → ((x2 = 0 → WA X ad ca LY RX10 cX10_stopOf 4 (some FieldType.int) (d + 1) kc ks QF 45 [(3, .int x3)] [] M (PT x)) ∧ (¬ x2 = 0 → (vp_in x3 300 ∧ (∃ Q1 : Int32 → a_M → Prop, Mt X ad ca LY d yX10_sortOf cX10_sortOf 1 (some FieldType.int) [.int (M 2 x3.toNatClampNeg)] M (PT x) (q_i (PT x) Q1) ∧ ∀ v1 M1, Q1 v1 M1 → ((¬ v1 = x2 → WA X ad ca LY RX10 cX10_stopOf 4 (some FieldType.int) (d + 1) kc ks QF 45 [(3, .int x3)] [] M1 (PT x)) ∧ (v1 = x2 → WA X ad ca LY RX10 cX10_stopOf 4 (some FieldType.int) (d + 1) kc ks QF 14 [(0, .ref 1), (2, .int x2), (3, .int (x3 + 1))] [] M1 (PT x)))))))))) : WA X ad ca LY RX10 cX10_stopOf 4 (some FieldType.int) (d + 1) kc ks QF 14 [(0, .ref 1), (2, .int x2), (3, .int x3)] [] M (PT x) := by
  refine wa_iload_n dX10_stopOf_14 2 rfl rfl ?_
  refine wa_aload_n dX10_stopOf_15 0 rfl rfl ?_
  refine wb_geti (v := M 1 3) dX10_stopOf_16 fkX10_19 rfl rfl rfl ?_
  refine wa_icmp_ge (tgt := 45) dX10_stopOf_19 rfl (fun hc => ?_) (fun hc => ?_)
  · replace hF := hF.1 hc
    exact wa_pick [2] rfl hF
  · replace hF := hF.2 hc
    refine wa_iload_n dX10_stopOf_22 1 rfl rfl ?_
    refine wa_if_eq (tgt := 45) dX10_stopOf_23 rfl (fun hc => ?_) (fun hc => ?_)
    · replace hF := hF.1 hc
      exact wa_pick [2] rfl hF
    · replace hF := hF.2 hc
      refine wa_aload_n dX10_stopOf_26 0 rfl rfl ?_
      refine wa_getr (r := 2) dX10_stopOf_27 fkX10_9 rfl rfl rfl ?_
      refine wa_iload_n dX10_stopOf_30 2 rfl rfl ?_
      obtain ⟨hi9, hF⟩ := hF
      refine wb_iald (j := x3.toNatClampNeg) (v := M 2 x3.toNatClampNeg) dX10_stopOf_31 rfl hi9 rfl rfl ?_
      obtain ⟨Q1, hM9, hF⟩ := hF
      refine wa_callS [.int (M 2 x3.toNatClampNeg)] dX10_stopOf_32 (mmX10_sortOf _ _) mlX10_31 mstX10_sortOf rfl (a_dlt d) rfl rfl hM9 ?_
      rintro r9 M1 P9 ⟨v1, rfl, rfl, hq9⟩
      replace hF := hF v1 M1 hq9
      simp only [Option.toList, List.cons_append, List.nil_append]
      refine wa_iload_n dX10_stopOf_35 1 rfl rfl ?_
      refine wa_icmp_ne (tgt := 45) dX10_stopOf_36 rfl (fun hc => ?_) (fun hc => ?_)
      · replace hF := hF.1 hc
        exact wa_pick [2] rfl hF
      · replace hF := hF.2 hc
        refine wa_iinc (v := x3 + 1) (lv' := [(3, .int (x3 + 1)), (0, .ref 1), (2, .int x2)]) dX10_stopOf_39 2 rfl rfl rfl rfl ?_
        refine wa_goto (tgt := 14) dX10_stopOf_42 rfl ?_
        exact wa_pick [1, 2, 0] rfl hF

theorem bX10_stopOf_45 {X : a_X} {ad : Nat → Nat} {ca : Nat → ClassId} {d : Nat} {Post : Option Value → a_M → a_P → Prop} {x : Nat} {M : a_M} (x3 : Int32)  (hF : Post (some (.int x3)) M (PT x)) : WA X ad ca LY RX10 cX10_stopOf 4 (some FieldType.int) (d + 1) 0 0 (a_E X ad ca LY Post) 45 [(3, .int x3)] [] M (PT x) := by
  refine wa_iload_n dX10_stopOf_45 0 rfl rfl ?_
  exact wa_iret dX10_stopOf_46 rfl rfl hF

theorem eX10_stopOf {X : a_X} {ad : Nat → Nat} {ca : Nat → ClassId} {d : Nat} {Post : Option Value → a_M → a_P → Prop} {x : Nat} {M : a_M} (x1 : Int32) (h : WA X ad ca LY RX10 cX10_stopOf 4 (some FieldType.int) d 0 0 (a_E X ad ca LY Post) 0 [(0, .ref 1), (1, .int x1)] [] M (PT x)) : Mt X ad ca LY d yX10_stopOf cX10_stopOf 4 (some FieldType.int) [.ref 1, .int x1] M (PT x) Post := Mt.of (lv := [(0, .ref 1), (1, .int x1)]) (by decide +kernel) rfl rfl rfl (wa_pick [0, 1] rfl h)

theorem bX10_sortOf_0 {X : a_X} {ad : Nat → Nat} {ca : Nat → ClassId} {d : Nat} {kc ks : Nat} {QF : List Frame → Array Value → State → State → Prop} {x : Nat} {M : a_M} (x0 : Int32)  (hF : ((x0 < 97 → WA X ad ca LY RX10 cX10_sortOf 1 (some FieldType.int) (d + 1) kc ks QF 12 [(0, .int x0)] [] M (PT x)) ∧ (¬ x0 < 97 → ((x0 ≤ 122 → WA X ad ca LY RX10 cX10_sortOf 1 (some FieldType.int) (d + 1) kc ks QF 24 [] [] M (PT x)) ∧ (¬ x0 ≤ 122 → WA X ad ca LY RX10 cX10_sortOf 1 (some FieldType.int) (d + 1) kc ks QF 12 [(0, .int x0)] [] M (PT x)))))) : WA X ad ca LY RX10 cX10_sortOf 1 (some FieldType.int) (d + 1) kc ks QF 0 [(0, .int x0)] [] M (PT x) := by
  refine wa_iload_n dX10_sortOf_0 0 rfl rfl ?_
  refine wa_bipush (v := 97) dX10_sortOf_1 rfl ?_
  refine wa_icmp_lt (tgt := 12) dX10_sortOf_3 rfl (fun hc => ?_) (fun hc => ?_)
  · replace hF := hF.1 hc
    exact hF
  · replace hF := hF.2 hc
    refine wa_iload_n dX10_sortOf_6 0 rfl rfl ?_
    refine wa_bipush (v := 122) dX10_sortOf_7 rfl ?_
    refine wa_icmp_le (tgt := 24) dX10_sortOf_9 rfl (fun hc => ?_) (fun hc => ?_)
    · replace hF := hF.1 hc
      exact wa_pick [] rfl hF
    · replace hF := hF.2 hc
      exact hF

theorem bX10_sortOf_12 {X : a_X} {ad : Nat → Nat} {ca : Nat → ClassId} {d : Nat} {kc ks : Nat} {QF : List Frame → Array Value → State → State → Prop} {x : Nat} {M : a_M} (x0 : Int32)  (hF : ((x0 < 65 → WA X ad ca LY RX10 cX10_sortOf 1 (some FieldType.int) (d + 1) kc ks QF 26 [(0, .int x0)] [] M (PT x)) ∧ (¬ x0 < 65 → ((90 < x0 → WA X ad ca LY RX10 cX10_sortOf 1 (some FieldType.int) (d + 1) kc ks QF 26 [(0, .int x0)] [] M (PT x)) ∧ (¬ 90 < x0 → WA X ad ca LY RX10 cX10_sortOf 1 (some FieldType.int) (d + 1) kc ks QF 24 [] [] M (PT x)))))) : WA X ad ca LY RX10 cX10_sortOf 1 (some FieldType.int) (d + 1) kc ks QF 12 [(0, .int x0)] [] M (PT x) := by
  refine wa_iload_n dX10_sortOf_12 0 rfl rfl ?_
  refine wa_bipush (v := 65) dX10_sortOf_13 rfl ?_
  refine wa_icmp_lt (tgt := 26) dX10_sortOf_15 rfl (fun hc => ?_) (fun hc => ?_)
  · replace hF := hF.1 hc
    exact hF
  · replace hF := hF.2 hc
    refine wa_iload_n dX10_sortOf_18 0 rfl rfl ?_
    refine wa_bipush (v := 90) dX10_sortOf_19 rfl ?_
    refine wa_icmp_gt (tgt := 26) dX10_sortOf_21 rfl (fun hc => ?_) (fun hc => ?_)
    · replace hF := hF.1 hc
      exact hF
    · replace hF := hF.2 hc
      exact wa_pick [] rfl hF

theorem bX10_sortOf_24 {X : a_X} {ad : Nat → Nat} {ca : Nat → ClassId} {d : Nat} {Post : Option Value → a_M → a_P → Prop} {x : Nat} {M : a_M}   (hF : Post (some (.int 1)) M (PT x)) : WA X ad ca LY RX10 cX10_sortOf 1 (some FieldType.int) (d + 1) 0 0 (a_E X ad ca LY Post) 24 [] [] M (PT x) := by
  refine wa_iconst (v := 1) dX10_sortOf_24 rfl ?_
  exact wa_iret dX10_sortOf_25 rfl rfl hF

theorem bX10_sortOf_26 {X : a_X} {ad : Nat → Nat} {ca : Nat → ClassId} {d : Nat} {Post : Option Value → a_M → a_P → Prop} {x : Nat} {M : a_M} (x0 : Int32)  (hF : ((x0 < 48 → WA X ad ca LY RX10 cX10_sortOf 1 (some FieldType.int) (d + 1) 0 0 (a_E X ad ca LY Post) 42 [] [] M (PT x)) ∧ (¬ x0 < 48 → ((57 < x0 → WA X ad ca LY RX10 cX10_sortOf 1 (some FieldType.int) (d + 1) 0 0 (a_E X ad ca LY Post) 42 [] [] M (PT x)) ∧ (¬ 57 < x0 → Post (some (.int 2)) M (PT x)))))) : WA X ad ca LY RX10 cX10_sortOf 1 (some FieldType.int) (d + 1) 0 0 (a_E X ad ca LY Post) 26 [(0, .int x0)] [] M (PT x) := by
  refine wa_iload_n dX10_sortOf_26 0 rfl rfl ?_
  refine wa_bipush (v := 48) dX10_sortOf_27 rfl ?_
  refine wa_icmp_lt (tgt := 42) dX10_sortOf_29 rfl (fun hc => ?_) (fun hc => ?_)
  · replace hF := hF.1 hc
    exact wa_pick [] rfl hF
  · replace hF := hF.2 hc
    refine wa_iload_n dX10_sortOf_32 0 rfl rfl ?_
    refine wa_bipush (v := 57) dX10_sortOf_33 rfl ?_
    refine wa_icmp_gt (tgt := 42) dX10_sortOf_35 rfl (fun hc => ?_) (fun hc => ?_)
    · replace hF := hF.1 hc
      exact wa_pick [] rfl hF
    · replace hF := hF.2 hc
      refine wa_iconst (v := 2) dX10_sortOf_38 rfl ?_
      refine wa_goto (tgt := 43) dX10_sortOf_39 rfl ?_
      exact wa_iret dX10_sortOf_43 rfl rfl hF

theorem bX10_sortOf_42 {X : a_X} {ad : Nat → Nat} {ca : Nat → ClassId} {d : Nat} {Post : Option Value → a_M → a_P → Prop} {x : Nat} {M : a_M}   (hF : Post (some (.int 0)) M (PT x)) : WA X ad ca LY RX10 cX10_sortOf 1 (some FieldType.int) (d + 1) 0 0 (a_E X ad ca LY Post) 42 [] [] M (PT x) := by
  refine wa_iconst (v := 0) dX10_sortOf_42 rfl ?_
  exact wa_iret dX10_sortOf_43 rfl rfl hF

theorem eX10_sortOf {X : a_X} {ad : Nat → Nat} {ca : Nat → ClassId} {d : Nat} {Post : Option Value → a_M → a_P → Prop} {x : Nat} {M : a_M} (x0 : Int32) (h : WA X ad ca LY RX10 cX10_sortOf 1 (some FieldType.int) d 0 0 (a_E X ad ca LY Post) 0 [(0, .int x0)] [] M (PT x)) : Mt X ad ca LY d yX10_sortOf cX10_sortOf 1 (some FieldType.int) [.int x0] M (PT x) Post := Mt.of (lv := [(0, .int x0)]) (by decide +kernel) rfl rfl rfl (wa_pick [0] rfl h)

theorem bX10_tokenOf_0 {X : a_X} {ad : Nat → Nat} {ca : Nat → ClassId} {d : Nat} {Post : Option Value → a_M → a_P → Prop} {x : Nat} {M : a_M} (x1 : Int32) (x2 : Int32)  (hF : (vp_in x1 300 ∧ (∃ Q1 : Int32 → a_M → Prop, Mt X ad ca LY d yX10_sortOf cX10_sortOf 1 (some FieldType.int) [.int (M 2 x1.toNatClampNeg)] M (PT x) (q_i (PT x) Q1) ∧ ∀ v1 M1, Q1 v1 M1 → ((¬ v1 = 1 → ((¬ v1 = 2 → (vp_in x1 300 ∧ Post (some (.int (M1 2 x1.toNatClampNeg))) M1 (PT x))) ∧ (v1 = 2 → (∃ Q2 : Int32 → a_M → Prop, Mt X ad ca LY d yX10_numberOf cX10_numberOf 5 (some FieldType.int) [.ref 1, .int x1, .int x2] M1 (PT x) (q_i (PT x) Q2) ∧ ∀ v2 M2, Q2 v2 M2 → Post (some (.int v2)) M2 (PT x))))) ∧ (v1 = 1 → (∃ Q3 : Int32 → a_M → Prop, Mt X ad ca LY d yX10_wordOf cX10_wordOf 3 (some FieldType.int) [.ref 1, .int x1, .int x2] M1 (PT x) (q_i (PT x) Q3) ∧ ∀ v3 M3, Q3 v3 M3 → Post (some (.int v3)) M3 (PT x))))))) : WA X ad ca LY RX10 cX10_tokenOf 4 (some FieldType.int) (d + 1) 0 0 (a_E X ad ca LY Post) 0 [(0, .ref 1), (1, .int x1), (2, .int x2)] [] M (PT x) := by
  refine wa_aload_n dX10_tokenOf_0 0 rfl rfl ?_
  refine wa_getr (r := 2) dX10_tokenOf_1 fkX10_9 rfl rfl rfl ?_
  refine wa_iload_n dX10_tokenOf_4 1 rfl rfl ?_
  obtain ⟨hi9, hF⟩ := hF
  refine wb_iald (j := x1.toNatClampNeg) (v := M 2 x1.toNatClampNeg) dX10_tokenOf_5 rfl hi9 rfl rfl ?_
  obtain ⟨Q1, hM9, hF⟩ := hF
  refine wa_callS [.int (M 2 x1.toNatClampNeg)] dX10_tokenOf_6 (mmX10_sortOf _ _) mlX10_31 mstX10_sortOf rfl (a_dlt d) rfl rfl hM9 ?_
  rintro r9 M1 P9 ⟨v1, rfl, rfl, hq9⟩
  replace hF := hF v1 M1 hq9
  simp only [Option.toList, List.cons_append, List.nil_append]
  refine wa_istore_n (lv' := [(3, .int v1), (0, .ref 1), (1, .int x1), (2, .int x2)]) dX10_tokenOf_9 rfl rfl rfl ?_
  refine wa_iload_n dX10_tokenOf_10 0 rfl rfl ?_
  refine wa_iconst (v := 1) dX10_tokenOf_11 rfl ?_
  refine wa_icmp_ne (tgt := 24) dX10_tokenOf_12 rfl (fun hc => ?_) (fun hc => ?_)
  · replace hF := hF.1 hc
    refine wa_iload_n dX10_tokenOf_24 0 rfl rfl ?_
    refine wa_iconst (v := 2) dX10_tokenOf_25 rfl ?_
    refine wa_icmp_ne (tgt := 38) dX10_tokenOf_26 rfl (fun hc => ?_) (fun hc => ?_)
    · replace hF := hF.1 hc
      refine wa_aload_n dX10_tokenOf_38 1 rfl rfl ?_
      refine wa_getr (r := 2) dX10_tokenOf_39 fkX10_9 rfl rfl rfl ?_
      refine wa_iload_n dX10_tokenOf_42 2 rfl rfl ?_
      obtain ⟨hi9, hF⟩ := hF
      refine wb_iald (j := x1.toNatClampNeg) (v := M1 2 x1.toNatClampNeg) dX10_tokenOf_43 rfl hi9 rfl rfl ?_
      exact wa_iret dX10_tokenOf_44 rfl rfl hF
    · replace hF := hF.2 hc
      refine wa_aload_n dX10_tokenOf_29 1 rfl rfl ?_
      refine wa_iload_n dX10_tokenOf_30 2 rfl rfl ?_
      refine wa_iload_n dX10_tokenOf_31 3 rfl rfl ?_
      obtain ⟨Q2, hM9, hF⟩ := hF
      refine wa_callV [.int x1, .int x2] dX10_tokenOf_32 (mmX10_numberOf _ _) mlX10_37 mnX10_numberOf mseX10_numberOf rfl rfl rfl rfl (a_dlt d) rfl rfl hM9 ?_
      rintro r9 M2 P9 ⟨v2, rfl, rfl, hq9⟩
      replace hF := hF v2 M2 hq9
      simp only [Option.toList, List.cons_append, List.nil_append]
      refine wa_goto (tgt := 44) dX10_tokenOf_35 rfl ?_
      exact wa_iret dX10_tokenOf_44 rfl rfl hF
  · replace hF := hF.2 hc
    refine wa_aload_n dX10_tokenOf_15 1 rfl rfl ?_
    refine wa_iload_n dX10_tokenOf_16 2 rfl rfl ?_
    refine wa_iload_n dX10_tokenOf_17 3 rfl rfl ?_
    obtain ⟨Q3, hM9, hF⟩ := hF
    refine wa_callV [.int x1, .int x2] dX10_tokenOf_18 (mmX10_wordOf _ _) mlX10_34 mnX10_wordOf mseX10_wordOf rfl rfl rfl rfl (a_dlt d) rfl rfl hM9 ?_
    rintro r9 M3 P9 ⟨v3, rfl, rfl, hq9⟩
    replace hF := hF v3 M3 hq9
    simp only [Option.toList, List.cons_append, List.nil_append]
    refine wa_goto (tgt := 44) dX10_tokenOf_21 rfl ?_
    exact wa_iret dX10_tokenOf_44 rfl rfl hF

theorem eX10_tokenOf {X : a_X} {ad : Nat → Nat} {ca : Nat → ClassId} {d : Nat} {Post : Option Value → a_M → a_P → Prop} {x : Nat} {M : a_M} (x1 : Int32) (x2 : Int32) (h : WA X ad ca LY RX10 cX10_tokenOf 4 (some FieldType.int) d 0 0 (a_E X ad ca LY Post) 0 [(0, .ref 1), (1, .int x1), (2, .int x2)] [] M (PT x)) : Mt X ad ca LY d yX10_tokenOf cX10_tokenOf 4 (some FieldType.int) [.ref 1, .int x1, .int x2] M (PT x) Post := Mt.of (lv := [(0, .ref 1), (1, .int x1), (2, .int x2)]) (by decide +kernel) rfl rfl rfl (wa_pick [0, 1, 2] rfl h)

theorem bX10_numberOf_0 {X : a_X} {ad : Nat → Nat} {ca : Nat → ClassId} {d : Nat} {kc ks : Nat} {QF : List Frame → Array Value → State → State → Prop} {x : Nat} {M : a_M} (x1 : Int32) (x2 : Int32)  (hF : WA X ad ca LY RX10 cX10_numberOf 5 (some FieldType.int) (d + 1) kc ks QF 5 [(0, .ref 1), (2, .int x2), (3, .int 0), (4, .int x1)] [] M (PT x)) : WA X ad ca LY RX10 cX10_numberOf 5 (some FieldType.int) (d + 1) kc ks QF 0 [(0, .ref 1), (1, .int x1), (2, .int x2)] [] M (PT x) := by
  refine wa_iconst (v := 0) dX10_numberOf_0 rfl ?_
  refine wa_istore_n (lv' := [(3, .int 0), (0, .ref 1), (1, .int x1), (2, .int x2)]) dX10_numberOf_1 rfl rfl rfl ?_
  refine wa_iload_n dX10_numberOf_2 2 rfl rfl ?_
  refine wa_istore (lv' := [(4, .int x1), (3, .int 0), (0, .ref 1), (1, .int x1), (2, .int x2)]) dX10_numberOf_3 rfl rfl ?_
  exact wa_pick [2, 4, 1, 0] rfl hF

theorem bX10_numberOf_5 {X : a_X} {ad : Nat → Nat} {ca : Nat → ClassId} {d : Nat} {Post : Option Value → a_M → a_P → Prop} {x : Nat} {M : a_M} (x2 : Int32) (x3 : Int32) (x4 : Int32)  (hF : ((x2 ≤ x4 → Post (some (.int (300 + x3))) M (PT x)) ∧ (¬ x2 ≤ x4 → (vp_in x4 300 ∧ (∃ Q1 : Int32 → a_M → Prop, Mt X ad ca LY d yJ9_min_7cf53 cJ9_min_7cf53 2 (some FieldType.int) [.int 10000, .int (((x3 * 10) + (M 2 x4.toNatClampNeg)) - 48)] M (PT x) (q_i (PT x) Q1) ∧ ∀ v1 M1, Q1 v1 M1 → WA X ad ca LY RX10 cX10_numberOf 5 (some FieldType.int) (d + 1) 0 0 (a_E X ad ca LY Post) 5 [(0, .ref 1), (2, .int x2), (3, .int v1), (4, .int (x4 + 1))] [] M1 (PT x)))))) : WA X ad ca LY RX10 cX10_numberOf 5 (some FieldType.int) (d + 1) 0 0 (a_E X ad ca LY Post) 5 [(0, .ref 1), (2, .int x2), (3, .int x3), (4, .int x4)] [] M (PT x) := by
  refine wa_iload dX10_numberOf_5 3 rfl ?_
  refine wa_iload_n dX10_numberOf_7 1 rfl rfl ?_
  refine wa_icmp_ge (tgt := 39) dX10_numberOf_8 rfl (fun hc => ?_) (fun hc => ?_)
  · replace hF := hF.1 hc
    refine wa_sipush (v := 300) dX10_numberOf_39 rfl ?_
    refine wa_iload_n dX10_numberOf_42 2 rfl rfl ?_
    refine wa_iadd dX10_numberOf_43 ?_
    exact wa_iret dX10_numberOf_44 rfl rfl hF
  · replace hF := hF.2 hc
    refine wa_sipush (v := 10000) dX10_numberOf_11 rfl ?_
    refine wa_iload_n dX10_numberOf_14 2 rfl rfl ?_
    refine wa_bipush (v := 10) dX10_numberOf_15 rfl ?_
    refine wa_imul dX10_numberOf_17 ?_
    refine wa_aload_n dX10_numberOf_18 0 rfl rfl ?_
    refine wa_getr (r := 2) dX10_numberOf_19 fkX10_9 rfl rfl rfl ?_
    refine wa_iload dX10_numberOf_22 3 rfl ?_
    obtain ⟨hi9, hF⟩ := hF
    refine wb_iald (j := x4.toNatClampNeg) (v := M 2 x4.toNatClampNeg) dX10_numberOf_24 rfl hi9 rfl rfl ?_
    refine wa_iadd dX10_numberOf_25 ?_
    refine wa_bipush (v := 48) dX10_numberOf_26 rfl ?_
    refine wa_isub dX10_numberOf_28 ?_
    obtain ⟨Q1, hM9, hF⟩ := hF
    refine wa_callS [.int 10000, .int (((x3 * 10) + (M 2 x4.toNatClampNeg)) - 48)] dX10_numberOf_29 (mmJ9_min_7cf53 _ _) mlX10_40 mstJ9_min_7cf53 rfl (a_dlt d) rfl rfl hM9 ?_
    rintro r9 M1 P9 ⟨v1, rfl, rfl, hq9⟩
    replace hF := hF v1 M1 hq9
    simp only [Option.toList, List.cons_append, List.nil_append]
    refine wa_istore_n (lv' := [(3, .int v1), (0, .ref 1), (2, .int x2), (4, .int x4)]) dX10_numberOf_32 rfl rfl rfl ?_
    refine wa_iinc (v := x4 + 1) (lv' := [(4, .int (x4 + 1)), (3, .int v1), (0, .ref 1), (2, .int x2)]) dX10_numberOf_33 3 rfl rfl rfl rfl ?_
    refine wa_goto (tgt := 5) dX10_numberOf_36 rfl ?_
    exact wa_pick [2, 3, 1, 0] rfl hF

theorem eX10_numberOf {X : a_X} {ad : Nat → Nat} {ca : Nat → ClassId} {d : Nat} {Post : Option Value → a_M → a_P → Prop} {x : Nat} {M : a_M} (x1 : Int32) (x2 : Int32) (h : WA X ad ca LY RX10 cX10_numberOf 5 (some FieldType.int) d 0 0 (a_E X ad ca LY Post) 0 [(0, .ref 1), (1, .int x1), (2, .int x2)] [] M (PT x)) : Mt X ad ca LY d yX10_numberOf cX10_numberOf 5 (some FieldType.int) [.ref 1, .int x1, .int x2] M (PT x) Post := Mt.of (lv := [(0, .ref 1), (1, .int x1), (2, .int x2)]) (by decide +kernel) rfl rfl rfl (wa_pick [0, 1, 2] rfl h)

theorem bX10_wordOf_0 {X : a_X} {ad : Nat → Nat} {ca : Nat → ClassId} {d : Nat} {Post : Option Value → a_M → a_P → Prop} {x : Nat} {M : a_M} (x1 : Int32) (x2 : Int32)  (hF : ((¬ (x2 - x1) = 1 → (∃ Q1 : Int32 → a_M → Prop, Mt X ad ca LY d yX10_isWord cX10_isWord 5 (some FieldType.boolean) [.ref 1, .ref 2000000, .int x1, .int x2] M (PT x) (q_i (PT x) Q1) ∧ ∀ v1 M1, Q1 v1 M1 → ((v1 = 0 → (∃ Q2 : Int32 → a_M → Prop, Mt X ad ca LY d yX10_isWord cX10_isWord 5 (some FieldType.boolean) [.ref 1, .ref 2000001, .int x1, .int x2] M1 (PT x) (q_i (PT x) Q2) ∧ ∀ v2 M2, Q2 v2 M2 → ((v2 = 0 → (∃ Q3 : Int32 → a_M → Prop, Mt X ad ca LY d yX10_isWord cX10_isWord 5 (some FieldType.boolean) [.ref 1, .ref 2000002, .int x1, .int x2] M2 (PT x) (q_i (PT x) Q3) ∧ ∀ v3 M3, Q3 v3 M3 → ((v3 = 0 → (∃ Q4 : Int32 → a_M → Prop, Mt X ad ca LY d yX10_isWord cX10_isWord 5 (some FieldType.boolean) [.ref 1, .ref 2000003, .int x1, .int x2] M3 (PT x) (q_i (PT x) Q4) ∧ ∀ v4 M4, Q4 v4 M4 → ((v4 = 0 → (∃ Q5 : Int32 → a_M → Prop, Mt X ad ca LY d yX10_isWord cX10_isWord 5 (some FieldType.boolean) [.ref 1, .ref 2000004, .int x1, .int x2] M4 (PT x) (q_i (PT x) Q5) ∧ ∀ v5 M5, Q5 v5 M5 → ((v5 = 0 → Post (some (.int 256)) M5 (PT x)) ∧ (¬ v5 = 0 → Post (some (.int 271)) M5 (PT x))))) ∧ (¬ v4 = 0 → Post (some (.int 263)) M4 (PT x))))) ∧ (¬ v3 = 0 → Post (some (.int 262)) M3 (PT x))))) ∧ (¬ v2 = 0 → Post (some (.int 261)) M2 (PT x))))) ∧ (¬ v1 = 0 → Post (some (.int 260)) M1 (PT x))))) ∧ ((x2 - x1) = 1 → (vp_in x1 300 ∧ (∃ Q6 : Int32 → a_M → Prop, Mt X ad ca LY d yX10_letterWord cX10_letterWord 1 (some FieldType.int) [.int (M 2 x1.toNatClampNeg)] M (PT x) (q_i (PT x) Q6) ∧ ∀ v6 M6, Q6 v6 M6 → Post (some (.int v6)) M6 (PT x)))))) : WA X ad ca LY RX10 cX10_wordOf 3 (some FieldType.int) (d + 1) 0 0 (a_E X ad ca LY Post) 0 [(0, .ref 1), (1, .int x1), (2, .int x2)] [] M (PT x) := by
  refine wa_iload_n dX10_wordOf_0 2 rfl rfl ?_
  refine wa_iload_n dX10_wordOf_1 1 rfl rfl ?_
  refine wa_isub dX10_wordOf_2 ?_
  refine wa_iconst (v := 1) dX10_wordOf_3 rfl ?_
  refine wa_icmp_ne (tgt := 17) dX10_wordOf_4 rfl (fun hc => ?_) (fun hc => ?_)
  · replace hF := hF.1 hc
    refine wa_aload_n dX10_wordOf_17 0 rfl rfl ?_
    refine wa_ldcS (k := 0) dX10_wordOf_18 rfl rfl ?_
    refine wa_iload_n dX10_wordOf_20 1 rfl rfl ?_
    refine wa_iload_n dX10_wordOf_21 2 rfl rfl ?_
    obtain ⟨Q1, hM9, hF⟩ := hF
    refine wa_callV [.ref 2000000, .int x1, .int x2] dX10_wordOf_22 (mmX10_isWord _ _) mlX10_50 mnX10_isWord mseX10_isWord rfl rfl rfl rfl (a_dlt d) rfl rfl hM9 ?_
    rintro r9 M1 P9 ⟨v1, rfl, rfl, hq9⟩
    replace hF := hF v1 M1 hq9
    simp only [Option.toList, List.cons_append, List.nil_append]
    refine wa_if_eq (tgt := 32) dX10_wordOf_25 rfl (fun hc => ?_) (fun hc => ?_)
    · replace hF := hF.1 hc
      refine wa_aload_n dX10_wordOf_32 0 rfl rfl ?_
      refine wa_ldcS (k := 1) dX10_wordOf_33 rfl rfl ?_
      refine wa_iload_n dX10_wordOf_35 1 rfl rfl ?_
      refine wa_iload_n dX10_wordOf_36 2 rfl rfl ?_
      obtain ⟨Q2, hM9, hF⟩ := hF
      refine wa_callV [.ref 2000001, .int x1, .int x2] dX10_wordOf_37 (mmX10_isWord _ _) mlX10_50 mnX10_isWord mseX10_isWord rfl rfl rfl rfl (a_dlt d) rfl rfl hM9 ?_
      rintro r9 M2 P9 ⟨v2, rfl, rfl, hq9⟩
      replace hF := hF v2 M2 hq9
      simp only [Option.toList, List.cons_append, List.nil_append]
      refine wa_if_eq (tgt := 47) dX10_wordOf_40 rfl (fun hc => ?_) (fun hc => ?_)
      · replace hF := hF.1 hc
        refine wa_aload_n dX10_wordOf_47 0 rfl rfl ?_
        refine wa_ldcS (k := 2) dX10_wordOf_48 rfl rfl ?_
        refine wa_iload_n dX10_wordOf_50 1 rfl rfl ?_
        refine wa_iload_n dX10_wordOf_51 2 rfl rfl ?_
        obtain ⟨Q3, hM9, hF⟩ := hF
        refine wa_callV [.ref 2000002, .int x1, .int x2] dX10_wordOf_52 (mmX10_isWord _ _) mlX10_50 mnX10_isWord mseX10_isWord rfl rfl rfl rfl (a_dlt d) rfl rfl hM9 ?_
        rintro r9 M3 P9 ⟨v3, rfl, rfl, hq9⟩
        replace hF := hF v3 M3 hq9
        simp only [Option.toList, List.cons_append, List.nil_append]
        refine wa_if_eq (tgt := 62) dX10_wordOf_55 rfl (fun hc => ?_) (fun hc => ?_)
        · replace hF := hF.1 hc
          refine wa_aload_n dX10_wordOf_62 0 rfl rfl ?_
          refine wa_ldcS (k := 3) dX10_wordOf_63 rfl rfl ?_
          refine wa_iload_n dX10_wordOf_65 1 rfl rfl ?_
          refine wa_iload_n dX10_wordOf_66 2 rfl rfl ?_
          obtain ⟨Q4, hM9, hF⟩ := hF
          refine wa_callV [.ref 2000003, .int x1, .int x2] dX10_wordOf_67 (mmX10_isWord _ _) mlX10_50 mnX10_isWord mseX10_isWord rfl rfl rfl rfl (a_dlt d) rfl rfl hM9 ?_
          rintro r9 M4 P9 ⟨v4, rfl, rfl, hq9⟩
          replace hF := hF v4 M4 hq9
          simp only [Option.toList, List.cons_append, List.nil_append]
          refine wa_if_eq (tgt := 77) dX10_wordOf_70 rfl (fun hc => ?_) (fun hc => ?_)
          · replace hF := hF.1 hc
            refine wa_aload_n dX10_wordOf_77 0 rfl rfl ?_
            refine wa_ldcS (k := 4) dX10_wordOf_78 rfl rfl ?_
            refine wa_iload_n dX10_wordOf_80 1 rfl rfl ?_
            refine wa_iload_n dX10_wordOf_81 2 rfl rfl ?_
            obtain ⟨Q5, hM9, hF⟩ := hF
            refine wa_callV [.ref 2000004, .int x1, .int x2] dX10_wordOf_82 (mmX10_isWord _ _) mlX10_50 mnX10_isWord mseX10_isWord rfl rfl rfl rfl (a_dlt d) rfl rfl hM9 ?_
            rintro r9 M5 P9 ⟨v5, rfl, rfl, hq9⟩
            replace hF := hF v5 M5 hq9
            simp only [Option.toList, List.cons_append, List.nil_append]
            refine wa_if_eq (tgt := 94) dX10_wordOf_85 rfl (fun hc => ?_) (fun hc => ?_)
            · replace hF := hF.1 hc
              refine wa_sipush (v := 256) dX10_wordOf_94 rfl ?_
              exact wa_iret dX10_wordOf_97 rfl rfl hF
            · replace hF := hF.2 hc
              refine wa_sipush (v := 271) dX10_wordOf_88 rfl ?_
              refine wa_goto (tgt := 97) dX10_wordOf_91 rfl ?_
              exact wa_iret dX10_wordOf_97 rfl rfl hF
          · replace hF := hF.2 hc
            refine wa_sipush (v := 263) dX10_wordOf_73 rfl ?_
            exact wa_iret dX10_wordOf_76 rfl rfl hF
        · replace hF := hF.2 hc
          refine wa_sipush (v := 262) dX10_wordOf_58 rfl ?_
          exact wa_iret dX10_wordOf_61 rfl rfl hF
      · replace hF := hF.2 hc
        refine wa_sipush (v := 261) dX10_wordOf_43 rfl ?_
        exact wa_iret dX10_wordOf_46 rfl rfl hF
    · replace hF := hF.2 hc
      refine wa_sipush (v := 260) dX10_wordOf_28 rfl ?_
      exact wa_iret dX10_wordOf_31 rfl rfl hF
  · replace hF := hF.2 hc
    refine wa_aload_n dX10_wordOf_7 0 rfl rfl ?_
    refine wa_getr (r := 2) dX10_wordOf_8 fkX10_9 rfl rfl rfl ?_
    refine wa_iload_n dX10_wordOf_11 1 rfl rfl ?_
    obtain ⟨hi9, hF⟩ := hF
    refine wb_iald (j := x1.toNatClampNeg) (v := M 2 x1.toNatClampNeg) dX10_wordOf_12 rfl hi9 rfl rfl ?_
    obtain ⟨Q6, hM9, hF⟩ := hF
    refine wa_callS [.int (M 2 x1.toNatClampNeg)] dX10_wordOf_13 (mmX10_letterWord _ _) mlX10_45 mstX10_letterWord rfl (a_dlt d) rfl rfl hM9 ?_
    rintro r9 M6 P9 ⟨v6, rfl, rfl, hq9⟩
    replace hF := hF v6 M6 hq9
    simp only [Option.toList, List.cons_append, List.nil_append]
    exact wa_iret dX10_wordOf_16 rfl rfl hF

theorem eX10_wordOf {X : a_X} {ad : Nat → Nat} {ca : Nat → ClassId} {d : Nat} {Post : Option Value → a_M → a_P → Prop} {x : Nat} {M : a_M} (x1 : Int32) (x2 : Int32) (h : WA X ad ca LY RX10 cX10_wordOf 3 (some FieldType.int) d 0 0 (a_E X ad ca LY Post) 0 [(0, .ref 1), (1, .int x1), (2, .int x2)] [] M (PT x)) : Mt X ad ca LY d yX10_wordOf cX10_wordOf 3 (some FieldType.int) [.ref 1, .int x1, .int x2] M (PT x) Post := Mt.of (lv := [(0, .ref 1), (1, .int x1), (2, .int x2)]) (by decide +kernel) rfl rfl rfl (wa_pick [0, 1, 2] rfl h)

theorem bX10_letterWord_0 {X : a_X} {ad : Nat → Nat} {ca : Nat → ClassId} {d : Nat} {Post : Option Value → a_M → a_P → Prop} {x : Nat} {M : a_M} (x0 : Int32)  (hF : ((x0 = 97 → Post (some (.int 257)) M (PT x)) ∧ (x0 = 98 → Post (some (.int 258)) M (PT x)) ∧ (x0 = 99 → Post (some (.int 259)) M (PT x)) ∧ (x0 = 100 → Post (some (.int 272)) M (PT x)) ∧ (x0 = 117 → Post (some (.int 270)) M (PT x)) ∧ (¬ x0 = 97 ∧ ¬ x0 = 98 ∧ ¬ x0 = 99 ∧ ¬ x0 = 100 ∧ ¬ x0 = 117 → Post (some (.int 256)) M (PT x)))) : WA X ad ca LY RX10 cX10_letterWord 1 (some FieldType.int) (d + 1) 0 0 (a_E X ad ca LY Post) 0 [(0, .int x0)] [] M (PT x) := by
  refine wa_iload_n dX10_letterWord_0 0 rfl rfl ?_
  by_cases hk0 : x0 = 97
  · replace hF := hF.1 hk0
    rw [hk0]
    refine wa_lookup (off := 51) (tgt := 52) dX10_letterWord_1 (by decide) rfl rfl ?_
    refine wa_sipush (v := 257) dX10_letterWord_52 rfl ?_
    exact wa_iret dX10_letterWord_55 rfl rfl hF
  replace hF := hF.2
  by_cases hk1 : x0 = 98
  · replace hF := hF.1 hk1
    rw [hk1]
    refine wa_lookup (off := 55) (tgt := 56) dX10_letterWord_1 (by decide) rfl rfl ?_
    refine wa_sipush (v := 258) dX10_letterWord_56 rfl ?_
    exact wa_iret dX10_letterWord_59 rfl rfl hF
  replace hF := hF.2
  by_cases hk2 : x0 = 99
  · replace hF := hF.1 hk2
    rw [hk2]
    refine wa_lookup (off := 59) (tgt := 60) dX10_letterWord_1 (by decide) rfl rfl ?_
    refine wa_sipush (v := 259) dX10_letterWord_60 rfl ?_
    exact wa_iret dX10_letterWord_63 rfl rfl hF
  replace hF := hF.2
  by_cases hk3 : x0 = 100
  · replace hF := hF.1 hk3
    rw [hk3]
    refine wa_lookup (off := 67) (tgt := 68) dX10_letterWord_1 (by decide) rfl rfl ?_
    refine wa_sipush (v := 272) dX10_letterWord_68 rfl ?_
    exact wa_iret dX10_letterWord_71 rfl rfl hF
  replace hF := hF.2
  by_cases hk4 : x0 = 117
  · replace hF := hF.1 hk4
    rw [hk4]
    refine wa_lookup (off := 63) (tgt := 64) dX10_letterWord_1 (by decide) rfl rfl ?_
    refine wa_sipush (v := 270) dX10_letterWord_64 rfl ?_
    exact wa_iret dX10_letterWord_67 rfl rfl hF
  replace hF := hF.2
  have ht0 : (x0).toInt ≠ 97 := a_ti hk0
  have ht1 : (x0).toInt ≠ 98 := a_ti hk1
  have ht2 : (x0).toInt ≠ 99 := a_ti hk2
  have ht3 : (x0).toInt ≠ 100 := a_ti hk3
  have ht4 : (x0).toInt ≠ 117 := a_ti hk4
  replace hF := hF ⟨hk0, hk1, hk2, hk3, hk4⟩
  refine wa_lookup (off := 71) (tgt := 72) dX10_letterWord_1 (by decide) (by simp [Op.lookupswitch.offset, ht0, ht1, ht2, ht3, ht4, Ne.symm ht0, Ne.symm ht1, Ne.symm ht2, Ne.symm ht3, Ne.symm ht4]) rfl ?_
  refine wa_sipush (v := 256) dX10_letterWord_72 rfl ?_
  exact wa_iret dX10_letterWord_75 rfl rfl hF

theorem eX10_letterWord {X : a_X} {ad : Nat → Nat} {ca : Nat → ClassId} {d : Nat} {Post : Option Value → a_M → a_P → Prop} {x : Nat} {M : a_M} (x0 : Int32) (h : WA X ad ca LY RX10 cX10_letterWord 1 (some FieldType.int) d 0 0 (a_E X ad ca LY Post) 0 [(0, .int x0)] [] M (PT x)) : Mt X ad ca LY d yX10_letterWord cX10_letterWord 1 (some FieldType.int) [.int x0] M (PT x) Post := Mt.of (lv := [(0, .int x0)]) (by decide +kernel) rfl rfl rfl (wa_pick [0] rfl h)

theorem bX11_chain_0 {X : a_X} {ad : Nat → Nat} {ca : Nat → ClassId} {d : Nat} {Post : Option Value → a_M → a_P → Prop} {x : Nat} {M : a_M} (x1 : Int32) (x2 : Int32)  (hF : ((x1 < 2 → WA X ad ca LY RX11 cX11_chain 3 (some FieldType.boolean) (d + 1) 0 0 (a_E X ad ca LY Post) 11 [] [] M (PT x)) ∧ (¬ x1 < 2 → ((x1 ≤ 7 → ((x2 = 0 ∨ x2 = 1) ∧ (∃ Q1 : a_M → Prop, Mt X ad ca LY d yX2_restart cX2_restart 1 none [.ref 46] (ms (ms M 45 0 x1) 45 1 x2) (PT x) (q_v (PT x) Q1) ∧ ∀ M1, Q1 M1 → Post (some (.int 1)) M1 (PT x)))) ∧ (¬ x1 ≤ 7 → WA X ad ca LY RX11 cX11_chain 3 (some FieldType.boolean) (d + 1) 0 0 (a_E X ad ca LY Post) 11 [] [] M (PT x)))))) : WA X ad ca LY RX11 cX11_chain 3 (some FieldType.boolean) (d + 1) 0 0 (a_E X ad ca LY Post) 0 [(0, .ref 0), (1, .int x1), (2, .int x2)] [] M (PT x) := by
  refine wa_iload_n dX11_chain_0 1 rfl rfl ?_
  refine wa_iconst (v := 2) dX11_chain_1 rfl ?_
  refine wa_icmp_lt (tgt := 11) dX11_chain_2 rfl (fun hc => ?_) (fun hc => ?_)
  · replace hF := hF.1 hc
    exact wa_pick [] rfl hF
  · replace hF := hF.2 hc
    refine wa_iload_n dX11_chain_5 1 rfl rfl ?_
    refine wa_bipush (v := 7) dX11_chain_6 rfl ?_
    refine wa_icmp_le (tgt := 13) dX11_chain_8 rfl (fun hc => ?_) (fun hc => ?_)
    · replace hF := hF.1 hc
      refine wa_aload_n dX11_chain_13 0 rfl rfl ?_
      refine wa_getr (r := 44) dX11_chain_14 fkX11_101 rfl rfl rfl ?_
      refine wa_getr (r := 45) dX11_chain_17 fkX11_108 rfl rfl rfl ?_
      refine wa_iload_n dX11_chain_20 1 rfl rfl ?_
      refine wb_puti dX11_chain_21 fkX11_111 fmX6_0 rfl rfl ?_
      refine wa_aload_n dX11_chain_24 0 rfl rfl ?_
      refine wa_getr (r := 44) dX11_chain_25 fkX11_101 rfl rfl rfl ?_
      refine wa_getr (r := 45) dX11_chain_28 fkX11_108 rfl rfl rfl ?_
      refine wa_iload_n dX11_chain_31 2 rfl rfl ?_
      obtain ⟨hz9, hF⟩ := hF
      refine wb_putz dX11_chain_32 fkX11_115 fmX6_1 rfl rfl hz9 ?_
      refine wa_aload_n dX11_chain_35 0 rfl rfl ?_
      refine wa_getr (r := 44) dX11_chain_36 fkX11_101 rfl rfl rfl ?_
      refine wa_getr (r := 46) dX11_chain_39 fkX11_119 rfl rfl rfl ?_
      obtain ⟨Q1, hM9, hF⟩ := hF
      refine wa_callV [] dX11_chain_42 (mmX2_restart _ _) mlX11_123 mnX2_restart mseX2_restart rfl rfl rfl rfl (a_dlt d) rfl rfl hM9 ?_
      rintro r9 M1 P9 ⟨rfl, rfl, hq9⟩
      replace hF := hF M1 hq9
      simp only [Option.toList, List.nil_append]
      refine wa_iconst (v := 1) dX11_chain_45 rfl ?_
      exact wa_iret dX11_chain_46 rfl rfl hF
    · replace hF := hF.2 hc
      exact wa_pick [] rfl hF

theorem bX11_chain_11 {X : a_X} {ad : Nat → Nat} {ca : Nat → ClassId} {d : Nat} {Post : Option Value → a_M → a_P → Prop} {x : Nat} {M : a_M}   (hF : Post (some (.int 0)) M (PT x)) : WA X ad ca LY RX11 cX11_chain 3 (some FieldType.boolean) (d + 1) 0 0 (a_E X ad ca LY Post) 11 [] [] M (PT x) := by
  refine wa_iconst (v := 0) dX11_chain_11 rfl ?_
  exact wa_iret dX11_chain_12 rfl rfl hF

theorem eX11_chain {X : a_X} {ad : Nat → Nat} {ca : Nat → ClassId} {d : Nat} {Post : Option Value → a_M → a_P → Prop} {x : Nat} {M : a_M} (x1 : Int32) (x2 : Int32) (h : WA X ad ca LY RX11 cX11_chain 3 (some FieldType.boolean) d 0 0 (a_E X ad ca LY Post) 0 [(0, .ref 0), (1, .int x1), (2, .int x2)] [] M (PT x)) : Mt X ad ca LY d yX11_chain cX11_chain 3 (some FieldType.boolean) [.ref 0, .int x1, .int x2] M (PT x) Post := Mt.of (lv := [(0, .ref 0), (1, .int x1), (2, .int x2)]) (by decide +kernel) rfl rfl rfl (wa_pick [0, 1, 2] rfl h)

theorem bX11_prime_0 {X : a_X} {ad : Nat → Nat} {ca : Nat → ClassId} {d : Nat} {Post : Option Value → a_M → a_P → Prop} {x : Nat} {M : a_M} (x1 : Int32)  (hF : (∃ Q1 : Int32 → a_M → Prop, Mt X ad ca LY d yX11_isPrime cX11_isPrime 2 (some FieldType.boolean) [.int x1] M (PT x) (q_i (PT x) Q1) ∧ ∀ v1 M1, Q1 v1 M1 → ((¬ v1 = 0 → (∃ Q2 : Int32 → a_M → Prop, Mt X ad ca LY d yX11_left cX11_left 3 (some FieldType.int) [.int (M1 45 4), .int x1] (ms M1 45 2 x1) (PT x) (q_i (PT x) Q2) ∧ ∀ v2 M2, Q2 v2 M2 → (∃ Q3 : Int32 → a_M → Prop, Mt X ad ca LY d yX11_left cX11_left 3 (some FieldType.int) [.int (M2 45 3), .int x1] (ms M2 45 4 v2) (PT x) (q_i (PT x) Q3) ∧ ∀ v3 M3, Q3 v3 M3 → (∃ Q4 : Int32 → a_M → Prop, Mt X ad ca LY d yJ9_max_7cf53 cJ9_max_7cf53 2 (some FieldType.int) [.int 1, .int v3] M3 (PT x) (q_i (PT x) Q4) ∧ ∀ v4 M4, Q4 v4 M4 → (∃ Q5 : a_M → Prop, Mt X ad ca LY d yX2_takeBy cX2_takeBy 5 none [.ref 46, .int x1] (ms M4 45 3 v4) (PT x) (q_v (PT x) Q5) ∧ ∀ M5, Q5 M5 → Post (some (.int 1)) M5 (PT x)))))) ∧ (v1 = 0 → Post (some (.int 0)) M1 (PT x))))) : WA X ad ca LY RX11 cX11_prime 3 (some FieldType.boolean) (d + 1) 0 0 (a_E X ad ca LY Post) 0 [(0, .ref 0), (1, .int x1)] [] M (PT x) := by
  refine wa_iload_n dX11_prime_0 1 rfl rfl ?_
  obtain ⟨Q1, hM9, hF⟩ := hF
  refine wa_callS [.int x1] dX11_prime_1 (mmX11_isPrime _ _) mlX11_128 mstX11_isPrime rfl (a_dlt d) rfl rfl hM9 ?_
  rintro r9 M1 P9 ⟨v1, rfl, rfl, hq9⟩
  replace hF := hF v1 M1 hq9
  simp only [Option.toList, List.cons_append, List.nil_append]
  refine wa_if_ne (tgt := 9) dX11_prime_4 rfl (fun hc => ?_) (fun hc => ?_)
  · replace hF := hF.1 hc
    refine wa_aload_n dX11_prime_9 0 rfl rfl ?_
    refine wa_getr (r := 44) dX11_prime_10 fkX11_101 rfl rfl rfl ?_
    refine wa_getr (r := 45) dX11_prime_13 fkX11_108 rfl rfl rfl ?_
    refine wa_astore_n (lv' := [(2, .ref 45), (0, .ref 0), (1, .int x1)]) dX11_prime_16 rfl rfl rfl ?_
    refine wa_aload_n dX11_prime_17 0 rfl rfl ?_
    refine wa_iload_n dX11_prime_18 2 rfl rfl ?_
    refine wb_puti dX11_prime_19 fkX11_132 fmX6_2 rfl rfl ?_
    refine wa_aload_n dX11_prime_22 0 rfl rfl ?_
    refine wa_aload_n dX11_prime_23 0 rfl rfl ?_
    refine wb_geti (v := M1 45 4) dX11_prime_24 fkX11_135 rfl rfl ((ms_no M1 45 2 x1 45 4 (fun h9 => absurd h9.2 (by decide))).trans rfl) ?_
    refine wa_iload_n dX11_prime_27 2 rfl rfl ?_
    obtain ⟨Q2, hM9, hF⟩ := hF
    refine wa_callS [.int (M1 45 4), .int x1] dX11_prime_28 (mmX11_left _ _) mlX11_138 mstX11_left rfl (a_dlt d) rfl rfl hM9 ?_
    rintro r9 M2 P9 ⟨v2, rfl, rfl, hq9⟩
    replace hF := hF v2 M2 hq9
    simp only [Option.toList, List.cons_append, List.nil_append]
    refine wb_puti dX11_prime_31 fkX11_135 fmX6_4 rfl rfl ?_
    refine wa_aload_n dX11_prime_34 0 rfl rfl ?_
    refine wa_iconst (v := 1) dX11_prime_35 rfl ?_
    refine wa_aload_n dX11_prime_36 0 rfl rfl ?_
    refine wb_geti (v := M2 45 3) dX11_prime_37 fkX11_141 rfl rfl ((ms_no M2 45 4 v2 45 3 (fun h9 => absurd h9.2 (by decide))).trans rfl) ?_
    refine wa_iload_n dX11_prime_40 2 rfl rfl ?_
    obtain ⟨Q3, hM9, hF⟩ := hF
    refine wa_callS [.int (M2 45 3), .int x1] dX11_prime_41 (mmX11_left _ _) mlX11_138 mstX11_left rfl (a_dlt d) rfl rfl hM9 ?_
    rintro r9 M3 P9 ⟨v3, rfl, rfl, hq9⟩
    replace hF := hF v3 M3 hq9
    simp only [Option.toList, List.cons_append, List.nil_append]
    obtain ⟨Q4, hM9, hF⟩ := hF
    refine wa_callS [.int 1, .int v3] dX11_prime_44 (mmJ9_max_7cf53 _ _) mlX11_93 mstJ9_max_7cf53 rfl (a_dlt d) rfl rfl hM9 ?_
    rintro r9 M4 P9 ⟨v4, rfl, rfl, hq9⟩
    replace hF := hF v4 M4 hq9
    simp only [Option.toList, List.cons_append, List.nil_append]
    refine wb_puti dX11_prime_47 fkX11_141 fmX6_3 rfl rfl ?_
    refine wa_aload_n dX11_prime_50 1 rfl rfl ?_
    refine wa_getr (r := 44) dX11_prime_51 fkX11_101 rfl rfl rfl ?_
    refine wa_getr (r := 46) dX11_prime_54 fkX11_119 rfl rfl rfl ?_
    refine wa_iload_n dX11_prime_57 2 rfl rfl ?_
    obtain ⟨Q5, hM9, hF⟩ := hF
    refine wa_callV [.int x1] dX11_prime_58 (mmX2_takeBy _ _) mlX11_144 mnX2_takeBy mseX2_takeBy rfl rfl rfl rfl (a_dlt d) rfl rfl hM9 ?_
    rintro r9 M5 P9 ⟨rfl, rfl, hq9⟩
    replace hF := hF M5 hq9
    simp only [Option.toList, List.nil_append]
    refine wa_iconst (v := 1) dX11_prime_61 rfl ?_
    exact wa_iret dX11_prime_62 rfl rfl hF
  · replace hF := hF.2 hc
    refine wa_iconst (v := 0) dX11_prime_7 rfl ?_
    exact wa_iret dX11_prime_8 rfl rfl hF

theorem eX11_prime {X : a_X} {ad : Nat → Nat} {ca : Nat → ClassId} {d : Nat} {Post : Option Value → a_M → a_P → Prop} {x : Nat} {M : a_M} (x1 : Int32) (h : WA X ad ca LY RX11 cX11_prime 3 (some FieldType.boolean) d 0 0 (a_E X ad ca LY Post) 0 [(0, .ref 0), (1, .int x1)] [] M (PT x)) : Mt X ad ca LY d yX11_prime cX11_prime 3 (some FieldType.boolean) [.ref 0, .int x1] M (PT x) Post := Mt.of (lv := [(0, .ref 0), (1, .int x1)]) (by decide +kernel) rfl rfl rfl (wa_pick [0, 1] rfl h)

theorem bX11_numbers_0 {X : a_X} {ad : Nat → Nat} {ca : Nat → ClassId} {d : Nat} {Post : Option Value → a_M → a_P → Prop} {x : Nat} {M : a_M} (x1 : Int32) (x2 : Int32)  (hF : ((x1 = 0 → WA X ad ca LY RX11 cX11_numbers 4 (some FieldType.boolean) (d + 1) 0 0 (a_E X ad ca LY Post) 28 [] [] M (PT x)) ∧ (¬ x1 = 0 → (∃ Q1 : Int32 → a_M → Prop, Mt X ad ca LY d yX6_isNumber cX6_isNumber 2 (some FieldType.boolean) [.ref 45, .int x1] M (PT x) (q_i (PT x) Q1) ∧ ∀ v1 M1, Q1 v1 M1 → ((v1 = 0 → WA X ad ca LY RX11 cX11_numbers 4 (some FieldType.boolean) (d + 1) 0 0 (a_E X ad ca LY Post) 28 [] [] M1 (PT x)) ∧ (¬ v1 = 0 → (∃ Q2 : Int32 → a_M → Prop, Mt X ad ca LY d yX6_isNumber cX6_isNumber 2 (some FieldType.boolean) [.ref 45, .int x2] M1 (PT x) (q_i (PT x) Q2) ∧ ∀ v2 M2, Q2 v2 M2 → ((¬ v2 = 0 → Post (some (.int 1)) (ms (ms M2 45 3 x1) 45 4 x2) (PT x)) ∧ (v2 = 0 → WA X ad ca LY RX11 cX11_numbers 4 (some FieldType.boolean) (d + 1) 0 0 (a_E X ad ca LY Post) 28 [] [] M2 (PT x)))))))))) : WA X ad ca LY RX11 cX11_numbers 4 (some FieldType.boolean) (d + 1) 0 0 (a_E X ad ca LY Post) 0 [(0, .ref 0), (1, .int x1), (2, .int x2)] [] M (PT x) := by
  refine wa_aload_n dX11_numbers_0 0 rfl rfl ?_
  refine wa_getr (r := 44) dX11_numbers_1 fkX11_101 rfl rfl rfl ?_
  refine wa_getr (r := 45) dX11_numbers_4 fkX11_108 rfl rfl rfl ?_
  refine wa_astore_n (lv' := [(3, .ref 45), (0, .ref 0), (1, .int x1), (2, .int x2)]) dX11_numbers_7 rfl rfl rfl ?_
  refine wa_iload_n dX11_numbers_8 2 rfl rfl ?_
  refine wa_if_eq (tgt := 28) dX11_numbers_9 rfl (fun hc => ?_) (fun hc => ?_)
  · replace hF := hF.1 hc
    exact wa_pick [] rfl hF
  · replace hF := hF.2 hc
    refine wa_aload_n dX11_numbers_12 0 rfl rfl ?_
    refine wa_iload_n dX11_numbers_13 2 rfl rfl ?_
    obtain ⟨Q1, hM9, hF⟩ := hF
    refine wa_callV [.int x1] dX11_numbers_14 (mmX6_isNumber _ _) mlX11_147 mnX6_isNumber mseX6_isNumber rfl rfl rfl rfl (a_dlt d) rfl rfl hM9 ?_
    rintro r9 M1 P9 ⟨v1, rfl, rfl, hq9⟩
    replace hF := hF v1 M1 hq9
    simp only [Option.toList, List.cons_append, List.nil_append]
    refine wa_if_eq (tgt := 28) dX11_numbers_17 rfl (fun hc => ?_) (fun hc => ?_)
    · replace hF := hF.1 hc
      exact wa_pick [] rfl hF
    · replace hF := hF.2 hc
      refine wa_aload_n dX11_numbers_20 0 rfl rfl ?_
      refine wa_iload_n dX11_numbers_21 3 rfl rfl ?_
      obtain ⟨Q2, hM9, hF⟩ := hF
      refine wa_callV [.int x2] dX11_numbers_22 (mmX6_isNumber _ _) mlX11_147 mnX6_isNumber mseX6_isNumber rfl rfl rfl rfl (a_dlt d) rfl rfl hM9 ?_
      rintro r9 M2 P9 ⟨v2, rfl, rfl, hq9⟩
      replace hF := hF v2 M2 hq9
      simp only [Option.toList, List.cons_append, List.nil_append]
      refine wa_if_ne (tgt := 30) dX11_numbers_25 rfl (fun hc => ?_) (fun hc => ?_)
      · replace hF := hF.1 hc
        refine wa_aload_n dX11_numbers_30 0 rfl rfl ?_
        refine wa_iload_n dX11_numbers_31 2 rfl rfl ?_
        refine wb_puti dX11_numbers_32 fkX11_141 fmX6_3 rfl rfl ?_
        refine wa_aload_n dX11_numbers_35 0 rfl rfl ?_
        refine wa_iload_n dX11_numbers_36 3 rfl rfl ?_
        refine wb_puti dX11_numbers_37 fkX11_135 fmX6_4 rfl rfl ?_
        refine wa_iconst (v := 1) dX11_numbers_40 rfl ?_
        exact wa_iret dX11_numbers_41 rfl rfl hF
      · replace hF := hF.2 hc
        exact wa_pick [] rfl hF

theorem bX11_numbers_28 {X : a_X} {ad : Nat → Nat} {ca : Nat → ClassId} {d : Nat} {Post : Option Value → a_M → a_P → Prop} {x : Nat} {M : a_M}   (hF : Post (some (.int 0)) M (PT x)) : WA X ad ca LY RX11 cX11_numbers 4 (some FieldType.boolean) (d + 1) 0 0 (a_E X ad ca LY Post) 28 [] [] M (PT x) := by
  refine wa_iconst (v := 0) dX11_numbers_28 rfl ?_
  exact wa_iret dX11_numbers_29 rfl rfl hF

theorem eX11_numbers {X : a_X} {ad : Nat → Nat} {ca : Nat → ClassId} {d : Nat} {Post : Option Value → a_M → a_P → Prop} {x : Nat} {M : a_M} (x1 : Int32) (x2 : Int32) (h : WA X ad ca LY RX11 cX11_numbers 4 (some FieldType.boolean) d 0 0 (a_E X ad ca LY Post) 0 [(0, .ref 0), (1, .int x1), (2, .int x2)] [] M (PT x)) : Mt X ad ca LY d yX11_numbers cX11_numbers 4 (some FieldType.boolean) [.ref 0, .int x1, .int x2] M (PT x) Post := Mt.of (lv := [(0, .ref 0), (1, .int x1), (2, .int x2)]) (by decide +kernel) rfl rfl rfl (wa_pick [0, 1, 2] rfl h)

theorem bX11_feed_0 {X : a_X} {ad : Nat → Nat} {ca : Nat → ClassId} {d : Nat} {Post : Option Value → a_M → a_P → Prop} {x : Nat} {M : a_M} (x1 : Int32) (x2 : Int32) (x3 : Int32) (x4 : Int32) (x5 : Int32)  (hF : ((((M 1 3) + 20) ≤ 300 → (∃ Q1 : a_M → Prop, Mt X ad ca LY d yX10_add cX10_add 3 none [.ref 1, .int x1] M (PT x) (q_v (PT x) Q1) ∧ ∀ M1, Q1 M1 → (∃ Q2 : a_M → Prop, Mt X ad ca LY d yX10_add cX10_add 3 none [.ref 1, .int x2] M1 (PT x) (q_v (PT x) Q2) ∧ ∀ M2, Q2 M2 → (∃ Q3 : a_M → Prop, Mt X ad ca LY d yX10_add cX10_add 3 none [.ref 1, .int x3] M2 (PT x) (q_v (PT x) Q3) ∧ ∀ M3, Q3 M3 → (∃ Q4 : a_M → Prop, Mt X ad ca LY d yX10_add cX10_add 3 none [.ref 1, .int x4] M3 (PT x) (q_v (PT x) Q4) ∧ ∀ M4, Q4 M4 → (∃ Q5 : a_M → Prop, Mt X ad ca LY d yX10_add cX10_add 3 none [.ref 1, .int x5] M4 (PT x) (q_v (PT x) Q5) ∧ ∀ M5, Q5 M5 → Post (some (.int (M5 1 3))) M5 (PT x))))))) ∧ (¬ ((M 1 3) + 20) ≤ 300 → Post (some (.int (-1))) M (PT x)))) : WA X ad ca LY RX11 cX11_feed 6 (some FieldType.int) (d + 1) 0 0 (a_E X ad ca LY Post) 0 [(0, .ref 0), (1, .int x1), (2, .int x2), (3, .int x3), (4, .int x4), (5, .int x5)] [] M (PT x) := by
  refine wa_aload_n dX11_feed_0 0 rfl rfl ?_
  refine wa_getr (r := 1) dX11_feed_1 fkX11_10 rfl rfl rfl ?_
  refine wb_geti (v := M 1 3) dX11_feed_4 fkX11_150 rfl rfl rfl ?_
  refine wa_bipush (v := 20) dX11_feed_7 rfl ?_
  refine wa_iadd dX11_feed_9 ?_
  refine wa_sipush (v := 300) dX11_feed_10 rfl ?_
  refine wa_icmp_le (tgt := 18) dX11_feed_13 rfl (fun hc => ?_) (fun hc => ?_)
  · replace hF := hF.1 hc
    refine wa_aload_n dX11_feed_18 0 rfl rfl ?_
    refine wa_getr (r := 1) dX11_feed_19 fkX11_10 rfl rfl rfl ?_
    refine wa_iload_n dX11_feed_22 1 rfl rfl ?_
    obtain ⟨Q1, hM9, hF⟩ := hF
    refine wa_callV [.int x1] dX11_feed_23 (mmX10_add _ _) mlX11_153 mnX10_add mseX10_add rfl rfl rfl rfl (a_dlt d) rfl rfl hM9 ?_
    rintro r9 M1 P9 ⟨rfl, rfl, hq9⟩
    replace hF := hF M1 hq9
    simp only [Option.toList, List.nil_append]
    refine wa_aload_n dX11_feed_26 0 rfl rfl ?_
    refine wa_getr (r := 1) dX11_feed_27 fkX11_10 rfl rfl rfl ?_
    refine wa_iload_n dX11_feed_30 2 rfl rfl ?_
    obtain ⟨Q2, hM9, hF⟩ := hF
    refine wa_callV [.int x2] dX11_feed_31 (mmX10_add _ _) mlX11_153 mnX10_add mseX10_add rfl rfl rfl rfl (a_dlt d) rfl rfl hM9 ?_
    rintro r9 M2 P9 ⟨rfl, rfl, hq9⟩
    replace hF := hF M2 hq9
    simp only [Option.toList, List.nil_append]
    refine wa_aload_n dX11_feed_34 0 rfl rfl ?_
    refine wa_getr (r := 1) dX11_feed_35 fkX11_10 rfl rfl rfl ?_
    refine wa_iload_n dX11_feed_38 3 rfl rfl ?_
    obtain ⟨Q3, hM9, hF⟩ := hF
    refine wa_callV [.int x3] dX11_feed_39 (mmX10_add _ _) mlX11_153 mnX10_add mseX10_add rfl rfl rfl rfl (a_dlt d) rfl rfl hM9 ?_
    rintro r9 M3 P9 ⟨rfl, rfl, hq9⟩
    replace hF := hF M3 hq9
    simp only [Option.toList, List.nil_append]
    refine wa_aload_n dX11_feed_42 0 rfl rfl ?_
    refine wa_getr (r := 1) dX11_feed_43 fkX11_10 rfl rfl rfl ?_
    refine wa_iload dX11_feed_46 4 rfl ?_
    obtain ⟨Q4, hM9, hF⟩ := hF
    refine wa_callV [.int x4] dX11_feed_48 (mmX10_add _ _) mlX11_153 mnX10_add mseX10_add rfl rfl rfl rfl (a_dlt d) rfl rfl hM9 ?_
    rintro r9 M4 P9 ⟨rfl, rfl, hq9⟩
    replace hF := hF M4 hq9
    simp only [Option.toList, List.nil_append]
    refine wa_aload_n dX11_feed_51 0 rfl rfl ?_
    refine wa_getr (r := 1) dX11_feed_52 fkX11_10 rfl rfl rfl ?_
    refine wa_iload dX11_feed_55 5 rfl ?_
    obtain ⟨Q5, hM9, hF⟩ := hF
    refine wa_callV [.int x5] dX11_feed_57 (mmX10_add _ _) mlX11_153 mnX10_add mseX10_add rfl rfl rfl rfl (a_dlt d) rfl rfl hM9 ?_
    rintro r9 M5 P9 ⟨rfl, rfl, hq9⟩
    replace hF := hF M5 hq9
    simp only [Option.toList, List.nil_append]
    refine wa_aload_n dX11_feed_60 0 rfl rfl ?_
    refine wa_getr (r := 1) dX11_feed_61 fkX11_10 rfl rfl rfl ?_
    refine wb_geti (v := M5 1 3) dX11_feed_64 fkX11_150 rfl rfl rfl ?_
    exact wa_iret dX11_feed_67 rfl rfl hF
  · replace hF := hF.2 hc
    refine wa_iconst (v := (-1)) dX11_feed_16 rfl ?_
    exact wa_iret dX11_feed_17 rfl rfl hF

theorem eX11_feed {X : a_X} {ad : Nat → Nat} {ca : Nat → ClassId} {d : Nat} {Post : Option Value → a_M → a_P → Prop} {x : Nat} {M : a_M} (x1 : Int32) (x2 : Int32) (x3 : Int32) (x4 : Int32) (x5 : Int32) (h : WA X ad ca LY RX11 cX11_feed 6 (some FieldType.int) d 0 0 (a_E X ad ca LY Post) 0 [(0, .ref 0), (1, .int x1), (2, .int x2), (3, .int x3), (4, .int x4), (5, .int x5)] [] M (PT x)) : Mt X ad ca LY d yX11_feed cX11_feed 6 (some FieldType.int) [.ref 0, .int x1, .int x2, .int x3, .int x4, .int x5] M (PT x) Post := Mt.of (lv := [(0, .ref 0), (1, .int x1), (2, .int x2), (3, .int x3), (4, .int x4), (5, .int x5)]) (by decide +kernel) rfl rfl rfl (wa_pick [0, 1, 2, 3, 4, 5] rfl h)

theorem bX11_end_0 {X : a_X} {ad : Nat → Nat} {ca : Nat → ClassId} {d : Nat} {Post : Option Value → a_M → a_P → Prop} {x : Nat} {M : a_M} (x1 : Int32)  (hF : ((x1 < 0 → WA X ad ca LY RX11 cX11_end 2 (some FieldType.int) (d + 1) 0 0 (a_E X ad ca LY Post) 15 [] [] M (PT x)) ∧ (¬ x1 < 0 → ((x1 ≤ (M 1 3) → Post (some (.int x1)) (ms M 1 3 x1) (PT x)) ∧ (¬ x1 ≤ (M 1 3) → WA X ad ca LY RX11 cX11_end 2 (some FieldType.int) (d + 1) 0 0 (a_E X ad ca LY Post) 15 [] [] M (PT x)))))) : WA X ad ca LY RX11 cX11_end 2 (some FieldType.int) (d + 1) 0 0 (a_E X ad ca LY Post) 0 [(0, .ref 0), (1, .int x1)] [] M (PT x) := by
  refine wa_iload_n dX11_end_0 1 rfl rfl ?_
  refine wa_if_lt (tgt := 15) dX11_end_1 rfl (fun hc => ?_) (fun hc => ?_)
  · replace hF := hF.1 hc
    exact wa_pick [] rfl hF
  · replace hF := hF.2 hc
    refine wa_iload_n dX11_end_4 1 rfl rfl ?_
    refine wa_aload_n dX11_end_5 0 rfl rfl ?_
    refine wa_getr (r := 1) dX11_end_6 fkX11_10 rfl rfl rfl ?_
    refine wb_geti (v := M 1 3) dX11_end_9 fkX11_150 rfl rfl rfl ?_
    refine wa_icmp_le (tgt := 17) dX11_end_12 rfl (fun hc => ?_) (fun hc => ?_)
    · replace hF := hF.1 hc
      refine wa_aload_n dX11_end_17 0 rfl rfl ?_
      refine wa_getr (r := 1) dX11_end_18 fkX11_10 rfl rfl rfl ?_
      refine wa_iload_n dX11_end_21 1 rfl rfl ?_
      refine wb_puti dX11_end_22 fkX11_150 fmX10_3 rfl rfl ?_
      refine wa_iload_n dX11_end_25 1 rfl rfl ?_
      exact wa_iret dX11_end_26 rfl rfl hF
    · replace hF := hF.2 hc
      exact wa_pick [] rfl hF

theorem bX11_end_15 {X : a_X} {ad : Nat → Nat} {ca : Nat → ClassId} {d : Nat} {Post : Option Value → a_M → a_P → Prop} {x : Nat} {M : a_M}   (hF : Post (some (.int (-1))) M (PT x)) : WA X ad ca LY RX11 cX11_end 2 (some FieldType.int) (d + 1) 0 0 (a_E X ad ca LY Post) 15 [] [] M (PT x) := by
  refine wa_iconst (v := (-1)) dX11_end_15 rfl ?_
  exact wa_iret dX11_end_16 rfl rfl hF

theorem eX11_end {X : a_X} {ad : Nat → Nat} {ca : Nat → ClassId} {d : Nat} {Post : Option Value → a_M → a_P → Prop} {x : Nat} {M : a_M} (x1 : Int32) (h : WA X ad ca LY RX11 cX11_end 2 (some FieldType.int) d 0 0 (a_E X ad ca LY Post) 0 [(0, .ref 0), (1, .int x1)] [] M (PT x)) : Mt X ad ca LY d yX11_end cX11_end 2 (some FieldType.int) [.ref 0, .int x1] M (PT x) Post := Mt.of (lv := [(0, .ref 0), (1, .int x1)]) (by decide +kernel) rfl rfl rfl (wa_pick [0, 1] rfl h)

theorem bX11_text_0 {X : a_X} {ad : Nat → Nat} {ca : Nat → ClassId} {d : Nat} {Post : Option Value → a_M → a_P → Prop} {x : Nat} {M : a_M}   (hF : (((M 44 2) < 0 → WA X ad ca LY RX11 cX11_text 3 (some FieldType.int) (d + 1) 0 0 (a_E X ad ca LY Post) 21 [] [] M (PT x)) ∧ (¬ (M 44 2) < 0 → (((M 44 2) < 4 → (vp_in (M 44 2) 4 ∧ ∃ r1 nr1 : Nat, PT x 5 ((M 44 2).toNatClampNeg) = r1 + 1 ∧ (nr1 = 0 ∧ LY[r1]? = some (7, 7)) ∧ (∃ Q2 : Int32 → a_M → Prop, Mt X ad ca LY d yX5_readInto cX5_readInto 4 (some FieldType.boolean) [.ref 12, .ref r1] M (PT x) (q_i (PT r1) Q2) ∧ ∀ v2 M2, Q2 v2 M2 → ((¬ v2 = 0 → Post (some (.int (M 44 2))) (ms (ms M2 1 3 0) 44 2 ((M 44 2) + 1)) (PT r1)) ∧ (v2 = 0 → Post (some (.int (-1))) (ms M2 1 3 0) (PT r1)))))) ∧ (¬ (M 44 2) < 4 → WA X ad ca LY RX11 cX11_text 3 (some FieldType.int) (d + 1) 0 0 (a_E X ad ca LY Post) 21 [] [] M (PT x)))))) : WA X ad ca LY RX11 cX11_text 3 (some FieldType.int) (d + 1) 0 0 (a_E X ad ca LY Post) 0 [(0, .ref 0)] [] M (PT x) := by
  refine wa_aload_n dX11_text_0 0 rfl rfl ?_
  refine wa_getr (r := 44) dX11_text_1 fkX11_101 rfl rfl rfl ?_
  refine wb_geti (v := M 44 2) dX11_text_4 fkX11_156 rfl rfl rfl ?_
  refine wa_istore_n (lv' := [(1, .int (M 44 2)), (0, .ref 0)]) dX11_text_7 rfl rfl rfl ?_
  refine wa_iload_n dX11_text_8 0 rfl rfl ?_
  refine wa_if_lt (tgt := 21) dX11_text_9 rfl (fun hc => ?_) (fun hc => ?_)
  · replace hF := hF.1 hc
    exact wa_pick [] rfl hF
  · replace hF := hF.2 hc
    refine wa_iload_n dX11_text_12 0 rfl rfl ?_
    refine wa_aload_n dX11_text_13 1 rfl rfl ?_
    refine wa_getr (r := 5) dX11_text_14 fkX11_18 rfl rfl rfl ?_
    refine wa_alen (v := 4) dX11_text_17 rfl (by decide) rfl ?_
    refine wa_icmp_lt (tgt := 23) dX11_text_18 rfl (fun hc => ?_) (fun hc => ?_)
    · replace hF := hF.1 hc
      refine wa_aload_n dX11_text_23 1 rfl rfl ?_
      refine wa_getr (r := 12) dX11_text_24 fkX11_32 rfl rfl rfl ?_
      refine wa_aload_n dX11_text_27 1 rfl rfl ?_
      refine wa_getr (r := 5) dX11_text_28 fkX11_18 rfl rfl rfl ?_
      refine wa_iload_n dX11_text_31 0 rfl rfl ?_
      obtain ⟨hi9, r1, nr1, hpr1, hLr1, hF⟩ := hF
      replace hLr1 := hLr1.2
      refine wa_aald (r := r1) dX11_text_32 rfl (by decide) hi9 hpr1 ?_
      obtain ⟨Q2, hM9, hF⟩ := hF
      refine wa_callV [.ref r1] dX11_text_33 (mmX5_readInto _ _) mlX11_159 mnX5_readInto mseX5_readInto rfl rfl rfl rfl (a_dlt d) rfl rfl hM9 ?_
      rintro r9 M2 P9 ⟨v2, rfl, rfl, hq9⟩
      replace hF := hF v2 M2 hq9
      simp only [Option.toList, List.cons_append, List.nil_append]
      refine wa_istore_n (lv' := [(2, .int v2), (1, .int (M 44 2)), (0, .ref 0)]) dX11_text_36 rfl rfl rfl ?_
      refine wa_aload_n dX11_text_37 2 rfl rfl ?_
      refine wa_getr (r := 1) dX11_text_38 fkX11_10 rfl rfl rfl ?_
      refine wa_iconst (v := 0) dX11_text_41 rfl ?_
      refine wb_puti dX11_text_42 fkX11_150 fmX10_3 rfl rfl ?_
      refine wa_iload_n dX11_text_45 0 rfl rfl ?_
      refine wa_if_ne (tgt := 51) dX11_text_46 rfl (fun hc => ?_) (fun hc => ?_)
      · replace hF := hF.1 hc
        refine wa_aload_n dX11_text_51 2 rfl rfl ?_
        refine wa_getr (r := 44) dX11_text_52 fkX11_101 rfl rfl rfl ?_
        refine wa_iload_n dX11_text_55 1 rfl rfl ?_
        refine wa_iconst (v := 1) dX11_text_56 rfl ?_
        refine wa_iadd dX11_text_57 ?_
        refine wb_puti dX11_text_58 fkX11_156 fmX9_2 rfl rfl ?_
        refine wa_iload_n dX11_text_61 1 rfl rfl ?_
        exact wa_iret dX11_text_62 rfl rfl hF
      · replace hF := hF.2 hc
        refine wa_iconst (v := (-1)) dX11_text_49 rfl ?_
        exact wa_iret dX11_text_50 rfl rfl hF
    · replace hF := hF.2 hc
      exact wa_pick [] rfl hF

theorem bX11_text_21 {X : a_X} {ad : Nat → Nat} {ca : Nat → ClassId} {d : Nat} {Post : Option Value → a_M → a_P → Prop} {x : Nat} {M : a_M}   (hF : Post (some (.int (-1))) M (PT x)) : WA X ad ca LY RX11 cX11_text 3 (some FieldType.int) (d + 1) 0 0 (a_E X ad ca LY Post) 21 [] [] M (PT x) := by
  refine wa_iconst (v := (-1)) dX11_text_21 rfl ?_
  exact wa_iret dX11_text_22 rfl rfl hF

theorem eX11_text {X : a_X} {ad : Nat → Nat} {ca : Nat → ClassId} {d : Nat} {Post : Option Value → a_M → a_P → Prop} {x : Nat} {M : a_M}  (h : WA X ad ca LY RX11 cX11_text 3 (some FieldType.int) d 0 0 (a_E X ad ca LY Post) 0 [(0, .ref 0)] [] M (PT x)) : Mt X ad ca LY d yX11_text cX11_text 3 (some FieldType.int) [.ref 0] M (PT x) Post := Mt.of (lv := [(0, .ref 0)]) (by decide +kernel) rfl rfl rfl (wa_pick [0] rfl h)

theorem bX11_fault_0 {X : a_X} {ad : Nat → Nat} {ca : Nat → ClassId} {d : Nat} {Post : Option Value → a_M → a_P → Prop} {x : Nat} {M : a_M} (x1 : Int32)  (hF : (∃ Q1 : Int32 → a_M → Prop, Mt X ad ca LY d yX5_hasRead cX5_hasRead 1 (some FieldType.boolean) [.ref 12] M (PT x) (q_i (PT x) Q1) ∧ ∀ v1 M1, Q1 v1 M1 → ((¬ v1 = 0 → ((¬ x1 = 0 → ((¬ x1 = 1 → Post (some (.int (-1))) M1 (PT x)) ∧ (x1 = 1 → Post (some (.int (M1 12 7))) M1 (PT x)))) ∧ (x1 = 0 → Post (some (.int (M1 12 6))) M1 (PT x)))) ∧ (v1 = 0 → Post (some (.int (-1))) M1 (PT x))))) : WA X ad ca LY RX11 cX11_fault 2 (some FieldType.int) (d + 1) 0 0 (a_E X ad ca LY Post) 0 [(0, .ref 0), (1, .int x1)] [] M (PT x) := by
  refine wa_aload_n dX11_fault_0 0 rfl rfl ?_
  refine wa_getr (r := 12) dX11_fault_1 fkX11_32 rfl rfl rfl ?_
  obtain ⟨Q1, hM9, hF⟩ := hF
  refine wa_callV [] dX11_fault_4 (mmX5_hasRead _ _) mlX11_163 mnX5_hasRead mseX5_hasRead rfl rfl rfl rfl (a_dlt d) rfl rfl hM9 ?_
  rintro r9 M1 P9 ⟨v1, rfl, rfl, hq9⟩
  replace hF := hF v1 M1 hq9
  simp only [Option.toList, List.cons_append, List.nil_append]
  refine wa_if_ne (tgt := 12) dX11_fault_7 rfl (fun hc => ?_) (fun hc => ?_)
  · replace hF := hF.1 hc
    refine wa_iload_n dX11_fault_12 1 rfl rfl ?_
    refine wa_if_ne (tgt := 26) dX11_fault_13 rfl (fun hc => ?_) (fun hc => ?_)
    · replace hF := hF.1 hc
      refine wa_iload_n dX11_fault_26 1 rfl rfl ?_
      refine wa_iconst (v := 1) dX11_fault_27 rfl ?_
      refine wa_icmp_ne (tgt := 41) dX11_fault_28 rfl (fun hc => ?_) (fun hc => ?_)
      · replace hF := hF.1 hc
        refine wa_iconst (v := (-1)) dX11_fault_41 rfl ?_
        exact wa_iret dX11_fault_42 rfl rfl hF
      · replace hF := hF.2 hc
        refine wa_aload_n dX11_fault_31 0 rfl rfl ?_
        refine wa_getr (r := 12) dX11_fault_32 fkX11_32 rfl rfl rfl ?_
        refine wb_geti (v := M1 12 7) dX11_fault_35 fkX11_170 rfl rfl rfl ?_
        refine wa_goto (tgt := 42) dX11_fault_38 rfl ?_
        exact wa_iret dX11_fault_42 rfl rfl hF
    · replace hF := hF.2 hc
      refine wa_aload_n dX11_fault_16 0 rfl rfl ?_
      refine wa_getr (r := 12) dX11_fault_17 fkX11_32 rfl rfl rfl ?_
      refine wb_geti (v := M1 12 6) dX11_fault_20 fkX11_167 rfl rfl rfl ?_
      refine wa_goto (tgt := 42) dX11_fault_23 rfl ?_
      exact wa_iret dX11_fault_42 rfl rfl hF
  · replace hF := hF.2 hc
    refine wa_iconst (v := (-1)) dX11_fault_10 rfl ?_
    exact wa_iret dX11_fault_11 rfl rfl hF

theorem eX11_fault {X : a_X} {ad : Nat → Nat} {ca : Nat → ClassId} {d : Nat} {Post : Option Value → a_M → a_P → Prop} {x : Nat} {M : a_M} (x1 : Int32) (h : WA X ad ca LY RX11 cX11_fault 2 (some FieldType.int) d 0 0 (a_E X ad ca LY Post) 0 [(0, .ref 0), (1, .int x1)] [] M (PT x)) : Mt X ad ca LY d yX11_fault cX11_fault 2 (some FieldType.int) [.ref 0, .int x1] M (PT x) Post := Mt.of (lv := [(0, .ref 0), (1, .int x1)]) (by decide +kernel) rfl rfl rfl (wa_pick [0, 1] rfl h)

theorem bX11_by_0 {X : a_X} {ad : Nat → Nat} {ca : Nat → ClassId} {d : Nat} {Post : Option Value → a_M → a_P → Prop} {x : Nat} {M : a_M} (x1 : Int32)  (hF : ((x1 = (-1) → WA X ad ca LY RX11 cX11_by 2 (some FieldType.boolean) (d + 1) 0 0 (a_E X ad ca LY Post) 15 [(0, .ref 0), (1, .int x1)] [] M (PT x)) ∧ (¬ x1 = (-1) → (∃ Q1 : Int32 → a_M → Prop, Mt X ad ca LY d yX11_isText cX11_isText 2 (some FieldType.boolean) [.ref 0, .int x1] M (PT x) (q_i (PT x) Q1) ∧ ∀ v1 M1, Q1 v1 M1 → ((¬ v1 = 0 → WA X ad ca LY RX11 cX11_by 2 (some FieldType.boolean) (d + 1) 0 0 (a_E X ad ca LY Post) 15 [(0, .ref 0), (1, .int x1)] [] M1 (PT x)) ∧ (v1 = 0 → Post (some (.int 0)) M1 (PT x))))))) : WA X ad ca LY RX11 cX11_by 2 (some FieldType.boolean) (d + 1) 0 0 (a_E X ad ca LY Post) 0 [(0, .ref 0), (1, .int x1)] [] M (PT x) := by
  refine wa_iload_n dX11_by_0 1 rfl rfl ?_
  refine wa_iconst (v := (-1)) dX11_by_1 rfl ?_
  refine wa_icmp_eq (tgt := 15) dX11_by_2 rfl (fun hc => ?_) (fun hc => ?_)
  · replace hF := hF.1 hc
    exact hF
  · replace hF := hF.2 hc
    refine wa_aload_n dX11_by_5 0 rfl rfl ?_
    refine wa_iload_n dX11_by_6 1 rfl rfl ?_
    obtain ⟨Q1, hM9, hF⟩ := hF
    refine wa_callV [.int x1] dX11_by_7 (mmX11_isText _ _) mlX11_173 mnX11_isText mseX11_isText rfl rfl rfl rfl (a_dlt d) rfl rfl hM9 ?_
    rintro r9 M1 P9 ⟨v1, rfl, rfl, hq9⟩
    replace hF := hF v1 M1 hq9
    simp only [Option.toList, List.cons_append, List.nil_append]
    refine wa_if_ne (tgt := 15) dX11_by_10 rfl (fun hc => ?_) (fun hc => ?_)
    · replace hF := hF.1 hc
      exact hF
    · replace hF := hF.2 hc
      refine wa_iconst (v := 0) dX11_by_13 rfl ?_
      exact wa_iret dX11_by_14 rfl rfl hF

theorem bX11_by_15 {X : a_X} {ad : Nat → Nat} {ca : Nat → ClassId} {d : Nat} {Post : Option Value → a_M → a_P → Prop} {x : Nat} {M : a_M} (x1 : Int32)  (hF : Post (some (.int 1)) (ms M 44 3 x1) (PT x)) : WA X ad ca LY RX11 cX11_by 2 (some FieldType.boolean) (d + 1) 0 0 (a_E X ad ca LY Post) 15 [(0, .ref 0), (1, .int x1)] [] M (PT x) := by
  refine wa_aload_n dX11_by_15 0 rfl rfl ?_
  refine wa_getr (r := 44) dX11_by_16 fkX11_101 rfl rfl rfl ?_
  refine wa_iload_n dX11_by_19 1 rfl rfl ?_
  refine wb_puti dX11_by_20 fkX11_176 fmX9_3 rfl rfl ?_
  refine wa_iconst (v := 1) dX11_by_23 rfl ?_
  exact wa_iret dX11_by_24 rfl rfl hF

theorem eX11_by {X : a_X} {ad : Nat → Nat} {ca : Nat → ClassId} {d : Nat} {Post : Option Value → a_M → a_P → Prop} {x : Nat} {M : a_M} (x1 : Int32) (h : WA X ad ca LY RX11 cX11_by 2 (some FieldType.boolean) d 0 0 (a_E X ad ca LY Post) 0 [(0, .ref 0), (1, .int x1)] [] M (PT x)) : Mt X ad ca LY d yX11_by cX11_by 2 (some FieldType.boolean) [.ref 0, .int x1] M (PT x) Post := Mt.of (lv := [(0, .ref 0), (1, .int x1)]) (by decide +kernel) rfl rfl rfl (wa_pick [0, 1] rfl h)

theorem bX11_weight_0 {X : a_X} {ad : Nat → Nat} {ca : Nat → ClassId} {d : Nat} {Post : Option Value → a_M → a_P → Prop} {x : Nat} {M : a_M} (x1 : Int32) (x2 : Int32)  (hF : ((x1 < 0 → WA X ad ca LY RX11 cX11_weight 3 (some FieldType.int) (d + 1) 0 0 (a_E X ad ca LY Post) 23 [] [] M (PT x)) ∧ (¬ x1 < 0 → ((2 < x1 → WA X ad ca LY RX11 cX11_weight 3 (some FieldType.int) (d + 1) 0 0 (a_E X ad ca LY Post) 23 [] [] M (PT x)) ∧ (¬ 2 < x1 → (∃ Q1 : Int32 → a_M → Prop, Mt X ad ca LY d yX6_isNumber cX6_isNumber 2 (some FieldType.boolean) [.ref 45, .int x2] M (PT x) (q_i (PT x) Q1) ∧ ∀ v1 M1, Q1 v1 M1 → ((¬ v1 = 0 → (∃ Q2 : Nat → a_M → Prop, Mt X ad ca LY d yX11_toldScript cX11_toldScript 1 (some (FieldType.object "SolvedChains$Script")) [.ref 0] M1 (PT x) (q_r (PT x) Q2) ∧ ∀ r2 M2, Q2 r2 M2 → ∃ nr2, (nr2 = 0 ∧ LY[r2]? = some (7, 7)) ∧ (∃ Q3 : Int32 → a_M → Prop, Mt X ad ca LY d yX7_worth cX7_worth 4 (some FieldType.int) [.ref r2, .int x1, .int x2, .ref 45] M2 (PT x) (q_i (PT x) Q3) ∧ ∀ v3 M3, Q3 v3 M3 → Post (some (.int v3)) M3 (PT x)))) ∧ (v1 = 0 → WA X ad ca LY RX11 cX11_weight 3 (some FieldType.int) (d + 1) 0 0 (a_E X ad ca LY Post) 23 [] [] M1 (PT x))))))))) : WA X ad ca LY RX11 cX11_weight 3 (some FieldType.int) (d + 1) 0 0 (a_E X ad ca LY Post) 0 [(0, .ref 0), (1, .int x1), (2, .int x2)] [] M (PT x) := by
  refine wa_iload_n dX11_weight_0 1 rfl rfl ?_
  refine wa_if_lt (tgt := 23) dX11_weight_1 rfl (fun hc => ?_) (fun hc => ?_)
  · replace hF := hF.1 hc
    exact wa_pick [] rfl hF
  · replace hF := hF.2 hc
    refine wa_iload_n dX11_weight_4 1 rfl rfl ?_
    refine wa_iconst (v := 2) dX11_weight_5 rfl ?_
    refine wa_icmp_gt (tgt := 23) dX11_weight_6 rfl (fun hc => ?_) (fun hc => ?_)
    · replace hF := hF.1 hc
      exact wa_pick [] rfl hF
    · replace hF := hF.2 hc
      refine wa_aload_n dX11_weight_9 0 rfl rfl ?_
      refine wa_getr (r := 44) dX11_weight_10 fkX11_101 rfl rfl rfl ?_
      refine wa_getr (r := 45) dX11_weight_13 fkX11_108 rfl rfl rfl ?_
      refine wa_iload_n dX11_weight_16 2 rfl rfl ?_
      obtain ⟨Q1, hM9, hF⟩ := hF
      refine wa_callV [.int x2] dX11_weight_17 (mmX6_isNumber _ _) mlX11_147 mnX6_isNumber mseX6_isNumber rfl rfl rfl rfl (a_dlt d) rfl rfl hM9 ?_
      rintro r9 M1 P9 ⟨v1, rfl, rfl, hq9⟩
      replace hF := hF v1 M1 hq9
      simp only [Option.toList, List.cons_append, List.nil_append]
      refine wa_if_ne (tgt := 25) dX11_weight_20 rfl (fun hc => ?_) (fun hc => ?_)
      · replace hF := hF.1 hc
        refine wa_aload_n dX11_weight_25 0 rfl rfl ?_
        obtain ⟨Q2, hM9, hF⟩ := hF
        refine wa_callV [] dX11_weight_26 (mmX11_toldScript _ _) mlX11_179 mnX11_toldScript mseX11_toldScript rfl rfl rfl rfl (a_dlt d) rfl rfl hM9 ?_
        rintro r9 M2 P9 ⟨r2, rfl, rfl, hq9⟩
        obtain ⟨nr2, hLr2, hF⟩ := hF r2 M2 hq9
        simp only [Option.toList, List.cons_append, List.nil_append]
        replace hLr2 := hLr2.2
        refine wa_iload_n dX11_weight_29 1 rfl rfl ?_
        refine wa_iload_n dX11_weight_30 2 rfl rfl ?_
        refine wa_aload_n dX11_weight_31 0 rfl rfl ?_
        refine wa_getr (r := 44) dX11_weight_32 fkX11_101 rfl rfl rfl ?_
        refine wa_getr (r := 45) dX11_weight_35 fkX11_108 rfl rfl rfl ?_
        obtain ⟨Q3, hM9, hF⟩ := hF
        refine wa_callV [.int x1, .int x2, .ref 45] dX11_weight_38 (mmX7_worth _ _) mlX11_183 mnX7_worth mseX7_worth hLr2 rfl rfl rfl (a_dlt d) rfl rfl hM9 ?_
        rintro r9 M3 P9 ⟨v3, rfl, rfl, hq9⟩
        replace hF := hF v3 M3 hq9
        simp only [Option.toList, List.cons_append, List.nil_append]
        exact wa_iret dX11_weight_41 rfl rfl hF
      · replace hF := hF.2 hc
        exact wa_pick [] rfl hF

theorem bX11_weight_23 {X : a_X} {ad : Nat → Nat} {ca : Nat → ClassId} {d : Nat} {Post : Option Value → a_M → a_P → Prop} {x : Nat} {M : a_M}   (hF : Post (some (.int (-1))) M (PT x)) : WA X ad ca LY RX11 cX11_weight 3 (some FieldType.int) (d + 1) 0 0 (a_E X ad ca LY Post) 23 [] [] M (PT x) := by
  refine wa_iconst (v := (-1)) dX11_weight_23 rfl ?_
  exact wa_iret dX11_weight_24 rfl rfl hF

theorem eX11_weight {X : a_X} {ad : Nat → Nat} {ca : Nat → ClassId} {d : Nat} {Post : Option Value → a_M → a_P → Prop} {x : Nat} {M : a_M} (x1 : Int32) (x2 : Int32) (h : WA X ad ca LY RX11 cX11_weight 3 (some FieldType.int) d 0 0 (a_E X ad ca LY Post) 0 [(0, .ref 0), (1, .int x1), (2, .int x2)] [] M (PT x)) : Mt X ad ca LY d yX11_weight cX11_weight 3 (some FieldType.int) [.ref 0, .int x1, .int x2] M (PT x) Post := Mt.of (lv := [(0, .ref 0), (1, .int x1), (2, .int x2)]) (by decide +kernel) rfl rfl rfl (wa_pick [0, 1, 2] rfl h)

theorem bX11_equation_0 {X : a_X} {ad : Nat → Nat} {ca : Nat → ClassId} {d : Nat} {Post : Option Value → a_M → a_P → Prop} {x : Nat} {M : a_M} (x1 : Int32)  (hF : ((x1 < 0 → WA X ad ca LY RX11 cX11_equation 2 (some FieldType.int) (d + 1) 0 0 (a_E X ad ca LY Post) 9 [] [] M (PT x)) ∧ (¬ x1 < 0 → ((x1 ≤ 2 → (∃ Q1 : Nat → a_M → Prop, Mt X ad ca LY d yX11_toldScript cX11_toldScript 1 (some (FieldType.object "SolvedChains$Script")) [.ref 0] M (PT x) (q_r (PT x) Q1) ∧ ∀ r1 M1, Q1 r1 M1 → ∃ nr1, (nr1 = 0 ∧ LY[r1]? = some (7, 7)) ∧ (∃ Q2 : a_M → Prop, Mt X ad ca LY d yX1_look cX1_look 4 none [.ref 13, .ref 45, .ref r1] M1 (PT x) (q_v (PT x) Q2) ∧ ∀ M2, Q2 M2 → (∃ Q3 : a_M → Prop, Mt X ad ca LY d yX1_askAllPairs cX1_askAllPairs 3 none [.ref 13] M2 (PT x) (q_v (PT x) Q3) ∧ ∀ M3, Q3 M3 → ((¬ x1 = 0 → ((¬ x1 = 1 → Post (some (.int (M3 13 9))) M3 (PT x)) ∧ (x1 = 1 → Post (some (.int (M3 13 8))) M3 (PT x)))) ∧ (x1 = 0 → Post (some (.int (M3 13 7))) M3 (PT x))))))) ∧ (¬ x1 ≤ 2 → WA X ad ca LY RX11 cX11_equation 2 (some FieldType.int) (d + 1) 0 0 (a_E X ad ca LY Post) 9 [] [] M (PT x)))))) : WA X ad ca LY RX11 cX11_equation 2 (some FieldType.int) (d + 1) 0 0 (a_E X ad ca LY Post) 0 [(0, .ref 0), (1, .int x1)] [] M (PT x) := by
  refine wa_iload_n dX11_equation_0 1 rfl rfl ?_
  refine wa_if_lt (tgt := 9) dX11_equation_1 rfl (fun hc => ?_) (fun hc => ?_)
  · replace hF := hF.1 hc
    exact wa_pick [] rfl hF
  · replace hF := hF.2 hc
    refine wa_iload_n dX11_equation_4 1 rfl rfl ?_
    refine wa_iconst (v := 2) dX11_equation_5 rfl ?_
    refine wa_icmp_le (tgt := 11) dX11_equation_6 rfl (fun hc => ?_) (fun hc => ?_)
    · replace hF := hF.1 hc
      refine wa_aload_n dX11_equation_11 0 rfl rfl ?_
      refine wa_getr (r := 13) dX11_equation_12 fkX11_39 rfl rfl rfl ?_
      refine wa_aload_n dX11_equation_15 0 rfl rfl ?_
      refine wa_getr (r := 44) dX11_equation_16 fkX11_101 rfl rfl rfl ?_
      refine wa_getr (r := 45) dX11_equation_19 fkX11_108 rfl rfl rfl ?_
      refine wa_aload_n dX11_equation_22 0 rfl rfl ?_
      obtain ⟨Q1, hM9, hF⟩ := hF
      refine wa_callV [] dX11_equation_23 (mmX11_toldScript _ _) mlX11_179 mnX11_toldScript mseX11_toldScript rfl rfl rfl rfl (a_dlt d) rfl rfl hM9 ?_
      rintro r9 M1 P9 ⟨r1, rfl, rfl, hq9⟩
      obtain ⟨nr1, hLr1, hF⟩ := hF r1 M1 hq9
      simp only [Option.toList, List.cons_append, List.nil_append]
      replace hLr1 := hLr1.2
      obtain ⟨Q2, hM9, hF⟩ := hF
      refine wa_callV [.ref 45, .ref r1] dX11_equation_26 (mmX1_look _ _) mlX11_187 mnX1_look mseX1_look rfl rfl rfl rfl (a_dlt d) rfl rfl hM9 ?_
      rintro r9 M2 P9 ⟨rfl, rfl, hq9⟩
      replace hF := hF M2 hq9
      simp only [Option.toList, List.nil_append]
      refine wa_aload_n dX11_equation_29 0 rfl rfl ?_
      refine wa_getr (r := 13) dX11_equation_30 fkX11_39 rfl rfl rfl ?_
      obtain ⟨Q3, hM9, hF⟩ := hF
      refine wa_callV [] dX11_equation_33 (mmX1_askAllPairs _ _) mlX11_191 mnX1_askAllPairs mseX1_askAllPairs rfl rfl rfl rfl (a_dlt d) rfl rfl hM9 ?_
      rintro r9 M3 P9 ⟨rfl, rfl, hq9⟩
      replace hF := hF M3 hq9
      simp only [Option.toList, List.nil_append]
      refine wa_iload_n dX11_equation_36 1 rfl rfl ?_
      refine wa_if_ne (tgt := 50) dX11_equation_37 rfl (fun hc => ?_) (fun hc => ?_)
      · replace hF := hF.1 hc
        refine wa_iload_n dX11_equation_50 1 rfl rfl ?_
        refine wa_iconst (v := 1) dX11_equation_51 rfl ?_
        refine wa_icmp_ne (tgt := 65) dX11_equation_52 rfl (fun hc => ?_) (fun hc => ?_)
        · replace hF := hF.1 hc
          refine wa_aload_n dX11_equation_65 0 rfl rfl ?_
          refine wa_getr (r := 13) dX11_equation_66 fkX11_39 rfl rfl rfl ?_
          refine wb_geti (v := M3 13 9) dX11_equation_69 fkX11_200 rfl rfl rfl ?_
          exact wa_iret dX11_equation_72 rfl rfl hF
        · replace hF := hF.2 hc
          refine wa_aload_n dX11_equation_55 0 rfl rfl ?_
          refine wa_getr (r := 13) dX11_equation_56 fkX11_39 rfl rfl rfl ?_
          refine wb_geti (v := M3 13 8) dX11_equation_59 fkX11_197 rfl rfl rfl ?_
          refine wa_goto (tgt := 72) dX11_equation_62 rfl ?_
          exact wa_iret dX11_equation_72 rfl rfl hF
      · replace hF := hF.2 hc
        refine wa_aload_n dX11_equation_40 0 rfl rfl ?_
        refine wa_getr (r := 13) dX11_equation_41 fkX11_39 rfl rfl rfl ?_
        refine wb_geti (v := M3 13 7) dX11_equation_44 fkX11_194 rfl rfl rfl ?_
        refine wa_goto (tgt := 72) dX11_equation_47 rfl ?_
        exact wa_iret dX11_equation_72 rfl rfl hF
    · replace hF := hF.2 hc
      exact wa_pick [] rfl hF

theorem bX11_equation_9 {X : a_X} {ad : Nat → Nat} {ca : Nat → ClassId} {d : Nat} {Post : Option Value → a_M → a_P → Prop} {x : Nat} {M : a_M}   (hF : Post (some (.int (-1))) M (PT x)) : WA X ad ca LY RX11 cX11_equation 2 (some FieldType.int) (d + 1) 0 0 (a_E X ad ca LY Post) 9 [] [] M (PT x) := by
  refine wa_iconst (v := (-1)) dX11_equation_9 rfl ?_
  exact wa_iret dX11_equation_10 rfl rfl hF

theorem eX11_equation {X : a_X} {ad : Nat → Nat} {ca : Nat → ClassId} {d : Nat} {Post : Option Value → a_M → a_P → Prop} {x : Nat} {M : a_M} (x1 : Int32) (h : WA X ad ca LY RX11 cX11_equation 2 (some FieldType.int) d 0 0 (a_E X ad ca LY Post) 0 [(0, .ref 0), (1, .int x1)] [] M (PT x)) : Mt X ad ca LY d yX11_equation cX11_equation 2 (some FieldType.int) [.ref 0, .int x1] M (PT x) Post := Mt.of (lv := [(0, .ref 0), (1, .int x1)]) (by decide +kernel) rfl rfl rfl (wa_pick [0, 1] rfl h)

theorem bX11_sum_0 {X : a_X} {ad : Nat → Nat} {ca : Nat → ClassId} {d : Nat} {Post : Option Value → a_M → a_P → Prop} {x : Nat} {M : a_M} (x1 : Int32) (x2 : Int32)  (hF : (∃ Q1 : Int32 → a_M → Prop, Mt X ad ca LY d yX6_isState cX6_isState 2 (some FieldType.boolean) [.ref 45, .int x1] M (PT x) (q_i (PT x) Q1) ∧ ∀ v1 M1, Q1 v1 M1 → ((v1 = 0 → WA X ad ca LY RX11 cX11_sum 4 (some FieldType.int) (d + 1) 0 0 (a_E X ad ca LY Post) 33 [] [] M1 (PT x)) ∧ (¬ v1 = 0 → (∃ Q2 : Int32 → a_M → Prop, Mt X ad ca LY d yX6_isState cX6_isState 2 (some FieldType.boolean) [.ref 45, .int x2] M1 (PT x) (q_i (PT x) Q2) ∧ ∀ v2 M2, Q2 v2 M2 → ((v2 = 0 → WA X ad ca LY RX11 cX11_sum 4 (some FieldType.int) (d + 1) 0 0 (a_E X ad ca LY Post) 33 [] [] M2 (PT x)) ∧ (¬ v2 = 0 → (∃ Q3 : Int32 → a_M → Prop, Mt X ad ca LY d yX6_sumBetween cX6_sumBetween 7 (some FieldType.int) [.ref 45, .int x1, .int x2] M2 (PT x) (q_i (PT x) Q3) ∧ ∀ v3 M3, Q3 v3 M3 → Post (some (.int v3)) M3 (PT x))))))))) : WA X ad ca LY RX11 cX11_sum 4 (some FieldType.int) (d + 1) 0 0 (a_E X ad ca LY Post) 0 [(0, .ref 0), (1, .int x1), (2, .int x2)] [] M (PT x) := by
  refine wa_aload_n dX11_sum_0 0 rfl rfl ?_
  refine wa_getr (r := 44) dX11_sum_1 fkX11_101 rfl rfl rfl ?_
  refine wa_getr (r := 45) dX11_sum_4 fkX11_108 rfl rfl rfl ?_
  refine wa_astore_n (lv' := [(3, .ref 45), (0, .ref 0), (1, .int x1), (2, .int x2)]) dX11_sum_7 rfl rfl rfl ?_
  refine wa_aload_n dX11_sum_8 0 rfl rfl ?_
  refine wa_iload_n dX11_sum_9 2 rfl rfl ?_
  obtain ⟨Q1, hM9, hF⟩ := hF
  refine wa_callV [.int x1] dX11_sum_10 (mmX6_isState _ _) mlX11_203 mnX6_isState mseX6_isState rfl rfl rfl rfl (a_dlt d) rfl rfl hM9 ?_
  rintro r9 M1 P9 ⟨v1, rfl, rfl, hq9⟩
  replace hF := hF v1 M1 hq9
  simp only [Option.toList, List.cons_append, List.nil_append]
  refine wa_if_eq (tgt := 33) dX11_sum_13 rfl (fun hc => ?_) (fun hc => ?_)
  · replace hF := hF.1 hc
    exact wa_pick [] rfl hF
  · replace hF := hF.2 hc
    refine wa_aload_n dX11_sum_16 0 rfl rfl ?_
    refine wa_iload_n dX11_sum_17 3 rfl rfl ?_
    obtain ⟨Q2, hM9, hF⟩ := hF
    refine wa_callV [.int x2] dX11_sum_18 (mmX6_isState _ _) mlX11_203 mnX6_isState mseX6_isState rfl rfl rfl rfl (a_dlt d) rfl rfl hM9 ?_
    rintro r9 M2 P9 ⟨v2, rfl, rfl, hq9⟩
    replace hF := hF v2 M2 hq9
    simp only [Option.toList, List.cons_append, List.nil_append]
    refine wa_if_eq (tgt := 33) dX11_sum_21 rfl (fun hc => ?_) (fun hc => ?_)
    · replace hF := hF.1 hc
      exact wa_pick [] rfl hF
    · replace hF := hF.2 hc
      refine wa_aload_n dX11_sum_24 0 rfl rfl ?_
      refine wa_iload_n dX11_sum_25 2 rfl rfl ?_
      refine wa_iload_n dX11_sum_26 3 rfl rfl ?_
      obtain ⟨Q3, hM9, hF⟩ := hF
      refine wa_callV [.int x1, .int x2] dX11_sum_27 (mmX6_sumBetween _ _) mlX11_206 mnX6_sumBetween mseX6_sumBetween rfl rfl rfl rfl (a_dlt d) rfl rfl hM9 ?_
      rintro r9 M3 P9 ⟨v3, rfl, rfl, hq9⟩
      replace hF := hF v3 M3 hq9
      simp only [Option.toList, List.cons_append, List.nil_append]
      refine wa_goto (tgt := 34) dX11_sum_30 rfl ?_
      exact wa_iret dX11_sum_34 rfl rfl hF

theorem bX11_sum_33 {X : a_X} {ad : Nat → Nat} {ca : Nat → ClassId} {d : Nat} {Post : Option Value → a_M → a_P → Prop} {x : Nat} {M : a_M}   (hF : Post (some (.int (-1))) M (PT x)) : WA X ad ca LY RX11 cX11_sum 4 (some FieldType.int) (d + 1) 0 0 (a_E X ad ca LY Post) 33 [] [] M (PT x) := by
  refine wa_iconst (v := (-1)) dX11_sum_33 rfl ?_
  exact wa_iret dX11_sum_34 rfl rfl hF

theorem eX11_sum {X : a_X} {ad : Nat → Nat} {ca : Nat → ClassId} {d : Nat} {Post : Option Value → a_M → a_P → Prop} {x : Nat} {M : a_M} (x1 : Int32) (x2 : Int32) (h : WA X ad ca LY RX11 cX11_sum 4 (some FieldType.int) d 0 0 (a_E X ad ca LY Post) 0 [(0, .ref 0), (1, .int x1), (2, .int x2)] [] M (PT x)) : Mt X ad ca LY d yX11_sum cX11_sum 4 (some FieldType.int) [.ref 0, .int x1, .int x2] M (PT x) Post := Mt.of (lv := [(0, .ref 0), (1, .int x1), (2, .int x2)]) (by decide +kernel) rfl rfl rfl (wa_pick [0, 1, 2] rfl h)

theorem bX11_table_0 {X : a_X} {ad : Nat → Nat} {ca : Nat → ClassId} {d : Nat} {Post : Option Value → a_M → a_P → Prop} {x : Nat} {M : a_M} (x1 : Int32) (x2 : Int32) (x3 : Int32)  (hF : (∃ Q1 : Int32 → a_M → Prop, Mt X ad ca LY d yX6_isNumber cX6_isNumber 2 (some FieldType.boolean) [.ref 45, .int x1] M (PT x) (q_i (PT x) Q1) ∧ ∀ v1 M1, Q1 v1 M1 → ((v1 = 0 → WA X ad ca LY RX11 cX11_table 5 (some FieldType.int) (d + 1) 0 0 (a_E X ad ca LY Post) 36 [] [] M1 (PT x)) ∧ (¬ v1 = 0 → (∃ Q2 : Int32 → a_M → Prop, Mt X ad ca LY d yX6_isState cX6_isState 2 (some FieldType.boolean) [.ref 45, .int x2] M1 (PT x) (q_i (PT x) Q2) ∧ ∀ v2 M2, Q2 v2 M2 → ((v2 = 0 → WA X ad ca LY RX11 cX11_table 5 (some FieldType.int) (d + 1) 0 0 (a_E X ad ca LY Post) 36 [] [] M2 (PT x)) ∧ (¬ v2 = 0 → (∃ Q3 : Int32 → a_M → Prop, Mt X ad ca LY d yX6_isState cX6_isState 2 (some FieldType.boolean) [.ref 45, .int x3] M2 (PT x) (q_i (PT x) Q3) ∧ ∀ v3 M3, Q3 v3 M3 → ((¬ v3 = 0 → (∃ Q4 : Nat → a_M → Prop, Mt X ad ca LY d yX11_toldScript cX11_toldScript 1 (some (FieldType.object "SolvedChains$Script")) [.ref 0] M3 (PT x) (q_r (PT x) Q4) ∧ ∀ r4 M4, Q4 r4 M4 → ∃ nr4, (nr4 = 0 ∧ LY[r4]? = some (7, 7)) ∧ (∃ Q5 : a_M → Prop, Mt X ad ca LY d yX1_look cX1_look 4 none [.ref 13, .ref 45, .ref r4] M4 (PT x) (q_v (PT x) Q5) ∧ ∀ M5, Q5 M5 → (∃ Q6 : Int32 → a_M → Prop, Mt X ad ca LY d yX1_tableBetween cX1_tableBetween 4 (some FieldType.int) [.ref 13, .int x1, .int x2, .int x3] M5 (PT x) (q_i (PT x) Q6) ∧ ∀ v6 M6, Q6 v6 M6 → Post (some (.int v6)) M6 (PT x))))) ∧ (v3 = 0 → WA X ad ca LY RX11 cX11_table 5 (some FieldType.int) (d + 1) 0 0 (a_E X ad ca LY Post) 36 [] [] M3 (PT x))))))))))) : WA X ad ca LY RX11 cX11_table 5 (some FieldType.int) (d + 1) 0 0 (a_E X ad ca LY Post) 0 [(0, .ref 0), (1, .int x1), (2, .int x2), (3, .int x3)] [] M (PT x) := by
  refine wa_aload_n dX11_table_0 0 rfl rfl ?_
  refine wa_getr (r := 44) dX11_table_1 fkX11_101 rfl rfl rfl ?_
  refine wa_getr (r := 45) dX11_table_4 fkX11_108 rfl rfl rfl ?_
  refine wa_astore (lv' := [(4, .ref 45), (0, .ref 0), (1, .int x1), (2, .int x2), (3, .int x3)]) dX11_table_7 rfl rfl ?_
  refine wa_aload dX11_table_9 0 rfl ?_
  refine wa_iload_n dX11_table_11 2 rfl rfl ?_
  obtain ⟨Q1, hM9, hF⟩ := hF
  refine wa_callV [.int x1] dX11_table_12 (mmX6_isNumber _ _) mlX11_147 mnX6_isNumber mseX6_isNumber rfl rfl rfl rfl (a_dlt d) rfl rfl hM9 ?_
  rintro r9 M1 P9 ⟨v1, rfl, rfl, hq9⟩
  replace hF := hF v1 M1 hq9
  simp only [Option.toList, List.cons_append, List.nil_append]
  refine wa_if_eq (tgt := 36) dX11_table_15 rfl (fun hc => ?_) (fun hc => ?_)
  · replace hF := hF.1 hc
    exact wa_pick [] rfl hF
  · replace hF := hF.2 hc
    refine wa_aload dX11_table_18 0 rfl ?_
    refine wa_iload_n dX11_table_20 3 rfl rfl ?_
    obtain ⟨Q2, hM9, hF⟩ := hF
    refine wa_callV [.int x2] dX11_table_21 (mmX6_isState _ _) mlX11_203 mnX6_isState mseX6_isState rfl rfl rfl rfl (a_dlt d) rfl rfl hM9 ?_
    rintro r9 M2 P9 ⟨v2, rfl, rfl, hq9⟩
    replace hF := hF v2 M2 hq9
    simp only [Option.toList, List.cons_append, List.nil_append]
    refine wa_if_eq (tgt := 36) dX11_table_24 rfl (fun hc => ?_) (fun hc => ?_)
    · replace hF := hF.1 hc
      exact wa_pick [] rfl hF
    · replace hF := hF.2 hc
      refine wa_aload dX11_table_27 0 rfl ?_
      refine wa_iload_n dX11_table_29 4 rfl rfl ?_
      obtain ⟨Q3, hM9, hF⟩ := hF
      refine wa_callV [.int x3] dX11_table_30 (mmX6_isState _ _) mlX11_203 mnX6_isState mseX6_isState rfl rfl rfl rfl (a_dlt d) rfl rfl hM9 ?_
      rintro r9 M3 P9 ⟨v3, rfl, rfl, hq9⟩
      replace hF := hF v3 M3 hq9
      simp only [Option.toList, List.cons_append, List.nil_append]
      refine wa_if_ne (tgt := 38) dX11_table_33 rfl (fun hc => ?_) (fun hc => ?_)
      · replace hF := hF.1 hc
        refine wa_aload_n dX11_table_38 1 rfl rfl ?_
        refine wa_getr (r := 13) dX11_table_39 fkX11_39 rfl rfl rfl ?_
        refine wa_aload dX11_table_42 0 rfl ?_
        refine wa_aload_n dX11_table_44 1 rfl rfl ?_
        obtain ⟨Q4, hM9, hF⟩ := hF
        refine wa_callV [] dX11_table_45 (mmX11_toldScript _ _) mlX11_179 mnX11_toldScript mseX11_toldScript rfl rfl rfl rfl (a_dlt d) rfl rfl hM9 ?_
        rintro r9 M4 P9 ⟨r4, rfl, rfl, hq9⟩
        obtain ⟨nr4, hLr4, hF⟩ := hF r4 M4 hq9
        simp only [Option.toList, List.cons_append, List.nil_append]
        replace hLr4 := hLr4.2
        obtain ⟨Q5, hM9, hF⟩ := hF
        refine wa_callV [.ref 45, .ref r4] dX11_table_48 (mmX1_look _ _) mlX11_187 mnX1_look mseX1_look rfl rfl rfl rfl (a_dlt d) rfl rfl hM9 ?_
        rintro r9 M5 P9 ⟨rfl, rfl, hq9⟩
        replace hF := hF M5 hq9
        simp only [Option.toList, List.nil_append]
        refine wa_aload_n dX11_table_51 1 rfl rfl ?_
        refine wa_getr (r := 13) dX11_table_52 fkX11_39 rfl rfl rfl ?_
        refine wa_iload_n dX11_table_55 2 rfl rfl ?_
        refine wa_iload_n dX11_table_56 3 rfl rfl ?_
        refine wa_iload_n dX11_table_57 4 rfl rfl ?_
        obtain ⟨Q6, hM9, hF⟩ := hF
        refine wa_callV [.int x1, .int x2, .int x3] dX11_table_58 (mmX1_tableBetween _ _) mlX11_209 mnX1_tableBetween mseX1_tableBetween rfl rfl rfl rfl (a_dlt d) rfl rfl hM9 ?_
        rintro r9 M6 P9 ⟨v6, rfl, rfl, hq9⟩
        replace hF := hF v6 M6 hq9
        simp only [Option.toList, List.cons_append, List.nil_append]
        exact wa_iret dX11_table_61 rfl rfl hF
      · replace hF := hF.2 hc
        exact wa_pick [] rfl hF

theorem bX11_table_36 {X : a_X} {ad : Nat → Nat} {ca : Nat → ClassId} {d : Nat} {Post : Option Value → a_M → a_P → Prop} {x : Nat} {M : a_M}   (hF : Post (some (.int (-1))) M (PT x)) : WA X ad ca LY RX11 cX11_table 5 (some FieldType.int) (d + 1) 0 0 (a_E X ad ca LY Post) 36 [] [] M (PT x) := by
  refine wa_iconst (v := (-1)) dX11_table_36 rfl ?_
  exact wa_iret dX11_table_37 rfl rfl hF

theorem eX11_table {X : a_X} {ad : Nat → Nat} {ca : Nat → ClassId} {d : Nat} {Post : Option Value → a_M → a_P → Prop} {x : Nat} {M : a_M} (x1 : Int32) (x2 : Int32) (x3 : Int32) (h : WA X ad ca LY RX11 cX11_table 5 (some FieldType.int) d 0 0 (a_E X ad ca LY Post) 0 [(0, .ref 0), (1, .int x1), (2, .int x2), (3, .int x3)] [] M (PT x)) : Mt X ad ca LY d yX11_table cX11_table 5 (some FieldType.int) [.ref 0, .int x1, .int x2, .int x3] M (PT x) Post := Mt.of (lv := [(0, .ref 0), (1, .int x1), (2, .int x2), (3, .int x3)]) (by decide +kernel) rfl rfl rfl (wa_pick [0, 1, 2, 3] rfl h)

theorem bX11_commute_0 {X : a_X} {ad : Nat → Nat} {ca : Nat → ClassId} {d : Nat} {Post : Option Value → a_M → a_P → Prop} {x : Nat} {M : a_M} (x1 : Int32) (x2 : Int32)  (hF : (∃ Q1 : Int32 → a_M → Prop, Mt X ad ca LY d yX6_isNumber cX6_isNumber 2 (some FieldType.boolean) [.ref 45, .int x1] M (PT x) (q_i (PT x) Q1) ∧ ∀ v1 M1, Q1 v1 M1 → ((v1 = 0 → WA X ad ca LY RX11 cX11_commute 4 (some FieldType.boolean) (d + 1) 0 0 (a_E X ad ca LY Post) 24 [] [] M1 (PT x)) ∧ (¬ v1 = 0 → (∃ Q2 : Int32 → a_M → Prop, Mt X ad ca LY d yX6_isNumber cX6_isNumber 2 (some FieldType.boolean) [.ref 45, .int x2] M1 (PT x) (q_i (PT x) Q2) ∧ ∀ v2 M2, Q2 v2 M2 → ((¬ v2 = 0 → (∃ Q3 : Int32 → a_M → Prop, Mt X ad ca LY d yX11_agreesInSectors cX11_agreesInSectors 6 (some FieldType.boolean) [.ref 0, .int x1, .int x2] M2 (PT x) (q_i (PT x) Q3) ∧ ∀ v3 M3, Q3 v3 M3 → ((v3 = 0 ∨ v3 = 1) ∧ Post (some (.int v3)) M3 (PT x)))) ∧ (v2 = 0 → WA X ad ca LY RX11 cX11_commute 4 (some FieldType.boolean) (d + 1) 0 0 (a_E X ad ca LY Post) 24 [] [] M2 (PT x)))))))) : WA X ad ca LY RX11 cX11_commute 4 (some FieldType.boolean) (d + 1) 0 0 (a_E X ad ca LY Post) 0 [(0, .ref 0), (1, .int x1), (2, .int x2)] [] M (PT x) := by
  refine wa_aload_n dX11_commute_0 0 rfl rfl ?_
  refine wa_getr (r := 44) dX11_commute_1 fkX11_101 rfl rfl rfl ?_
  refine wa_getr (r := 45) dX11_commute_4 fkX11_108 rfl rfl rfl ?_
  refine wa_astore_n (lv' := [(3, .ref 45), (0, .ref 0), (1, .int x1), (2, .int x2)]) dX11_commute_7 rfl rfl rfl ?_
  refine wa_aload_n dX11_commute_8 0 rfl rfl ?_
  refine wa_iload_n dX11_commute_9 2 rfl rfl ?_
  obtain ⟨Q1, hM9, hF⟩ := hF
  refine wa_callV [.int x1] dX11_commute_10 (mmX6_isNumber _ _) mlX11_147 mnX6_isNumber mseX6_isNumber rfl rfl rfl rfl (a_dlt d) rfl rfl hM9 ?_
  rintro r9 M1 P9 ⟨v1, rfl, rfl, hq9⟩
  replace hF := hF v1 M1 hq9
  simp only [Option.toList, List.cons_append, List.nil_append]
  refine wa_if_eq (tgt := 24) dX11_commute_13 rfl (fun hc => ?_) (fun hc => ?_)
  · replace hF := hF.1 hc
    exact wa_pick [] rfl hF
  · replace hF := hF.2 hc
    refine wa_aload_n dX11_commute_16 0 rfl rfl ?_
    refine wa_iload_n dX11_commute_17 3 rfl rfl ?_
    obtain ⟨Q2, hM9, hF⟩ := hF
    refine wa_callV [.int x2] dX11_commute_18 (mmX6_isNumber _ _) mlX11_147 mnX6_isNumber mseX6_isNumber rfl rfl rfl rfl (a_dlt d) rfl rfl hM9 ?_
    rintro r9 M2 P9 ⟨v2, rfl, rfl, hq9⟩
    replace hF := hF v2 M2 hq9
    simp only [Option.toList, List.cons_append, List.nil_append]
    refine wa_if_ne (tgt := 26) dX11_commute_21 rfl (fun hc => ?_) (fun hc => ?_)
    · replace hF := hF.1 hc
      refine wa_aload_n dX11_commute_26 1 rfl rfl ?_
      refine wa_iload_n dX11_commute_27 2 rfl rfl ?_
      refine wa_iload_n dX11_commute_28 3 rfl rfl ?_
      obtain ⟨Q3, hM9, hF⟩ := hF
      refine wa_callV [.int x1, .int x2] dX11_commute_29 (mmX11_agreesInSectors _ _) mlX11_213 mnX11_agreesInSectors mseX11_agreesInSectors rfl rfl rfl rfl (a_dlt d) rfl rfl hM9 ?_
      rintro r9 M3 P9 ⟨v3, rfl, rfl, hq9⟩
      replace hF := hF v3 M3 hq9
      simp only [Option.toList, List.cons_append, List.nil_append]
      exact wa_iret dX11_commute_32 rfl (a_bn hF.1) hF.2
    · replace hF := hF.2 hc
      exact wa_pick [] rfl hF

theorem bX11_commute_24 {X : a_X} {ad : Nat → Nat} {ca : Nat → ClassId} {d : Nat} {Post : Option Value → a_M → a_P → Prop} {x : Nat} {M : a_M}   (hF : Post (some (.int 0)) M (PT x)) : WA X ad ca LY RX11 cX11_commute 4 (some FieldType.boolean) (d + 1) 0 0 (a_E X ad ca LY Post) 24 [] [] M (PT x) := by
  refine wa_iconst (v := 0) dX11_commute_24 rfl ?_
  exact wa_iret dX11_commute_25 rfl rfl hF

theorem eX11_commute {X : a_X} {ad : Nat → Nat} {ca : Nat → ClassId} {d : Nat} {Post : Option Value → a_M → a_P → Prop} {x : Nat} {M : a_M} (x1 : Int32) (x2 : Int32) (h : WA X ad ca LY RX11 cX11_commute 4 (some FieldType.boolean) d 0 0 (a_E X ad ca LY Post) 0 [(0, .ref 0), (1, .int x1), (2, .int x2)] [] M (PT x)) : Mt X ad ca LY d yX11_commute cX11_commute 4 (some FieldType.boolean) [.ref 0, .int x1, .int x2] M (PT x) Post := Mt.of (lv := [(0, .ref 0), (1, .int x1), (2, .int x2)]) (by decide +kernel) rfl rfl rfl (wa_pick [0, 1, 2] rfl h)

theorem bX11_keeps_0 {X : a_X} {ad : Nat → Nat} {ca : Nat → ClassId} {d : Nat} {Post : Option Value → a_M → a_P → Prop} {x : Nat} {M : a_M} (x1 : Int32)  (hF : (∃ Q1 : Int32 → a_M → Prop, Mt X ad ca LY d yX6_isNumber cX6_isNumber 2 (some FieldType.boolean) [.ref 45, .int x1] M (PT x) (q_i (PT x) Q1) ∧ ∀ v1 M1, Q1 v1 M1 → ((v1 = 0 → WA X ad ca LY RX11 cX11_keeps 2 (some FieldType.boolean) (d + 1) 0 0 (a_E X ad ca LY Post) 27 [] [] M1 (PT x)) ∧ (¬ v1 = 0 → (∃ Q2 : Int32 → a_M → Prop, Mt X ad ca LY d yX11_agreesInSectors cX11_agreesInSectors 6 (some FieldType.boolean) [.ref 0, .int x1, .int (-1)] M1 (PT x) (q_i (PT x) Q2) ∧ ∀ v2 M2, Q2 v2 M2 → ((v2 = 0 → WA X ad ca LY RX11 cX11_keeps 2 (some FieldType.boolean) (d + 1) 0 0 (a_E X ad ca LY Post) 27 [] [] M2 (PT x)) ∧ (¬ v2 = 0 → Post (some (.int 1)) M2 (PT x)))))))) : WA X ad ca LY RX11 cX11_keeps 2 (some FieldType.boolean) (d + 1) 0 0 (a_E X ad ca LY Post) 0 [(0, .ref 0), (1, .int x1)] [] M (PT x) := by
  refine wa_aload_n dX11_keeps_0 0 rfl rfl ?_
  refine wa_getr (r := 44) dX11_keeps_1 fkX11_101 rfl rfl rfl ?_
  refine wa_getr (r := 45) dX11_keeps_4 fkX11_108 rfl rfl rfl ?_
  refine wa_iload_n dX11_keeps_7 1 rfl rfl ?_
  obtain ⟨Q1, hM9, hF⟩ := hF
  refine wa_callV [.int x1] dX11_keeps_8 (mmX6_isNumber _ _) mlX11_147 mnX6_isNumber mseX6_isNumber rfl rfl rfl rfl (a_dlt d) rfl rfl hM9 ?_
  rintro r9 M1 P9 ⟨v1, rfl, rfl, hq9⟩
  replace hF := hF v1 M1 hq9
  simp only [Option.toList, List.cons_append, List.nil_append]
  refine wa_if_eq (tgt := 27) dX11_keeps_11 rfl (fun hc => ?_) (fun hc => ?_)
  · replace hF := hF.1 hc
    exact wa_pick [] rfl hF
  · replace hF := hF.2 hc
    refine wa_aload_n dX11_keeps_14 0 rfl rfl ?_
    refine wa_iload_n dX11_keeps_15 1 rfl rfl ?_
    refine wa_iconst (v := (-1)) dX11_keeps_16 rfl ?_
    obtain ⟨Q2, hM9, hF⟩ := hF
    refine wa_callV [.int x1, .int (-1)] dX11_keeps_17 (mmX11_agreesInSectors _ _) mlX11_213 mnX11_agreesInSectors mseX11_agreesInSectors rfl rfl rfl rfl (a_dlt d) rfl rfl hM9 ?_
    rintro r9 M2 P9 ⟨v2, rfl, rfl, hq9⟩
    replace hF := hF v2 M2 hq9
    simp only [Option.toList, List.cons_append, List.nil_append]
    refine wa_if_eq (tgt := 27) dX11_keeps_20 rfl (fun hc => ?_) (fun hc => ?_)
    · replace hF := hF.1 hc
      exact wa_pick [] rfl hF
    · replace hF := hF.2 hc
      refine wa_iconst (v := 1) dX11_keeps_23 rfl ?_
      refine wa_goto (tgt := 28) dX11_keeps_24 rfl ?_
      exact wa_iret dX11_keeps_28 rfl rfl hF

theorem bX11_keeps_27 {X : a_X} {ad : Nat → Nat} {ca : Nat → ClassId} {d : Nat} {Post : Option Value → a_M → a_P → Prop} {x : Nat} {M : a_M}   (hF : Post (some (.int 0)) M (PT x)) : WA X ad ca LY RX11 cX11_keeps 2 (some FieldType.boolean) (d + 1) 0 0 (a_E X ad ca LY Post) 27 [] [] M (PT x) := by
  refine wa_iconst (v := 0) dX11_keeps_27 rfl ?_
  exact wa_iret dX11_keeps_28 rfl rfl hF

theorem eX11_keeps {X : a_X} {ad : Nat → Nat} {ca : Nat → ClassId} {d : Nat} {Post : Option Value → a_M → a_P → Prop} {x : Nat} {M : a_M} (x1 : Int32) (h : WA X ad ca LY RX11 cX11_keeps 2 (some FieldType.boolean) d 0 0 (a_E X ad ca LY Post) 0 [(0, .ref 0), (1, .int x1)] [] M (PT x)) : Mt X ad ca LY d yX11_keeps cX11_keeps 2 (some FieldType.boolean) [.ref 0, .int x1] M (PT x) Post := Mt.of (lv := [(0, .ref 0), (1, .int x1)]) (by decide +kernel) rfl rfl rfl (wa_pick [0, 1] rfl h)

theorem bX11_size_0 {X : a_X} {ad : Nat → Nat} {ca : Nat → ClassId} {d : Nat} {Post : Option Value → a_M → a_P → Prop} {x : Nat} {M : a_M} (x1 : Int32) (x2 : Int32)  (hF : (∃ Q1 : Int32 → a_M → Prop, Mt X ad ca LY d yX11_hasSector cX11_hasSector 4 (some FieldType.boolean) [.ref 0, .int x1, .int x2] M (PT x) (q_i (PT x) Q1) ∧ ∀ v1 M1, Q1 v1 M1 → ((¬ v1 = 0 → (∃ Q2 : a_M → Prop, Mt X ad ca LY d yX0_gather cX0_gather 6 none [.ref 19, .ref 45, .int x1, .int x2] M1 (PT x) (q_v (PT x) Q2) ∧ ∀ M2, Q2 M2 → Post (some (.int (M2 19 3))) M2 (PT x))) ∧ (v1 = 0 → Post (some (.int (-1))) M1 (PT x))))) : WA X ad ca LY RX11 cX11_size 3 (some FieldType.int) (d + 1) 0 0 (a_E X ad ca LY Post) 0 [(0, .ref 0), (1, .int x1), (2, .int x2)] [] M (PT x) := by
  refine wa_aload_n dX11_size_0 0 rfl rfl ?_
  refine wa_iload_n dX11_size_1 1 rfl rfl ?_
  refine wa_iload_n dX11_size_2 2 rfl rfl ?_
  obtain ⟨Q1, hM9, hF⟩ := hF
  refine wa_callV [.int x1, .int x2] dX11_size_3 (mmX11_hasSector _ _) mlX11_217 mnX11_hasSector mseX11_hasSector rfl rfl rfl rfl (a_dlt d) rfl rfl hM9 ?_
  rintro r9 M1 P9 ⟨v1, rfl, rfl, hq9⟩
  replace hF := hF v1 M1 hq9
  simp only [Option.toList, List.cons_append, List.nil_append]
  refine wa_if_ne (tgt := 11) dX11_size_6 rfl (fun hc => ?_) (fun hc => ?_)
  · replace hF := hF.1 hc
    refine wa_aload_n dX11_size_11 0 rfl rfl ?_
    refine wa_getr (r := 19) dX11_size_12 fkX11_46 rfl rfl rfl ?_
    refine wa_aload_n dX11_size_15 0 rfl rfl ?_
    refine wa_getr (r := 44) dX11_size_16 fkX11_101 rfl rfl rfl ?_
    refine wa_getr (r := 45) dX11_size_19 fkX11_108 rfl rfl rfl ?_
    refine wa_iload_n dX11_size_22 1 rfl rfl ?_
    refine wa_iload_n dX11_size_23 2 rfl rfl ?_
    obtain ⟨Q2, hM9, hF⟩ := hF
    refine wa_callV [.ref 45, .int x1, .int x2] dX11_size_24 (mmX0_gather _ _) mlX11_220 mnX0_gather mseX0_gather rfl rfl rfl rfl (a_dlt d) rfl rfl hM9 ?_
    rintro r9 M2 P9 ⟨rfl, rfl, hq9⟩
    replace hF := hF M2 hq9
    simp only [Option.toList, List.nil_append]
    refine wa_aload_n dX11_size_27 0 rfl rfl ?_
    refine wa_getr (r := 19) dX11_size_28 fkX11_46 rfl rfl rfl ?_
    refine wb_geti (v := M2 19 3) dX11_size_31 fkX11_224 rfl rfl rfl ?_
    exact wa_iret dX11_size_34 rfl rfl hF
  · replace hF := hF.2 hc
    refine wa_iconst (v := (-1)) dX11_size_9 rfl ?_
    exact wa_iret dX11_size_10 rfl rfl hF

theorem eX11_size {X : a_X} {ad : Nat → Nat} {ca : Nat → ClassId} {d : Nat} {Post : Option Value → a_M → a_P → Prop} {x : Nat} {M : a_M} (x1 : Int32) (x2 : Int32) (h : WA X ad ca LY RX11 cX11_size 3 (some FieldType.int) d 0 0 (a_E X ad ca LY Post) 0 [(0, .ref 0), (1, .int x1), (2, .int x2)] [] M (PT x)) : Mt X ad ca LY d yX11_size cX11_size 3 (some FieldType.int) [.ref 0, .int x1, .int x2] M (PT x) Post := Mt.of (lv := [(0, .ref 0), (1, .int x1), (2, .int x2)]) (by decide +kernel) rfl rfl rfl (wa_pick [0, 1, 2] rfl h)

theorem bX11_trace_0 {X : a_X} {ad : Nat → Nat} {ca : Nat → ClassId} {d : Nat} {Post : Option Value → a_M → a_P → Prop} {x : Nat} {M : a_M} (x1 : Int32) (x2 : Int32)  (hF : (∃ Q1 : Int32 → a_M → Prop, Mt X ad ca LY d yX6_isCount cX6_isCount 2 (some FieldType.boolean) [.ref 45, .int x1] M (PT x) (q_i (PT x) Q1) ∧ ∀ v1 M1, Q1 v1 M1 → ((v1 = 0 → WA X ad ca LY RX11 cX11_trace 3 (some FieldType.int) (d + 1) 0 0 (a_E X ad ca LY Post) 24 [] [] M1 (PT x)) ∧ (¬ v1 = 0 → ((x2 < 0 → WA X ad ca LY RX11 cX11_trace 3 (some FieldType.int) (d + 1) 0 0 (a_E X ad ca LY Post) 24 [] [] M1 (PT x)) ∧ (¬ x2 < 0 → ((x2 < 100 → (∃ Q2 : a_M → Prop, Mt X ad ca LY d yX8_look cX8_look 4 none [.ref 23, .ref 45, .int x1, .int (-1)] M1 (PT x) (q_v (PT x) Q2) ∧ ∀ M2, Q2 M2 → (∃ Q3 : Int32 → a_M → Prop, Mt X ad ca LY d yX8_traceOf cX8_traceOf 5 (some FieldType.int) [.ref 23, .int x2] M2 (PT x) (q_i (PT x) Q3) ∧ ∀ v3 M3, Q3 v3 M3 → Post (some (.int v3)) M3 (PT x)))) ∧ (¬ x2 < 100 → WA X ad ca LY RX11 cX11_trace 3 (some FieldType.int) (d + 1) 0 0 (a_E X ad ca LY Post) 24 [] [] M1 (PT x))))))))) : WA X ad ca LY RX11 cX11_trace 3 (some FieldType.int) (d + 1) 0 0 (a_E X ad ca LY Post) 0 [(0, .ref 0), (1, .int x1), (2, .int x2)] [] M (PT x) := by
  refine wa_aload_n dX11_trace_0 0 rfl rfl ?_
  refine wa_getr (r := 44) dX11_trace_1 fkX11_101 rfl rfl rfl ?_
  refine wa_getr (r := 45) dX11_trace_4 fkX11_108 rfl rfl rfl ?_
  refine wa_iload_n dX11_trace_7 1 rfl rfl ?_
  obtain ⟨Q1, hM9, hF⟩ := hF
  refine wa_callV [.int x1] dX11_trace_8 (mmX6_isCount _ _) mlX11_227 mnX6_isCount mseX6_isCount rfl rfl rfl rfl (a_dlt d) rfl rfl hM9 ?_
  rintro r9 M1 P9 ⟨v1, rfl, rfl, hq9⟩
  replace hF := hF v1 M1 hq9
  simp only [Option.toList, List.cons_append, List.nil_append]
  refine wa_if_eq (tgt := 24) dX11_trace_11 rfl (fun hc => ?_) (fun hc => ?_)
  · replace hF := hF.1 hc
    exact wa_pick [] rfl hF
  · replace hF := hF.2 hc
    refine wa_iload_n dX11_trace_14 2 rfl rfl ?_
    refine wa_if_lt (tgt := 24) dX11_trace_15 rfl (fun hc => ?_) (fun hc => ?_)
    · replace hF := hF.1 hc
      exact wa_pick [] rfl hF
    · replace hF := hF.2 hc
      refine wa_iload_n dX11_trace_18 2 rfl rfl ?_
      refine wa_bipush (v := 100) dX11_trace_19 rfl ?_
      refine wa_icmp_lt (tgt := 26) dX11_trace_21 rfl (fun hc => ?_) (fun hc => ?_)
      · replace hF := hF.1 hc
        refine wa_aload_n dX11_trace_26 0 rfl rfl ?_
        refine wa_getr (r := 23) dX11_trace_27 fkX11_55 rfl rfl rfl ?_
        refine wa_aload_n dX11_trace_30 0 rfl rfl ?_
        refine wa_getr (r := 44) dX11_trace_31 fkX11_101 rfl rfl rfl ?_
        refine wa_getr (r := 45) dX11_trace_34 fkX11_108 rfl rfl rfl ?_
        refine wa_iload_n dX11_trace_37 1 rfl rfl ?_
        refine wa_iconst (v := (-1)) dX11_trace_38 rfl ?_
        obtain ⟨Q2, hM9, hF⟩ := hF
        refine wa_callV [.ref 45, .int x1, .int (-1)] dX11_trace_39 (mmX8_look _ _) mlX11_230 mnX8_look mseX8_look rfl rfl rfl rfl (a_dlt d) rfl rfl hM9 ?_
        rintro r9 M2 P9 ⟨rfl, rfl, hq9⟩
        replace hF := hF M2 hq9
        simp only [Option.toList, List.nil_append]
        refine wa_aload_n dX11_trace_42 0 rfl rfl ?_
        refine wa_getr (r := 23) dX11_trace_43 fkX11_55 rfl rfl rfl ?_
        refine wa_iload_n dX11_trace_46 2 rfl rfl ?_
        obtain ⟨Q3, hM9, hF⟩ := hF
        refine wa_callV [.int x2] dX11_trace_47 (mmX8_traceOf _ _) mlX11_232 mnX8_traceOf mseX8_traceOf rfl rfl rfl rfl (a_dlt d) rfl rfl hM9 ?_
        rintro r9 M3 P9 ⟨v3, rfl, rfl, hq9⟩
        replace hF := hF v3 M3 hq9
        simp only [Option.toList, List.cons_append, List.nil_append]
        exact wa_iret dX11_trace_50 rfl rfl hF
      · replace hF := hF.2 hc
        exact wa_pick [] rfl hF

theorem bX11_trace_24 {X : a_X} {ad : Nat → Nat} {ca : Nat → ClassId} {d : Nat} {Post : Option Value → a_M → a_P → Prop} {x : Nat} {M : a_M}   (hF : Post (some (.int (-1))) M (PT x)) : WA X ad ca LY RX11 cX11_trace 3 (some FieldType.int) (d + 1) 0 0 (a_E X ad ca LY Post) 24 [] [] M (PT x) := by
  refine wa_iconst (v := (-1)) dX11_trace_24 rfl ?_
  exact wa_iret dX11_trace_25 rfl rfl hF

theorem eX11_trace {X : a_X} {ad : Nat → Nat} {ca : Nat → ClassId} {d : Nat} {Post : Option Value → a_M → a_P → Prop} {x : Nat} {M : a_M} (x1 : Int32) (x2 : Int32) (h : WA X ad ca LY RX11 cX11_trace 3 (some FieldType.int) d 0 0 (a_E X ad ca LY Post) 0 [(0, .ref 0), (1, .int x1), (2, .int x2)] [] M (PT x)) : Mt X ad ca LY d yX11_trace cX11_trace 3 (some FieldType.int) [.ref 0, .int x1, .int x2] M (PT x) Post := Mt.of (lv := [(0, .ref 0), (1, .int x1), (2, .int x2)]) (by decide +kernel) rfl rfl rfl (wa_pick [0, 1, 2] rfl h)

theorem bX11_poly_0 {X : a_X} {ad : Nat → Nat} {ca : Nat → ClassId} {d : Nat} {kc ks : Nat} {QF : List Frame → Array Value → State → State → Prop} {x : Nat} {M : a_M} (x1 : Int32) (x2 : Int32) (x3 : Int32)  (hF : (∃ Q1 : Int32 → a_M → Prop, Mt X ad ca LY d yX11_hasSector cX11_hasSector 4 (some FieldType.boolean) [.ref 0, .int x1, .int x2] M (PT x) (q_i (PT x) Q1) ∧ ∀ v1 M1, Q1 v1 M1 → ((v1 = 0 → WA X ad ca LY RX11 cX11_poly 4 (some FieldType.int) (d + 1) kc ks QF 27 [] [] M1 (PT x)) ∧ (¬ v1 = 0 → ((x2 = (-1) → WA X ad ca LY RX11 cX11_poly 4 (some FieldType.int) (d + 1) kc ks QF 29 [(0, .ref 0), (1, .int x1), (2, .int x2), (3, .int x3)] [] M1 (PT x)) ∧ (¬ x2 = (-1) → ((¬ (M1 45 1) = 0 → WA X ad ca LY RX11 cX11_poly 4 (some FieldType.int) (d + 1) kc ks QF 29 [(0, .ref 0), (1, .int x1), (2, .int x2), (3, .int x3)] [] M1 (PT x)) ∧ ((M1 45 1) = 0 → WA X ad ca LY RX11 cX11_poly 4 (some FieldType.int) (d + 1) kc ks QF 27 [] [] M1 (PT x))))))))) : WA X ad ca LY RX11 cX11_poly 4 (some FieldType.int) (d + 1) kc ks QF 0 [(0, .ref 0), (1, .int x1), (2, .int x2), (3, .int x3)] [] M (PT x) := by
  refine wa_aload_n dX11_poly_0 0 rfl rfl ?_
  refine wa_iload_n dX11_poly_1 1 rfl rfl ?_
  refine wa_iload_n dX11_poly_2 2 rfl rfl ?_
  obtain ⟨Q1, hM9, hF⟩ := hF
  refine wa_callV [.int x1, .int x2] dX11_poly_3 (mmX11_hasSector _ _) mlX11_217 mnX11_hasSector mseX11_hasSector rfl rfl rfl rfl (a_dlt d) rfl rfl hM9 ?_
  rintro r9 M1 P9 ⟨v1, rfl, rfl, hq9⟩
  replace hF := hF v1 M1 hq9
  simp only [Option.toList, List.cons_append, List.nil_append]
  refine wa_if_eq (tgt := 27) dX11_poly_6 rfl (fun hc => ?_) (fun hc => ?_)
  · replace hF := hF.1 hc
    exact wa_pick [] rfl hF
  · replace hF := hF.2 hc
    refine wa_iload_n dX11_poly_9 2 rfl rfl ?_
    refine wa_iconst (v := (-1)) dX11_poly_10 rfl ?_
    refine wa_icmp_eq (tgt := 29) dX11_poly_11 rfl (fun hc => ?_) (fun hc => ?_)
    · replace hF := hF.1 hc
      exact hF
    · replace hF := hF.2 hc
      refine wa_aload_n dX11_poly_14 0 rfl rfl ?_
      refine wa_getr (r := 44) dX11_poly_15 fkX11_101 rfl rfl rfl ?_
      refine wa_getr (r := 45) dX11_poly_18 fkX11_108 rfl rfl rfl ?_
      refine wb_geti (v := M1 45 1) dX11_poly_21 fkX11_115 rfl rfl rfl ?_
      refine wa_if_ne (tgt := 29) dX11_poly_24 rfl (fun hc => ?_) (fun hc => ?_)
      · replace hF := hF.1 hc
        exact hF
      · replace hF := hF.2 hc
        exact wa_pick [] rfl hF

theorem bX11_poly_27 {X : a_X} {ad : Nat → Nat} {ca : Nat → ClassId} {d : Nat} {Post : Option Value → a_M → a_P → Prop} {x : Nat} {M : a_M}   (hF : Post (some (.int (-1))) M (PT x)) : WA X ad ca LY RX11 cX11_poly 4 (some FieldType.int) (d + 1) 0 0 (a_E X ad ca LY Post) 27 [] [] M (PT x) := by
  refine wa_iconst (v := (-1)) dX11_poly_27 rfl ?_
  exact wa_iret dX11_poly_28 rfl rfl hF

theorem bX11_poly_29 {X : a_X} {ad : Nat → Nat} {ca : Nat → ClassId} {d : Nat} {Post : Option Value → a_M → a_P → Prop} {x : Nat} {M : a_M} (x1 : Int32) (x2 : Int32) (x3 : Int32)  (hF : (∃ Q1 : a_M → Prop, Mt X ad ca LY d yX8_look cX8_look 4 none [.ref 23, .ref 45, .int x1, .int x2] M (PT x) (q_v (PT x) Q1) ∧ ∀ M1, Q1 M1 → ((x3 < 0 → WA X ad ca LY RX11 cX11_poly 4 (some FieldType.int) (d + 1) 0 0 (a_E X ad ca LY Post) 72 [] [] M1 (PT x)) ∧ (¬ x3 < 0 → (((M1 23 9) < x3 → WA X ad ca LY RX11 cX11_poly 4 (some FieldType.int) (d + 1) 0 0 (a_E X ad ca LY Post) 72 [] [] M1 (PT x)) ∧ (¬ (M1 23 9) < x3 → (vp_in x3 36 ∧ Post (some (.int (M1 29 x3.toNatClampNeg))) M1 (PT x)))))))) : WA X ad ca LY RX11 cX11_poly 4 (some FieldType.int) (d + 1) 0 0 (a_E X ad ca LY Post) 29 [(0, .ref 0), (1, .int x1), (2, .int x2), (3, .int x3)] [] M (PT x) := by
  refine wa_aload_n dX11_poly_29 0 rfl rfl ?_
  refine wa_getr (r := 23) dX11_poly_30 fkX11_55 rfl rfl rfl ?_
  refine wa_aload_n dX11_poly_33 0 rfl rfl ?_
  refine wa_getr (r := 44) dX11_poly_34 fkX11_101 rfl rfl rfl ?_
  refine wa_getr (r := 45) dX11_poly_37 fkX11_108 rfl rfl rfl ?_
  refine wa_iload_n dX11_poly_40 1 rfl rfl ?_
  refine wa_iload_n dX11_poly_41 2 rfl rfl ?_
  obtain ⟨Q1, hM9, hF⟩ := hF
  refine wa_callV [.ref 45, .int x1, .int x2] dX11_poly_42 (mmX8_look _ _) mlX11_230 mnX8_look mseX8_look rfl rfl rfl rfl (a_dlt d) rfl rfl hM9 ?_
  rintro r9 M1 P9 ⟨rfl, rfl, hq9⟩
  replace hF := hF M1 hq9
  simp only [Option.toList, List.nil_append]
  refine wa_iload_n dX11_poly_45 3 rfl rfl ?_
  refine wa_if_lt (tgt := 72) dX11_poly_46 rfl (fun hc => ?_) (fun hc => ?_)
  · replace hF := hF.1 hc
    exact wa_pick [] rfl hF
  · replace hF := hF.2 hc
    refine wa_iload_n dX11_poly_49 3 rfl rfl ?_
    refine wa_aload_n dX11_poly_50 0 rfl rfl ?_
    refine wa_getr (r := 23) dX11_poly_51 fkX11_55 rfl rfl rfl ?_
    refine wb_geti (v := M1 23 9) dX11_poly_54 fkX11_236 rfl rfl rfl ?_
    refine wa_icmp_gt (tgt := 72) dX11_poly_57 rfl (fun hc => ?_) (fun hc => ?_)
    · replace hF := hF.1 hc
      exact wa_pick [] rfl hF
    · replace hF := hF.2 hc
      refine wa_aload_n dX11_poly_60 0 rfl rfl ?_
      refine wa_getr (r := 23) dX11_poly_61 fkX11_55 rfl rfl rfl ?_
      refine wa_getr (r := 29) dX11_poly_64 fkX11_239 rfl rfl rfl ?_
      refine wa_iload_n dX11_poly_67 3 rfl rfl ?_
      obtain ⟨hi9, hF⟩ := hF
      refine wb_iald (j := x3.toNatClampNeg) (v := M1 29 x3.toNatClampNeg) dX11_poly_68 rfl hi9 rfl rfl ?_
      refine wa_goto (tgt := 73) dX11_poly_69 rfl ?_
      exact wa_iret dX11_poly_73 rfl rfl hF

theorem bX11_poly_72 {X : a_X} {ad : Nat → Nat} {ca : Nat → ClassId} {d : Nat} {Post : Option Value → a_M → a_P → Prop} {x : Nat} {M : a_M}   (hF : Post (some (.int (-1))) M (PT x)) : WA X ad ca LY RX11 cX11_poly 4 (some FieldType.int) (d + 1) 0 0 (a_E X ad ca LY Post) 72 [] [] M (PT x) := by
  refine wa_iconst (v := (-1)) dX11_poly_72 rfl ?_
  exact wa_iret dX11_poly_73 rfl rfl hF

theorem eX11_poly {X : a_X} {ad : Nat → Nat} {ca : Nat → ClassId} {d : Nat} {Post : Option Value → a_M → a_P → Prop} {x : Nat} {M : a_M} (x1 : Int32) (x2 : Int32) (x3 : Int32) (h : WA X ad ca LY RX11 cX11_poly 4 (some FieldType.int) d 0 0 (a_E X ad ca LY Post) 0 [(0, .ref 0), (1, .int x1), (2, .int x2), (3, .int x3)] [] M (PT x)) : Mt X ad ca LY d yX11_poly cX11_poly 4 (some FieldType.int) [.ref 0, .int x1, .int x2, .int x3] M (PT x) Post := Mt.of (lv := [(0, .ref 0), (1, .int x1), (2, .int x2), (3, .int x3)]) (by decide +kernel) rfl rfl rfl (wa_pick [0, 1, 2, 3] rfl h)

theorem bX11_own_0 {X : a_X} {ad : Nat → Nat} {ca : Nat → ClassId} {d : Nat} {Post : Option Value → a_M → a_P → Prop} {x : Nat} {M : a_M} (x1 : Int32) (x2 : Int32)  (hF : (∃ Q1 : Int32 → a_M → Prop, Mt X ad ca LY d yX6_isCount cX6_isCount 2 (some FieldType.boolean) [.ref 45, .int x1] M (PT x) (q_i (PT x) Q1) ∧ ∀ v1 M1, Q1 v1 M1 → ((v1 = 0 → WA X ad ca LY RX11 cX11_own 3 (some FieldType.int) (d + 1) 0 0 (a_E X ad ca LY Post) 19 [] [] M1 (PT x)) ∧ (¬ v1 = 0 → (((-1) ≤ x2 → (∃ Q2 : a_M → Prop, Mt X ad ca LY d yX8_look cX8_look 4 none [.ref 23, .ref 45, .int x1, .int (-1)] M1 (PT x) (q_v (PT x) Q2) ∧ ∀ M2, Q2 M2 → ((¬ x2 = (-1) → (∃ Q3 : Int32 → a_M → Prop, Mt X ad ca LY d yX8_ownAt cX8_ownAt 4 (some FieldType.int) [.ref 23, .int x2] M2 (PT x) (q_i (PT x) Q3) ∧ ∀ v3 M3, Q3 v3 M3 → Post (some (.int v3)) M3 (PT x))) ∧ (x2 = (-1) → (∃ Q4 : Int32 → a_M → Prop, Mt X ad ca LY d yX8_howManyOwn cX8_howManyOwn 3 (some FieldType.int) [.ref 23] M2 (PT x) (q_i (PT x) Q4) ∧ ∀ v4 M4, Q4 v4 M4 → Post (some (.int v4)) M4 (PT x)))))) ∧ (¬ (-1) ≤ x2 → WA X ad ca LY RX11 cX11_own 3 (some FieldType.int) (d + 1) 0 0 (a_E X ad ca LY Post) 19 [] [] M1 (PT x))))))) : WA X ad ca LY RX11 cX11_own 3 (some FieldType.int) (d + 1) 0 0 (a_E X ad ca LY Post) 0 [(0, .ref 0), (1, .int x1), (2, .int x2)] [] M (PT x) := by
  refine wa_aload_n dX11_own_0 0 rfl rfl ?_
  refine wa_getr (r := 44) dX11_own_1 fkX11_101 rfl rfl rfl ?_
  refine wa_getr (r := 45) dX11_own_4 fkX11_108 rfl rfl rfl ?_
  refine wa_iload_n dX11_own_7 1 rfl rfl ?_
  obtain ⟨Q1, hM9, hF⟩ := hF
  refine wa_callV [.int x1] dX11_own_8 (mmX6_isCount _ _) mlX11_227 mnX6_isCount mseX6_isCount rfl rfl rfl rfl (a_dlt d) rfl rfl hM9 ?_
  rintro r9 M1 P9 ⟨v1, rfl, rfl, hq9⟩
  replace hF := hF v1 M1 hq9
  simp only [Option.toList, List.cons_append, List.nil_append]
  refine wa_if_eq (tgt := 19) dX11_own_11 rfl (fun hc => ?_) (fun hc => ?_)
  · replace hF := hF.1 hc
    exact wa_pick [] rfl hF
  · replace hF := hF.2 hc
    refine wa_iload_n dX11_own_14 2 rfl rfl ?_
    refine wa_iconst (v := (-1)) dX11_own_15 rfl ?_
    refine wa_icmp_ge (tgt := 21) dX11_own_16 rfl (fun hc => ?_) (fun hc => ?_)
    · replace hF := hF.1 hc
      refine wa_aload_n dX11_own_21 0 rfl rfl ?_
      refine wa_getr (r := 23) dX11_own_22 fkX11_55 rfl rfl rfl ?_
      refine wa_aload_n dX11_own_25 0 rfl rfl ?_
      refine wa_getr (r := 44) dX11_own_26 fkX11_101 rfl rfl rfl ?_
      refine wa_getr (r := 45) dX11_own_29 fkX11_108 rfl rfl rfl ?_
      refine wa_iload_n dX11_own_32 1 rfl rfl ?_
      refine wa_iconst (v := (-1)) dX11_own_33 rfl ?_
      obtain ⟨Q2, hM9, hF⟩ := hF
      refine wa_callV [.ref 45, .int x1, .int (-1)] dX11_own_34 (mmX8_look _ _) mlX11_230 mnX8_look mseX8_look rfl rfl rfl rfl (a_dlt d) rfl rfl hM9 ?_
      rintro r9 M2 P9 ⟨rfl, rfl, hq9⟩
      replace hF := hF M2 hq9
      simp only [Option.toList, List.nil_append]
      refine wa_iload_n dX11_own_37 2 rfl rfl ?_
      refine wa_iconst (v := (-1)) dX11_own_38 rfl ?_
      refine wa_icmp_ne (tgt := 52) dX11_own_39 rfl (fun hc => ?_) (fun hc => ?_)
      · replace hF := hF.1 hc
        refine wa_aload_n dX11_own_52 0 rfl rfl ?_
        refine wa_getr (r := 23) dX11_own_53 fkX11_55 rfl rfl rfl ?_
        refine wa_iload_n dX11_own_56 2 rfl rfl ?_
        obtain ⟨Q3, hM9, hF⟩ := hF
        refine wa_callV [.int x2] dX11_own_57 (mmX8_ownAt _ _) mlX11_246 mnX8_ownAt mseX8_ownAt rfl rfl rfl rfl (a_dlt d) rfl rfl hM9 ?_
        rintro r9 M3 P9 ⟨v3, rfl, rfl, hq9⟩
        replace hF := hF v3 M3 hq9
        simp only [Option.toList, List.cons_append, List.nil_append]
        exact wa_iret dX11_own_60 rfl rfl hF
      · replace hF := hF.2 hc
        refine wa_aload_n dX11_own_42 0 rfl rfl ?_
        refine wa_getr (r := 23) dX11_own_43 fkX11_55 rfl rfl rfl ?_
        obtain ⟨Q4, hM9, hF⟩ := hF
        refine wa_callV [] dX11_own_46 (mmX8_howManyOwn _ _) mlX11_242 mnX8_howManyOwn mseX8_howManyOwn rfl rfl rfl rfl (a_dlt d) rfl rfl hM9 ?_
        rintro r9 M4 P9 ⟨v4, rfl, rfl, hq9⟩
        replace hF := hF v4 M4 hq9
        simp only [Option.toList, List.cons_append, List.nil_append]
        refine wa_goto (tgt := 60) dX11_own_49 rfl ?_
        exact wa_iret dX11_own_60 rfl rfl hF
    · replace hF := hF.2 hc
      exact wa_pick [] rfl hF

theorem bX11_own_19 {X : a_X} {ad : Nat → Nat} {ca : Nat → ClassId} {d : Nat} {Post : Option Value → a_M → a_P → Prop} {x : Nat} {M : a_M}   (hF : Post (some (.int (-1))) M (PT x)) : WA X ad ca LY RX11 cX11_own 3 (some FieldType.int) (d + 1) 0 0 (a_E X ad ca LY Post) 19 [] [] M (PT x) := by
  refine wa_iconst (v := (-1)) dX11_own_19 rfl ?_
  exact wa_iret dX11_own_20 rfl rfl hF

theorem eX11_own {X : a_X} {ad : Nat → Nat} {ca : Nat → ClassId} {d : Nat} {Post : Option Value → a_M → a_P → Prop} {x : Nat} {M : a_M} (x1 : Int32) (x2 : Int32) (h : WA X ad ca LY RX11 cX11_own 3 (some FieldType.int) d 0 0 (a_E X ad ca LY Post) 0 [(0, .ref 0), (1, .int x1), (2, .int x2)] [] M (PT x)) : Mt X ad ca LY d yX11_own cX11_own 3 (some FieldType.int) [.ref 0, .int x1, .int x2] M (PT x) Post := Mt.of (lv := [(0, .ref 0), (1, .int x1), (2, .int x2)]) (by decide +kernel) rfl rfl rfl (wa_pick [0, 1, 2] rfl h)
