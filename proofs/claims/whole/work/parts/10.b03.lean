theorem bX4_fillTable_0 {X : a_X} {ad : Nat → Nat} {ca : Nat → ClassId} {d : Nat} {kc ks : Nat} {QF : List Frame → Array Value → State → State → Prop} {x : Nat} {M : a_M} (x2 : Int32) (o3 : Nat) (no3 : Nat) (hLo3 : LY[o3]? = some (100, no3)) (hF : WA X ad ca LY RX4 cX4_fillTable 7 none (d + 1) kc ks QF 12 [(0, .ref 30), (1, .ref 13), (2, .int x2), (3, .ref o3), (4, .int (M 19 3)), (5, .int 0)] [] M (PT x)) : WA X ad ca LY RX4 cX4_fillTable 7 none (d + 1) kc ks QF 0 [(0, .ref 30), (1, .ref 13), (2, .int x2), (3, .ref o3)] [] M (PT x) := by
  refine wa_aload_n dX4_fillTable_0 0 rfl rfl ?_
  refine wa_getr (r := 19) dX4_fillTable_1 fkX4_18 rfl rfl rfl ?_
  refine wb_geti (v := M 19 3) dX4_fillTable_4 fkX4_22 rfl rfl rfl ?_
  refine wa_istore (lv' := [(4, .int (M 19 3)), (0, .ref 30), (1, .ref 13), (2, .int x2), (3, .ref o3)]) dX4_fillTable_7 rfl rfl ?_
  refine wa_iconst (v := 0) dX4_fillTable_9 rfl ?_
  refine wa_istore (lv' := [(5, .int 0), (4, .int (M 19 3)), (0, .ref 30), (1, .ref 13), (2, .int x2), (3, .ref o3)]) dX4_fillTable_10 rfl rfl ?_
  exact wa_pick [2, 3, 4, 5, 1, 0] rfl hF

theorem bX4_fillTable_12 {X : a_X} {ad : Nat → Nat} {ca : Nat → ClassId} {d : Nat} {Post : Option Value → a_M → a_P → Prop} {x : Nat} {M : a_M} (x2 : Int32) (o3 : Nat) (no3 : Nat) (x4 : Int32) (x5 : Int32) (hLo3 : LY[o3]? = some (100, no3)) (hF : ((x4 ≤ x5 → Post none M (PT x)) ∧ (¬ x4 ≤ x5 → WA X ad ca LY RX4 cX4_fillTable 7 none (d + 1) 0 0 (a_E X ad ca LY Post) 22 [(0, .ref 30), (1, .ref 13), (2, .int x2), (3, .ref o3), (4, .int x4), (5, .int x5), (6, .int 0)] [] M (PT x)))) : WA X ad ca LY RX4 cX4_fillTable 7 none (d + 1) 0 0 (a_E X ad ca LY Post) 12 [(0, .ref 30), (1, .ref 13), (2, .int x2), (3, .ref o3), (4, .int x4), (5, .int x5)] [] M (PT x) := by
  refine wa_iload dX4_fillTable_12 5 rfl ?_
  refine wa_iload dX4_fillTable_14 4 rfl ?_
  refine wa_icmp_ge (tgt := 74) dX4_fillTable_16 rfl (fun hc => ?_) (fun hc => ?_)
  · replace hF := hF.1 hc
    exact wa_vret dX4_fillTable_74 rfl hF
  · replace hF := hF.2 hc
    refine wa_iconst (v := 0) dX4_fillTable_19 rfl ?_
    refine wa_istore (lv' := [(6, .int 0), (0, .ref 30), (1, .ref 13), (2, .int x2), (3, .ref o3), (4, .int x4), (5, .int x5)]) dX4_fillTable_20 rfl rfl ?_
    exact wa_pick [1, 2, 3, 4, 5, 6, 0] rfl hF

theorem bX4_fillTable_22 {X : a_X} {ad : Nat → Nat} {ca : Nat → ClassId} {d : Nat} {kc ks : Nat} {QF : List Frame → Array Value → State → State → Prop} {x : Nat} {M : a_M} (x2 : Int32) (o3 : Nat) (no3 : Nat) (x4 : Int32) (x5 : Int32) (x6 : Int32) (hLo3 : LY[o3]? = some (100, no3)) (hF : ((x4 ≤ x6 → WA X ad ca LY RX4 cX4_fillTable 7 none (d + 1) kc ks QF 12 [(0, .ref 30), (1, .ref 13), (2, .int x2), (3, .ref o3), (4, .int x4), (5, .int (x5 + 1))] [] M (PT x)) ∧ (¬ x4 ≤ x6 → (∃ Q1 : Int32 → a_M → Prop, Mt X ad ca LY d yX0_head cX0_head 2 (some FieldType.int) [.ref 19, .int x5] M (PT x) (q_i (PT x) Q1) ∧ ∀ v1 M1, Q1 v1 M1 → (∃ Q2 : Int32 → a_M → Prop, Mt X ad ca LY d yX0_head cX0_head 2 (some FieldType.int) [.ref 19, .int x6] M1 (PT x) (q_i (PT x) Q2) ∧ ∀ v2 M2, Q2 v2 M2 → (∃ Q3 : Int32 → a_M → Prop, Mt X ad ca LY d yX1_tableBetween cX1_tableBetween 4 (some FieldType.int) [.ref 13, .int x2, .int v1, .int v2] M2 (PT x) (q_i (PT x) Q3) ∧ ∀ v3 M3, Q3 v3 M3 → (vp_in ((x5 * x4) + x6) no3 ∧ WA X ad ca LY RX4 cX4_fillTable 7 none (d + 1) kc ks QF 22 [(0, .ref 30), (1, .ref 13), (2, .int x2), (3, .ref o3), (4, .int x4), (5, .int x5), (6, .int (x6 + 1))] [] (ms M3 o3 (((x5 * x4) + x6).toNatClampNeg) v3) (PT x)))))))) : WA X ad ca LY RX4 cX4_fillTable 7 none (d + 1) kc ks QF 22 [(0, .ref 30), (1, .ref 13), (2, .int x2), (3, .ref o3), (4, .int x4), (5, .int x5), (6, .int x6)] [] M (PT x) := by
  refine wa_iload dX4_fillTable_22 6 rfl ?_
  refine wa_iload dX4_fillTable_24 4 rfl ?_
  refine wa_icmp_ge (tgt := 68) dX4_fillTable_26 rfl (fun hc => ?_) (fun hc => ?_)
  · replace hF := hF.1 hc
    refine wa_iinc (v := x5 + 1) (lv' := [(5, .int (x5 + 1)), (0, .ref 30), (1, .ref 13), (2, .int x2), (3, .ref o3), (4, .int x4), (6, .int x6)]) dX4_fillTable_68 5 rfl rfl rfl rfl ?_
    refine wa_goto (tgt := 12) dX4_fillTable_71 rfl ?_
    exact wa_pick [1, 2, 3, 4, 5, 0] rfl hF
  · replace hF := hF.2 hc
    refine wa_aload_n dX4_fillTable_29 3 rfl rfl ?_
    refine wa_iload dX4_fillTable_30 5 rfl ?_
    refine wa_iload dX4_fillTable_32 4 rfl ?_
    refine wa_imul dX4_fillTable_34 ?_
    refine wa_iload dX4_fillTable_35 6 rfl ?_
    refine wa_iadd dX4_fillTable_37 ?_
    refine wa_aload_n dX4_fillTable_38 1 rfl rfl ?_
    refine wa_iload_n dX4_fillTable_39 2 rfl rfl ?_
    refine wa_aload_n dX4_fillTable_40 0 rfl rfl ?_
    refine wa_getr (r := 19) dX4_fillTable_41 fkX4_18 rfl rfl rfl ?_
    refine wa_iload dX4_fillTable_44 5 rfl ?_
    obtain ⟨Q1, hM9, hF⟩ := hF
    refine wa_callV [.int x5] dX4_fillTable_46 (mmX0_head _ _) mlX4_28 mnX0_head mseX0_head rfl rfl rfl rfl (a_dlt d) rfl rfl hM9 ?_
    rintro r9 M1 P9 ⟨v1, rfl, rfl, hq9⟩
    replace hF := hF v1 M1 hq9
    simp only [Option.toList, List.cons_append, List.nil_append]
    refine wa_aload_n dX4_fillTable_49 0 rfl rfl ?_
    refine wa_getr (r := 19) dX4_fillTable_50 fkX4_18 rfl rfl rfl ?_
    refine wa_iload dX4_fillTable_53 6 rfl ?_
    obtain ⟨Q2, hM9, hF⟩ := hF
    refine wa_callV [.int x6] dX4_fillTable_55 (mmX0_head _ _) mlX4_28 mnX0_head mseX0_head rfl rfl rfl rfl (a_dlt d) rfl rfl hM9 ?_
    rintro r9 M2 P9 ⟨v2, rfl, rfl, hq9⟩
    replace hF := hF v2 M2 hq9
    simp only [Option.toList, List.cons_append, List.nil_append]
    obtain ⟨Q3, hM9, hF⟩ := hF
    refine wa_callV [.int x2, .int v1, .int v2] dX4_fillTable_58 (mmX1_tableBetween _ _) mlX4_32 mnX1_tableBetween mseX1_tableBetween rfl rfl rfl rfl (a_dlt d) rfl rfl hM9 ?_
    rintro r9 M3 P9 ⟨v3, rfl, rfl, hq9⟩
    replace hF := hF v3 M3 hq9
    simp only [Option.toList, List.cons_append, List.nil_append]
    obtain ⟨hi9, hF⟩ := hF
    refine wb_iast (j := ((x5 * x4) + x6).toNatClampNeg) dX4_fillTable_61 hLo3 hi9 rfl ?_
    refine wa_iinc (v := x6 + 1) (lv' := [(6, .int (x6 + 1)), (0, .ref 30), (1, .ref 13), (2, .int x2), (3, .ref o3), (4, .int x4), (5, .int x5)]) dX4_fillTable_62 6 rfl rfl rfl rfl ?_
    refine wa_goto (tgt := 22) dX4_fillTable_65 rfl ?_
    exact wa_pick [1, 2, 3, 4, 5, 6, 0] rfl hF

theorem eX4_fillTable {X : a_X} {ad : Nat → Nat} {ca : Nat → ClassId} {d : Nat} {Post : Option Value → a_M → a_P → Prop} {x : Nat} {M : a_M} (x2 : Int32) (o3 : Nat) (h : WA X ad ca LY RX4 cX4_fillTable 7 none d 0 0 (a_E X ad ca LY Post) 0 [(0, .ref 30), (1, .ref 13), (2, .int x2), (3, .ref o3)] [] M (PT x)) : Mt X ad ca LY d yX4_fillTable cX4_fillTable 7 none [.ref 30, .ref 13, .int x2, .ref o3] M (PT x) Post := Mt.of (lv := [(0, .ref 30), (1, .ref 13), (2, .int x2), (3, .ref o3)]) (by decide +kernel) rfl rfl rfl (wa_pick [0, 1, 2, 3] rfl h)

theorem bX4_agree_0 {X : a_X} {ad : Nat → Nat} {ca : Nat → ClassId} {d : Nat} {kc ks : Nat} {QF : List Frame → Array Value → State → State → Prop} {x : Nat} {M : a_M} (x1 : Int32)  (hF : WA X ad ca LY RX4 cX4_agree 7 (some FieldType.boolean) (d + 1) kc ks QF 10 [(0, .ref 30), (1, .int x1), (2, .int (M 19 3)), (3, .int 0)] [] M (PT x)) : WA X ad ca LY RX4 cX4_agree 7 (some FieldType.boolean) (d + 1) kc ks QF 0 [(0, .ref 30), (1, .int x1)] [] M (PT x) := by
  refine wa_aload_n dX4_agree_0 0 rfl rfl ?_
  refine wa_getr (r := 19) dX4_agree_1 fkX4_18 rfl rfl rfl ?_
  refine wb_geti (v := M 19 3) dX4_agree_4 fkX4_22 rfl rfl rfl ?_
  refine wa_istore_n (lv' := [(2, .int (M 19 3)), (0, .ref 30), (1, .int x1)]) dX4_agree_7 rfl rfl rfl ?_
  refine wa_iconst (v := 0) dX4_agree_8 rfl ?_
  refine wa_istore_n (lv' := [(3, .int 0), (2, .int (M 19 3)), (0, .ref 30), (1, .int x1)]) dX4_agree_9 rfl rfl rfl ?_
  exact wa_pick [2, 3, 1, 0] rfl hF

theorem bX4_agree_10 {X : a_X} {ad : Nat → Nat} {ca : Nat → ClassId} {d : Nat} {Post : Option Value → a_M → a_P → Prop} {x : Nat} {M : a_M} (x1 : Int32) (x2 : Int32) (x3 : Int32)  (hF : ((x2 ≤ x3 → Post (some (.int 1)) M (PT x)) ∧ (¬ x2 ≤ x3 → WA X ad ca LY RX4 cX4_agree 7 (some FieldType.boolean) (d + 1) 0 0 (a_E X ad ca LY Post) 18 [(0, .ref 30), (1, .int x1), (2, .int x2), (3, .int x3), (4, .int 0)] [] M (PT x)))) : WA X ad ca LY RX4 cX4_agree 7 (some FieldType.boolean) (d + 1) 0 0 (a_E X ad ca LY Post) 10 [(0, .ref 30), (1, .int x1), (2, .int x2), (3, .int x3)] [] M (PT x) := by
  refine wa_iload_n dX4_agree_10 3 rfl rfl ?_
  refine wa_iload_n dX4_agree_11 2 rfl rfl ?_
  refine wa_icmp_ge (tgt := 123) dX4_agree_12 rfl (fun hc => ?_) (fun hc => ?_)
  · replace hF := hF.1 hc
    refine wa_iconst (v := 1) dX4_agree_123 rfl ?_
    exact wa_iret dX4_agree_124 rfl rfl hF
  · replace hF := hF.2 hc
    refine wa_iconst (v := 0) dX4_agree_15 rfl ?_
    refine wa_istore (lv' := [(4, .int 0), (0, .ref 30), (1, .int x1), (2, .int x2), (3, .int x3)]) dX4_agree_16 rfl rfl ?_
    exact wa_pick [1, 2, 3, 4, 0] rfl hF

theorem bX4_agree_18 {X : a_X} {ad : Nat → Nat} {ca : Nat → ClassId} {d : Nat} {kc ks : Nat} {QF : List Frame → Array Value → State → State → Prop} {x : Nat} {M : a_M} (x1 : Int32) (x2 : Int32) (x3 : Int32) (x4 : Int32)  (hF : ((x2 ≤ x4 → WA X ad ca LY RX4 cX4_agree 7 (some FieldType.boolean) (d + 1) kc ks QF 10 [(0, .ref 30), (1, .int x1), (2, .int x2), (3, .int (x3 + 1))] [] M (PT x)) ∧ (¬ x2 ≤ x4 → WA X ad ca LY RX4 cX4_agree 7 (some FieldType.boolean) (d + 1) kc ks QF 30 [(0, .ref 30), (1, .int x1), (2, .int x2), (3, .int x3), (4, .int x4), (5, .int 0), (6, .int 0)] [] M (PT x)))) : WA X ad ca LY RX4 cX4_agree 7 (some FieldType.boolean) (d + 1) kc ks QF 18 [(0, .ref 30), (1, .int x1), (2, .int x2), (3, .int x3), (4, .int x4)] [] M (PT x) := by
  refine wa_iload dX4_agree_18 4 rfl ?_
  refine wa_iload_n dX4_agree_20 2 rfl rfl ?_
  refine wa_icmp_ge (tgt := 117) dX4_agree_21 rfl (fun hc => ?_) (fun hc => ?_)
  · replace hF := hF.1 hc
    refine wa_iinc (v := x3 + 1) (lv' := [(3, .int (x3 + 1)), (0, .ref 30), (1, .int x1), (2, .int x2), (4, .int x4)]) dX4_agree_117 3 rfl rfl rfl rfl ?_
    refine wa_goto (tgt := 10) dX4_agree_120 rfl ?_
    exact wa_pick [1, 2, 3, 0] rfl hF
  · replace hF := hF.2 hc
    refine wa_iconst (v := 0) dX4_agree_24 rfl ?_
    refine wa_istore (lv' := [(5, .int 0), (0, .ref 30), (1, .int x1), (2, .int x2), (3, .int x3), (4, .int x4)]) dX4_agree_25 rfl rfl ?_
    refine wa_iconst (v := 0) dX4_agree_27 rfl ?_
    refine wa_istore (lv' := [(6, .int 0), (5, .int 0), (0, .ref 30), (1, .int x1), (2, .int x2), (3, .int x3), (4, .int x4)]) dX4_agree_28 rfl rfl ?_
    exact wa_pick [2, 3, 4, 5, 6, 1, 0] rfl hF

theorem bX4_agree_30 {X : a_X} {ad : Nat → Nat} {ca : Nat → ClassId} {d : Nat} {Post : Option Value → a_M → a_P → Prop} {x : Nat} {M : a_M} (x1 : Int32) (x2 : Int32) (x3 : Int32) (x4 : Int32) (x5 : Int32) (x6 : Int32)  (hF : ((x2 ≤ x6 → (∃ Q1 : Int32 → a_M → Prop, Mt X ad ca LY d yX11_left cX11_left 3 (some FieldType.int) [.int x5, .int x1] M (PT x) (q_i (PT x) Q1) ∧ ∀ v1 M1, Q1 v1 M1 → ((v1 = 0 → WA X ad ca LY RX4 cX4_agree 7 (some FieldType.boolean) (d + 1) 0 0 (a_E X ad ca LY Post) 18 [(0, .ref 30), (1, .int x1), (2, .int x2), (3, .int x3), (4, .int (x4 + 1))] [] M1 (PT x)) ∧ (¬ v1 = 0 → Post (some (.int 0)) M1 (PT x))))) ∧ (¬ x2 ≤ x6 → (vp_in ((x3 * x2) + x6) 1225 ∧ (vp_in ((x6 * x2) + x4) 1225 ∧ (vp_in ((x3 * x2) + x6) 1225 ∧ (vp_in ((x6 * x2) + x4) 1225 ∧ WA X ad ca LY RX4 cX4_agree 7 (some FieldType.boolean) (d + 1) 0 0 (a_E X ad ca LY Post) 30 [(0, .ref 30), (1, .int x1), (2, .int x2), (3, .int x3), (4, .int x4), (5, .int ((x5 + ((M 31 (((x3 * x2) + x6).toNatClampNeg)) * (M 32 (((x6 * x2) + x4).toNatClampNeg)))) - ((M 32 (((x3 * x2) + x6).toNatClampNeg)) * (M 31 (((x6 * x2) + x4).toNatClampNeg))))), (6, .int (x6 + 1))] [] M (PT x)))))))) : WA X ad ca LY RX4 cX4_agree 7 (some FieldType.boolean) (d + 1) 0 0 (a_E X ad ca LY Post) 30 [(0, .ref 30), (1, .int x1), (2, .int x2), (3, .int x3), (4, .int x4), (5, .int x5), (6, .int x6)] [] M (PT x) := by
  refine wa_iload dX4_agree_30 6 rfl ?_
  refine wa_iload_n dX4_agree_32 2 rfl rfl ?_
  refine wa_icmp_ge (tgt := 100) dX4_agree_33 rfl (fun hc => ?_) (fun hc => ?_)
  · replace hF := hF.1 hc
    refine wa_iload dX4_agree_100 5 rfl ?_
    refine wa_iload_n dX4_agree_102 1 rfl rfl ?_
    obtain ⟨Q1, hM9, hF⟩ := hF
    refine wa_callSN [.int x5, .int x1] dX4_agree_103 (mmX11_left _ _) mkX4_38 mstX11_left rfl (a_dlt d) rfl rfl hM9 ?_
    rintro r9 M1 P9 ⟨v1, rfl, rfl, hq9⟩
    replace hF := hF v1 M1 hq9
    simp only [Option.toList, List.cons_append, List.nil_append]
    refine wa_if_eq (tgt := 111) dX4_agree_106 rfl (fun hc => ?_) (fun hc => ?_)
    · replace hF := hF.1 hc
      refine wa_iinc (v := x4 + 1) (lv' := [(4, .int (x4 + 1)), (0, .ref 30), (1, .int x1), (2, .int x2), (3, .int x3), (5, .int x5), (6, .int x6)]) dX4_agree_111 4 rfl rfl rfl rfl ?_
      refine wa_goto (tgt := 18) dX4_agree_114 rfl ?_
      exact wa_pick [1, 2, 3, 4, 0] rfl hF
    · replace hF := hF.2 hc
      refine wa_iconst (v := 0) dX4_agree_109 rfl ?_
      exact wa_iret dX4_agree_110 rfl rfl hF
  · replace hF := hF.2 hc
    refine wa_iload dX4_agree_36 5 rfl ?_
    refine wa_aload_n dX4_agree_38 0 rfl rfl ?_
    refine wa_getr (r := 31) dX4_agree_39 fkX4_9 rfl rfl rfl ?_
    refine wa_iload_n dX4_agree_42 3 rfl rfl ?_
    refine wa_iload_n dX4_agree_43 2 rfl rfl ?_
    refine wa_imul dX4_agree_44 ?_
    refine wa_iload dX4_agree_45 6 rfl ?_
    refine wa_iadd dX4_agree_47 ?_
    obtain ⟨hi9, hF⟩ := hF
    refine wb_iald (j := ((x3 * x2) + x6).toNatClampNeg) (v := M 31 (((x3 * x2) + x6).toNatClampNeg)) dX4_agree_48 rfl hi9 rfl rfl ?_
    refine wa_aload_n dX4_agree_49 0 rfl rfl ?_
    refine wa_getr (r := 32) dX4_agree_50 fkX4_15 rfl rfl rfl ?_
    refine wa_iload dX4_agree_53 6 rfl ?_
    refine wa_iload_n dX4_agree_55 2 rfl rfl ?_
    refine wa_imul dX4_agree_56 ?_
    refine wa_iload dX4_agree_57 4 rfl ?_
    refine wa_iadd dX4_agree_59 ?_
    obtain ⟨hi9, hF⟩ := hF
    refine wb_iald (j := ((x6 * x2) + x4).toNatClampNeg) (v := M 32 (((x6 * x2) + x4).toNatClampNeg)) dX4_agree_60 rfl hi9 rfl rfl ?_
    refine wa_imul dX4_agree_61 ?_
    refine wa_iadd dX4_agree_62 ?_
    refine wa_istore (lv' := [(5, .int (x5 + ((M 31 (((x3 * x2) + x6).toNatClampNeg)) * (M 32 (((x6 * x2) + x4).toNatClampNeg))))), (0, .ref 30), (1, .int x1), (2, .int x2), (3, .int x3), (4, .int x4), (6, .int x6)]) dX4_agree_63 rfl rfl ?_
    refine wa_iload dX4_agree_65 0 rfl ?_
    refine wa_aload_n dX4_agree_67 1 rfl rfl ?_
    refine wa_getr (r := 32) dX4_agree_68 fkX4_15 rfl rfl rfl ?_
    refine wa_iload_n dX4_agree_71 4 rfl rfl ?_
    refine wa_iload_n dX4_agree_72 3 rfl rfl ?_
    refine wa_imul dX4_agree_73 ?_
    refine wa_iload dX4_agree_74 6 rfl ?_
    refine wa_iadd dX4_agree_76 ?_
    obtain ⟨hi9, hF⟩ := hF
    refine wb_iald (j := ((x3 * x2) + x6).toNatClampNeg) (v := M 32 (((x3 * x2) + x6).toNatClampNeg)) dX4_agree_77 rfl hi9 rfl rfl ?_
    refine wa_aload_n dX4_agree_78 1 rfl rfl ?_
    refine wa_getr (r := 31) dX4_agree_79 fkX4_9 rfl rfl rfl ?_
    refine wa_iload dX4_agree_82 6 rfl ?_
    refine wa_iload_n dX4_agree_84 3 rfl rfl ?_
    refine wa_imul dX4_agree_85 ?_
    refine wa_iload dX4_agree_86 5 rfl ?_
    refine wa_iadd dX4_agree_88 ?_
    obtain ⟨hi9, hF⟩ := hF
    refine wb_iald (j := ((x6 * x2) + x4).toNatClampNeg) (v := M 31 (((x6 * x2) + x4).toNatClampNeg)) dX4_agree_89 rfl hi9 rfl rfl ?_
    refine wa_imul dX4_agree_90 ?_
    refine wa_isub dX4_agree_91 ?_
    refine wa_istore (lv' := [(5, .int ((x5 + ((M 31 (((x3 * x2) + x6).toNatClampNeg)) * (M 32 (((x6 * x2) + x4).toNatClampNeg)))) - ((M 32 (((x3 * x2) + x6).toNatClampNeg)) * (M 31 (((x6 * x2) + x4).toNatClampNeg))))), (0, .ref 30), (1, .int x1), (2, .int x2), (3, .int x3), (4, .int x4), (6, .int x6)]) dX4_agree_92 rfl rfl ?_
    refine wa_iinc (v := x6 + 1) (lv' := [(6, .int (x6 + 1)), (5, .int ((x5 + ((M 31 (((x3 * x2) + x6).toNatClampNeg)) * (M 32 (((x6 * x2) + x4).toNatClampNeg)))) - ((M 32 (((x3 * x2) + x6).toNatClampNeg)) * (M 31 (((x6 * x2) + x4).toNatClampNeg))))), (0, .ref 30), (1, .int x1), (2, .int x2), (3, .int x3), (4, .int x4)]) dX4_agree_94 6 rfl rfl rfl rfl ?_
    refine wa_goto (tgt := 30) dX4_agree_97 rfl ?_
    exact wa_pick [2, 3, 4, 5, 6, 1, 0] rfl hF

theorem eX4_agree {X : a_X} {ad : Nat → Nat} {ca : Nat → ClassId} {d : Nat} {Post : Option Value → a_M → a_P → Prop} {x : Nat} {M : a_M} (x1 : Int32) (h : WA X ad ca LY RX4 cX4_agree 7 (some FieldType.boolean) d 0 0 (a_E X ad ca LY Post) 0 [(0, .ref 30), (1, .int x1)] [] M (PT x)) : Mt X ad ca LY d yX4_agree cX4_agree 7 (some FieldType.boolean) [.ref 30, .int x1] M (PT x) Post := Mt.of (lv := [(0, .ref 30), (1, .int x1)]) (by decide +kernel) rfl rfl rfl (wa_pick [0, 1] rfl h)

theorem bX5_hasRead_0 {X : a_X} {ad : Nat → Nat} {ca : Nat → ClassId} {d : Nat} {Post : Option Value → a_M → a_P → Prop} {x : Nat} {M : a_M}   (hF : (((M 12 5) ≤ 0 → Post (some (.int 0)) M (PT x)) ∧ (¬ (M 12 5) ≤ 0 → Post (some (.int 1)) M (PT x)))) : WA X ad ca LY RX5 cX5_hasRead 1 (some FieldType.boolean) (d + 1) 0 0 (a_E X ad ca LY Post) 0 [(0, .ref 12)] [] M (PT x) := by
  refine wa_aload_n dX5_hasRead_0 0 rfl rfl ?_
  refine wb_geti (v := M 12 5) dX5_hasRead_1 fkX5_24 rfl rfl rfl ?_
  refine wa_if_le (tgt := 11) dX5_hasRead_4 rfl (fun hc => ?_) (fun hc => ?_)
  · replace hF := hF.1 hc
    refine wa_iconst (v := 0) dX5_hasRead_11 rfl ?_
    exact wa_iret dX5_hasRead_12 rfl rfl hF
  · replace hF := hF.2 hc
    refine wa_iconst (v := 1) dX5_hasRead_7 rfl ?_
    refine wa_goto (tgt := 12) dX5_hasRead_8 rfl ?_
    exact wa_iret dX5_hasRead_12 rfl rfl hF

theorem eX5_hasRead {X : a_X} {ad : Nat → Nat} {ca : Nat → ClassId} {d : Nat} {Post : Option Value → a_M → a_P → Prop} {x : Nat} {M : a_M}  (h : WA X ad ca LY RX5 cX5_hasRead 1 (some FieldType.boolean) d 0 0 (a_E X ad ca LY Post) 0 [(0, .ref 12)] [] M (PT x)) : Mt X ad ca LY d yX5_hasRead cX5_hasRead 1 (some FieldType.boolean) [.ref 12] M (PT x) Post := Mt.of (lv := [(0, .ref 12)]) (by decide +kernel) rfl rfl rfl (wa_pick [0] rfl h)

theorem bX5_readInto_0 {X : a_X} {ad : Nat → Nat} {ca : Nat → ClassId} {d : Nat} {kc ks : Nat} {QF : List Frame → Array Value → State → State → Prop} {x : Nat} {M : a_M} (o1 : Nat) (hLo1 : LY[o1]? = some (7, 7)) (hF : (∃ Q1 : a_M → Prop, Mt X ad ca LY d yX7_restart cX7_restart 3 none [.ref o1, .int ((M 12 5) + 1)] (ms M 12 5 ((M 12 5) + 1)) (PT o1) (q_v (PT o1) Q1) ∧ ∀ M1, Q1 M1 → (∃ Q2 : a_M → Prop, Mt X ad ca LY d yX10_split cX10_split 4 none [.ref 1] (ms M1 12 6 0) (PT o1) (q_v (PT o1) Q2) ∧ ∀ M2, Q2 M2 → (∃ Q3 : a_M → Prop, Mt X ad ca LY d yX5_advance cX5_advance 1 none [.ref 12] (ms M2 12 2 (-1)) (PT o1) (q_v (PT o1) Q3) ∧ ∀ M3, Q3 M3 → WA X ad ca LY RX5 cX5_readInto 4 (some FieldType.boolean) (d + 1) kc ks QF 51 [(0, .ref 12), (2, .int 1), (3, .int 0)] [] M3 (PT o1))))) : WA X ad ca LY RX5 cX5_readInto 4 (some FieldType.boolean) (d + 1) kc ks QF 0 [(0, .ref 12), (1, .ref o1)] [] M (PT x) := by
  refine wa_aload_n dX5_readInto_0 0 rfl rfl ?_
  refine wa_dup dX5_readInto_1 rfl ?_
  refine wb_geti (v := M 12 5) dX5_readInto_2 fkX5_24 rfl rfl rfl ?_
  refine wa_iconst (v := 1) dX5_readInto_5 rfl ?_
  refine wa_iadd dX5_readInto_6 ?_
  refine wb_puti dX5_readInto_7 fkX5_24 fmX5_5 rfl rfl ?_
  refine wa_aload_n dX5_readInto_10 0 rfl rfl ?_
  refine wa_aload_n dX5_readInto_11 1 rfl rfl ?_
  refine wa_putr dX5_readInto_12 fkX5_37 fmX5_1 rfl rfl rfl rfl ?_
  rw [PT_put]
  refine wa_aload_n dX5_readInto_15 0 rfl rfl ?_
  refine wa_getr (r := o1) dX5_readInto_16 fkX5_37 rfl rfl rfl ?_
  refine wa_aload_n dX5_readInto_19 0 rfl rfl ?_
  refine wb_geti (v := ((M 12 5) + 1)) dX5_readInto_20 fkX5_24 rfl rfl (ms_is M 12 5 ((M 12 5) + 1)) ?_
  obtain ⟨Q1, hM9, hF⟩ := hF
  refine wa_callV [.int ((M 12 5) + 1)] dX5_readInto_23 (mmX7_restart _ _) mlX5_41 mnX7_restart mseX7_restart hLo1 rfl rfl rfl (a_dlt d) rfl rfl hM9 ?_
  rintro r9 M1 P9 ⟨rfl, rfl, hq9⟩
  replace hF := hF M1 hq9
  simp only [Option.toList, List.nil_append]
  refine wa_aload_n dX5_readInto_26 0 rfl rfl ?_
  refine wa_iconst (v := 0) dX5_readInto_27 rfl ?_
  refine wb_puti dX5_readInto_28 fkX5_27 fmX5_6 rfl rfl ?_
  refine wa_aload_n dX5_readInto_31 0 rfl rfl ?_
  refine wa_getr (r := 1) dX5_readInto_32 fkX5_33 rfl rfl rfl ?_
  obtain ⟨Q2, hM9, hF⟩ := hF
  refine wa_callV [] dX5_readInto_35 (mmX10_split _ _) mlX5_47 mnX10_split mseX10_split rfl rfl rfl rfl (a_dlt d) rfl rfl hM9 ?_
  rintro r9 M2 P9 ⟨rfl, rfl, hq9⟩
  replace hF := hF M2 hq9
  simp only [Option.toList, List.nil_append]
  refine wa_aload_n dX5_readInto_38 0 rfl rfl ?_
  refine wa_iconst (v := (-1)) dX5_readInto_39 rfl ?_
  refine wb_puti dX5_readInto_40 fkX5_9 fmX5_2 rfl rfl ?_
  refine wa_aload_n dX5_readInto_43 0 rfl rfl ?_
  obtain ⟨Q3, hM9, hF⟩ := hF
  refine wa_callV [] dX5_readInto_44 (mmX5_advance _ _) mlX5_50 mnX5_advance mseX5_advance rfl rfl rfl rfl (a_dlt d) rfl rfl hM9 ?_
  rintro r9 M3 P9 ⟨rfl, rfl, hq9⟩
  replace hF := hF M3 hq9
  simp only [Option.toList, List.nil_append]
  refine wa_iconst (v := 1) dX5_readInto_47 rfl ?_
  refine wa_istore_n (lv' := [(2, .int 1), (0, .ref 12), (1, .ref o1)]) dX5_readInto_48 rfl rfl rfl ?_
  refine wa_iconst (v := 0) dX5_readInto_49 rfl ?_
  refine wa_istore_n (lv' := [(3, .int 0), (2, .int 1), (0, .ref 12), (1, .ref o1)]) dX5_readInto_50 rfl rfl rfl ?_
  exact wa_pick [2, 1, 0] rfl hF

theorem bX5_readInto_51 {X : a_X} {ad : Nat → Nat} {ca : Nat → ClassId} {d : Nat} {kc ks : Nat} {QF : List Frame → Array Value → State → State → Prop} {x : Nat} {M : a_M} (x2 : Int32) (x3 : Int32)  (hF : ((x2 = 0 → WA X ad ca LY RX5 cX5_readInto 4 (some FieldType.boolean) (d + 1) kc ks QF 80 [(0, .ref 12), (2, .int x2)] [] M (PT x)) ∧ (¬ x2 = 0 → (((M 12 3) = (-1) → WA X ad ca LY RX5 cX5_readInto 4 (some FieldType.boolean) (d + 1) kc ks QF 80 [(0, .ref 12), (2, .int x2)] [] M (PT x)) ∧ (¬ (M 12 3) = (-1) → ((30 < x3 → WA X ad ca LY RX5 cX5_readInto 4 (some FieldType.boolean) (d + 1) kc ks QF 80 [(0, .ref 12), (2, .int x2)] [] M (PT x)) ∧ (¬ 30 < x3 → (∃ Q1 : Int32 → a_M → Prop, Mt X ad ca LY d yX5_readClause cX5_readClause 3 (some FieldType.boolean) [.ref 12] M (PT x) (q_i (PT x) Q1) ∧ ∀ v1 M1, Q1 v1 M1 → WA X ad ca LY RX5 cX5_readInto 4 (some FieldType.boolean) (d + 1) kc ks QF 51 [(0, .ref 12), (2, .int v1), (3, .int (x3 + 1))] [] M1 (PT x))))))))) : WA X ad ca LY RX5 cX5_readInto 4 (some FieldType.boolean) (d + 1) kc ks QF 51 [(0, .ref 12), (2, .int x2), (3, .int x3)] [] M (PT x) := by
  refine wa_iload_n dX5_readInto_51 1 rfl rfl ?_
  refine wa_if_eq (tgt := 80) dX5_readInto_52 rfl (fun hc => ?_) (fun hc => ?_)
  · replace hF := hF.1 hc
    exact wa_pick [0, 1] rfl hF
  · replace hF := hF.2 hc
    refine wa_aload_n dX5_readInto_55 0 rfl rfl ?_
    refine wb_geti (v := M 12 3) dX5_readInto_56 fkX5_17 rfl rfl rfl ?_
    refine wa_iconst (v := (-1)) dX5_readInto_59 rfl ?_
    refine wa_icmp_eq (tgt := 80) dX5_readInto_60 rfl (fun hc => ?_) (fun hc => ?_)
    · replace hF := hF.1 hc
      exact wa_pick [0, 1] rfl hF
    · replace hF := hF.2 hc
      refine wa_iload_n dX5_readInto_63 2 rfl rfl ?_
      refine wa_bipush (v := 30) dX5_readInto_64 rfl ?_
      refine wa_icmp_gt (tgt := 80) dX5_readInto_66 rfl (fun hc => ?_) (fun hc => ?_)
      · replace hF := hF.1 hc
        exact wa_pick [0, 1] rfl hF
      · replace hF := hF.2 hc
        refine wa_aload_n dX5_readInto_69 0 rfl rfl ?_
        obtain ⟨Q1, hM9, hF⟩ := hF
        refine wa_callV [] dX5_readInto_70 (mmX5_readClause _ _) mlX5_53 mnX5_readClause mseX5_readClause rfl rfl rfl rfl (a_dlt d) rfl rfl hM9 ?_
        rintro r9 M1 P9 ⟨v1, rfl, rfl, hq9⟩
        replace hF := hF v1 M1 hq9
        simp only [Option.toList, List.cons_append, List.nil_append]
        refine wa_istore_n (lv' := [(2, .int v1), (0, .ref 12), (3, .int x3)]) dX5_readInto_73 rfl rfl rfl ?_
        refine wa_iinc (v := x3 + 1) (lv' := [(3, .int (x3 + 1)), (2, .int v1), (0, .ref 12)]) dX5_readInto_74 2 rfl rfl rfl rfl ?_
        refine wa_goto (tgt := 51) dX5_readInto_77 rfl ?_
        exact wa_pick [2, 1, 0] rfl hF

theorem bX5_readInto_80 {X : a_X} {ad : Nat → Nat} {ca : Nat → ClassId} {d : Nat} {Post : Option Value → a_M → a_P → Prop} {x : Nat} {M : a_M} (x2 : Int32)  (hF : ((x2 = 0 → (∃ Q1 : Int32 → a_M → Prop, Mt X ad ca LY d yX10_start cX10_start 2 (some FieldType.int) [.ref 1, .int (M 12 2)] M (PT x) (q_i (PT x) Q1) ∧ ∀ v1 M1, Q1 v1 M1 → ((x2 = 0 ∨ x2 = 1) ∧ Post (some (.int x2)) (ms M1 12 7 v1) (PT x)))) ∧ (¬ x2 = 0 → ((x2 = 0 ∨ x2 = 1) ∧ Post (some (.int x2)) (ms M 12 7 (-1)) (PT x))))) : WA X ad ca LY RX5 cX5_readInto 4 (some FieldType.boolean) (d + 1) 0 0 (a_E X ad ca LY Post) 80 [(0, .ref 12), (2, .int x2)] [] M (PT x) := by
  refine wa_aload_n dX5_readInto_80 0 rfl rfl ?_
  refine wa_iload_n dX5_readInto_81 1 rfl rfl ?_
  refine wa_if_eq (tgt := 89) dX5_readInto_82 rfl (fun hc => ?_) (fun hc => ?_)
  · replace hF := hF.1 hc
    refine wa_aload_n dX5_readInto_89 0 rfl rfl ?_
    refine wa_getr (r := 1) dX5_readInto_90 fkX5_33 rfl rfl rfl ?_
    refine wa_aload_n dX5_readInto_93 0 rfl rfl ?_
    refine wb_geti (v := M 12 2) dX5_readInto_94 fkX5_9 rfl rfl rfl ?_
    obtain ⟨Q1, hM9, hF⟩ := hF
    refine wa_callV [.int (M 12 2)] dX5_readInto_97 (mmX10_start _ _) mlX5_57 mnX10_start mseX10_start rfl rfl rfl rfl (a_dlt d) rfl rfl hM9 ?_
    rintro r9 M1 P9 ⟨v1, rfl, rfl, hq9⟩
    replace hF := hF v1 M1 hq9
    simp only [Option.toList, List.cons_append, List.nil_append]
    refine wb_puti dX5_readInto_100 fkX5_30 fmX5_7 rfl rfl ?_
    refine wa_iload_n dX5_readInto_103 1 rfl rfl ?_
    exact wa_iret dX5_readInto_104 rfl (a_bn hF.1) hF.2
  · replace hF := hF.2 hc
    refine wa_iconst (v := (-1)) dX5_readInto_85 rfl ?_
    refine wa_goto (tgt := 100) dX5_readInto_86 rfl ?_
    refine wb_puti dX5_readInto_100 fkX5_30 fmX5_7 rfl rfl ?_
    refine wa_iload_n dX5_readInto_103 1 rfl rfl ?_
    exact wa_iret dX5_readInto_104 rfl (a_bn hF.1) hF.2

theorem eX5_readInto {X : a_X} {ad : Nat → Nat} {ca : Nat → ClassId} {d : Nat} {Post : Option Value → a_M → a_P → Prop} {x : Nat} {M : a_M} (o1 : Nat) (h : WA X ad ca LY RX5 cX5_readInto 4 (some FieldType.boolean) d 0 0 (a_E X ad ca LY Post) 0 [(0, .ref 12), (1, .ref o1)] [] M (PT x)) : Mt X ad ca LY d yX5_readInto cX5_readInto 4 (some FieldType.boolean) [.ref 12, .ref o1] M (PT x) Post := Mt.of (lv := [(0, .ref 12), (1, .ref o1)]) (by decide +kernel) rfl rfl rfl (wa_pick [0, 1] rfl h)

theorem bX5_advance_0 {X : a_X} {ad : Nat → Nat} {ca : Nat → ClassId} {d : Nat} {Post : Option Value → a_M → a_P → Prop} {x : Nat} {M : a_M}   (hF : ((301 ≤ ((M 12 2) + 1) → Post none (ms (ms M 12 2 ((M 12 2) + 1)) 12 3 (-1)) (PT x)) ∧ (¬ 301 ≤ ((M 12 2) + 1) → (vp_in ((M 12 2) + 1) 301 ∧ Post none (ms (ms M 12 2 ((M 12 2) + 1)) 12 3 (M 3 (((M 12 2) + 1).toNatClampNeg))) (PT x))))) : WA X ad ca LY RX5 cX5_advance 1 none (d + 1) 0 0 (a_E X ad ca LY Post) 0 [(0, .ref 12)] [] M (PT x) := by
  refine wa_aload_n dX5_advance_0 0 rfl rfl ?_
  refine wa_dup dX5_advance_1 rfl ?_
  refine wb_geti (v := M 12 2) dX5_advance_2 fkX5_9 rfl rfl rfl ?_
  refine wa_iconst (v := 1) dX5_advance_5 rfl ?_
  refine wa_iadd dX5_advance_6 ?_
  refine wb_puti dX5_advance_7 fkX5_9 fmX5_2 rfl rfl ?_
  refine wa_aload_n dX5_advance_10 0 rfl rfl ?_
  refine wa_aload_n dX5_advance_11 0 rfl rfl ?_
  refine wb_geti (v := ((M 12 2) + 1)) dX5_advance_12 fkX5_9 rfl rfl (ms_is M 12 2 ((M 12 2) + 1)) ?_
  refine wa_aload_n dX5_advance_15 0 rfl rfl ?_
  refine wa_getr (r := 1) dX5_advance_16 fkX5_33 rfl rfl rfl ?_
  refine wa_getr (r := 3) dX5_advance_19 fkX5_61 rfl rfl rfl ?_
  refine wa_alen (v := 301) dX5_advance_22 rfl (by decide) rfl ?_
  refine wa_icmp_ge (tgt := 41) dX5_advance_23 rfl (fun hc => ?_) (fun hc => ?_)
  · replace hF := hF.1 hc
    refine wa_iconst (v := (-1)) dX5_advance_41 rfl ?_
    refine wb_puti dX5_advance_42 fkX5_17 fmX5_3 rfl rfl ?_
    exact wa_vret dX5_advance_45 rfl hF
  · replace hF := hF.2 hc
    refine wa_aload_n dX5_advance_26 0 rfl rfl ?_
    refine wa_getr (r := 1) dX5_advance_27 fkX5_33 rfl rfl rfl ?_
    refine wa_getr (r := 3) dX5_advance_30 fkX5_61 rfl rfl rfl ?_
    refine wa_aload_n dX5_advance_33 0 rfl rfl ?_
    refine wb_geti (v := ((M 12 2) + 1)) dX5_advance_34 fkX5_9 rfl rfl (ms_is M 12 2 ((M 12 2) + 1)) ?_
    obtain ⟨hi9, hF⟩ := hF
    refine wb_iald (j := ((M 12 2) + 1).toNatClampNeg) (v := M 3 (((M 12 2) + 1).toNatClampNeg)) dX5_advance_37 rfl hi9 rfl ((ms_no M 12 2 ((M 12 2) + 1) 3 (((M 12 2) + 1).toNatClampNeg) (fun h9 => absurd h9.1 (by decide))).trans rfl) ?_
    refine wa_goto (tgt := 42) dX5_advance_38 rfl ?_
    refine wb_puti dX5_advance_42 fkX5_17 fmX5_3 rfl rfl ?_
    exact wa_vret dX5_advance_45 rfl hF

theorem eX5_advance {X : a_X} {ad : Nat → Nat} {ca : Nat → ClassId} {d : Nat} {Post : Option Value → a_M → a_P → Prop} {x : Nat} {M : a_M}  (h : WA X ad ca LY RX5 cX5_advance 1 none d 0 0 (a_E X ad ca LY Post) 0 [(0, .ref 12)] [] M (PT x)) : Mt X ad ca LY d yX5_advance cX5_advance 1 none [.ref 12] M (PT x) Post := Mt.of (lv := [(0, .ref 12)]) (by decide +kernel) rfl rfl rfl (wa_pick [0] rfl h)

theorem bX5_refuse_0 {X : a_X} {ad : Nat → Nat} {ca : Nat → ClassId} {d : Nat} {Post : Option Value → a_M → a_P → Prop} {x : Nat} {M : a_M} (x1 : Int32)  (hF : Post (some (.int 0)) (ms M 12 6 x1) (PT x)) : WA X ad ca LY RX5 cX5_refuse 2 (some FieldType.boolean) (d + 1) 0 0 (a_E X ad ca LY Post) 0 [(0, .ref 12), (1, .int x1)] [] M (PT x) := by
  refine wa_aload_n dX5_refuse_0 0 rfl rfl ?_
  refine wa_iload_n dX5_refuse_1 1 rfl rfl ?_
  refine wb_puti dX5_refuse_2 fkX5_27 fmX5_6 rfl rfl ?_
  refine wa_iconst (v := 0) dX5_refuse_5 rfl ?_
  exact wa_iret dX5_refuse_6 rfl rfl hF

theorem eX5_refuse {X : a_X} {ad : Nat → Nat} {ca : Nat → ClassId} {d : Nat} {Post : Option Value → a_M → a_P → Prop} {x : Nat} {M : a_M} (x1 : Int32) (h : WA X ad ca LY RX5 cX5_refuse 2 (some FieldType.boolean) d 0 0 (a_E X ad ca LY Post) 0 [(0, .ref 12), (1, .int x1)] [] M (PT x)) : Mt X ad ca LY d yX5_refuse cX5_refuse 2 (some FieldType.boolean) [.ref 12, .int x1] M (PT x) Post := Mt.of (lv := [(0, .ref 12), (1, .int x1)]) (by decide +kernel) rfl rfl rfl (wa_pick [0, 1] rfl h)

theorem bX5_pass_0 {X : a_X} {ad : Nat → Nat} {ca : Nat → ClassId} {d : Nat} {Post : Option Value → a_M → a_P → Prop} {x : Nat} {M : a_M} (x1 : Int32)  (hF : (((M 12 3) = x1 → (∃ Q1 : a_M → Prop, Mt X ad ca LY d yX5_advance cX5_advance 1 none [.ref 12] M (PT x) (q_v (PT x) Q1) ∧ ∀ M1, Q1 M1 → Post (some (.int 1)) M1 (PT x))) ∧ (¬ (M 12 3) = x1 → (∃ Q2 : Int32 → a_M → Prop, Mt X ad ca LY d yX5_refuse cX5_refuse 2 (some FieldType.boolean) [.ref 12, .int 1] M (PT x) (q_i (PT x) Q2) ∧ ∀ v2 M2, Q2 v2 M2 → ((v2 = 0 ∨ v2 = 1) ∧ Post (some (.int v2)) M2 (PT x)))))) : WA X ad ca LY RX5 cX5_pass 2 (some FieldType.boolean) (d + 1) 0 0 (a_E X ad ca LY Post) 0 [(0, .ref 12), (1, .int x1)] [] M (PT x) := by
  refine wa_aload_n dX5_pass_0 0 rfl rfl ?_
  refine wb_geti (v := M 12 3) dX5_pass_1 fkX5_17 rfl rfl rfl ?_
  refine wa_iload_n dX5_pass_4 1 rfl rfl ?_
  refine wa_icmp_eq (tgt := 14) dX5_pass_5 rfl (fun hc => ?_) (fun hc => ?_)
  · replace hF := hF.1 hc
    refine wa_aload_n dX5_pass_14 0 rfl rfl ?_
    obtain ⟨Q1, hM9, hF⟩ := hF
    refine wa_callV [] dX5_pass_15 (mmX5_advance _ _) mlX5_50 mnX5_advance mseX5_advance rfl rfl rfl rfl (a_dlt d) rfl rfl hM9 ?_
    rintro r9 M1 P9 ⟨rfl, rfl, hq9⟩
    replace hF := hF M1 hq9
    simp only [Option.toList, List.nil_append]
    refine wa_iconst (v := 1) dX5_pass_18 rfl ?_
    exact wa_iret dX5_pass_19 rfl rfl hF
  · replace hF := hF.2 hc
    refine wa_aload_n dX5_pass_8 0 rfl rfl ?_
    refine wa_iconst (v := 1) dX5_pass_9 rfl ?_
    obtain ⟨Q2, hM9, hF⟩ := hF
    refine wa_callV [.int 1] dX5_pass_10 (mmX5_refuse _ _) mlX5_65 mnX5_refuse mseX5_refuse rfl rfl rfl rfl (a_dlt d) rfl rfl hM9 ?_
    rintro r9 M2 P9 ⟨v2, rfl, rfl, hq9⟩
    replace hF := hF v2 M2 hq9
    simp only [Option.toList, List.cons_append, List.nil_append]
    exact wa_iret dX5_pass_13 rfl (a_bn hF.1) hF.2

theorem eX5_pass {X : a_X} {ad : Nat → Nat} {ca : Nat → ClassId} {d : Nat} {Post : Option Value → a_M → a_P → Prop} {x : Nat} {M : a_M} (x1 : Int32) (h : WA X ad ca LY RX5 cX5_pass 2 (some FieldType.boolean) d 0 0 (a_E X ad ca LY Post) 0 [(0, .ref 12), (1, .int x1)] [] M (PT x)) : Mt X ad ca LY d yX5_pass cX5_pass 2 (some FieldType.boolean) [.ref 12, .int x1] M (PT x) Post := Mt.of (lv := [(0, .ref 12), (1, .int x1)]) (by decide +kernel) rfl rfl rfl (wa_pick [0, 1] rfl h)

theorem bX5_readClause_0 {X : a_X} {ad : Nat → Nat} {ca : Nat → ClassId} {d : Nat} {Post : Option Value → a_M → a_P → Prop} {x : Nat} {M : a_M}  (hLx : LY[x]? = some (7, 7)) (hF : ((((M 12 3) - 257) < 0 → WA X ad ca LY RX5 cX5_readClause 3 (some FieldType.boolean) (d + 1) 0 0 (a_E X ad ca LY Post) 19 [(0, .ref 12)] [] M (PT x)) ∧ (¬ ((M 12 3) - 257) < 0 → ((((M 12 3) - 257) ≤ 6 → (∃ Q1 : Int32 → a_M → Prop, Mt X ad ca LY d yX7_hasWeight cX7_hasWeight 2 (some FieldType.boolean) [.ref x, .int ((M 12 3) - 257)] M (PT x) (q_i (PT x) Q1) ∧ ∀ v1 M1, Q1 v1 M1 → ((v1 = 0 → (((M1 x 0) < 30 → (∃ Q2 : a_M → Prop, Mt X ad ca LY d yX7_open cX7_open 2 none [.ref x, .int ((M 12 3) - 257)] M1 (PT x) (q_v (PT x) Q2) ∧ ∀ M2, Q2 M2 → (∃ Q3 : a_M → Prop, Mt X ad ca LY d yX5_advance cX5_advance 1 none [.ref 12] M2 (PT x) (q_v (PT x) Q3) ∧ ∀ M3, Q3 M3 → ((¬ ((M 12 3) - 257) = 6 → ((¬ ((M 12 3) - 257) = 4 → ((((M 12 3) - 257) = 3 → WA X ad ca LY RX5 cX5_readClause 3 (some FieldType.boolean) (d + 1) 0 0 (a_E X ad ca LY Post) 121 [(0, .ref 12), (2, .int 1)] [] (ms M3 12 4 0) (PT x)) ∧ (¬ ((M 12 3) - 257) = 3 → ((((M 12 3) - 257) = 5 → WA X ad ca LY RX5 cX5_readClause 3 (some FieldType.boolean) (d + 1) 0 0 (a_E X ad ca LY Post) 121 [(0, .ref 12), (2, .int 1)] [] (ms M3 12 4 0) (PT x)) ∧ (¬ ((M 12 3) - 257) = 5 → (∃ Q4 : Int32 → a_M → Prop, Mt X ad ca LY d yX5_readSum cX5_readSum 5 (some FieldType.boolean) [.ref 12, .int 0] (ms M3 12 4 0) (PT x) (q_i (PT x) Q4) ∧ ∀ v4 M4, Q4 v4 M4 → WA X ad ca LY RX5 cX5_readClause 3 (some FieldType.boolean) (d + 1) 0 0 (a_E X ad ca LY Post) 121 [(0, .ref 12), (2, .int v4)] [] M4 (PT x))))))) ∧ (((M 12 3) - 257) = 4 → (∃ Q5 : Int32 → a_M → Prop, Mt X ad ca LY d yX5_readNumber cX5_readNumber 2 (some FieldType.boolean) [.ref 12, .int 6] (ms M3 12 4 0) (PT x) (q_i (PT x) Q5) ∧ ∀ v5 M5, Q5 v5 M5 → WA X ad ca LY RX5 cX5_readClause 3 (some FieldType.boolean) (d + 1) 0 0 (a_E X ad ca LY Post) 121 [(0, .ref 12), (2, .int v5)] [] M5 (PT x))))) ∧ (((M 12 3) - 257) = 6 → ((¬ ((M 12 3) - 257) = 4 → ((((M 12 3) - 257) = 3 → WA X ad ca LY RX5 cX5_readClause 3 (some FieldType.boolean) (d + 1) 0 0 (a_E X ad ca LY Post) 121 [(0, .ref 12), (2, .int 1)] [] (ms M3 12 4 1) (PT x)) ∧ (¬ ((M 12 3) - 257) = 3 → ((((M 12 3) - 257) = 5 → WA X ad ca LY RX5 cX5_readClause 3 (some FieldType.boolean) (d + 1) 0 0 (a_E X ad ca LY Post) 121 [(0, .ref 12), (2, .int 1)] [] (ms M3 12 4 1) (PT x)) ∧ (¬ ((M 12 3) - 257) = 5 → (∃ Q6 : Int32 → a_M → Prop, Mt X ad ca LY d yX5_readSum cX5_readSum 5 (some FieldType.boolean) [.ref 12, .int 0] (ms M3 12 4 1) (PT x) (q_i (PT x) Q6) ∧ ∀ v6 M6, Q6 v6 M6 → WA X ad ca LY RX5 cX5_readClause 3 (some FieldType.boolean) (d + 1) 0 0 (a_E X ad ca LY Post) 121 [(0, .ref 12), (2, .int v6)] [] M6 (PT x))))))) ∧ (((M 12 3) - 257) = 4 → (∃ Q7 : Int32 → a_M → Prop, Mt X ad ca LY d yX5_readNumber cX5_readNumber 2 (some FieldType.boolean) [.ref 12, .int 6] (ms M3 12 4 1) (PT x) (q_i (PT x) Q7) ∧ ∀ v7 M7, Q7 v7 M7 → WA X ad ca LY RX5 cX5_readClause 3 (some FieldType.boolean) (d + 1) 0 0 (a_E X ad ca LY Post) 121 [(0, .ref 12), (2, .int v7)] [] M7 (PT x))))))))) ∧ (¬ (M1 x 0) < 30 → (∃ Q8 : Int32 → a_M → Prop, Mt X ad ca LY d yX5_refuse cX5_refuse 2 (some FieldType.boolean) [.ref 12, .int 6] M1 (PT x) (q_i (PT x) Q8) ∧ ∀ v8 M8, Q8 v8 M8 → ((v8 = 0 ∨ v8 = 1) ∧ Post (some (.int v8)) M8 (PT x)))))) ∧ (¬ v1 = 0 → (∃ Q9 : Int32 → a_M → Prop, Mt X ad ca LY d yX5_refuse cX5_refuse 2 (some FieldType.boolean) [.ref 12, .int 4] M1 (PT x) (q_i (PT x) Q9) ∧ ∀ v9 M9, Q9 v9 M9 → ((v9 = 0 ∨ v9 = 1) ∧ Post (some (.int v9)) M9 (PT x))))))) ∧ (¬ ((M 12 3) - 257) ≤ 6 → WA X ad ca LY RX5 cX5_readClause 3 (some FieldType.boolean) (d + 1) 0 0 (a_E X ad ca LY Post) 19 [(0, .ref 12)] [] M (PT x)))))) : WA X ad ca LY RX5 cX5_readClause 3 (some FieldType.boolean) (d + 1) 0 0 (a_E X ad ca LY Post) 0 [(0, .ref 12)] [] M (PT x) := by
  refine wa_aload_n dX5_readClause_0 0 rfl rfl ?_
  refine wb_geti (v := M 12 3) dX5_readClause_1 fkX5_17 rfl rfl rfl ?_
  refine wa_sipush (v := 257) dX5_readClause_4 rfl ?_
  refine wa_isub dX5_readClause_7 ?_
  refine wa_istore_n (lv' := [(1, .int ((M 12 3) - 257)), (0, .ref 12)]) dX5_readClause_8 rfl rfl rfl ?_
  refine wa_iload_n dX5_readClause_9 0 rfl rfl ?_
  refine wa_if_lt (tgt := 19) dX5_readClause_10 rfl (fun hc => ?_) (fun hc => ?_)
  · replace hF := hF.1 hc
    exact wa_pick [1] rfl hF
  · replace hF := hF.2 hc
    refine wa_iload_n dX5_readClause_13 0 rfl rfl ?_
    refine wa_bipush (v := 6) dX5_readClause_14 rfl ?_
    refine wa_icmp_le (tgt := 25) dX5_readClause_16 rfl (fun hc => ?_) (fun hc => ?_)
    · replace hF := hF.1 hc
      refine wa_aload_n dX5_readClause_25 1 rfl rfl ?_
      refine wa_getr (r := x) dX5_readClause_26 fkX5_37 rfl rfl rfl ?_
      refine wa_iload_n dX5_readClause_29 0 rfl rfl ?_
      obtain ⟨Q1, hM9, hF⟩ := hF
      refine wa_callV [.int ((M 12 3) - 257)] dX5_readClause_30 (mmX7_hasWeight _ _) mlX5_69 mnX7_hasWeight mseX7_hasWeight hLx rfl rfl rfl (a_dlt d) rfl rfl hM9 ?_
      rintro r9 M1 P9 ⟨v1, rfl, rfl, hq9⟩
      replace hF := hF v1 M1 hq9
      simp only [Option.toList, List.cons_append, List.nil_append]
      refine wa_if_eq (tgt := 42) dX5_readClause_33 rfl (fun hc => ?_) (fun hc => ?_)
      · replace hF := hF.1 hc
        refine wa_aload_n dX5_readClause_42 1 rfl rfl ?_
        refine wa_getr (r := x) dX5_readClause_43 fkX5_37 rfl rfl rfl ?_
        refine wb_geti (v := M1 x 0) dX5_readClause_46 fkX5_72 rfl hLx rfl ?_
        refine wa_bipush (v := 30) dX5_readClause_49 rfl ?_
        refine wa_icmp_lt (tgt := 61) dX5_readClause_51 rfl (fun hc => ?_) (fun hc => ?_)
        · replace hF := hF.1 hc
          refine wa_aload_n dX5_readClause_61 1 rfl rfl ?_
          refine wa_getr (r := x) dX5_readClause_62 fkX5_37 rfl rfl rfl ?_
          refine wa_iload_n dX5_readClause_65 0 rfl rfl ?_
          obtain ⟨Q2, hM9, hF⟩ := hF
          refine wa_callV [.int ((M 12 3) - 257)] dX5_readClause_66 (mmX7_open _ _) mlX5_75 mnX7_open mseX7_open hLx rfl rfl rfl (a_dlt d) rfl rfl hM9 ?_
          rintro r9 M2 P9 ⟨rfl, rfl, hq9⟩
          replace hF := hF M2 hq9
          simp only [Option.toList, List.nil_append]
          refine wa_aload_n dX5_readClause_69 1 rfl rfl ?_
          obtain ⟨Q3, hM9, hF⟩ := hF
          refine wa_callV [] dX5_readClause_70 (mmX5_advance _ _) mlX5_50 mnX5_advance mseX5_advance rfl rfl rfl rfl (a_dlt d) rfl rfl hM9 ?_
          rintro r9 M3 P9 ⟨rfl, rfl, hq9⟩
          replace hF := hF M3 hq9
          simp only [Option.toList, List.nil_append]
          refine wa_aload_n dX5_readClause_73 1 rfl rfl ?_
          refine wa_iload_n dX5_readClause_74 0 rfl rfl ?_
          refine wa_bipush (v := 6) dX5_readClause_75 rfl ?_
          refine wa_icmp_ne (tgt := 84) dX5_readClause_77 rfl (fun hc => ?_) (fun hc => ?_)
          · replace hF := hF.1 hc
            refine wa_iconst (v := 0) dX5_readClause_84 rfl ?_
            refine wb_putz dX5_readClause_85 fkX5_20 fmX5_4 rfl rfl (Or.inl rfl) ?_
            refine wa_iconst (v := 1) dX5_readClause_88 rfl ?_
            refine wa_istore_n (lv' := [(2, .int 1), (1, .int ((M 12 3) - 257)), (0, .ref 12)]) dX5_readClause_89 rfl rfl rfl ?_
            refine wa_iload_n dX5_readClause_90 1 rfl rfl ?_
            refine wa_iconst (v := 4) dX5_readClause_91 rfl ?_
            refine wa_icmp_ne (tgt := 105) dX5_readClause_92 rfl (fun hc => ?_) (fun hc => ?_)
            · replace hF := hF.1 hc
              refine wa_iload_n dX5_readClause_105 1 rfl rfl ?_
              refine wa_iconst (v := 3) dX5_readClause_106 rfl ?_
              refine wa_icmp_eq (tgt := 121) dX5_readClause_107 rfl (fun hc => ?_) (fun hc => ?_)
              · replace hF := hF.1 hc
                exact wa_pick [2, 0] rfl hF
              · replace hF := hF.2 hc
                refine wa_iload_n dX5_readClause_110 1 rfl rfl ?_
                refine wa_iconst (v := 5) dX5_readClause_111 rfl ?_
                refine wa_icmp_eq (tgt := 121) dX5_readClause_112 rfl (fun hc => ?_) (fun hc => ?_)
                · replace hF := hF.1 hc
                  exact wa_pick [2, 0] rfl hF
                · replace hF := hF.2 hc
                  refine wa_aload_n dX5_readClause_115 2 rfl rfl ?_
                  refine wa_iconst (v := 0) dX5_readClause_116 rfl ?_
                  obtain ⟨Q4, hM9, hF⟩ := hF
                  refine wa_callV [.int 0] dX5_readClause_117 (mmX5_readSum _ _) mlX5_81 mnX5_readSum mseX5_readSum rfl rfl rfl rfl (a_dlt d) rfl rfl hM9 ?_
                  rintro r9 M4 P9 ⟨v4, rfl, rfl, hq9⟩
                  replace hF := hF v4 M4 hq9
                  simp only [Option.toList, List.cons_append, List.nil_append]
                  refine wa_istore_n (lv' := [(2, .int v4), (1, .int ((M 12 3) - 257)), (0, .ref 12)]) dX5_readClause_120 rfl rfl rfl ?_
                  exact wa_pick [2, 0] rfl hF
            · replace hF := hF.2 hc
              refine wa_aload_n dX5_readClause_95 2 rfl rfl ?_
              refine wa_bipush (v := 6) dX5_readClause_96 rfl ?_
              obtain ⟨Q5, hM9, hF⟩ := hF
              refine wa_callV [.int 6] dX5_readClause_98 (mmX5_readNumber _ _) mlX5_78 mnX5_readNumber mseX5_readNumber rfl rfl rfl rfl (a_dlt d) rfl rfl hM9 ?_
              rintro r9 M5 P9 ⟨v5, rfl, rfl, hq9⟩
              replace hF := hF v5 M5 hq9
              simp only [Option.toList, List.cons_append, List.nil_append]
              refine wa_istore_n (lv' := [(2, .int v5), (1, .int ((M 12 3) - 257)), (0, .ref 12)]) dX5_readClause_101 rfl rfl rfl ?_
              refine wa_goto (tgt := 121) dX5_readClause_102 rfl ?_
              exact wa_pick [2, 0] rfl hF
          · replace hF := hF.2 hc
            refine wa_iconst (v := 1) dX5_readClause_80 rfl ?_
            refine wa_goto (tgt := 85) dX5_readClause_81 rfl ?_
            refine wb_putz dX5_readClause_85 fkX5_20 fmX5_4 rfl rfl (Or.inr rfl) ?_
            refine wa_iconst (v := 1) dX5_readClause_88 rfl ?_
            refine wa_istore_n (lv' := [(2, .int 1), (1, .int ((M 12 3) - 257)), (0, .ref 12)]) dX5_readClause_89 rfl rfl rfl ?_
            refine wa_iload_n dX5_readClause_90 1 rfl rfl ?_
            refine wa_iconst (v := 4) dX5_readClause_91 rfl ?_
            refine wa_icmp_ne (tgt := 105) dX5_readClause_92 rfl (fun hc => ?_) (fun hc => ?_)
            · replace hF := hF.1 hc
              refine wa_iload_n dX5_readClause_105 1 rfl rfl ?_
              refine wa_iconst (v := 3) dX5_readClause_106 rfl ?_
              refine wa_icmp_eq (tgt := 121) dX5_readClause_107 rfl (fun hc => ?_) (fun hc => ?_)
              · replace hF := hF.1 hc
                exact wa_pick [2, 0] rfl hF
              · replace hF := hF.2 hc
                refine wa_iload_n dX5_readClause_110 1 rfl rfl ?_
                refine wa_iconst (v := 5) dX5_readClause_111 rfl ?_
                refine wa_icmp_eq (tgt := 121) dX5_readClause_112 rfl (fun hc => ?_) (fun hc => ?_)
                · replace hF := hF.1 hc
                  exact wa_pick [2, 0] rfl hF
                · replace hF := hF.2 hc
                  refine wa_aload_n dX5_readClause_115 2 rfl rfl ?_
                  refine wa_iconst (v := 0) dX5_readClause_116 rfl ?_
                  obtain ⟨Q6, hM9, hF⟩ := hF
                  refine wa_callV [.int 0] dX5_readClause_117 (mmX5_readSum _ _) mlX5_81 mnX5_readSum mseX5_readSum rfl rfl rfl rfl (a_dlt d) rfl rfl hM9 ?_
                  rintro r9 M6 P9 ⟨v6, rfl, rfl, hq9⟩
                  replace hF := hF v6 M6 hq9
                  simp only [Option.toList, List.cons_append, List.nil_append]
                  refine wa_istore_n (lv' := [(2, .int v6), (1, .int ((M 12 3) - 257)), (0, .ref 12)]) dX5_readClause_120 rfl rfl rfl ?_
                  exact wa_pick [2, 0] rfl hF
            · replace hF := hF.2 hc
              refine wa_aload_n dX5_readClause_95 2 rfl rfl ?_
              refine wa_bipush (v := 6) dX5_readClause_96 rfl ?_
              obtain ⟨Q7, hM9, hF⟩ := hF
              refine wa_callV [.int 6] dX5_readClause_98 (mmX5_readNumber _ _) mlX5_78 mnX5_readNumber mseX5_readNumber rfl rfl rfl rfl (a_dlt d) rfl rfl hM9 ?_
              rintro r9 M7 P9 ⟨v7, rfl, rfl, hq9⟩
              replace hF := hF v7 M7 hq9
              simp only [Option.toList, List.cons_append, List.nil_append]
              refine wa_istore_n (lv' := [(2, .int v7), (1, .int ((M 12 3) - 257)), (0, .ref 12)]) dX5_readClause_101 rfl rfl rfl ?_
              refine wa_goto (tgt := 121) dX5_readClause_102 rfl ?_
              exact wa_pick [2, 0] rfl hF
        · replace hF := hF.2 hc
          refine wa_aload_n dX5_readClause_54 1 rfl rfl ?_
          refine wa_bipush (v := 6) dX5_readClause_55 rfl ?_
          obtain ⟨Q8, hM9, hF⟩ := hF
          refine wa_callV [.int 6] dX5_readClause_57 (mmX5_refuse _ _) mlX5_65 mnX5_refuse mseX5_refuse rfl rfl rfl rfl (a_dlt d) rfl rfl hM9 ?_
          rintro r9 M8 P9 ⟨v8, rfl, rfl, hq9⟩
          replace hF := hF v8 M8 hq9
          simp only [Option.toList, List.cons_append, List.nil_append]
          exact wa_iret dX5_readClause_60 rfl (a_bn hF.1) hF.2
      · replace hF := hF.2 hc
        refine wa_aload_n dX5_readClause_36 1 rfl rfl ?_
        refine wa_iconst (v := 4) dX5_readClause_37 rfl ?_
        obtain ⟨Q9, hM9, hF⟩ := hF
        refine wa_callV [.int 4] dX5_readClause_38 (mmX5_refuse _ _) mlX5_65 mnX5_refuse mseX5_refuse rfl rfl rfl rfl (a_dlt d) rfl rfl hM9 ?_
        rintro r9 M9 P9 ⟨v9, rfl, rfl, hq9⟩
        replace hF := hF v9 M9 hq9
        simp only [Option.toList, List.cons_append, List.nil_append]
        exact wa_iret dX5_readClause_41 rfl (a_bn hF.1) hF.2
    · replace hF := hF.2 hc
      exact wa_pick [1] rfl hF

theorem bX5_readClause_19 {X : a_X} {ad : Nat → Nat} {ca : Nat → ClassId} {d : Nat} {Post : Option Value → a_M → a_P → Prop} {x : Nat} {M : a_M}   (hF : (∃ Q1 : Int32 → a_M → Prop, Mt X ad ca LY d yX5_refuse cX5_refuse 2 (some FieldType.boolean) [.ref 12, .int 1] M (PT x) (q_i (PT x) Q1) ∧ ∀ v1 M1, Q1 v1 M1 → ((v1 = 0 ∨ v1 = 1) ∧ Post (some (.int v1)) M1 (PT x)))) : WA X ad ca LY RX5 cX5_readClause 3 (some FieldType.boolean) (d + 1) 0 0 (a_E X ad ca LY Post) 19 [(0, .ref 12)] [] M (PT x) := by
  refine wa_aload_n dX5_readClause_19 0 rfl rfl ?_
  refine wa_iconst (v := 1) dX5_readClause_20 rfl ?_
  obtain ⟨Q1, hM9, hF⟩ := hF
  refine wa_callV [.int 1] dX5_readClause_21 (mmX5_refuse _ _) mlX5_65 mnX5_refuse mseX5_refuse rfl rfl rfl rfl (a_dlt d) rfl rfl hM9 ?_
  rintro r9 M1 P9 ⟨v1, rfl, rfl, hq9⟩
  replace hF := hF v1 M1 hq9
  simp only [Option.toList, List.cons_append, List.nil_append]
  exact wa_iret dX5_readClause_24 rfl (a_bn hF.1) hF.2

theorem bX5_readClause_121 {X : a_X} {ad : Nat → Nat} {ca : Nat → ClassId} {d : Nat} {Post : Option Value → a_M → a_P → Prop} {x : Nat} {M : a_M} (x2 : Int32)  (hF : ((x2 = 0 → WA X ad ca LY RX5 cX5_readClause 3 (some FieldType.boolean) (d + 1) 0 0 (a_E X ad ca LY Post) 138 [] [] M (PT x)) ∧ (¬ x2 = 0 → (∃ Q1 : Int32 → a_M → Prop, Mt X ad ca LY d yX5_pass cX5_pass 2 (some FieldType.boolean) [.ref 12, .int 59] M (PT x) (q_i (PT x) Q1) ∧ ∀ v1 M1, Q1 v1 M1 → ((v1 = 0 → WA X ad ca LY RX5 cX5_readClause 3 (some FieldType.boolean) (d + 1) 0 0 (a_E X ad ca LY Post) 138 [] [] M1 (PT x)) ∧ (¬ v1 = 0 → Post (some (.int 1)) M1 (PT x))))))) : WA X ad ca LY RX5 cX5_readClause 3 (some FieldType.boolean) (d + 1) 0 0 (a_E X ad ca LY Post) 121 [(0, .ref 12), (2, .int x2)] [] M (PT x) := by
  refine wa_iload_n dX5_readClause_121 1 rfl rfl ?_
  refine wa_if_eq (tgt := 138) dX5_readClause_122 rfl (fun hc => ?_) (fun hc => ?_)
  · replace hF := hF.1 hc
    exact wa_pick [] rfl hF
  · replace hF := hF.2 hc
    refine wa_aload_n dX5_readClause_125 0 rfl rfl ?_
    refine wa_bipush (v := 59) dX5_readClause_126 rfl ?_
    obtain ⟨Q1, hM9, hF⟩ := hF
    refine wa_callV [.int 59] dX5_readClause_128 (mmX5_pass _ _) mlX5_84 mnX5_pass mseX5_pass rfl rfl rfl rfl (a_dlt d) rfl rfl hM9 ?_
    rintro r9 M1 P9 ⟨v1, rfl, rfl, hq9⟩
    replace hF := hF v1 M1 hq9
    simp only [Option.toList, List.cons_append, List.nil_append]
    refine wa_if_eq (tgt := 138) dX5_readClause_131 rfl (fun hc => ?_) (fun hc => ?_)
    · replace hF := hF.1 hc
      exact wa_pick [] rfl hF
    · replace hF := hF.2 hc
      refine wa_iconst (v := 1) dX5_readClause_134 rfl ?_
      refine wa_goto (tgt := 139) dX5_readClause_135 rfl ?_
      exact wa_iret dX5_readClause_139 rfl rfl hF

theorem bX5_readClause_138 {X : a_X} {ad : Nat → Nat} {ca : Nat → ClassId} {d : Nat} {Post : Option Value → a_M → a_P → Prop} {x : Nat} {M : a_M}   (hF : Post (some (.int 0)) M (PT x)) : WA X ad ca LY RX5 cX5_readClause 3 (some FieldType.boolean) (d + 1) 0 0 (a_E X ad ca LY Post) 138 [] [] M (PT x) := by
  refine wa_iconst (v := 0) dX5_readClause_138 rfl ?_
  exact wa_iret dX5_readClause_139 rfl rfl hF

theorem eX5_readClause {X : a_X} {ad : Nat → Nat} {ca : Nat → ClassId} {d : Nat} {Post : Option Value → a_M → a_P → Prop} {x : Nat} {M : a_M}  (h : WA X ad ca LY RX5 cX5_readClause 3 (some FieldType.boolean) d 0 0 (a_E X ad ca LY Post) 0 [(0, .ref 12)] [] M (PT x)) : Mt X ad ca LY d yX5_readClause cX5_readClause 3 (some FieldType.boolean) [.ref 12] M (PT x) Post := Mt.of (lv := [(0, .ref 12)]) (by decide +kernel) rfl rfl rfl (wa_pick [0] rfl h)

theorem bX5_readSum_0 {X : a_X} {ad : Nat → Nat} {ca : Nat → ClassId} {d : Nat} {kc ks : Nat} {QF : List Frame → Array Value → State → State → Prop} {x : Nat} {M : a_M} (x1 : Int32)  (hF : (∃ Q1 : Int32 → a_M → Prop, Mt X ad ca LY d yX5_readProduct cX5_readProduct 5 (some FieldType.boolean) [.ref 12, .int x1] M (PT x) (q_i (PT x) Q1) ∧ ∀ v1 M1, Q1 v1 M1 → WA X ad ca LY RX5 cX5_readSum 5 (some FieldType.boolean) (d + 1) kc ks QF 8 [(0, .ref 12), (1, .int x1), (2, .int v1), (3, .int 0)] [] M1 (PT x))) : WA X ad ca LY RX5 cX5_readSum 5 (some FieldType.boolean) (d + 1) kc ks QF 0 [(0, .ref 12), (1, .int x1)] [] M (PT x) := by
  refine wa_aload_n dX5_readSum_0 0 rfl rfl ?_
  refine wa_iload_n dX5_readSum_1 1 rfl rfl ?_
  obtain ⟨Q1, hM9, hF⟩ := hF
  refine wa_callV [.int x1] dX5_readSum_2 (mmX5_readProduct _ _) mlX5_87 mnX5_readProduct mseX5_readProduct rfl rfl rfl rfl (a_dlt d) rfl rfl hM9 ?_
  rintro r9 M1 P9 ⟨v1, rfl, rfl, hq9⟩
  replace hF := hF v1 M1 hq9
  simp only [Option.toList, List.cons_append, List.nil_append]
  refine wa_istore_n (lv' := [(2, .int v1), (0, .ref 12), (1, .int x1)]) dX5_readSum_5 rfl rfl rfl ?_
  refine wa_iconst (v := 0) dX5_readSum_6 rfl ?_
  refine wa_istore_n (lv' := [(3, .int 0), (2, .int v1), (0, .ref 12), (1, .int x1)]) dX5_readSum_7 rfl rfl rfl ?_
  exact wa_pick [2, 3, 1, 0] rfl hF

theorem bX5_readSum_8 {X : a_X} {ad : Nat → Nat} {ca : Nat → ClassId} {d : Nat} {kc ks : Nat} {QF : List Frame → Array Value → State → State → Prop} {x : Nat} {M : a_M} (x1 : Int32) (x2 : Int32) (x3 : Int32)  (hF : ((300 ≤ x3 → WA X ad ca LY RX5 cX5_readSum 5 (some FieldType.boolean) (d + 1) kc ks QF 80 [(2, .int x2)] [] M (PT x)) ∧ (¬ 300 ≤ x3 → ((x2 = 0 → WA X ad ca LY RX5 cX5_readSum 5 (some FieldType.boolean) (d + 1) kc ks QF 80 [(2, .int x2)] [] M (PT x)) ∧ (¬ x2 = 0 → (((M 12 3) = 43 → WA X ad ca LY RX5 cX5_readSum 5 (some FieldType.boolean) (d + 1) kc ks QF 37 [(0, .ref 12), (1, .int x1), (3, .int x3)] [] M (PT x)) ∧ (¬ (M 12 3) = 43 → ((¬ (M 12 3) = 45 → WA X ad ca LY RX5 cX5_readSum 5 (some FieldType.boolean) (d + 1) kc ks QF 80 [(2, .int x2)] [] M (PT x)) ∧ ((M 12 3) = 45 → WA X ad ca LY RX5 cX5_readSum 5 (some FieldType.boolean) (d + 1) kc ks QF 37 [(0, .ref 12), (1, .int x1), (3, .int x3)] [] M (PT x)))))))))) : WA X ad ca LY RX5 cX5_readSum 5 (some FieldType.boolean) (d + 1) kc ks QF 8 [(0, .ref 12), (1, .int x1), (2, .int x2), (3, .int x3)] [] M (PT x) := by
  refine wa_iload_n dX5_readSum_8 3 rfl rfl ?_
  refine wa_sipush (v := 300) dX5_readSum_9 rfl ?_
  refine wa_icmp_ge (tgt := 80) dX5_readSum_12 rfl (fun hc => ?_) (fun hc => ?_)
  · replace hF := hF.1 hc
    exact wa_pick [2] rfl hF
  · replace hF := hF.2 hc
    refine wa_iload_n dX5_readSum_15 2 rfl rfl ?_
    refine wa_if_eq (tgt := 80) dX5_readSum_16 rfl (fun hc => ?_) (fun hc => ?_)
    · replace hF := hF.1 hc
      exact wa_pick [2] rfl hF
    · replace hF := hF.2 hc
      refine wa_aload_n dX5_readSum_19 0 rfl rfl ?_
      refine wb_geti (v := M 12 3) dX5_readSum_20 fkX5_17 rfl rfl rfl ?_
      refine wa_bipush (v := 43) dX5_readSum_23 rfl ?_
      refine wa_icmp_eq (tgt := 37) dX5_readSum_25 rfl (fun hc => ?_) (fun hc => ?_)
      · replace hF := hF.1 hc
        exact wa_pick [0, 1, 3] rfl hF
      · replace hF := hF.2 hc
        refine wa_aload_n dX5_readSum_28 0 rfl rfl ?_
        refine wb_geti (v := M 12 3) dX5_readSum_29 fkX5_17 rfl rfl rfl ?_
        refine wa_bipush (v := 45) dX5_readSum_32 rfl ?_
        refine wa_icmp_ne (tgt := 80) dX5_readSum_34 rfl (fun hc => ?_) (fun hc => ?_)
        · replace hF := hF.1 hc
          exact wa_pick [2] rfl hF
        · replace hF := hF.2 hc
          exact wa_pick [0, 1, 3] rfl hF

theorem bX5_readSum_37 {X : a_X} {ad : Nat → Nat} {ca : Nat → ClassId} {d : Nat} {kc ks : Nat} {QF : List Frame → Array Value → State → State → Prop} {x : Nat} {M : a_M} (x1 : Int32) (x3 : Int32) (hLx : LY[x]? = some (7, 7)) (hF : ((¬ (M 12 3) = 43 → (∃ Q1 : a_M → Prop, Mt X ad ca LY d yX5_advance cX5_advance 1 none [.ref 12] M (PT x) (q_v (PT x) Q1) ∧ ∀ M1, Q1 M1 → (∃ Q2 : Int32 → a_M → Prop, Mt X ad ca LY d yX5_readProduct cX5_readProduct 5 (some FieldType.boolean) [.ref 12, .int x1] M1 (PT x) (q_i (PT x) Q2) ∧ ∀ v2 M2, Q2 v2 M2 → (∃ Q3 : a_M → Prop, Mt X ad ca LY d yX7_add cX7_add 3 none [.ref x, .int (-6)] M2 (PT x) (q_v (PT x) Q3) ∧ ∀ M3, Q3 M3 → WA X ad ca LY RX5 cX5_readSum 5 (some FieldType.boolean) (d + 1) kc ks QF 8 [(0, .ref 12), (1, .int x1), (2, .int v2), (3, .int (x3 + 1))] [] M3 (PT x))))) ∧ ((M 12 3) = 43 → (∃ Q4 : a_M → Prop, Mt X ad ca LY d yX5_advance cX5_advance 1 none [.ref 12] M (PT x) (q_v (PT x) Q4) ∧ ∀ M4, Q4 M4 → (∃ Q5 : Int32 → a_M → Prop, Mt X ad ca LY d yX5_readProduct cX5_readProduct 5 (some FieldType.boolean) [.ref 12, .int x1] M4 (PT x) (q_i (PT x) Q5) ∧ ∀ v5 M5, Q5 v5 M5 → (∃ Q6 : a_M → Prop, Mt X ad ca LY d yX7_add cX7_add 3 none [.ref x, .int (-5)] M5 (PT x) (q_v (PT x) Q6) ∧ ∀ M6, Q6 M6 → WA X ad ca LY RX5 cX5_readSum 5 (some FieldType.boolean) (d + 1) kc ks QF 8 [(0, .ref 12), (1, .int x1), (2, .int v5), (3, .int (x3 + 1))] [] M6 (PT x))))))) : WA X ad ca LY RX5 cX5_readSum 5 (some FieldType.boolean) (d + 1) kc ks QF 37 [(0, .ref 12), (1, .int x1), (3, .int x3)] [] M (PT x) := by
  refine wa_aload_n dX5_readSum_37 0 rfl rfl ?_
  refine wb_geti (v := M 12 3) dX5_readSum_38 fkX5_17 rfl rfl rfl ?_
  refine wa_bipush (v := 43) dX5_readSum_41 rfl ?_
  refine wa_icmp_ne (tgt := 51) dX5_readSum_43 rfl (fun hc => ?_) (fun hc => ?_)
  · replace hF := hF.1 hc
    refine wa_bipush (v := (-6)) dX5_readSum_51 rfl ?_
    refine wa_istore (lv' := [(4, .int (-6)), (0, .ref 12), (1, .int x1), (3, .int x3)]) dX5_readSum_53 rfl rfl ?_
    refine wa_aload_n dX5_readSum_55 1 rfl rfl ?_
    obtain ⟨Q1, hM9, hF⟩ := hF
    refine wa_callV [] dX5_readSum_56 (mmX5_advance _ _) mlX5_50 mnX5_advance mseX5_advance rfl rfl rfl rfl (a_dlt d) rfl rfl hM9 ?_
    rintro r9 M1 P9 ⟨rfl, rfl, hq9⟩
    replace hF := hF M1 hq9
    simp only [Option.toList, List.nil_append]
    refine wa_aload_n dX5_readSum_59 1 rfl rfl ?_
    refine wa_iload_n dX5_readSum_60 2 rfl rfl ?_
    obtain ⟨Q2, hM9, hF⟩ := hF
    refine wa_callV [.int x1] dX5_readSum_61 (mmX5_readProduct _ _) mlX5_87 mnX5_readProduct mseX5_readProduct rfl rfl rfl rfl (a_dlt d) rfl rfl hM9 ?_
    rintro r9 M2 P9 ⟨v2, rfl, rfl, hq9⟩
    replace hF := hF v2 M2 hq9
    simp only [Option.toList, List.cons_append, List.nil_append]
    refine wa_istore_n (lv' := [(2, .int v2), (4, .int (-6)), (0, .ref 12), (1, .int x1), (3, .int x3)]) dX5_readSum_64 rfl rfl rfl ?_
    refine wa_aload_n dX5_readSum_65 2 rfl rfl ?_
    refine wa_getr (r := x) dX5_readSum_66 fkX5_37 rfl rfl rfl ?_
    refine wa_iload dX5_readSum_69 1 rfl ?_
    obtain ⟨Q3, hM9, hF⟩ := hF
    refine wa_callV [.int (-6)] dX5_readSum_71 (mmX7_add _ _) mlX5_90 mnX7_add mseX7_add hLx rfl rfl rfl (a_dlt d) rfl rfl hM9 ?_
    rintro r9 M3 P9 ⟨rfl, rfl, hq9⟩
    replace hF := hF M3 hq9
    simp only [Option.toList, List.nil_append]
    refine wa_iinc (v := x3 + 1) (lv' := [(3, .int (x3 + 1)), (2, .int v2), (4, .int (-6)), (0, .ref 12), (1, .int x1)]) dX5_readSum_74 4 rfl rfl rfl rfl ?_
    refine wa_goto (tgt := 8) dX5_readSum_77 rfl ?_
    exact wa_pick [3, 4, 1, 0] rfl hF
  · replace hF := hF.2 hc
    refine wa_bipush (v := (-5)) dX5_readSum_46 rfl ?_
    refine wa_goto (tgt := 53) dX5_readSum_48 rfl ?_
    refine wa_istore (lv' := [(4, .int (-5)), (0, .ref 12), (1, .int x1), (3, .int x3)]) dX5_readSum_53 rfl rfl ?_
    refine wa_aload_n dX5_readSum_55 1 rfl rfl ?_
    obtain ⟨Q4, hM9, hF⟩ := hF
    refine wa_callV [] dX5_readSum_56 (mmX5_advance _ _) mlX5_50 mnX5_advance mseX5_advance rfl rfl rfl rfl (a_dlt d) rfl rfl hM9 ?_
    rintro r9 M4 P9 ⟨rfl, rfl, hq9⟩
    replace hF := hF M4 hq9
    simp only [Option.toList, List.nil_append]
    refine wa_aload_n dX5_readSum_59 1 rfl rfl ?_
    refine wa_iload_n dX5_readSum_60 2 rfl rfl ?_
    obtain ⟨Q5, hM9, hF⟩ := hF
    refine wa_callV [.int x1] dX5_readSum_61 (mmX5_readProduct _ _) mlX5_87 mnX5_readProduct mseX5_readProduct rfl rfl rfl rfl (a_dlt d) rfl rfl hM9 ?_
    rintro r9 M5 P9 ⟨v5, rfl, rfl, hq9⟩
    replace hF := hF v5 M5 hq9
    simp only [Option.toList, List.cons_append, List.nil_append]
    refine wa_istore_n (lv' := [(2, .int v5), (4, .int (-5)), (0, .ref 12), (1, .int x1), (3, .int x3)]) dX5_readSum_64 rfl rfl rfl ?_
    refine wa_aload_n dX5_readSum_65 2 rfl rfl ?_
    refine wa_getr (r := x) dX5_readSum_66 fkX5_37 rfl rfl rfl ?_
    refine wa_iload dX5_readSum_69 1 rfl ?_
    obtain ⟨Q6, hM9, hF⟩ := hF
    refine wa_callV [.int (-5)] dX5_readSum_71 (mmX7_add _ _) mlX5_90 mnX7_add mseX7_add hLx rfl rfl rfl (a_dlt d) rfl rfl hM9 ?_
    rintro r9 M6 P9 ⟨rfl, rfl, hq9⟩
    replace hF := hF M6 hq9
    simp only [Option.toList, List.nil_append]
    refine wa_iinc (v := x3 + 1) (lv' := [(3, .int (x3 + 1)), (2, .int v5), (4, .int (-5)), (0, .ref 12), (1, .int x1)]) dX5_readSum_74 4 rfl rfl rfl rfl ?_
    refine wa_goto (tgt := 8) dX5_readSum_77 rfl ?_
    exact wa_pick [3, 4, 1, 0] rfl hF

theorem bX5_readSum_80 {X : a_X} {ad : Nat → Nat} {ca : Nat → ClassId} {d : Nat} {Post : Option Value → a_M → a_P → Prop} {x : Nat} {M : a_M} (x2 : Int32)  (hF : ((x2 = 0 ∨ x2 = 1) ∧ Post (some (.int x2)) M (PT x))) : WA X ad ca LY RX5 cX5_readSum 5 (some FieldType.boolean) (d + 1) 0 0 (a_E X ad ca LY Post) 80 [(2, .int x2)] [] M (PT x) := by
  refine wa_iload_n dX5_readSum_80 0 rfl rfl ?_
  exact wa_iret dX5_readSum_81 rfl (a_bn hF.1) hF.2

theorem eX5_readSum {X : a_X} {ad : Nat → Nat} {ca : Nat → ClassId} {d : Nat} {Post : Option Value → a_M → a_P → Prop} {x : Nat} {M : a_M} (x1 : Int32) (h : WA X ad ca LY RX5 cX5_readSum 5 (some FieldType.boolean) d 0 0 (a_E X ad ca LY Post) 0 [(0, .ref 12), (1, .int x1)] [] M (PT x)) : Mt X ad ca LY d yX5_readSum cX5_readSum 5 (some FieldType.boolean) [.ref 12, .int x1] M (PT x) Post := Mt.of (lv := [(0, .ref 12), (1, .int x1)]) (by decide +kernel) rfl rfl rfl (wa_pick [0, 1] rfl h)

theorem bX5_readProduct_0 {X : a_X} {ad : Nat → Nat} {ca : Nat → ClassId} {d : Nat} {kc ks : Nat} {QF : List Frame → Array Value → State → State → Prop} {x : Nat} {M : a_M} (x1 : Int32)  (hF : (∃ Q1 : Int32 → a_M → Prop, Mt X ad ca LY d yX5_readOne cX5_readOne 4 (some FieldType.boolean) [.ref 12, .int x1] M (PT x) (q_i (PT x) Q1) ∧ ∀ v1 M1, Q1 v1 M1 → WA X ad ca LY RX5 cX5_readProduct 5 (some FieldType.boolean) (d + 1) kc ks QF 8 [(0, .ref 12), (1, .int x1), (2, .int v1), (3, .int 0)] [] M1 (PT x))) : WA X ad ca LY RX5 cX5_readProduct 5 (some FieldType.boolean) (d + 1) kc ks QF 0 [(0, .ref 12), (1, .int x1)] [] M (PT x) := by
  refine wa_aload_n dX5_readProduct_0 0 rfl rfl ?_
  refine wa_iload_n dX5_readProduct_1 1 rfl rfl ?_
  obtain ⟨Q1, hM9, hF⟩ := hF
  refine wa_callV [.int x1] dX5_readProduct_2 (mmX5_readOne _ _) mlX5_93 mnX5_readOne mseX5_readOne rfl rfl rfl rfl (a_dlt d) rfl rfl hM9 ?_
  rintro r9 M1 P9 ⟨v1, rfl, rfl, hq9⟩
  replace hF := hF v1 M1 hq9
  simp only [Option.toList, List.cons_append, List.nil_append]
  refine wa_istore_n (lv' := [(2, .int v1), (0, .ref 12), (1, .int x1)]) dX5_readProduct_5 rfl rfl rfl ?_
  refine wa_iconst (v := 0) dX5_readProduct_6 rfl ?_
  refine wa_istore_n (lv' := [(3, .int 0), (2, .int v1), (0, .ref 12), (1, .int x1)]) dX5_readProduct_7 rfl rfl rfl ?_
  exact wa_pick [2, 3, 1, 0] rfl hF

theorem bX5_readProduct_8 {X : a_X} {ad : Nat → Nat} {ca : Nat → ClassId} {d : Nat} {kc ks : Nat} {QF : List Frame → Array Value → State → State → Prop} {x : Nat} {M : a_M} (x1 : Int32) (x2 : Int32) (x3 : Int32)  (hF : ((300 ≤ x3 → WA X ad ca LY RX5 cX5_readProduct 5 (some FieldType.boolean) (d + 1) kc ks QF 80 [(2, .int x2)] [] M (PT x)) ∧ (¬ 300 ≤ x3 → ((x2 = 0 → WA X ad ca LY RX5 cX5_readProduct 5 (some FieldType.boolean) (d + 1) kc ks QF 80 [(2, .int x2)] [] M (PT x)) ∧ (¬ x2 = 0 → (((M 12 3) = 42 → WA X ad ca LY RX5 cX5_readProduct 5 (some FieldType.boolean) (d + 1) kc ks QF 37 [(0, .ref 12), (1, .int x1), (3, .int x3)] [] M (PT x)) ∧ (¬ (M 12 3) = 42 → ((¬ (M 12 3) = 47 → WA X ad ca LY RX5 cX5_readProduct 5 (some FieldType.boolean) (d + 1) kc ks QF 80 [(2, .int x2)] [] M (PT x)) ∧ ((M 12 3) = 47 → WA X ad ca LY RX5 cX5_readProduct 5 (some FieldType.boolean) (d + 1) kc ks QF 37 [(0, .ref 12), (1, .int x1), (3, .int x3)] [] M (PT x)))))))))) : WA X ad ca LY RX5 cX5_readProduct 5 (some FieldType.boolean) (d + 1) kc ks QF 8 [(0, .ref 12), (1, .int x1), (2, .int x2), (3, .int x3)] [] M (PT x) := by
  refine wa_iload_n dX5_readProduct_8 3 rfl rfl ?_
  refine wa_sipush (v := 300) dX5_readProduct_9 rfl ?_
  refine wa_icmp_ge (tgt := 80) dX5_readProduct_12 rfl (fun hc => ?_) (fun hc => ?_)
  · replace hF := hF.1 hc
    exact wa_pick [2] rfl hF
  · replace hF := hF.2 hc
    refine wa_iload_n dX5_readProduct_15 2 rfl rfl ?_
    refine wa_if_eq (tgt := 80) dX5_readProduct_16 rfl (fun hc => ?_) (fun hc => ?_)
    · replace hF := hF.1 hc
      exact wa_pick [2] rfl hF
    · replace hF := hF.2 hc
      refine wa_aload_n dX5_readProduct_19 0 rfl rfl ?_
      refine wb_geti (v := M 12 3) dX5_readProduct_20 fkX5_17 rfl rfl rfl ?_
      refine wa_bipush (v := 42) dX5_readProduct_23 rfl ?_
      refine wa_icmp_eq (tgt := 37) dX5_readProduct_25 rfl (fun hc => ?_) (fun hc => ?_)
      · replace hF := hF.1 hc
        exact wa_pick [0, 1, 3] rfl hF
      · replace hF := hF.2 hc
        refine wa_aload_n dX5_readProduct_28 0 rfl rfl ?_
        refine wb_geti (v := M 12 3) dX5_readProduct_29 fkX5_17 rfl rfl rfl ?_
        refine wa_bipush (v := 47) dX5_readProduct_32 rfl ?_
        refine wa_icmp_ne (tgt := 80) dX5_readProduct_34 rfl (fun hc => ?_) (fun hc => ?_)
        · replace hF := hF.1 hc
          exact wa_pick [2] rfl hF
        · replace hF := hF.2 hc
          exact wa_pick [0, 1, 3] rfl hF

theorem bX5_readProduct_37 {X : a_X} {ad : Nat → Nat} {ca : Nat → ClassId} {d : Nat} {kc ks : Nat} {QF : List Frame → Array Value → State → State → Prop} {x : Nat} {M : a_M} (x1 : Int32) (x3 : Int32) (hLx : LY[x]? = some (7, 7)) (hF : ((¬ (M 12 3) = 42 → (∃ Q1 : a_M → Prop, Mt X ad ca LY d yX5_advance cX5_advance 1 none [.ref 12] M (PT x) (q_v (PT x) Q1) ∧ ∀ M1, Q1 M1 → (∃ Q2 : Int32 → a_M → Prop, Mt X ad ca LY d yX5_readOne cX5_readOne 4 (some FieldType.boolean) [.ref 12, .int x1] M1 (PT x) (q_i (PT x) Q2) ∧ ∀ v2 M2, Q2 v2 M2 → (∃ Q3 : a_M → Prop, Mt X ad ca LY d yX7_add cX7_add 3 none [.ref x, .int (-8)] M2 (PT x) (q_v (PT x) Q3) ∧ ∀ M3, Q3 M3 → WA X ad ca LY RX5 cX5_readProduct 5 (some FieldType.boolean) (d + 1) kc ks QF 8 [(0, .ref 12), (1, .int x1), (2, .int v2), (3, .int (x3 + 1))] [] M3 (PT x))))) ∧ ((M 12 3) = 42 → (∃ Q4 : a_M → Prop, Mt X ad ca LY d yX5_advance cX5_advance 1 none [.ref 12] M (PT x) (q_v (PT x) Q4) ∧ ∀ M4, Q4 M4 → (∃ Q5 : Int32 → a_M → Prop, Mt X ad ca LY d yX5_readOne cX5_readOne 4 (some FieldType.boolean) [.ref 12, .int x1] M4 (PT x) (q_i (PT x) Q5) ∧ ∀ v5 M5, Q5 v5 M5 → (∃ Q6 : a_M → Prop, Mt X ad ca LY d yX7_add cX7_add 3 none [.ref x, .int (-7)] M5 (PT x) (q_v (PT x) Q6) ∧ ∀ M6, Q6 M6 → WA X ad ca LY RX5 cX5_readProduct 5 (some FieldType.boolean) (d + 1) kc ks QF 8 [(0, .ref 12), (1, .int x1), (2, .int v5), (3, .int (x3 + 1))] [] M6 (PT x))))))) : WA X ad ca LY RX5 cX5_readProduct 5 (some FieldType.boolean) (d + 1) kc ks QF 37 [(0, .ref 12), (1, .int x1), (3, .int x3)] [] M (PT x) := by
  refine wa_aload_n dX5_readProduct_37 0 rfl rfl ?_
  refine wb_geti (v := M 12 3) dX5_readProduct_38 fkX5_17 rfl rfl rfl ?_
  refine wa_bipush (v := 42) dX5_readProduct_41 rfl ?_
  refine wa_icmp_ne (tgt := 51) dX5_readProduct_43 rfl (fun hc => ?_) (fun hc => ?_)
  · replace hF := hF.1 hc
    refine wa_bipush (v := (-8)) dX5_readProduct_51 rfl ?_
    refine wa_istore (lv' := [(4, .int (-8)), (0, .ref 12), (1, .int x1), (3, .int x3)]) dX5_readProduct_53 rfl rfl ?_
    refine wa_aload_n dX5_readProduct_55 1 rfl rfl ?_
    obtain ⟨Q1, hM9, hF⟩ := hF
    refine wa_callV [] dX5_readProduct_56 (mmX5_advance _ _) mlX5_50 mnX5_advance mseX5_advance rfl rfl rfl rfl (a_dlt d) rfl rfl hM9 ?_
    rintro r9 M1 P9 ⟨rfl, rfl, hq9⟩
    replace hF := hF M1 hq9
    simp only [Option.toList, List.nil_append]
    refine wa_aload_n dX5_readProduct_59 1 rfl rfl ?_
    refine wa_iload_n dX5_readProduct_60 2 rfl rfl ?_
    obtain ⟨Q2, hM9, hF⟩ := hF
    refine wa_callV [.int x1] dX5_readProduct_61 (mmX5_readOne _ _) mlX5_93 mnX5_readOne mseX5_readOne rfl rfl rfl rfl (a_dlt d) rfl rfl hM9 ?_
    rintro r9 M2 P9 ⟨v2, rfl, rfl, hq9⟩
    replace hF := hF v2 M2 hq9
    simp only [Option.toList, List.cons_append, List.nil_append]
    refine wa_istore_n (lv' := [(2, .int v2), (4, .int (-8)), (0, .ref 12), (1, .int x1), (3, .int x3)]) dX5_readProduct_64 rfl rfl rfl ?_
    refine wa_aload_n dX5_readProduct_65 2 rfl rfl ?_
    refine wa_getr (r := x) dX5_readProduct_66 fkX5_37 rfl rfl rfl ?_
    refine wa_iload dX5_readProduct_69 1 rfl ?_
    obtain ⟨Q3, hM9, hF⟩ := hF
    refine wa_callV [.int (-8)] dX5_readProduct_71 (mmX7_add _ _) mlX5_90 mnX7_add mseX7_add hLx rfl rfl rfl (a_dlt d) rfl rfl hM9 ?_
    rintro r9 M3 P9 ⟨rfl, rfl, hq9⟩
    replace hF := hF M3 hq9
    simp only [Option.toList, List.nil_append]
    refine wa_iinc (v := x3 + 1) (lv' := [(3, .int (x3 + 1)), (2, .int v2), (4, .int (-8)), (0, .ref 12), (1, .int x1)]) dX5_readProduct_74 4 rfl rfl rfl rfl ?_
    refine wa_goto (tgt := 8) dX5_readProduct_77 rfl ?_
    exact wa_pick [3, 4, 1, 0] rfl hF
  · replace hF := hF.2 hc
    refine wa_bipush (v := (-7)) dX5_readProduct_46 rfl ?_
    refine wa_goto (tgt := 53) dX5_readProduct_48 rfl ?_
    refine wa_istore (lv' := [(4, .int (-7)), (0, .ref 12), (1, .int x1), (3, .int x3)]) dX5_readProduct_53 rfl rfl ?_
    refine wa_aload_n dX5_readProduct_55 1 rfl rfl ?_
    obtain ⟨Q4, hM9, hF⟩ := hF
    refine wa_callV [] dX5_readProduct_56 (mmX5_advance _ _) mlX5_50 mnX5_advance mseX5_advance rfl rfl rfl rfl (a_dlt d) rfl rfl hM9 ?_
    rintro r9 M4 P9 ⟨rfl, rfl, hq9⟩
    replace hF := hF M4 hq9
    simp only [Option.toList, List.nil_append]
    refine wa_aload_n dX5_readProduct_59 1 rfl rfl ?_
    refine wa_iload_n dX5_readProduct_60 2 rfl rfl ?_
    obtain ⟨Q5, hM9, hF⟩ := hF
    refine wa_callV [.int x1] dX5_readProduct_61 (mmX5_readOne _ _) mlX5_93 mnX5_readOne mseX5_readOne rfl rfl rfl rfl (a_dlt d) rfl rfl hM9 ?_
    rintro r9 M5 P9 ⟨v5, rfl, rfl, hq9⟩
    replace hF := hF v5 M5 hq9
    simp only [Option.toList, List.cons_append, List.nil_append]
    refine wa_istore_n (lv' := [(2, .int v5), (4, .int (-7)), (0, .ref 12), (1, .int x1), (3, .int x3)]) dX5_readProduct_64 rfl rfl rfl ?_
    refine wa_aload_n dX5_readProduct_65 2 rfl rfl ?_
    refine wa_getr (r := x) dX5_readProduct_66 fkX5_37 rfl rfl rfl ?_
    refine wa_iload dX5_readProduct_69 1 rfl ?_
    obtain ⟨Q6, hM9, hF⟩ := hF
    refine wa_callV [.int (-7)] dX5_readProduct_71 (mmX7_add _ _) mlX5_90 mnX7_add mseX7_add hLx rfl rfl rfl (a_dlt d) rfl rfl hM9 ?_
    rintro r9 M6 P9 ⟨rfl, rfl, hq9⟩
    replace hF := hF M6 hq9
    simp only [Option.toList, List.nil_append]
    refine wa_iinc (v := x3 + 1) (lv' := [(3, .int (x3 + 1)), (2, .int v5), (4, .int (-7)), (0, .ref 12), (1, .int x1)]) dX5_readProduct_74 4 rfl rfl rfl rfl ?_
    refine wa_goto (tgt := 8) dX5_readProduct_77 rfl ?_
    exact wa_pick [3, 4, 1, 0] rfl hF

theorem bX5_readProduct_80 {X : a_X} {ad : Nat → Nat} {ca : Nat → ClassId} {d : Nat} {Post : Option Value → a_M → a_P → Prop} {x : Nat} {M : a_M} (x2 : Int32)  (hF : ((x2 = 0 ∨ x2 = 1) ∧ Post (some (.int x2)) M (PT x))) : WA X ad ca LY RX5 cX5_readProduct 5 (some FieldType.boolean) (d + 1) 0 0 (a_E X ad ca LY Post) 80 [(2, .int x2)] [] M (PT x) := by
  refine wa_iload_n dX5_readProduct_80 0 rfl rfl ?_
  exact wa_iret dX5_readProduct_81 rfl (a_bn hF.1) hF.2

theorem eX5_readProduct {X : a_X} {ad : Nat → Nat} {ca : Nat → ClassId} {d : Nat} {Post : Option Value → a_M → a_P → Prop} {x : Nat} {M : a_M} (x1 : Int32) (h : WA X ad ca LY RX5 cX5_readProduct 5 (some FieldType.boolean) d 0 0 (a_E X ad ca LY Post) 0 [(0, .ref 12), (1, .int x1)] [] M (PT x)) : Mt X ad ca LY d yX5_readProduct cX5_readProduct 5 (some FieldType.boolean) [.ref 12, .int x1] M (PT x) Post := Mt.of (lv := [(0, .ref 12), (1, .int x1)]) (by decide +kernel) rfl rfl rfl (wa_pick [0, 1] rfl h)

theorem bX5_readOne_0 {X : a_X} {ad : Nat → Nat} {ca : Nat → ClassId} {d : Nat} {Post : Option Value → a_M → a_P → Prop} {x : Nat} {M : a_M} (x1 : Int32)  (hF : (((M 12 3) < 300 → (((M 12 3) = 40 → WA X ad ca LY RX5 cX5_readOne 4 (some FieldType.boolean) (d + 1) 0 0 (a_E X ad ca LY Post) 41 [(0, .ref 12), (1, .int x1)] [] M (PT x)) ∧ (¬ (M 12 3) = 40 → (((M 12 3) = 45 → WA X ad ca LY RX5 cX5_readOne 4 (some FieldType.boolean) (d + 1) 0 0 (a_E X ad ca LY Post) 41 [(0, .ref 12), (1, .int x1)] [] M (PT x)) ∧ (¬ (M 12 3) = 45 → (∃ Q1 : Int32 → a_M → Prop, Mt X ad ca LY d yX5_readName cX5_readName 1 (some FieldType.boolean) [.ref 12] M (PT x) (q_i (PT x) Q1) ∧ ∀ v1 M1, Q1 v1 M1 → ((v1 = 0 ∨ v1 = 1) ∧ Post (some (.int v1)) M1 (PT x)))))))) ∧ (¬ (M 12 3) < 300 → (∃ Q2 : Int32 → a_M → Prop, Mt X ad ca LY d yX5_readNumber cX5_readNumber 2 (some FieldType.boolean) [.ref 12, .int 9999] M (PT x) (q_i (PT x) Q2) ∧ ∀ v2 M2, Q2 v2 M2 → ((v2 = 0 ∨ v2 = 1) ∧ Post (some (.int v2)) M2 (PT x)))))) : WA X ad ca LY RX5 cX5_readOne 4 (some FieldType.boolean) (d + 1) 0 0 (a_E X ad ca LY Post) 0 [(0, .ref 12), (1, .int x1)] [] M (PT x) := by
  refine wa_aload_n dX5_readOne_0 0 rfl rfl ?_
  refine wb_geti (v := M 12 3) dX5_readOne_1 fkX5_17 rfl rfl rfl ?_
  refine wa_sipush (v := 300) dX5_readOne_4 rfl ?_
  refine wa_icmp_lt (tgt := 18) dX5_readOne_7 rfl (fun hc => ?_) (fun hc => ?_)
  · replace hF := hF.1 hc
    refine wa_aload_n dX5_readOne_18 0 rfl rfl ?_
    refine wb_geti (v := M 12 3) dX5_readOne_19 fkX5_17 rfl rfl rfl ?_
    refine wa_bipush (v := 40) dX5_readOne_22 rfl ?_
    refine wa_icmp_eq (tgt := 41) dX5_readOne_24 rfl (fun hc => ?_) (fun hc => ?_)
    · replace hF := hF.1 hc
      exact hF
    · replace hF := hF.2 hc
      refine wa_aload_n dX5_readOne_27 0 rfl rfl ?_
      refine wb_geti (v := M 12 3) dX5_readOne_28 fkX5_17 rfl rfl rfl ?_
      refine wa_bipush (v := 45) dX5_readOne_31 rfl ?_
      refine wa_icmp_eq (tgt := 41) dX5_readOne_33 rfl (fun hc => ?_) (fun hc => ?_)
      · replace hF := hF.1 hc
        exact hF
      · replace hF := hF.2 hc
        refine wa_aload_n dX5_readOne_36 0 rfl rfl ?_
        obtain ⟨Q1, hM9, hF⟩ := hF
        refine wa_callV [] dX5_readOne_37 (mmX5_readName _ _) mlX5_96 mnX5_readName mseX5_readName rfl rfl rfl rfl (a_dlt d) rfl rfl hM9 ?_
        rintro r9 M1 P9 ⟨v1, rfl, rfl, hq9⟩
        replace hF := hF v1 M1 hq9
        simp only [Option.toList, List.cons_append, List.nil_append]
        exact wa_iret dX5_readOne_40 rfl (a_bn hF.1) hF.2
  · replace hF := hF.2 hc
    refine wa_aload_n dX5_readOne_10 0 rfl rfl ?_
    refine wa_sipush (v := 9999) dX5_readOne_11 rfl ?_
    obtain ⟨Q2, hM9, hF⟩ := hF
    refine wa_callV [.int 9999] dX5_readOne_14 (mmX5_readNumber _ _) mlX5_78 mnX5_readNumber mseX5_readNumber rfl rfl rfl rfl (a_dlt d) rfl rfl hM9 ?_
    rintro r9 M2 P9 ⟨v2, rfl, rfl, hq9⟩
    replace hF := hF v2 M2 hq9
    simp only [Option.toList, List.cons_append, List.nil_append]
    exact wa_iret dX5_readOne_17 rfl (a_bn hF.1) hF.2

theorem bX5_readOne_41 {X : a_X} {ad : Nat → Nat} {ca : Nat → ClassId} {d : Nat} {Post : Option Value → a_M → a_P → Prop} {x : Nat} {M : a_M} (x1 : Int32) (hLx : LY[x]? = some (7, 7)) (hF : ((x1 < 8 → ((¬ (M 12 3) = 40 → (∃ Q1 : a_M → Prop, Mt X ad ca LY d yX5_advance cX5_advance 1 none [.ref 12] M (PT x) (q_v (PT x) Q1) ∧ ∀ M1, Q1 M1 → (∃ Q2 : Int32 → a_M → Prop, Mt X ad ca LY d yX5_readOne cX5_readOne 4 (some FieldType.boolean) [.ref 12, .int (x1 + 1)] M1 (PT x) (q_i (PT x) Q2) ∧ ∀ v2 M2, Q2 v2 M2 → (∃ Q3 : a_M → Prop, Mt X ad ca LY d yX7_add cX7_add 3 none [.ref x, .int (-4)] M2 (PT x) (q_v (PT x) Q3) ∧ ∀ M3, Q3 M3 → ((v2 = 0 ∨ v2 = 1) ∧ Post (some (.int v2)) M3 (PT x)))))) ∧ ((M 12 3) = 40 → (∃ Q4 : a_M → Prop, Mt X ad ca LY d yX5_advance cX5_advance 1 none [.ref 12] M (PT x) (q_v (PT x) Q4) ∧ ∀ M4, Q4 M4 → (∃ Q5 : Int32 → a_M → Prop, Mt X ad ca LY d yX5_readSum cX5_readSum 5 (some FieldType.boolean) [.ref 12, .int (x1 + 1)] M4 (PT x) (q_i (PT x) Q5) ∧ ∀ v5 M5, Q5 v5 M5 → ((v5 = 0 → WA X ad ca LY RX5 cX5_readOne 4 (some FieldType.boolean) (d + 1) 0 0 (a_E X ad ca LY Post) 99 [] [] M5 (PT x)) ∧ (¬ v5 = 0 → (∃ Q6 : Int32 → a_M → Prop, Mt X ad ca LY d yX5_pass cX5_pass 2 (some FieldType.boolean) [.ref 12, .int 41] M5 (PT x) (q_i (PT x) Q6) ∧ ∀ v6 M6, Q6 v6 M6 → ((v6 = 0 → WA X ad ca LY RX5 cX5_readOne 4 (some FieldType.boolean) (d + 1) 0 0 (a_E X ad ca LY Post) 99 [] [] M6 (PT x)) ∧ (¬ v6 = 0 → Post (some (.int 1)) M6 (PT x))))))))))) ∧ (¬ x1 < 8 → (∃ Q7 : Int32 → a_M → Prop, Mt X ad ca LY d yX5_refuse cX5_refuse 2 (some FieldType.boolean) [.ref 12, .int 3] M (PT x) (q_i (PT x) Q7) ∧ ∀ v7 M7, Q7 v7 M7 → ((v7 = 0 ∨ v7 = 1) ∧ Post (some (.int v7)) M7 (PT x)))))) : WA X ad ca LY RX5 cX5_readOne 4 (some FieldType.boolean) (d + 1) 0 0 (a_E X ad ca LY Post) 41 [(0, .ref 12), (1, .int x1)] [] M (PT x) := by
  refine wa_iload_n dX5_readOne_41 1 rfl rfl ?_
  refine wa_bipush (v := 8) dX5_readOne_42 rfl ?_
  refine wa_icmp_lt (tgt := 53) dX5_readOne_44 rfl (fun hc => ?_) (fun hc => ?_)
  · replace hF := hF.1 hc
    refine wa_aload_n dX5_readOne_53 0 rfl rfl ?_
    refine wb_geti (v := M 12 3) dX5_readOne_54 fkX5_17 rfl rfl rfl ?_
    refine wa_bipush (v := 40) dX5_readOne_57 rfl ?_
    refine wa_icmp_ne (tgt := 66) dX5_readOne_59 rfl (fun hc => ?_) (fun hc => ?_)
    · replace hF := hF.1 hc
      refine wa_iconst (v := 0) dX5_readOne_66 rfl ?_
      refine wa_istore_n (lv' := [(2, .int 0), (0, .ref 12), (1, .int x1)]) dX5_readOne_67 rfl rfl rfl ?_
      refine wa_aload_n dX5_readOne_68 1 rfl rfl ?_
      obtain ⟨Q1, hM9, hF⟩ := hF
      refine wa_callV [] dX5_readOne_69 (mmX5_advance _ _) mlX5_50 mnX5_advance mseX5_advance rfl rfl rfl rfl (a_dlt d) rfl rfl hM9 ?_
      rintro r9 M1 P9 ⟨rfl, rfl, hq9⟩
      replace hF := hF M1 hq9
      simp only [Option.toList, List.nil_append]
      refine wa_iload_n dX5_readOne_72 0 rfl rfl ?_
      refine wa_if_eq (tgt := 101) dX5_readOne_73 rfl (fun hc => ?_) (fun hc => ?_)
      · skip
        refine wa_aload_n dX5_readOne_101 1 rfl rfl ?_
        refine wa_iload_n dX5_readOne_102 2 rfl rfl ?_
        refine wa_iconst (v := 1) dX5_readOne_103 rfl ?_
        refine wa_iadd dX5_readOne_104 ?_
        obtain ⟨Q2, hM9, hF⟩ := hF
        refine wa_callV [.int (x1 + 1)] dX5_readOne_105 (mmX5_readOne _ _) mlX5_93 mnX5_readOne mseX5_readOne rfl rfl rfl rfl (a_dlt d) rfl rfl hM9 ?_
        rintro r9 M2 P9 ⟨v2, rfl, rfl, hq9⟩
        replace hF := hF v2 M2 hq9
        simp only [Option.toList, List.cons_append, List.nil_append]
        refine wa_istore_n (lv' := [(3, .int v2), (2, .int 0), (0, .ref 12), (1, .int x1)]) dX5_readOne_108 rfl rfl rfl ?_
        refine wa_aload_n dX5_readOne_109 2 rfl rfl ?_
        refine wa_getr (r := x) dX5_readOne_110 fkX5_37 rfl rfl rfl ?_
        refine wa_bipush (v := (-4)) dX5_readOne_113 rfl ?_
        obtain ⟨Q3, hM9, hF⟩ := hF
        refine wa_callV [.int (-4)] dX5_readOne_115 (mmX7_add _ _) mlX5_90 mnX7_add mseX7_add hLx rfl rfl rfl (a_dlt d) rfl rfl hM9 ?_
        rintro r9 M3 P9 ⟨rfl, rfl, hq9⟩
        replace hF := hF M3 hq9
        simp only [Option.toList, List.nil_append]
        refine wa_iload_n dX5_readOne_118 0 rfl rfl ?_
        exact wa_iret dX5_readOne_119 rfl (a_bn hF.1) hF.2
      · exact absurd hc (by decide)
    · replace hF := hF.2 hc
      refine wa_iconst (v := 1) dX5_readOne_62 rfl ?_
      refine wa_goto (tgt := 67) dX5_readOne_63 rfl ?_
      refine wa_istore_n (lv' := [(2, .int 1), (0, .ref 12), (1, .int x1)]) dX5_readOne_67 rfl rfl rfl ?_
      refine wa_aload_n dX5_readOne_68 1 rfl rfl ?_
      obtain ⟨Q4, hM9, hF⟩ := hF
      refine wa_callV [] dX5_readOne_69 (mmX5_advance _ _) mlX5_50 mnX5_advance mseX5_advance rfl rfl rfl rfl (a_dlt d) rfl rfl hM9 ?_
      rintro r9 M4 P9 ⟨rfl, rfl, hq9⟩
      replace hF := hF M4 hq9
      simp only [Option.toList, List.nil_append]
      refine wa_iload_n dX5_readOne_72 0 rfl rfl ?_
      refine wa_if_eq (tgt := 101) dX5_readOne_73 rfl (fun hc => ?_) (fun hc => ?_)
      · exact absurd hc (by decide)
      · skip
        refine wa_aload_n dX5_readOne_76 1 rfl rfl ?_
        refine wa_iload_n dX5_readOne_77 2 rfl rfl ?_
        refine wa_iconst (v := 1) dX5_readOne_78 rfl ?_
        refine wa_iadd dX5_readOne_79 ?_
        obtain ⟨Q5, hM9, hF⟩ := hF
        refine wa_callV [.int (x1 + 1)] dX5_readOne_80 (mmX5_readSum _ _) mlX5_81 mnX5_readSum mseX5_readSum rfl rfl rfl rfl (a_dlt d) rfl rfl hM9 ?_
        rintro r9 M5 P9 ⟨v5, rfl, rfl, hq9⟩
        replace hF := hF v5 M5 hq9
        simp only [Option.toList, List.cons_append, List.nil_append]
        refine wa_if_eq (tgt := 99) dX5_readOne_83 rfl (fun hc => ?_) (fun hc => ?_)
        · replace hF := hF.1 hc
          exact wa_pick [] rfl hF
        · replace hF := hF.2 hc
          refine wa_aload_n dX5_readOne_86 1 rfl rfl ?_
          refine wa_bipush (v := 41) dX5_readOne_87 rfl ?_
          obtain ⟨Q6, hM9, hF⟩ := hF
          refine wa_callV [.int 41] dX5_readOne_89 (mmX5_pass _ _) mlX5_84 mnX5_pass mseX5_pass rfl rfl rfl rfl (a_dlt d) rfl rfl hM9 ?_
          rintro r9 M6 P9 ⟨v6, rfl, rfl, hq9⟩
          replace hF := hF v6 M6 hq9
          simp only [Option.toList, List.cons_append, List.nil_append]
          refine wa_if_eq (tgt := 99) dX5_readOne_92 rfl (fun hc => ?_) (fun hc => ?_)
          · replace hF := hF.1 hc
            exact wa_pick [] rfl hF
          · replace hF := hF.2 hc
            refine wa_iconst (v := 1) dX5_readOne_95 rfl ?_
            refine wa_goto (tgt := 100) dX5_readOne_96 rfl ?_
            exact wa_iret dX5_readOne_100 rfl rfl hF
  · replace hF := hF.2 hc
    refine wa_aload_n dX5_readOne_47 0 rfl rfl ?_
    refine wa_iconst (v := 3) dX5_readOne_48 rfl ?_
    obtain ⟨Q7, hM9, hF⟩ := hF
    refine wa_callV [.int 3] dX5_readOne_49 (mmX5_refuse _ _) mlX5_65 mnX5_refuse mseX5_refuse rfl rfl rfl rfl (a_dlt d) rfl rfl hM9 ?_
    rintro r9 M7 P9 ⟨v7, rfl, rfl, hq9⟩
    replace hF := hF v7 M7 hq9
    simp only [Option.toList, List.cons_append, List.nil_append]
    exact wa_iret dX5_readOne_52 rfl (a_bn hF.1) hF.2

theorem bX5_readOne_99 {X : a_X} {ad : Nat → Nat} {ca : Nat → ClassId} {d : Nat} {Post : Option Value → a_M → a_P → Prop} {x : Nat} {M : a_M}   (hF : Post (some (.int 0)) M (PT x)) : WA X ad ca LY RX5 cX5_readOne 4 (some FieldType.boolean) (d + 1) 0 0 (a_E X ad ca LY Post) 99 [] [] M (PT x) := by
  refine wa_iconst (v := 0) dX5_readOne_99 rfl ?_
  exact wa_iret dX5_readOne_100 rfl rfl hF

theorem eX5_readOne {X : a_X} {ad : Nat → Nat} {ca : Nat → ClassId} {d : Nat} {Post : Option Value → a_M → a_P → Prop} {x : Nat} {M : a_M} (x1 : Int32) (h : WA X ad ca LY RX5 cX5_readOne 4 (some FieldType.boolean) d 0 0 (a_E X ad ca LY Post) 0 [(0, .ref 12), (1, .int x1)] [] M (PT x)) : Mt X ad ca LY d yX5_readOne cX5_readOne 4 (some FieldType.boolean) [.ref 12, .int x1] M (PT x) Post := Mt.of (lv := [(0, .ref 12), (1, .int x1)]) (by decide +kernel) rfl rfl rfl (wa_pick [0, 1] rfl h)

theorem bX5_readNumber_0 {X : a_X} {ad : Nat → Nat} {ca : Nat → ClassId} {d : Nat} {Post : Option Value → a_M → a_P → Prop} {x : Nat} {M : a_M} (x1 : Int32) (hLx : LY[x]? = some (7, 7)) (hF : ((300 ≤ (M 12 3) → ((((M 12 3) - 300) ≤ x1 → (∃ Q1 : a_M → Prop, Mt X ad ca LY d yX7_add cX7_add 3 none [.ref x, .int ((M 12 3) - 300)] M (PT x) (q_v (PT x) Q1) ∧ ∀ M1, Q1 M1 → (∃ Q2 : a_M → Prop, Mt X ad ca LY d yX5_advance cX5_advance 1 none [.ref 12] M1 (PT x) (q_v (PT x) Q2) ∧ ∀ M2, Q2 M2 → Post (some (.int 1)) M2 (PT x)))) ∧ (¬ ((M 12 3) - 300) ≤ x1 → (∃ Q3 : Int32 → a_M → Prop, Mt X ad ca LY d yX5_refuse cX5_refuse 2 (some FieldType.boolean) [.ref 12, .int 2] M (PT x) (q_i (PT x) Q3) ∧ ∀ v3 M3, Q3 v3 M3 → ((v3 = 0 ∨ v3 = 1) ∧ Post (some (.int v3)) M3 (PT x)))))) ∧ (¬ 300 ≤ (M 12 3) → (∃ Q4 : Int32 → a_M → Prop, Mt X ad ca LY d yX5_refuse cX5_refuse 2 (some FieldType.boolean) [.ref 12, .int 1] M (PT x) (q_i (PT x) Q4) ∧ ∀ v4 M4, Q4 v4 M4 → ((v4 = 0 ∨ v4 = 1) ∧ Post (some (.int v4)) M4 (PT x)))))) : WA X ad ca LY RX5 cX5_readNumber 2 (some FieldType.boolean) (d + 1) 0 0 (a_E X ad ca LY Post) 0 [(0, .ref 12), (1, .int x1)] [] M (PT x) := by
  refine wa_aload_n dX5_readNumber_0 0 rfl rfl ?_
  refine wb_geti (v := M 12 3) dX5_readNumber_1 fkX5_17 rfl rfl rfl ?_
  refine wa_sipush (v := 300) dX5_readNumber_4 rfl ?_
  refine wa_icmp_ge (tgt := 16) dX5_readNumber_7 rfl (fun hc => ?_) (fun hc => ?_)
  · replace hF := hF.1 hc
    refine wa_aload_n dX5_readNumber_16 0 rfl rfl ?_
    refine wb_geti (v := M 12 3) dX5_readNumber_17 fkX5_17 rfl rfl rfl ?_
    refine wa_sipush (v := 300) dX5_readNumber_20 rfl ?_
    refine wa_isub dX5_readNumber_23 ?_
    refine wa_iload_n dX5_readNumber_24 1 rfl rfl ?_
    refine wa_icmp_le (tgt := 34) dX5_readNumber_25 rfl (fun hc => ?_) (fun hc => ?_)
    · replace hF := hF.1 hc
      refine wa_aload_n dX5_readNumber_34 0 rfl rfl ?_
      refine wa_getr (r := x) dX5_readNumber_35 fkX5_37 rfl rfl rfl ?_
      refine wa_aload_n dX5_readNumber_38 0 rfl rfl ?_
      refine wb_geti (v := M 12 3) dX5_readNumber_39 fkX5_17 rfl rfl rfl ?_
      refine wa_sipush (v := 300) dX5_readNumber_42 rfl ?_
      refine wa_isub dX5_readNumber_45 ?_
      obtain ⟨Q1, hM9, hF⟩ := hF
      refine wa_callV [.int ((M 12 3) - 300)] dX5_readNumber_46 (mmX7_add _ _) mlX5_90 mnX7_add mseX7_add hLx rfl rfl rfl (a_dlt d) rfl rfl hM9 ?_
      rintro r9 M1 P9 ⟨rfl, rfl, hq9⟩
      replace hF := hF M1 hq9
      simp only [Option.toList, List.nil_append]
      refine wa_aload_n dX5_readNumber_49 0 rfl rfl ?_
      obtain ⟨Q2, hM9, hF⟩ := hF
      refine wa_callV [] dX5_readNumber_50 (mmX5_advance _ _) mlX5_50 mnX5_advance mseX5_advance rfl rfl rfl rfl (a_dlt d) rfl rfl hM9 ?_
      rintro r9 M2 P9 ⟨rfl, rfl, hq9⟩
      replace hF := hF M2 hq9
      simp only [Option.toList, List.nil_append]
      refine wa_iconst (v := 1) dX5_readNumber_53 rfl ?_
      exact wa_iret dX5_readNumber_54 rfl rfl hF
    · replace hF := hF.2 hc
      refine wa_aload_n dX5_readNumber_28 0 rfl rfl ?_
      refine wa_iconst (v := 2) dX5_readNumber_29 rfl ?_
      obtain ⟨Q3, hM9, hF⟩ := hF
      refine wa_callV [.int 2] dX5_readNumber_30 (mmX5_refuse _ _) mlX5_65 mnX5_refuse mseX5_refuse rfl rfl rfl rfl (a_dlt d) rfl rfl hM9 ?_
      rintro r9 M3 P9 ⟨v3, rfl, rfl, hq9⟩
      replace hF := hF v3 M3 hq9
      simp only [Option.toList, List.cons_append, List.nil_append]
      exact wa_iret dX5_readNumber_33 rfl (a_bn hF.1) hF.2
  · replace hF := hF.2 hc
    refine wa_aload_n dX5_readNumber_10 0 rfl rfl ?_
    refine wa_iconst (v := 1) dX5_readNumber_11 rfl ?_
    obtain ⟨Q4, hM9, hF⟩ := hF
    refine wa_callV [.int 1] dX5_readNumber_12 (mmX5_refuse _ _) mlX5_65 mnX5_refuse mseX5_refuse rfl rfl rfl rfl (a_dlt d) rfl rfl hM9 ?_
    rintro r9 M4 P9 ⟨v4, rfl, rfl, hq9⟩
    replace hF := hF v4 M4 hq9
    simp only [Option.toList, List.cons_append, List.nil_append]
    exact wa_iret dX5_readNumber_15 rfl (a_bn hF.1) hF.2

theorem eX5_readNumber {X : a_X} {ad : Nat → Nat} {ca : Nat → ClassId} {d : Nat} {Post : Option Value → a_M → a_P → Prop} {x : Nat} {M : a_M} (x1 : Int32) (h : WA X ad ca LY RX5 cX5_readNumber 2 (some FieldType.boolean) d 0 0 (a_E X ad ca LY Post) 0 [(0, .ref 12), (1, .int x1)] [] M (PT x)) : Mt X ad ca LY d yX5_readNumber cX5_readNumber 2 (some FieldType.boolean) [.ref 12, .int x1] M (PT x) Post := Mt.of (lv := [(0, .ref 12), (1, .int x1)]) (by decide +kernel) rfl rfl rfl (wa_pick [0, 1] rfl h)

theorem bX5_readName_0 {X : a_X} {ad : Nat → Nat} {ca : Nat → ClassId} {d : Nat} {Post : Option Value → a_M → a_P → Prop} {x : Nat} {M : a_M}   (hF : (((M 12 3) = 270 → WA X ad ca LY RX5 cX5_readName 1 (some FieldType.boolean) (d + 1) 0 0 (a_E X ad ca LY Post) 36 [(0, .ref 12)] [] M (PT x)) ∧ (¬ (M 12 3) = 270 → (((M 12 3) = 271 → WA X ad ca LY RX5 cX5_readName 1 (some FieldType.boolean) (d + 1) 0 0 (a_E X ad ca LY Post) 36 [(0, .ref 12)] [] M (PT x)) ∧ (¬ (M 12 3) = 271 → (((M 12 3) = 272 → WA X ad ca LY RX5 cX5_readName 1 (some FieldType.boolean) (d + 1) 0 0 (a_E X ad ca LY Post) 36 [(0, .ref 12)] [] M (PT x)) ∧ (¬ (M 12 3) = 272 → (∃ Q1 : Int32 → a_M → Prop, Mt X ad ca LY d yX5_refuse cX5_refuse 2 (some FieldType.boolean) [.ref 12, .int 1] M (PT x) (q_i (PT x) Q1) ∧ ∀ v1 M1, Q1 v1 M1 → ((v1 = 0 ∨ v1 = 1) ∧ Post (some (.int v1)) M1 (PT x)))))))))) : WA X ad ca LY RX5 cX5_readName 1 (some FieldType.boolean) (d + 1) 0 0 (a_E X ad ca LY Post) 0 [(0, .ref 12)] [] M (PT x) := by
  refine wa_aload_n dX5_readName_0 0 rfl rfl ?_
  refine wb_geti (v := M 12 3) dX5_readName_1 fkX5_17 rfl rfl rfl ?_
  refine wa_sipush (v := 270) dX5_readName_4 rfl ?_
  refine wa_icmp_eq (tgt := 36) dX5_readName_7 rfl (fun hc => ?_) (fun hc => ?_)
  · replace hF := hF.1 hc
    exact hF
  · replace hF := hF.2 hc
    refine wa_aload_n dX5_readName_10 0 rfl rfl ?_
    refine wb_geti (v := M 12 3) dX5_readName_11 fkX5_17 rfl rfl rfl ?_
    refine wa_sipush (v := 271) dX5_readName_14 rfl ?_
    refine wa_icmp_eq (tgt := 36) dX5_readName_17 rfl (fun hc => ?_) (fun hc => ?_)
    · replace hF := hF.1 hc
      exact hF
    · replace hF := hF.2 hc
      refine wa_aload_n dX5_readName_20 0 rfl rfl ?_
      refine wb_geti (v := M 12 3) dX5_readName_21 fkX5_17 rfl rfl rfl ?_
      refine wa_sipush (v := 272) dX5_readName_24 rfl ?_
      refine wa_icmp_eq (tgt := 36) dX5_readName_27 rfl (fun hc => ?_) (fun hc => ?_)
      · replace hF := hF.1 hc
        exact hF
      · replace hF := hF.2 hc
        refine wa_aload_n dX5_readName_30 0 rfl rfl ?_
        refine wa_iconst (v := 1) dX5_readName_31 rfl ?_
        obtain ⟨Q1, hM9, hF⟩ := hF
        refine wa_callV [.int 1] dX5_readName_32 (mmX5_refuse _ _) mlX5_65 mnX5_refuse mseX5_refuse rfl rfl rfl rfl (a_dlt d) rfl rfl hM9 ?_
        rintro r9 M1 P9 ⟨v1, rfl, rfl, hq9⟩
        replace hF := hF v1 M1 hq9
        simp only [Option.toList, List.cons_append, List.nil_append]
        exact wa_iret dX5_readName_35 rfl (a_bn hF.1) hF.2

theorem bX5_readName_36 {X : a_X} {ad : Nat → Nat} {ca : Nat → ClassId} {d : Nat} {Post : Option Value → a_M → a_P → Prop} {x : Nat} {M : a_M}   (hF : ((¬ (M 12 3) = 270 → WA X ad ca LY RX5 cX5_readName 1 (some FieldType.boolean) (d + 1) 0 0 (a_E X ad ca LY Post) 59 [(0, .ref 12)] [] M (PT x)) ∧ ((M 12 3) = 270 → (((M 12 4) = 0 → WA X ad ca LY RX5 cX5_readName 1 (some FieldType.boolean) (d + 1) 0 0 (a_E X ad ca LY Post) 59 [(0, .ref 12)] [] M (PT x)) ∧ (¬ (M 12 4) = 0 → (∃ Q1 : Int32 → a_M → Prop, Mt X ad ca LY d yX5_refuse cX5_refuse 2 (some FieldType.boolean) [.ref 12, .int 5] M (PT x) (q_i (PT x) Q1) ∧ ∀ v1 M1, Q1 v1 M1 → ((v1 = 0 ∨ v1 = 1) ∧ Post (some (.int v1)) M1 (PT x)))))))) : WA X ad ca LY RX5 cX5_readName 1 (some FieldType.boolean) (d + 1) 0 0 (a_E X ad ca LY Post) 36 [(0, .ref 12)] [] M (PT x) := by
  refine wa_aload_n dX5_readName_36 0 rfl rfl ?_
  refine wb_geti (v := M 12 3) dX5_readName_37 fkX5_17 rfl rfl rfl ?_
  refine wa_sipush (v := 270) dX5_readName_40 rfl ?_
  refine wa_icmp_ne (tgt := 59) dX5_readName_43 rfl (fun hc => ?_) (fun hc => ?_)
  · replace hF := hF.1 hc
    exact hF
  · replace hF := hF.2 hc
    refine wa_aload_n dX5_readName_46 0 rfl rfl ?_
    refine wb_geti (v := M 12 4) dX5_readName_47 fkX5_20 rfl rfl rfl ?_
    refine wa_if_eq (tgt := 59) dX5_readName_50 rfl (fun hc => ?_) (fun hc => ?_)
    · replace hF := hF.1 hc
      exact hF
    · replace hF := hF.2 hc
      refine wa_aload_n dX5_readName_53 0 rfl rfl ?_
      refine wa_iconst (v := 5) dX5_readName_54 rfl ?_
      obtain ⟨Q1, hM9, hF⟩ := hF
      refine wa_callV [.int 5] dX5_readName_55 (mmX5_refuse _ _) mlX5_65 mnX5_refuse mseX5_refuse rfl rfl rfl rfl (a_dlt d) rfl rfl hM9 ?_
      rintro r9 M1 P9 ⟨v1, rfl, rfl, hq9⟩
      replace hF := hF v1 M1 hq9
      simp only [Option.toList, List.cons_append, List.nil_append]
      exact wa_iret dX5_readName_58 rfl (a_bn hF.1) hF.2

theorem bX5_readName_59 {X : a_X} {ad : Nat → Nat} {ca : Nat → ClassId} {d : Nat} {Post : Option Value → a_M → a_P → Prop} {x : Nat} {M : a_M}  (hLx : LY[x]? = some (7, 7)) (hF : ((¬ (M 12 3) = 270 → ((¬ (M 12 3) = 271 → (∃ Q1 : a_M → Prop, Mt X ad ca LY d yX7_add cX7_add 3 none [.ref x, .int (-3)] M (PT x) (q_v (PT x) Q1) ∧ ∀ M1, Q1 M1 → (∃ Q2 : a_M → Prop, Mt X ad ca LY d yX5_advance cX5_advance 1 none [.ref 12] M1 (PT x) (q_v (PT x) Q2) ∧ ∀ M2, Q2 M2 → Post (some (.int 1)) M2 (PT x)))) ∧ ((M 12 3) = 271 → (∃ Q3 : a_M → Prop, Mt X ad ca LY d yX7_add cX7_add 3 none [.ref x, .int (-2)] M (PT x) (q_v (PT x) Q3) ∧ ∀ M3, Q3 M3 → (∃ Q4 : a_M → Prop, Mt X ad ca LY d yX5_advance cX5_advance 1 none [.ref 12] M3 (PT x) (q_v (PT x) Q4) ∧ ∀ M4, Q4 M4 → Post (some (.int 1)) M4 (PT x)))))) ∧ ((M 12 3) = 270 → (∃ Q5 : a_M → Prop, Mt X ad ca LY d yX7_add cX7_add 3 none [.ref x, .int (-1)] M (PT x) (q_v (PT x) Q5) ∧ ∀ M5, Q5 M5 → (∃ Q6 : a_M → Prop, Mt X ad ca LY d yX5_advance cX5_advance 1 none [.ref 12] M5 (PT x) (q_v (PT x) Q6) ∧ ∀ M6, Q6 M6 → Post (some (.int 1)) M6 (PT x)))))) : WA X ad ca LY RX5 cX5_readName 1 (some FieldType.boolean) (d + 1) 0 0 (a_E X ad ca LY Post) 59 [(0, .ref 12)] [] M (PT x) := by
  refine wa_aload_n dX5_readName_59 0 rfl rfl ?_
  refine wa_getr (r := x) dX5_readName_60 fkX5_37 rfl rfl rfl ?_
  refine wa_aload_n dX5_readName_63 0 rfl rfl ?_
  refine wb_geti (v := M 12 3) dX5_readName_64 fkX5_17 rfl rfl rfl ?_
  refine wa_sipush (v := 270) dX5_readName_67 rfl ?_
  refine wa_icmp_ne (tgt := 77) dX5_readName_70 rfl (fun hc => ?_) (fun hc => ?_)
  · replace hF := hF.1 hc
    refine wa_aload_n dX5_readName_77 0 rfl rfl ?_
    refine wb_geti (v := M 12 3) dX5_readName_78 fkX5_17 rfl rfl rfl ?_
    refine wa_sipush (v := 271) dX5_readName_81 rfl ?_
    refine wa_icmp_ne (tgt := 92) dX5_readName_84 rfl (fun hc => ?_) (fun hc => ?_)
    · replace hF := hF.1 hc
      refine wa_bipush (v := (-3)) dX5_readName_92 rfl ?_
      obtain ⟨Q1, hM9, hF⟩ := hF
      refine wa_callV [.int (-3)] dX5_readName_94 (mmX7_add _ _) mlX5_90 mnX7_add mseX7_add hLx rfl rfl rfl (a_dlt d) rfl rfl hM9 ?_
      rintro r9 M1 P9 ⟨rfl, rfl, hq9⟩
      replace hF := hF M1 hq9
      simp only [Option.toList, List.nil_append]
      refine wa_aload_n dX5_readName_97 0 rfl rfl ?_
      obtain ⟨Q2, hM9, hF⟩ := hF
      refine wa_callV [] dX5_readName_98 (mmX5_advance _ _) mlX5_50 mnX5_advance mseX5_advance rfl rfl rfl rfl (a_dlt d) rfl rfl hM9 ?_
      rintro r9 M2 P9 ⟨rfl, rfl, hq9⟩
      replace hF := hF M2 hq9
      simp only [Option.toList, List.nil_append]
      refine wa_iconst (v := 1) dX5_readName_101 rfl ?_
      exact wa_iret dX5_readName_102 rfl rfl hF
    · replace hF := hF.2 hc
      refine wa_bipush (v := (-2)) dX5_readName_87 rfl ?_
      refine wa_goto (tgt := 94) dX5_readName_89 rfl ?_
      obtain ⟨Q3, hM9, hF⟩ := hF
      refine wa_callV [.int (-2)] dX5_readName_94 (mmX7_add _ _) mlX5_90 mnX7_add mseX7_add hLx rfl rfl rfl (a_dlt d) rfl rfl hM9 ?_
      rintro r9 M3 P9 ⟨rfl, rfl, hq9⟩
      replace hF := hF M3 hq9
      simp only [Option.toList, List.nil_append]
      refine wa_aload_n dX5_readName_97 0 rfl rfl ?_
      obtain ⟨Q4, hM9, hF⟩ := hF
      refine wa_callV [] dX5_readName_98 (mmX5_advance _ _) mlX5_50 mnX5_advance mseX5_advance rfl rfl rfl rfl (a_dlt d) rfl rfl hM9 ?_
      rintro r9 M4 P9 ⟨rfl, rfl, hq9⟩
      replace hF := hF M4 hq9
      simp only [Option.toList, List.nil_append]
      refine wa_iconst (v := 1) dX5_readName_101 rfl ?_
      exact wa_iret dX5_readName_102 rfl rfl hF
  · replace hF := hF.2 hc
    refine wa_iconst (v := (-1)) dX5_readName_73 rfl ?_
    refine wa_goto (tgt := 94) dX5_readName_74 rfl ?_
    obtain ⟨Q5, hM9, hF⟩ := hF
    refine wa_callV [.int (-1)] dX5_readName_94 (mmX7_add _ _) mlX5_90 mnX7_add mseX7_add hLx rfl rfl rfl (a_dlt d) rfl rfl hM9 ?_
    rintro r9 M5 P9 ⟨rfl, rfl, hq9⟩
    replace hF := hF M5 hq9
    simp only [Option.toList, List.nil_append]
    refine wa_aload_n dX5_readName_97 0 rfl rfl ?_
    obtain ⟨Q6, hM9, hF⟩ := hF
    refine wa_callV [] dX5_readName_98 (mmX5_advance _ _) mlX5_50 mnX5_advance mseX5_advance rfl rfl rfl rfl (a_dlt d) rfl rfl hM9 ?_
    rintro r9 M6 P9 ⟨rfl, rfl, hq9⟩
    replace hF := hF M6 hq9
    simp only [Option.toList, List.nil_append]
    refine wa_iconst (v := 1) dX5_readName_101 rfl ?_
    exact wa_iret dX5_readName_102 rfl rfl hF

theorem eX5_readName {X : a_X} {ad : Nat → Nat} {ca : Nat → ClassId} {d : Nat} {Post : Option Value → a_M → a_P → Prop} {x : Nat} {M : a_M}  (h : WA X ad ca LY RX5 cX5_readName 1 (some FieldType.boolean) d 0 0 (a_E X ad ca LY Post) 0 [(0, .ref 12)] [] M (PT x)) : Mt X ad ca LY d yX5_readName cX5_readName 1 (some FieldType.boolean) [.ref 12] M (PT x) Post := Mt.of (lv := [(0, .ref 12)]) (by decide +kernel) rfl rfl rfl (wa_pick [0] rfl h)

theorem bX6_copyFrom_0 {X : a_X} {ad : Nat → Nat} {ca : Nat → ClassId} {d : Nat} {Post : Option Value → a_M → a_P → Prop} {x : Nat} {M : a_M} (o0 : Nat) (o1 : Nat) (hLo0 : LY[o0]? = some (6, 5)) (hLo1 : LY[o1]? = some (6, 5)) (hF : (((M o1 1) = 0 ∨ (M o1 1) = 1) ∧ Post none (ms (ms (ms (ms (ms M o0 0 (M o1 0)) o0 1 (M o1 1)) o0 2 (M o1 2)) o0 3 (M o1 3)) o0 4 (M o1 4)) (PT x))) : WA X ad ca LY RX6 cX6_copyFrom 2 none (d + 1) 0 0 (a_E X ad ca LY Post) 0 [(0, .ref o0), (1, .ref o1)] [] M (PT x) := by
  refine wa_aload_n dX6_copyFrom_0 0 rfl rfl ?_
  refine wa_aload_n dX6_copyFrom_1 1 rfl rfl ?_
  refine wb_geti (v := M o1 0) dX6_copyFrom_2 fkX6_9 rfl hLo1 rfl ?_
  refine wb_puti dX6_copyFrom_5 fkX6_9 fmX6_0 rfl hLo0 ?_
  refine wa_aload_n dX6_copyFrom_8 0 rfl rfl ?_
  refine wa_aload_n dX6_copyFrom_9 1 rfl rfl ?_
  refine wb_geti (v := M o1 1) dX6_copyFrom_10 fkX6_15 rfl hLo1 ((ms_no M o0 0 (M o1 0) o1 1 (fun h9 => absurd h9.2 (by decide))).trans rfl) ?_
  obtain ⟨hz9, hF⟩ := hF
  refine wb_putz dX6_copyFrom_13 fkX6_15 fmX6_1 rfl hLo0 hz9 ?_
  refine wa_aload_n dX6_copyFrom_16 0 rfl rfl ?_
  refine wa_aload_n dX6_copyFrom_17 1 rfl rfl ?_
  refine wb_geti (v := M o1 2) dX6_copyFrom_18 fkX6_19 rfl hLo1 ((ms_no (ms M o0 0 (M o1 0)) o0 1 (M o1 1) o1 2 (fun h9 => absurd h9.2 (by decide))).trans ((ms_no M o0 0 (M o1 0) o1 2 (fun h9 => absurd h9.2 (by decide))).trans rfl)) ?_
  refine wb_puti dX6_copyFrom_21 fkX6_19 fmX6_2 rfl hLo0 ?_
  refine wa_aload_n dX6_copyFrom_24 0 rfl rfl ?_
  refine wa_aload_n dX6_copyFrom_25 1 rfl rfl ?_
  refine wb_geti (v := M o1 3) dX6_copyFrom_26 fkX6_22 rfl hLo1 ((ms_no (ms (ms M o0 0 (M o1 0)) o0 1 (M o1 1)) o0 2 (M o1 2) o1 3 (fun h9 => absurd h9.2 (by decide))).trans ((ms_no (ms M o0 0 (M o1 0)) o0 1 (M o1 1) o1 3 (fun h9 => absurd h9.2 (by decide))).trans ((ms_no M o0 0 (M o1 0) o1 3 (fun h9 => absurd h9.2 (by decide))).trans rfl))) ?_
  refine wb_puti dX6_copyFrom_29 fkX6_22 fmX6_3 rfl hLo0 ?_
  refine wa_aload_n dX6_copyFrom_32 0 rfl rfl ?_
  refine wa_aload_n dX6_copyFrom_33 1 rfl rfl ?_
  refine wb_geti (v := M o1 4) dX6_copyFrom_34 fkX6_25 rfl hLo1 ((ms_no (ms (ms (ms M o0 0 (M o1 0)) o0 1 (M o1 1)) o0 2 (M o1 2)) o0 3 (M o1 3) o1 4 (fun h9 => absurd h9.2 (by decide))).trans ((ms_no (ms (ms M o0 0 (M o1 0)) o0 1 (M o1 1)) o0 2 (M o1 2) o1 4 (fun h9 => absurd h9.2 (by decide))).trans ((ms_no (ms M o0 0 (M o1 0)) o0 1 (M o1 1) o1 4 (fun h9 => absurd h9.2 (by decide))).trans ((ms_no M o0 0 (M o1 0) o1 4 (fun h9 => absurd h9.2 (by decide))).trans rfl)))) ?_
  refine wb_puti dX6_copyFrom_37 fkX6_25 fmX6_4 rfl hLo0 ?_
  exact wa_vret dX6_copyFrom_40 rfl hF

theorem eX6_copyFrom {X : a_X} {ad : Nat → Nat} {ca : Nat → ClassId} {d : Nat} {Post : Option Value → a_M → a_P → Prop} {x : Nat} {M : a_M} (o0 : Nat) (o1 : Nat) (h : WA X ad ca LY RX6 cX6_copyFrom 2 none d 0 0 (a_E X ad ca LY Post) 0 [(0, .ref o0), (1, .ref o1)] [] M (PT x)) : Mt X ad ca LY d yX6_copyFrom cX6_copyFrom 2 none [.ref o0, .ref o1] M (PT x) Post := Mt.of (lv := [(0, .ref o0), (1, .ref o1)]) (by decide +kernel) rfl rfl rfl (wa_pick [0, 1] rfl h)

theorem bX6_isLike_0 {X : a_X} {ad : Nat → Nat} {ca : Nat → ClassId} {d : Nat} {Post : Option Value → a_M → a_P → Prop} {x : Nat} {M : a_M} (o0 : Nat) (o1 : Nat) (hLo0 : LY[o0]? = some (6, 5)) (hLo1 : LY[o1]? = some (6, 5)) (hF : ((¬ (M o0 0) = (M o1 0) → WA X ad ca LY RX6 cX6_isLike 2 (some FieldType.boolean) (d + 1) 0 0 (a_E X ad ca LY Post) 59 [] [] M (PT x)) ∧ ((M o0 0) = (M o1 0) → ((¬ (M o0 1) = (M o1 1) → WA X ad ca LY RX6 cX6_isLike 2 (some FieldType.boolean) (d + 1) 0 0 (a_E X ad ca LY Post) 59 [] [] M (PT x)) ∧ ((M o0 1) = (M o1 1) → ((¬ (M o0 2) = (M o1 2) → WA X ad ca LY RX6 cX6_isLike 2 (some FieldType.boolean) (d + 1) 0 0 (a_E X ad ca LY Post) 59 [] [] M (PT x)) ∧ ((M o0 2) = (M o1 2) → ((¬ (M o0 3) = (M o1 3) → WA X ad ca LY RX6 cX6_isLike 2 (some FieldType.boolean) (d + 1) 0 0 (a_E X ad ca LY Post) 59 [] [] M (PT x)) ∧ ((M o0 3) = (M o1 3) → ((¬ (M o0 4) = (M o1 4) → WA X ad ca LY RX6 cX6_isLike 2 (some FieldType.boolean) (d + 1) 0 0 (a_E X ad ca LY Post) 59 [] [] M (PT x)) ∧ ((M o0 4) = (M o1 4) → Post (some (.int 1)) M (PT x)))))))))))) : WA X ad ca LY RX6 cX6_isLike 2 (some FieldType.boolean) (d + 1) 0 0 (a_E X ad ca LY Post) 0 [(0, .ref o0), (1, .ref o1)] [] M (PT x) := by
  refine wa_aload_n dX6_isLike_0 0 rfl rfl ?_
  refine wb_geti (v := M o0 0) dX6_isLike_1 fkX6_9 rfl hLo0 rfl ?_
  refine wa_aload_n dX6_isLike_4 1 rfl rfl ?_
  refine wb_geti (v := M o1 0) dX6_isLike_5 fkX6_9 rfl hLo1 rfl ?_
  refine wa_icmp_ne (tgt := 59) dX6_isLike_8 rfl (fun hc => ?_) (fun hc => ?_)
  · replace hF := hF.1 hc
    exact wa_pick [] rfl hF
  · replace hF := hF.2 hc
    refine wa_aload_n dX6_isLike_11 0 rfl rfl ?_
    refine wb_geti (v := M o0 1) dX6_isLike_12 fkX6_15 rfl hLo0 rfl ?_
    refine wa_aload_n dX6_isLike_15 1 rfl rfl ?_
    refine wb_geti (v := M o1 1) dX6_isLike_16 fkX6_15 rfl hLo1 rfl ?_
    refine wa_icmp_ne (tgt := 59) dX6_isLike_19 rfl (fun hc => ?_) (fun hc => ?_)
    · replace hF := hF.1 hc
      exact wa_pick [] rfl hF
    · replace hF := hF.2 hc
      refine wa_aload_n dX6_isLike_22 0 rfl rfl ?_
      refine wb_geti (v := M o0 2) dX6_isLike_23 fkX6_19 rfl hLo0 rfl ?_
      refine wa_aload_n dX6_isLike_26 1 rfl rfl ?_
      refine wb_geti (v := M o1 2) dX6_isLike_27 fkX6_19 rfl hLo1 rfl ?_
      refine wa_icmp_ne (tgt := 59) dX6_isLike_30 rfl (fun hc => ?_) (fun hc => ?_)
      · replace hF := hF.1 hc
        exact wa_pick [] rfl hF
      · replace hF := hF.2 hc
        refine wa_aload_n dX6_isLike_33 0 rfl rfl ?_
        refine wb_geti (v := M o0 3) dX6_isLike_34 fkX6_22 rfl hLo0 rfl ?_
        refine wa_aload_n dX6_isLike_37 1 rfl rfl ?_
        refine wb_geti (v := M o1 3) dX6_isLike_38 fkX6_22 rfl hLo1 rfl ?_
        refine wa_icmp_ne (tgt := 59) dX6_isLike_41 rfl (fun hc => ?_) (fun hc => ?_)
        · replace hF := hF.1 hc
          exact wa_pick [] rfl hF
        · replace hF := hF.2 hc
          refine wa_aload_n dX6_isLike_44 0 rfl rfl ?_
          refine wb_geti (v := M o0 4) dX6_isLike_45 fkX6_25 rfl hLo0 rfl ?_
          refine wa_aload_n dX6_isLike_48 1 rfl rfl ?_
          refine wb_geti (v := M o1 4) dX6_isLike_49 fkX6_25 rfl hLo1 rfl ?_
          refine wa_icmp_ne (tgt := 59) dX6_isLike_52 rfl (fun hc => ?_) (fun hc => ?_)
          · replace hF := hF.1 hc
            exact wa_pick [] rfl hF
          · replace hF := hF.2 hc
            refine wa_iconst (v := 1) dX6_isLike_55 rfl ?_
            refine wa_goto (tgt := 60) dX6_isLike_56 rfl ?_
            exact wa_iret dX6_isLike_60 rfl rfl hF

theorem bX6_isLike_59 {X : a_X} {ad : Nat → Nat} {ca : Nat → ClassId} {d : Nat} {Post : Option Value → a_M → a_P → Prop} {x : Nat} {M : a_M}   (hF : Post (some (.int 0)) M (PT x)) : WA X ad ca LY RX6 cX6_isLike 2 (some FieldType.boolean) (d + 1) 0 0 (a_E X ad ca LY Post) 59 [] [] M (PT x) := by
  refine wa_iconst (v := 0) dX6_isLike_59 rfl ?_
  exact wa_iret dX6_isLike_60 rfl rfl hF

theorem eX6_isLike {X : a_X} {ad : Nat → Nat} {ca : Nat → ClassId} {d : Nat} {Post : Option Value → a_M → a_P → Prop} {x : Nat} {M : a_M} (o0 : Nat) (o1 : Nat) (h : WA X ad ca LY RX6 cX6_isLike 2 (some FieldType.boolean) d 0 0 (a_E X ad ca LY Post) 0 [(0, .ref o0), (1, .ref o1)] [] M (PT x)) : Mt X ad ca LY d yX6_isLike cX6_isLike 2 (some FieldType.boolean) [.ref o0, .ref o1] M (PT x) Post := Mt.of (lv := [(0, .ref o0), (1, .ref o1)]) (by decide +kernel) rfl rfl rfl (wa_pick [0, 1] rfl h)

theorem bX6_states_0 {X : a_X} {ad : Nat → Nat} {ca : Nat → ClassId} {d : Nat} {Post : Option Value → a_M → a_P → Prop} {x : Nat} {M : a_M} (o0 : Nat) (hLo0 : LY[o0]? = some (6, 5)) (hF : Post (some (.int ((1 : Int32) <<< ((M o0 0) &&& 31)))) M (PT x)) : WA X ad ca LY RX6 cX6_states 1 (some FieldType.int) (d + 1) 0 0 (a_E X ad ca LY Post) 0 [(0, .ref o0)] [] M (PT x) := by
  refine wa_iconst (v := 1) dX6_states_0 rfl ?_
  refine wa_aload_n dX6_states_1 0 rfl rfl ?_
  refine wb_geti (v := M o0 0) dX6_states_2 fkX6_9 rfl hLo0 rfl ?_
  refine wa_ishl dX6_states_5 ?_
  exact wa_iret dX6_states_6 rfl rfl hF

theorem eX6_states {X : a_X} {ad : Nat → Nat} {ca : Nat → ClassId} {d : Nat} {Post : Option Value → a_M → a_P → Prop} {x : Nat} {M : a_M} (o0 : Nat) (h : WA X ad ca LY RX6 cX6_states 1 (some FieldType.int) d 0 0 (a_E X ad ca LY Post) 0 [(0, .ref o0)] [] M (PT x)) : Mt X ad ca LY d yX6_states cX6_states 1 (some FieldType.int) [.ref o0] M (PT x) Post := Mt.of (lv := [(0, .ref o0)]) (by decide +kernel) rfl rfl rfl (wa_pick [0] rfl h)

theorem bX6_isState_0 {X : a_X} {ad : Nat → Nat} {ca : Nat → ClassId} {d : Nat} {Post : Option Value → a_M → a_P → Prop} {x : Nat} {M : a_M} (o0 : Nat) (x1 : Int32) (hLo0 : LY[o0]? = some (6, 5)) (hF : ((x1 < 0 → WA X ad ca LY RX6 cX6_isState 2 (some FieldType.boolean) (d + 1) 0 0 (a_E X ad ca LY Post) 16 [] [] M (PT x)) ∧ (¬ x1 < 0 → (∃ Q1 : Int32 → a_M → Prop, Mt X ad ca LY d yX6_states cX6_states 1 (some FieldType.int) [.ref o0] M (PT x) (q_i (PT x) Q1) ∧ ∀ v1 M1, Q1 v1 M1 → ((v1 ≤ x1 → WA X ad ca LY RX6 cX6_isState 2 (some FieldType.boolean) (d + 1) 0 0 (a_E X ad ca LY Post) 16 [] [] M1 (PT x)) ∧ (¬ v1 ≤ x1 → Post (some (.int 1)) M1 (PT x))))))) : WA X ad ca LY RX6 cX6_isState 2 (some FieldType.boolean) (d + 1) 0 0 (a_E X ad ca LY Post) 0 [(0, .ref o0), (1, .int x1)] [] M (PT x) := by
  refine wa_iload_n dX6_isState_0 1 rfl rfl ?_
  refine wa_if_lt (tgt := 16) dX6_isState_1 rfl (fun hc => ?_) (fun hc => ?_)
  · replace hF := hF.1 hc
    exact wa_pick [] rfl hF
  · replace hF := hF.2 hc
    refine wa_iload_n dX6_isState_4 1 rfl rfl ?_
    refine wa_aload_n dX6_isState_5 0 rfl rfl ?_
    obtain ⟨Q1, hM9, hF⟩ := hF
    refine wa_callV [] dX6_isState_6 (mmX6_states _ _) mlX6_28 mnX6_states mseX6_states hLo0 rfl rfl rfl (a_dlt d) rfl rfl hM9 ?_
    rintro r9 M1 P9 ⟨v1, rfl, rfl, hq9⟩
    replace hF := hF v1 M1 hq9
    simp only [Option.toList, List.cons_append, List.nil_append]
    refine wa_icmp_ge (tgt := 16) dX6_isState_9 rfl (fun hc => ?_) (fun hc => ?_)
    · replace hF := hF.1 hc
      exact wa_pick [] rfl hF
    · replace hF := hF.2 hc
      refine wa_iconst (v := 1) dX6_isState_12 rfl ?_
      refine wa_goto (tgt := 17) dX6_isState_13 rfl ?_
      exact wa_iret dX6_isState_17 rfl rfl hF

theorem bX6_isState_16 {X : a_X} {ad : Nat → Nat} {ca : Nat → ClassId} {d : Nat} {Post : Option Value → a_M → a_P → Prop} {x : Nat} {M : a_M}   (hF : Post (some (.int 0)) M (PT x)) : WA X ad ca LY RX6 cX6_isState 2 (some FieldType.boolean) (d + 1) 0 0 (a_E X ad ca LY Post) 16 [] [] M (PT x) := by
  refine wa_iconst (v := 0) dX6_isState_16 rfl ?_
  exact wa_iret dX6_isState_17 rfl rfl hF

theorem eX6_isState {X : a_X} {ad : Nat → Nat} {ca : Nat → ClassId} {d : Nat} {Post : Option Value → a_M → a_P → Prop} {x : Nat} {M : a_M} (o0 : Nat) (x1 : Int32) (h : WA X ad ca LY RX6 cX6_isState 2 (some FieldType.boolean) d 0 0 (a_E X ad ca LY Post) 0 [(0, .ref o0), (1, .int x1)] [] M (PT x)) : Mt X ad ca LY d yX6_isState cX6_isState 2 (some FieldType.boolean) [.ref o0, .int x1] M (PT x) Post := Mt.of (lv := [(0, .ref o0), (1, .int x1)]) (by decide +kernel) rfl rfl rfl (wa_pick [0, 1] rfl h)

theorem bX6_isNumber_0 {X : a_X} {ad : Nat → Nat} {ca : Nat → ClassId} {d : Nat} {Post : Option Value → a_M → a_P → Prop} {x : Nat} {M : a_M} (o0 : Nat) (x1 : Int32) (hLo0 : LY[o0]? = some (6, 5)) (hF : ((x1 < 0 → WA X ad ca LY RX6 cX6_isNumber 2 (some FieldType.boolean) (d + 1) 0 0 (a_E X ad ca LY Post) 16 [] [] M (PT x)) ∧ (¬ x1 < 0 → (((M o0 2) ≤ x1 → WA X ad ca LY RX6 cX6_isNumber 2 (some FieldType.boolean) (d + 1) 0 0 (a_E X ad ca LY Post) 16 [] [] M (PT x)) ∧ (¬ (M o0 2) ≤ x1 → Post (some (.int 1)) M (PT x)))))) : WA X ad ca LY RX6 cX6_isNumber 2 (some FieldType.boolean) (d + 1) 0 0 (a_E X ad ca LY Post) 0 [(0, .ref o0), (1, .int x1)] [] M (PT x) := by
  refine wa_iload_n dX6_isNumber_0 1 rfl rfl ?_
  refine wa_if_lt (tgt := 16) dX6_isNumber_1 rfl (fun hc => ?_) (fun hc => ?_)
  · replace hF := hF.1 hc
    exact wa_pick [] rfl hF
  · replace hF := hF.2 hc
    refine wa_iload_n dX6_isNumber_4 1 rfl rfl ?_
    refine wa_aload_n dX6_isNumber_5 0 rfl rfl ?_
    refine wb_geti (v := M o0 2) dX6_isNumber_6 fkX6_19 rfl hLo0 rfl ?_
    refine wa_icmp_ge (tgt := 16) dX6_isNumber_9 rfl (fun hc => ?_) (fun hc => ?_)
    · replace hF := hF.1 hc
      exact wa_pick [] rfl hF
    · replace hF := hF.2 hc
      refine wa_iconst (v := 1) dX6_isNumber_12 rfl ?_
      refine wa_goto (tgt := 17) dX6_isNumber_13 rfl ?_
      exact wa_iret dX6_isNumber_17 rfl rfl hF

theorem bX6_isNumber_16 {X : a_X} {ad : Nat → Nat} {ca : Nat → ClassId} {d : Nat} {Post : Option Value → a_M → a_P → Prop} {x : Nat} {M : a_M}   (hF : Post (some (.int 0)) M (PT x)) : WA X ad ca LY RX6 cX6_isNumber 2 (some FieldType.boolean) (d + 1) 0 0 (a_E X ad ca LY Post) 16 [] [] M (PT x) := by
  refine wa_iconst (v := 0) dX6_isNumber_16 rfl ?_
  exact wa_iret dX6_isNumber_17 rfl rfl hF

theorem eX6_isNumber {X : a_X} {ad : Nat → Nat} {ca : Nat → ClassId} {d : Nat} {Post : Option Value → a_M → a_P → Prop} {x : Nat} {M : a_M} (o0 : Nat) (x1 : Int32) (h : WA X ad ca LY RX6 cX6_isNumber 2 (some FieldType.boolean) d 0 0 (a_E X ad ca LY Post) 0 [(0, .ref o0), (1, .int x1)] [] M (PT x)) : Mt X ad ca LY d yX6_isNumber cX6_isNumber 2 (some FieldType.boolean) [.ref o0, .int x1] M (PT x) Post := Mt.of (lv := [(0, .ref o0), (1, .int x1)]) (by decide +kernel) rfl rfl rfl (wa_pick [0, 1] rfl h)

theorem bX6_isCount_0 {X : a_X} {ad : Nat → Nat} {ca : Nat → ClassId} {d : Nat} {Post : Option Value → a_M → a_P → Prop} {x : Nat} {M : a_M} (o0 : Nat) (x1 : Int32) (hLo0 : LY[o0]? = some (6, 5)) (hF : ((x1 < 0 → WA X ad ca LY RX6 cX6_isCount 2 (some FieldType.boolean) (d + 1) 0 0 (a_E X ad ca LY Post) 16 [] [] M (PT x)) ∧ (¬ x1 < 0 → (((M o0 0) < x1 → WA X ad ca LY RX6 cX6_isCount 2 (some FieldType.boolean) (d + 1) 0 0 (a_E X ad ca LY Post) 16 [] [] M (PT x)) ∧ (¬ (M o0 0) < x1 → Post (some (.int 1)) M (PT x)))))) : WA X ad ca LY RX6 cX6_isCount 2 (some FieldType.boolean) (d + 1) 0 0 (a_E X ad ca LY Post) 0 [(0, .ref o0), (1, .int x1)] [] M (PT x) := by
  refine wa_iload_n dX6_isCount_0 1 rfl rfl ?_
  refine wa_if_lt (tgt := 16) dX6_isCount_1 rfl (fun hc => ?_) (fun hc => ?_)
  · replace hF := hF.1 hc
    exact wa_pick [] rfl hF
  · replace hF := hF.2 hc
    refine wa_iload_n dX6_isCount_4 1 rfl rfl ?_
    refine wa_aload_n dX6_isCount_5 0 rfl rfl ?_
    refine wb_geti (v := M o0 0) dX6_isCount_6 fkX6_9 rfl hLo0 rfl ?_
    refine wa_icmp_gt (tgt := 16) dX6_isCount_9 rfl (fun hc => ?_) (fun hc => ?_)
    · replace hF := hF.1 hc
      exact wa_pick [] rfl hF
    · replace hF := hF.2 hc
      refine wa_iconst (v := 1) dX6_isCount_12 rfl ?_
      refine wa_goto (tgt := 17) dX6_isCount_13 rfl ?_
      exact wa_iret dX6_isCount_17 rfl rfl hF

theorem bX6_isCount_16 {X : a_X} {ad : Nat → Nat} {ca : Nat → ClassId} {d : Nat} {Post : Option Value → a_M → a_P → Prop} {x : Nat} {M : a_M}   (hF : Post (some (.int 0)) M (PT x)) : WA X ad ca LY RX6 cX6_isCount 2 (some FieldType.boolean) (d + 1) 0 0 (a_E X ad ca LY Post) 16 [] [] M (PT x) := by
  refine wa_iconst (v := 0) dX6_isCount_16 rfl ?_
  exact wa_iret dX6_isCount_17 rfl rfl hF

theorem eX6_isCount {X : a_X} {ad : Nat → Nat} {ca : Nat → ClassId} {d : Nat} {Post : Option Value → a_M → a_P → Prop} {x : Nat} {M : a_M} (o0 : Nat) (x1 : Int32) (h : WA X ad ca LY RX6 cX6_isCount 2 (some FieldType.boolean) d 0 0 (a_E X ad ca LY Post) 0 [(0, .ref o0), (1, .int x1)] [] M (PT x)) : Mt X ad ca LY d yX6_isCount cX6_isCount 2 (some FieldType.boolean) [.ref o0, .int x1] M (PT x) Post := Mt.of (lv := [(0, .ref o0), (1, .int x1)]) (by decide +kernel) rfl rfl rfl (wa_pick [0, 1] rfl h)
