theorem bX12_holds_0 {X : a_X} {ad : Nat → Nat} {ca : Nat → ClassId} {d : Nat} {kc ks : Nat} {QF : List Frame → Array Value → State → State → Prop} {x : Nat} {M : a_M} (x1 : Int32) (x2 : Int32)  (hF : (¬ (M 119 2) = 0 ∧ WA X ad ca LY RX12 cX12_holds 7 (some FieldType.boolean) (d + 1) kc ks QF 24 [(0, .ref 118), (1, .int x1), (2, .int x2), (3, .int (((x1 - x2) + (M 119 2)) - ((x1 - x2) + (M 119 2)) / (M 119 2) * (M 119 2))), (4, .int 1), (5, .int 0)] [] M (PT x))) : WA X ad ca LY RX12 cX12_holds 7 (some FieldType.boolean) (d + 1) kc ks QF 0 [(0, .ref 118), (1, .int x1), (2, .int x2)] [] M (PT x) := by
  refine wa_iload_n dX12_holds_0 1 rfl rfl ?_
  refine wa_iload_n dX12_holds_1 2 rfl rfl ?_
  refine wa_isub dX12_holds_2 ?_
  refine wa_aload_n dX12_holds_3 0 rfl rfl ?_
  refine wa_getr (r := 119) dX12_holds_4 fkX12_7 rfl rfl rfl ?_
  refine wa_iconst (v := 2) dX12_holds_7 rfl ?_
  refine wb_iald (j := 2) (v := M 119 2) dX12_holds_8 rfl (by unfold vp_in; decide) rfl rfl ?_
  refine wa_iadd dX12_holds_9 ?_
  refine wa_aload_n dX12_holds_10 0 rfl rfl ?_
  refine wa_getr (r := 119) dX12_holds_11 fkX12_7 rfl rfl rfl ?_
  refine wa_iconst (v := 2) dX12_holds_14 rfl ?_
  refine wb_iald (j := 2) (v := M 119 2) dX12_holds_15 rfl (by unfold vp_in; decide) rfl rfl ?_
  obtain ⟨hn9, hF⟩ := hF
  refine wa_irem dX12_holds_16 hn9 ?_
  refine wa_istore_n (lv' := [(3, .int (((x1 - x2) + (M 119 2)) - ((x1 - x2) + (M 119 2)) / (M 119 2) * (M 119 2))), (0, .ref 118), (1, .int x1), (2, .int x2)]) dX12_holds_17 rfl rfl rfl ?_
  refine wa_iconst (v := 1) dX12_holds_18 rfl ?_
  refine wa_istore (lv' := [(4, .int 1), (3, .int (((x1 - x2) + (M 119 2)) - ((x1 - x2) + (M 119 2)) / (M 119 2) * (M 119 2))), (0, .ref 118), (1, .int x1), (2, .int x2)]) dX12_holds_19 rfl rfl ?_
  refine wa_iconst (v := 0) dX12_holds_21 rfl ?_
  refine wa_istore (lv' := [(5, .int 0), (4, .int 1), (3, .int (((x1 - x2) + (M 119 2)) - ((x1 - x2) + (M 119 2)) / (M 119 2) * (M 119 2))), (0, .ref 118), (1, .int x1), (2, .int x2)]) dX12_holds_22 rfl rfl ?_
  exact wa_pick [3, 4, 5, 2, 1, 0] rfl hF

theorem bX12_holds_24 {X : a_X} {ad : Nat → Nat} {ca : Nat → ClassId} {d : Nat} {kc ks : Nat} {QF : List Frame → Array Value → State → State → Prop} {x : Nat} {M : a_M} (x1 : Int32) (x2 : Int32) (x3 : Int32) (x4 : Int32) (x5 : Int32)  (hF : ((8 ≤ x5 → WA X ad ca LY RX12 cX12_holds 7 (some FieldType.boolean) (d + 1) kc ks QF 206 [(4, .int x4)] [] M (PT x)) ∧ (¬ 8 ≤ x5 → ((x4 = 0 → WA X ad ca LY RX12 cX12_holds 7 (some FieldType.boolean) (d + 1) kc ks QF 206 [(4, .int x4)] [] M (PT x)) ∧ (¬ x4 = 0 → (∃ Q1 : a_M → Prop, Mt X ad ca LY d yX12_rowIs cX12_rowIs 4 none [.ref 118, .int x5, .int 8] M (PT x) (q_v (PT x) Q1) ∧ ∀ M1, Q1 M1 → (∃ Q2 : a_M → Prop, Mt X ad ca LY d yX12_laysWeights cX12_laysWeights 2 none [.ref 118, .int x3] M1 (PT x) (q_v (PT x) Q2) ∧ ∀ M2, Q2 M2 → (∃ Q3 : a_M → Prop, Mt X ad ca LY d yX12_exchanges cX12_exchanges 6 none [.ref 118, .int 0, .int 1, .int 8] M2 (PT x) (q_v (PT x) Q3) ∧ ∀ M3, Q3 M3 → (∃ Q4 : a_M → Prop, Mt X ad ca LY d yX12_laysWeights cX12_laysWeights 2 none [.ref 118, .int x1] M3 (PT x) (q_v (PT x) Q4) ∧ ∀ M4, Q4 M4 → (∃ Q5 : a_M → Prop, Mt X ad ca LY d yX12_exchanges cX12_exchanges 6 none [.ref 118, .int 0, .int 2, .int 8] M4 (PT x) (q_v (PT x) Q5) ∧ ∀ M5, Q5 M5 → (∃ Q6 : a_M → Prop, Mt X ad ca LY d yX12_laysWeights cX12_laysWeights 2 none [.ref 118, .int x2] M5 (PT x) (q_v (PT x) Q6) ∧ ∀ M6, Q6 M6 → (∃ Q7 : a_M → Prop, Mt X ad ca LY d yX12_exchanges cX12_exchanges 6 none [.ref 118, .int 1, .int 2, .int 8] M6 (PT x) (q_v (PT x) Q7) ∧ ∀ M7, Q7 M7 → WA X ad ca LY RX12 cX12_holds 7 (some FieldType.boolean) (d + 1) kc ks QF 86 [(0, .ref 118), (1, .int x1), (2, .int x2), (3, .int x3), (4, .int x4), (5, .int x5), (6, .int 0)] [] M7 (PT x))))))))))))) : WA X ad ca LY RX12 cX12_holds 7 (some FieldType.boolean) (d + 1) kc ks QF 24 [(0, .ref 118), (1, .int x1), (2, .int x2), (3, .int x3), (4, .int x4), (5, .int x5)] [] M (PT x) := by
  refine wa_iload dX12_holds_24 5 rfl ?_
  refine wa_bipush (v := 8) dX12_holds_26 rfl ?_
  refine wa_icmp_ge (tgt := 206) dX12_holds_28 rfl (fun hc => ?_) (fun hc => ?_)
  · replace hF := hF.1 hc
    exact wa_pick [4] rfl hF
  · replace hF := hF.2 hc
    refine wa_iload dX12_holds_31 4 rfl ?_
    refine wa_if_eq (tgt := 206) dX12_holds_33 rfl (fun hc => ?_) (fun hc => ?_)
    · replace hF := hF.1 hc
      exact wa_pick [4] rfl hF
    · replace hF := hF.2 hc
      refine wa_aload_n dX12_holds_36 0 rfl rfl ?_
      refine wa_iload dX12_holds_37 5 rfl ?_
      refine wa_bipush (v := 8) dX12_holds_39 rfl ?_
      obtain ⟨Q1, hM9, hF⟩ := hF
      refine wa_callV [.int x5, .int 8] dX12_holds_41 (mmX12_rowIs _ _) mlX12_293 mnX12_rowIs mseX12_rowIs rfl rfl rfl rfl (a_dlt d) rfl rfl hM9 ?_
      rintro r9 M1 P9 ⟨rfl, rfl, hq9⟩
      replace hF := hF M1 hq9
      simp only [Option.toList, List.nil_append]
      refine wa_aload_n dX12_holds_44 0 rfl rfl ?_
      refine wa_iload_n dX12_holds_45 3 rfl rfl ?_
      obtain ⟨Q2, hM9, hF⟩ := hF
      refine wa_callV [.int x3] dX12_holds_46 (mmX12_laysWeights _ _) mlX12_296 mnX12_laysWeights mseX12_laysWeights rfl rfl rfl rfl (a_dlt d) rfl rfl hM9 ?_
      rintro r9 M2 P9 ⟨rfl, rfl, hq9⟩
      replace hF := hF M2 hq9
      simp only [Option.toList, List.nil_append]
      refine wa_aload_n dX12_holds_49 0 rfl rfl ?_
      refine wa_iconst (v := 0) dX12_holds_50 rfl ?_
      refine wa_iconst (v := 1) dX12_holds_51 rfl ?_
      refine wa_bipush (v := 8) dX12_holds_52 rfl ?_
      obtain ⟨Q3, hM9, hF⟩ := hF
      refine wa_callV [.int 0, .int 1, .int 8] dX12_holds_54 (mmX12_exchanges _ _) mlX12_299 mnX12_exchanges mseX12_exchanges rfl rfl rfl rfl (a_dlt d) rfl rfl hM9 ?_
      rintro r9 M3 P9 ⟨rfl, rfl, hq9⟩
      replace hF := hF M3 hq9
      simp only [Option.toList, List.nil_append]
      refine wa_aload_n dX12_holds_57 0 rfl rfl ?_
      refine wa_iload_n dX12_holds_58 1 rfl rfl ?_
      obtain ⟨Q4, hM9, hF⟩ := hF
      refine wa_callV [.int x1] dX12_holds_59 (mmX12_laysWeights _ _) mlX12_296 mnX12_laysWeights mseX12_laysWeights rfl rfl rfl rfl (a_dlt d) rfl rfl hM9 ?_
      rintro r9 M4 P9 ⟨rfl, rfl, hq9⟩
      replace hF := hF M4 hq9
      simp only [Option.toList, List.nil_append]
      refine wa_aload_n dX12_holds_62 0 rfl rfl ?_
      refine wa_iconst (v := 0) dX12_holds_63 rfl ?_
      refine wa_iconst (v := 2) dX12_holds_64 rfl ?_
      refine wa_bipush (v := 8) dX12_holds_65 rfl ?_
      obtain ⟨Q5, hM9, hF⟩ := hF
      refine wa_callV [.int 0, .int 2, .int 8] dX12_holds_67 (mmX12_exchanges _ _) mlX12_299 mnX12_exchanges mseX12_exchanges rfl rfl rfl rfl (a_dlt d) rfl rfl hM9 ?_
      rintro r9 M5 P9 ⟨rfl, rfl, hq9⟩
      replace hF := hF M5 hq9
      simp only [Option.toList, List.nil_append]
      refine wa_aload_n dX12_holds_70 0 rfl rfl ?_
      refine wa_iload_n dX12_holds_71 2 rfl rfl ?_
      obtain ⟨Q6, hM9, hF⟩ := hF
      refine wa_callV [.int x2] dX12_holds_72 (mmX12_laysWeights _ _) mlX12_296 mnX12_laysWeights mseX12_laysWeights rfl rfl rfl rfl (a_dlt d) rfl rfl hM9 ?_
      rintro r9 M6 P9 ⟨rfl, rfl, hq9⟩
      replace hF := hF M6 hq9
      simp only [Option.toList, List.nil_append]
      refine wa_aload_n dX12_holds_75 0 rfl rfl ?_
      refine wa_iconst (v := 1) dX12_holds_76 rfl ?_
      refine wa_iconst (v := 2) dX12_holds_77 rfl ?_
      refine wa_bipush (v := 8) dX12_holds_78 rfl ?_
      obtain ⟨Q7, hM9, hF⟩ := hF
      refine wa_callV [.int 1, .int 2, .int 8] dX12_holds_80 (mmX12_exchanges _ _) mlX12_299 mnX12_exchanges mseX12_exchanges rfl rfl rfl rfl (a_dlt d) rfl rfl hM9 ?_
      rintro r9 M7 P9 ⟨rfl, rfl, hq9⟩
      replace hF := hF M7 hq9
      simp only [Option.toList, List.nil_append]
      refine wa_iconst (v := 0) dX12_holds_83 rfl ?_
      refine wa_istore (lv' := [(6, .int 0), (0, .ref 118), (1, .int x1), (2, .int x2), (3, .int x3), (4, .int x4), (5, .int x5)]) dX12_holds_84 rfl rfl ?_
      exact wa_pick [1, 2, 3, 4, 5, 6, 0] rfl hF

theorem bX12_holds_86 {X : a_X} {ad : Nat → Nat} {ca : Nat → ClassId} {d : Nat} {kc ks : Nat} {QF : List Frame → Array Value → State → State → Prop} {x : Nat} {M : a_M} (x1 : Int32) (x2 : Int32) (x3 : Int32) (x4 : Int32) (x5 : Int32) (x6 : Int32)  (hF : ((8 ≤ x6 → (∃ Q1 : a_M → Prop, Mt X ad ca LY d yX12_rowIs cX12_rowIs 4 none [.ref 118, .int x5, .int 8] M (PT x) (q_v (PT x) Q1) ∧ ∀ M1, Q1 M1 → (∃ Q2 : a_M → Prop, Mt X ad ca LY d yX12_exchanges cX12_exchanges 6 none [.ref 118, .int 1, .int 2, .int 8] M1 (PT x) (q_v (PT x) Q2) ∧ ∀ M2, Q2 M2 → (∃ Q3 : a_M → Prop, Mt X ad ca LY d yX12_laysWeights cX12_laysWeights 2 none [.ref 118, .int x1] M2 (PT x) (q_v (PT x) Q3) ∧ ∀ M3, Q3 M3 → (∃ Q4 : a_M → Prop, Mt X ad ca LY d yX12_exchanges cX12_exchanges 6 none [.ref 118, .int 0, .int 2, .int 8] M3 (PT x) (q_v (PT x) Q4) ∧ ∀ M4, Q4 M4 → (∃ Q5 : a_M → Prop, Mt X ad ca LY d yX12_laysWeights cX12_laysWeights 2 none [.ref 118, .int x3] M4 (PT x) (q_v (PT x) Q5) ∧ ∀ M5, Q5 M5 → (∃ Q6 : a_M → Prop, Mt X ad ca LY d yX12_exchanges cX12_exchanges 6 none [.ref 118, .int 0, .int 1, .int 8] M5 (PT x) (q_v (PT x) Q6) ∧ ∀ M6, Q6 M6 → WA X ad ca LY RX12 cX12_holds 7 (some FieldType.boolean) (d + 1) kc ks QF 158 [(0, .ref 118), (1, .int x1), (2, .int x2), (3, .int x3), (4, .int x4), (5, .int x5), (6, .int 0)] [] M6 (PT x)))))))) ∧ (¬ 8 ≤ x6 → (vp_in x6 256 ∧ (vp_in x6 256 ∧ WA X ad ca LY RX12 cX12_holds 7 (some FieldType.boolean) (d + 1) kc ks QF 86 [(0, .ref 118), (1, .int x1), (2, .int x2), (3, .int x3), (4, .int x4), (5, .int x5), (6, .int (x6 + 1))] [] (ms M 139 x6.toNatClampNeg (M 137 x6.toNatClampNeg)) (PT x)))))) : WA X ad ca LY RX12 cX12_holds 7 (some FieldType.boolean) (d + 1) kc ks QF 86 [(0, .ref 118), (1, .int x1), (2, .int x2), (3, .int x3), (4, .int x4), (5, .int x5), (6, .int x6)] [] M (PT x) := by
  refine wa_iload dX12_holds_86 6 rfl ?_
  refine wa_bipush (v := 8) dX12_holds_88 rfl ?_
  refine wa_icmp_ge (tgt := 113) dX12_holds_90 rfl (fun hc => ?_) (fun hc => ?_)
  · replace hF := hF.1 hc
    refine wa_aload_n dX12_holds_113 0 rfl rfl ?_
    refine wa_iload dX12_holds_114 5 rfl ?_
    refine wa_bipush (v := 8) dX12_holds_116 rfl ?_
    obtain ⟨Q1, hM9, hF⟩ := hF
    refine wa_callV [.int x5, .int 8] dX12_holds_118 (mmX12_rowIs _ _) mlX12_293 mnX12_rowIs mseX12_rowIs rfl rfl rfl rfl (a_dlt d) rfl rfl hM9 ?_
    rintro r9 M1 P9 ⟨rfl, rfl, hq9⟩
    replace hF := hF M1 hq9
    simp only [Option.toList, List.nil_append]
    refine wa_aload_n dX12_holds_121 0 rfl rfl ?_
    refine wa_iconst (v := 1) dX12_holds_122 rfl ?_
    refine wa_iconst (v := 2) dX12_holds_123 rfl ?_
    refine wa_bipush (v := 8) dX12_holds_124 rfl ?_
    obtain ⟨Q2, hM9, hF⟩ := hF
    refine wa_callV [.int 1, .int 2, .int 8] dX12_holds_126 (mmX12_exchanges _ _) mlX12_299 mnX12_exchanges mseX12_exchanges rfl rfl rfl rfl (a_dlt d) rfl rfl hM9 ?_
    rintro r9 M2 P9 ⟨rfl, rfl, hq9⟩
    replace hF := hF M2 hq9
    simp only [Option.toList, List.nil_append]
    refine wa_aload_n dX12_holds_129 0 rfl rfl ?_
    refine wa_iload_n dX12_holds_130 1 rfl rfl ?_
    obtain ⟨Q3, hM9, hF⟩ := hF
    refine wa_callV [.int x1] dX12_holds_131 (mmX12_laysWeights _ _) mlX12_296 mnX12_laysWeights mseX12_laysWeights rfl rfl rfl rfl (a_dlt d) rfl rfl hM9 ?_
    rintro r9 M3 P9 ⟨rfl, rfl, hq9⟩
    replace hF := hF M3 hq9
    simp only [Option.toList, List.nil_append]
    refine wa_aload_n dX12_holds_134 0 rfl rfl ?_
    refine wa_iconst (v := 0) dX12_holds_135 rfl ?_
    refine wa_iconst (v := 2) dX12_holds_136 rfl ?_
    refine wa_bipush (v := 8) dX12_holds_137 rfl ?_
    obtain ⟨Q4, hM9, hF⟩ := hF
    refine wa_callV [.int 0, .int 2, .int 8] dX12_holds_139 (mmX12_exchanges _ _) mlX12_299 mnX12_exchanges mseX12_exchanges rfl rfl rfl rfl (a_dlt d) rfl rfl hM9 ?_
    rintro r9 M4 P9 ⟨rfl, rfl, hq9⟩
    replace hF := hF M4 hq9
    simp only [Option.toList, List.nil_append]
    refine wa_aload_n dX12_holds_142 0 rfl rfl ?_
    refine wa_iload_n dX12_holds_143 3 rfl rfl ?_
    obtain ⟨Q5, hM9, hF⟩ := hF
    refine wa_callV [.int x3] dX12_holds_144 (mmX12_laysWeights _ _) mlX12_296 mnX12_laysWeights mseX12_laysWeights rfl rfl rfl rfl (a_dlt d) rfl rfl hM9 ?_
    rintro r9 M5 P9 ⟨rfl, rfl, hq9⟩
    replace hF := hF M5 hq9
    simp only [Option.toList, List.nil_append]
    refine wa_aload_n dX12_holds_147 0 rfl rfl ?_
    refine wa_iconst (v := 0) dX12_holds_148 rfl ?_
    refine wa_iconst (v := 1) dX12_holds_149 rfl ?_
    refine wa_bipush (v := 8) dX12_holds_150 rfl ?_
    obtain ⟨Q6, hM9, hF⟩ := hF
    refine wa_callV [.int 0, .int 1, .int 8] dX12_holds_152 (mmX12_exchanges _ _) mlX12_299 mnX12_exchanges mseX12_exchanges rfl rfl rfl rfl (a_dlt d) rfl rfl hM9 ?_
    rintro r9 M6 P9 ⟨rfl, rfl, hq9⟩
    replace hF := hF M6 hq9
    simp only [Option.toList, List.nil_append]
    refine wa_iconst (v := 0) dX12_holds_155 rfl ?_
    refine wa_istore (lv' := [(6, .int 0), (0, .ref 118), (1, .int x1), (2, .int x2), (3, .int x3), (4, .int x4), (5, .int x5)]) dX12_holds_156 rfl rfl ?_
    exact wa_pick [1, 2, 3, 4, 5, 6, 0] rfl hF
  · replace hF := hF.2 hc
    refine wa_aload_n dX12_holds_93 0 rfl rfl ?_
    refine wa_getr (r := 139) dX12_holds_94 fkX12_78 rfl rfl rfl ?_
    refine wa_iload dX12_holds_97 6 rfl ?_
    refine wa_aload_n dX12_holds_99 0 rfl rfl ?_
    refine wa_getr (r := 137) dX12_holds_100 fkX12_72 rfl rfl rfl ?_
    refine wa_iload dX12_holds_103 6 rfl ?_
    obtain ⟨hi9, hF⟩ := hF
    refine wb_iald (j := x6.toNatClampNeg) (v := M 137 x6.toNatClampNeg) dX12_holds_105 rfl hi9 rfl rfl ?_
    obtain ⟨hi9, hF⟩ := hF
    refine wb_iast (j := x6.toNatClampNeg) dX12_holds_106 rfl hi9 rfl ?_
    refine wa_iinc (v := x6 + 1) (lv' := [(6, .int (x6 + 1)), (0, .ref 118), (1, .int x1), (2, .int x2), (3, .int x3), (4, .int x4), (5, .int x5)]) dX12_holds_107 6 rfl rfl rfl rfl ?_
    refine wa_goto (tgt := 86) dX12_holds_110 rfl ?_
    exact wa_pick [1, 2, 3, 4, 5, 6, 0] rfl hF

theorem bX12_holds_158 {X : a_X} {ad : Nat → Nat} {ca : Nat → ClassId} {d : Nat} {kc ks : Nat} {QF : List Frame → Array Value → State → State → Prop} {x : Nat} {M : a_M} (x1 : Int32) (x2 : Int32) (x3 : Int32) (x4 : Int32) (x5 : Int32) (x6 : Int32)  (hF : ((8 ≤ x6 → WA X ad ca LY RX12 cX12_holds 7 (some FieldType.boolean) (d + 1) kc ks QF 24 [(0, .ref 118), (1, .int x1), (2, .int x2), (3, .int x3), (4, .int x4), (5, .int (x5 + 1))] [] M (PT x)) ∧ (¬ 8 ≤ x6 → ((x4 = 0 → WA X ad ca LY RX12 cX12_holds 7 (some FieldType.boolean) (d + 1) kc ks QF 191 [(0, .ref 118), (1, .int x1), (2, .int x2), (3, .int x3), (5, .int x5), (6, .int x6)] [] M (PT x)) ∧ (¬ x4 = 0 → (vp_in x6 256 ∧ (vp_in x6 256 ∧ ((¬ (M 137 x6.toNatClampNeg) = (M 139 x6.toNatClampNeg) → WA X ad ca LY RX12 cX12_holds 7 (some FieldType.boolean) (d + 1) kc ks QF 191 [(0, .ref 118), (1, .int x1), (2, .int x2), (3, .int x3), (5, .int x5), (6, .int x6)] [] M (PT x)) ∧ ((M 137 x6.toNatClampNeg) = (M 139 x6.toNatClampNeg) → WA X ad ca LY RX12 cX12_holds 7 (some FieldType.boolean) (d + 1) kc ks QF 158 [(0, .ref 118), (1, .int x1), (2, .int x2), (3, .int x3), (4, .int 1), (5, .int x5), (6, .int (x6 + 1))] [] M (PT x)))))))))) : WA X ad ca LY RX12 cX12_holds 7 (some FieldType.boolean) (d + 1) kc ks QF 158 [(0, .ref 118), (1, .int x1), (2, .int x2), (3, .int x3), (4, .int x4), (5, .int x5), (6, .int x6)] [] M (PT x) := by
  refine wa_iload dX12_holds_158 6 rfl ?_
  refine wa_bipush (v := 8) dX12_holds_160 rfl ?_
  refine wa_icmp_ge (tgt := 200) dX12_holds_162 rfl (fun hc => ?_) (fun hc => ?_)
  · replace hF := hF.1 hc
    refine wa_iinc (v := x5 + 1) (lv' := [(5, .int (x5 + 1)), (0, .ref 118), (1, .int x1), (2, .int x2), (3, .int x3), (4, .int x4), (6, .int x6)]) dX12_holds_200 5 rfl rfl rfl rfl ?_
    refine wa_goto (tgt := 24) dX12_holds_203 rfl ?_
    exact wa_pick [1, 2, 3, 4, 5, 0] rfl hF
  · replace hF := hF.2 hc
    refine wa_iload dX12_holds_165 4 rfl ?_
    refine wa_if_eq (tgt := 191) dX12_holds_167 rfl (fun hc => ?_) (fun hc => ?_)
    · replace hF := hF.1 hc
      exact wa_pick [0, 1, 2, 3, 5, 6] rfl hF
    · replace hF := hF.2 hc
      refine wa_aload_n dX12_holds_170 0 rfl rfl ?_
      refine wa_getr (r := 137) dX12_holds_171 fkX12_72 rfl rfl rfl ?_
      refine wa_iload dX12_holds_174 6 rfl ?_
      obtain ⟨hi9, hF⟩ := hF
      refine wb_iald (j := x6.toNatClampNeg) (v := M 137 x6.toNatClampNeg) dX12_holds_176 rfl hi9 rfl rfl ?_
      refine wa_aload_n dX12_holds_177 0 rfl rfl ?_
      refine wa_getr (r := 139) dX12_holds_178 fkX12_78 rfl rfl rfl ?_
      refine wa_iload dX12_holds_181 6 rfl ?_
      obtain ⟨hi9, hF⟩ := hF
      refine wb_iald (j := x6.toNatClampNeg) (v := M 139 x6.toNatClampNeg) dX12_holds_183 rfl hi9 rfl rfl ?_
      refine wa_icmp_ne (tgt := 191) dX12_holds_184 rfl (fun hc => ?_) (fun hc => ?_)
      · replace hF := hF.1 hc
        exact wa_pick [0, 1, 2, 3, 5, 6] rfl hF
      · replace hF := hF.2 hc
        refine wa_iconst (v := 1) dX12_holds_187 rfl ?_
        refine wa_goto (tgt := 192) dX12_holds_188 rfl ?_
        refine wa_istore (lv' := [(4, .int 1), (0, .ref 118), (1, .int x1), (2, .int x2), (3, .int x3), (5, .int x5), (6, .int x6)]) dX12_holds_192 rfl rfl ?_
        refine wa_iinc (v := x6 + 1) (lv' := [(6, .int (x6 + 1)), (4, .int 1), (0, .ref 118), (1, .int x1), (2, .int x2), (3, .int x3), (5, .int x5)]) dX12_holds_194 6 rfl rfl rfl rfl ?_
        refine wa_goto (tgt := 158) dX12_holds_197 rfl ?_
        exact wa_pick [2, 3, 4, 5, 1, 6, 0] rfl hF

theorem bX12_holds_191 {X : a_X} {ad : Nat → Nat} {ca : Nat → ClassId} {d : Nat} {kc ks : Nat} {QF : List Frame → Array Value → State → State → Prop} {x : Nat} {M : a_M} (x1 : Int32) (x2 : Int32) (x3 : Int32) (x5 : Int32) (x6 : Int32)  (hF : WA X ad ca LY RX12 cX12_holds 7 (some FieldType.boolean) (d + 1) kc ks QF 158 [(0, .ref 118), (1, .int x1), (2, .int x2), (3, .int x3), (4, .int 0), (5, .int x5), (6, .int (x6 + 1))] [] M (PT x)) : WA X ad ca LY RX12 cX12_holds 7 (some FieldType.boolean) (d + 1) kc ks QF 191 [(0, .ref 118), (1, .int x1), (2, .int x2), (3, .int x3), (5, .int x5), (6, .int x6)] [] M (PT x) := by
  refine wa_iconst (v := 0) dX12_holds_191 rfl ?_
  refine wa_istore (lv' := [(4, .int 0), (0, .ref 118), (1, .int x1), (2, .int x2), (3, .int x3), (5, .int x5), (6, .int x6)]) dX12_holds_192 rfl rfl ?_
  refine wa_iinc (v := x6 + 1) (lv' := [(6, .int (x6 + 1)), (4, .int 0), (0, .ref 118), (1, .int x1), (2, .int x2), (3, .int x3), (5, .int x5)]) dX12_holds_194 6 rfl rfl rfl rfl ?_
  refine wa_goto (tgt := 158) dX12_holds_197 rfl ?_
  exact wa_pick [2, 3, 4, 5, 1, 6, 0] rfl hF

theorem bX12_holds_206 {X : a_X} {ad : Nat → Nat} {ca : Nat → ClassId} {d : Nat} {Post : Option Value → a_M → a_P → Prop} {x : Nat} {M : a_M} (x4 : Int32)  (hF : ((x4 = 0 ∨ x4 = 1) ∧ Post (some (.int x4)) M (PT x))) : WA X ad ca LY RX12 cX12_holds 7 (some FieldType.boolean) (d + 1) 0 0 (a_E X ad ca LY Post) 206 [(4, .int x4)] [] M (PT x) := by
  refine wa_iload dX12_holds_206 0 rfl ?_
  exact wa_iret dX12_holds_208 rfl (a_bn hF.1) hF.2

theorem eX12_holds {X : a_X} {ad : Nat → Nat} {ca : Nat → ClassId} {d : Nat} {Post : Option Value → a_M → a_P → Prop} {x : Nat} {M : a_M} (x1 : Int32) (x2 : Int32) (h : WA X ad ca LY RX12 cX12_holds 7 (some FieldType.boolean) d 0 0 (a_E X ad ca LY Post) 0 [(0, .ref 118), (1, .int x1), (2, .int x2)] [] M (PT x)) : Mt X ad ca LY d yX12_holds cX12_holds 7 (some FieldType.boolean) [.ref 118, .int x1, .int x2] M (PT x) Post := Mt.of (lv := [(0, .ref 118), (1, .int x1), (2, .int x2)]) (by decide +kernel) rfl rfl rfl (wa_pick [0, 1, 2] rfl h)

theorem bX12_equation_0 {X : a_X} {ad : Nat → Nat} {ca : Nat → ClassId} {d : Nat} {Post : Option Value → a_M → a_P → Prop} {x : Nat} {M : a_M} (x1 : Int32)  (hF : (∃ Q1 : Int32 → a_M → Prop, Mt X ad ca LY d yX12_in cX12_in 3 (some FieldType.boolean) [.int x1, .int 0, .int 2] M (PT x) (q_i (PT x) Q1) ∧ ∀ v1 M1, Q1 v1 M1 → ((¬ v1 = 0 → WA X ad ca LY RX12 cX12_equation 7 (some FieldType.int) (d + 1) 0 0 (a_E X ad ca LY Post) 18 [(0, .ref 118), (1, .int x1), (2, .int 0), (3, .int (-1)), (4, .int 0)] [] M1 (PT x)) ∧ (v1 = 0 → Post (some (.int (-1))) M1 (PT x))))) : WA X ad ca LY RX12 cX12_equation 7 (some FieldType.int) (d + 1) 0 0 (a_E X ad ca LY Post) 0 [(0, .ref 118), (1, .int x1)] [] M (PT x) := by
  refine wa_iload_n dX12_equation_0 1 rfl rfl ?_
  refine wa_iconst (v := 0) dX12_equation_1 rfl ?_
  refine wa_iconst (v := 2) dX12_equation_2 rfl ?_
  obtain ⟨Q1, hM9, hF⟩ := hF
  refine wa_callS [.int x1, .int 0, .int 2] dX12_equation_3 (mmX12_in _ _) mlX12_124 mstX12_in rfl (a_dlt d) rfl rfl hM9 ?_
  rintro r9 M1 P9 ⟨v1, rfl, rfl, hq9⟩
  replace hF := hF v1 M1 hq9
  simp only [Option.toList, List.cons_append, List.nil_append]
  refine wa_if_ne (tgt := 11) dX12_equation_6 rfl (fun hc => ?_) (fun hc => ?_)
  · replace hF := hF.1 hc
    refine wa_iconst (v := 0) dX12_equation_11 rfl ?_
    refine wa_istore_n (lv' := [(2, .int 0), (0, .ref 118), (1, .int x1)]) dX12_equation_12 rfl rfl rfl ?_
    refine wa_iconst (v := (-1)) dX12_equation_13 rfl ?_
    refine wa_istore_n (lv' := [(3, .int (-1)), (2, .int 0), (0, .ref 118), (1, .int x1)]) dX12_equation_14 rfl rfl rfl ?_
    refine wa_iconst (v := 0) dX12_equation_15 rfl ?_
    refine wa_istore (lv' := [(4, .int 0), (3, .int (-1)), (2, .int 0), (0, .ref 118), (1, .int x1)]) dX12_equation_16 rfl rfl ?_
    exact wa_pick [3, 4, 2, 1, 0] rfl hF
  · replace hF := hF.2 hc
    refine wa_iconst (v := (-1)) dX12_equation_9 rfl ?_
    exact wa_iret dX12_equation_10 rfl rfl hF

theorem bX12_equation_18 {X : a_X} {ad : Nat → Nat} {ca : Nat → ClassId} {d : Nat} {Post : Option Value → a_M → a_P → Prop} {x : Nat} {M : a_M} (x1 : Int32) (x2 : Int32) (x3 : Int32) (x4 : Int32)  (hF : (((M 119 2) ≤ x4 → ((¬ x1 = 0 → ((¬ x3 = (-1) → ((¬ x1 = 1 → Post (some (.int (x3 - x3 / 100 * 100))) M (PT x)) ∧ (x1 = 1 → Post (some (.int (x3 / 100))) M (PT x)))) ∧ (x3 = (-1) → Post (some (.int (-1))) M (PT x)))) ∧ (x1 = 0 → Post (some (.int x2)) M (PT x)))) ∧ (¬ (M 119 2) ≤ x4 → WA X ad ca LY RX12 cX12_equation 7 (some FieldType.int) (d + 1) 0 0 (a_E X ad ca LY Post) 32 [(0, .ref 118), (1, .int x1), (2, .int x2), (3, .int x3), (4, .int x4), (5, .int 0)] [] M (PT x)))) : WA X ad ca LY RX12 cX12_equation 7 (some FieldType.int) (d + 1) 0 0 (a_E X ad ca LY Post) 18 [(0, .ref 118), (1, .int x1), (2, .int x2), (3, .int x3), (4, .int x4)] [] M (PT x) := by
  refine wa_iload dX12_equation_18 4 rfl ?_
  refine wa_aload_n dX12_equation_20 0 rfl rfl ?_
  refine wa_getr (r := 119) dX12_equation_21 fkX12_7 rfl rfl rfl ?_
  refine wa_iconst (v := 2) dX12_equation_24 rfl ?_
  refine wb_iald (j := 2) (v := M 119 2) dX12_equation_25 rfl (by unfold vp_in; decide) rfl rfl ?_
  refine wa_icmp_ge (tgt := 101) dX12_equation_26 rfl (fun hc => ?_) (fun hc => ?_)
  · replace hF := hF.1 hc
    refine wa_iload_n dX12_equation_101 1 rfl rfl ?_
    refine wa_if_ne (tgt := 109) dX12_equation_102 rfl (fun hc => ?_) (fun hc => ?_)
    · replace hF := hF.1 hc
      refine wa_iload_n dX12_equation_109 3 rfl rfl ?_
      refine wa_iconst (v := (-1)) dX12_equation_110 rfl ?_
      refine wa_icmp_ne (tgt := 118) dX12_equation_111 rfl (fun hc => ?_) (fun hc => ?_)
      · replace hF := hF.1 hc
        refine wa_iload_n dX12_equation_118 1 rfl rfl ?_
        refine wa_iconst (v := 1) dX12_equation_119 rfl ?_
        refine wa_icmp_ne (tgt := 130) dX12_equation_120 rfl (fun hc => ?_) (fun hc => ?_)
        · replace hF := hF.1 hc
          refine wa_iload_n dX12_equation_130 3 rfl rfl ?_
          refine wa_bipush (v := 100) dX12_equation_131 rfl ?_
          refine wa_irem dX12_equation_133 (by decide) ?_
          exact wa_iret dX12_equation_134 rfl rfl hF
        · replace hF := hF.2 hc
          refine wa_iload_n dX12_equation_123 3 rfl rfl ?_
          refine wa_bipush (v := 100) dX12_equation_124 rfl ?_
          refine wa_idiv dX12_equation_126 (by decide) ?_
          refine wa_goto (tgt := 134) dX12_equation_127 rfl ?_
          exact wa_iret dX12_equation_134 rfl rfl hF
      · replace hF := hF.2 hc
        refine wa_iconst (v := (-1)) dX12_equation_114 rfl ?_
        refine wa_goto (tgt := 134) dX12_equation_115 rfl ?_
        exact wa_iret dX12_equation_134 rfl rfl hF
    · replace hF := hF.2 hc
      refine wa_iload_n dX12_equation_105 2 rfl rfl ?_
      refine wa_goto (tgt := 134) dX12_equation_106 rfl ?_
      exact wa_iret dX12_equation_134 rfl rfl hF
  · replace hF := hF.2 hc
    refine wa_iconst (v := 0) dX12_equation_29 rfl ?_
    refine wa_istore (lv' := [(5, .int 0), (0, .ref 118), (1, .int x1), (2, .int x2), (3, .int x3), (4, .int x4)]) dX12_equation_30 rfl rfl ?_
    exact wa_pick [1, 2, 3, 4, 5, 0] rfl hF

theorem bX12_equation_32 {X : a_X} {ad : Nat → Nat} {ca : Nat → ClassId} {d : Nat} {kc ks : Nat} {QF : List Frame → Array Value → State → State → Prop} {x : Nat} {M : a_M} (x1 : Int32) (x2 : Int32) (x3 : Int32) (x4 : Int32) (x5 : Int32)  (hF : (((M 119 2) ≤ x5 → WA X ad ca LY RX12 cX12_equation 7 (some FieldType.int) (d + 1) kc ks QF 18 [(0, .ref 118), (1, .int x1), (2, .int x2), (3, .int x3), (4, .int (x4 + 1))] [] M (PT x)) ∧ (¬ (M 119 2) ≤ x5 → (∃ Q1 : Int32 → a_M → Prop, Mt X ad ca LY d yX12_holds cX12_holds 7 (some FieldType.boolean) [.ref 118, .int x4, .int x5] M (PT x) (q_i (PT x) Q1) ∧ ∀ v1 M1, Q1 v1 M1 → ((v1 = 0 → ((¬ v1 = 0 → WA X ad ca LY RX12 cX12_equation 7 (some FieldType.int) (d + 1) kc ks QF 87 [(0, .ref 118), (1, .int x1), (2, .int (x2 + 0)), (3, .int x3), (4, .int x4), (5, .int x5)] [] M1 (PT x)) ∧ (v1 = 0 → ((¬ x3 = (-1) → WA X ad ca LY RX12 cX12_equation 7 (some FieldType.int) (d + 1) kc ks QF 87 [(0, .ref 118), (1, .int x1), (2, .int (x2 + 0)), (3, .int x3), (4, .int x4), (5, .int x5)] [] M1 (PT x)) ∧ (x3 = (-1) → WA X ad ca LY RX12 cX12_equation 7 (some FieldType.int) (d + 1) kc ks QF 32 [(0, .ref 118), (1, .int x1), (2, .int (x2 + 0)), (3, .int ((100 * x4) + x5)), (4, .int x4), (5, .int (x5 + 1))] [] M1 (PT x)))))) ∧ (¬ v1 = 0 → ((¬ v1 = 0 → WA X ad ca LY RX12 cX12_equation 7 (some FieldType.int) (d + 1) kc ks QF 87 [(0, .ref 118), (1, .int x1), (2, .int (x2 + 1)), (3, .int x3), (4, .int x4), (5, .int x5)] [] M1 (PT x)) ∧ (v1 = 0 → ((¬ x3 = (-1) → WA X ad ca LY RX12 cX12_equation 7 (some FieldType.int) (d + 1) kc ks QF 87 [(0, .ref 118), (1, .int x1), (2, .int (x2 + 1)), (3, .int x3), (4, .int x4), (5, .int x5)] [] M1 (PT x)) ∧ (x3 = (-1) → WA X ad ca LY RX12 cX12_equation 7 (some FieldType.int) (d + 1) kc ks QF 32 [(0, .ref 118), (1, .int x1), (2, .int (x2 + 1)), (3, .int ((100 * x4) + x5)), (4, .int x4), (5, .int (x5 + 1))] [] M1 (PT x))))))))))) : WA X ad ca LY RX12 cX12_equation 7 (some FieldType.int) (d + 1) kc ks QF 32 [(0, .ref 118), (1, .int x1), (2, .int x2), (3, .int x3), (4, .int x4), (5, .int x5)] [] M (PT x) := by
  refine wa_iload dX12_equation_32 5 rfl ?_
  refine wa_aload_n dX12_equation_34 0 rfl rfl ?_
  refine wa_getr (r := 119) dX12_equation_35 fkX12_7 rfl rfl rfl ?_
  refine wa_iconst (v := 2) dX12_equation_38 rfl ?_
  refine wb_iald (j := 2) (v := M 119 2) dX12_equation_39 rfl (by unfold vp_in; decide) rfl rfl ?_
  refine wa_icmp_ge (tgt := 95) dX12_equation_40 rfl (fun hc => ?_) (fun hc => ?_)
  · replace hF := hF.1 hc
    refine wa_iinc (v := x4 + 1) (lv' := [(4, .int (x4 + 1)), (0, .ref 118), (1, .int x1), (2, .int x2), (3, .int x3), (5, .int x5)]) dX12_equation_95 4 rfl rfl rfl rfl ?_
    refine wa_goto (tgt := 18) dX12_equation_98 rfl ?_
    exact wa_pick [1, 2, 3, 4, 0] rfl hF
  · replace hF := hF.2 hc
    refine wa_aload_n dX12_equation_43 0 rfl rfl ?_
    refine wa_iload dX12_equation_44 4 rfl ?_
    refine wa_iload dX12_equation_46 5 rfl ?_
    obtain ⟨Q1, hM9, hF⟩ := hF
    refine wa_callV [.int x4, .int x5] dX12_equation_48 (mmX12_holds _ _) mlX12_303 mnX12_holds mseX12_holds rfl rfl rfl rfl (a_dlt d) rfl rfl hM9 ?_
    rintro r9 M1 P9 ⟨v1, rfl, rfl, hq9⟩
    replace hF := hF v1 M1 hq9
    simp only [Option.toList, List.cons_append, List.nil_append]
    refine wa_istore (lv' := [(6, .int v1), (0, .ref 118), (1, .int x1), (2, .int x2), (3, .int x3), (4, .int x4), (5, .int x5)]) dX12_equation_51 rfl rfl ?_
    refine wa_iload_n dX12_equation_53 3 rfl rfl ?_
    refine wa_iload dX12_equation_54 0 rfl ?_
    refine wa_if_eq (tgt := 63) dX12_equation_56 rfl (fun hc => ?_) (fun hc => ?_)
    · replace hF := hF.1 hc
      refine wa_iconst (v := 0) dX12_equation_63 rfl ?_
      refine wa_iadd dX12_equation_64 ?_
      refine wa_istore_n (lv' := [(2, .int (x2 + 0)), (6, .int v1), (0, .ref 118), (1, .int x1), (3, .int x3), (4, .int x4), (5, .int x5)]) dX12_equation_65 rfl rfl rfl ?_
      refine wa_iload dX12_equation_66 1 rfl ?_
      refine wa_if_ne (tgt := 87) dX12_equation_68 rfl (fun hc => ?_) (fun hc => ?_)
      · replace hF := hF.1 hc
        exact wa_pick [2, 3, 0, 4, 5, 6] rfl hF
      · replace hF := hF.2 hc
        refine wa_iload_n dX12_equation_71 4 rfl rfl ?_
        refine wa_iconst (v := (-1)) dX12_equation_72 rfl ?_
        refine wa_icmp_ne (tgt := 87) dX12_equation_73 rfl (fun hc => ?_) (fun hc => ?_)
        · replace hF := hF.1 hc
          exact wa_pick [2, 3, 0, 4, 5, 6] rfl hF
        · replace hF := hF.2 hc
          refine wa_bipush (v := 100) dX12_equation_76 rfl ?_
          refine wa_iload dX12_equation_78 5 rfl ?_
          refine wa_imul dX12_equation_80 ?_
          refine wa_iload dX12_equation_81 6 rfl ?_
          refine wa_iadd dX12_equation_83 ?_
          refine wa_goto (tgt := 88) dX12_equation_84 rfl ?_
          refine wa_istore_n (lv' := [(3, .int ((100 * x4) + x5)), (2, .int (x2 + 0)), (6, .int v1), (0, .ref 118), (1, .int x1), (4, .int x4), (5, .int x5)]) dX12_equation_88 rfl rfl rfl ?_
          refine wa_iinc (v := x5 + 1) (lv' := [(5, .int (x5 + 1)), (3, .int ((100 * x4) + x5)), (2, .int (x2 + 0)), (6, .int v1), (0, .ref 118), (1, .int x1), (4, .int x4)]) dX12_equation_89 6 rfl rfl rfl rfl ?_
          refine wa_goto (tgt := 32) dX12_equation_92 rfl ?_
          exact wa_pick [4, 5, 2, 1, 6, 0] rfl hF
    · replace hF := hF.2 hc
      refine wa_iconst (v := 1) dX12_equation_59 rfl ?_
      refine wa_goto (tgt := 64) dX12_equation_60 rfl ?_
      refine wa_iadd dX12_equation_64 ?_
      refine wa_istore_n (lv' := [(2, .int (x2 + 1)), (6, .int v1), (0, .ref 118), (1, .int x1), (3, .int x3), (4, .int x4), (5, .int x5)]) dX12_equation_65 rfl rfl rfl ?_
      refine wa_iload dX12_equation_66 1 rfl ?_
      refine wa_if_ne (tgt := 87) dX12_equation_68 rfl (fun hc => ?_) (fun hc => ?_)
      · replace hF := hF.1 hc
        exact wa_pick [2, 3, 0, 4, 5, 6] rfl hF
      · replace hF := hF.2 hc
        refine wa_iload_n dX12_equation_71 4 rfl rfl ?_
        refine wa_iconst (v := (-1)) dX12_equation_72 rfl ?_
        refine wa_icmp_ne (tgt := 87) dX12_equation_73 rfl (fun hc => ?_) (fun hc => ?_)
        · replace hF := hF.1 hc
          exact wa_pick [2, 3, 0, 4, 5, 6] rfl hF
        · replace hF := hF.2 hc
          refine wa_bipush (v := 100) dX12_equation_76 rfl ?_
          refine wa_iload dX12_equation_78 5 rfl ?_
          refine wa_imul dX12_equation_80 ?_
          refine wa_iload dX12_equation_81 6 rfl ?_
          refine wa_iadd dX12_equation_83 ?_
          refine wa_goto (tgt := 88) dX12_equation_84 rfl ?_
          refine wa_istore_n (lv' := [(3, .int ((100 * x4) + x5)), (2, .int (x2 + 1)), (6, .int v1), (0, .ref 118), (1, .int x1), (4, .int x4), (5, .int x5)]) dX12_equation_88 rfl rfl rfl ?_
          refine wa_iinc (v := x5 + 1) (lv' := [(5, .int (x5 + 1)), (3, .int ((100 * x4) + x5)), (2, .int (x2 + 1)), (6, .int v1), (0, .ref 118), (1, .int x1), (4, .int x4)]) dX12_equation_89 6 rfl rfl rfl rfl ?_
          refine wa_goto (tgt := 32) dX12_equation_92 rfl ?_
          exact wa_pick [4, 5, 2, 1, 6, 0] rfl hF

theorem bX12_equation_87 {X : a_X} {ad : Nat → Nat} {ca : Nat → ClassId} {d : Nat} {kc ks : Nat} {QF : List Frame → Array Value → State → State → Prop} {x : Nat} {M : a_M} (x1 : Int32) (x2 : Int32) (x3 : Int32) (x4 : Int32) (x5 : Int32)  (hF : WA X ad ca LY RX12 cX12_equation 7 (some FieldType.int) (d + 1) kc ks QF 32 [(0, .ref 118), (1, .int x1), (2, .int x2), (3, .int x3), (4, .int x4), (5, .int (x5 + 1))] [] M (PT x)) : WA X ad ca LY RX12 cX12_equation 7 (some FieldType.int) (d + 1) kc ks QF 87 [(0, .ref 118), (1, .int x1), (2, .int x2), (3, .int x3), (4, .int x4), (5, .int x5)] [] M (PT x) := by
  refine wa_iload_n dX12_equation_87 3 rfl rfl ?_
  refine wa_istore_n (lv' := [(3, .int x3), (0, .ref 118), (1, .int x1), (2, .int x2), (4, .int x4), (5, .int x5)]) dX12_equation_88 rfl rfl rfl ?_
  refine wa_iinc (v := x5 + 1) (lv' := [(5, .int (x5 + 1)), (3, .int x3), (0, .ref 118), (1, .int x1), (2, .int x2), (4, .int x4)]) dX12_equation_89 5 rfl rfl rfl rfl ?_
  refine wa_goto (tgt := 32) dX12_equation_92 rfl ?_
  exact wa_pick [2, 3, 4, 1, 5, 0] rfl hF

theorem eX12_equation {X : a_X} {ad : Nat → Nat} {ca : Nat → ClassId} {d : Nat} {Post : Option Value → a_M → a_P → Prop} {x : Nat} {M : a_M} (x1 : Int32) (h : WA X ad ca LY RX12 cX12_equation 7 (some FieldType.int) d 0 0 (a_E X ad ca LY Post) 0 [(0, .ref 118), (1, .int x1)] [] M (PT x)) : Mt X ad ca LY d yX12_equation cX12_equation 7 (some FieldType.int) [.ref 118, .int x1] M (PT x) Post := Mt.of (lv := [(0, .ref 118), (1, .int x1)]) (by decide +kernel) rfl rfl rfl (wa_pick [0, 1] rfl h)

theorem bX12_count_0 {X : a_X} {ad : Nat → Nat} {ca : Nat → ClassId} {d : Nat} {kc ks : Nat} {QF : List Frame → Array Value → State → State → Prop} {x : Nat} {M : a_M} (x0 : Int32)  (hF : WA X ad ca LY RX12 cX12_count 3 (some FieldType.int) (d + 1) kc ks QF 4 [(0, .int x0), (1, .int 0), (2, .int 0)] [] M (PT x)) : WA X ad ca LY RX12 cX12_count 3 (some FieldType.int) (d + 1) kc ks QF 0 [(0, .int x0)] [] M (PT x) := by
  refine wa_iconst (v := 0) dX12_count_0 rfl ?_
  refine wa_istore_n (lv' := [(1, .int 0), (0, .int x0)]) dX12_count_1 rfl rfl rfl ?_
  refine wa_iconst (v := 0) dX12_count_2 rfl ?_
  refine wa_istore_n (lv' := [(2, .int 0), (1, .int 0), (0, .int x0)]) dX12_count_3 rfl rfl rfl ?_
  exact wa_pick [2, 1, 0] rfl hF

theorem bX12_count_4 {X : a_X} {ad : Nat → Nat} {ca : Nat → ClassId} {d : Nat} {Post : Option Value → a_M → a_P → Prop} {x : Nat} {M : a_M} (x0 : Int32) (x1 : Int32) (x2 : Int32)  (hF : ((7 ≤ x2 → Post (some (.int x1)) M (PT x)) ∧ (¬ 7 ≤ x2 → WA X ad ca LY RX12 cX12_count 3 (some FieldType.int) (d + 1) 0 0 (a_E X ad ca LY Post) 4 [(0, .int x0), (1, .int (x1 + ((x0 >>> (x2 &&& 31)) &&& 1))), (2, .int (x2 + 1))] [] M (PT x)))) : WA X ad ca LY RX12 cX12_count 3 (some FieldType.int) (d + 1) 0 0 (a_E X ad ca LY Post) 4 [(0, .int x0), (1, .int x1), (2, .int x2)] [] M (PT x) := by
  refine wa_iload_n dX12_count_4 2 rfl rfl ?_
  refine wa_bipush (v := 7) dX12_count_5 rfl ?_
  refine wa_icmp_ge (tgt := 24) dX12_count_7 rfl (fun hc => ?_) (fun hc => ?_)
  · replace hF := hF.1 hc
    refine wa_iload_n dX12_count_24 1 rfl rfl ?_
    exact wa_iret dX12_count_25 rfl rfl hF
  · replace hF := hF.2 hc
    refine wa_iload_n dX12_count_10 1 rfl rfl ?_
    refine wa_iload_n dX12_count_11 0 rfl rfl ?_
    refine wa_iload_n dX12_count_12 2 rfl rfl ?_
    refine wa_ishr dX12_count_13 ?_
    refine wa_iconst (v := 1) dX12_count_14 rfl ?_
    refine wa_iand dX12_count_15 ?_
    refine wa_iadd dX12_count_16 ?_
    refine wa_istore_n (lv' := [(1, .int (x1 + ((x0 >>> (x2 &&& 31)) &&& 1))), (0, .int x0), (2, .int x2)]) dX12_count_17 rfl rfl rfl ?_
    refine wa_iinc (v := x2 + 1) (lv' := [(2, .int (x2 + 1)), (1, .int (x1 + ((x0 >>> (x2 &&& 31)) &&& 1))), (0, .int x0)]) dX12_count_18 2 rfl rfl rfl rfl ?_
    refine wa_goto (tgt := 4) dX12_count_21 rfl ?_
    exact wa_pick [2, 1, 0] rfl hF

theorem eX12_count {X : a_X} {ad : Nat → Nat} {ca : Nat → ClassId} {d : Nat} {Post : Option Value → a_M → a_P → Prop} {x : Nat} {M : a_M} (x0 : Int32) (h : WA X ad ca LY RX12 cX12_count 3 (some FieldType.int) d 0 0 (a_E X ad ca LY Post) 0 [(0, .int x0)] [] M (PT x)) : Mt X ad ca LY d yX12_count cX12_count 3 (some FieldType.int) [.int x0] M (PT x) Post := Mt.of (lv := [(0, .int x0)]) (by decide +kernel) rfl rfl rfl (wa_pick [0] rfl h)

theorem bX12_actedIs_0 {X : a_X} {ad : Nat → Nat} {ca : Nat → ClassId} {d : Nat} {kc ks : Nat} {QF : List Frame → Array Value → State → State → Prop} {x : Nat} {M : a_M} (x1 : Int32)  (hF : WA X ad ca LY RX12 cX12_actedIs 3 none (d + 1) kc ks QF 2 [(0, .ref 118), (1, .int x1), (2, .int 0)] [] M (PT x)) : WA X ad ca LY RX12 cX12_actedIs 3 none (d + 1) kc ks QF 0 [(0, .ref 118), (1, .int x1)] [] M (PT x) := by
  refine wa_iconst (v := 0) dX12_actedIs_0 rfl ?_
  refine wa_istore_n (lv' := [(2, .int 0), (0, .ref 118), (1, .int x1)]) dX12_actedIs_1 rfl rfl rfl ?_
  exact wa_pick [1, 2, 0] rfl hF

theorem bX12_actedIs_2 {X : a_X} {ad : Nat → Nat} {ca : Nat → ClassId} {d : Nat} {Post : Option Value → a_M → a_P → Prop} {x : Nat} {M : a_M} (x1 : Int32) (x2 : Int32)  (hF : ((128 ≤ x2 → Post none M (PT x)) ∧ (¬ 128 ≤ x2 → ((¬ x2 = x1 → (vp_in x2 128 ∧ WA X ad ca LY RX12 cX12_actedIs 3 none (d + 1) 0 0 (a_E X ad ca LY Post) 2 [(0, .ref 118), (1, .int x1), (2, .int (x2 + 1))] [] (ms M 140 x2.toNatClampNeg 0) (PT x))) ∧ (x2 = x1 → (vp_in x2 128 ∧ WA X ad ca LY RX12 cX12_actedIs 3 none (d + 1) 0 0 (a_E X ad ca LY Post) 2 [(0, .ref 118), (1, .int x1), (2, .int (x2 + 1))] [] (ms M 140 x2.toNatClampNeg 1) (PT x))))))) : WA X ad ca LY RX12 cX12_actedIs 3 none (d + 1) 0 0 (a_E X ad ca LY Post) 2 [(0, .ref 118), (1, .int x1), (2, .int x2)] [] M (PT x) := by
  refine wa_iload_n dX12_actedIs_2 2 rfl rfl ?_
  refine wa_sipush (v := 128) dX12_actedIs_3 rfl ?_
  refine wa_icmp_ge (tgt := 31) dX12_actedIs_6 rfl (fun hc => ?_) (fun hc => ?_)
  · replace hF := hF.1 hc
    exact wa_vret dX12_actedIs_31 rfl hF
  · replace hF := hF.2 hc
    refine wa_aload_n dX12_actedIs_9 0 rfl rfl ?_
    refine wa_getr (r := 140) dX12_actedIs_10 fkX12_81 rfl rfl rfl ?_
    refine wa_iload_n dX12_actedIs_13 2 rfl rfl ?_
    refine wa_iload_n dX12_actedIs_14 2 rfl rfl ?_
    refine wa_iload_n dX12_actedIs_15 1 rfl rfl ?_
    refine wa_icmp_ne (tgt := 23) dX12_actedIs_16 rfl (fun hc => ?_) (fun hc => ?_)
    · replace hF := hF.1 hc
      refine wa_iconst (v := 0) dX12_actedIs_23 rfl ?_
      obtain ⟨hi9, hF⟩ := hF
      refine wb_iast (j := x2.toNatClampNeg) dX12_actedIs_24 rfl hi9 rfl ?_
      refine wa_iinc (v := x2 + 1) (lv' := [(2, .int (x2 + 1)), (0, .ref 118), (1, .int x1)]) dX12_actedIs_25 2 rfl rfl rfl rfl ?_
      refine wa_goto (tgt := 2) dX12_actedIs_28 rfl ?_
      exact wa_pick [1, 2, 0] rfl hF
    · replace hF := hF.2 hc
      refine wa_iconst (v := 1) dX12_actedIs_19 rfl ?_
      refine wa_goto (tgt := 24) dX12_actedIs_20 rfl ?_
      obtain ⟨hi9, hF⟩ := hF
      refine wb_iast (j := x2.toNatClampNeg) dX12_actedIs_24 rfl hi9 rfl ?_
      refine wa_iinc (v := x2 + 1) (lv' := [(2, .int (x2 + 1)), (0, .ref 118), (1, .int x1)]) dX12_actedIs_25 2 rfl rfl rfl rfl ?_
      refine wa_goto (tgt := 2) dX12_actedIs_28 rfl ?_
      exact wa_pick [1, 2, 0] rfl hF

theorem eX12_actedIs {X : a_X} {ad : Nat → Nat} {ca : Nat → ClassId} {d : Nat} {Post : Option Value → a_M → a_P → Prop} {x : Nat} {M : a_M} (x1 : Int32) (h : WA X ad ca LY RX12 cX12_actedIs 3 none d 0 0 (a_E X ad ca LY Post) 0 [(0, .ref 118), (1, .int x1)] [] M (PT x)) : Mt X ad ca LY d yX12_actedIs cX12_actedIs 3 none [.ref 118, .int x1] M (PT x) Post := Mt.of (lv := [(0, .ref 118), (1, .int x1)]) (by decide +kernel) rfl rfl rfl (wa_pick [0, 1] rfl h)

theorem bX12_takesNext_0 {X : a_X} {ad : Nat → Nat} {ca : Nat → ClassId} {d : Nat} {kc ks : Nat} {QF : List Frame → Array Value → State → State → Prop} {x : Nat} {M : a_M}   (hF : WA X ad ca LY RX12 cX12_takesNext 2 none (d + 1) kc ks QF 2 [(0, .ref 118), (1, .int 0)] [] M (PT x)) : WA X ad ca LY RX12 cX12_takesNext 2 none (d + 1) kc ks QF 0 [(0, .ref 118)] [] M (PT x) := by
  refine wa_iconst (v := 0) dX12_takesNext_0 rfl ?_
  refine wa_istore_n (lv' := [(1, .int 0), (0, .ref 118)]) dX12_takesNext_1 rfl rfl rfl ?_
  exact wa_pick [1, 0] rfl hF

theorem bX12_takesNext_2 {X : a_X} {ad : Nat → Nat} {ca : Nat → ClassId} {d : Nat} {Post : Option Value → a_M → a_P → Prop} {x : Nat} {M : a_M} (x1 : Int32)  (hF : ((128 ≤ x1 → Post none M (PT x)) ∧ (¬ 128 ≤ x1 → (vp_in x1 128 ∧ (vp_in x1 128 ∧ WA X ad ca LY RX12 cX12_takesNext 2 none (d + 1) 0 0 (a_E X ad ca LY Post) 2 [(0, .ref 118), (1, .int (x1 + 1))] [] (ms M 140 x1.toNatClampNeg (M 141 x1.toNatClampNeg)) (PT x)))))) : WA X ad ca LY RX12 cX12_takesNext 2 none (d + 1) 0 0 (a_E X ad ca LY Post) 2 [(0, .ref 118), (1, .int x1)] [] M (PT x) := by
  refine wa_iload_n dX12_takesNext_2 1 rfl rfl ?_
  refine wa_sipush (v := 128) dX12_takesNext_3 rfl ?_
  refine wa_icmp_ge (tgt := 27) dX12_takesNext_6 rfl (fun hc => ?_) (fun hc => ?_)
  · replace hF := hF.1 hc
    exact wa_vret dX12_takesNext_27 rfl hF
  · replace hF := hF.2 hc
    refine wa_aload_n dX12_takesNext_9 0 rfl rfl ?_
    refine wa_getr (r := 140) dX12_takesNext_10 fkX12_81 rfl rfl rfl ?_
    refine wa_iload_n dX12_takesNext_13 1 rfl rfl ?_
    refine wa_aload_n dX12_takesNext_14 0 rfl rfl ?_
    refine wa_getr (r := 141) dX12_takesNext_15 fkX12_84 rfl rfl rfl ?_
    refine wa_iload_n dX12_takesNext_18 1 rfl rfl ?_
    obtain ⟨hi9, hF⟩ := hF
    refine wb_iald (j := x1.toNatClampNeg) (v := M 141 x1.toNatClampNeg) dX12_takesNext_19 rfl hi9 rfl rfl ?_
    obtain ⟨hi9, hF⟩ := hF
    refine wb_iast (j := x1.toNatClampNeg) dX12_takesNext_20 rfl hi9 rfl ?_
    refine wa_iinc (v := x1 + 1) (lv' := [(1, .int (x1 + 1)), (0, .ref 118)]) dX12_takesNext_21 1 rfl rfl rfl rfl ?_
    refine wa_goto (tgt := 2) dX12_takesNext_24 rfl ?_
    exact wa_pick [1, 0] rfl hF

theorem eX12_takesNext {X : a_X} {ad : Nat → Nat} {ca : Nat → ClassId} {d : Nat} {Post : Option Value → a_M → a_P → Prop} {x : Nat} {M : a_M}  (h : WA X ad ca LY RX12 cX12_takesNext 2 none d 0 0 (a_E X ad ca LY Post) 0 [(0, .ref 118)] [] M (PT x)) : Mt X ad ca LY d yX12_takesNext cX12_takesNext 2 none [.ref 118] M (PT x) Post := Mt.of (lv := [(0, .ref 118)]) (by decide +kernel) rfl rfl rfl (wa_pick [0] rfl h)

theorem bX12_sumsBy_0 {X : a_X} {ad : Nat → Nat} {ca : Nat → ClassId} {d : Nat} {kc ks : Nat} {QF : List Frame → Array Value → State → State → Prop} {x : Nat} {M : a_M} (x1 : Int32) (x2 : Int32)  (hF : WA X ad ca LY RX12 cX12_sumsBy 8 none (d + 1) kc ks QF 2 [(0, .ref 118), (1, .int x1), (2, .int x2), (3, .int 0)] [] M (PT x)) : WA X ad ca LY RX12 cX12_sumsBy 8 none (d + 1) kc ks QF 0 [(0, .ref 118), (1, .int x1), (2, .int x2)] [] M (PT x) := by
  refine wa_iconst (v := 0) dX12_sumsBy_0 rfl ?_
  refine wa_istore_n (lv' := [(3, .int 0), (0, .ref 118), (1, .int x1), (2, .int x2)]) dX12_sumsBy_1 rfl rfl rfl ?_
  exact wa_pick [1, 2, 3, 0] rfl hF

theorem bX12_sumsBy_2 {X : a_X} {ad : Nat → Nat} {ca : Nat → ClassId} {d : Nat} {kc ks : Nat} {QF : List Frame → Array Value → State → State → Prop} {x : Nat} {M : a_M} (x1 : Int32) (x2 : Int32) (x3 : Int32)  (hF : ((128 ≤ x3 → WA X ad ca LY RX12 cX12_sumsBy 8 none (d + 1) kc ks QF 24 [(0, .ref 118), (1, .int x1), (2, .int x2), (3, .int 0)] [] M (PT x)) ∧ (¬ 128 ≤ x3 → (vp_in x3 128 ∧ WA X ad ca LY RX12 cX12_sumsBy 8 none (d + 1) kc ks QF 2 [(0, .ref 118), (1, .int x1), (2, .int x2), (3, .int (x3 + 1))] [] (ms M 141 x3.toNatClampNeg 0) (PT x))))) : WA X ad ca LY RX12 cX12_sumsBy 8 none (d + 1) kc ks QF 2 [(0, .ref 118), (1, .int x1), (2, .int x2), (3, .int x3)] [] M (PT x) := by
  refine wa_iload_n dX12_sumsBy_2 3 rfl rfl ?_
  refine wa_sipush (v := 128) dX12_sumsBy_3 rfl ?_
  refine wa_icmp_ge (tgt := 22) dX12_sumsBy_6 rfl (fun hc => ?_) (fun hc => ?_)
  · replace hF := hF.1 hc
    refine wa_iconst (v := 0) dX12_sumsBy_22 rfl ?_
    refine wa_istore_n (lv' := [(3, .int 0), (0, .ref 118), (1, .int x1), (2, .int x2)]) dX12_sumsBy_23 rfl rfl rfl ?_
    exact wa_pick [1, 2, 3, 0] rfl hF
  · replace hF := hF.2 hc
    refine wa_aload_n dX12_sumsBy_9 0 rfl rfl ?_
    refine wa_getr (r := 141) dX12_sumsBy_10 fkX12_84 rfl rfl rfl ?_
    refine wa_iload_n dX12_sumsBy_13 3 rfl rfl ?_
    refine wa_iconst (v := 0) dX12_sumsBy_14 rfl ?_
    obtain ⟨hi9, hF⟩ := hF
    refine wb_iast (j := x3.toNatClampNeg) dX12_sumsBy_15 rfl hi9 rfl ?_
    refine wa_iinc (v := x3 + 1) (lv' := [(3, .int (x3 + 1)), (0, .ref 118), (1, .int x1), (2, .int x2)]) dX12_sumsBy_16 3 rfl rfl rfl rfl ?_
    refine wa_goto (tgt := 2) dX12_sumsBy_19 rfl ?_
    exact wa_pick [1, 2, 3, 0] rfl hF

theorem bX12_sumsBy_24 {X : a_X} {ad : Nat → Nat} {ca : Nat → ClassId} {d : Nat} {Post : Option Value → a_M → a_P → Prop} {x : Nat} {M : a_M} (x1 : Int32) (x2 : Int32) (x3 : Int32)  (hF : (∃ Q1 : Int32 → a_M → Prop, Mt X ad ca LY d yX12_states cX12_states 1 (some FieldType.int) [.ref 118] M (PT x) (q_i (PT x) Q1) ∧ ∀ v1 M1, Q1 v1 M1 → ((v1 ≤ x3 → (∃ Q2 : a_M → Prop, Mt X ad ca LY d yX12_takesNext cX12_takesNext 2 none [.ref 118] M1 (PT x) (q_v (PT x) Q2) ∧ ∀ M2, Q2 M2 → Post none M2 (PT x))) ∧ (¬ v1 ≤ x3 → (vp_in x3 128 ∧ (((M1 140 x3.toNatClampNeg) = 0 → WA X ad ca LY RX12 cX12_sumsBy 8 none (d + 1) 0 0 (a_E X ad ca LY Post) 172 [(0, .ref 118), (1, .int x1), (2, .int x2), (3, .int x3)] [] M1 (PT x)) ∧ (¬ (M1 140 x3.toNatClampNeg) = 0 → WA X ad ca LY RX12 cX12_sumsBy 8 none (d + 1) 0 0 (a_E X ad ca LY Post) 44 [(0, .ref 118), (1, .int x1), (2, .int x2), (3, .int x3), (4, .int 0)] [] M1 (PT x)))))))) : WA X ad ca LY RX12 cX12_sumsBy 8 none (d + 1) 0 0 (a_E X ad ca LY Post) 24 [(0, .ref 118), (1, .int x1), (2, .int x2), (3, .int x3)] [] M (PT x) := by
  refine wa_iload_n dX12_sumsBy_24 3 rfl rfl ?_
  refine wa_aload_n dX12_sumsBy_25 0 rfl rfl ?_
  obtain ⟨Q1, hM9, hF⟩ := hF
  refine wa_callV [] dX12_sumsBy_26 (mmX12_states _ _) mlX12_128 mnX12_states mseX12_states rfl rfl rfl rfl (a_dlt d) rfl rfl hM9 ?_
  rintro r9 M1 P9 ⟨v1, rfl, rfl, hq9⟩
  replace hF := hF v1 M1 hq9
  simp only [Option.toList, List.cons_append, List.nil_append]
  refine wa_icmp_ge (tgt := 178) dX12_sumsBy_29 rfl (fun hc => ?_) (fun hc => ?_)
  · replace hF := hF.1 hc
    refine wa_aload_n dX12_sumsBy_178 0 rfl rfl ?_
    obtain ⟨Q2, hM9, hF⟩ := hF
    refine wa_callV [] dX12_sumsBy_179 (mmX12_takesNext _ _) mlX12_307 mnX12_takesNext mseX12_takesNext rfl rfl rfl rfl (a_dlt d) rfl rfl hM9 ?_
    rintro r9 M2 P9 ⟨rfl, rfl, hq9⟩
    replace hF := hF M2 hq9
    simp only [Option.toList, List.nil_append]
    exact wa_vret dX12_sumsBy_182 rfl hF
  · replace hF := hF.2 hc
    refine wa_aload_n dX12_sumsBy_32 0 rfl rfl ?_
    refine wa_getr (r := 140) dX12_sumsBy_33 fkX12_81 rfl rfl rfl ?_
    refine wa_iload_n dX12_sumsBy_36 3 rfl rfl ?_
    obtain ⟨hi9, hF⟩ := hF
    refine wb_iald (j := x3.toNatClampNeg) (v := M1 140 x3.toNatClampNeg) dX12_sumsBy_37 rfl hi9 rfl rfl ?_
    refine wa_if_eq (tgt := 172) dX12_sumsBy_38 rfl (fun hc => ?_) (fun hc => ?_)
    · replace hF := hF.1 hc
      exact hF
    · replace hF := hF.2 hc
      refine wa_iconst (v := 0) dX12_sumsBy_41 rfl ?_
      refine wa_istore (lv' := [(4, .int 0), (0, .ref 118), (1, .int x1), (2, .int x2), (3, .int x3)]) dX12_sumsBy_42 rfl rfl ?_
      exact wa_pick [1, 2, 3, 4, 0] rfl hF

theorem bX12_sumsBy_44 {X : a_X} {ad : Nat → Nat} {ca : Nat → ClassId} {d : Nat} {kc ks : Nat} {QF : List Frame → Array Value → State → State → Prop} {x : Nat} {M : a_M} (x1 : Int32) (x2 : Int32) (x3 : Int32) (x4 : Int32)  (hF : ((x2 = 0 → ((((M 119 0) - 1) ≤ x4 → WA X ad ca LY RX12 cX12_sumsBy 8 none (d + 1) kc ks QF 172 [(0, .ref 118), (1, .int x1), (2, .int x2), (3, .int x3)] [] M (PT x)) ∧ (¬ ((M 119 0) - 1) ≤ x4 → (¬ (M 119 0) = 0 ∧ ((¬ ((x3 >>> (x4 &&& 31)) &&& 1) = ((x3 >>> (((x4 + 1) - (x4 + 1) / (M 119 0) * (M 119 0)) &&& 31)) &&& 1) → (vp_in ((x3 ^^^ ((1 : Int32) <<< (x4 &&& 31))) ^^^ ((1 : Int32) <<< (((x4 + 1) - (x4 + 1) / (M 119 0) * (M 119 0)) &&& 31))) 128 ∧ (vp_in x3 128 ∧ (¬ (M 119 2) = 0 ∧ (vp_in ((x3 ^^^ ((1 : Int32) <<< (x4 &&& 31))) ^^^ ((1 : Int32) <<< (((x4 + 1) - (x4 + 1) / (M 119 0) * (M 119 0)) &&& 31))) 128 ∧ WA X ad ca LY RX12 cX12_sumsBy 8 none (d + 1) kc ks QF 44 [(0, .ref 118), (1, .int x1), (2, .int x2), (3, .int x3), (4, .int (x4 + 1))] [] (ms M 141 (((x3 ^^^ ((1 : Int32) <<< (x4 &&& 31))) ^^^ ((1 : Int32) <<< (((x4 + 1) - (x4 + 1) / (M 119 0) * (M 119 0)) &&& 31))).toNatClampNeg) (((M 141 (((x3 ^^^ ((1 : Int32) <<< (x4 &&& 31))) ^^^ ((1 : Int32) <<< (((x4 + 1) - (x4 + 1) / (M 119 0) * (M 119 0)) &&& 31))).toNatClampNeg)) + ((M 140 x3.toNatClampNeg) * 1)) - ((M 141 (((x3 ^^^ ((1 : Int32) <<< (x4 &&& 31))) ^^^ ((1 : Int32) <<< (((x4 + 1) - (x4 + 1) / (M 119 0) * (M 119 0)) &&& 31))).toNatClampNeg)) + ((M 140 x3.toNatClampNeg) * 1)) / (M 119 2) * (M 119 2))) (PT x)))))) ∧ (((x3 >>> (x4 &&& 31)) &&& 1) = ((x3 >>> (((x4 + 1) - (x4 + 1) / (M 119 0) * (M 119 0)) &&& 31)) &&& 1) → (vp_in x3 128 ∧ (vp_in x3 128 ∧ (¬ (M 119 2) = 0 ∧ (vp_in x3 128 ∧ WA X ad ca LY RX12 cX12_sumsBy 8 none (d + 1) kc ks QF 44 [(0, .ref 118), (1, .int x1), (2, .int x2), (3, .int x3), (4, .int (x4 + 1))] [] (ms M 141 x3.toNatClampNeg (((M 141 x3.toNatClampNeg) + ((M 140 x3.toNatClampNeg) * x1)) - ((M 141 x3.toNatClampNeg) + ((M 140 x3.toNatClampNeg) * x1)) / (M 119 2) * (M 119 2))) (PT x))))))))))) ∧ (¬ x2 = 0 → (((M 119 0) ≤ x4 → WA X ad ca LY RX12 cX12_sumsBy 8 none (d + 1) kc ks QF 172 [(0, .ref 118), (1, .int x1), (2, .int x2), (3, .int x3)] [] M (PT x)) ∧ (¬ (M 119 0) ≤ x4 → (¬ (M 119 0) = 0 ∧ ((¬ ((x3 >>> (x4 &&& 31)) &&& 1) = ((x3 >>> (((x4 + 1) - (x4 + 1) / (M 119 0) * (M 119 0)) &&& 31)) &&& 1) → (vp_in ((x3 ^^^ ((1 : Int32) <<< (x4 &&& 31))) ^^^ ((1 : Int32) <<< (((x4 + 1) - (x4 + 1) / (M 119 0) * (M 119 0)) &&& 31))) 128 ∧ (vp_in x3 128 ∧ (¬ (M 119 2) = 0 ∧ (vp_in ((x3 ^^^ ((1 : Int32) <<< (x4 &&& 31))) ^^^ ((1 : Int32) <<< (((x4 + 1) - (x4 + 1) / (M 119 0) * (M 119 0)) &&& 31))) 128 ∧ WA X ad ca LY RX12 cX12_sumsBy 8 none (d + 1) kc ks QF 44 [(0, .ref 118), (1, .int x1), (2, .int x2), (3, .int x3), (4, .int (x4 + 1))] [] (ms M 141 (((x3 ^^^ ((1 : Int32) <<< (x4 &&& 31))) ^^^ ((1 : Int32) <<< (((x4 + 1) - (x4 + 1) / (M 119 0) * (M 119 0)) &&& 31))).toNatClampNeg) (((M 141 (((x3 ^^^ ((1 : Int32) <<< (x4 &&& 31))) ^^^ ((1 : Int32) <<< (((x4 + 1) - (x4 + 1) / (M 119 0) * (M 119 0)) &&& 31))).toNatClampNeg)) + ((M 140 x3.toNatClampNeg) * 1)) - ((M 141 (((x3 ^^^ ((1 : Int32) <<< (x4 &&& 31))) ^^^ ((1 : Int32) <<< (((x4 + 1) - (x4 + 1) / (M 119 0) * (M 119 0)) &&& 31))).toNatClampNeg)) + ((M 140 x3.toNatClampNeg) * 1)) / (M 119 2) * (M 119 2))) (PT x)))))) ∧ (((x3 >>> (x4 &&& 31)) &&& 1) = ((x3 >>> (((x4 + 1) - (x4 + 1) / (M 119 0) * (M 119 0)) &&& 31)) &&& 1) → (vp_in x3 128 ∧ (vp_in x3 128 ∧ (¬ (M 119 2) = 0 ∧ (vp_in x3 128 ∧ WA X ad ca LY RX12 cX12_sumsBy 8 none (d + 1) kc ks QF 44 [(0, .ref 118), (1, .int x1), (2, .int x2), (3, .int x3), (4, .int (x4 + 1))] [] (ms M 141 x3.toNatClampNeg (((M 141 x3.toNatClampNeg) + ((M 140 x3.toNatClampNeg) * x1)) - ((M 141 x3.toNatClampNeg) + ((M 140 x3.toNatClampNeg) * x1)) / (M 119 2) * (M 119 2))) (PT x))))))))))))) : WA X ad ca LY RX12 cX12_sumsBy 8 none (d + 1) kc ks QF 44 [(0, .ref 118), (1, .int x1), (2, .int x2), (3, .int x3), (4, .int x4)] [] M (PT x) := by
  refine wa_iload dX12_sumsBy_44 4 rfl ?_
  refine wa_iload_n dX12_sumsBy_46 2 rfl rfl ?_
  refine wa_if_eq (tgt := 59) dX12_sumsBy_47 rfl (fun hc => ?_) (fun hc => ?_)
  · replace hF := hF.1 hc
    refine wa_aload_n dX12_sumsBy_59 0 rfl rfl ?_
    refine wa_getr (r := 119) dX12_sumsBy_60 fkX12_7 rfl rfl rfl ?_
    refine wa_iconst (v := 0) dX12_sumsBy_63 rfl ?_
    refine wb_iald (j := 0) (v := M 119 0) dX12_sumsBy_64 rfl (by unfold vp_in; decide) rfl rfl ?_
    refine wa_iconst (v := 1) dX12_sumsBy_65 rfl ?_
    refine wa_isub dX12_sumsBy_66 ?_
    refine wa_icmp_ge (tgt := 172) dX12_sumsBy_67 rfl (fun hc => ?_) (fun hc => ?_)
    · replace hF := hF.1 hc
      exact wa_pick [0, 1, 2, 3] rfl hF
    · replace hF := hF.2 hc
      refine wa_iload dX12_sumsBy_70 4 rfl ?_
      refine wa_iconst (v := 1) dX12_sumsBy_72 rfl ?_
      refine wa_iadd dX12_sumsBy_73 ?_
      refine wa_aload_n dX12_sumsBy_74 0 rfl rfl ?_
      refine wa_getr (r := 119) dX12_sumsBy_75 fkX12_7 rfl rfl rfl ?_
      refine wa_iconst (v := 0) dX12_sumsBy_78 rfl ?_
      refine wb_iald (j := 0) (v := M 119 0) dX12_sumsBy_79 rfl (by unfold vp_in; decide) rfl rfl ?_
      obtain ⟨hn9, hF⟩ := hF
      refine wa_irem dX12_sumsBy_80 hn9 ?_
      refine wa_istore (lv' := [(5, .int ((x4 + 1) - (x4 + 1) / (M 119 0) * (M 119 0))), (0, .ref 118), (1, .int x1), (2, .int x2), (3, .int x3), (4, .int x4)]) dX12_sumsBy_81 rfl rfl ?_
      refine wa_iload_n dX12_sumsBy_83 4 rfl rfl ?_
      refine wa_iload dX12_sumsBy_84 5 rfl ?_
      refine wa_ishr dX12_sumsBy_86 ?_
      refine wa_iconst (v := 1) dX12_sumsBy_87 rfl ?_
      refine wa_iand dX12_sumsBy_88 ?_
      refine wa_iload_n dX12_sumsBy_89 4 rfl rfl ?_
      refine wa_iload dX12_sumsBy_90 0 rfl ?_
      refine wa_ishr dX12_sumsBy_92 ?_
      refine wa_iconst (v := 1) dX12_sumsBy_93 rfl ?_
      refine wa_iand dX12_sumsBy_94 ?_
      refine wa_icmp_ne (tgt := 102) dX12_sumsBy_95 rfl (fun hc => ?_) (fun hc => ?_)
      · replace hF := hF.1 hc
        refine wa_iconst (v := 0) dX12_sumsBy_102 rfl ?_
        refine wa_istore (lv' := [(6, .int 0), (5, .int ((x4 + 1) - (x4 + 1) / (M 119 0) * (M 119 0))), (0, .ref 118), (1, .int x1), (2, .int x2), (3, .int x3), (4, .int x4)]) dX12_sumsBy_103 rfl rfl ?_
        refine wa_iload dX12_sumsBy_105 0 rfl ?_
        refine wa_if_eq (tgt := 114) dX12_sumsBy_107 rfl (fun hc => ?_) (fun hc => ?_)
        · skip
          refine wa_iload_n dX12_sumsBy_114 5 rfl rfl ?_
          refine wa_iconst (v := 1) dX12_sumsBy_115 rfl ?_
          refine wa_iload dX12_sumsBy_116 6 rfl ?_
          refine wa_ishl dX12_sumsBy_118 ?_
          refine wa_ixor dX12_sumsBy_119 ?_
          refine wa_iconst (v := 1) dX12_sumsBy_120 rfl ?_
          refine wa_iload dX12_sumsBy_121 1 rfl ?_
          refine wa_ishl dX12_sumsBy_123 ?_
          refine wa_ixor dX12_sumsBy_124 ?_
          refine wa_istore (lv' := [(7, .int ((x3 ^^^ ((1 : Int32) <<< (x4 &&& 31))) ^^^ ((1 : Int32) <<< (((x4 + 1) - (x4 + 1) / (M 119 0) * (M 119 0)) &&& 31)))), (6, .int 0), (5, .int ((x4 + 1) - (x4 + 1) / (M 119 0) * (M 119 0))), (0, .ref 118), (1, .int x1), (2, .int x2), (3, .int x3), (4, .int x4)]) dX12_sumsBy_125 rfl rfl ?_
          refine wa_aload_n dX12_sumsBy_127 3 rfl rfl ?_
          refine wa_getr (r := 141) dX12_sumsBy_128 fkX12_84 rfl rfl rfl ?_
          refine wa_iload dX12_sumsBy_131 0 rfl ?_
          refine wa_aload_n dX12_sumsBy_133 3 rfl rfl ?_
          refine wa_getr (r := 141) dX12_sumsBy_134 fkX12_84 rfl rfl rfl ?_
          refine wa_iload dX12_sumsBy_137 0 rfl ?_
          obtain ⟨hi9, hF⟩ := hF
          refine wb_iald (j := ((x3 ^^^ ((1 : Int32) <<< (x4 &&& 31))) ^^^ ((1 : Int32) <<< (((x4 + 1) - (x4 + 1) / (M 119 0) * (M 119 0)) &&& 31))).toNatClampNeg) (v := M 141 (((x3 ^^^ ((1 : Int32) <<< (x4 &&& 31))) ^^^ ((1 : Int32) <<< (((x4 + 1) - (x4 + 1) / (M 119 0) * (M 119 0)) &&& 31))).toNatClampNeg)) dX12_sumsBy_139 rfl hi9 rfl rfl ?_
          refine wa_aload_n dX12_sumsBy_140 3 rfl rfl ?_
          refine wa_getr (r := 140) dX12_sumsBy_141 fkX12_81 rfl rfl rfl ?_
          refine wa_iload_n dX12_sumsBy_144 6 rfl rfl ?_
          obtain ⟨hi9, hF⟩ := hF
          refine wb_iald (j := x3.toNatClampNeg) (v := M 140 x3.toNatClampNeg) dX12_sumsBy_145 rfl hi9 rfl rfl ?_
          refine wa_iload dX12_sumsBy_146 1 rfl ?_
          refine wa_if_eq (tgt := 155) dX12_sumsBy_148 rfl (fun hc => ?_) (fun hc => ?_)
          · skip
            refine wa_iconst (v := 1) dX12_sumsBy_155 rfl ?_
            refine wa_imul dX12_sumsBy_156 ?_
            refine wa_iadd dX12_sumsBy_157 ?_
            refine wa_aload_n dX12_sumsBy_158 3 rfl rfl ?_
            refine wa_getr (r := 119) dX12_sumsBy_159 fkX12_7 rfl rfl rfl ?_
            refine wa_iconst (v := 2) dX12_sumsBy_162 rfl ?_
            refine wb_iald (j := 2) (v := M 119 2) dX12_sumsBy_163 rfl (by unfold vp_in; decide) rfl rfl ?_
            obtain ⟨hn9, hF⟩ := hF
            refine wa_irem dX12_sumsBy_164 hn9 ?_
            obtain ⟨hi9, hF⟩ := hF
            refine wb_iast (j := ((x3 ^^^ ((1 : Int32) <<< (x4 &&& 31))) ^^^ ((1 : Int32) <<< (((x4 + 1) - (x4 + 1) / (M 119 0) * (M 119 0)) &&& 31))).toNatClampNeg) dX12_sumsBy_165 rfl hi9 rfl ?_
            refine wa_iinc (v := x4 + 1) (lv' := [(4, .int (x4 + 1)), (7, .int ((x3 ^^^ ((1 : Int32) <<< (x4 &&& 31))) ^^^ ((1 : Int32) <<< (((x4 + 1) - (x4 + 1) / (M 119 0) * (M 119 0)) &&& 31)))), (6, .int 0), (5, .int ((x4 + 1) - (x4 + 1) / (M 119 0) * (M 119 0))), (0, .ref 118), (1, .int x1), (2, .int x2), (3, .int x3)]) dX12_sumsBy_166 7 rfl rfl rfl rfl ?_
            refine wa_goto (tgt := 44) dX12_sumsBy_169 rfl ?_
            exact wa_pick [4, 5, 6, 7, 0] rfl hF
          · exact absurd hc (by decide)
        · exact absurd hc (by decide)
      · replace hF := hF.2 hc
        refine wa_iconst (v := 1) dX12_sumsBy_98 rfl ?_
        refine wa_goto (tgt := 103) dX12_sumsBy_99 rfl ?_
        refine wa_istore (lv' := [(6, .int 1), (5, .int ((x4 + 1) - (x4 + 1) / (M 119 0) * (M 119 0))), (0, .ref 118), (1, .int x1), (2, .int x2), (3, .int x3), (4, .int x4)]) dX12_sumsBy_103 rfl rfl ?_
        refine wa_iload dX12_sumsBy_105 0 rfl ?_
        refine wa_if_eq (tgt := 114) dX12_sumsBy_107 rfl (fun hc => ?_) (fun hc => ?_)
        · exact absurd hc (by decide)
        · skip
          refine wa_iload_n dX12_sumsBy_110 5 rfl rfl ?_
          refine wa_goto (tgt := 125) dX12_sumsBy_111 rfl ?_
          refine wa_istore (lv' := [(7, .int x3), (6, .int 1), (5, .int ((x4 + 1) - (x4 + 1) / (M 119 0) * (M 119 0))), (0, .ref 118), (1, .int x1), (2, .int x2), (3, .int x3), (4, .int x4)]) dX12_sumsBy_125 rfl rfl ?_
          refine wa_aload_n dX12_sumsBy_127 3 rfl rfl ?_
          refine wa_getr (r := 141) dX12_sumsBy_128 fkX12_84 rfl rfl rfl ?_
          refine wa_iload dX12_sumsBy_131 0 rfl ?_
          refine wa_aload_n dX12_sumsBy_133 3 rfl rfl ?_
          refine wa_getr (r := 141) dX12_sumsBy_134 fkX12_84 rfl rfl rfl ?_
          refine wa_iload dX12_sumsBy_137 0 rfl ?_
          obtain ⟨hi9, hF⟩ := hF
          refine wb_iald (j := x3.toNatClampNeg) (v := M 141 x3.toNatClampNeg) dX12_sumsBy_139 rfl hi9 rfl rfl ?_
          refine wa_aload_n dX12_sumsBy_140 3 rfl rfl ?_
          refine wa_getr (r := 140) dX12_sumsBy_141 fkX12_81 rfl rfl rfl ?_
          refine wa_iload_n dX12_sumsBy_144 6 rfl rfl ?_
          obtain ⟨hi9, hF⟩ := hF
          refine wb_iald (j := x3.toNatClampNeg) (v := M 140 x3.toNatClampNeg) dX12_sumsBy_145 rfl hi9 rfl rfl ?_
          refine wa_iload dX12_sumsBy_146 1 rfl ?_
          refine wa_if_eq (tgt := 155) dX12_sumsBy_148 rfl (fun hc => ?_) (fun hc => ?_)
          · exact absurd hc (by decide)
          · skip
            refine wa_iload_n dX12_sumsBy_151 4 rfl rfl ?_
            refine wa_goto (tgt := 156) dX12_sumsBy_152 rfl ?_
            refine wa_imul dX12_sumsBy_156 ?_
            refine wa_iadd dX12_sumsBy_157 ?_
            refine wa_aload_n dX12_sumsBy_158 3 rfl rfl ?_
            refine wa_getr (r := 119) dX12_sumsBy_159 fkX12_7 rfl rfl rfl ?_
            refine wa_iconst (v := 2) dX12_sumsBy_162 rfl ?_
            refine wb_iald (j := 2) (v := M 119 2) dX12_sumsBy_163 rfl (by unfold vp_in; decide) rfl rfl ?_
            obtain ⟨hn9, hF⟩ := hF
            refine wa_irem dX12_sumsBy_164 hn9 ?_
            obtain ⟨hi9, hF⟩ := hF
            refine wb_iast (j := x3.toNatClampNeg) dX12_sumsBy_165 rfl hi9 rfl ?_
            refine wa_iinc (v := x4 + 1) (lv' := [(4, .int (x4 + 1)), (7, .int x3), (6, .int 1), (5, .int ((x4 + 1) - (x4 + 1) / (M 119 0) * (M 119 0))), (0, .ref 118), (1, .int x1), (2, .int x2), (3, .int x3)]) dX12_sumsBy_166 7 rfl rfl rfl rfl ?_
            refine wa_goto (tgt := 44) dX12_sumsBy_169 rfl ?_
            exact wa_pick [4, 5, 6, 7, 0] rfl hF
  · replace hF := hF.2 hc
    refine wa_aload_n dX12_sumsBy_50 0 rfl rfl ?_
    refine wa_getr (r := 119) dX12_sumsBy_51 fkX12_7 rfl rfl rfl ?_
    refine wa_iconst (v := 0) dX12_sumsBy_54 rfl ?_
    refine wb_iald (j := 0) (v := M 119 0) dX12_sumsBy_55 rfl (by unfold vp_in; decide) rfl rfl ?_
    refine wa_goto (tgt := 67) dX12_sumsBy_56 rfl ?_
    refine wa_icmp_ge (tgt := 172) dX12_sumsBy_67 rfl (fun hc => ?_) (fun hc => ?_)
    · replace hF := hF.1 hc
      exact wa_pick [0, 1, 2, 3] rfl hF
    · replace hF := hF.2 hc
      refine wa_iload dX12_sumsBy_70 4 rfl ?_
      refine wa_iconst (v := 1) dX12_sumsBy_72 rfl ?_
      refine wa_iadd dX12_sumsBy_73 ?_
      refine wa_aload_n dX12_sumsBy_74 0 rfl rfl ?_
      refine wa_getr (r := 119) dX12_sumsBy_75 fkX12_7 rfl rfl rfl ?_
      refine wa_iconst (v := 0) dX12_sumsBy_78 rfl ?_
      refine wb_iald (j := 0) (v := M 119 0) dX12_sumsBy_79 rfl (by unfold vp_in; decide) rfl rfl ?_
      obtain ⟨hn9, hF⟩ := hF
      refine wa_irem dX12_sumsBy_80 hn9 ?_
      refine wa_istore (lv' := [(5, .int ((x4 + 1) - (x4 + 1) / (M 119 0) * (M 119 0))), (0, .ref 118), (1, .int x1), (2, .int x2), (3, .int x3), (4, .int x4)]) dX12_sumsBy_81 rfl rfl ?_
      refine wa_iload_n dX12_sumsBy_83 4 rfl rfl ?_
      refine wa_iload dX12_sumsBy_84 5 rfl ?_
      refine wa_ishr dX12_sumsBy_86 ?_
      refine wa_iconst (v := 1) dX12_sumsBy_87 rfl ?_
      refine wa_iand dX12_sumsBy_88 ?_
      refine wa_iload_n dX12_sumsBy_89 4 rfl rfl ?_
      refine wa_iload dX12_sumsBy_90 0 rfl ?_
      refine wa_ishr dX12_sumsBy_92 ?_
      refine wa_iconst (v := 1) dX12_sumsBy_93 rfl ?_
      refine wa_iand dX12_sumsBy_94 ?_
      refine wa_icmp_ne (tgt := 102) dX12_sumsBy_95 rfl (fun hc => ?_) (fun hc => ?_)
      · replace hF := hF.1 hc
        refine wa_iconst (v := 0) dX12_sumsBy_102 rfl ?_
        refine wa_istore (lv' := [(6, .int 0), (5, .int ((x4 + 1) - (x4 + 1) / (M 119 0) * (M 119 0))), (0, .ref 118), (1, .int x1), (2, .int x2), (3, .int x3), (4, .int x4)]) dX12_sumsBy_103 rfl rfl ?_
        refine wa_iload dX12_sumsBy_105 0 rfl ?_
        refine wa_if_eq (tgt := 114) dX12_sumsBy_107 rfl (fun hc => ?_) (fun hc => ?_)
        · skip
          refine wa_iload_n dX12_sumsBy_114 5 rfl rfl ?_
          refine wa_iconst (v := 1) dX12_sumsBy_115 rfl ?_
          refine wa_iload dX12_sumsBy_116 6 rfl ?_
          refine wa_ishl dX12_sumsBy_118 ?_
          refine wa_ixor dX12_sumsBy_119 ?_
          refine wa_iconst (v := 1) dX12_sumsBy_120 rfl ?_
          refine wa_iload dX12_sumsBy_121 1 rfl ?_
          refine wa_ishl dX12_sumsBy_123 ?_
          refine wa_ixor dX12_sumsBy_124 ?_
          refine wa_istore (lv' := [(7, .int ((x3 ^^^ ((1 : Int32) <<< (x4 &&& 31))) ^^^ ((1 : Int32) <<< (((x4 + 1) - (x4 + 1) / (M 119 0) * (M 119 0)) &&& 31)))), (6, .int 0), (5, .int ((x4 + 1) - (x4 + 1) / (M 119 0) * (M 119 0))), (0, .ref 118), (1, .int x1), (2, .int x2), (3, .int x3), (4, .int x4)]) dX12_sumsBy_125 rfl rfl ?_
          refine wa_aload_n dX12_sumsBy_127 3 rfl rfl ?_
          refine wa_getr (r := 141) dX12_sumsBy_128 fkX12_84 rfl rfl rfl ?_
          refine wa_iload dX12_sumsBy_131 0 rfl ?_
          refine wa_aload_n dX12_sumsBy_133 3 rfl rfl ?_
          refine wa_getr (r := 141) dX12_sumsBy_134 fkX12_84 rfl rfl rfl ?_
          refine wa_iload dX12_sumsBy_137 0 rfl ?_
          obtain ⟨hi9, hF⟩ := hF
          refine wb_iald (j := ((x3 ^^^ ((1 : Int32) <<< (x4 &&& 31))) ^^^ ((1 : Int32) <<< (((x4 + 1) - (x4 + 1) / (M 119 0) * (M 119 0)) &&& 31))).toNatClampNeg) (v := M 141 (((x3 ^^^ ((1 : Int32) <<< (x4 &&& 31))) ^^^ ((1 : Int32) <<< (((x4 + 1) - (x4 + 1) / (M 119 0) * (M 119 0)) &&& 31))).toNatClampNeg)) dX12_sumsBy_139 rfl hi9 rfl rfl ?_
          refine wa_aload_n dX12_sumsBy_140 3 rfl rfl ?_
          refine wa_getr (r := 140) dX12_sumsBy_141 fkX12_81 rfl rfl rfl ?_
          refine wa_iload_n dX12_sumsBy_144 6 rfl rfl ?_
          obtain ⟨hi9, hF⟩ := hF
          refine wb_iald (j := x3.toNatClampNeg) (v := M 140 x3.toNatClampNeg) dX12_sumsBy_145 rfl hi9 rfl rfl ?_
          refine wa_iload dX12_sumsBy_146 1 rfl ?_
          refine wa_if_eq (tgt := 155) dX12_sumsBy_148 rfl (fun hc => ?_) (fun hc => ?_)
          · skip
            refine wa_iconst (v := 1) dX12_sumsBy_155 rfl ?_
            refine wa_imul dX12_sumsBy_156 ?_
            refine wa_iadd dX12_sumsBy_157 ?_
            refine wa_aload_n dX12_sumsBy_158 3 rfl rfl ?_
            refine wa_getr (r := 119) dX12_sumsBy_159 fkX12_7 rfl rfl rfl ?_
            refine wa_iconst (v := 2) dX12_sumsBy_162 rfl ?_
            refine wb_iald (j := 2) (v := M 119 2) dX12_sumsBy_163 rfl (by unfold vp_in; decide) rfl rfl ?_
            obtain ⟨hn9, hF⟩ := hF
            refine wa_irem dX12_sumsBy_164 hn9 ?_
            obtain ⟨hi9, hF⟩ := hF
            refine wb_iast (j := ((x3 ^^^ ((1 : Int32) <<< (x4 &&& 31))) ^^^ ((1 : Int32) <<< (((x4 + 1) - (x4 + 1) / (M 119 0) * (M 119 0)) &&& 31))).toNatClampNeg) dX12_sumsBy_165 rfl hi9 rfl ?_
            refine wa_iinc (v := x4 + 1) (lv' := [(4, .int (x4 + 1)), (7, .int ((x3 ^^^ ((1 : Int32) <<< (x4 &&& 31))) ^^^ ((1 : Int32) <<< (((x4 + 1) - (x4 + 1) / (M 119 0) * (M 119 0)) &&& 31)))), (6, .int 0), (5, .int ((x4 + 1) - (x4 + 1) / (M 119 0) * (M 119 0))), (0, .ref 118), (1, .int x1), (2, .int x2), (3, .int x3)]) dX12_sumsBy_166 7 rfl rfl rfl rfl ?_
            refine wa_goto (tgt := 44) dX12_sumsBy_169 rfl ?_
            exact wa_pick [4, 5, 6, 7, 0] rfl hF
          · exact absurd hc (by decide)
        · exact absurd hc (by decide)
      · replace hF := hF.2 hc
        refine wa_iconst (v := 1) dX12_sumsBy_98 rfl ?_
        refine wa_goto (tgt := 103) dX12_sumsBy_99 rfl ?_
        refine wa_istore (lv' := [(6, .int 1), (5, .int ((x4 + 1) - (x4 + 1) / (M 119 0) * (M 119 0))), (0, .ref 118), (1, .int x1), (2, .int x2), (3, .int x3), (4, .int x4)]) dX12_sumsBy_103 rfl rfl ?_
        refine wa_iload dX12_sumsBy_105 0 rfl ?_
        refine wa_if_eq (tgt := 114) dX12_sumsBy_107 rfl (fun hc => ?_) (fun hc => ?_)
        · exact absurd hc (by decide)
        · skip
          refine wa_iload_n dX12_sumsBy_110 5 rfl rfl ?_
          refine wa_goto (tgt := 125) dX12_sumsBy_111 rfl ?_
          refine wa_istore (lv' := [(7, .int x3), (6, .int 1), (5, .int ((x4 + 1) - (x4 + 1) / (M 119 0) * (M 119 0))), (0, .ref 118), (1, .int x1), (2, .int x2), (3, .int x3), (4, .int x4)]) dX12_sumsBy_125 rfl rfl ?_
          refine wa_aload_n dX12_sumsBy_127 3 rfl rfl ?_
          refine wa_getr (r := 141) dX12_sumsBy_128 fkX12_84 rfl rfl rfl ?_
          refine wa_iload dX12_sumsBy_131 0 rfl ?_
          refine wa_aload_n dX12_sumsBy_133 3 rfl rfl ?_
          refine wa_getr (r := 141) dX12_sumsBy_134 fkX12_84 rfl rfl rfl ?_
          refine wa_iload dX12_sumsBy_137 0 rfl ?_
          obtain ⟨hi9, hF⟩ := hF
          refine wb_iald (j := x3.toNatClampNeg) (v := M 141 x3.toNatClampNeg) dX12_sumsBy_139 rfl hi9 rfl rfl ?_
          refine wa_aload_n dX12_sumsBy_140 3 rfl rfl ?_
          refine wa_getr (r := 140) dX12_sumsBy_141 fkX12_81 rfl rfl rfl ?_
          refine wa_iload_n dX12_sumsBy_144 6 rfl rfl ?_
          obtain ⟨hi9, hF⟩ := hF
          refine wb_iald (j := x3.toNatClampNeg) (v := M 140 x3.toNatClampNeg) dX12_sumsBy_145 rfl hi9 rfl rfl ?_
          refine wa_iload dX12_sumsBy_146 1 rfl ?_
          refine wa_if_eq (tgt := 155) dX12_sumsBy_148 rfl (fun hc => ?_) (fun hc => ?_)
          · exact absurd hc (by decide)
          · skip
            refine wa_iload_n dX12_sumsBy_151 4 rfl rfl ?_
            refine wa_goto (tgt := 156) dX12_sumsBy_152 rfl ?_
            refine wa_imul dX12_sumsBy_156 ?_
            refine wa_iadd dX12_sumsBy_157 ?_
            refine wa_aload_n dX12_sumsBy_158 3 rfl rfl ?_
            refine wa_getr (r := 119) dX12_sumsBy_159 fkX12_7 rfl rfl rfl ?_
            refine wa_iconst (v := 2) dX12_sumsBy_162 rfl ?_
            refine wb_iald (j := 2) (v := M 119 2) dX12_sumsBy_163 rfl (by unfold vp_in; decide) rfl rfl ?_
            obtain ⟨hn9, hF⟩ := hF
            refine wa_irem dX12_sumsBy_164 hn9 ?_
            obtain ⟨hi9, hF⟩ := hF
            refine wb_iast (j := x3.toNatClampNeg) dX12_sumsBy_165 rfl hi9 rfl ?_
            refine wa_iinc (v := x4 + 1) (lv' := [(4, .int (x4 + 1)), (7, .int x3), (6, .int 1), (5, .int ((x4 + 1) - (x4 + 1) / (M 119 0) * (M 119 0))), (0, .ref 118), (1, .int x1), (2, .int x2), (3, .int x3)]) dX12_sumsBy_166 7 rfl rfl rfl rfl ?_
            refine wa_goto (tgt := 44) dX12_sumsBy_169 rfl ?_
            exact wa_pick [4, 5, 6, 7, 0] rfl hF

theorem bX12_sumsBy_172 {X : a_X} {ad : Nat → Nat} {ca : Nat → ClassId} {d : Nat} {kc ks : Nat} {QF : List Frame → Array Value → State → State → Prop} {x : Nat} {M : a_M} (x1 : Int32) (x2 : Int32) (x3 : Int32)  (hF : WA X ad ca LY RX12 cX12_sumsBy 8 none (d + 1) kc ks QF 24 [(0, .ref 118), (1, .int x1), (2, .int x2), (3, .int (x3 + 1))] [] M (PT x)) : WA X ad ca LY RX12 cX12_sumsBy 8 none (d + 1) kc ks QF 172 [(0, .ref 118), (1, .int x1), (2, .int x2), (3, .int x3)] [] M (PT x) := by
  refine wa_iinc (v := x3 + 1) (lv' := [(3, .int (x3 + 1)), (0, .ref 118), (1, .int x1), (2, .int x2)]) dX12_sumsBy_172 3 rfl rfl rfl rfl ?_
  refine wa_goto (tgt := 24) dX12_sumsBy_175 rfl ?_
  exact wa_pick [1, 2, 3, 0] rfl hF

theorem eX12_sumsBy {X : a_X} {ad : Nat → Nat} {ca : Nat → ClassId} {d : Nat} {Post : Option Value → a_M → a_P → Prop} {x : Nat} {M : a_M} (x1 : Int32) (x2 : Int32) (h : WA X ad ca LY RX12 cX12_sumsBy 8 none d 0 0 (a_E X ad ca LY Post) 0 [(0, .ref 118), (1, .int x1), (2, .int x2)] [] M (PT x)) : Mt X ad ca LY d yX12_sumsBy cX12_sumsBy 8 none [.ref 118, .int x1, .int x2] M (PT x) Post := Mt.of (lv := [(0, .ref 118), (1, .int x1), (2, .int x2)]) (by decide +kernel) rfl rfl rfl (wa_pick [0, 1, 2] rfl h)

theorem bX12_sums_0 {X : a_X} {ad : Nat → Nat} {ca : Nat → ClassId} {d : Nat} {Post : Option Value → a_M → a_P → Prop} {x : Nat} {M : a_M}   (hF : ((¬ (M 119 1) = 1 → (∃ Q1 : a_M → Prop, Mt X ad ca LY d yX12_sumsBy cX12_sumsBy 8 none [.ref 118, .int (M 119 4), .int 0] M (PT x) (q_v (PT x) Q1) ∧ ∀ M1, Q1 M1 → Post none M1 (PT x))) ∧ ((M 119 1) = 1 → (∃ Q2 : a_M → Prop, Mt X ad ca LY d yX12_sumsBy cX12_sumsBy 8 none [.ref 118, .int (M 119 4), .int 1] M (PT x) (q_v (PT x) Q2) ∧ ∀ M2, Q2 M2 → Post none M2 (PT x))))) : WA X ad ca LY RX12 cX12_sums 1 none (d + 1) 0 0 (a_E X ad ca LY Post) 0 [(0, .ref 118)] [] M (PT x) := by
  refine wa_aload_n dX12_sums_0 0 rfl rfl ?_
  refine wa_aload_n dX12_sums_1 0 rfl rfl ?_
  refine wa_getr (r := 119) dX12_sums_2 fkX12_7 rfl rfl rfl ?_
  refine wa_iconst (v := 4) dX12_sums_5 rfl ?_
  refine wb_iald (j := 4) (v := M 119 4) dX12_sums_6 rfl (by unfold vp_in; decide) rfl rfl ?_
  refine wa_aload_n dX12_sums_7 0 rfl rfl ?_
  refine wa_getr (r := 119) dX12_sums_8 fkX12_7 rfl rfl rfl ?_
  refine wa_iconst (v := 1) dX12_sums_11 rfl ?_
  refine wb_iald (j := 1) (v := M 119 1) dX12_sums_12 rfl (by unfold vp_in; decide) rfl rfl ?_
  refine wa_iconst (v := 1) dX12_sums_13 rfl ?_
  refine wa_icmp_ne (tgt := 21) dX12_sums_14 rfl (fun hc => ?_) (fun hc => ?_)
  · replace hF := hF.1 hc
    refine wa_iconst (v := 0) dX12_sums_21 rfl ?_
    obtain ⟨Q1, hM9, hF⟩ := hF
    refine wa_callV [.int (M 119 4), .int 0] dX12_sums_22 (mmX12_sumsBy _ _) mlX12_310 mnX12_sumsBy mseX12_sumsBy rfl rfl rfl rfl (a_dlt d) rfl rfl hM9 ?_
    rintro r9 M1 P9 ⟨rfl, rfl, hq9⟩
    replace hF := hF M1 hq9
    simp only [Option.toList, List.nil_append]
    exact wa_vret dX12_sums_25 rfl hF
  · replace hF := hF.2 hc
    refine wa_iconst (v := 1) dX12_sums_17 rfl ?_
    refine wa_goto (tgt := 22) dX12_sums_18 rfl ?_
    obtain ⟨Q2, hM9, hF⟩ := hF
    refine wa_callV [.int (M 119 4), .int 1] dX12_sums_22 (mmX12_sumsBy _ _) mlX12_310 mnX12_sumsBy mseX12_sumsBy rfl rfl rfl rfl (a_dlt d) rfl rfl hM9 ?_
    rintro r9 M2 P9 ⟨rfl, rfl, hq9⟩
    replace hF := hF M2 hq9
    simp only [Option.toList, List.nil_append]
    exact wa_vret dX12_sums_25 rfl hF

theorem eX12_sums {X : a_X} {ad : Nat → Nat} {ca : Nat → ClassId} {d : Nat} {Post : Option Value → a_M → a_P → Prop} {x : Nat} {M : a_M}  (h : WA X ad ca LY RX12 cX12_sums 1 none d 0 0 (a_E X ad ca LY Post) 0 [(0, .ref 118)] [] M (PT x)) : Mt X ad ca LY d yX12_sums cX12_sums 1 none [.ref 118] M (PT x) Post := Mt.of (lv := [(0, .ref 118)]) (by decide +kernel) rfl rfl rfl (wa_pick [0] rfl h)

theorem bX12_tables_0 {X : a_X} {ad : Nat → Nat} {ca : Nat → ClassId} {d : Nat} {kc ks : Nat} {QF : List Frame → Array Value → State → State → Prop} {x : Nat} {M : a_M} (x1 : Int32)  (hF : (∃ Q1 : Int32 → a_M → Prop, Mt X ad ca LY d yX12_states cX12_states 1 (some FieldType.int) [.ref 118] M (PT x) (q_i (PT x) Q1) ∧ ∀ v1 M1, Q1 v1 M1 → WA X ad ca LY RX12 cX12_tables 5 none (d + 1) kc ks QF 7 [(0, .ref 118), (1, .int x1), (2, .int v1), (3, .int 0)] [] M1 (PT x))) : WA X ad ca LY RX12 cX12_tables 5 none (d + 1) kc ks QF 0 [(0, .ref 118), (1, .int x1)] [] M (PT x) := by
  refine wa_aload_n dX12_tables_0 0 rfl rfl ?_
  obtain ⟨Q1, hM9, hF⟩ := hF
  refine wa_callV [] dX12_tables_1 (mmX12_states _ _) mlX12_128 mnX12_states mseX12_states rfl rfl rfl rfl (a_dlt d) rfl rfl hM9 ?_
  rintro r9 M1 P9 ⟨v1, rfl, rfl, hq9⟩
  replace hF := hF v1 M1 hq9
  simp only [Option.toList, List.cons_append, List.nil_append]
  refine wa_istore_n (lv' := [(2, .int v1), (0, .ref 118), (1, .int x1)]) dX12_tables_4 rfl rfl rfl ?_
  refine wa_iconst (v := 0) dX12_tables_5 rfl ?_
  refine wa_istore_n (lv' := [(3, .int 0), (2, .int v1), (0, .ref 118), (1, .int x1)]) dX12_tables_6 rfl rfl rfl ?_
  exact wa_pick [2, 3, 1, 0] rfl hF

theorem bX12_tables_7 {X : a_X} {ad : Nat → Nat} {ca : Nat → ClassId} {d : Nat} {kc ks : Nat} {QF : List Frame → Array Value → State → State → Prop} {x : Nat} {M : a_M} (x1 : Int32) (x2 : Int32) (x3 : Int32)  (hF : ((128 ≤ x3 → (∃ Q1 : a_M → Prop, Mt X ad ca LY d yX12_laysWeights cX12_laysWeights 2 none [.ref 118, .int x1] M (PT x) (q_v (PT x) Q1) ∧ ∀ M1, Q1 M1 → WA X ad ca LY RX12 cX12_tables 5 none (d + 1) kc ks QF 34 [(0, .ref 118), (2, .int x2), (3, .int 0)] [] M1 (PT x))) ∧ (¬ 128 ≤ x3 → (vp_in x3 128 ∧ WA X ad ca LY RX12 cX12_tables 5 none (d + 1) kc ks QF 7 [(0, .ref 118), (1, .int x1), (2, .int x2), (3, .int (x3 + 1))] [] (ms M 141 x3.toNatClampNeg 0) (PT x))))) : WA X ad ca LY RX12 cX12_tables 5 none (d + 1) kc ks QF 7 [(0, .ref 118), (1, .int x1), (2, .int x2), (3, .int x3)] [] M (PT x) := by
  refine wa_iload_n dX12_tables_7 3 rfl rfl ?_
  refine wa_sipush (v := 128) dX12_tables_8 rfl ?_
  refine wa_icmp_ge (tgt := 27) dX12_tables_11 rfl (fun hc => ?_) (fun hc => ?_)
  · replace hF := hF.1 hc
    refine wa_aload_n dX12_tables_27 0 rfl rfl ?_
    refine wa_iload_n dX12_tables_28 1 rfl rfl ?_
    obtain ⟨Q1, hM9, hF⟩ := hF
    refine wa_callV [.int x1] dX12_tables_29 (mmX12_laysWeights _ _) mlX12_296 mnX12_laysWeights mseX12_laysWeights rfl rfl rfl rfl (a_dlt d) rfl rfl hM9 ?_
    rintro r9 M1 P9 ⟨rfl, rfl, hq9⟩
    replace hF := hF M1 hq9
    simp only [Option.toList, List.nil_append]
    refine wa_iconst (v := 0) dX12_tables_32 rfl ?_
    refine wa_istore_n (lv' := [(3, .int 0), (0, .ref 118), (1, .int x1), (2, .int x2)]) dX12_tables_33 rfl rfl rfl ?_
    exact wa_pick [1, 3, 0] rfl hF
  · replace hF := hF.2 hc
    refine wa_aload_n dX12_tables_14 0 rfl rfl ?_
    refine wa_getr (r := 141) dX12_tables_15 fkX12_84 rfl rfl rfl ?_
    refine wa_iload_n dX12_tables_18 3 rfl rfl ?_
    refine wa_iconst (v := 0) dX12_tables_19 rfl ?_
    obtain ⟨hi9, hF⟩ := hF
    refine wb_iast (j := x3.toNatClampNeg) dX12_tables_20 rfl hi9 rfl ?_
    refine wa_iinc (v := x3 + 1) (lv' := [(3, .int (x3 + 1)), (0, .ref 118), (1, .int x1), (2, .int x2)]) dX12_tables_21 3 rfl rfl rfl rfl ?_
    refine wa_goto (tgt := 7) dX12_tables_24 rfl ?_
    exact wa_pick [1, 2, 3, 0] rfl hF

theorem bX12_tables_34 {X : a_X} {ad : Nat → Nat} {ca : Nat → ClassId} {d : Nat} {Post : Option Value → a_M → a_P → Prop} {x : Nat} {M : a_M} (x2 : Int32) (x3 : Int32)  (hF : ((2 ≤ x3 → (∃ Q1 : a_M → Prop, Mt X ad ca LY d yX12_takesNext cX12_takesNext 2 none [.ref 118] M (PT x) (q_v (PT x) Q1) ∧ ∀ M1, Q1 M1 → Post none M1 (PT x))) ∧ (¬ 2 ≤ x3 → WA X ad ca LY RX12 cX12_tables 5 none (d + 1) 0 0 (a_E X ad ca LY Post) 42 [(0, .ref 118), (2, .int x2), (3, .int x3), (4, .int 0)] [] M (PT x)))) : WA X ad ca LY RX12 cX12_tables 5 none (d + 1) 0 0 (a_E X ad ca LY Post) 34 [(0, .ref 118), (2, .int x2), (3, .int x3)] [] M (PT x) := by
  refine wa_iload_n dX12_tables_34 2 rfl rfl ?_
  refine wa_iconst (v := 2) dX12_tables_35 rfl ?_
  refine wa_icmp_ge (tgt := 173) dX12_tables_36 rfl (fun hc => ?_) (fun hc => ?_)
  · replace hF := hF.1 hc
    refine wa_aload_n dX12_tables_173 0 rfl rfl ?_
    obtain ⟨Q1, hM9, hF⟩ := hF
    refine wa_callV [] dX12_tables_174 (mmX12_takesNext _ _) mlX12_307 mnX12_takesNext mseX12_takesNext rfl rfl rfl rfl (a_dlt d) rfl rfl hM9 ?_
    rintro r9 M1 P9 ⟨rfl, rfl, hq9⟩
    replace hF := hF M1 hq9
    simp only [Option.toList, List.nil_append]
    exact wa_vret dX12_tables_177 rfl hF
  · replace hF := hF.2 hc
    refine wa_iconst (v := 0) dX12_tables_39 rfl ?_
    refine wa_istore (lv' := [(4, .int 0), (0, .ref 118), (2, .int x2), (3, .int x3)]) dX12_tables_40 rfl rfl ?_
    exact wa_pick [1, 2, 3, 0] rfl hF

theorem bX12_tables_42 {X : a_X} {ad : Nat → Nat} {ca : Nat → ClassId} {d : Nat} {kc ks : Nat} {QF : List Frame → Array Value → State → State → Prop} {x : Nat} {M : a_M} (x2 : Int32) (x3 : Int32) (x4 : Int32)  (hF : (((2 * x2) ≤ x4 → WA X ad ca LY RX12 cX12_tables 5 none (d + 1) kc ks QF 87 [(0, .ref 118), (2, .int x2), (3, .int x3), (4, .int 0)] [] M (PT x)) ∧ (¬ (2 * x2) ≤ x4 → (¬ x2 = 0 ∧ ((¬ (x4 / x2) = x3 → (vp_in x4 256 ∧ WA X ad ca LY RX12 cX12_tables 5 none (d + 1) kc ks QF 42 [(0, .ref 118), (2, .int x2), (3, .int x3), (4, .int (x4 + 1))] [] (ms M 137 x4.toNatClampNeg 0) (PT x))) ∧ ((x4 / x2) = x3 → (¬ x2 = 0 ∧ (vp_in (x4 - x4 / x2 * x2) 128 ∧ (vp_in x4 256 ∧ WA X ad ca LY RX12 cX12_tables 5 none (d + 1) kc ks QF 42 [(0, .ref 118), (2, .int x2), (3, .int x3), (4, .int (x4 + 1))] [] (ms M 137 x4.toNatClampNeg (M 140 ((x4 - x4 / x2 * x2).toNatClampNeg))) (PT x)))))))))) : WA X ad ca LY RX12 cX12_tables 5 none (d + 1) kc ks QF 42 [(0, .ref 118), (2, .int x2), (3, .int x3), (4, .int x4)] [] M (PT x) := by
  refine wa_iload dX12_tables_42 3 rfl ?_
  refine wa_iconst (v := 2) dX12_tables_44 rfl ?_
  refine wa_iload_n dX12_tables_45 1 rfl rfl ?_
  refine wa_imul dX12_tables_46 ?_
  refine wa_icmp_ge (tgt := 84) dX12_tables_47 rfl (fun hc => ?_) (fun hc => ?_)
  · replace hF := hF.1 hc
    refine wa_iconst (v := 0) dX12_tables_84 rfl ?_
    refine wa_istore (lv' := [(4, .int 0), (0, .ref 118), (2, .int x2), (3, .int x3)]) dX12_tables_85 rfl rfl ?_
    exact wa_pick [1, 2, 3, 0] rfl hF
  · replace hF := hF.2 hc
    refine wa_aload_n dX12_tables_50 0 rfl rfl ?_
    refine wa_getr (r := 137) dX12_tables_51 fkX12_72 rfl rfl rfl ?_
    refine wa_iload dX12_tables_54 3 rfl ?_
    refine wa_iload dX12_tables_56 3 rfl ?_
    refine wa_iload_n dX12_tables_58 1 rfl rfl ?_
    obtain ⟨hn9, hF⟩ := hF
    refine wa_idiv dX12_tables_59 hn9 ?_
    refine wa_iload_n dX12_tables_60 2 rfl rfl ?_
    refine wa_icmp_ne (tgt := 76) dX12_tables_61 rfl (fun hc => ?_) (fun hc => ?_)
    · replace hF := hF.1 hc
      refine wa_iconst (v := 0) dX12_tables_76 rfl ?_
      obtain ⟨hi9, hF⟩ := hF
      refine wb_iast (j := x4.toNatClampNeg) dX12_tables_77 rfl hi9 rfl ?_
      refine wa_iinc (v := x4 + 1) (lv' := [(4, .int (x4 + 1)), (0, .ref 118), (2, .int x2), (3, .int x3)]) dX12_tables_78 3 rfl rfl rfl rfl ?_
      refine wa_goto (tgt := 42) dX12_tables_81 rfl ?_
      exact wa_pick [1, 2, 3, 0] rfl hF
    · replace hF := hF.2 hc
      refine wa_aload_n dX12_tables_64 0 rfl rfl ?_
      refine wa_getr (r := 140) dX12_tables_65 fkX12_81 rfl rfl rfl ?_
      refine wa_iload dX12_tables_68 3 rfl ?_
      refine wa_iload_n dX12_tables_70 1 rfl rfl ?_
      obtain ⟨hn9, hF⟩ := hF
      refine wa_irem dX12_tables_71 hn9 ?_
      obtain ⟨hi9, hF⟩ := hF
      refine wb_iald (j := (x4 - x4 / x2 * x2).toNatClampNeg) (v := M 140 ((x4 - x4 / x2 * x2).toNatClampNeg)) dX12_tables_72 rfl hi9 rfl rfl ?_
      refine wa_goto (tgt := 77) dX12_tables_73 rfl ?_
      obtain ⟨hi9, hF⟩ := hF
      refine wb_iast (j := x4.toNatClampNeg) dX12_tables_77 rfl hi9 rfl ?_
      refine wa_iinc (v := x4 + 1) (lv' := [(4, .int (x4 + 1)), (0, .ref 118), (2, .int x2), (3, .int x3)]) dX12_tables_78 3 rfl rfl rfl rfl ?_
      refine wa_goto (tgt := 42) dX12_tables_81 rfl ?_
      exact wa_pick [1, 2, 3, 0] rfl hF

theorem bX12_tables_87 {X : a_X} {ad : Nat → Nat} {ca : Nat → ClassId} {d : Nat} {kc ks : Nat} {QF : List Frame → Array Value → State → State → Prop} {x : Nat} {M : a_M} (x2 : Int32) (x3 : Int32) (x4 : Int32)  (hF : (((M 119 0) ≤ x4 → WA X ad ca LY RX12 cX12_tables 5 none (d + 1) kc ks QF 122 [(0, .ref 118), (2, .int x2), (3, .int x3), (4, .int 0)] [] M (PT x)) ∧ (¬ (M 119 0) ≤ x4 → (∃ Q1 : a_M → Prop, Mt X ad ca LY d yX12_exchanges cX12_exchanges 6 none [.ref 118, .int (M 119 0), .int x4, .int (2 * x2)] M (PT x) (q_v (PT x) Q1) ∧ ∀ M1, Q1 M1 → WA X ad ca LY RX12 cX12_tables 5 none (d + 1) kc ks QF 87 [(0, .ref 118), (2, .int x2), (3, .int x3), (4, .int (x4 + 1))] [] M1 (PT x))))) : WA X ad ca LY RX12 cX12_tables 5 none (d + 1) kc ks QF 87 [(0, .ref 118), (2, .int x2), (3, .int x3), (4, .int x4)] [] M (PT x) := by
  refine wa_iload dX12_tables_87 3 rfl ?_
  refine wa_aload_n dX12_tables_89 0 rfl rfl ?_
  refine wa_getr (r := 119) dX12_tables_90 fkX12_7 rfl rfl rfl ?_
  refine wa_iconst (v := 0) dX12_tables_93 rfl ?_
  refine wb_iald (j := 0) (v := M 119 0) dX12_tables_94 rfl (by unfold vp_in; decide) rfl rfl ?_
  refine wa_icmp_ge (tgt := 119) dX12_tables_95 rfl (fun hc => ?_) (fun hc => ?_)
  · replace hF := hF.1 hc
    refine wa_iconst (v := 0) dX12_tables_119 rfl ?_
    refine wa_istore (lv' := [(4, .int 0), (0, .ref 118), (2, .int x2), (3, .int x3)]) dX12_tables_120 rfl rfl ?_
    exact wa_pick [1, 2, 3, 0] rfl hF
  · replace hF := hF.2 hc
    refine wa_aload_n dX12_tables_98 0 rfl rfl ?_
    refine wa_aload_n dX12_tables_99 0 rfl rfl ?_
    refine wa_getr (r := 119) dX12_tables_100 fkX12_7 rfl rfl rfl ?_
    refine wa_iconst (v := 0) dX12_tables_103 rfl ?_
    refine wb_iald (j := 0) (v := M 119 0) dX12_tables_104 rfl (by unfold vp_in; decide) rfl rfl ?_
    refine wa_iload dX12_tables_105 3 rfl ?_
    refine wa_iconst (v := 2) dX12_tables_107 rfl ?_
    refine wa_iload_n dX12_tables_108 1 rfl rfl ?_
    refine wa_imul dX12_tables_109 ?_
    obtain ⟨Q1, hM9, hF⟩ := hF
    refine wa_callV [.int (M 119 0), .int x4, .int (2 * x2)] dX12_tables_110 (mmX12_exchanges _ _) mlX12_299 mnX12_exchanges mseX12_exchanges rfl rfl rfl rfl (a_dlt d) rfl rfl hM9 ?_
    rintro r9 M1 P9 ⟨rfl, rfl, hq9⟩
    replace hF := hF M1 hq9
    simp only [Option.toList, List.nil_append]
    refine wa_iinc (v := x4 + 1) (lv' := [(4, .int (x4 + 1)), (0, .ref 118), (2, .int x2), (3, .int x3)]) dX12_tables_113 3 rfl rfl rfl rfl ?_
    refine wa_goto (tgt := 87) dX12_tables_116 rfl ?_
    exact wa_pick [1, 2, 3, 0] rfl hF

theorem bX12_tables_122 {X : a_X} {ad : Nat → Nat} {ca : Nat → ClassId} {d : Nat} {kc ks : Nat} {QF : List Frame → Array Value → State → State → Prop} {x : Nat} {M : a_M} (x2 : Int32) (x3 : Int32) (x4 : Int32)  (hF : ((x2 ≤ x4 → WA X ad ca LY RX12 cX12_tables 5 none (d + 1) kc ks QF 34 [(0, .ref 118), (2, .int x2), (3, .int (x3 + 1))] [] M (PT x)) ∧ (¬ x2 ≤ x4 → (vp_in x4 128 ∧ (vp_in ((x3 * x2) + x4) 256 ∧ (¬ (M 119 2) = 0 ∧ (vp_in x4 128 ∧ WA X ad ca LY RX12 cX12_tables 5 none (d + 1) kc ks QF 122 [(0, .ref 118), (2, .int x2), (3, .int x3), (4, .int (x4 + 1))] [] (ms M 141 x4.toNatClampNeg (((M 141 x4.toNatClampNeg) + (M 137 (((x3 * x2) + x4).toNatClampNeg))) - ((M 141 x4.toNatClampNeg) + (M 137 (((x3 * x2) + x4).toNatClampNeg))) / (M 119 2) * (M 119 2))) (PT x)))))))) : WA X ad ca LY RX12 cX12_tables 5 none (d + 1) kc ks QF 122 [(0, .ref 118), (2, .int x2), (3, .int x3), (4, .int x4)] [] M (PT x) := by
  refine wa_iload dX12_tables_122 3 rfl ?_
  refine wa_iload_n dX12_tables_124 1 rfl rfl ?_
  refine wa_icmp_ge (tgt := 167) dX12_tables_125 rfl (fun hc => ?_) (fun hc => ?_)
  · replace hF := hF.1 hc
    refine wa_iinc (v := x3 + 1) (lv' := [(3, .int (x3 + 1)), (0, .ref 118), (2, .int x2), (4, .int x4)]) dX12_tables_167 2 rfl rfl rfl rfl ?_
    refine wa_goto (tgt := 34) dX12_tables_170 rfl ?_
    exact wa_pick [1, 2, 0] rfl hF
  · replace hF := hF.2 hc
    refine wa_aload_n dX12_tables_128 0 rfl rfl ?_
    refine wa_getr (r := 141) dX12_tables_129 fkX12_84 rfl rfl rfl ?_
    refine wa_iload dX12_tables_132 3 rfl ?_
    refine wa_aload_n dX12_tables_134 0 rfl rfl ?_
    refine wa_getr (r := 141) dX12_tables_135 fkX12_84 rfl rfl rfl ?_
    refine wa_iload dX12_tables_138 3 rfl ?_
    obtain ⟨hi9, hF⟩ := hF
    refine wb_iald (j := x4.toNatClampNeg) (v := M 141 x4.toNatClampNeg) dX12_tables_140 rfl hi9 rfl rfl ?_
    refine wa_aload_n dX12_tables_141 0 rfl rfl ?_
    refine wa_getr (r := 137) dX12_tables_142 fkX12_72 rfl rfl rfl ?_
    refine wa_iload_n dX12_tables_145 2 rfl rfl ?_
    refine wa_iload_n dX12_tables_146 1 rfl rfl ?_
    refine wa_imul dX12_tables_147 ?_
    refine wa_iload dX12_tables_148 3 rfl ?_
    refine wa_iadd dX12_tables_150 ?_
    obtain ⟨hi9, hF⟩ := hF
    refine wb_iald (j := ((x3 * x2) + x4).toNatClampNeg) (v := M 137 (((x3 * x2) + x4).toNatClampNeg)) dX12_tables_151 rfl hi9 rfl rfl ?_
    refine wa_iadd dX12_tables_152 ?_
    refine wa_aload_n dX12_tables_153 0 rfl rfl ?_
    refine wa_getr (r := 119) dX12_tables_154 fkX12_7 rfl rfl rfl ?_
    refine wa_iconst (v := 2) dX12_tables_157 rfl ?_
    refine wb_iald (j := 2) (v := M 119 2) dX12_tables_158 rfl (by unfold vp_in; decide) rfl rfl ?_
    obtain ⟨hn9, hF⟩ := hF
    refine wa_irem dX12_tables_159 hn9 ?_
    obtain ⟨hi9, hF⟩ := hF
    refine wb_iast (j := x4.toNatClampNeg) dX12_tables_160 rfl hi9 rfl ?_
    refine wa_iinc (v := x4 + 1) (lv' := [(4, .int (x4 + 1)), (0, .ref 118), (2, .int x2), (3, .int x3)]) dX12_tables_161 3 rfl rfl rfl rfl ?_
    refine wa_goto (tgt := 122) dX12_tables_164 rfl ?_
    exact wa_pick [1, 2, 3, 0] rfl hF

theorem eX12_tables {X : a_X} {ad : Nat → Nat} {ca : Nat → ClassId} {d : Nat} {Post : Option Value → a_M → a_P → Prop} {x : Nat} {M : a_M} (x1 : Int32) (h : WA X ad ca LY RX12 cX12_tables 5 none d 0 0 (a_E X ad ca LY Post) 0 [(0, .ref 118), (1, .int x1)] [] M (PT x)) : Mt X ad ca LY d yX12_tables cX12_tables 5 none [.ref 118, .int x1] M (PT x) Post := Mt.of (lv := [(0, .ref 118), (1, .int x1)]) (by decide +kernel) rfl rfl rfl (wa_pick [0, 1] rfl h)

theorem bX12_shifted_0 {X : a_X} {ad : Nat → Nat} {ca : Nat → ClassId} {d : Nat} {Post : Option Value → a_M → a_P → Prop} {x : Nat} {M : a_M} (x1 : Int32)  (hF : (∃ Q1 : Int32 → a_M → Prop, Mt X ad ca LY d yX12_states cX12_states 1 (some FieldType.int) [.ref 118] M (PT x) (q_i (PT x) Q1) ∧ ∀ v1 M1, Q1 v1 M1 → Post (some (.int (((x1 <<< (1 &&& 31)) ||| (x1 >>> (((M 119 0) - 1) &&& 31))) &&& (v1 - 1)))) M1 (PT x))) : WA X ad ca LY RX12 cX12_shifted 2 (some FieldType.int) (d + 1) 0 0 (a_E X ad ca LY Post) 0 [(0, .ref 118), (1, .int x1)] [] M (PT x) := by
  refine wa_iload_n dX12_shifted_0 1 rfl rfl ?_
  refine wa_iconst (v := 1) dX12_shifted_1 rfl ?_
  refine wa_ishl dX12_shifted_2 ?_
  refine wa_iload_n dX12_shifted_3 1 rfl rfl ?_
  refine wa_aload_n dX12_shifted_4 0 rfl rfl ?_
  refine wa_getr (r := 119) dX12_shifted_5 fkX12_7 rfl rfl rfl ?_
  refine wa_iconst (v := 0) dX12_shifted_8 rfl ?_
  refine wb_iald (j := 0) (v := M 119 0) dX12_shifted_9 rfl (by unfold vp_in; decide) rfl rfl ?_
  refine wa_iconst (v := 1) dX12_shifted_10 rfl ?_
  refine wa_isub dX12_shifted_11 ?_
  refine wa_ishr dX12_shifted_12 ?_
  refine wa_ior dX12_shifted_13 ?_
  refine wa_aload_n dX12_shifted_14 0 rfl rfl ?_
  obtain ⟨Q1, hM9, hF⟩ := hF
  refine wa_callV [] dX12_shifted_15 (mmX12_states _ _) mlX12_128 mnX12_states mseX12_states rfl rfl rfl rfl (a_dlt d) rfl rfl hM9 ?_
  rintro r9 M1 P9 ⟨v1, rfl, rfl, hq9⟩
  replace hF := hF v1 M1 hq9
  simp only [Option.toList, List.cons_append, List.nil_append]
  refine wa_iconst (v := 1) dX12_shifted_18 rfl ?_
  refine wa_isub dX12_shifted_19 ?_
  refine wa_iand dX12_shifted_20 ?_
  exact wa_iret dX12_shifted_21 rfl rfl hF

theorem eX12_shifted {X : a_X} {ad : Nat → Nat} {ca : Nat → ClassId} {d : Nat} {Post : Option Value → a_M → a_P → Prop} {x : Nat} {M : a_M} (x1 : Int32) (h : WA X ad ca LY RX12 cX12_shifted 2 (some FieldType.int) d 0 0 (a_E X ad ca LY Post) 0 [(0, .ref 118), (1, .int x1)] [] M (PT x)) : Mt X ad ca LY d yX12_shifted cX12_shifted 2 (some FieldType.int) [.ref 118, .int x1] M (PT x) Post := Mt.of (lv := [(0, .ref 118), (1, .int x1)]) (by decide +kernel) rfl rfl rfl (wa_pick [0, 1] rfl h)

theorem bX12_sum_0 {X : a_X} {ad : Nat → Nat} {ca : Nat → ClassId} {d : Nat} {Post : Option Value → a_M → a_P → Prop} {x : Nat} {M : a_M} (x1 : Int32) (x2 : Int32)  (hF : (∃ Q1 : Int32 → a_M → Prop, Mt X ad ca LY d yX12_isState cX12_isState 2 (some FieldType.boolean) [.ref 118, .int x1] M (PT x) (q_i (PT x) Q1) ∧ ∀ v1 M1, Q1 v1 M1 → ((v1 = 0 → WA X ad ca LY RX12 cX12_sum 3 (some FieldType.int) (d + 1) 0 0 (a_E X ad ca LY Post) 16 [] [] M1 (PT x)) ∧ (¬ v1 = 0 → (∃ Q2 : Int32 → a_M → Prop, Mt X ad ca LY d yX12_isState cX12_isState 2 (some FieldType.boolean) [.ref 118, .int x2] M1 (PT x) (q_i (PT x) Q2) ∧ ∀ v2 M2, Q2 v2 M2 → ((¬ v2 = 0 → (∃ Q3 : a_M → Prop, Mt X ad ca LY d yX12_actedIs cX12_actedIs 3 none [.ref 118, .int x1] M2 (PT x) (q_v (PT x) Q3) ∧ ∀ M3, Q3 M3 → (∃ Q4 : a_M → Prop, Mt X ad ca LY d yX12_sums cX12_sums 1 none [.ref 118] M3 (PT x) (q_v (PT x) Q4) ∧ ∀ M4, Q4 M4 → (vp_in x2 128 ∧ Post (some (.int (M4 140 x2.toNatClampNeg))) M4 (PT x))))) ∧ (v2 = 0 → WA X ad ca LY RX12 cX12_sum 3 (some FieldType.int) (d + 1) 0 0 (a_E X ad ca LY Post) 16 [] [] M2 (PT x)))))))) : WA X ad ca LY RX12 cX12_sum 3 (some FieldType.int) (d + 1) 0 0 (a_E X ad ca LY Post) 0 [(0, .ref 118), (1, .int x1), (2, .int x2)] [] M (PT x) := by
  refine wa_aload_n dX12_sum_0 0 rfl rfl ?_
  refine wa_iload_n dX12_sum_1 1 rfl rfl ?_
  obtain ⟨Q1, hM9, hF⟩ := hF
  refine wa_callV [.int x1] dX12_sum_2 (mmX12_isState _ _) mlX12_314 mnX12_isState mseX12_isState rfl rfl rfl rfl (a_dlt d) rfl rfl hM9 ?_
  rintro r9 M1 P9 ⟨v1, rfl, rfl, hq9⟩
  replace hF := hF v1 M1 hq9
  simp only [Option.toList, List.cons_append, List.nil_append]
  refine wa_if_eq (tgt := 16) dX12_sum_5 rfl (fun hc => ?_) (fun hc => ?_)
  · replace hF := hF.1 hc
    exact wa_pick [] rfl hF
  · replace hF := hF.2 hc
    refine wa_aload_n dX12_sum_8 0 rfl rfl ?_
    refine wa_iload_n dX12_sum_9 2 rfl rfl ?_
    obtain ⟨Q2, hM9, hF⟩ := hF
    refine wa_callV [.int x2] dX12_sum_10 (mmX12_isState _ _) mlX12_314 mnX12_isState mseX12_isState rfl rfl rfl rfl (a_dlt d) rfl rfl hM9 ?_
    rintro r9 M2 P9 ⟨v2, rfl, rfl, hq9⟩
    replace hF := hF v2 M2 hq9
    simp only [Option.toList, List.cons_append, List.nil_append]
    refine wa_if_ne (tgt := 18) dX12_sum_13 rfl (fun hc => ?_) (fun hc => ?_)
    · replace hF := hF.1 hc
      refine wa_aload_n dX12_sum_18 0 rfl rfl ?_
      refine wa_iload_n dX12_sum_19 1 rfl rfl ?_
      obtain ⟨Q3, hM9, hF⟩ := hF
      refine wa_callV [.int x1] dX12_sum_20 (mmX12_actedIs _ _) mlX12_317 mnX12_actedIs mseX12_actedIs rfl rfl rfl rfl (a_dlt d) rfl rfl hM9 ?_
      rintro r9 M3 P9 ⟨rfl, rfl, hq9⟩
      replace hF := hF M3 hq9
      simp only [Option.toList, List.nil_append]
      refine wa_aload_n dX12_sum_23 0 rfl rfl ?_
      obtain ⟨Q4, hM9, hF⟩ := hF
      refine wa_callV [] dX12_sum_24 (mmX12_sums _ _) mlX12_320 mnX12_sums mseX12_sums rfl rfl rfl rfl (a_dlt d) rfl rfl hM9 ?_
      rintro r9 M4 P9 ⟨rfl, rfl, hq9⟩
      replace hF := hF M4 hq9
      simp only [Option.toList, List.nil_append]
      refine wa_aload_n dX12_sum_27 0 rfl rfl ?_
      refine wa_getr (r := 140) dX12_sum_28 fkX12_81 rfl rfl rfl ?_
      refine wa_iload_n dX12_sum_31 2 rfl rfl ?_
      obtain ⟨hi9, hF⟩ := hF
      refine wb_iald (j := x2.toNatClampNeg) (v := M4 140 x2.toNatClampNeg) dX12_sum_32 rfl hi9 rfl rfl ?_
      exact wa_iret dX12_sum_33 rfl rfl hF
    · replace hF := hF.2 hc
      exact wa_pick [] rfl hF

theorem bX12_sum_16 {X : a_X} {ad : Nat → Nat} {ca : Nat → ClassId} {d : Nat} {Post : Option Value → a_M → a_P → Prop} {x : Nat} {M : a_M}   (hF : Post (some (.int (-1))) M (PT x)) : WA X ad ca LY RX12 cX12_sum 3 (some FieldType.int) (d + 1) 0 0 (a_E X ad ca LY Post) 16 [] [] M (PT x) := by
  refine wa_iconst (v := (-1)) dX12_sum_16 rfl ?_
  exact wa_iret dX12_sum_17 rfl rfl hF

theorem eX12_sum {X : a_X} {ad : Nat → Nat} {ca : Nat → ClassId} {d : Nat} {Post : Option Value → a_M → a_P → Prop} {x : Nat} {M : a_M} (x1 : Int32) (x2 : Int32) (h : WA X ad ca LY RX12 cX12_sum 3 (some FieldType.int) d 0 0 (a_E X ad ca LY Post) 0 [(0, .ref 118), (1, .int x1), (2, .int x2)] [] M (PT x)) : Mt X ad ca LY d yX12_sum cX12_sum 3 (some FieldType.int) [.ref 118, .int x1, .int x2] M (PT x) Post := Mt.of (lv := [(0, .ref 118), (1, .int x1), (2, .int x2)]) (by decide +kernel) rfl rfl rfl (wa_pick [0, 1, 2] rfl h)

theorem bX12_table_0 {X : a_X} {ad : Nat → Nat} {ca : Nat → ClassId} {d : Nat} {Post : Option Value → a_M → a_P → Prop} {x : Nat} {M : a_M} (x1 : Int32) (x2 : Int32) (x3 : Int32)  (hF : (∃ Q1 : Int32 → a_M → Prop, Mt X ad ca LY d yX12_isNumber cX12_isNumber 2 (some FieldType.boolean) [.ref 118, .int x1] M (PT x) (q_i (PT x) Q1) ∧ ∀ v1 M1, Q1 v1 M1 → ((v1 = 0 → WA X ad ca LY RX12 cX12_table 4 (some FieldType.int) (d + 1) 0 0 (a_E X ad ca LY Post) 24 [] [] M1 (PT x)) ∧ (¬ v1 = 0 → (∃ Q2 : Int32 → a_M → Prop, Mt X ad ca LY d yX12_isState cX12_isState 2 (some FieldType.boolean) [.ref 118, .int x2] M1 (PT x) (q_i (PT x) Q2) ∧ ∀ v2 M2, Q2 v2 M2 → ((v2 = 0 → WA X ad ca LY RX12 cX12_table 4 (some FieldType.int) (d + 1) 0 0 (a_E X ad ca LY Post) 24 [] [] M2 (PT x)) ∧ (¬ v2 = 0 → (∃ Q3 : Int32 → a_M → Prop, Mt X ad ca LY d yX12_isState cX12_isState 2 (some FieldType.boolean) [.ref 118, .int x3] M2 (PT x) (q_i (PT x) Q3) ∧ ∀ v3 M3, Q3 v3 M3 → ((¬ v3 = 0 → (∃ Q4 : a_M → Prop, Mt X ad ca LY d yX12_actedIs cX12_actedIs 3 none [.ref 118, .int x2] M3 (PT x) (q_v (PT x) Q4) ∧ ∀ M4, Q4 M4 → (∃ Q5 : a_M → Prop, Mt X ad ca LY d yX12_tables cX12_tables 5 none [.ref 118, .int x1] M4 (PT x) (q_v (PT x) Q5) ∧ ∀ M5, Q5 M5 → (vp_in x3 128 ∧ Post (some (.int (M5 140 x3.toNatClampNeg))) M5 (PT x))))) ∧ (v3 = 0 → WA X ad ca LY RX12 cX12_table 4 (some FieldType.int) (d + 1) 0 0 (a_E X ad ca LY Post) 24 [] [] M3 (PT x))))))))))) : WA X ad ca LY RX12 cX12_table 4 (some FieldType.int) (d + 1) 0 0 (a_E X ad ca LY Post) 0 [(0, .ref 118), (1, .int x1), (2, .int x2), (3, .int x3)] [] M (PT x) := by
  refine wa_aload_n dX12_table_0 0 rfl rfl ?_
  refine wa_iload_n dX12_table_1 1 rfl rfl ?_
  obtain ⟨Q1, hM9, hF⟩ := hF
  refine wa_callV [.int x1] dX12_table_2 (mmX12_isNumber _ _) mlX12_135 mnX12_isNumber mseX12_isNumber rfl rfl rfl rfl (a_dlt d) rfl rfl hM9 ?_
  rintro r9 M1 P9 ⟨v1, rfl, rfl, hq9⟩
  replace hF := hF v1 M1 hq9
  simp only [Option.toList, List.cons_append, List.nil_append]
  refine wa_if_eq (tgt := 24) dX12_table_5 rfl (fun hc => ?_) (fun hc => ?_)
  · replace hF := hF.1 hc
    exact wa_pick [] rfl hF
  · replace hF := hF.2 hc
    refine wa_aload_n dX12_table_8 0 rfl rfl ?_
    refine wa_iload_n dX12_table_9 2 rfl rfl ?_
    obtain ⟨Q2, hM9, hF⟩ := hF
    refine wa_callV [.int x2] dX12_table_10 (mmX12_isState _ _) mlX12_314 mnX12_isState mseX12_isState rfl rfl rfl rfl (a_dlt d) rfl rfl hM9 ?_
    rintro r9 M2 P9 ⟨v2, rfl, rfl, hq9⟩
    replace hF := hF v2 M2 hq9
    simp only [Option.toList, List.cons_append, List.nil_append]
    refine wa_if_eq (tgt := 24) dX12_table_13 rfl (fun hc => ?_) (fun hc => ?_)
    · replace hF := hF.1 hc
      exact wa_pick [] rfl hF
    · replace hF := hF.2 hc
      refine wa_aload_n dX12_table_16 0 rfl rfl ?_
      refine wa_iload_n dX12_table_17 3 rfl rfl ?_
      obtain ⟨Q3, hM9, hF⟩ := hF
      refine wa_callV [.int x3] dX12_table_18 (mmX12_isState _ _) mlX12_314 mnX12_isState mseX12_isState rfl rfl rfl rfl (a_dlt d) rfl rfl hM9 ?_
      rintro r9 M3 P9 ⟨v3, rfl, rfl, hq9⟩
      replace hF := hF v3 M3 hq9
      simp only [Option.toList, List.cons_append, List.nil_append]
      refine wa_if_ne (tgt := 26) dX12_table_21 rfl (fun hc => ?_) (fun hc => ?_)
      · replace hF := hF.1 hc
        refine wa_aload_n dX12_table_26 0 rfl rfl ?_
        refine wa_iload_n dX12_table_27 2 rfl rfl ?_
        obtain ⟨Q4, hM9, hF⟩ := hF
        refine wa_callV [.int x2] dX12_table_28 (mmX12_actedIs _ _) mlX12_317 mnX12_actedIs mseX12_actedIs rfl rfl rfl rfl (a_dlt d) rfl rfl hM9 ?_
        rintro r9 M4 P9 ⟨rfl, rfl, hq9⟩
        replace hF := hF M4 hq9
        simp only [Option.toList, List.nil_append]
        refine wa_aload_n dX12_table_31 0 rfl rfl ?_
        refine wa_iload_n dX12_table_32 1 rfl rfl ?_
        obtain ⟨Q5, hM9, hF⟩ := hF
        refine wa_callV [.int x1] dX12_table_33 (mmX12_tables _ _) mlX12_323 mnX12_tables mseX12_tables rfl rfl rfl rfl (a_dlt d) rfl rfl hM9 ?_
        rintro r9 M5 P9 ⟨rfl, rfl, hq9⟩
        replace hF := hF M5 hq9
        simp only [Option.toList, List.nil_append]
        refine wa_aload_n dX12_table_36 0 rfl rfl ?_
        refine wa_getr (r := 140) dX12_table_37 fkX12_81 rfl rfl rfl ?_
        refine wa_iload_n dX12_table_40 3 rfl rfl ?_
        obtain ⟨hi9, hF⟩ := hF
        refine wb_iald (j := x3.toNatClampNeg) (v := M5 140 x3.toNatClampNeg) dX12_table_41 rfl hi9 rfl rfl ?_
        exact wa_iret dX12_table_42 rfl rfl hF
      · replace hF := hF.2 hc
        exact wa_pick [] rfl hF

theorem bX12_table_24 {X : a_X} {ad : Nat → Nat} {ca : Nat → ClassId} {d : Nat} {Post : Option Value → a_M → a_P → Prop} {x : Nat} {M : a_M}   (hF : Post (some (.int (-1))) M (PT x)) : WA X ad ca LY RX12 cX12_table 4 (some FieldType.int) (d + 1) 0 0 (a_E X ad ca LY Post) 24 [] [] M (PT x) := by
  refine wa_iconst (v := (-1)) dX12_table_24 rfl ?_
  exact wa_iret dX12_table_25 rfl rfl hF

theorem eX12_table {X : a_X} {ad : Nat → Nat} {ca : Nat → ClassId} {d : Nat} {Post : Option Value → a_M → a_P → Prop} {x : Nat} {M : a_M} (x1 : Int32) (x2 : Int32) (x3 : Int32) (h : WA X ad ca LY RX12 cX12_table 4 (some FieldType.int) d 0 0 (a_E X ad ca LY Post) 0 [(0, .ref 118), (1, .int x1), (2, .int x2), (3, .int x3)] [] M (PT x)) : Mt X ad ca LY d yX12_table cX12_table 4 (some FieldType.int) [.ref 118, .int x1, .int x2, .int x3] M (PT x) Post := Mt.of (lv := [(0, .ref 118), (1, .int x1), (2, .int x2), (3, .int x3)]) (by decide +kernel) rfl rfl rfl (wa_pick [0, 1, 2, 3] rfl h)

theorem bX12_keepsOther_0 {X : a_X} {ad : Nat → Nat} {ca : Nat → ClassId} {d : Nat} {kc ks : Nat} {QF : List Frame → Array Value → State → State → Prop} {x : Nat} {M : a_M}   (hF : WA X ad ca LY RX12 cX12_keepsOther 2 none (d + 1) kc ks QF 2 [(0, .ref 118), (1, .int 0)] [] M (PT x)) : WA X ad ca LY RX12 cX12_keepsOther 2 none (d + 1) kc ks QF 0 [(0, .ref 118)] [] M (PT x) := by
  refine wa_iconst (v := 0) dX12_keepsOther_0 rfl ?_
  refine wa_istore_n (lv' := [(1, .int 0), (0, .ref 118)]) dX12_keepsOther_1 rfl rfl rfl ?_
  exact wa_pick [1, 0] rfl hF

theorem bX12_keepsOther_2 {X : a_X} {ad : Nat → Nat} {ca : Nat → ClassId} {d : Nat} {Post : Option Value → a_M → a_P → Prop} {x : Nat} {M : a_M} (x1 : Int32)  (hF : ((128 ≤ x1 → Post none M (PT x)) ∧ (¬ 128 ≤ x1 → (vp_in x1 128 ∧ (vp_in x1 128 ∧ WA X ad ca LY RX12 cX12_keepsOther 2 none (d + 1) 0 0 (a_E X ad ca LY Post) 2 [(0, .ref 118), (1, .int (x1 + 1))] [] (ms M 142 x1.toNatClampNeg (M 140 x1.toNatClampNeg)) (PT x)))))) : WA X ad ca LY RX12 cX12_keepsOther 2 none (d + 1) 0 0 (a_E X ad ca LY Post) 2 [(0, .ref 118), (1, .int x1)] [] M (PT x) := by
  refine wa_iload_n dX12_keepsOther_2 1 rfl rfl ?_
  refine wa_sipush (v := 128) dX12_keepsOther_3 rfl ?_
  refine wa_icmp_ge (tgt := 27) dX12_keepsOther_6 rfl (fun hc => ?_) (fun hc => ?_)
  · replace hF := hF.1 hc
    exact wa_vret dX12_keepsOther_27 rfl hF
  · replace hF := hF.2 hc
    refine wa_aload_n dX12_keepsOther_9 0 rfl rfl ?_
    refine wa_getr (r := 142) dX12_keepsOther_10 fkX12_87 rfl rfl rfl ?_
    refine wa_iload_n dX12_keepsOther_13 1 rfl rfl ?_
    refine wa_aload_n dX12_keepsOther_14 0 rfl rfl ?_
    refine wa_getr (r := 140) dX12_keepsOther_15 fkX12_81 rfl rfl rfl ?_
    refine wa_iload_n dX12_keepsOther_18 1 rfl rfl ?_
    obtain ⟨hi9, hF⟩ := hF
    refine wb_iald (j := x1.toNatClampNeg) (v := M 140 x1.toNatClampNeg) dX12_keepsOther_19 rfl hi9 rfl rfl ?_
    obtain ⟨hi9, hF⟩ := hF
    refine wb_iast (j := x1.toNatClampNeg) dX12_keepsOther_20 rfl hi9 rfl ?_
    refine wa_iinc (v := x1 + 1) (lv' := [(1, .int (x1 + 1)), (0, .ref 118)]) dX12_keepsOther_21 1 rfl rfl rfl rfl ?_
    refine wa_goto (tgt := 2) dX12_keepsOther_24 rfl ?_
    exact wa_pick [1, 0] rfl hF

theorem eX12_keepsOther {X : a_X} {ad : Nat → Nat} {ca : Nat → ClassId} {d : Nat} {Post : Option Value → a_M → a_P → Prop} {x : Nat} {M : a_M}  (h : WA X ad ca LY RX12 cX12_keepsOther 2 none d 0 0 (a_E X ad ca LY Post) 0 [(0, .ref 118)] [] M (PT x)) : Mt X ad ca LY d yX12_keepsOther cX12_keepsOther 2 none [.ref 118] M (PT x) Post := Mt.of (lv := [(0, .ref 118)]) (by decide +kernel) rfl rfl rfl (wa_pick [0] rfl h)

theorem bX12_isOther_0 {X : a_X} {ad : Nat → Nat} {ca : Nat → ClassId} {d : Nat} {kc ks : Nat} {QF : List Frame → Array Value → State → State → Prop} {x : Nat} {M : a_M}   (hF : WA X ad ca LY RX12 cX12_isOther 3 (some FieldType.boolean) (d + 1) kc ks QF 4 [(0, .ref 118), (1, .int 1), (2, .int 0)] [] M (PT x)) : WA X ad ca LY RX12 cX12_isOther 3 (some FieldType.boolean) (d + 1) kc ks QF 0 [(0, .ref 118)] [] M (PT x) := by
  refine wa_iconst (v := 1) dX12_isOther_0 rfl ?_
  refine wa_istore_n (lv' := [(1, .int 1), (0, .ref 118)]) dX12_isOther_1 rfl rfl rfl ?_
  refine wa_iconst (v := 0) dX12_isOther_2 rfl ?_
  refine wa_istore_n (lv' := [(2, .int 0), (1, .int 1), (0, .ref 118)]) dX12_isOther_3 rfl rfl rfl ?_
  exact wa_pick [2, 1, 0] rfl hF

theorem bX12_isOther_4 {X : a_X} {ad : Nat → Nat} {ca : Nat → ClassId} {d : Nat} {Post : Option Value → a_M → a_P → Prop} {x : Nat} {M : a_M} (x1 : Int32) (x2 : Int32)  (hF : ((128 ≤ x2 → ((x1 = 0 ∨ x1 = 1) ∧ Post (some (.int x1)) M (PT x))) ∧ (¬ 128 ≤ x2 → ((x1 = 0 → WA X ad ca LY RX12 cX12_isOther 3 (some FieldType.boolean) (d + 1) 0 0 (a_E X ad ca LY Post) 34 [(0, .ref 118), (2, .int x2)] [] M (PT x)) ∧ (¬ x1 = 0 → (vp_in x2 128 ∧ (vp_in x2 128 ∧ ((¬ (M 142 x2.toNatClampNeg) = (M 140 x2.toNatClampNeg) → WA X ad ca LY RX12 cX12_isOther 3 (some FieldType.boolean) (d + 1) 0 0 (a_E X ad ca LY Post) 34 [(0, .ref 118), (2, .int x2)] [] M (PT x)) ∧ ((M 142 x2.toNatClampNeg) = (M 140 x2.toNatClampNeg) → WA X ad ca LY RX12 cX12_isOther 3 (some FieldType.boolean) (d + 1) 0 0 (a_E X ad ca LY Post) 4 [(0, .ref 118), (1, .int 1), (2, .int (x2 + 1))] [] M (PT x)))))))))) : WA X ad ca LY RX12 cX12_isOther 3 (some FieldType.boolean) (d + 1) 0 0 (a_E X ad ca LY Post) 4 [(0, .ref 118), (1, .int x1), (2, .int x2)] [] M (PT x) := by
  refine wa_iload_n dX12_isOther_4 2 rfl rfl ?_
  refine wa_sipush (v := 128) dX12_isOther_5 rfl ?_
  refine wa_icmp_ge (tgt := 42) dX12_isOther_8 rfl (fun hc => ?_) (fun hc => ?_)
  · replace hF := hF.1 hc
    refine wa_iload_n dX12_isOther_42 1 rfl rfl ?_
    exact wa_iret dX12_isOther_43 rfl (a_bn hF.1) hF.2
  · replace hF := hF.2 hc
    refine wa_iload_n dX12_isOther_11 1 rfl rfl ?_
    refine wa_if_eq (tgt := 34) dX12_isOther_12 rfl (fun hc => ?_) (fun hc => ?_)
    · replace hF := hF.1 hc
      exact wa_pick [0, 2] rfl hF
    · replace hF := hF.2 hc
      refine wa_aload_n dX12_isOther_15 0 rfl rfl ?_
      refine wa_getr (r := 142) dX12_isOther_16 fkX12_87 rfl rfl rfl ?_
      refine wa_iload_n dX12_isOther_19 2 rfl rfl ?_
      obtain ⟨hi9, hF⟩ := hF
      refine wb_iald (j := x2.toNatClampNeg) (v := M 142 x2.toNatClampNeg) dX12_isOther_20 rfl hi9 rfl rfl ?_
      refine wa_aload_n dX12_isOther_21 0 rfl rfl ?_
      refine wa_getr (r := 140) dX12_isOther_22 fkX12_81 rfl rfl rfl ?_
      refine wa_iload_n dX12_isOther_25 2 rfl rfl ?_
      obtain ⟨hi9, hF⟩ := hF
      refine wb_iald (j := x2.toNatClampNeg) (v := M 140 x2.toNatClampNeg) dX12_isOther_26 rfl hi9 rfl rfl ?_
      refine wa_icmp_ne (tgt := 34) dX12_isOther_27 rfl (fun hc => ?_) (fun hc => ?_)
      · replace hF := hF.1 hc
        exact wa_pick [0, 2] rfl hF
      · replace hF := hF.2 hc
        refine wa_iconst (v := 1) dX12_isOther_30 rfl ?_
        refine wa_goto (tgt := 35) dX12_isOther_31 rfl ?_
        refine wa_istore_n (lv' := [(1, .int 1), (0, .ref 118), (2, .int x2)]) dX12_isOther_35 rfl rfl rfl ?_
        refine wa_iinc (v := x2 + 1) (lv' := [(2, .int (x2 + 1)), (1, .int 1), (0, .ref 118)]) dX12_isOther_36 2 rfl rfl rfl rfl ?_
        refine wa_goto (tgt := 4) dX12_isOther_39 rfl ?_
        exact wa_pick [2, 1, 0] rfl hF

theorem bX12_isOther_34 {X : a_X} {ad : Nat → Nat} {ca : Nat → ClassId} {d : Nat} {kc ks : Nat} {QF : List Frame → Array Value → State → State → Prop} {x : Nat} {M : a_M} (x2 : Int32)  (hF : WA X ad ca LY RX12 cX12_isOther 3 (some FieldType.boolean) (d + 1) kc ks QF 4 [(0, .ref 118), (1, .int 0), (2, .int (x2 + 1))] [] M (PT x)) : WA X ad ca LY RX12 cX12_isOther 3 (some FieldType.boolean) (d + 1) kc ks QF 34 [(0, .ref 118), (2, .int x2)] [] M (PT x) := by
  refine wa_iconst (v := 0) dX12_isOther_34 rfl ?_
  refine wa_istore_n (lv' := [(1, .int 0), (0, .ref 118), (2, .int x2)]) dX12_isOther_35 rfl rfl rfl ?_
  refine wa_iinc (v := x2 + 1) (lv' := [(2, .int (x2 + 1)), (1, .int 0), (0, .ref 118)]) dX12_isOther_36 2 rfl rfl rfl rfl ?_
  refine wa_goto (tgt := 4) dX12_isOther_39 rfl ?_
  exact wa_pick [2, 1, 0] rfl hF

theorem eX12_isOther {X : a_X} {ad : Nat → Nat} {ca : Nat → ClassId} {d : Nat} {Post : Option Value → a_M → a_P → Prop} {x : Nat} {M : a_M}  (h : WA X ad ca LY RX12 cX12_isOther 3 (some FieldType.boolean) d 0 0 (a_E X ad ca LY Post) 0 [(0, .ref 118)] [] M (PT x)) : Mt X ad ca LY d yX12_isOther cX12_isOther 3 (some FieldType.boolean) [.ref 118] M (PT x) Post := Mt.of (lv := [(0, .ref 118)]) (by decide +kernel) rfl rfl rfl (wa_pick [0] rfl h)
