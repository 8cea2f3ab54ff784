theorem bX1_holds_0 {X : a_X} {ad : Nat → Nat} {ca : Nat → ClassId} {d : Nat} {Post : Option Value → a_M → a_P → Prop} {x : Nat} {M : a_M} (x1 : Int32) (x2 : Int32)  (hF : ((x1 < x2 → (vp_in x2 97 ∧ (vp_in x1 97 ∧ (vp_in ((x1 - x2) + (M 18 2)) 97 ∧ (vp_in x2 97 ∧ (vp_in x1 97 ∧ (vp_in ((x1 - x2) + (M 18 2)) 97 ∧ (vp_in x2 97 ∧ (vp_in x1 97 ∧ (vp_in ((x1 - x2) + (M 18 2)) 97 ∧ (vp_in x2 97 ∧ (vp_in x1 97 ∧ (vp_in ((x1 - x2) + (M 18 2)) 97 ∧ (vp_in x2 97 ∧ (vp_in x1 97 ∧ (vp_in ((x1 - x2) + (M 18 2)) 97 ∧ (vp_in x2 97 ∧ (vp_in x1 97 ∧ (vp_in ((x1 - x2) + (M 18 2)) 97 ∧ (vp_in x2 97 ∧ (vp_in x1 97 ∧ (vp_in ((x1 - x2) + (M 18 2)) 97 ∧ (vp_in x2 97 ∧ (vp_in x1 97 ∧ (vp_in ((x1 - x2) + (M 18 2)) 97 ∧ (vp_in x2 97 ∧ (vp_in x1 97 ∧ (vp_in ((x1 - x2) + (M 18 2)) 97 ∧ (∃ Q1 : Int32 → a_M → Prop, Mt X ad ca LY d yX11_left cX11_left 3 (some FieldType.int) [.int (((((M 14 x2.toNatClampNeg) * (M 15 x1.toNatClampNeg)) * (M 16 (((x1 - x2) + (M 18 2)).toNatClampNeg))) - (((M 15 x2.toNatClampNeg) * (M 14 x1.toNatClampNeg)) * (M 16 (((x1 - x2) + (M 18 2)).toNatClampNeg)))) - (((M 16 x2.toNatClampNeg) * (M 16 x1.toNatClampNeg)) * (M 15 (((x1 - x2) + (M 18 2)).toNatClampNeg)))), .int (M 18 2)] M (PT x) (q_i (PT x) Q1) ∧ ∀ v1 M1, Q1 v1 M1 → ((¬ v1 = 0 → WA X ad ca LY RX1 cX1_holds 8 (some FieldType.boolean) (d + 1) 0 0 (a_E X ad ca LY Post) 258 [] [] M1 (PT x)) ∧ (v1 = 0 → (∃ Q2 : Int32 → a_M → Prop, Mt X ad ca LY d yX11_left cX11_left 3 (some FieldType.int) [.int (((((M 14 x2.toNatClampNeg) * (M 16 x1.toNatClampNeg)) * (M 14 (((x1 - x2) + (M 18 2)).toNatClampNeg))) - (((M 16 x2.toNatClampNeg) * (M 14 x1.toNatClampNeg)) * (M 16 (((x1 - x2) + (M 18 2)).toNatClampNeg)))) - (((M 15 x2.toNatClampNeg) * (M 16 x1.toNatClampNeg)) * (M 15 (((x1 - x2) + (M 18 2)).toNatClampNeg)))), .int (M 18 2)] M1 (PT x) (q_i (PT x) Q2) ∧ ∀ v2 M2, Q2 v2 M2 → ((¬ v2 = 0 → WA X ad ca LY RX1 cX1_holds 8 (some FieldType.boolean) (d + 1) 0 0 (a_E X ad ca LY Post) 258 [] [] M2 (PT x)) ∧ (v2 = 0 → (∃ Q3 : Int32 → a_M → Prop, Mt X ad ca LY d yX11_left cX11_left 3 (some FieldType.int) [.int (((((M 16 x2.toNatClampNeg) * (M 15 x1.toNatClampNeg)) * (M 14 (((x1 - x2) + (M 18 2)).toNatClampNeg))) - (((M 16 x2.toNatClampNeg) * (M 14 x1.toNatClampNeg)) * (M 15 (((x1 - x2) + (M 18 2)).toNatClampNeg)))) - (((M 15 x2.toNatClampNeg) * (M 16 x1.toNatClampNeg)) * (M 16 (((x1 - x2) + (M 18 2)).toNatClampNeg)))), .int (M 18 2)] M2 (PT x) (q_i (PT x) Q3) ∧ ∀ v3 M3, Q3 v3 M3 → ((¬ v3 = 0 → WA X ad ca LY RX1 cX1_holds 8 (some FieldType.boolean) (d + 1) 0 0 (a_E X ad ca LY Post) 258 [] [] M3 (PT x)) ∧ (v3 = 0 → Post (some (.int 1)) M3 (PT x)))))))))))))))))))))))))))))))))))))) ∧ (¬ x1 < x2 → (vp_in x2 97 ∧ (vp_in x1 97 ∧ (vp_in (x1 - x2) 97 ∧ (vp_in x2 97 ∧ (vp_in x1 97 ∧ (vp_in (x1 - x2) 97 ∧ (vp_in x2 97 ∧ (vp_in x1 97 ∧ (vp_in (x1 - x2) 97 ∧ (vp_in x2 97 ∧ (vp_in x1 97 ∧ (vp_in (x1 - x2) 97 ∧ (vp_in x2 97 ∧ (vp_in x1 97 ∧ (vp_in (x1 - x2) 97 ∧ (vp_in x2 97 ∧ (vp_in x1 97 ∧ (vp_in (x1 - x2) 97 ∧ (vp_in x2 97 ∧ (vp_in x1 97 ∧ (vp_in (x1 - x2) 97 ∧ (vp_in x2 97 ∧ (vp_in x1 97 ∧ (vp_in (x1 - x2) 97 ∧ (vp_in x2 97 ∧ (vp_in x1 97 ∧ (vp_in (x1 - x2) 97 ∧ (∃ Q4 : Int32 → a_M → Prop, Mt X ad ca LY d yX11_left cX11_left 3 (some FieldType.int) [.int (((((M 14 x2.toNatClampNeg) * (M 15 x1.toNatClampNeg)) * (M 16 ((x1 - x2).toNatClampNeg))) - (((M 15 x2.toNatClampNeg) * (M 14 x1.toNatClampNeg)) * (M 16 ((x1 - x2).toNatClampNeg)))) - (((M 16 x2.toNatClampNeg) * (M 16 x1.toNatClampNeg)) * (M 15 ((x1 - x2).toNatClampNeg)))), .int (M 18 2)] M (PT x) (q_i (PT x) Q4) ∧ ∀ v4 M4, Q4 v4 M4 → ((¬ v4 = 0 → WA X ad ca LY RX1 cX1_holds 8 (some FieldType.boolean) (d + 1) 0 0 (a_E X ad ca LY Post) 258 [] [] M4 (PT x)) ∧ (v4 = 0 → (∃ Q5 : Int32 → a_M → Prop, Mt X ad ca LY d yX11_left cX11_left 3 (some FieldType.int) [.int (((((M 14 x2.toNatClampNeg) * (M 16 x1.toNatClampNeg)) * (M 14 ((x1 - x2).toNatClampNeg))) - (((M 16 x2.toNatClampNeg) * (M 14 x1.toNatClampNeg)) * (M 16 ((x1 - x2).toNatClampNeg)))) - (((M 15 x2.toNatClampNeg) * (M 16 x1.toNatClampNeg)) * (M 15 ((x1 - x2).toNatClampNeg)))), .int (M 18 2)] M4 (PT x) (q_i (PT x) Q5) ∧ ∀ v5 M5, Q5 v5 M5 → ((¬ v5 = 0 → WA X ad ca LY RX1 cX1_holds 8 (some FieldType.boolean) (d + 1) 0 0 (a_E X ad ca LY Post) 258 [] [] M5 (PT x)) ∧ (v5 = 0 → (∃ Q6 : Int32 → a_M → Prop, Mt X ad ca LY d yX11_left cX11_left 3 (some FieldType.int) [.int (((((M 16 x2.toNatClampNeg) * (M 15 x1.toNatClampNeg)) * (M 14 ((x1 - x2).toNatClampNeg))) - (((M 16 x2.toNatClampNeg) * (M 14 x1.toNatClampNeg)) * (M 15 ((x1 - x2).toNatClampNeg)))) - (((M 15 x2.toNatClampNeg) * (M 16 x1.toNatClampNeg)) * (M 16 ((x1 - x2).toNatClampNeg)))), .int (M 18 2)] M5 (PT x) (q_i (PT x) Q6) ∧ ∀ v6 M6, Q6 v6 M6 → ((¬ v6 = 0 → WA X ad ca LY RX1 cX1_holds 8 (some FieldType.boolean) (d + 1) 0 0 (a_E X ad ca LY Post) 258 [] [] M6 (PT x)) ∧ (v6 = 0 → Post (some (.int 1)) M6 (PT x)))))))))))))))))))))))))))))))))))))))) : WA X ad ca LY RX1 cX1_holds 8 (some FieldType.boolean) (d + 1) 0 0 (a_E X ad ca LY Post) 0 [(0, .ref 13), (1, .int x1), (2, .int x2)] [] M (PT x) := by
  refine wa_iload_n dX1_holds_0 1 rfl rfl ?_
  refine wa_iload_n dX1_holds_1 2 rfl rfl ?_
  refine wa_icmp_lt (tgt := 11) dX1_holds_2 rfl (fun hc => ?_) (fun hc => ?_)
  · replace hF := hF.1 hc
    refine wa_iload_n dX1_holds_11 1 rfl rfl ?_
    refine wa_iload_n dX1_holds_12 2 rfl rfl ?_
    refine wa_isub dX1_holds_13 ?_
    refine wa_aload_n dX1_holds_14 0 rfl rfl ?_
    refine wa_getr (r := 18) dX1_holds_15 fkX1_27 rfl rfl rfl ?_
    refine wb_geti (v := M 18 2) dX1_holds_18 fkX1_61 rfl rfl rfl ?_
    refine wa_iadd dX1_holds_21 ?_
    refine wa_istore_n (lv' := [(3, .int ((x1 - x2) + (M 18 2))), (0, .ref 13), (1, .int x1), (2, .int x2)]) dX1_holds_22 rfl rfl rfl ?_
    refine wa_aload_n dX1_holds_23 1 rfl rfl ?_
    refine wa_getr (r := 18) dX1_holds_24 fkX1_27 rfl rfl rfl ?_
    refine wb_geti (v := M 18 2) dX1_holds_27 fkX1_61 rfl rfl rfl ?_
    refine wa_istore (lv' := [(4, .int (M 18 2)), (3, .int ((x1 - x2) + (M 18 2))), (0, .ref 13), (1, .int x1), (2, .int x2)]) dX1_holds_30 rfl rfl ?_
    refine wa_aload_n dX1_holds_32 2 rfl rfl ?_
    refine wa_getr (r := 14) dX1_holds_33 fkX1_9 rfl rfl rfl ?_
    refine wa_iload_n dX1_holds_36 4 rfl rfl ?_
    obtain ⟨hi9, hF⟩ := hF
    refine wb_iald (j := x2.toNatClampNeg) (v := M 14 x2.toNatClampNeg) dX1_holds_37 rfl hi9 rfl rfl ?_
    refine wa_aload_n dX1_holds_38 2 rfl rfl ?_
    refine wa_getr (r := 15) dX1_holds_39 fkX1_15 rfl rfl rfl ?_
    refine wa_iload_n dX1_holds_42 3 rfl rfl ?_
    obtain ⟨hi9, hF⟩ := hF
    refine wb_iald (j := x1.toNatClampNeg) (v := M 15 x1.toNatClampNeg) dX1_holds_43 rfl hi9 rfl rfl ?_
    refine wa_imul dX1_holds_44 ?_
    refine wa_aload_n dX1_holds_45 2 rfl rfl ?_
    refine wa_getr (r := 16) dX1_holds_46 fkX1_18 rfl rfl rfl ?_
    refine wa_iload_n dX1_holds_49 1 rfl rfl ?_
    obtain ⟨hi9, hF⟩ := hF
    refine wb_iald (j := ((x1 - x2) + (M 18 2)).toNatClampNeg) (v := M 16 (((x1 - x2) + (M 18 2)).toNatClampNeg)) dX1_holds_50 rfl hi9 rfl rfl ?_
    refine wa_imul dX1_holds_51 ?_
    refine wa_aload_n dX1_holds_52 2 rfl rfl ?_
    refine wa_getr (r := 15) dX1_holds_53 fkX1_15 rfl rfl rfl ?_
    refine wa_iload_n dX1_holds_56 4 rfl rfl ?_
    obtain ⟨hi9, hF⟩ := hF
    refine wb_iald (j := x2.toNatClampNeg) (v := M 15 x2.toNatClampNeg) dX1_holds_57 rfl hi9 rfl rfl ?_
    refine wa_aload_n dX1_holds_58 2 rfl rfl ?_
    refine wa_getr (r := 14) dX1_holds_59 fkX1_9 rfl rfl rfl ?_
    refine wa_iload_n dX1_holds_62 3 rfl rfl ?_
    obtain ⟨hi9, hF⟩ := hF
    refine wb_iald (j := x1.toNatClampNeg) (v := M 14 x1.toNatClampNeg) dX1_holds_63 rfl hi9 rfl rfl ?_
    refine wa_imul dX1_holds_64 ?_
    refine wa_aload_n dX1_holds_65 2 rfl rfl ?_
    refine wa_getr (r := 16) dX1_holds_66 fkX1_18 rfl rfl rfl ?_
    refine wa_iload_n dX1_holds_69 1 rfl rfl ?_
    obtain ⟨hi9, hF⟩ := hF
    refine wb_iald (j := ((x1 - x2) + (M 18 2)).toNatClampNeg) (v := M 16 (((x1 - x2) + (M 18 2)).toNatClampNeg)) dX1_holds_70 rfl hi9 rfl rfl ?_
    refine wa_imul dX1_holds_71 ?_
    refine wa_isub dX1_holds_72 ?_
    refine wa_aload_n dX1_holds_73 2 rfl rfl ?_
    refine wa_getr (r := 16) dX1_holds_74 fkX1_18 rfl rfl rfl ?_
    refine wa_iload_n dX1_holds_77 4 rfl rfl ?_
    obtain ⟨hi9, hF⟩ := hF
    refine wb_iald (j := x2.toNatClampNeg) (v := M 16 x2.toNatClampNeg) dX1_holds_78 rfl hi9 rfl rfl ?_
    refine wa_aload_n dX1_holds_79 2 rfl rfl ?_
    refine wa_getr (r := 16) dX1_holds_80 fkX1_18 rfl rfl rfl ?_
    refine wa_iload_n dX1_holds_83 3 rfl rfl ?_
    obtain ⟨hi9, hF⟩ := hF
    refine wb_iald (j := x1.toNatClampNeg) (v := M 16 x1.toNatClampNeg) dX1_holds_84 rfl hi9 rfl rfl ?_
    refine wa_imul dX1_holds_85 ?_
    refine wa_aload_n dX1_holds_86 2 rfl rfl ?_
    refine wa_getr (r := 15) dX1_holds_87 fkX1_15 rfl rfl rfl ?_
    refine wa_iload_n dX1_holds_90 1 rfl rfl ?_
    obtain ⟨hi9, hF⟩ := hF
    refine wb_iald (j := ((x1 - x2) + (M 18 2)).toNatClampNeg) (v := M 15 (((x1 - x2) + (M 18 2)).toNatClampNeg)) dX1_holds_91 rfl hi9 rfl rfl ?_
    refine wa_imul dX1_holds_92 ?_
    refine wa_isub dX1_holds_93 ?_
    refine wa_istore (lv' := [(5, .int (((((M 14 x2.toNatClampNeg) * (M 15 x1.toNatClampNeg)) * (M 16 (((x1 - x2) + (M 18 2)).toNatClampNeg))) - (((M 15 x2.toNatClampNeg) * (M 14 x1.toNatClampNeg)) * (M 16 (((x1 - x2) + (M 18 2)).toNatClampNeg)))) - (((M 16 x2.toNatClampNeg) * (M 16 x1.toNatClampNeg)) * (M 15 (((x1 - x2) + (M 18 2)).toNatClampNeg))))), (4, .int (M 18 2)), (3, .int ((x1 - x2) + (M 18 2))), (0, .ref 13), (1, .int x1), (2, .int x2)]) dX1_holds_94 rfl rfl ?_
    refine wa_aload_n dX1_holds_96 3 rfl rfl ?_
    refine wa_getr (r := 14) dX1_holds_97 fkX1_9 rfl rfl rfl ?_
    refine wa_iload_n dX1_holds_100 5 rfl rfl ?_
    obtain ⟨hi9, hF⟩ := hF
    refine wb_iald (j := x2.toNatClampNeg) (v := M 14 x2.toNatClampNeg) dX1_holds_101 rfl hi9 rfl rfl ?_
    refine wa_aload_n dX1_holds_102 3 rfl rfl ?_
    refine wa_getr (r := 16) dX1_holds_103 fkX1_18 rfl rfl rfl ?_
    refine wa_iload_n dX1_holds_106 4 rfl rfl ?_
    obtain ⟨hi9, hF⟩ := hF
    refine wb_iald (j := x1.toNatClampNeg) (v := M 16 x1.toNatClampNeg) dX1_holds_107 rfl hi9 rfl rfl ?_
    refine wa_imul dX1_holds_108 ?_
    refine wa_aload_n dX1_holds_109 3 rfl rfl ?_
    refine wa_getr (r := 14) dX1_holds_110 fkX1_9 rfl rfl rfl ?_
    refine wa_iload_n dX1_holds_113 2 rfl rfl ?_
    obtain ⟨hi9, hF⟩ := hF
    refine wb_iald (j := ((x1 - x2) + (M 18 2)).toNatClampNeg) (v := M 14 (((x1 - x2) + (M 18 2)).toNatClampNeg)) dX1_holds_114 rfl hi9 rfl rfl ?_
    refine wa_imul dX1_holds_115 ?_
    refine wa_aload_n dX1_holds_116 3 rfl rfl ?_
    refine wa_getr (r := 16) dX1_holds_117 fkX1_18 rfl rfl rfl ?_
    refine wa_iload_n dX1_holds_120 5 rfl rfl ?_
    obtain ⟨hi9, hF⟩ := hF
    refine wb_iald (j := x2.toNatClampNeg) (v := M 16 x2.toNatClampNeg) dX1_holds_121 rfl hi9 rfl rfl ?_
    refine wa_aload_n dX1_holds_122 3 rfl rfl ?_
    refine wa_getr (r := 14) dX1_holds_123 fkX1_9 rfl rfl rfl ?_
    refine wa_iload_n dX1_holds_126 4 rfl rfl ?_
    obtain ⟨hi9, hF⟩ := hF
    refine wb_iald (j := x1.toNatClampNeg) (v := M 14 x1.toNatClampNeg) dX1_holds_127 rfl hi9 rfl rfl ?_
    refine wa_imul dX1_holds_128 ?_
    refine wa_aload_n dX1_holds_129 3 rfl rfl ?_
    refine wa_getr (r := 16) dX1_holds_130 fkX1_18 rfl rfl rfl ?_
    refine wa_iload_n dX1_holds_133 2 rfl rfl ?_
    obtain ⟨hi9, hF⟩ := hF
    refine wb_iald (j := ((x1 - x2) + (M 18 2)).toNatClampNeg) (v := M 16 (((x1 - x2) + (M 18 2)).toNatClampNeg)) dX1_holds_134 rfl hi9 rfl rfl ?_
    refine wa_imul dX1_holds_135 ?_
    refine wa_isub dX1_holds_136 ?_
    refine wa_aload_n dX1_holds_137 3 rfl rfl ?_
    refine wa_getr (r := 15) dX1_holds_138 fkX1_15 rfl rfl rfl ?_
    refine wa_iload_n dX1_holds_141 5 rfl rfl ?_
    obtain ⟨hi9, hF⟩ := hF
    refine wb_iald (j := x2.toNatClampNeg) (v := M 15 x2.toNatClampNeg) dX1_holds_142 rfl hi9 rfl rfl ?_
    refine wa_aload_n dX1_holds_143 3 rfl rfl ?_
    refine wa_getr (r := 16) dX1_holds_144 fkX1_18 rfl rfl rfl ?_
    refine wa_iload_n dX1_holds_147 4 rfl rfl ?_
    obtain ⟨hi9, hF⟩ := hF
    refine wb_iald (j := x1.toNatClampNeg) (v := M 16 x1.toNatClampNeg) dX1_holds_148 rfl hi9 rfl rfl ?_
    refine wa_imul dX1_holds_149 ?_
    refine wa_aload_n dX1_holds_150 3 rfl rfl ?_
    refine wa_getr (r := 15) dX1_holds_151 fkX1_15 rfl rfl rfl ?_
    refine wa_iload_n dX1_holds_154 2 rfl rfl ?_
    obtain ⟨hi9, hF⟩ := hF
    refine wb_iald (j := ((x1 - x2) + (M 18 2)).toNatClampNeg) (v := M 15 (((x1 - x2) + (M 18 2)).toNatClampNeg)) dX1_holds_155 rfl hi9 rfl rfl ?_
    refine wa_imul dX1_holds_156 ?_
    refine wa_isub dX1_holds_157 ?_
    refine wa_istore (lv' := [(6, .int (((((M 14 x2.toNatClampNeg) * (M 16 x1.toNatClampNeg)) * (M 14 (((x1 - x2) + (M 18 2)).toNatClampNeg))) - (((M 16 x2.toNatClampNeg) * (M 14 x1.toNatClampNeg)) * (M 16 (((x1 - x2) + (M 18 2)).toNatClampNeg)))) - (((M 15 x2.toNatClampNeg) * (M 16 x1.toNatClampNeg)) * (M 15 (((x1 - x2) + (M 18 2)).toNatClampNeg))))), (5, .int (((((M 14 x2.toNatClampNeg) * (M 15 x1.toNatClampNeg)) * (M 16 (((x1 - x2) + (M 18 2)).toNatClampNeg))) - (((M 15 x2.toNatClampNeg) * (M 14 x1.toNatClampNeg)) * (M 16 (((x1 - x2) + (M 18 2)).toNatClampNeg)))) - (((M 16 x2.toNatClampNeg) * (M 16 x1.toNatClampNeg)) * (M 15 (((x1 - x2) + (M 18 2)).toNatClampNeg))))), (4, .int (M 18 2)), (3, .int ((x1 - x2) + (M 18 2))), (0, .ref 13), (1, .int x1), (2, .int x2)]) dX1_holds_158 rfl rfl ?_
    refine wa_aload_n dX1_holds_160 4 rfl rfl ?_
    refine wa_getr (r := 16) dX1_holds_161 fkX1_18 rfl rfl rfl ?_
    refine wa_iload_n dX1_holds_164 6 rfl rfl ?_
    obtain ⟨hi9, hF⟩ := hF
    refine wb_iald (j := x2.toNatClampNeg) (v := M 16 x2.toNatClampNeg) dX1_holds_165 rfl hi9 rfl rfl ?_
    refine wa_aload_n dX1_holds_166 4 rfl rfl ?_
    refine wa_getr (r := 15) dX1_holds_167 fkX1_15 rfl rfl rfl ?_
    refine wa_iload_n dX1_holds_170 5 rfl rfl ?_
    obtain ⟨hi9, hF⟩ := hF
    refine wb_iald (j := x1.toNatClampNeg) (v := M 15 x1.toNatClampNeg) dX1_holds_171 rfl hi9 rfl rfl ?_
    refine wa_imul dX1_holds_172 ?_
    refine wa_aload_n dX1_holds_173 4 rfl rfl ?_
    refine wa_getr (r := 14) dX1_holds_174 fkX1_9 rfl rfl rfl ?_
    refine wa_iload_n dX1_holds_177 3 rfl rfl ?_
    obtain ⟨hi9, hF⟩ := hF
    refine wb_iald (j := ((x1 - x2) + (M 18 2)).toNatClampNeg) (v := M 14 (((x1 - x2) + (M 18 2)).toNatClampNeg)) dX1_holds_178 rfl hi9 rfl rfl ?_
    refine wa_imul dX1_holds_179 ?_
    refine wa_aload_n dX1_holds_180 4 rfl rfl ?_
    refine wa_getr (r := 16) dX1_holds_181 fkX1_18 rfl rfl rfl ?_
    refine wa_iload_n dX1_holds_184 6 rfl rfl ?_
    obtain ⟨hi9, hF⟩ := hF
    refine wb_iald (j := x2.toNatClampNeg) (v := M 16 x2.toNatClampNeg) dX1_holds_185 rfl hi9 rfl rfl ?_
    refine wa_aload_n dX1_holds_186 4 rfl rfl ?_
    refine wa_getr (r := 14) dX1_holds_187 fkX1_9 rfl rfl rfl ?_
    refine wa_iload_n dX1_holds_190 5 rfl rfl ?_
    obtain ⟨hi9, hF⟩ := hF
    refine wb_iald (j := x1.toNatClampNeg) (v := M 14 x1.toNatClampNeg) dX1_holds_191 rfl hi9 rfl rfl ?_
    refine wa_imul dX1_holds_192 ?_
    refine wa_aload_n dX1_holds_193 4 rfl rfl ?_
    refine wa_getr (r := 15) dX1_holds_194 fkX1_15 rfl rfl rfl ?_
    refine wa_iload_n dX1_holds_197 3 rfl rfl ?_
    obtain ⟨hi9, hF⟩ := hF
    refine wb_iald (j := ((x1 - x2) + (M 18 2)).toNatClampNeg) (v := M 15 (((x1 - x2) + (M 18 2)).toNatClampNeg)) dX1_holds_198 rfl hi9 rfl rfl ?_
    refine wa_imul dX1_holds_199 ?_
    refine wa_isub dX1_holds_200 ?_
    refine wa_aload_n dX1_holds_201 4 rfl rfl ?_
    refine wa_getr (r := 15) dX1_holds_202 fkX1_15 rfl rfl rfl ?_
    refine wa_iload_n dX1_holds_205 6 rfl rfl ?_
    obtain ⟨hi9, hF⟩ := hF
    refine wb_iald (j := x2.toNatClampNeg) (v := M 15 x2.toNatClampNeg) dX1_holds_206 rfl hi9 rfl rfl ?_
    refine wa_aload_n dX1_holds_207 4 rfl rfl ?_
    refine wa_getr (r := 16) dX1_holds_208 fkX1_18 rfl rfl rfl ?_
    refine wa_iload_n dX1_holds_211 5 rfl rfl ?_
    obtain ⟨hi9, hF⟩ := hF
    refine wb_iald (j := x1.toNatClampNeg) (v := M 16 x1.toNatClampNeg) dX1_holds_212 rfl hi9 rfl rfl ?_
    refine wa_imul dX1_holds_213 ?_
    refine wa_aload_n dX1_holds_214 4 rfl rfl ?_
    refine wa_getr (r := 16) dX1_holds_215 fkX1_18 rfl rfl rfl ?_
    refine wa_iload_n dX1_holds_218 3 rfl rfl ?_
    obtain ⟨hi9, hF⟩ := hF
    refine wb_iald (j := ((x1 - x2) + (M 18 2)).toNatClampNeg) (v := M 16 (((x1 - x2) + (M 18 2)).toNatClampNeg)) dX1_holds_219 rfl hi9 rfl rfl ?_
    refine wa_imul dX1_holds_220 ?_
    refine wa_isub dX1_holds_221 ?_
    refine wa_istore (lv' := [(7, .int (((((M 16 x2.toNatClampNeg) * (M 15 x1.toNatClampNeg)) * (M 14 (((x1 - x2) + (M 18 2)).toNatClampNeg))) - (((M 16 x2.toNatClampNeg) * (M 14 x1.toNatClampNeg)) * (M 15 (((x1 - x2) + (M 18 2)).toNatClampNeg)))) - (((M 15 x2.toNatClampNeg) * (M 16 x1.toNatClampNeg)) * (M 16 (((x1 - x2) + (M 18 2)).toNatClampNeg))))), (6, .int (((((M 14 x2.toNatClampNeg) * (M 16 x1.toNatClampNeg)) * (M 14 (((x1 - x2) + (M 18 2)).toNatClampNeg))) - (((M 16 x2.toNatClampNeg) * (M 14 x1.toNatClampNeg)) * (M 16 (((x1 - x2) + (M 18 2)).toNatClampNeg)))) - (((M 15 x2.toNatClampNeg) * (M 16 x1.toNatClampNeg)) * (M 15 (((x1 - x2) + (M 18 2)).toNatClampNeg))))), (5, .int (((((M 14 x2.toNatClampNeg) * (M 15 x1.toNatClampNeg)) * (M 16 (((x1 - x2) + (M 18 2)).toNatClampNeg))) - (((M 15 x2.toNatClampNeg) * (M 14 x1.toNatClampNeg)) * (M 16 (((x1 - x2) + (M 18 2)).toNatClampNeg)))) - (((M 16 x2.toNatClampNeg) * (M 16 x1.toNatClampNeg)) * (M 15 (((x1 - x2) + (M 18 2)).toNatClampNeg))))), (4, .int (M 18 2)), (3, .int ((x1 - x2) + (M 18 2))), (0, .ref 13), (1, .int x1), (2, .int x2)]) dX1_holds_222 rfl rfl ?_
    refine wa_iload dX1_holds_224 2 rfl ?_
    refine wa_iload dX1_holds_226 3 rfl ?_
    obtain ⟨Q1, hM9, hF⟩ := hF
    refine wa_callSN [.int (((((M 14 x2.toNatClampNeg) * (M 15 x1.toNatClampNeg)) * (M 16 (((x1 - x2) + (M 18 2)).toNatClampNeg))) - (((M 15 x2.toNatClampNeg) * (M 14 x1.toNatClampNeg)) * (M 16 (((x1 - x2) + (M 18 2)).toNatClampNeg)))) - (((M 16 x2.toNatClampNeg) * (M 16 x1.toNatClampNeg)) * (M 15 (((x1 - x2) + (M 18 2)).toNatClampNeg)))), .int (M 18 2)] dX1_holds_228 (mmX11_left _ _) mkX1_72 mstX11_left rfl (a_dlt d) rfl rfl hM9 ?_
    rintro r9 M1 P9 ⟨v1, rfl, rfl, hq9⟩
    replace hF := hF v1 M1 hq9
    simp only [Option.toList, List.cons_append, List.nil_append]
    refine wa_if_ne (tgt := 258) dX1_holds_231 rfl (fun hc => ?_) (fun hc => ?_)
    · replace hF := hF.1 hc
      exact wa_pick [] rfl hF
    · replace hF := hF.2 hc
      refine wa_iload dX1_holds_234 1 rfl ?_
      refine wa_iload dX1_holds_236 3 rfl ?_
      obtain ⟨Q2, hM9, hF⟩ := hF
      refine wa_callSN [.int (((((M 14 x2.toNatClampNeg) * (M 16 x1.toNatClampNeg)) * (M 14 (((x1 - x2) + (M 18 2)).toNatClampNeg))) - (((M 16 x2.toNatClampNeg) * (M 14 x1.toNatClampNeg)) * (M 16 (((x1 - x2) + (M 18 2)).toNatClampNeg)))) - (((M 15 x2.toNatClampNeg) * (M 16 x1.toNatClampNeg)) * (M 15 (((x1 - x2) + (M 18 2)).toNatClampNeg)))), .int (M 18 2)] dX1_holds_238 (mmX11_left _ _) mkX1_72 mstX11_left rfl (a_dlt d) rfl rfl hM9 ?_
      rintro r9 M2 P9 ⟨v2, rfl, rfl, hq9⟩
      replace hF := hF v2 M2 hq9
      simp only [Option.toList, List.cons_append, List.nil_append]
      refine wa_if_ne (tgt := 258) dX1_holds_241 rfl (fun hc => ?_) (fun hc => ?_)
      · replace hF := hF.1 hc
        exact wa_pick [] rfl hF
      · replace hF := hF.2 hc
        refine wa_iload dX1_holds_244 0 rfl ?_
        refine wa_iload dX1_holds_246 3 rfl ?_
        obtain ⟨Q3, hM9, hF⟩ := hF
        refine wa_callSN [.int (((((M 16 x2.toNatClampNeg) * (M 15 x1.toNatClampNeg)) * (M 14 (((x1 - x2) + (M 18 2)).toNatClampNeg))) - (((M 16 x2.toNatClampNeg) * (M 14 x1.toNatClampNeg)) * (M 15 (((x1 - x2) + (M 18 2)).toNatClampNeg)))) - (((M 15 x2.toNatClampNeg) * (M 16 x1.toNatClampNeg)) * (M 16 (((x1 - x2) + (M 18 2)).toNatClampNeg)))), .int (M 18 2)] dX1_holds_248 (mmX11_left _ _) mkX1_72 mstX11_left rfl (a_dlt d) rfl rfl hM9 ?_
        rintro r9 M3 P9 ⟨v3, rfl, rfl, hq9⟩
        replace hF := hF v3 M3 hq9
        simp only [Option.toList, List.cons_append, List.nil_append]
        refine wa_if_ne (tgt := 258) dX1_holds_251 rfl (fun hc => ?_) (fun hc => ?_)
        · replace hF := hF.1 hc
          exact wa_pick [] rfl hF
        · replace hF := hF.2 hc
          refine wa_iconst (v := 1) dX1_holds_254 rfl ?_
          refine wa_goto (tgt := 259) dX1_holds_255 rfl ?_
          exact wa_iret dX1_holds_259 rfl rfl hF
  · replace hF := hF.2 hc
    refine wa_iload_n dX1_holds_5 1 rfl rfl ?_
    refine wa_iload_n dX1_holds_6 2 rfl rfl ?_
    refine wa_isub dX1_holds_7 ?_
    refine wa_goto (tgt := 22) dX1_holds_8 rfl ?_
    refine wa_istore_n (lv' := [(3, .int (x1 - x2)), (0, .ref 13), (1, .int x1), (2, .int x2)]) dX1_holds_22 rfl rfl rfl ?_
    refine wa_aload_n dX1_holds_23 1 rfl rfl ?_
    refine wa_getr (r := 18) dX1_holds_24 fkX1_27 rfl rfl rfl ?_
    refine wb_geti (v := M 18 2) dX1_holds_27 fkX1_61 rfl rfl rfl ?_
    refine wa_istore (lv' := [(4, .int (M 18 2)), (3, .int (x1 - x2)), (0, .ref 13), (1, .int x1), (2, .int x2)]) dX1_holds_30 rfl rfl ?_
    refine wa_aload_n dX1_holds_32 2 rfl rfl ?_
    refine wa_getr (r := 14) dX1_holds_33 fkX1_9 rfl rfl rfl ?_
    refine wa_iload_n dX1_holds_36 4 rfl rfl ?_
    obtain ⟨hi9, hF⟩ := hF
    refine wb_iald (j := x2.toNatClampNeg) (v := M 14 x2.toNatClampNeg) dX1_holds_37 rfl hi9 rfl rfl ?_
    refine wa_aload_n dX1_holds_38 2 rfl rfl ?_
    refine wa_getr (r := 15) dX1_holds_39 fkX1_15 rfl rfl rfl ?_
    refine wa_iload_n dX1_holds_42 3 rfl rfl ?_
    obtain ⟨hi9, hF⟩ := hF
    refine wb_iald (j := x1.toNatClampNeg) (v := M 15 x1.toNatClampNeg) dX1_holds_43 rfl hi9 rfl rfl ?_
    refine wa_imul dX1_holds_44 ?_
    refine wa_aload_n dX1_holds_45 2 rfl rfl ?_
    refine wa_getr (r := 16) dX1_holds_46 fkX1_18 rfl rfl rfl ?_
    refine wa_iload_n dX1_holds_49 1 rfl rfl ?_
    obtain ⟨hi9, hF⟩ := hF
    refine wb_iald (j := (x1 - x2).toNatClampNeg) (v := M 16 ((x1 - x2).toNatClampNeg)) dX1_holds_50 rfl hi9 rfl rfl ?_
    refine wa_imul dX1_holds_51 ?_
    refine wa_aload_n dX1_holds_52 2 rfl rfl ?_
    refine wa_getr (r := 15) dX1_holds_53 fkX1_15 rfl rfl rfl ?_
    refine wa_iload_n dX1_holds_56 4 rfl rfl ?_
    obtain ⟨hi9, hF⟩ := hF
    refine wb_iald (j := x2.toNatClampNeg) (v := M 15 x2.toNatClampNeg) dX1_holds_57 rfl hi9 rfl rfl ?_
    refine wa_aload_n dX1_holds_58 2 rfl rfl ?_
    refine wa_getr (r := 14) dX1_holds_59 fkX1_9 rfl rfl rfl ?_
    refine wa_iload_n dX1_holds_62 3 rfl rfl ?_
    obtain ⟨hi9, hF⟩ := hF
    refine wb_iald (j := x1.toNatClampNeg) (v := M 14 x1.toNatClampNeg) dX1_holds_63 rfl hi9 rfl rfl ?_
    refine wa_imul dX1_holds_64 ?_
    refine wa_aload_n dX1_holds_65 2 rfl rfl ?_
    refine wa_getr (r := 16) dX1_holds_66 fkX1_18 rfl rfl rfl ?_
    refine wa_iload_n dX1_holds_69 1 rfl rfl ?_
    obtain ⟨hi9, hF⟩ := hF
    refine wb_iald (j := (x1 - x2).toNatClampNeg) (v := M 16 ((x1 - x2).toNatClampNeg)) dX1_holds_70 rfl hi9 rfl rfl ?_
    refine wa_imul dX1_holds_71 ?_
    refine wa_isub dX1_holds_72 ?_
    refine wa_aload_n dX1_holds_73 2 rfl rfl ?_
    refine wa_getr (r := 16) dX1_holds_74 fkX1_18 rfl rfl rfl ?_
    refine wa_iload_n dX1_holds_77 4 rfl rfl ?_
    obtain ⟨hi9, hF⟩ := hF
    refine wb_iald (j := x2.toNatClampNeg) (v := M 16 x2.toNatClampNeg) dX1_holds_78 rfl hi9 rfl rfl ?_
    refine wa_aload_n dX1_holds_79 2 rfl rfl ?_
    refine wa_getr (r := 16) dX1_holds_80 fkX1_18 rfl rfl rfl ?_
    refine wa_iload_n dX1_holds_83 3 rfl rfl ?_
    obtain ⟨hi9, hF⟩ := hF
    refine wb_iald (j := x1.toNatClampNeg) (v := M 16 x1.toNatClampNeg) dX1_holds_84 rfl hi9 rfl rfl ?_
    refine wa_imul dX1_holds_85 ?_
    refine wa_aload_n dX1_holds_86 2 rfl rfl ?_
    refine wa_getr (r := 15) dX1_holds_87 fkX1_15 rfl rfl rfl ?_
    refine wa_iload_n dX1_holds_90 1 rfl rfl ?_
    obtain ⟨hi9, hF⟩ := hF
    refine wb_iald (j := (x1 - x2).toNatClampNeg) (v := M 15 ((x1 - x2).toNatClampNeg)) dX1_holds_91 rfl hi9 rfl rfl ?_
    refine wa_imul dX1_holds_92 ?_
    refine wa_isub dX1_holds_93 ?_
    refine wa_istore (lv' := [(5, .int (((((M 14 x2.toNatClampNeg) * (M 15 x1.toNatClampNeg)) * (M 16 ((x1 - x2).toNatClampNeg))) - (((M 15 x2.toNatClampNeg) * (M 14 x1.toNatClampNeg)) * (M 16 ((x1 - x2).toNatClampNeg)))) - (((M 16 x2.toNatClampNeg) * (M 16 x1.toNatClampNeg)) * (M 15 ((x1 - x2).toNatClampNeg))))), (4, .int (M 18 2)), (3, .int (x1 - x2)), (0, .ref 13), (1, .int x1), (2, .int x2)]) dX1_holds_94 rfl rfl ?_
    refine wa_aload_n dX1_holds_96 3 rfl rfl ?_
    refine wa_getr (r := 14) dX1_holds_97 fkX1_9 rfl rfl rfl ?_
    refine wa_iload_n dX1_holds_100 5 rfl rfl ?_
    obtain ⟨hi9, hF⟩ := hF
    refine wb_iald (j := x2.toNatClampNeg) (v := M 14 x2.toNatClampNeg) dX1_holds_101 rfl hi9 rfl rfl ?_
    refine wa_aload_n dX1_holds_102 3 rfl rfl ?_
    refine wa_getr (r := 16) dX1_holds_103 fkX1_18 rfl rfl rfl ?_
    refine wa_iload_n dX1_holds_106 4 rfl rfl ?_
    obtain ⟨hi9, hF⟩ := hF
    refine wb_iald (j := x1.toNatClampNeg) (v := M 16 x1.toNatClampNeg) dX1_holds_107 rfl hi9 rfl rfl ?_
    refine wa_imul dX1_holds_108 ?_
    refine wa_aload_n dX1_holds_109 3 rfl rfl ?_
    refine wa_getr (r := 14) dX1_holds_110 fkX1_9 rfl rfl rfl ?_
    refine wa_iload_n dX1_holds_113 2 rfl rfl ?_
    obtain ⟨hi9, hF⟩ := hF
    refine wb_iald (j := (x1 - x2).toNatClampNeg) (v := M 14 ((x1 - x2).toNatClampNeg)) dX1_holds_114 rfl hi9 rfl rfl ?_
    refine wa_imul dX1_holds_115 ?_
    refine wa_aload_n dX1_holds_116 3 rfl rfl ?_
    refine wa_getr (r := 16) dX1_holds_117 fkX1_18 rfl rfl rfl ?_
    refine wa_iload_n dX1_holds_120 5 rfl rfl ?_
    obtain ⟨hi9, hF⟩ := hF
    refine wb_iald (j := x2.toNatClampNeg) (v := M 16 x2.toNatClampNeg) dX1_holds_121 rfl hi9 rfl rfl ?_
    refine wa_aload_n dX1_holds_122 3 rfl rfl ?_
    refine wa_getr (r := 14) dX1_holds_123 fkX1_9 rfl rfl rfl ?_
    refine wa_iload_n dX1_holds_126 4 rfl rfl ?_
    obtain ⟨hi9, hF⟩ := hF
    refine wb_iald (j := x1.toNatClampNeg) (v := M 14 x1.toNatClampNeg) dX1_holds_127 rfl hi9 rfl rfl ?_
    refine wa_imul dX1_holds_128 ?_
    refine wa_aload_n dX1_holds_129 3 rfl rfl ?_
    refine wa_getr (r := 16) dX1_holds_130 fkX1_18 rfl rfl rfl ?_
    refine wa_iload_n dX1_holds_133 2 rfl rfl ?_
    obtain ⟨hi9, hF⟩ := hF
    refine wb_iald (j := (x1 - x2).toNatClampNeg) (v := M 16 ((x1 - x2).toNatClampNeg)) dX1_holds_134 rfl hi9 rfl rfl ?_
    refine wa_imul dX1_holds_135 ?_
    refine wa_isub dX1_holds_136 ?_
    refine wa_aload_n dX1_holds_137 3 rfl rfl ?_
    refine wa_getr (r := 15) dX1_holds_138 fkX1_15 rfl rfl rfl ?_
    refine wa_iload_n dX1_holds_141 5 rfl rfl ?_
    obtain ⟨hi9, hF⟩ := hF
    refine wb_iald (j := x2.toNatClampNeg) (v := M 15 x2.toNatClampNeg) dX1_holds_142 rfl hi9 rfl rfl ?_
    refine wa_aload_n dX1_holds_143 3 rfl rfl ?_
    refine wa_getr (r := 16) dX1_holds_144 fkX1_18 rfl rfl rfl ?_
    refine wa_iload_n dX1_holds_147 4 rfl rfl ?_
    obtain ⟨hi9, hF⟩ := hF
    refine wb_iald (j := x1.toNatClampNeg) (v := M 16 x1.toNatClampNeg) dX1_holds_148 rfl hi9 rfl rfl ?_
    refine wa_imul dX1_holds_149 ?_
    refine wa_aload_n dX1_holds_150 3 rfl rfl ?_
    refine wa_getr (r := 15) dX1_holds_151 fkX1_15 rfl rfl rfl ?_
    refine wa_iload_n dX1_holds_154 2 rfl rfl ?_
    obtain ⟨hi9, hF⟩ := hF
    refine wb_iald (j := (x1 - x2).toNatClampNeg) (v := M 15 ((x1 - x2).toNatClampNeg)) dX1_holds_155 rfl hi9 rfl rfl ?_
    refine wa_imul dX1_holds_156 ?_
    refine wa_isub dX1_holds_157 ?_
    refine wa_istore (lv' := [(6, .int (((((M 14 x2.toNatClampNeg) * (M 16 x1.toNatClampNeg)) * (M 14 ((x1 - x2).toNatClampNeg))) - (((M 16 x2.toNatClampNeg) * (M 14 x1.toNatClampNeg)) * (M 16 ((x1 - x2).toNatClampNeg)))) - (((M 15 x2.toNatClampNeg) * (M 16 x1.toNatClampNeg)) * (M 15 ((x1 - x2).toNatClampNeg))))), (5, .int (((((M 14 x2.toNatClampNeg) * (M 15 x1.toNatClampNeg)) * (M 16 ((x1 - x2).toNatClampNeg))) - (((M 15 x2.toNatClampNeg) * (M 14 x1.toNatClampNeg)) * (M 16 ((x1 - x2).toNatClampNeg)))) - (((M 16 x2.toNatClampNeg) * (M 16 x1.toNatClampNeg)) * (M 15 ((x1 - x2).toNatClampNeg))))), (4, .int (M 18 2)), (3, .int (x1 - x2)), (0, .ref 13), (1, .int x1), (2, .int x2)]) dX1_holds_158 rfl rfl ?_
    refine wa_aload_n dX1_holds_160 4 rfl rfl ?_
    refine wa_getr (r := 16) dX1_holds_161 fkX1_18 rfl rfl rfl ?_
    refine wa_iload_n dX1_holds_164 6 rfl rfl ?_
    obtain ⟨hi9, hF⟩ := hF
    refine wb_iald (j := x2.toNatClampNeg) (v := M 16 x2.toNatClampNeg) dX1_holds_165 rfl hi9 rfl rfl ?_
    refine wa_aload_n dX1_holds_166 4 rfl rfl ?_
    refine wa_getr (r := 15) dX1_holds_167 fkX1_15 rfl rfl rfl ?_
    refine wa_iload_n dX1_holds_170 5 rfl rfl ?_
    obtain ⟨hi9, hF⟩ := hF
    refine wb_iald (j := x1.toNatClampNeg) (v := M 15 x1.toNatClampNeg) dX1_holds_171 rfl hi9 rfl rfl ?_
    refine wa_imul dX1_holds_172 ?_
    refine wa_aload_n dX1_holds_173 4 rfl rfl ?_
    refine wa_getr (r := 14) dX1_holds_174 fkX1_9 rfl rfl rfl ?_
    refine wa_iload_n dX1_holds_177 3 rfl rfl ?_
    obtain ⟨hi9, hF⟩ := hF
    refine wb_iald (j := (x1 - x2).toNatClampNeg) (v := M 14 ((x1 - x2).toNatClampNeg)) dX1_holds_178 rfl hi9 rfl rfl ?_
    refine wa_imul dX1_holds_179 ?_
    refine wa_aload_n dX1_holds_180 4 rfl rfl ?_
    refine wa_getr (r := 16) dX1_holds_181 fkX1_18 rfl rfl rfl ?_
    refine wa_iload_n dX1_holds_184 6 rfl rfl ?_
    obtain ⟨hi9, hF⟩ := hF
    refine wb_iald (j := x2.toNatClampNeg) (v := M 16 x2.toNatClampNeg) dX1_holds_185 rfl hi9 rfl rfl ?_
    refine wa_aload_n dX1_holds_186 4 rfl rfl ?_
    refine wa_getr (r := 14) dX1_holds_187 fkX1_9 rfl rfl rfl ?_
    refine wa_iload_n dX1_holds_190 5 rfl rfl ?_
    obtain ⟨hi9, hF⟩ := hF
    refine wb_iald (j := x1.toNatClampNeg) (v := M 14 x1.toNatClampNeg) dX1_holds_191 rfl hi9 rfl rfl ?_
    refine wa_imul dX1_holds_192 ?_
    refine wa_aload_n dX1_holds_193 4 rfl rfl ?_
    refine wa_getr (r := 15) dX1_holds_194 fkX1_15 rfl rfl rfl ?_
    refine wa_iload_n dX1_holds_197 3 rfl rfl ?_
    obtain ⟨hi9, hF⟩ := hF
    refine wb_iald (j := (x1 - x2).toNatClampNeg) (v := M 15 ((x1 - x2).toNatClampNeg)) dX1_holds_198 rfl hi9 rfl rfl ?_
    refine wa_imul dX1_holds_199 ?_
    refine wa_isub dX1_holds_200 ?_
    refine wa_aload_n dX1_holds_201 4 rfl rfl ?_
    refine wa_getr (r := 15) dX1_holds_202 fkX1_15 rfl rfl rfl ?_
    refine wa_iload_n dX1_holds_205 6 rfl rfl ?_
    obtain ⟨hi9, hF⟩ := hF
    refine wb_iald (j := x2.toNatClampNeg) (v := M 15 x2.toNatClampNeg) dX1_holds_206 rfl hi9 rfl rfl ?_
    refine wa_aload_n dX1_holds_207 4 rfl rfl ?_
    refine wa_getr (r := 16) dX1_holds_208 fkX1_18 rfl rfl rfl ?_
    refine wa_iload_n dX1_holds_211 5 rfl rfl ?_
    obtain ⟨hi9, hF⟩ := hF
    refine wb_iald (j := x1.toNatClampNeg) (v := M 16 x1.toNatClampNeg) dX1_holds_212 rfl hi9 rfl rfl ?_
    refine wa_imul dX1_holds_213 ?_
    refine wa_aload_n dX1_holds_214 4 rfl rfl ?_
    refine wa_getr (r := 16) dX1_holds_215 fkX1_18 rfl rfl rfl ?_
    refine wa_iload_n dX1_holds_218 3 rfl rfl ?_
    obtain ⟨hi9, hF⟩ := hF
    refine wb_iald (j := (x1 - x2).toNatClampNeg) (v := M 16 ((x1 - x2).toNatClampNeg)) dX1_holds_219 rfl hi9 rfl rfl ?_
    refine wa_imul dX1_holds_220 ?_
    refine wa_isub dX1_holds_221 ?_
    refine wa_istore (lv' := [(7, .int (((((M 16 x2.toNatClampNeg) * (M 15 x1.toNatClampNeg)) * (M 14 ((x1 - x2).toNatClampNeg))) - (((M 16 x2.toNatClampNeg) * (M 14 x1.toNatClampNeg)) * (M 15 ((x1 - x2).toNatClampNeg)))) - (((M 15 x2.toNatClampNeg) * (M 16 x1.toNatClampNeg)) * (M 16 ((x1 - x2).toNatClampNeg))))), (6, .int (((((M 14 x2.toNatClampNeg) * (M 16 x1.toNatClampNeg)) * (M 14 ((x1 - x2).toNatClampNeg))) - (((M 16 x2.toNatClampNeg) * (M 14 x1.toNatClampNeg)) * (M 16 ((x1 - x2).toNatClampNeg)))) - (((M 15 x2.toNatClampNeg) * (M 16 x1.toNatClampNeg)) * (M 15 ((x1 - x2).toNatClampNeg))))), (5, .int (((((M 14 x2.toNatClampNeg) * (M 15 x1.toNatClampNeg)) * (M 16 ((x1 - x2).toNatClampNeg))) - (((M 15 x2.toNatClampNeg) * (M 14 x1.toNatClampNeg)) * (M 16 ((x1 - x2).toNatClampNeg)))) - (((M 16 x2.toNatClampNeg) * (M 16 x1.toNatClampNeg)) * (M 15 ((x1 - x2).toNatClampNeg))))), (4, .int (M 18 2)), (3, .int (x1 - x2)), (0, .ref 13), (1, .int x1), (2, .int x2)]) dX1_holds_222 rfl rfl ?_
    refine wa_iload dX1_holds_224 2 rfl ?_
    refine wa_iload dX1_holds_226 3 rfl ?_
    obtain ⟨Q4, hM9, hF⟩ := hF
    refine wa_callSN [.int (((((M 14 x2.toNatClampNeg) * (M 15 x1.toNatClampNeg)) * (M 16 ((x1 - x2).toNatClampNeg))) - (((M 15 x2.toNatClampNeg) * (M 14 x1.toNatClampNeg)) * (M 16 ((x1 - x2).toNatClampNeg)))) - (((M 16 x2.toNatClampNeg) * (M 16 x1.toNatClampNeg)) * (M 15 ((x1 - x2).toNatClampNeg)))), .int (M 18 2)] dX1_holds_228 (mmX11_left _ _) mkX1_72 mstX11_left rfl (a_dlt d) rfl rfl hM9 ?_
    rintro r9 M4 P9 ⟨v4, rfl, rfl, hq9⟩
    replace hF := hF v4 M4 hq9
    simp only [Option.toList, List.cons_append, List.nil_append]
    refine wa_if_ne (tgt := 258) dX1_holds_231 rfl (fun hc => ?_) (fun hc => ?_)
    · replace hF := hF.1 hc
      exact wa_pick [] rfl hF
    · replace hF := hF.2 hc
      refine wa_iload dX1_holds_234 1 rfl ?_
      refine wa_iload dX1_holds_236 3 rfl ?_
      obtain ⟨Q5, hM9, hF⟩ := hF
      refine wa_callSN [.int (((((M 14 x2.toNatClampNeg) * (M 16 x1.toNatClampNeg)) * (M 14 ((x1 - x2).toNatClampNeg))) - (((M 16 x2.toNatClampNeg) * (M 14 x1.toNatClampNeg)) * (M 16 ((x1 - x2).toNatClampNeg)))) - (((M 15 x2.toNatClampNeg) * (M 16 x1.toNatClampNeg)) * (M 15 ((x1 - x2).toNatClampNeg)))), .int (M 18 2)] dX1_holds_238 (mmX11_left _ _) mkX1_72 mstX11_left rfl (a_dlt d) rfl rfl hM9 ?_
      rintro r9 M5 P9 ⟨v5, rfl, rfl, hq9⟩
      replace hF := hF v5 M5 hq9
      simp only [Option.toList, List.cons_append, List.nil_append]
      refine wa_if_ne (tgt := 258) dX1_holds_241 rfl (fun hc => ?_) (fun hc => ?_)
      · replace hF := hF.1 hc
        exact wa_pick [] rfl hF
      · replace hF := hF.2 hc
        refine wa_iload dX1_holds_244 0 rfl ?_
        refine wa_iload dX1_holds_246 3 rfl ?_
        obtain ⟨Q6, hM9, hF⟩ := hF
        refine wa_callSN [.int (((((M 16 x2.toNatClampNeg) * (M 15 x1.toNatClampNeg)) * (M 14 ((x1 - x2).toNatClampNeg))) - (((M 16 x2.toNatClampNeg) * (M 14 x1.toNatClampNeg)) * (M 15 ((x1 - x2).toNatClampNeg)))) - (((M 15 x2.toNatClampNeg) * (M 16 x1.toNatClampNeg)) * (M 16 ((x1 - x2).toNatClampNeg)))), .int (M 18 2)] dX1_holds_248 (mmX11_left _ _) mkX1_72 mstX11_left rfl (a_dlt d) rfl rfl hM9 ?_
        rintro r9 M6 P9 ⟨v6, rfl, rfl, hq9⟩
        replace hF := hF v6 M6 hq9
        simp only [Option.toList, List.cons_append, List.nil_append]
        refine wa_if_ne (tgt := 258) dX1_holds_251 rfl (fun hc => ?_) (fun hc => ?_)
        · replace hF := hF.1 hc
          exact wa_pick [] rfl hF
        · replace hF := hF.2 hc
          refine wa_iconst (v := 1) dX1_holds_254 rfl ?_
          refine wa_goto (tgt := 259) dX1_holds_255 rfl ?_
          exact wa_iret dX1_holds_259 rfl rfl hF

theorem bX1_holds_258 {X : a_X} {ad : Nat → Nat} {ca : Nat → ClassId} {d : Nat} {Post : Option Value → a_M → a_P → Prop} {x : Nat} {M : a_M}   (hF : Post (some (.int 0)) M (PT x)) : WA X ad ca LY RX1 cX1_holds 8 (some FieldType.boolean) (d + 1) 0 0 (a_E X ad ca LY Post) 258 [] [] M (PT x) := by
  refine wa_iconst (v := 0) dX1_holds_258 rfl ?_
  exact wa_iret dX1_holds_259 rfl rfl hF

theorem eX1_holds {X : a_X} {ad : Nat → Nat} {ca : Nat → ClassId} {d : Nat} {Post : Option Value → a_M → a_P → Prop} {x : Nat} {M : a_M} (x1 : Int32) (x2 : Int32) (h : WA X ad ca LY RX1 cX1_holds 8 (some FieldType.boolean) d 0 0 (a_E X ad ca LY Post) 0 [(0, .ref 13), (1, .int x1), (2, .int x2)] [] M (PT x)) : Mt X ad ca LY d yX1_holds cX1_holds 8 (some FieldType.boolean) [.ref 13, .int x1, .int x2] M (PT x) Post := Mt.of (lv := [(0, .ref 13), (1, .int x1), (2, .int x2)]) (by decide +kernel) rfl rfl rfl (wa_pick [0, 1, 2] rfl h)

theorem bX1_tableBetween_0 {X : a_X} {ad : Nat → Nat} {ca : Nat → ClassId} {d : Nat} {Post : Option Value → a_M → a_P → Prop} {x : Nat} {M : a_M} (x1 : Int32) (x2 : Int32) (x3 : Int32)  (hF : (∃ Q1 : Int32 → a_M → Prop, Mt X ad ca LY d yJ6_bitCount_0f7a4 cJ6_bitCount_0f7a4 1 (some FieldType.int) [.int x2] M (PT x) (q_i (PT x) Q1) ∧ ∀ v1 M1, Q1 v1 M1 → (∃ Q2 : Int32 → a_M → Prop, Mt X ad ca LY d yJ6_bitCount_0f7a4 cJ6_bitCount_0f7a4 1 (some FieldType.int) [.int x3] M1 (PT x) (q_i (PT x) Q2) ∧ ∀ v2 M2, Q2 v2 M2 → ((v1 = v2 → (∃ Q3 : Int32 → a_M → Prop, Mt X ad ca LY d yX1_wayBetween cX1_wayBetween 10 (some FieldType.int) [.ref 13, .int 0, .int x1, .int x2, .int x3] M2 (PT x) (q_i (PT x) Q3) ∧ ∀ v3 M3, Q3 v3 M3 → (∃ Q4 : Int32 → a_M → Prop, Mt X ad ca LY d yX1_wayBetween cX1_wayBetween 10 (some FieldType.int) [.ref 13, .int 1, .int x1, .int x2, .int x3] M3 (PT x) (q_i (PT x) Q4) ∧ ∀ v4 M4, Q4 v4 M4 → (∃ Q5 : Int32 → a_M → Prop, Mt X ad ca LY d yX11_left cX11_left 3 (some FieldType.int) [.int (v3 + v4), .int (M4 18 2)] M4 (PT x) (q_i (PT x) Q5) ∧ ∀ v5 M5, Q5 v5 M5 → Post (some (.int v5)) M5 (PT x))))) ∧ (¬ v1 = v2 → Post (some (.int 0)) M2 (PT x)))))) : WA X ad ca LY RX1 cX1_tableBetween 4 (some FieldType.int) (d + 1) 0 0 (a_E X ad ca LY Post) 0 [(0, .ref 13), (1, .int x1), (2, .int x2), (3, .int x3)] [] M (PT x) := by
  refine wa_iload_n dX1_tableBetween_0 2 rfl rfl ?_
  obtain ⟨Q1, hM9, hF⟩ := hF
  refine wa_callS [.int x2] dX1_tableBetween_1 (mmJ6_bitCount_0f7a4 _ _) mlX1_76 mstJ6_bitCount_0f7a4 rfl (a_dlt d) rfl rfl hM9 ?_
  rintro r9 M1 P9 ⟨v1, rfl, rfl, hq9⟩
  replace hF := hF v1 M1 hq9
  simp only [Option.toList, List.cons_append, List.nil_append]
  refine wa_iload_n dX1_tableBetween_4 3 rfl rfl ?_
  obtain ⟨Q2, hM9, hF⟩ := hF
  refine wa_callS [.int x3] dX1_tableBetween_5 (mmJ6_bitCount_0f7a4 _ _) mlX1_76 mstJ6_bitCount_0f7a4 rfl (a_dlt d) rfl rfl hM9 ?_
  rintro r9 M2 P9 ⟨v2, rfl, rfl, hq9⟩
  replace hF := hF v2 M2 hq9
  simp only [Option.toList, List.cons_append, List.nil_append]
  refine wa_icmp_eq (tgt := 13) dX1_tableBetween_8 rfl (fun hc => ?_) (fun hc => ?_)
  · replace hF := hF.1 hc
    refine wa_aload_n dX1_tableBetween_13 0 rfl rfl ?_
    refine wa_iconst (v := 0) dX1_tableBetween_14 rfl ?_
    refine wa_iload_n dX1_tableBetween_15 1 rfl rfl ?_
    refine wa_iload_n dX1_tableBetween_16 2 rfl rfl ?_
    refine wa_iload_n dX1_tableBetween_17 3 rfl rfl ?_
    obtain ⟨Q3, hM9, hF⟩ := hF
    refine wa_callV [.int 0, .int x1, .int x2, .int x3] dX1_tableBetween_18 (mmX1_wayBetween _ _) mlX1_82 mnX1_wayBetween mseX1_wayBetween rfl rfl rfl rfl (a_dlt d) rfl rfl hM9 ?_
    rintro r9 M3 P9 ⟨v3, rfl, rfl, hq9⟩
    replace hF := hF v3 M3 hq9
    simp only [Option.toList, List.cons_append, List.nil_append]
    refine wa_aload_n dX1_tableBetween_21 0 rfl rfl ?_
    refine wa_iconst (v := 1) dX1_tableBetween_22 rfl ?_
    refine wa_iload_n dX1_tableBetween_23 1 rfl rfl ?_
    refine wa_iload_n dX1_tableBetween_24 2 rfl rfl ?_
    refine wa_iload_n dX1_tableBetween_25 3 rfl rfl ?_
    obtain ⟨Q4, hM9, hF⟩ := hF
    refine wa_callV [.int 1, .int x1, .int x2, .int x3] dX1_tableBetween_26 (mmX1_wayBetween _ _) mlX1_82 mnX1_wayBetween mseX1_wayBetween rfl rfl rfl rfl (a_dlt d) rfl rfl hM9 ?_
    rintro r9 M4 P9 ⟨v4, rfl, rfl, hq9⟩
    replace hF := hF v4 M4 hq9
    simp only [Option.toList, List.cons_append, List.nil_append]
    refine wa_iadd dX1_tableBetween_29 ?_
    refine wa_aload_n dX1_tableBetween_30 0 rfl rfl ?_
    refine wa_getr (r := 18) dX1_tableBetween_31 fkX1_27 rfl rfl rfl ?_
    refine wb_geti (v := M4 18 2) dX1_tableBetween_34 fkX1_61 rfl rfl rfl ?_
    obtain ⟨Q5, hM9, hF⟩ := hF
    refine wa_callSN [.int (v3 + v4), .int (M4 18 2)] dX1_tableBetween_37 (mmX11_left _ _) mkX1_72 mstX11_left rfl (a_dlt d) rfl rfl hM9 ?_
    rintro r9 M5 P9 ⟨v5, rfl, rfl, hq9⟩
    replace hF := hF v5 M5 hq9
    simp only [Option.toList, List.cons_append, List.nil_append]
    exact wa_iret dX1_tableBetween_40 rfl rfl hF
  · replace hF := hF.2 hc
    refine wa_iconst (v := 0) dX1_tableBetween_11 rfl ?_
    exact wa_iret dX1_tableBetween_12 rfl rfl hF

theorem eX1_tableBetween {X : a_X} {ad : Nat → Nat} {ca : Nat → ClassId} {d : Nat} {Post : Option Value → a_M → a_P → Prop} {x : Nat} {M : a_M} (x1 : Int32) (x2 : Int32) (x3 : Int32) (h : WA X ad ca LY RX1 cX1_tableBetween 4 (some FieldType.int) d 0 0 (a_E X ad ca LY Post) 0 [(0, .ref 13), (1, .int x1), (2, .int x2), (3, .int x3)] [] M (PT x)) : Mt X ad ca LY d yX1_tableBetween cX1_tableBetween 4 (some FieldType.int) [.ref 13, .int x1, .int x2, .int x3] M (PT x) Post := Mt.of (lv := [(0, .ref 13), (1, .int x1), (2, .int x2), (3, .int x3)]) (by decide +kernel) rfl rfl rfl (wa_pick [0, 1, 2, 3] rfl h)

theorem bX1_wayBetween_0 {X : a_X} {ad : Nat → Nat} {ca : Nat → ClassId} {d : Nat} {kc ks : Nat} {QF : List Frame → Array Value → State → State → Prop} {x : Nat} {M : a_M} (x1 : Int32) (x2 : Int32) (x3 : Int32) (x4 : Int32)  (hF : WA X ad ca LY RX1 cX1_wayBetween 10 (some FieldType.int) (d + 1) kc ks QF 9 [(0, .ref 13), (1, .int x1), (2, .int x2), (3, .int x3), (4, .int x4), (5, .int x1), (6, .int 1), (7, .int 0)] [] M (PT x)) : WA X ad ca LY RX1 cX1_wayBetween 10 (some FieldType.int) (d + 1) kc ks QF 0 [(0, .ref 13), (1, .int x1), (2, .int x2), (3, .int x3), (4, .int x4)] [] M (PT x) := by
  refine wa_iload_n dX1_wayBetween_0 1 rfl rfl ?_
  refine wa_istore (lv' := [(5, .int x1), (0, .ref 13), (1, .int x1), (2, .int x2), (3, .int x3), (4, .int x4)]) dX1_wayBetween_1 rfl rfl ?_
  refine wa_iconst (v := 1) dX1_wayBetween_3 rfl ?_
  refine wa_istore (lv' := [(6, .int 1), (5, .int x1), (0, .ref 13), (1, .int x1), (2, .int x2), (3, .int x3), (4, .int x4)]) dX1_wayBetween_4 rfl rfl ?_
  refine wa_iconst (v := 0) dX1_wayBetween_6 rfl ?_
  refine wa_istore (lv' := [(7, .int 0), (6, .int 1), (5, .int x1), (0, .ref 13), (1, .int x1), (2, .int x2), (3, .int x3), (4, .int x4)]) dX1_wayBetween_7 rfl rfl ?_
  exact wa_pick [3, 4, 5, 6, 7, 2, 1, 0] rfl hF

theorem bX1_wayBetween_9 {X : a_X} {ad : Nat → Nat} {ca : Nat → ClassId} {d : Nat} {kc ks : Nat} {QF : List Frame → Array Value → State → State → Prop} {x : Nat} {M : a_M} (x1 : Int32) (x2 : Int32) (x3 : Int32) (x4 : Int32) (x5 : Int32) (x6 : Int32) (x7 : Int32)  (hF : (((M 18 0) ≤ x7 → WA X ad ca LY RX1 cX1_wayBetween 10 (some FieldType.int) (d + 1) kc ks QF 134 [(1, .int x1), (5, .int x5), (6, .int x6)] [] M (PT x)) ∧ (¬ (M 18 0) ≤ x7 → ((x6 = 0 → WA X ad ca LY RX1 cX1_wayBetween 10 (some FieldType.int) (d + 1) kc ks QF 134 [(1, .int x1), (5, .int x5), (6, .int x6)] [] M (PT x)) ∧ (¬ x6 = 0 → ((¬ ((x3 >>> (x7 &&& 31)) &&& 1) = ((x4 >>> (x7 &&& 31)) &&& 1) → ((((x3 >>> (x7 &&& 31)) &&& 1) = x5 → WA X ad ca LY RX1 cX1_wayBetween 10 (some FieldType.int) (d + 1) kc ks QF 128 [(0, .ref 13), (1, .int x1), (2, .int x2), (3, .int x3), (4, .int x4), (5, .int x5), (6, .int 0), (7, .int x7)] [] M (PT x)) ∧ (¬ ((x3 >>> (x7 &&& 31)) &&& 1) = x5 → (vp_in x2 97 ∧ (∃ Q1 : Int32 → a_M → Prop, Mt X ad ca LY d yX11_left cX11_left 3 (some FieldType.int) [.int (x6 * (M 16 x2.toNatClampNeg)), .int (M 18 2)] M (PT x) (q_i (PT x) Q1) ∧ ∀ v1 M1, Q1 v1 M1 → WA X ad ca LY RX1 cX1_wayBetween 10 (some FieldType.int) (d + 1) kc ks QF 128 [(0, .ref 13), (1, .int x1), (2, .int x2), (3, .int x3), (4, .int x4), (5, .int ((x3 >>> (x7 &&& 31)) &&& 1)), (6, .int v1), (7, .int x7)] [] M1 (PT x)))))) ∧ (((x3 >>> (x7 &&& 31)) &&& 1) = ((x4 >>> (x7 &&& 31)) &&& 1) → ((¬ ((x3 >>> (x7 &&& 31)) &&& 1) = x5 → (vp_in x2 97 ∧ (∃ Q2 : Int32 → a_M → Prop, Mt X ad ca LY d yX11_left cX11_left 3 (some FieldType.int) [.int (x6 * (M 15 x2.toNatClampNeg)), .int (M 18 2)] M (PT x) (q_i (PT x) Q2) ∧ ∀ v2 M2, Q2 v2 M2 → WA X ad ca LY RX1 cX1_wayBetween 10 (some FieldType.int) (d + 1) kc ks QF 128 [(0, .ref 13), (1, .int x1), (2, .int x2), (3, .int x3), (4, .int x4), (5, .int x5), (6, .int v2), (7, .int x7)] [] M2 (PT x)))) ∧ (((x3 >>> (x7 &&& 31)) &&& 1) = x5 → (vp_in x2 97 ∧ (∃ Q3 : Int32 → a_M → Prop, Mt X ad ca LY d yX11_left cX11_left 3 (some FieldType.int) [.int (x6 * (M 14 x2.toNatClampNeg)), .int (M 18 2)] M (PT x) (q_i (PT x) Q3) ∧ ∀ v3 M3, Q3 v3 M3 → WA X ad ca LY RX1 cX1_wayBetween 10 (some FieldType.int) (d + 1) kc ks QF 128 [(0, .ref 13), (1, .int x1), (2, .int x2), (3, .int x3), (4, .int x4), (5, .int x5), (6, .int v3), (7, .int x7)] [] M3 (PT x)))))))))))) : WA X ad ca LY RX1 cX1_wayBetween 10 (some FieldType.int) (d + 1) kc ks QF 9 [(0, .ref 13), (1, .int x1), (2, .int x2), (3, .int x3), (4, .int x4), (5, .int x5), (6, .int x6), (7, .int x7)] [] M (PT x) := by
  refine wa_iload dX1_wayBetween_9 7 rfl ?_
  refine wa_aload_n dX1_wayBetween_11 0 rfl rfl ?_
  refine wa_getr (r := 18) dX1_wayBetween_12 fkX1_27 rfl rfl rfl ?_
  refine wb_geti (v := M 18 0) dX1_wayBetween_15 fkX1_86 rfl rfl rfl ?_
  refine wa_icmp_ge (tgt := 134) dX1_wayBetween_18 rfl (fun hc => ?_) (fun hc => ?_)
  · replace hF := hF.1 hc
    exact wa_pick [1, 5, 6] rfl hF
  · replace hF := hF.2 hc
    refine wa_iload dX1_wayBetween_21 6 rfl ?_
    refine wa_if_eq (tgt := 134) dX1_wayBetween_23 rfl (fun hc => ?_) (fun hc => ?_)
    · replace hF := hF.1 hc
      exact wa_pick [1, 5, 6] rfl hF
    · replace hF := hF.2 hc
      refine wa_iload_n dX1_wayBetween_26 3 rfl rfl ?_
      refine wa_iload dX1_wayBetween_27 7 rfl ?_
      refine wa_ishr dX1_wayBetween_29 ?_
      refine wa_iconst (v := 1) dX1_wayBetween_30 rfl ?_
      refine wa_iand dX1_wayBetween_31 ?_
      refine wa_istore (lv' := [(8, .int ((x3 >>> (x7 &&& 31)) &&& 1)), (0, .ref 13), (1, .int x1), (2, .int x2), (3, .int x3), (4, .int x4), (5, .int x5), (6, .int x6), (7, .int x7)]) dX1_wayBetween_32 rfl rfl ?_
      refine wa_iload dX1_wayBetween_34 5 rfl ?_
      refine wa_iload dX1_wayBetween_36 8 rfl ?_
      refine wa_ishr dX1_wayBetween_38 ?_
      refine wa_iconst (v := 1) dX1_wayBetween_39 rfl ?_
      refine wa_iand dX1_wayBetween_40 ?_
      refine wa_istore (lv' := [(9, .int ((x4 >>> (x7 &&& 31)) &&& 1)), (8, .int ((x3 >>> (x7 &&& 31)) &&& 1)), (0, .ref 13), (1, .int x1), (2, .int x2), (3, .int x3), (4, .int x4), (5, .int x5), (6, .int x6), (7, .int x7)]) dX1_wayBetween_41 rfl rfl ?_
      refine wa_iload dX1_wayBetween_43 1 rfl ?_
      refine wa_iload dX1_wayBetween_45 0 rfl ?_
      refine wa_icmp_ne (tgt := 90) dX1_wayBetween_47 rfl (fun hc => ?_) (fun hc => ?_)
      · replace hF := hF.1 hc
        refine wa_iload dX1_wayBetween_90 1 rfl ?_
        refine wa_iload dX1_wayBetween_92 7 rfl ?_
        refine wa_icmp_eq (tgt := 125) dX1_wayBetween_94 rfl (fun hc => ?_) (fun hc => ?_)
        · replace hF := hF.1 hc
          refine wa_iconst (v := 0) dX1_wayBetween_125 rfl ?_
          refine wa_istore (lv' := [(6, .int 0), (9, .int ((x4 >>> (x7 &&& 31)) &&& 1)), (8, .int ((x3 >>> (x7 &&& 31)) &&& 1)), (0, .ref 13), (1, .int x1), (2, .int x2), (3, .int x3), (4, .int x4), (5, .int x5), (7, .int x7)]) dX1_wayBetween_126 rfl rfl ?_
          exact wa_pick [3, 4, 5, 6, 7, 8, 0, 9] rfl hF
        · replace hF := hF.2 hc
          refine wa_iload dX1_wayBetween_97 8 rfl ?_
          refine wa_aload_n dX1_wayBetween_99 2 rfl rfl ?_
          refine wa_getr (r := 16) dX1_wayBetween_100 fkX1_18 rfl rfl rfl ?_
          refine wa_iload_n dX1_wayBetween_103 4 rfl rfl ?_
          obtain ⟨hi9, hF⟩ := hF
          refine wb_iald (j := x2.toNatClampNeg) (v := M 16 x2.toNatClampNeg) dX1_wayBetween_104 rfl hi9 rfl rfl ?_
          refine wa_imul dX1_wayBetween_105 ?_
          refine wa_aload_n dX1_wayBetween_106 2 rfl rfl ?_
          refine wa_getr (r := 18) dX1_wayBetween_107 fkX1_27 rfl rfl rfl ?_
          refine wb_geti (v := M 18 2) dX1_wayBetween_110 fkX1_61 rfl rfl rfl ?_
          obtain ⟨Q1, hM9, hF⟩ := hF
          refine wa_callSN [.int (x6 * (M 16 x2.toNatClampNeg)), .int (M 18 2)] dX1_wayBetween_113 (mmX11_left _ _) mkX1_72 mstX11_left rfl (a_dlt d) rfl rfl hM9 ?_
          rintro r9 M1 P9 ⟨v1, rfl, rfl, hq9⟩
          replace hF := hF v1 M1 hq9
          simp only [Option.toList, List.cons_append, List.nil_append]
          refine wa_istore (lv' := [(6, .int v1), (9, .int ((x4 >>> (x7 &&& 31)) &&& 1)), (8, .int ((x3 >>> (x7 &&& 31)) &&& 1)), (0, .ref 13), (1, .int x1), (2, .int x2), (3, .int x3), (4, .int x4), (5, .int x5), (7, .int x7)]) dX1_wayBetween_116 rfl rfl ?_
          refine wa_iload dX1_wayBetween_118 2 rfl ?_
          refine wa_istore (lv' := [(5, .int ((x3 >>> (x7 &&& 31)) &&& 1)), (6, .int v1), (9, .int ((x4 >>> (x7 &&& 31)) &&& 1)), (8, .int ((x3 >>> (x7 &&& 31)) &&& 1)), (0, .ref 13), (1, .int x1), (2, .int x2), (3, .int x3), (4, .int x4), (7, .int x7)]) dX1_wayBetween_120 rfl rfl ?_
          refine wa_goto (tgt := 128) dX1_wayBetween_122 rfl ?_
          exact wa_pick [4, 5, 6, 7, 8, 0, 1, 9] rfl hF
      · replace hF := hF.2 hc
        refine wa_iload dX1_wayBetween_50 8 rfl ?_
        refine wa_iload dX1_wayBetween_52 1 rfl ?_
        refine wa_iload dX1_wayBetween_54 7 rfl ?_
        refine wa_icmp_ne (tgt := 68) dX1_wayBetween_56 rfl (fun hc => ?_) (fun hc => ?_)
        · replace hF := hF.1 hc
          refine wa_aload_n dX1_wayBetween_68 2 rfl rfl ?_
          refine wa_getr (r := 15) dX1_wayBetween_69 fkX1_15 rfl rfl rfl ?_
          refine wa_iload_n dX1_wayBetween_72 4 rfl rfl ?_
          obtain ⟨hi9, hF⟩ := hF
          refine wb_iald (j := x2.toNatClampNeg) (v := M 15 x2.toNatClampNeg) dX1_wayBetween_73 rfl hi9 rfl rfl ?_
          refine wa_imul dX1_wayBetween_74 ?_
          refine wa_aload_n dX1_wayBetween_75 2 rfl rfl ?_
          refine wa_getr (r := 18) dX1_wayBetween_76 fkX1_27 rfl rfl rfl ?_
          refine wb_geti (v := M 18 2) dX1_wayBetween_79 fkX1_61 rfl rfl rfl ?_
          obtain ⟨Q2, hM9, hF⟩ := hF
          refine wa_callSN [.int (x6 * (M 15 x2.toNatClampNeg)), .int (M 18 2)] dX1_wayBetween_82 (mmX11_left _ _) mkX1_72 mstX11_left rfl (a_dlt d) rfl rfl hM9 ?_
          rintro r9 M2 P9 ⟨v2, rfl, rfl, hq9⟩
          replace hF := hF v2 M2 hq9
          simp only [Option.toList, List.cons_append, List.nil_append]
          refine wa_istore (lv' := [(6, .int v2), (9, .int ((x4 >>> (x7 &&& 31)) &&& 1)), (8, .int ((x3 >>> (x7 &&& 31)) &&& 1)), (0, .ref 13), (1, .int x1), (2, .int x2), (3, .int x3), (4, .int x4), (5, .int x5), (7, .int x7)]) dX1_wayBetween_85 rfl rfl ?_
          refine wa_goto (tgt := 128) dX1_wayBetween_87 rfl ?_
          exact wa_pick [3, 4, 5, 6, 7, 8, 0, 9] rfl hF
        · replace hF := hF.2 hc
          refine wa_aload_n dX1_wayBetween_59 2 rfl rfl ?_
          refine wa_getr (r := 14) dX1_wayBetween_60 fkX1_9 rfl rfl rfl ?_
          refine wa_iload_n dX1_wayBetween_63 4 rfl rfl ?_
          obtain ⟨hi9, hF⟩ := hF
          refine wb_iald (j := x2.toNatClampNeg) (v := M 14 x2.toNatClampNeg) dX1_wayBetween_64 rfl hi9 rfl rfl ?_
          refine wa_goto (tgt := 74) dX1_wayBetween_65 rfl ?_
          refine wa_imul dX1_wayBetween_74 ?_
          refine wa_aload_n dX1_wayBetween_75 2 rfl rfl ?_
          refine wa_getr (r := 18) dX1_wayBetween_76 fkX1_27 rfl rfl rfl ?_
          refine wb_geti (v := M 18 2) dX1_wayBetween_79 fkX1_61 rfl rfl rfl ?_
          obtain ⟨Q3, hM9, hF⟩ := hF
          refine wa_callSN [.int (x6 * (M 14 x2.toNatClampNeg)), .int (M 18 2)] dX1_wayBetween_82 (mmX11_left _ _) mkX1_72 mstX11_left rfl (a_dlt d) rfl rfl hM9 ?_
          rintro r9 M3 P9 ⟨v3, rfl, rfl, hq9⟩
          replace hF := hF v3 M3 hq9
          simp only [Option.toList, List.cons_append, List.nil_append]
          refine wa_istore (lv' := [(6, .int v3), (9, .int ((x4 >>> (x7 &&& 31)) &&& 1)), (8, .int ((x3 >>> (x7 &&& 31)) &&& 1)), (0, .ref 13), (1, .int x1), (2, .int x2), (3, .int x3), (4, .int x4), (5, .int x5), (7, .int x7)]) dX1_wayBetween_85 rfl rfl ?_
          refine wa_goto (tgt := 128) dX1_wayBetween_87 rfl ?_
          exact wa_pick [3, 4, 5, 6, 7, 8, 0, 9] rfl hF

theorem bX1_wayBetween_128 {X : a_X} {ad : Nat → Nat} {ca : Nat → ClassId} {d : Nat} {kc ks : Nat} {QF : List Frame → Array Value → State → State → Prop} {x : Nat} {M : a_M} (x1 : Int32) (x2 : Int32) (x3 : Int32) (x4 : Int32) (x5 : Int32) (x6 : Int32) (x7 : Int32)  (hF : WA X ad ca LY RX1 cX1_wayBetween 10 (some FieldType.int) (d + 1) kc ks QF 9 [(0, .ref 13), (1, .int x1), (2, .int x2), (3, .int x3), (4, .int x4), (5, .int x5), (6, .int x6), (7, .int (x7 + 1))] [] M (PT x)) : WA X ad ca LY RX1 cX1_wayBetween 10 (some FieldType.int) (d + 1) kc ks QF 128 [(0, .ref 13), (1, .int x1), (2, .int x2), (3, .int x3), (4, .int x4), (5, .int x5), (6, .int x6), (7, .int x7)] [] M (PT x) := by
  refine wa_iinc (v := x7 + 1) (lv' := [(7, .int (x7 + 1)), (0, .ref 13), (1, .int x1), (2, .int x2), (3, .int x3), (4, .int x4), (5, .int x5), (6, .int x6)]) dX1_wayBetween_128 7 rfl rfl rfl rfl ?_
  refine wa_goto (tgt := 9) dX1_wayBetween_131 rfl ?_
  exact wa_pick [1, 2, 3, 4, 5, 6, 7, 0] rfl hF

theorem bX1_wayBetween_134 {X : a_X} {ad : Nat → Nat} {ca : Nat → ClassId} {d : Nat} {Post : Option Value → a_M → a_P → Prop} {x : Nat} {M : a_M} (x1 : Int32) (x5 : Int32) (x6 : Int32)  (hF : ((¬ x5 = x1 → Post (some (.int 0)) M (PT x)) ∧ (x5 = x1 → Post (some (.int x6)) M (PT x)))) : WA X ad ca LY RX1 cX1_wayBetween 10 (some FieldType.int) (d + 1) 0 0 (a_E X ad ca LY Post) 134 [(1, .int x1), (5, .int x5), (6, .int x6)] [] M (PT x) := by
  refine wa_iload dX1_wayBetween_134 1 rfl ?_
  refine wa_iload_n dX1_wayBetween_136 0 rfl rfl ?_
  refine wa_icmp_ne (tgt := 145) dX1_wayBetween_137 rfl (fun hc => ?_) (fun hc => ?_)
  · replace hF := hF.1 hc
    refine wa_iconst (v := 0) dX1_wayBetween_145 rfl ?_
    exact wa_iret dX1_wayBetween_146 rfl rfl hF
  · replace hF := hF.2 hc
    refine wa_iload dX1_wayBetween_140 2 rfl ?_
    refine wa_goto (tgt := 146) dX1_wayBetween_142 rfl ?_
    exact wa_iret dX1_wayBetween_146 rfl rfl hF

theorem eX1_wayBetween {X : a_X} {ad : Nat → Nat} {ca : Nat → ClassId} {d : Nat} {Post : Option Value → a_M → a_P → Prop} {x : Nat} {M : a_M} (x1 : Int32) (x2 : Int32) (x3 : Int32) (x4 : Int32) (h : WA X ad ca LY RX1 cX1_wayBetween 10 (some FieldType.int) d 0 0 (a_E X ad ca LY Post) 0 [(0, .ref 13), (1, .int x1), (2, .int x2), (3, .int x3), (4, .int x4)] [] M (PT x)) : Mt X ad ca LY d yX1_wayBetween cX1_wayBetween 10 (some FieldType.int) [.ref 13, .int x1, .int x2, .int x3, .int x4] M (PT x) Post := Mt.of (lv := [(0, .ref 13), (1, .int x1), (2, .int x2), (3, .int x3), (4, .int x4)]) (by decide +kernel) rfl rfl rfl (wa_pick [0, 1, 2, 3, 4] rfl h)

theorem bX1_tableOver_0 {X : a_X} {ad : Nat → Nat} {ca : Nat → ClassId} {d : Nat} {kc ks : Nat} {QF : List Frame → Array Value → State → State → Prop} {x : Nat} {M : a_M} (x1 : Int32) (o2 : Nat) (no2 : Nat) (o3 : Nat) (no3 : Nat) (hLo2 : LY[o2]? = some (100, no2)) (hLo3 : LY[o3]? = some (100, no3)) (hF : (∃ Q1 : a_M → Prop, Mt X ad ca LY d yX11_clear cX11_clear 2 none [.ref o3] M (PT x) (q_v (PT x) Q1) ∧ ∀ M1, Q1 M1 → (∃ Q2 : Int32 → a_M → Prop, Mt X ad ca LY d yX6_states cX6_states 1 (some FieldType.int) [.ref 18] M1 (PT x) (q_i (PT x) Q2) ∧ ∀ v2 M2, Q2 v2 M2 → WA X ad ca LY RX1 cX1_tableOver 7 none (d + 1) kc ks QF 16 [(0, .ref 13), (1, .int x1), (2, .ref o2), (3, .ref o3), (4, .int v2), (5, .int 0)] [] M2 (PT x)))) : WA X ad ca LY RX1 cX1_tableOver 7 none (d + 1) kc ks QF 0 [(0, .ref 13), (1, .int x1), (2, .ref o2), (3, .ref o3)] [] M (PT x) := by
  refine wa_aload_n dX1_tableOver_0 3 rfl rfl ?_
  obtain ⟨Q1, hM9, hF⟩ := hF
  refine wa_callSN [.ref o3] dX1_tableOver_1 (mmX11_clear _ _) mkX1_89 mstX11_clear rfl (a_dlt d) rfl rfl hM9 ?_
  rintro r9 M1 P9 ⟨rfl, rfl, hq9⟩
  replace hF := hF M1 hq9
  simp only [Option.toList, List.nil_append]
  refine wa_aload_n dX1_tableOver_4 0 rfl rfl ?_
  refine wa_getr (r := 18) dX1_tableOver_5 fkX1_27 rfl rfl rfl ?_
  obtain ⟨Q2, hM9, hF⟩ := hF
  refine wa_callV [] dX1_tableOver_8 (mmX6_states _ _) mlX1_93 mnX6_states mseX6_states rfl rfl rfl rfl (a_dlt d) rfl rfl hM9 ?_
  rintro r9 M2 P9 ⟨v2, rfl, rfl, hq9⟩
  replace hF := hF v2 M2 hq9
  simp only [Option.toList, List.cons_append, List.nil_append]
  refine wa_istore (lv' := [(4, .int v2), (0, .ref 13), (1, .int x1), (2, .ref o2), (3, .ref o3)]) dX1_tableOver_11 rfl rfl ?_
  refine wa_iconst (v := 0) dX1_tableOver_13 rfl ?_
  refine wa_istore (lv' := [(5, .int 0), (4, .int v2), (0, .ref 13), (1, .int x1), (2, .ref o2), (3, .ref o3)]) dX1_tableOver_14 rfl rfl ?_
  exact wa_pick [2, 3, 4, 5, 1, 0] rfl hF

theorem bX1_tableOver_16 {X : a_X} {ad : Nat → Nat} {ca : Nat → ClassId} {d : Nat} {Post : Option Value → a_M → a_P → Prop} {x : Nat} {M : a_M} (x1 : Int32) (o2 : Nat) (no2 : Nat) (o3 : Nat) (no3 : Nat) (x4 : Int32) (x5 : Int32) (hLo2 : LY[o2]? = some (100, no2)) (hLo3 : LY[o3]? = some (100, no3)) (hF : ((2 ≤ x5 → Post none M (PT x)) ∧ (¬ 2 ≤ x5 → (∃ Q1 : a_M → Prop, Mt X ad ca LY d yX11_clear cX11_clear 2 none [.ref 17] M (PT x) (q_v (PT x) Q1) ∧ ∀ M1, Q1 M1 → (¬ (0 : Int32) < 0 ∧ ¬ (x5 * x4 : Int32) < 0 ∧ ¬ (x4 : Int32) < 0 ∧ (0 : Int32).toNatClampNeg + (x4 : Int32).toNatClampNeg ≤ no2 ∧ (x5 * x4 : Int32).toNatClampNeg + (x4 : Int32).toNatClampNeg ≤ 256 ∧ WA X ad ca LY RX1 cX1_tableOver 7 none (d + 1) 0 0 (a_E X ad ca LY Post) 48 [(0, .ref 13), (1, .int x1), (2, .ref o2), (3, .ref o3), (4, .int x4), (5, .int x5), (6, .int 0)] [] (va_up M1 17 (va_cpy (M1 o2) (M1 17) (0 : Int32).toNatClampNeg (x5 * x4 : Int32).toNatClampNeg (x4 : Int32).toNatClampNeg)) (PT x)))))) : WA X ad ca LY RX1 cX1_tableOver 7 none (d + 1) 0 0 (a_E X ad ca LY Post) 16 [(0, .ref 13), (1, .int x1), (2, .ref o2), (3, .ref o3), (4, .int x4), (5, .int x5)] [] M (PT x) := by
  refine wa_iload dX1_tableOver_16 5 rfl ?_
  refine wa_iconst (v := 2) dX1_tableOver_18 rfl ?_
  refine wa_icmp_ge (tgt := 129) dX1_tableOver_19 rfl (fun hc => ?_) (fun hc => ?_)
  · replace hF := hF.1 hc
    exact wa_vret dX1_tableOver_129 rfl hF
  · replace hF := hF.2 hc
    refine wa_aload_n dX1_tableOver_22 0 rfl rfl ?_
    refine wa_getr (r := 17) dX1_tableOver_23 fkX1_21 rfl rfl rfl ?_
    obtain ⟨Q1, hM9, hF⟩ := hF
    refine wa_callSN [.ref 17] dX1_tableOver_26 (mmX11_clear _ _) mkX1_89 mstX11_clear rfl (a_dlt d) rfl rfl hM9 ?_
    rintro r9 M1 P9 ⟨rfl, rfl, hq9⟩
    replace hF := hF M1 hq9
    simp only [Option.toList, List.nil_append]
    refine wa_aload_n dX1_tableOver_29 2 rfl rfl ?_
    refine wa_iconst (v := 0) dX1_tableOver_30 rfl ?_
    refine wa_aload_n dX1_tableOver_31 0 rfl rfl ?_
    refine wa_getr (r := 17) dX1_tableOver_32 fkX1_21 rfl rfl rfl ?_
    refine wa_iload dX1_tableOver_35 5 rfl ?_
    refine wa_iload dX1_tableOver_37 4 rfl ?_
    refine wa_imul dX1_tableOver_39 ?_
    refine wa_iload dX1_tableOver_40 4 rfl ?_
    obtain ⟨h91, h92, h93, h94, h95, hF⟩ := hF
    refine wa_copy dX1_tableOver_42 mlX1_97 acn acs inJ10 hLo2 rfl h91 h92 h93 h94 h95 rfl ?_
    refine wa_iconst (v := 0) dX1_tableOver_45 rfl ?_
    refine wa_istore (lv' := [(6, .int 0), (0, .ref 13), (1, .int x1), (2, .ref o2), (3, .ref o3), (4, .int x4), (5, .int x5)]) dX1_tableOver_46 rfl rfl ?_
    exact wa_pick [1, 2, 3, 4, 5, 6, 0] rfl hF

theorem bX1_tableOver_48 {X : a_X} {ad : Nat → Nat} {ca : Nat → ClassId} {d : Nat} {kc ks : Nat} {QF : List Frame → Array Value → State → State → Prop} {x : Nat} {M : a_M} (x1 : Int32) (o2 : Nat) (no2 : Nat) (o3 : Nat) (no3 : Nat) (x4 : Int32) (x5 : Int32) (x6 : Int32) (hLo2 : LY[o2]? = some (100, no2)) (hLo3 : LY[o3]? = some (100, no3)) (hF : (((M 18 0) ≤ x6 → WA X ad ca LY RX1 cX1_tableOver 7 none (d + 1) kc ks QF 78 [(0, .ref 13), (1, .int x1), (2, .ref o2), (3, .ref o3), (4, .int x4), (5, .int x5), (6, .int 0)] [] M (PT x)) ∧ (¬ (M 18 0) ≤ x6 → (∃ Q1 : a_M → Prop, Mt X ad ca LY d yX1_passLetter cX1_passLetter 11 none [.ref 13, .int x6, .int x1, .int x4] M (PT x) (q_v (PT x) Q1) ∧ ∀ M1, Q1 M1 → WA X ad ca LY RX1 cX1_tableOver 7 none (d + 1) kc ks QF 48 [(0, .ref 13), (1, .int x1), (2, .ref o2), (3, .ref o3), (4, .int x4), (5, .int x5), (6, .int (x6 + 1))] [] M1 (PT x))))) : WA X ad ca LY RX1 cX1_tableOver 7 none (d + 1) kc ks QF 48 [(0, .ref 13), (1, .int x1), (2, .ref o2), (3, .ref o3), (4, .int x4), (5, .int x5), (6, .int x6)] [] M (PT x) := by
  refine wa_iload dX1_tableOver_48 6 rfl ?_
  refine wa_aload_n dX1_tableOver_50 0 rfl rfl ?_
  refine wa_getr (r := 18) dX1_tableOver_51 fkX1_27 rfl rfl rfl ?_
  refine wb_geti (v := M 18 0) dX1_tableOver_54 fkX1_86 rfl rfl rfl ?_
  refine wa_icmp_ge (tgt := 75) dX1_tableOver_57 rfl (fun hc => ?_) (fun hc => ?_)
  · replace hF := hF.1 hc
    refine wa_iconst (v := 0) dX1_tableOver_75 rfl ?_
    refine wa_istore (lv' := [(6, .int 0), (0, .ref 13), (1, .int x1), (2, .ref o2), (3, .ref o3), (4, .int x4), (5, .int x5)]) dX1_tableOver_76 rfl rfl ?_
    exact wa_pick [1, 2, 3, 4, 5, 6, 0] rfl hF
  · replace hF := hF.2 hc
    refine wa_aload_n dX1_tableOver_60 0 rfl rfl ?_
    refine wa_iload dX1_tableOver_61 6 rfl ?_
    refine wa_iload_n dX1_tableOver_63 1 rfl rfl ?_
    refine wa_iload dX1_tableOver_64 4 rfl ?_
    obtain ⟨Q1, hM9, hF⟩ := hF
    refine wa_callV [.int x6, .int x1, .int x4] dX1_tableOver_66 (mmX1_passLetter _ _) mlX1_103 mnX1_passLetter mseX1_passLetter rfl rfl rfl rfl (a_dlt d) rfl rfl hM9 ?_
    rintro r9 M1 P9 ⟨rfl, rfl, hq9⟩
    replace hF := hF M1 hq9
    simp only [Option.toList, List.nil_append]
    refine wa_iinc (v := x6 + 1) (lv' := [(6, .int (x6 + 1)), (0, .ref 13), (1, .int x1), (2, .ref o2), (3, .ref o3), (4, .int x4), (5, .int x5)]) dX1_tableOver_69 6 rfl rfl rfl rfl ?_
    refine wa_goto (tgt := 48) dX1_tableOver_72 rfl ?_
    exact wa_pick [1, 2, 3, 4, 5, 6, 0] rfl hF

theorem bX1_tableOver_78 {X : a_X} {ad : Nat → Nat} {ca : Nat → ClassId} {d : Nat} {kc ks : Nat} {QF : List Frame → Array Value → State → State → Prop} {x : Nat} {M : a_M} (x1 : Int32) (o2 : Nat) (no2 : Nat) (o3 : Nat) (no3 : Nat) (x4 : Int32) (x5 : Int32) (x6 : Int32) (hLo2 : LY[o2]? = some (100, no2)) (hLo3 : LY[o3]? = some (100, no3)) (hF : ((x4 ≤ x6 → WA X ad ca LY RX1 cX1_tableOver 7 none (d + 1) kc ks QF 16 [(0, .ref 13), (1, .int x1), (2, .ref o2), (3, .ref o3), (4, .int x4), (5, .int (x5 + 1))] [] M (PT x)) ∧ (¬ x4 ≤ x6 → (vp_in x6 no3 ∧ (vp_in ((x5 * x4) + x6) 256 ∧ (∃ Q1 : Int32 → a_M → Prop, Mt X ad ca LY d yX11_left cX11_left 3 (some FieldType.int) [.int ((M o3 x6.toNatClampNeg) + (M 17 (((x5 * x4) + x6).toNatClampNeg))), .int (M 18 2)] M (PT x) (q_i (PT x) Q1) ∧ ∀ v1 M1, Q1 v1 M1 → (vp_in x6 no3 ∧ WA X ad ca LY RX1 cX1_tableOver 7 none (d + 1) kc ks QF 78 [(0, .ref 13), (1, .int x1), (2, .ref o2), (3, .ref o3), (4, .int x4), (5, .int x5), (6, .int (x6 + 1))] [] (ms M1 o3 x6.toNatClampNeg v1) (PT x)))))))) : WA X ad ca LY RX1 cX1_tableOver 7 none (d + 1) kc ks QF 78 [(0, .ref 13), (1, .int x1), (2, .ref o2), (3, .ref o3), (4, .int x4), (5, .int x5), (6, .int x6)] [] M (PT x) := by
  refine wa_iload dX1_tableOver_78 6 rfl ?_
  refine wa_iload dX1_tableOver_80 4 rfl ?_
  refine wa_icmp_ge (tgt := 123) dX1_tableOver_82 rfl (fun hc => ?_) (fun hc => ?_)
  · replace hF := hF.1 hc
    refine wa_iinc (v := x5 + 1) (lv' := [(5, .int (x5 + 1)), (0, .ref 13), (1, .int x1), (2, .ref o2), (3, .ref o3), (4, .int x4), (6, .int x6)]) dX1_tableOver_123 5 rfl rfl rfl rfl ?_
    refine wa_goto (tgt := 16) dX1_tableOver_126 rfl ?_
    exact wa_pick [1, 2, 3, 4, 5, 0] rfl hF
  · replace hF := hF.2 hc
    refine wa_aload_n dX1_tableOver_85 3 rfl rfl ?_
    refine wa_iload dX1_tableOver_86 6 rfl ?_
    refine wa_aload_n dX1_tableOver_88 3 rfl rfl ?_
    refine wa_iload dX1_tableOver_89 6 rfl ?_
    obtain ⟨hi9, hF⟩ := hF
    refine wb_iald (j := x6.toNatClampNeg) (v := M o3 x6.toNatClampNeg) dX1_tableOver_91 hLo3 hi9 rfl rfl ?_
    refine wa_aload_n dX1_tableOver_92 0 rfl rfl ?_
    refine wa_getr (r := 17) dX1_tableOver_93 fkX1_21 rfl rfl rfl ?_
    refine wa_iload dX1_tableOver_96 5 rfl ?_
    refine wa_iload dX1_tableOver_98 4 rfl ?_
    refine wa_imul dX1_tableOver_100 ?_
    refine wa_iload dX1_tableOver_101 6 rfl ?_
    refine wa_iadd dX1_tableOver_103 ?_
    obtain ⟨hi9, hF⟩ := hF
    refine wb_iald (j := ((x5 * x4) + x6).toNatClampNeg) (v := M 17 (((x5 * x4) + x6).toNatClampNeg)) dX1_tableOver_104 rfl hi9 rfl rfl ?_
    refine wa_iadd dX1_tableOver_105 ?_
    refine wa_aload_n dX1_tableOver_106 0 rfl rfl ?_
    refine wa_getr (r := 18) dX1_tableOver_107 fkX1_27 rfl rfl rfl ?_
    refine wb_geti (v := M 18 2) dX1_tableOver_110 fkX1_61 rfl rfl rfl ?_
    obtain ⟨Q1, hM9, hF⟩ := hF
    refine wa_callSN [.int ((M o3 x6.toNatClampNeg) + (M 17 (((x5 * x4) + x6).toNatClampNeg))), .int (M 18 2)] dX1_tableOver_113 (mmX11_left _ _) mkX1_72 mstX11_left rfl (a_dlt d) rfl rfl hM9 ?_
    rintro r9 M1 P9 ⟨v1, rfl, rfl, hq9⟩
    replace hF := hF v1 M1 hq9
    simp only [Option.toList, List.cons_append, List.nil_append]
    obtain ⟨hi9, hF⟩ := hF
    refine wb_iast (j := x6.toNatClampNeg) dX1_tableOver_116 hLo3 hi9 rfl ?_
    refine wa_iinc (v := x6 + 1) (lv' := [(6, .int (x6 + 1)), (0, .ref 13), (1, .int x1), (2, .ref o2), (3, .ref o3), (4, .int x4), (5, .int x5)]) dX1_tableOver_117 6 rfl rfl rfl rfl ?_
    refine wa_goto (tgt := 78) dX1_tableOver_120 rfl ?_
    exact wa_pick [1, 2, 3, 4, 5, 6, 0] rfl hF

theorem eX1_tableOver {X : a_X} {ad : Nat → Nat} {ca : Nat → ClassId} {d : Nat} {Post : Option Value → a_M → a_P → Prop} {x : Nat} {M : a_M} (x1 : Int32) (o2 : Nat) (o3 : Nat) (h : WA X ad ca LY RX1 cX1_tableOver 7 none d 0 0 (a_E X ad ca LY Post) 0 [(0, .ref 13), (1, .int x1), (2, .ref o2), (3, .ref o3)] [] M (PT x)) : Mt X ad ca LY d yX1_tableOver cX1_tableOver 7 none [.ref 13, .int x1, .ref o2, .ref o3] M (PT x) Post := Mt.of (lv := [(0, .ref 13), (1, .int x1), (2, .ref o2), (3, .ref o3)]) (by decide +kernel) rfl rfl rfl (wa_pick [0, 1, 2, 3] rfl h)

theorem bX1_passLetter_0 {X : a_X} {ad : Nat → Nat} {ca : Nat → ClassId} {d : Nat} {kc ks : Nat} {QF : List Frame → Array Value → State → State → Prop} {x : Nat} {M : a_M} (x1 : Int32) (x2 : Int32) (x3 : Int32)  (hF : WA X ad ca LY RX1 cX1_passLetter 11 none (d + 1) kc ks QF 8 [(0, .ref 13), (2, .int x2), (3, .int x3), (4, .int ((1 : Int32) <<< (x1 &&& 31))), (5, .int 0)] [] M (PT x)) : WA X ad ca LY RX1 cX1_passLetter 11 none (d + 1) kc ks QF 0 [(0, .ref 13), (1, .int x1), (2, .int x2), (3, .int x3)] [] M (PT x) := by
  refine wa_iconst (v := 1) dX1_passLetter_0 rfl ?_
  refine wa_iload_n dX1_passLetter_1 1 rfl rfl ?_
  refine wa_ishl dX1_passLetter_2 ?_
  refine wa_istore (lv' := [(4, .int ((1 : Int32) <<< (x1 &&& 31))), (0, .ref 13), (1, .int x1), (2, .int x2), (3, .int x3)]) dX1_passLetter_3 rfl rfl ?_
  refine wa_iconst (v := 0) dX1_passLetter_5 rfl ?_
  refine wa_istore (lv' := [(5, .int 0), (4, .int ((1 : Int32) <<< (x1 &&& 31))), (0, .ref 13), (1, .int x1), (2, .int x2), (3, .int x3)]) dX1_passLetter_6 rfl rfl ?_
  exact wa_pick [2, 4, 5, 1, 0] rfl hF

theorem bX1_passLetter_8 {X : a_X} {ad : Nat → Nat} {ca : Nat → ClassId} {d : Nat} {Post : Option Value → a_M → a_P → Prop} {x : Nat} {M : a_M} (x2 : Int32) (x3 : Int32) (x4 : Int32) (x5 : Int32)  (hF : ((x3 ≤ x5 → Post none M (PT x)) ∧ (¬ x3 ≤ x5 → ((¬ (x5 &&& x4) = 0 → WA X ad ca LY RX1 cX1_passLetter 11 none (d + 1) 0 0 (a_E X ad ca LY Post) 201 [(0, .ref 13), (2, .int x2), (3, .int x3), (4, .int x4), (5, .int x5)] [] M (PT x)) ∧ ((x5 &&& x4) = 0 → (vp_in x2 97 ∧ (vp_in x5 256 ∧ (∃ Q1 : Int32 → a_M → Prop, Mt X ad ca LY d yX11_left cX11_left 3 (some FieldType.int) [.int ((M 14 x2.toNatClampNeg) * (M 17 x5.toNatClampNeg)), .int (M 18 2)] M (PT x) (q_i (PT x) Q1) ∧ ∀ v1 M1, Q1 v1 M1 → (vp_in x5 256 ∧ (vp_in x2 97 ∧ (vp_in ((x3 + x5) + x4) 256 ∧ (∃ Q2 : Int32 → a_M → Prop, Mt X ad ca LY d yX11_left cX11_left 3 (some FieldType.int) [.int ((M1 14 x2.toNatClampNeg) * ((ms M1 17 x5.toNatClampNeg v1) 17 (((x3 + x5) + x4).toNatClampNeg))), .int (M1 18 2)] (ms M1 17 x5.toNatClampNeg v1) (PT x) (q_i (PT x) Q2) ∧ ∀ v2 M2, Q2 v2 M2 → (vp_in ((x3 + x5) + x4) 256 ∧ (vp_in (x5 + x4) 256 ∧ (vp_in x2 97 ∧ (vp_in x2 97 ∧ (vp_in (x3 + x5) 256 ∧ (∃ Q3 : Int32 → a_M → Prop, Mt X ad ca LY d yX11_left cX11_left 3 (some FieldType.int) [.int (((M2 15 x2.toNatClampNeg) * ((ms M2 17 (((x3 + x5) + x4).toNatClampNeg) v2) 17 ((x5 + x4).toNatClampNeg))) + ((M2 16 x2.toNatClampNeg) * ((ms M2 17 (((x3 + x5) + x4).toNatClampNeg) v2) 17 ((x3 + x5).toNatClampNeg)))), .int (M2 18 2)] (ms M2 17 (((x3 + x5) + x4).toNatClampNeg) v2) (PT x) (q_i (PT x) Q3) ∧ ∀ v3 M3, Q3 v3 M3 → (vp_in (x5 + x4) 256 ∧ (vp_in x2 97 ∧ (vp_in (x3 + x5) 256 ∧ (vp_in x2 97 ∧ (∃ Q4 : Int32 → a_M → Prop, Mt X ad ca LY d yX11_left cX11_left 3 (some FieldType.int) [.int (((M3 15 x2.toNatClampNeg) * ((ms M3 17 ((x5 + x4).toNatClampNeg) v3) 17 ((x3 + x5).toNatClampNeg))) + ((M3 16 x2.toNatClampNeg) * ((ms M2 17 (((x3 + x5) + x4).toNatClampNeg) v2) 17 ((x5 + x4).toNatClampNeg)))), .int (M3 18 2)] (ms M3 17 ((x5 + x4).toNatClampNeg) v3) (PT x) (q_i (PT x) Q4) ∧ ∀ v4 M4, Q4 v4 M4 → (vp_in (x3 + x5) 256 ∧ WA X ad ca LY RX1 cX1_passLetter 11 none (d + 1) 0 0 (a_E X ad ca LY Post) 201 [(0, .ref 13), (2, .int x2), (3, .int x3), (4, .int x4), (5, .int x5)] [] (ms M4 17 ((x3 + x5).toNatClampNeg) v4) (PT x))))))))))))))))))))))))) : WA X ad ca LY RX1 cX1_passLetter 11 none (d + 1) 0 0 (a_E X ad ca LY Post) 8 [(0, .ref 13), (2, .int x2), (3, .int x3), (4, .int x4), (5, .int x5)] [] M (PT x) := by
  refine wa_iload dX1_passLetter_8 4 rfl ?_
  refine wa_iload_n dX1_passLetter_10 2 rfl rfl ?_
  refine wa_icmp_ge (tgt := 207) dX1_passLetter_11 rfl (fun hc => ?_) (fun hc => ?_)
  · replace hF := hF.1 hc
    exact wa_vret dX1_passLetter_207 rfl hF
  · replace hF := hF.2 hc
    refine wa_iload dX1_passLetter_14 4 rfl ?_
    refine wa_iload dX1_passLetter_16 3 rfl ?_
    refine wa_iand dX1_passLetter_18 ?_
    refine wa_if_ne (tgt := 201) dX1_passLetter_19 rfl (fun hc => ?_) (fun hc => ?_)
    · replace hF := hF.1 hc
      exact hF
    · replace hF := hF.2 hc
      refine wa_iload dX1_passLetter_22 4 rfl ?_
      refine wa_istore (lv' := [(6, .int x5), (0, .ref 13), (2, .int x2), (3, .int x3), (4, .int x4), (5, .int x5)]) dX1_passLetter_24 rfl rfl ?_
      refine wa_iload_n dX1_passLetter_26 3 rfl rfl ?_
      refine wa_iload dX1_passLetter_27 5 rfl ?_
      refine wa_iadd dX1_passLetter_29 ?_
      refine wa_iload dX1_passLetter_30 4 rfl ?_
      refine wa_iadd dX1_passLetter_32 ?_
      refine wa_istore (lv' := [(7, .int ((x3 + x5) + x4)), (6, .int x5), (0, .ref 13), (2, .int x2), (3, .int x3), (4, .int x4), (5, .int x5)]) dX1_passLetter_33 rfl rfl ?_
      refine wa_aload_n dX1_passLetter_35 2 rfl rfl ?_
      refine wa_getr (r := 17) dX1_passLetter_36 fkX1_21 rfl rfl rfl ?_
      refine wa_iload dX1_passLetter_39 1 rfl ?_
      refine wa_aload_n dX1_passLetter_41 2 rfl rfl ?_
      refine wa_getr (r := 14) dX1_passLetter_42 fkX1_9 rfl rfl rfl ?_
      refine wa_iload_n dX1_passLetter_45 3 rfl rfl ?_
      obtain ⟨hi9, hF⟩ := hF
      refine wb_iald (j := x2.toNatClampNeg) (v := M 14 x2.toNatClampNeg) dX1_passLetter_46 rfl hi9 rfl rfl ?_
      refine wa_aload_n dX1_passLetter_47 2 rfl rfl ?_
      refine wa_getr (r := 17) dX1_passLetter_48 fkX1_21 rfl rfl rfl ?_
      refine wa_iload dX1_passLetter_51 1 rfl ?_
      obtain ⟨hi9, hF⟩ := hF
      refine wb_iald (j := x5.toNatClampNeg) (v := M 17 x5.toNatClampNeg) dX1_passLetter_53 rfl hi9 rfl rfl ?_
      refine wa_imul dX1_passLetter_54 ?_
      refine wa_aload_n dX1_passLetter_55 2 rfl rfl ?_
      refine wa_getr (r := 18) dX1_passLetter_56 fkX1_27 rfl rfl rfl ?_
      refine wb_geti (v := M 18 2) dX1_passLetter_59 fkX1_61 rfl rfl rfl ?_
      obtain ⟨Q1, hM9, hF⟩ := hF
      refine wa_callSN [.int ((M 14 x2.toNatClampNeg) * (M 17 x5.toNatClampNeg)), .int (M 18 2)] dX1_passLetter_62 (mmX11_left _ _) mkX1_72 mstX11_left rfl (a_dlt d) rfl rfl hM9 ?_
      rintro r9 M1 P9 ⟨v1, rfl, rfl, hq9⟩
      replace hF := hF v1 M1 hq9
      simp only [Option.toList, List.cons_append, List.nil_append]
      obtain ⟨hi9, hF⟩ := hF
      refine wb_iast (j := x5.toNatClampNeg) dX1_passLetter_65 rfl hi9 rfl ?_
      refine wa_aload_n dX1_passLetter_66 2 rfl rfl ?_
      refine wa_getr (r := 17) dX1_passLetter_67 fkX1_21 rfl rfl rfl ?_
      refine wa_iload dX1_passLetter_70 0 rfl ?_
      refine wa_aload_n dX1_passLetter_72 2 rfl rfl ?_
      refine wa_getr (r := 14) dX1_passLetter_73 fkX1_9 rfl rfl rfl ?_
      refine wa_iload_n dX1_passLetter_76 3 rfl rfl ?_
      obtain ⟨hi9, hF⟩ := hF
      refine wb_iald (j := x2.toNatClampNeg) (v := M1 14 x2.toNatClampNeg) dX1_passLetter_77 rfl hi9 rfl ((ms_no M1 17 x5.toNatClampNeg v1 14 x2.toNatClampNeg (fun h9 => absurd h9.1 (by decide))).trans rfl) ?_
      refine wa_aload_n dX1_passLetter_78 2 rfl rfl ?_
      refine wa_getr (r := 17) dX1_passLetter_79 fkX1_21 rfl rfl rfl ?_
      refine wa_iload dX1_passLetter_82 0 rfl ?_
      obtain ⟨hi9, hF⟩ := hF
      refine wb_iald (j := ((x3 + x5) + x4).toNatClampNeg) (v := (ms M1 17 x5.toNatClampNeg v1) 17 (((x3 + x5) + x4).toNatClampNeg)) dX1_passLetter_84 rfl hi9 rfl rfl ?_
      refine wa_imul dX1_passLetter_85 ?_
      refine wa_aload_n dX1_passLetter_86 2 rfl rfl ?_
      refine wa_getr (r := 18) dX1_passLetter_87 fkX1_27 rfl rfl rfl ?_
      refine wb_geti (v := M1 18 2) dX1_passLetter_90 fkX1_61 rfl rfl ((ms_no M1 17 x5.toNatClampNeg v1 18 2 (fun h9 => absurd h9.1 (by decide))).trans rfl) ?_
      obtain ⟨Q2, hM9, hF⟩ := hF
      refine wa_callSN [.int ((M1 14 x2.toNatClampNeg) * ((ms M1 17 x5.toNatClampNeg v1) 17 (((x3 + x5) + x4).toNatClampNeg))), .int (M1 18 2)] dX1_passLetter_93 (mmX11_left _ _) mkX1_72 mstX11_left rfl (a_dlt d) rfl rfl hM9 ?_
      rintro r9 M2 P9 ⟨v2, rfl, rfl, hq9⟩
      replace hF := hF v2 M2 hq9
      simp only [Option.toList, List.cons_append, List.nil_append]
      obtain ⟨hi9, hF⟩ := hF
      refine wb_iast (j := ((x3 + x5) + x4).toNatClampNeg) dX1_passLetter_96 rfl hi9 rfl ?_
      refine wa_iload dX1_passLetter_97 6 rfl ?_
      refine wa_iload dX1_passLetter_99 5 rfl ?_
      refine wa_iadd dX1_passLetter_101 ?_
      refine wa_istore (lv' := [(8, .int (x5 + x4)), (7, .int ((x3 + x5) + x4)), (6, .int x5), (0, .ref 13), (2, .int x2), (3, .int x3), (4, .int x4), (5, .int x5)]) dX1_passLetter_102 rfl rfl ?_
      refine wa_iload_n dX1_passLetter_104 5 rfl rfl ?_
      refine wa_iload dX1_passLetter_105 7 rfl ?_
      refine wa_iadd dX1_passLetter_107 ?_
      refine wa_istore (lv' := [(9, .int (x3 + x5)), (8, .int (x5 + x4)), (7, .int ((x3 + x5) + x4)), (6, .int x5), (0, .ref 13), (2, .int x2), (3, .int x3), (4, .int x4), (5, .int x5)]) dX1_passLetter_108 rfl rfl ?_
      refine wa_aload_n dX1_passLetter_110 4 rfl rfl ?_
      refine wa_getr (r := 17) dX1_passLetter_111 fkX1_21 rfl rfl rfl ?_
      refine wa_iload dX1_passLetter_114 1 rfl ?_
      obtain ⟨hi9, hF⟩ := hF
      refine wb_iald (j := (x5 + x4).toNatClampNeg) (v := (ms M2 17 (((x3 + x5) + x4).toNatClampNeg) v2) 17 ((x5 + x4).toNatClampNeg)) dX1_passLetter_116 rfl hi9 rfl rfl ?_
      refine wa_istore (lv' := [(10, .int ((ms M2 17 (((x3 + x5) + x4).toNatClampNeg) v2) 17 ((x5 + x4).toNatClampNeg))), (9, .int (x3 + x5)), (8, .int (x5 + x4)), (7, .int ((x3 + x5) + x4)), (6, .int x5), (0, .ref 13), (2, .int x2), (3, .int x3), (4, .int x4), (5, .int x5)]) dX1_passLetter_117 rfl rfl ?_
      refine wa_aload_n dX1_passLetter_119 5 rfl rfl ?_
      refine wa_getr (r := 17) dX1_passLetter_120 fkX1_21 rfl rfl rfl ?_
      refine wa_iload dX1_passLetter_123 2 rfl ?_
      refine wa_aload_n dX1_passLetter_125 5 rfl rfl ?_
      refine wa_getr (r := 15) dX1_passLetter_126 fkX1_15 rfl rfl rfl ?_
      refine wa_iload_n dX1_passLetter_129 6 rfl rfl ?_
      obtain ⟨hi9, hF⟩ := hF
      refine wb_iald (j := x2.toNatClampNeg) (v := M2 15 x2.toNatClampNeg) dX1_passLetter_130 rfl hi9 rfl ((ms_no M2 17 (((x3 + x5) + x4).toNatClampNeg) v2 15 x2.toNatClampNeg (fun h9 => absurd h9.1 (by decide))).trans rfl) ?_
      refine wa_iload dX1_passLetter_131 0 rfl ?_
      refine wa_imul dX1_passLetter_133 ?_
      refine wa_aload_n dX1_passLetter_134 5 rfl rfl ?_
      refine wa_getr (r := 16) dX1_passLetter_135 fkX1_18 rfl rfl rfl ?_
      refine wa_iload_n dX1_passLetter_138 6 rfl rfl ?_
      obtain ⟨hi9, hF⟩ := hF
      refine wb_iald (j := x2.toNatClampNeg) (v := M2 16 x2.toNatClampNeg) dX1_passLetter_139 rfl hi9 rfl ((ms_no M2 17 (((x3 + x5) + x4).toNatClampNeg) v2 16 x2.toNatClampNeg (fun h9 => absurd h9.1 (by decide))).trans rfl) ?_
      refine wa_aload_n dX1_passLetter_140 5 rfl rfl ?_
      refine wa_getr (r := 17) dX1_passLetter_141 fkX1_21 rfl rfl rfl ?_
      refine wa_iload dX1_passLetter_144 1 rfl ?_
      obtain ⟨hi9, hF⟩ := hF
      refine wb_iald (j := (x3 + x5).toNatClampNeg) (v := (ms M2 17 (((x3 + x5) + x4).toNatClampNeg) v2) 17 ((x3 + x5).toNatClampNeg)) dX1_passLetter_146 rfl hi9 rfl rfl ?_
      refine wa_imul dX1_passLetter_147 ?_
      refine wa_iadd dX1_passLetter_148 ?_
      refine wa_aload_n dX1_passLetter_149 5 rfl rfl ?_
      refine wa_getr (r := 18) dX1_passLetter_150 fkX1_27 rfl rfl rfl ?_
      refine wb_geti (v := M2 18 2) dX1_passLetter_153 fkX1_61 rfl rfl ((ms_no M2 17 (((x3 + x5) + x4).toNatClampNeg) v2 18 2 (fun h9 => absurd h9.1 (by decide))).trans rfl) ?_
      obtain ⟨Q3, hM9, hF⟩ := hF
      refine wa_callSN [.int (((M2 15 x2.toNatClampNeg) * ((ms M2 17 (((x3 + x5) + x4).toNatClampNeg) v2) 17 ((x5 + x4).toNatClampNeg))) + ((M2 16 x2.toNatClampNeg) * ((ms M2 17 (((x3 + x5) + x4).toNatClampNeg) v2) 17 ((x3 + x5).toNatClampNeg)))), .int (M2 18 2)] dX1_passLetter_156 (mmX11_left _ _) mkX1_72 mstX11_left rfl (a_dlt d) rfl rfl hM9 ?_
      rintro r9 M3 P9 ⟨v3, rfl, rfl, hq9⟩
      replace hF := hF v3 M3 hq9
      simp only [Option.toList, List.cons_append, List.nil_append]
      obtain ⟨hi9, hF⟩ := hF
      refine wb_iast (j := (x5 + x4).toNatClampNeg) dX1_passLetter_159 rfl hi9 rfl ?_
      refine wa_aload_n dX1_passLetter_160 5 rfl rfl ?_
      refine wa_getr (r := 17) dX1_passLetter_161 fkX1_21 rfl rfl rfl ?_
      refine wa_iload dX1_passLetter_164 1 rfl ?_
      refine wa_aload_n dX1_passLetter_166 5 rfl rfl ?_
      refine wa_getr (r := 15) dX1_passLetter_167 fkX1_15 rfl rfl rfl ?_
      refine wa_iload_n dX1_passLetter_170 6 rfl rfl ?_
      obtain ⟨hi9, hF⟩ := hF
      refine wb_iald (j := x2.toNatClampNeg) (v := M3 15 x2.toNatClampNeg) dX1_passLetter_171 rfl hi9 rfl ((ms_no M3 17 ((x5 + x4).toNatClampNeg) v3 15 x2.toNatClampNeg (fun h9 => absurd h9.1 (by decide))).trans rfl) ?_
      refine wa_aload_n dX1_passLetter_172 5 rfl rfl ?_
      refine wa_getr (r := 17) dX1_passLetter_173 fkX1_21 rfl rfl rfl ?_
      refine wa_iload dX1_passLetter_176 1 rfl ?_
      obtain ⟨hi9, hF⟩ := hF
      refine wb_iald (j := (x3 + x5).toNatClampNeg) (v := (ms M3 17 ((x5 + x4).toNatClampNeg) v3) 17 ((x3 + x5).toNatClampNeg)) dX1_passLetter_178 rfl hi9 rfl rfl ?_
      refine wa_imul dX1_passLetter_179 ?_
      refine wa_aload_n dX1_passLetter_180 5 rfl rfl ?_
      refine wa_getr (r := 16) dX1_passLetter_181 fkX1_18 rfl rfl rfl ?_
      refine wa_iload_n dX1_passLetter_184 6 rfl rfl ?_
      obtain ⟨hi9, hF⟩ := hF
      refine wb_iald (j := x2.toNatClampNeg) (v := M3 16 x2.toNatClampNeg) dX1_passLetter_185 rfl hi9 rfl ((ms_no M3 17 ((x5 + x4).toNatClampNeg) v3 16 x2.toNatClampNeg (fun h9 => absurd h9.1 (by decide))).trans rfl) ?_
      refine wa_iload dX1_passLetter_186 0 rfl ?_
      refine wa_imul dX1_passLetter_188 ?_
      refine wa_iadd dX1_passLetter_189 ?_
      refine wa_aload_n dX1_passLetter_190 5 rfl rfl ?_
      refine wa_getr (r := 18) dX1_passLetter_191 fkX1_27 rfl rfl rfl ?_
      refine wb_geti (v := M3 18 2) dX1_passLetter_194 fkX1_61 rfl rfl ((ms_no M3 17 ((x5 + x4).toNatClampNeg) v3 18 2 (fun h9 => absurd h9.1 (by decide))).trans rfl) ?_
      obtain ⟨Q4, hM9, hF⟩ := hF
      refine wa_callSN [.int (((M3 15 x2.toNatClampNeg) * ((ms M3 17 ((x5 + x4).toNatClampNeg) v3) 17 ((x3 + x5).toNatClampNeg))) + ((M3 16 x2.toNatClampNeg) * ((ms M2 17 (((x3 + x5) + x4).toNatClampNeg) v2) 17 ((x5 + x4).toNatClampNeg)))), .int (M3 18 2)] dX1_passLetter_197 (mmX11_left _ _) mkX1_72 mstX11_left rfl (a_dlt d) rfl rfl hM9 ?_
      rintro r9 M4 P9 ⟨v4, rfl, rfl, hq9⟩
      replace hF := hF v4 M4 hq9
      simp only [Option.toList, List.cons_append, List.nil_append]
      obtain ⟨hi9, hF⟩ := hF
      refine wb_iast (j := (x3 + x5).toNatClampNeg) dX1_passLetter_200 rfl hi9 rfl ?_
      exact wa_pick [5, 6, 7, 8, 9] rfl hF

theorem bX1_passLetter_201 {X : a_X} {ad : Nat → Nat} {ca : Nat → ClassId} {d : Nat} {kc ks : Nat} {QF : List Frame → Array Value → State → State → Prop} {x : Nat} {M : a_M} (x2 : Int32) (x3 : Int32) (x4 : Int32) (x5 : Int32)  (hF : WA X ad ca LY RX1 cX1_passLetter 11 none (d + 1) kc ks QF 8 [(0, .ref 13), (2, .int x2), (3, .int x3), (4, .int x4), (5, .int (x5 + 1))] [] M (PT x)) : WA X ad ca LY RX1 cX1_passLetter 11 none (d + 1) kc ks QF 201 [(0, .ref 13), (2, .int x2), (3, .int x3), (4, .int x4), (5, .int x5)] [] M (PT x) := by
  refine wa_iinc (v := x5 + 1) (lv' := [(5, .int (x5 + 1)), (0, .ref 13), (2, .int x2), (3, .int x3), (4, .int x4)]) dX1_passLetter_201 4 rfl rfl rfl rfl ?_
  refine wa_goto (tgt := 8) dX1_passLetter_204 rfl ?_
  exact wa_pick [1, 2, 3, 4, 0] rfl hF

theorem eX1_passLetter {X : a_X} {ad : Nat → Nat} {ca : Nat → ClassId} {d : Nat} {Post : Option Value → a_M → a_P → Prop} {x : Nat} {M : a_M} (x1 : Int32) (x2 : Int32) (x3 : Int32) (h : WA X ad ca LY RX1 cX1_passLetter 11 none d 0 0 (a_E X ad ca LY Post) 0 [(0, .ref 13), (1, .int x1), (2, .int x2), (3, .int x3)] [] M (PT x)) : Mt X ad ca LY d yX1_passLetter cX1_passLetter 11 none [.ref 13, .int x1, .int x2, .int x3] M (PT x) Post := Mt.of (lv := [(0, .ref 13), (1, .int x1), (2, .int x2), (3, .int x3)]) (by decide +kernel) rfl rfl rfl (wa_pick [0, 1, 2, 3] rfl h)

theorem bX2_row_0 {X : a_X} {ad : Nat → Nat} {ca : Nat → ClassId} {d : Nat} {Post : Option Value → a_M → a_P → Prop} {x : Nat} {M : a_M} (o0 : Nat) (x1 : Int32) (ro0_0 : Nat) (nro0_0 : Nat) (hLo0 : LY[o0]? = some (2, 4)) (hLro0_0 : LY[ro0_0]? = some (103, nro0_0)) (hpro0_0 : PT x o0 0 = ro0_0 + 1) (hF : (∃ Q1 : Int32 → a_M → Prop, Mt X ad ca LY d yJ9_floorMod_7cf53 cJ9_floorMod_7cf53 3 (some FieldType.int) [.int ((M o0 1) + x1), .int 21] M (PT x) (q_i (PT x) Q1) ∧ ∀ v1 M1, Q1 v1 M1 → (vp_in v1 nro0_0 ∧ ∃ r2 nr2 : Nat, PT x ro0_0 v1.toNatClampNeg = r2 + 1 ∧ LY[r2]? = some (100, nr2) ∧ Post (some (.ref r2)) M1 (PT x)))) : WA X ad ca LY RX2 cX2_row 2 (some (FieldType.array FieldType.int)) (d + 1) 0 0 (a_E X ad ca LY Post) 0 [(0, .ref o0), (1, .int x1)] [] M (PT x) := by
  refine wa_aload_n dX2_row_0 0 rfl rfl ?_
  refine wa_getr (r := ro0_0) dX2_row_1 fkX2_13 rfl hLo0 hpro0_0 ?_
  refine wa_aload_n dX2_row_4 0 rfl rfl ?_
  refine wb_geti (v := M o0 1) dX2_row_5 fkX2_16 rfl hLo0 rfl ?_
  refine wa_iload_n dX2_row_8 1 rfl rfl ?_
  refine wa_iadd dX2_row_9 ?_
  refine wa_bipush (v := 21) dX2_row_10 rfl ?_
  obtain ⟨Q1, hM9, hF⟩ := hF
  refine wa_callS [.int ((M o0 1) + x1), .int 21] dX2_row_12 (mmJ9_floorMod_7cf53 _ _) mlX2_26 mstJ9_floorMod_7cf53 rfl (a_dlt d) rfl rfl hM9 ?_
  rintro r9 M1 P9 ⟨v1, rfl, rfl, hq9⟩
  replace hF := hF v1 M1 hq9
  simp only [Option.toList, List.cons_append, List.nil_append]
  obtain ⟨hi9, r2, nr2, hpr2, hLr2, hF⟩ := hF
  refine wa_aald (r := r2) dX2_row_15 hLro0_0 (by decide) hi9 hpr2 ?_
  exact wa_aret dX2_row_16 rfl (Or.inr ⟨_, rfl⟩) hF

theorem eX2_row {X : a_X} {ad : Nat → Nat} {ca : Nat → ClassId} {d : Nat} {Post : Option Value → a_M → a_P → Prop} {x : Nat} {M : a_M} (o0 : Nat) (x1 : Int32) (h : WA X ad ca LY RX2 cX2_row 2 (some (FieldType.array FieldType.int)) d 0 0 (a_E X ad ca LY Post) 0 [(0, .ref o0), (1, .int x1)] [] M (PT x)) : Mt X ad ca LY d yX2_row cX2_row 2 (some (FieldType.array FieldType.int)) [.ref o0, .int x1] M (PT x) Post := Mt.of (lv := [(0, .ref o0), (1, .int x1)]) (by decide +kernel) rfl rfl rfl (wa_pick [0, 1] rfl h)

theorem bX2_vector_0 {X : a_X} {ad : Nat → Nat} {ca : Nat → ClassId} {d : Nat} {Post : Option Value → a_M → a_P → Prop} {x : Nat} {M : a_M} (o0 : Nat) (hLo0 : LY[o0]? = some (2, 4)) (hF : (∃ Q1 : Nat → a_M → Prop, Mt X ad ca LY d yX2_row cX2_row 2 (some (FieldType.array FieldType.int)) [.ref o0, .int (M o0 2)] M (PT x) (q_r (PT x) Q1) ∧ ∀ r1 M1, Q1 r1 M1 → ∃ nr1, LY[r1]? = some (100, nr1) ∧ Post (some (.ref r1)) M1 (PT x))) : WA X ad ca LY RX2 cX2_vector 1 (some (FieldType.array FieldType.int)) (d + 1) 0 0 (a_E X ad ca LY Post) 0 [(0, .ref o0)] [] M (PT x) := by
  refine wa_aload_n dX2_vector_0 0 rfl rfl ?_
  refine wa_aload_n dX2_vector_1 0 rfl rfl ?_
  refine wb_geti (v := M o0 2) dX2_vector_2 fkX2_20 rfl hLo0 rfl ?_
  obtain ⟨Q1, hM9, hF⟩ := hF
  refine wa_callV [.int (M o0 2)] dX2_vector_5 (mmX2_row _ _) mlX2_32 mnX2_row mseX2_row hLo0 rfl rfl rfl (a_dlt d) rfl rfl hM9 ?_
  rintro r9 M1 P9 ⟨r1, rfl, rfl, hq9⟩
  obtain ⟨nr1, hLr1, hF⟩ := hF r1 M1 hq9
  simp only [Option.toList, List.cons_append, List.nil_append]
  exact wa_aret dX2_vector_8 rfl (Or.inr ⟨_, rfl⟩) hF

theorem eX2_vector {X : a_X} {ad : Nat → Nat} {ca : Nat → ClassId} {d : Nat} {Post : Option Value → a_M → a_P → Prop} {x : Nat} {M : a_M} (o0 : Nat) (h : WA X ad ca LY RX2 cX2_vector 1 (some (FieldType.array FieldType.int)) d 0 0 (a_E X ad ca LY Post) 0 [(0, .ref o0)] [] M (PT x)) : Mt X ad ca LY d yX2_vector cX2_vector 1 (some (FieldType.array FieldType.int)) [.ref o0] M (PT x) Post := Mt.of (lv := [(0, .ref o0)]) (by decide +kernel) rfl rfl rfl (wa_pick [0] rfl h)

theorem bX2_earlier_0 {X : a_X} {ad : Nat → Nat} {ca : Nat → ClassId} {d : Nat} {Post : Option Value → a_M → a_P → Prop} {x : Nat} {M : a_M} (o0 : Nat) (hLo0 : LY[o0]? = some (2, 4)) (hF : (∃ Q1 : Nat → a_M → Prop, Mt X ad ca LY d yX2_row cX2_row 2 (some (FieldType.array FieldType.int)) [.ref o0, .int ((M o0 2) - 1)] M (PT x) (q_r (PT x) Q1) ∧ ∀ r1 M1, Q1 r1 M1 → ∃ nr1, LY[r1]? = some (100, nr1) ∧ Post (some (.ref r1)) M1 (PT x))) : WA X ad ca LY RX2 cX2_earlier 1 (some (FieldType.array FieldType.int)) (d + 1) 0 0 (a_E X ad ca LY Post) 0 [(0, .ref o0)] [] M (PT x) := by
  refine wa_aload_n dX2_earlier_0 0 rfl rfl ?_
  refine wa_aload_n dX2_earlier_1 0 rfl rfl ?_
  refine wb_geti (v := M o0 2) dX2_earlier_2 fkX2_20 rfl hLo0 rfl ?_
  refine wa_iconst (v := 1) dX2_earlier_5 rfl ?_
  refine wa_isub dX2_earlier_6 ?_
  obtain ⟨Q1, hM9, hF⟩ := hF
  refine wa_callV [.int ((M o0 2) - 1)] dX2_earlier_7 (mmX2_row _ _) mlX2_32 mnX2_row mseX2_row hLo0 rfl rfl rfl (a_dlt d) rfl rfl hM9 ?_
  rintro r9 M1 P9 ⟨r1, rfl, rfl, hq9⟩
  obtain ⟨nr1, hLr1, hF⟩ := hF r1 M1 hq9
  simp only [Option.toList, List.cons_append, List.nil_append]
  exact wa_aret dX2_earlier_10 rfl (Or.inr ⟨_, rfl⟩) hF

theorem eX2_earlier {X : a_X} {ad : Nat → Nat} {ca : Nat → ClassId} {d : Nat} {Post : Option Value → a_M → a_P → Prop} {x : Nat} {M : a_M} (o0 : Nat) (h : WA X ad ca LY RX2 cX2_earlier 1 (some (FieldType.array FieldType.int)) d 0 0 (a_E X ad ca LY Post) 0 [(0, .ref o0)] [] M (PT x)) : Mt X ad ca LY d yX2_earlier cX2_earlier 1 (some (FieldType.array FieldType.int)) [.ref o0] M (PT x) Post := Mt.of (lv := [(0, .ref o0)]) (by decide +kernel) rfl rfl rfl (wa_pick [0] rfl h)

theorem bX2_open_0 {X : a_X} {ad : Nat → Nat} {ca : Nat → ClassId} {d : Nat} {Post : Option Value → a_M → a_P → Prop} {x : Nat} {M : a_M} (o0 : Nat) (hLo0 : LY[o0]? = some (2, 4)) (hF : ((20 ≤ (M o0 2) → ((20 ≤ (M o0 1) → Post none (ms (ms M o0 3 0) o0 1 0) (PT x)) ∧ (¬ 20 ≤ (M o0 1) → Post none (ms (ms M o0 3 0) o0 1 ((M o0 1) + 1)) (PT x)))) ∧ (¬ 20 ≤ (M o0 2) → Post none (ms (ms M o0 3 0) o0 2 ((M o0 2) + 1)) (PT x)))) : WA X ad ca LY RX2 cX2_open 1 none (d + 1) 0 0 (a_E X ad ca LY Post) 0 [(0, .ref o0)] [] M (PT x) := by
  refine wa_aload_n dX2_open_0 0 rfl rfl ?_
  refine wa_iconst (v := 0) dX2_open_1 rfl ?_
  refine wb_puti dX2_open_2 fkX2_23 fmX2_3 rfl hLo0 ?_
  refine wa_aload_n dX2_open_5 0 rfl rfl ?_
  refine wb_geti (v := M o0 2) dX2_open_6 fkX2_20 rfl hLo0 ((ms_no M o0 3 0 o0 2 (fun h9 => absurd h9.2 (by decide))).trans rfl) ?_
  refine wa_bipush (v := 20) dX2_open_9 rfl ?_
  refine wa_icmp_ge (tgt := 27) dX2_open_11 rfl (fun hc => ?_) (fun hc => ?_)
  · replace hF := hF.1 hc
    refine wa_aload_n dX2_open_27 0 rfl rfl ?_
    refine wa_aload_n dX2_open_28 0 rfl rfl ?_
    refine wb_geti (v := M o0 1) dX2_open_29 fkX2_16 rfl hLo0 ((ms_no M o0 3 0 o0 1 (fun h9 => absurd h9.2 (by decide))).trans rfl) ?_
    refine wa_bipush (v := 20) dX2_open_32 rfl ?_
    refine wa_icmp_ge (tgt := 46) dX2_open_34 rfl (fun hc => ?_) (fun hc => ?_)
    · replace hF := hF.1 hc
      refine wa_iconst (v := 0) dX2_open_46 rfl ?_
      refine wb_puti dX2_open_47 fkX2_16 fmX2_1 rfl hLo0 ?_
      exact wa_vret dX2_open_50 rfl hF
    · replace hF := hF.2 hc
      refine wa_aload_n dX2_open_37 0 rfl rfl ?_
      refine wb_geti (v := M o0 1) dX2_open_38 fkX2_16 rfl hLo0 ((ms_no M o0 3 0 o0 1 (fun h9 => absurd h9.2 (by decide))).trans rfl) ?_
      refine wa_iconst (v := 1) dX2_open_41 rfl ?_
      refine wa_iadd dX2_open_42 ?_
      refine wa_goto (tgt := 47) dX2_open_43 rfl ?_
      refine wb_puti dX2_open_47 fkX2_16 fmX2_1 rfl hLo0 ?_
      exact wa_vret dX2_open_50 rfl hF
  · replace hF := hF.2 hc
    refine wa_aload_n dX2_open_14 0 rfl rfl ?_
    refine wa_dup dX2_open_15 rfl ?_
    refine wb_geti (v := M o0 2) dX2_open_16 fkX2_20 rfl hLo0 ((ms_no M o0 3 0 o0 2 (fun h9 => absurd h9.2 (by decide))).trans rfl) ?_
    refine wa_iconst (v := 1) dX2_open_19 rfl ?_
    refine wa_iadd dX2_open_20 ?_
    refine wb_puti dX2_open_21 fkX2_20 fmX2_2 rfl hLo0 ?_
    refine wa_goto (tgt := 50) dX2_open_24 rfl ?_
    exact wa_vret dX2_open_50 rfl hF

theorem eX2_open {X : a_X} {ad : Nat → Nat} {ca : Nat → ClassId} {d : Nat} {Post : Option Value → a_M → a_P → Prop} {x : Nat} {M : a_M} (o0 : Nat) (h : WA X ad ca LY RX2 cX2_open 1 none d 0 0 (a_E X ad ca LY Post) 0 [(0, .ref o0)] [] M (PT x)) : Mt X ad ca LY d yX2_open cX2_open 1 none [.ref o0] M (PT x) Post := Mt.of (lv := [(0, .ref o0)]) (by decide +kernel) rfl rfl rfl (wa_pick [0] rfl h)

theorem bX2_restart_0 {X : a_X} {ad : Nat → Nat} {ca : Nat → ClassId} {d : Nat} {Post : Option Value → a_M → a_P → Prop} {x : Nat} {M : a_M} (o0 : Nat) (ro0_0 : Nat) (nro0_0 : Nat) (hLo0 : LY[o0]? = some (2, 4)) (hLro0_0 : LY[ro0_0]? = some (103, nro0_0)) (hpro0_0 : PT x o0 0 = ro0_0 + 1) (hF : (vp_in 0 nro0_0 ∧ ∃ r1 nr1 : Nat, PT x ro0_0 0 = r1 + 1 ∧ LY[r1]? = some (100, nr1) ∧ (∃ Q2 : a_M → Prop, Mt X ad ca LY d yX11_clear cX11_clear 2 none [.ref r1] (ms (ms (ms M o0 1 0) o0 2 0) o0 3 0) (PT x) (q_v (PT x) Q2) ∧ ∀ M2, Q2 M2 → Post none M2 (PT x)))) : WA X ad ca LY RX2 cX2_restart 1 none (d + 1) 0 0 (a_E X ad ca LY Post) 0 [(0, .ref o0)] [] M (PT x) := by
  refine wa_aload_n dX2_restart_0 0 rfl rfl ?_
  refine wa_iconst (v := 0) dX2_restart_1 rfl ?_
  refine wb_puti dX2_restart_2 fkX2_16 fmX2_1 rfl hLo0 ?_
  refine wa_aload_n dX2_restart_5 0 rfl rfl ?_
  refine wa_iconst (v := 0) dX2_restart_6 rfl ?_
  refine wb_puti dX2_restart_7 fkX2_20 fmX2_2 rfl hLo0 ?_
  refine wa_aload_n dX2_restart_10 0 rfl rfl ?_
  refine wa_iconst (v := 0) dX2_restart_11 rfl ?_
  refine wb_puti dX2_restart_12 fkX2_23 fmX2_3 rfl hLo0 ?_
  refine wa_aload_n dX2_restart_15 0 rfl rfl ?_
  refine wa_getr (r := ro0_0) dX2_restart_16 fkX2_13 rfl hLo0 hpro0_0 ?_
  refine wa_iconst (v := 0) dX2_restart_19 rfl ?_
  obtain ⟨hi9, r1, nr1, hpr1, hLr1, hF⟩ := hF
  refine wa_aald (r := r1) dX2_restart_20 hLro0_0 (by decide) hi9 hpr1 ?_
  obtain ⟨Q2, hM9, hF⟩ := hF
  refine wa_callSN [.ref r1] dX2_restart_21 (mmX11_clear _ _) mkX2_36 mstX11_clear rfl (a_dlt d) rfl rfl hM9 ?_
  rintro r9 M2 P9 ⟨rfl, rfl, hq9⟩
  replace hF := hF M2 hq9
  simp only [Option.toList, List.nil_append]
  exact wa_vret dX2_restart_24 rfl hF

theorem eX2_restart {X : a_X} {ad : Nat → Nat} {ca : Nat → ClassId} {d : Nat} {Post : Option Value → a_M → a_P → Prop} {x : Nat} {M : a_M} (o0 : Nat) (h : WA X ad ca LY RX2 cX2_restart 1 none d 0 0 (a_E X ad ca LY Post) 0 [(0, .ref o0)] [] M (PT x)) : Mt X ad ca LY d yX2_restart cX2_restart 1 none [.ref o0] M (PT x) Post := Mt.of (lv := [(0, .ref o0)]) (by decide +kernel) rfl rfl rfl (wa_pick [0] rfl h)

theorem bX2_takeBy_0 {X : a_X} {ad : Nat → Nat} {ca : Nat → ClassId} {d : Nat} {kc ks : Nat} {QF : List Frame → Array Value → State → State → Prop} {x : Nat} {M : a_M} (o0 : Nat) (x1 : Int32) (hLo0 : LY[o0]? = some (2, 4)) (hF : WA X ad ca LY RX2 cX2_takeBy 5 none (d + 1) kc ks QF 2 [(0, .ref o0), (1, .int x1), (2, .int 0)] [] M (PT x)) : WA X ad ca LY RX2 cX2_takeBy 5 none (d + 1) kc ks QF 0 [(0, .ref o0), (1, .int x1)] [] M (PT x) := by
  refine wa_iconst (v := 0) dX2_takeBy_0 rfl ?_
  refine wa_istore_n (lv' := [(2, .int 0), (0, .ref o0), (1, .int x1)]) dX2_takeBy_1 rfl rfl rfl ?_
  exact wa_pick [1, 2, 0] rfl hF

theorem bX2_takeBy_2 {X : a_X} {ad : Nat → Nat} {ca : Nat → ClassId} {d : Nat} {Post : Option Value → a_M → a_P → Prop} {x : Nat} {M : a_M} (o0 : Nat) (x1 : Int32) (x2 : Int32) (hLo0 : LY[o0]? = some (2, 4)) (hF : ((((M o0 2) + (M o0 3)) < x2 → Post none M (PT x)) ∧ (¬ ((M o0 2) + (M o0 3)) < x2 → (∃ Q1 : Nat → a_M → Prop, Mt X ad ca LY d yX2_row cX2_row 2 (some (FieldType.array FieldType.int)) [.ref o0, .int x2] M (PT x) (q_r (PT x) Q1) ∧ ∀ r1 M1, Q1 r1 M1 → ∃ nr1, LY[r1]? = some (100, nr1) ∧ WA X ad ca LY RX2 cX2_takeBy 5 none (d + 1) 0 0 (a_E X ad ca LY Post) 24 [(0, .ref o0), (1, .int x1), (2, .int x2), (3, .ref r1), (4, .int 0)] [] M1 (PT x))))) : WA X ad ca LY RX2 cX2_takeBy 5 none (d + 1) 0 0 (a_E X ad ca LY Post) 2 [(0, .ref o0), (1, .int x1), (2, .int x2)] [] M (PT x) := by
  refine wa_iload_n dX2_takeBy_2 2 rfl rfl ?_
  refine wa_aload_n dX2_takeBy_3 0 rfl rfl ?_
  refine wb_geti (v := M o0 2) dX2_takeBy_4 fkX2_20 rfl hLo0 rfl ?_
  refine wa_aload_n dX2_takeBy_7 0 rfl rfl ?_
  refine wb_geti (v := M o0 3) dX2_takeBy_8 fkX2_23 rfl hLo0 rfl ?_
  refine wa_iadd dX2_takeBy_11 ?_
  refine wa_icmp_gt (tgt := 55) dX2_takeBy_12 rfl (fun hc => ?_) (fun hc => ?_)
  · replace hF := hF.1 hc
    exact wa_vret dX2_takeBy_55 rfl hF
  · replace hF := hF.2 hc
    refine wa_aload_n dX2_takeBy_15 0 rfl rfl ?_
    refine wa_iload_n dX2_takeBy_16 2 rfl rfl ?_
    obtain ⟨Q1, hM9, hF⟩ := hF
    refine wa_callV [.int x2] dX2_takeBy_17 (mmX2_row _ _) mlX2_32 mnX2_row mseX2_row hLo0 rfl rfl rfl (a_dlt d) rfl rfl hM9 ?_
    rintro r9 M1 P9 ⟨r1, rfl, rfl, hq9⟩
    obtain ⟨nr1, hLr1, hF⟩ := hF r1 M1 hq9
    simp only [Option.toList, List.cons_append, List.nil_append]
    refine wa_astore_n (lv' := [(3, .ref r1), (0, .ref o0), (1, .int x1), (2, .int x2)]) dX2_takeBy_20 rfl rfl rfl ?_
    refine wa_iconst (v := 0) dX2_takeBy_21 rfl ?_
    refine wa_istore (lv' := [(4, .int 0), (3, .ref r1), (0, .ref o0), (1, .int x1), (2, .int x2)]) dX2_takeBy_22 rfl rfl ?_
    exact wa_pick [2, 3, 4, 1, 0] rfl hF

theorem bX2_takeBy_24 {X : a_X} {ad : Nat → Nat} {ca : Nat → ClassId} {d : Nat} {kc ks : Nat} {QF : List Frame → Array Value → State → State → Prop} {x : Nat} {M : a_M} (o0 : Nat) (x1 : Int32) (x2 : Int32) (o3 : Nat) (no3 : Nat) (x4 : Int32) (hLo0 : LY[o0]? = some (2, 4)) (hLo3 : LY[o3]? = some (100, no3)) (hF : (((nI no3) ≤ x4 → WA X ad ca LY RX2 cX2_takeBy 5 none (d + 1) kc ks QF 2 [(0, .ref o0), (1, .int x1), (2, .int (x2 + 1))] [] M (PT x)) ∧ (¬ (nI no3) ≤ x4 → (vp_in x4 no3 ∧ (∃ Q1 : Int32 → a_M → Prop, Mt X ad ca LY d yX11_left cX11_left 3 (some FieldType.int) [.int (M o3 x4.toNatClampNeg), .int x1] M (PT x) (q_i (PT x) Q1) ∧ ∀ v1 M1, Q1 v1 M1 → (vp_in x4 no3 ∧ WA X ad ca LY RX2 cX2_takeBy 5 none (d + 1) kc ks QF 24 [(0, .ref o0), (1, .int x1), (2, .int x2), (3, .ref o3), (4, .int (x4 + 1))] [] (ms M1 o3 x4.toNatClampNeg v1) (PT x))))))) : WA X ad ca LY RX2 cX2_takeBy 5 none (d + 1) kc ks QF 24 [(0, .ref o0), (1, .int x1), (2, .int x2), (3, .ref o3), (4, .int x4)] [] M (PT x) := by
  refine wa_iload dX2_takeBy_24 4 rfl ?_
  refine wa_aload_n dX2_takeBy_26 3 rfl rfl ?_
  refine wa_alen (v := nI no3) dX2_takeBy_27 hLo3 (by decide) rfl ?_
  refine wa_icmp_ge (tgt := 49) dX2_takeBy_28 rfl (fun hc => ?_) (fun hc => ?_)
  · replace hF := hF.1 hc
    refine wa_iinc (v := x2 + 1) (lv' := [(2, .int (x2 + 1)), (0, .ref o0), (1, .int x1), (3, .ref o3), (4, .int x4)]) dX2_takeBy_49 2 rfl rfl rfl rfl ?_
    refine wa_goto (tgt := 2) dX2_takeBy_52 rfl ?_
    exact wa_pick [1, 2, 0] rfl hF
  · replace hF := hF.2 hc
    refine wa_aload_n dX2_takeBy_31 3 rfl rfl ?_
    refine wa_iload dX2_takeBy_32 4 rfl ?_
    refine wa_aload_n dX2_takeBy_34 3 rfl rfl ?_
    refine wa_iload dX2_takeBy_35 4 rfl ?_
    obtain ⟨hi9, hF⟩ := hF
    refine wb_iald (j := x4.toNatClampNeg) (v := M o3 x4.toNatClampNeg) dX2_takeBy_37 hLo3 hi9 rfl rfl ?_
    refine wa_iload_n dX2_takeBy_38 1 rfl rfl ?_
    obtain ⟨Q1, hM9, hF⟩ := hF
    refine wa_callSN [.int (M o3 x4.toNatClampNeg), .int x1] dX2_takeBy_39 (mmX11_left _ _) mkX2_40 mstX11_left rfl (a_dlt d) rfl rfl hM9 ?_
    rintro r9 M1 P9 ⟨v1, rfl, rfl, hq9⟩
    replace hF := hF v1 M1 hq9
    simp only [Option.toList, List.cons_append, List.nil_append]
    obtain ⟨hi9, hF⟩ := hF
    refine wb_iast (j := x4.toNatClampNeg) dX2_takeBy_42 hLo3 hi9 rfl ?_
    refine wa_iinc (v := x4 + 1) (lv' := [(4, .int (x4 + 1)), (0, .ref o0), (1, .int x1), (2, .int x2), (3, .ref o3)]) dX2_takeBy_43 4 rfl rfl rfl rfl ?_
    refine wa_goto (tgt := 24) dX2_takeBy_46 rfl ?_
    exact wa_pick [1, 2, 3, 4, 0] rfl hF

theorem eX2_takeBy {X : a_X} {ad : Nat → Nat} {ca : Nat → ClassId} {d : Nat} {Post : Option Value → a_M → a_P → Prop} {x : Nat} {M : a_M} (o0 : Nat) (x1 : Int32) (h : WA X ad ca LY RX2 cX2_takeBy 5 none d 0 0 (a_E X ad ca LY Post) 0 [(0, .ref o0), (1, .int x1)] [] M (PT x)) : Mt X ad ca LY d yX2_takeBy cX2_takeBy 5 none [.ref o0, .int x1] M (PT x) Post := Mt.of (lv := [(0, .ref o0), (1, .int x1)]) (by decide +kernel) rfl rfl rfl (wa_pick [0, 1] rfl h)

theorem bX2_copyFrom_0 {X : a_X} {ad : Nat → Nat} {ca : Nat → ClassId} {d : Nat} {kc ks : Nat} {QF : List Frame → Array Value → State → State → Prop} {x : Nat} {M : a_M} (o0 : Nat) (o1 : Nat) (hLo0 : LY[o0]? = some (2, 4)) (hLo1 : LY[o1]? = some (2, 4)) (hF : WA X ad ca LY RX2 cX2_copyFrom 3 none (d + 1) kc ks QF 23 [(0, .ref o0), (1, .ref o1), (2, .int 0)] [] (ms (ms (ms M o0 1 0) o0 2 (M o1 2)) o0 3 (M o1 3)) (PT x)) : WA X ad ca LY RX2 cX2_copyFrom 3 none (d + 1) kc ks QF 0 [(0, .ref o0), (1, .ref o1)] [] M (PT x) := by
  refine wa_aload_n dX2_copyFrom_0 0 rfl rfl ?_
  refine wa_iconst (v := 0) dX2_copyFrom_1 rfl ?_
  refine wb_puti dX2_copyFrom_2 fkX2_16 fmX2_1 rfl hLo0 ?_
  refine wa_aload_n dX2_copyFrom_5 0 rfl rfl ?_
  refine wa_aload_n dX2_copyFrom_6 1 rfl rfl ?_
  refine wb_geti (v := M o1 2) dX2_copyFrom_7 fkX2_20 rfl hLo1 ((ms_no M o0 1 0 o1 2 (fun h9 => absurd h9.2 (by decide))).trans rfl) ?_
  refine wb_puti dX2_copyFrom_10 fkX2_20 fmX2_2 rfl hLo0 ?_
  refine wa_aload_n dX2_copyFrom_13 0 rfl rfl ?_
  refine wa_aload_n dX2_copyFrom_14 1 rfl rfl ?_
  refine wb_geti (v := M o1 3) dX2_copyFrom_15 fkX2_23 rfl hLo1 ((ms_no (ms M o0 1 0) o0 2 (M o1 2) o1 3 (fun h9 => absurd h9.2 (by decide))).trans ((ms_no M o0 1 0 o1 3 (fun h9 => absurd h9.2 (by decide))).trans rfl)) ?_
  refine wb_puti dX2_copyFrom_18 fkX2_23 fmX2_3 rfl hLo0 ?_
  refine wa_iconst (v := 0) dX2_copyFrom_21 rfl ?_
  refine wa_istore_n (lv' := [(2, .int 0), (0, .ref o0), (1, .ref o1)]) dX2_copyFrom_22 rfl rfl rfl ?_
  exact wa_pick [1, 2, 0] rfl hF

theorem bX2_copyFrom_23 {X : a_X} {ad : Nat → Nat} {ca : Nat → ClassId} {d : Nat} {Post : Option Value → a_M → a_P → Prop} {x : Nat} {M : a_M} (o0 : Nat) (o1 : Nat) (x2 : Int32) (hLo0 : LY[o0]? = some (2, 4)) (hLo1 : LY[o1]? = some (2, 4)) (hF : ((((M o0 2) + (M o0 3)) < x2 → Post none M (PT x)) ∧ (¬ ((M o0 2) + (M o0 3)) < x2 → (∃ Q1 : Nat → a_M → Prop, Mt X ad ca LY d yX2_row cX2_row 2 (some (FieldType.array FieldType.int)) [.ref o1, .int x2] M (PT x) (q_r (PT x) Q1) ∧ ∀ r1 M1, Q1 r1 M1 → ∃ nr1, LY[r1]? = some (100, nr1) ∧ (∃ Q2 : Nat → a_M → Prop, Mt X ad ca LY d yX2_row cX2_row 2 (some (FieldType.array FieldType.int)) [.ref o0, .int x2] M1 (PT x) (q_r (PT x) Q2) ∧ ∀ r2 M2, Q2 r2 M2 → ∃ nr2, LY[r2]? = some (100, nr2) ∧ (¬ (0 : Int32) < 0 ∧ ¬ (0 : Int32) < 0 ∧ ¬ (128 : Int32) < 0 ∧ (0 : Int32).toNatClampNeg + (128 : Int32).toNatClampNeg ≤ nr1 ∧ (0 : Int32).toNatClampNeg + (128 : Int32).toNatClampNeg ≤ nr2 ∧ WA X ad ca LY RX2 cX2_copyFrom 3 none (d + 1) 0 0 (a_E X ad ca LY Post) 23 [(0, .ref o0), (1, .ref o1), (2, .int (x2 + 1))] [] (va_up M2 r2 (va_cpy (M2 r1) (M2 r2) (0 : Int32).toNatClampNeg (0 : Int32).toNatClampNeg (128 : Int32).toNatClampNeg)) (PT x))))))) : WA X ad ca LY RX2 cX2_copyFrom 3 none (d + 1) 0 0 (a_E X ad ca LY Post) 23 [(0, .ref o0), (1, .ref o1), (2, .int x2)] [] M (PT x) := by
  refine wa_iload_n dX2_copyFrom_23 2 rfl rfl ?_
  refine wa_aload_n dX2_copyFrom_24 0 rfl rfl ?_
  refine wb_geti (v := M o0 2) dX2_copyFrom_25 fkX2_20 rfl hLo0 rfl ?_
  refine wa_aload_n dX2_copyFrom_28 0 rfl rfl ?_
  refine wb_geti (v := M o0 3) dX2_copyFrom_29 fkX2_23 rfl hLo0 rfl ?_
  refine wa_iadd dX2_copyFrom_32 ?_
  refine wa_icmp_gt (tgt := 60) dX2_copyFrom_33 rfl (fun hc => ?_) (fun hc => ?_)
  · replace hF := hF.1 hc
    exact wa_vret dX2_copyFrom_60 rfl hF
  · replace hF := hF.2 hc
    refine wa_aload_n dX2_copyFrom_36 1 rfl rfl ?_
    refine wa_iload_n dX2_copyFrom_37 2 rfl rfl ?_
    obtain ⟨Q1, hM9, hF⟩ := hF
    refine wa_callV [.int x2] dX2_copyFrom_38 (mmX2_row _ _) mlX2_32 mnX2_row mseX2_row hLo1 rfl rfl rfl (a_dlt d) rfl rfl hM9 ?_
    rintro r9 M1 P9 ⟨r1, rfl, rfl, hq9⟩
    obtain ⟨nr1, hLr1, hF⟩ := hF r1 M1 hq9
    simp only [Option.toList, List.cons_append, List.nil_append]
    refine wa_iconst (v := 0) dX2_copyFrom_41 rfl ?_
    refine wa_aload_n dX2_copyFrom_42 0 rfl rfl ?_
    refine wa_iload_n dX2_copyFrom_43 2 rfl rfl ?_
    obtain ⟨Q2, hM9, hF⟩ := hF
    refine wa_callV [.int x2] dX2_copyFrom_44 (mmX2_row _ _) mlX2_32 mnX2_row mseX2_row hLo0 rfl rfl rfl (a_dlt d) rfl rfl hM9 ?_
    rintro r9 M2 P9 ⟨r2, rfl, rfl, hq9⟩
    obtain ⟨nr2, hLr2, hF⟩ := hF r2 M2 hq9
    simp only [Option.toList, List.cons_append, List.nil_append]
    refine wa_iconst (v := 0) dX2_copyFrom_47 rfl ?_
    refine wa_sipush (v := 128) dX2_copyFrom_48 rfl ?_
    obtain ⟨h91, h92, h93, h94, h95, hF⟩ := hF
    refine wa_copy dX2_copyFrom_51 mlX2_43 acn acs inJ10 hLr1 hLr2 h91 h92 h93 h94 h95 rfl ?_
    refine wa_iinc (v := x2 + 1) (lv' := [(2, .int (x2 + 1)), (0, .ref o0), (1, .ref o1)]) dX2_copyFrom_54 2 rfl rfl rfl rfl ?_
    refine wa_goto (tgt := 23) dX2_copyFrom_57 rfl ?_
    exact wa_pick [1, 2, 0] rfl hF

theorem eX2_copyFrom {X : a_X} {ad : Nat → Nat} {ca : Nat → ClassId} {d : Nat} {Post : Option Value → a_M → a_P → Prop} {x : Nat} {M : a_M} (o0 : Nat) (o1 : Nat) (h : WA X ad ca LY RX2 cX2_copyFrom 3 none d 0 0 (a_E X ad ca LY Post) 0 [(0, .ref o0), (1, .ref o1)] [] M (PT x)) : Mt X ad ca LY d yX2_copyFrom cX2_copyFrom 3 none [.ref o0, .ref o1] M (PT x) Post := Mt.of (lv := [(0, .ref o0), (1, .ref o1)]) (by decide +kernel) rfl rfl rfl (wa_pick [0, 1] rfl h)

theorem bX3_howMany_0 {X : a_X} {ad : Nat → Nat} {ca : Nat → ClassId} {d : Nat} {kc ks : Nat} {QF : List Frame → Array Value → State → State → Prop} {x : Nat} {M : a_M} (o1 : Nat) (x2 : Int32) (hLo1 : LY[o1]? = some (6, 5)) (hF : (∃ Q1 : a_M → Prop, Mt X ad ca LY d yX3_countRows cX3_countRows 4 none [.ref 33, .ref o1, .int x2] M (PT x) (q_v (PT x) Q1) ∧ ∀ M1, Q1 M1 → WA X ad ca LY RX3 cX3_howMany 5 (some FieldType.int) (d + 1) kc ks QF 11 [(0, .ref 33), (2, .int x2), (3, .int 0), (4, .int 0)] [] M1 (PT x))) : WA X ad ca LY RX3 cX3_howMany 5 (some FieldType.int) (d + 1) kc ks QF 0 [(0, .ref 33), (1, .ref o1), (2, .int x2)] [] M (PT x) := by
  refine wa_aload_n dX3_howMany_0 0 rfl rfl ?_
  refine wa_aload_n dX3_howMany_1 1 rfl rfl ?_
  refine wa_iload_n dX3_howMany_2 2 rfl rfl ?_
  obtain ⟨Q1, hM9, hF⟩ := hF
  refine wa_callV [.ref o1, .int x2] dX3_howMany_3 (mmX3_countRows _ _) mlX3_41 mnX3_countRows mseX3_countRows rfl rfl rfl rfl (a_dlt d) rfl rfl hM9 ?_
  rintro r9 M1 P9 ⟨rfl, rfl, hq9⟩
  replace hF := hF M1 hq9
  simp only [Option.toList, List.nil_append]
  refine wa_iconst (v := 0) dX3_howMany_6 rfl ?_
  refine wa_istore_n (lv' := [(3, .int 0), (0, .ref 33), (1, .ref o1), (2, .int x2)]) dX3_howMany_7 rfl rfl rfl ?_
  refine wa_iconst (v := 0) dX3_howMany_8 rfl ?_
  refine wa_istore (lv' := [(4, .int 0), (3, .int 0), (0, .ref 33), (1, .ref o1), (2, .int x2)]) dX3_howMany_9 rfl rfl ?_
  exact wa_pick [2, 4, 1, 0] rfl hF

theorem bX3_howMany_11 {X : a_X} {ad : Nat → Nat} {ca : Nat → ClassId} {d : Nat} {Post : Option Value → a_M → a_P → Prop} {x : Nat} {M : a_M} (x2 : Int32) (x3 : Int32) (x4 : Int32)  (hF : (∃ Q1 : Int32 → a_M → Prop, Mt X ad ca LY d yX3_rowsFor cX3_rowsFor 2 (some FieldType.int) [.ref 33, .int x2] M (PT x) (q_i (PT x) Q1) ∧ ∀ v1 M1, Q1 v1 M1 → ((v1 ≤ x4 → Post (some (.int x3)) M1 (PT x)) ∧ (¬ v1 ≤ x4 → (∃ Q2 : Int32 → a_M → Prop, Mt X ad ca LY d yX3_countAt cX3_countAt 3 (some FieldType.int) [.ref 33, .int x4, .int x2] M1 (PT x) (q_i (PT x) Q2) ∧ ∀ v2 M2, Q2 v2 M2 → WA X ad ca LY RX3 cX3_howMany 5 (some FieldType.int) (d + 1) 0 0 (a_E X ad ca LY Post) 11 [(0, .ref 33), (2, .int x2), (3, .int (x3 + v2)), (4, .int (x4 + 1))] [] M2 (PT x)))))) : WA X ad ca LY RX3 cX3_howMany 5 (some FieldType.int) (d + 1) 0 0 (a_E X ad ca LY Post) 11 [(0, .ref 33), (2, .int x2), (3, .int x3), (4, .int x4)] [] M (PT x) := by
  refine wa_iload dX3_howMany_11 3 rfl ?_
  refine wa_aload_n dX3_howMany_13 0 rfl rfl ?_
  refine wa_iload_n dX3_howMany_14 1 rfl rfl ?_
  obtain ⟨Q1, hM9, hF⟩ := hF
  refine wa_callV [.int x2] dX3_howMany_15 (mmX3_rowsFor _ _) mlX3_45 mnX3_rowsFor mseX3_rowsFor rfl rfl rfl rfl (a_dlt d) rfl rfl hM9 ?_
  rintro r9 M1 P9 ⟨v1, rfl, rfl, hq9⟩
  replace hF := hF v1 M1 hq9
  simp only [Option.toList, List.cons_append, List.nil_append]
  refine wa_icmp_ge (tgt := 37) dX3_howMany_18 rfl (fun hc => ?_) (fun hc => ?_)
  · replace hF := hF.1 hc
    refine wa_iload_n dX3_howMany_37 2 rfl rfl ?_
    exact wa_iret dX3_howMany_38 rfl rfl hF
  · replace hF := hF.2 hc
    refine wa_iload_n dX3_howMany_21 2 rfl rfl ?_
    refine wa_aload_n dX3_howMany_22 0 rfl rfl ?_
    refine wa_iload dX3_howMany_23 3 rfl ?_
    refine wa_iload_n dX3_howMany_25 1 rfl rfl ?_
    obtain ⟨Q2, hM9, hF⟩ := hF
    refine wa_callV [.int x4, .int x2] dX3_howMany_26 (mmX3_countAt _ _) mlX3_49 mnX3_countAt mseX3_countAt rfl rfl rfl rfl (a_dlt d) rfl rfl hM9 ?_
    rintro r9 M2 P9 ⟨v2, rfl, rfl, hq9⟩
    replace hF := hF v2 M2 hq9
    simp only [Option.toList, List.cons_append, List.nil_append]
    refine wa_iadd dX3_howMany_29 ?_
    refine wa_istore_n (lv' := [(3, .int (x3 + v2)), (0, .ref 33), (2, .int x2), (4, .int x4)]) dX3_howMany_30 rfl rfl rfl ?_
    refine wa_iinc (v := x4 + 1) (lv' := [(4, .int (x4 + 1)), (3, .int (x3 + v2)), (0, .ref 33), (2, .int x2)]) dX3_howMany_31 3 rfl rfl rfl rfl ?_
    refine wa_goto (tgt := 11) dX3_howMany_34 rfl ?_
    exact wa_pick [2, 3, 1, 0] rfl hF

theorem eX3_howMany {X : a_X} {ad : Nat → Nat} {ca : Nat → ClassId} {d : Nat} {Post : Option Value → a_M → a_P → Prop} {x : Nat} {M : a_M} (o1 : Nat) (x2 : Int32) (h : WA X ad ca LY RX3 cX3_howMany 5 (some FieldType.int) d 0 0 (a_E X ad ca LY Post) 0 [(0, .ref 33), (1, .ref o1), (2, .int x2)] [] M (PT x)) : Mt X ad ca LY d yX3_howMany cX3_howMany 5 (some FieldType.int) [.ref 33, .ref o1, .int x2] M (PT x) Post := Mt.of (lv := [(0, .ref 33), (1, .ref o1), (2, .int x2)]) (by decide +kernel) rfl rfl rfl (wa_pick [0, 1, 2] rfl h)
