theorem bX12_bends_0 {X : a_X} {ad : Nat → Nat} {ca : Nat → ClassId} {d : Nat} {kc ks : Nat} {QF : List Frame → Array Value → State → State → Prop} {x : Nat} {M : a_M}   (hF : WA X ad ca LY RX12 cX12_bends 6 none (d + 1) kc ks QF 2 [(0, .ref 118), (1, .int 1)] [] M (PT x)) : WA X ad ca LY RX12 cX12_bends 6 none (d + 1) kc ks QF 0 [(0, .ref 118)] [] M (PT x) := by
  refine wa_iconst (v := 1) dX12_bends_0 rfl ?_
  refine wa_istore_n (lv' := [(1, .int 1), (0, .ref 118)]) dX12_bends_1 rfl rfl rfl ?_
  exact wa_pick [1, 0] rfl hF

theorem bX12_bends_2 {X : a_X} {ad : Nat → Nat} {ca : Nat → ClassId} {d : Nat} {Post : Option Value → a_M → a_P → Prop} {x : Nat} {M : a_M} (x1 : Int32)  (hF : ((((M 118 44) - 1) ≤ x1 → Post none M (PT x)) ∧ (¬ ((M 118 44) - 1) ≤ x1 → WA X ad ca LY RX12 cX12_bends 6 none (d + 1) 0 0 (a_E X ad ca LY Post) 14 [(0, .ref 118), (1, .int x1), (2, .int x1)] [] M (PT x)))) : WA X ad ca LY RX12 cX12_bends 6 none (d + 1) 0 0 (a_E X ad ca LY Post) 2 [(0, .ref 118), (1, .int x1)] [] M (PT x) := by
  refine wa_iload_n dX12_bends_2 1 rfl rfl ?_
  refine wa_aload_n dX12_bends_3 0 rfl rfl ?_
  refine wb_geti (v := M 118 44) dX12_bends_4 fkX12_333 rfl rfl rfl ?_
  refine wa_iconst (v := 1) dX12_bends_7 rfl ?_
  refine wa_isub dX12_bends_8 ?_
  refine wa_icmp_ge (tgt := 259) dX12_bends_9 rfl (fun hc => ?_) (fun hc => ?_)
  · replace hF := hF.1 hc
    exact wa_vret dX12_bends_259 rfl hF
  · replace hF := hF.2 hc
    refine wa_iload_n dX12_bends_12 1 rfl rfl ?_
    refine wa_istore_n (lv' := [(2, .int x1), (0, .ref 118), (1, .int x1)]) dX12_bends_13 rfl rfl rfl ?_
    exact wa_pick [1, 2, 0] rfl hF

theorem bX12_bends_14 {X : a_X} {ad : Nat → Nat} {ca : Nat → ClassId} {d : Nat} {kc ks : Nat} {QF : List Frame → Array Value → State → State → Prop} {x : Nat} {M : a_M} (x1 : Int32) (x2 : Int32)  (hF : (((M 118 44) ≤ x2 → WA X ad ca LY RX12 cX12_bends 6 none (d + 1) kc ks QF 44 [(0, .ref 118), (1, .int x1), (2, .int x2)] [] M (PT x)) ∧ (¬ (M 118 44) ≤ x2 → (vp_in (((35 * x2) + x1) - 1) 1225 ∧ ((¬ (M 145 ((((35 * x2) + x1) - 1).toNatClampNeg)) = 0 → WA X ad ca LY RX12 cX12_bends 6 none (d + 1) kc ks QF 44 [(0, .ref 118), (1, .int x1), (2, .int x2)] [] M (PT x)) ∧ ((M 145 ((((35 * x2) + x1) - 1).toNatClampNeg)) = 0 → WA X ad ca LY RX12 cX12_bends 6 none (d + 1) kc ks QF 14 [(0, .ref 118), (1, .int x1), (2, .int (x2 + 1))] [] M (PT x))))))) : WA X ad ca LY RX12 cX12_bends 6 none (d + 1) kc ks QF 14 [(0, .ref 118), (1, .int x1), (2, .int x2)] [] M (PT x) := by
  refine wa_iload_n dX12_bends_14 2 rfl rfl ?_
  refine wa_aload_n dX12_bends_15 0 rfl rfl ?_
  refine wb_geti (v := M 118 44) dX12_bends_16 fkX12_333 rfl rfl rfl ?_
  refine wa_icmp_ge (tgt := 44) dX12_bends_19 rfl (fun hc => ?_) (fun hc => ?_)
  · replace hF := hF.1 hc
    exact hF
  · replace hF := hF.2 hc
    refine wa_aload_n dX12_bends_22 0 rfl rfl ?_
    refine wa_getr (r := 145) dX12_bends_23 fkX12_96 rfl rfl rfl ?_
    refine wa_bipush (v := 35) dX12_bends_26 rfl ?_
    refine wa_iload_n dX12_bends_28 2 rfl rfl ?_
    refine wa_imul dX12_bends_29 ?_
    refine wa_iload_n dX12_bends_30 1 rfl rfl ?_
    refine wa_iadd dX12_bends_31 ?_
    refine wa_iconst (v := 1) dX12_bends_32 rfl ?_
    refine wa_isub dX12_bends_33 ?_
    obtain ⟨hi9, hF⟩ := hF
    refine wb_iald (j := (((35 * x2) + x1) - 1).toNatClampNeg) (v := M 145 ((((35 * x2) + x1) - 1).toNatClampNeg)) dX12_bends_34 rfl hi9 rfl rfl ?_
    refine wa_if_ne (tgt := 44) dX12_bends_35 rfl (fun hc => ?_) (fun hc => ?_)
    · replace hF := hF.1 hc
      exact hF
    · replace hF := hF.2 hc
      refine wa_iinc (v := x2 + 1) (lv' := [(2, .int (x2 + 1)), (0, .ref 118), (1, .int x1)]) dX12_bends_38 2 rfl rfl rfl rfl ?_
      refine wa_goto (tgt := 14) dX12_bends_41 rfl ?_
      exact wa_pick [1, 2, 0] rfl hF

theorem bX12_bends_44 {X : a_X} {ad : Nat → Nat} {ca : Nat → ClassId} {d : Nat} {kc ks : Nat} {QF : List Frame → Array Value → State → State → Prop} {x : Nat} {M : a_M} (x1 : Int32) (x2 : Int32)  (hF : (((M 118 44) ≤ x2 → WA X ad ca LY RX12 cX12_bends 6 none (d + 1) kc ks QF 253 [(0, .ref 118), (1, .int x1)] [] M (PT x)) ∧ (¬ (M 118 44) ≤ x2 → ((x2 ≤ x1 → WA X ad ca LY RX12 cX12_bends 6 none (d + 1) kc ks QF 63 [(0, .ref 118), (1, .int x1)] [] M (PT x)) ∧ (¬ x2 ≤ x1 → (∃ Q1 : a_M → Prop, Mt X ad ca LY d yX12_swaps cX12_swaps 5 none [.ref 118, .int x2, .int x1] M (PT x) (q_v (PT x) Q1) ∧ ∀ M1, Q1 M1 → WA X ad ca LY RX12 cX12_bends 6 none (d + 1) kc ks QF 63 [(0, .ref 118), (1, .int x1)] [] M1 (PT x))))))) : WA X ad ca LY RX12 cX12_bends 6 none (d + 1) kc ks QF 44 [(0, .ref 118), (1, .int x1), (2, .int x2)] [] M (PT x) := by
  refine wa_iload_n dX12_bends_44 2 rfl rfl ?_
  refine wa_aload_n dX12_bends_45 0 rfl rfl ?_
  refine wb_geti (v := M 118 44) dX12_bends_46 fkX12_333 rfl rfl rfl ?_
  refine wa_icmp_ge (tgt := 253) dX12_bends_49 rfl (fun hc => ?_) (fun hc => ?_)
  · replace hF := hF.1 hc
    exact wa_pick [0, 1] rfl hF
  · replace hF := hF.2 hc
    refine wa_iload_n dX12_bends_52 2 rfl rfl ?_
    refine wa_iload_n dX12_bends_53 1 rfl rfl ?_
    refine wa_icmp_le (tgt := 63) dX12_bends_54 rfl (fun hc => ?_) (fun hc => ?_)
    · replace hF := hF.1 hc
      exact wa_pick [0, 1] rfl hF
    · replace hF := hF.2 hc
      refine wa_aload_n dX12_bends_57 0 rfl rfl ?_
      refine wa_iload_n dX12_bends_58 2 rfl rfl ?_
      refine wa_iload_n dX12_bends_59 1 rfl rfl ?_
      obtain ⟨Q1, hM9, hF⟩ := hF
      refine wa_callV [.int x2, .int x1] dX12_bends_60 (mmX12_swaps _ _) mlX12_362 mnX12_swaps mseX12_swaps rfl rfl rfl rfl (a_dlt d) rfl rfl hM9 ?_
      rintro r9 M1 P9 ⟨rfl, rfl, hq9⟩
      replace hF := hF M1 hq9
      simp only [Option.toList, List.nil_append]
      exact wa_pick [0, 1] rfl hF

theorem bX12_bends_63 {X : a_X} {ad : Nat → Nat} {ca : Nat → ClassId} {d : Nat} {kc ks : Nat} {QF : List Frame → Array Value → State → State → Prop} {x : Nat} {M : a_M} (x1 : Int32)  (hF : WA X ad ca LY RX12 cX12_bends 6 none (d + 1) kc ks QF 67 [(0, .ref 118), (1, .int x1), (3, .int (x1 + 1))] [] M (PT x)) : WA X ad ca LY RX12 cX12_bends 6 none (d + 1) kc ks QF 63 [(0, .ref 118), (1, .int x1)] [] M (PT x) := by
  refine wa_iload_n dX12_bends_63 1 rfl rfl ?_
  refine wa_iconst (v := 1) dX12_bends_64 rfl ?_
  refine wa_iadd dX12_bends_65 ?_
  refine wa_istore_n (lv' := [(3, .int (x1 + 1)), (0, .ref 118), (1, .int x1)]) dX12_bends_66 rfl rfl rfl ?_
  exact wa_pick [1, 2, 0] rfl hF

theorem bX12_bends_67 {X : a_X} {ad : Nat → Nat} {ca : Nat → ClassId} {d : Nat} {kc ks : Nat} {QF : List Frame → Array Value → State → State → Prop} {x : Nat} {M : a_M} (x1 : Int32) (x3 : Int32)  (hF : (((M 118 44) ≤ x3 → WA X ad ca LY RX12 cX12_bends 6 none (d + 1) kc ks QF 253 [(0, .ref 118), (1, .int x1)] [] M (PT x)) ∧ (¬ (M 118 44) ≤ x3 → (vp_in (((35 * x3) + x1) - 1) 1225 ∧ (vp_in (((35 * x1) + x1) - 1) 1225 ∧ (∃ Q1 : Int32 → a_M → Prop, Mt X ad ca LY d yX12_over cX12_over 4 (some FieldType.int) [.ref 118, .int (M 145 ((((35 * x3) + x1) - 1).toNatClampNeg)), .int (M 145 ((((35 * x1) + x1) - 1).toNatClampNeg))] M (PT x) (q_i (PT x) Q1) ∧ ∀ v1 M1, Q1 v1 M1 → WA X ad ca LY RX12 cX12_bends 6 none (d + 1) kc ks QF 110 [(0, .ref 118), (1, .int x1), (3, .int x3), (4, .int v1), (5, .int 0)] [] M1 (PT x))))))) : WA X ad ca LY RX12 cX12_bends 6 none (d + 1) kc ks QF 67 [(0, .ref 118), (1, .int x1), (3, .int x3)] [] M (PT x) := by
  refine wa_iload_n dX12_bends_67 2 rfl rfl ?_
  refine wa_aload_n dX12_bends_68 0 rfl rfl ?_
  refine wb_geti (v := M 118 44) dX12_bends_69 fkX12_333 rfl rfl rfl ?_
  refine wa_icmp_ge (tgt := 253) dX12_bends_72 rfl (fun hc => ?_) (fun hc => ?_)
  · replace hF := hF.1 hc
    exact wa_pick [0, 1] rfl hF
  · replace hF := hF.2 hc
    refine wa_aload_n dX12_bends_75 0 rfl rfl ?_
    refine wa_aload_n dX12_bends_76 0 rfl rfl ?_
    refine wa_getr (r := 145) dX12_bends_77 fkX12_96 rfl rfl rfl ?_
    refine wa_bipush (v := 35) dX12_bends_80 rfl ?_
    refine wa_iload_n dX12_bends_82 2 rfl rfl ?_
    refine wa_imul dX12_bends_83 ?_
    refine wa_iload_n dX12_bends_84 1 rfl rfl ?_
    refine wa_iadd dX12_bends_85 ?_
    refine wa_iconst (v := 1) dX12_bends_86 rfl ?_
    refine wa_isub dX12_bends_87 ?_
    obtain ⟨hi9, hF⟩ := hF
    refine wb_iald (j := (((35 * x3) + x1) - 1).toNatClampNeg) (v := M 145 ((((35 * x3) + x1) - 1).toNatClampNeg)) dX12_bends_88 rfl hi9 rfl rfl ?_
    refine wa_aload_n dX12_bends_89 0 rfl rfl ?_
    refine wa_getr (r := 145) dX12_bends_90 fkX12_96 rfl rfl rfl ?_
    refine wa_bipush (v := 35) dX12_bends_93 rfl ?_
    refine wa_iload_n dX12_bends_95 1 rfl rfl ?_
    refine wa_imul dX12_bends_96 ?_
    refine wa_iload_n dX12_bends_97 1 rfl rfl ?_
    refine wa_iadd dX12_bends_98 ?_
    refine wa_iconst (v := 1) dX12_bends_99 rfl ?_
    refine wa_isub dX12_bends_100 ?_
    obtain ⟨hi9, hF⟩ := hF
    refine wb_iald (j := (((35 * x1) + x1) - 1).toNatClampNeg) (v := M 145 ((((35 * x1) + x1) - 1).toNatClampNeg)) dX12_bends_101 rfl hi9 rfl rfl ?_
    obtain ⟨Q1, hM9, hF⟩ := hF
    refine wa_callV [.int (M 145 ((((35 * x3) + x1) - 1).toNatClampNeg)), .int (M 145 ((((35 * x1) + x1) - 1).toNatClampNeg))] dX12_bends_102 (mmX12_over _ _) mlX12_271 mnX12_over mseX12_over rfl rfl rfl rfl (a_dlt d) rfl rfl hM9 ?_
    rintro r9 M1 P9 ⟨v1, rfl, rfl, hq9⟩
    replace hF := hF v1 M1 hq9
    simp only [Option.toList, List.cons_append, List.nil_append]
    refine wa_istore (lv' := [(4, .int v1), (0, .ref 118), (1, .int x1), (3, .int x3)]) dX12_bends_105 rfl rfl ?_
    refine wa_iconst (v := 0) dX12_bends_107 rfl ?_
    refine wa_istore (lv' := [(5, .int 0), (4, .int v1), (0, .ref 118), (1, .int x1), (3, .int x3)]) dX12_bends_108 rfl rfl ?_
    exact wa_pick [2, 3, 4, 1, 0] rfl hF

theorem bX12_bends_110 {X : a_X} {ad : Nat → Nat} {ca : Nat → ClassId} {d : Nat} {kc ks : Nat} {QF : List Frame → Array Value → State → State → Prop} {x : Nat} {M : a_M} (x1 : Int32) (x3 : Int32) (x4 : Int32) (x5 : Int32)  (hF : (((M 118 44) ≤ x5 → WA X ad ca LY RX12 cX12_bends 6 none (d + 1) kc ks QF 177 [(0, .ref 118), (1, .int x1), (3, .int x3), (4, .int x4)] [] M (PT x)) ∧ (¬ (M 118 44) ≤ x5 → ((x4 ≤ 0 → WA X ad ca LY RX12 cX12_bends 6 none (d + 1) kc ks QF 177 [(0, .ref 118), (1, .int x1), (3, .int x3), (4, .int x4)] [] M (PT x)) ∧ (¬ x4 ≤ 0 → (vp_in ((35 * x3) + x5) 1225 ∧ (vp_in ((35 * x1) + x5) 1225 ∧ (∃ Q1 : Int32 → a_M → Prop, Mt X ad ca LY d yX12_left cX12_left 4 (some FieldType.int) [.ref 118, .long (((M 145 (((35 * x3) + x5).toNatClampNeg)).toInt64) - (x4.toInt64 * ((M 145 (((35 * x1) + x5).toNatClampNeg)).toInt64)))] M (PT x) (q_i (PT x) Q1) ∧ ∀ v1 M1, Q1 v1 M1 → (vp_in ((35 * x3) + x5) 1225 ∧ WA X ad ca LY RX12 cX12_bends 6 none (d + 1) kc ks QF 110 [(0, .ref 118), (1, .int x1), (3, .int x3), (4, .int x4), (5, .int (x5 + 1))] [] (ms M1 145 (((35 * x3) + x5).toNatClampNeg) v1) (PT x)))))))))) : WA X ad ca LY RX12 cX12_bends 6 none (d + 1) kc ks QF 110 [(0, .ref 118), (1, .int x1), (3, .int x3), (4, .int x4), (5, .int x5)] [] M (PT x) := by
  refine wa_iload dX12_bends_110 4 rfl ?_
  refine wa_aload_n dX12_bends_112 0 rfl rfl ?_
  refine wb_geti (v := M 118 44) dX12_bends_113 fkX12_333 rfl rfl rfl ?_
  refine wa_icmp_ge (tgt := 177) dX12_bends_116 rfl (fun hc => ?_) (fun hc => ?_)
  · replace hF := hF.1 hc
    exact wa_pick [0, 1, 2, 3] rfl hF
  · replace hF := hF.2 hc
    refine wa_iload dX12_bends_119 3 rfl ?_
    refine wa_if_le (tgt := 177) dX12_bends_121 rfl (fun hc => ?_) (fun hc => ?_)
    · replace hF := hF.1 hc
      exact wa_pick [0, 1, 2, 3] rfl hF
    · replace hF := hF.2 hc
      refine wa_aload_n dX12_bends_124 0 rfl rfl ?_
      refine wa_getr (r := 145) dX12_bends_125 fkX12_96 rfl rfl rfl ?_
      refine wa_bipush (v := 35) dX12_bends_128 rfl ?_
      refine wa_iload_n dX12_bends_130 2 rfl rfl ?_
      refine wa_imul dX12_bends_131 ?_
      refine wa_iload dX12_bends_132 4 rfl ?_
      refine wa_iadd dX12_bends_134 ?_
      refine wa_aload_n dX12_bends_135 0 rfl rfl ?_
      refine wa_aload_n dX12_bends_136 0 rfl rfl ?_
      refine wa_getr (r := 145) dX12_bends_137 fkX12_96 rfl rfl rfl ?_
      refine wa_bipush (v := 35) dX12_bends_140 rfl ?_
      refine wa_iload_n dX12_bends_142 2 rfl rfl ?_
      refine wa_imul dX12_bends_143 ?_
      refine wa_iload dX12_bends_144 4 rfl ?_
      refine wa_iadd dX12_bends_146 ?_
      obtain ⟨hi9, hF⟩ := hF
      refine wb_iald (j := ((35 * x3) + x5).toNatClampNeg) (v := M 145 (((35 * x3) + x5).toNatClampNeg)) dX12_bends_147 rfl hi9 rfl rfl ?_
      refine wa_i2l dX12_bends_148 ?_
      refine wa_iload dX12_bends_149 3 rfl ?_
      refine wa_i2l dX12_bends_151 ?_
      refine wa_aload_n dX12_bends_152 0 rfl rfl ?_
      refine wa_getr (r := 145) dX12_bends_153 fkX12_96 rfl rfl rfl ?_
      refine wa_bipush (v := 35) dX12_bends_156 rfl ?_
      refine wa_iload_n dX12_bends_158 1 rfl rfl ?_
      refine wa_imul dX12_bends_159 ?_
      refine wa_iload dX12_bends_160 4 rfl ?_
      refine wa_iadd dX12_bends_162 ?_
      obtain ⟨hi9, hF⟩ := hF
      refine wb_iald (j := ((35 * x1) + x5).toNatClampNeg) (v := M 145 (((35 * x1) + x5).toNatClampNeg)) dX12_bends_163 rfl hi9 rfl rfl ?_
      refine wa_i2l dX12_bends_164 ?_
      refine wa_lmul dX12_bends_165 ?_
      refine wa_lsub dX12_bends_166 ?_
      obtain ⟨Q1, hM9, hF⟩ := hF
      refine wa_callV [.long (((M 145 (((35 * x3) + x5).toNatClampNeg)).toInt64) - (x4.toInt64 * ((M 145 (((35 * x1) + x5).toNatClampNeg)).toInt64)))] dX12_bends_167 (mmX12_left _ _) mlX12_360 mnX12_left mseX12_left rfl rfl rfl rfl (a_dlt d) rfl rfl hM9 ?_
      rintro r9 M1 P9 ⟨v1, rfl, rfl, hq9⟩
      replace hF := hF v1 M1 hq9
      simp only [Option.toList, List.cons_append, List.nil_append]
      obtain ⟨hi9, hF⟩ := hF
      refine wb_iast (j := ((35 * x3) + x5).toNatClampNeg) dX12_bends_170 rfl hi9 rfl ?_
      refine wa_iinc (v := x5 + 1) (lv' := [(5, .int (x5 + 1)), (0, .ref 118), (1, .int x1), (3, .int x3), (4, .int x4)]) dX12_bends_171 4 rfl rfl rfl rfl ?_
      refine wa_goto (tgt := 110) dX12_bends_174 rfl ?_
      exact wa_pick [1, 2, 3, 4, 0] rfl hF

theorem bX12_bends_177 {X : a_X} {ad : Nat → Nat} {ca : Nat → ClassId} {d : Nat} {kc ks : Nat} {QF : List Frame → Array Value → State → State → Prop} {x : Nat} {M : a_M} (x1 : Int32) (x3 : Int32) (x4 : Int32)  (hF : WA X ad ca LY RX12 cX12_bends 6 none (d + 1) kc ks QF 180 [(0, .ref 118), (1, .int x1), (3, .int x3), (4, .int x4), (5, .int 0)] [] M (PT x)) : WA X ad ca LY RX12 cX12_bends 6 none (d + 1) kc ks QF 177 [(0, .ref 118), (1, .int x1), (3, .int x3), (4, .int x4)] [] M (PT x) := by
  refine wa_iconst (v := 0) dX12_bends_177 rfl ?_
  refine wa_istore (lv' := [(5, .int 0), (0, .ref 118), (1, .int x1), (3, .int x3), (4, .int x4)]) dX12_bends_178 rfl rfl ?_
  exact wa_pick [1, 2, 3, 4, 0] rfl hF

theorem bX12_bends_180 {X : a_X} {ad : Nat → Nat} {ca : Nat → ClassId} {d : Nat} {kc ks : Nat} {QF : List Frame → Array Value → State → State → Prop} {x : Nat} {M : a_M} (x1 : Int32) (x3 : Int32) (x4 : Int32) (x5 : Int32)  (hF : (((M 118 44) ≤ x5 → WA X ad ca LY RX12 cX12_bends 6 none (d + 1) kc ks QF 247 [(0, .ref 118), (1, .int x1), (3, .int x3)] [] M (PT x)) ∧ (¬ (M 118 44) ≤ x5 → ((x4 ≤ 0 → WA X ad ca LY RX12 cX12_bends 6 none (d + 1) kc ks QF 247 [(0, .ref 118), (1, .int x1), (3, .int x3)] [] M (PT x)) ∧ (¬ x4 ≤ 0 → (vp_in ((35 * x5) + x1) 1225 ∧ (vp_in ((35 * x5) + x3) 1225 ∧ (∃ Q1 : Int32 → a_M → Prop, Mt X ad ca LY d yX12_left cX12_left 4 (some FieldType.int) [.ref 118, .long (((M 145 (((35 * x5) + x1).toNatClampNeg)).toInt64) + (x4.toInt64 * ((M 145 (((35 * x5) + x3).toNatClampNeg)).toInt64)))] M (PT x) (q_i (PT x) Q1) ∧ ∀ v1 M1, Q1 v1 M1 → (vp_in ((35 * x5) + x1) 1225 ∧ WA X ad ca LY RX12 cX12_bends 6 none (d + 1) kc ks QF 180 [(0, .ref 118), (1, .int x1), (3, .int x3), (4, .int x4), (5, .int (x5 + 1))] [] (ms M1 145 (((35 * x5) + x1).toNatClampNeg) v1) (PT x)))))))))) : WA X ad ca LY RX12 cX12_bends 6 none (d + 1) kc ks QF 180 [(0, .ref 118), (1, .int x1), (3, .int x3), (4, .int x4), (5, .int x5)] [] M (PT x) := by
  refine wa_iload dX12_bends_180 4 rfl ?_
  refine wa_aload_n dX12_bends_182 0 rfl rfl ?_
  refine wb_geti (v := M 118 44) dX12_bends_183 fkX12_333 rfl rfl rfl ?_
  refine wa_icmp_ge (tgt := 247) dX12_bends_186 rfl (fun hc => ?_) (fun hc => ?_)
  · replace hF := hF.1 hc
    exact wa_pick [0, 1, 2] rfl hF
  · replace hF := hF.2 hc
    refine wa_iload dX12_bends_189 3 rfl ?_
    refine wa_if_le (tgt := 247) dX12_bends_191 rfl (fun hc => ?_) (fun hc => ?_)
    · replace hF := hF.1 hc
      exact wa_pick [0, 1, 2] rfl hF
    · replace hF := hF.2 hc
      refine wa_aload_n dX12_bends_194 0 rfl rfl ?_
      refine wa_getr (r := 145) dX12_bends_195 fkX12_96 rfl rfl rfl ?_
      refine wa_bipush (v := 35) dX12_bends_198 rfl ?_
      refine wa_iload dX12_bends_200 4 rfl ?_
      refine wa_imul dX12_bends_202 ?_
      refine wa_iload_n dX12_bends_203 1 rfl rfl ?_
      refine wa_iadd dX12_bends_204 ?_
      refine wa_aload_n dX12_bends_205 0 rfl rfl ?_
      refine wa_aload_n dX12_bends_206 0 rfl rfl ?_
      refine wa_getr (r := 145) dX12_bends_207 fkX12_96 rfl rfl rfl ?_
      refine wa_bipush (v := 35) dX12_bends_210 rfl ?_
      refine wa_iload dX12_bends_212 4 rfl ?_
      refine wa_imul dX12_bends_214 ?_
      refine wa_iload_n dX12_bends_215 1 rfl rfl ?_
      refine wa_iadd dX12_bends_216 ?_
      obtain ⟨hi9, hF⟩ := hF
      refine wb_iald (j := ((35 * x5) + x1).toNatClampNeg) (v := M 145 (((35 * x5) + x1).toNatClampNeg)) dX12_bends_217 rfl hi9 rfl rfl ?_
      refine wa_i2l dX12_bends_218 ?_
      refine wa_iload dX12_bends_219 3 rfl ?_
      refine wa_i2l dX12_bends_221 ?_
      refine wa_aload_n dX12_bends_222 0 rfl rfl ?_
      refine wa_getr (r := 145) dX12_bends_223 fkX12_96 rfl rfl rfl ?_
      refine wa_bipush (v := 35) dX12_bends_226 rfl ?_
      refine wa_iload dX12_bends_228 4 rfl ?_
      refine wa_imul dX12_bends_230 ?_
      refine wa_iload_n dX12_bends_231 2 rfl rfl ?_
      refine wa_iadd dX12_bends_232 ?_
      obtain ⟨hi9, hF⟩ := hF
      refine wb_iald (j := ((35 * x5) + x3).toNatClampNeg) (v := M 145 (((35 * x5) + x3).toNatClampNeg)) dX12_bends_233 rfl hi9 rfl rfl ?_
      refine wa_i2l dX12_bends_234 ?_
      refine wa_lmul dX12_bends_235 ?_
      refine wa_ladd dX12_bends_236 ?_
      obtain ⟨Q1, hM9, hF⟩ := hF
      refine wa_callV [.long (((M 145 (((35 * x5) + x1).toNatClampNeg)).toInt64) + (x4.toInt64 * ((M 145 (((35 * x5) + x3).toNatClampNeg)).toInt64)))] dX12_bends_237 (mmX12_left _ _) mlX12_360 mnX12_left mseX12_left rfl rfl rfl rfl (a_dlt d) rfl rfl hM9 ?_
      rintro r9 M1 P9 ⟨v1, rfl, rfl, hq9⟩
      replace hF := hF v1 M1 hq9
      simp only [Option.toList, List.cons_append, List.nil_append]
      obtain ⟨hi9, hF⟩ := hF
      refine wb_iast (j := ((35 * x5) + x1).toNatClampNeg) dX12_bends_240 rfl hi9 rfl ?_
      refine wa_iinc (v := x5 + 1) (lv' := [(5, .int (x5 + 1)), (0, .ref 118), (1, .int x1), (3, .int x3), (4, .int x4)]) dX12_bends_241 4 rfl rfl rfl rfl ?_
      refine wa_goto (tgt := 180) dX12_bends_244 rfl ?_
      exact wa_pick [1, 2, 3, 4, 0] rfl hF

theorem bX12_bends_247 {X : a_X} {ad : Nat → Nat} {ca : Nat → ClassId} {d : Nat} {kc ks : Nat} {QF : List Frame → Array Value → State → State → Prop} {x : Nat} {M : a_M} (x1 : Int32) (x3 : Int32)  (hF : WA X ad ca LY RX12 cX12_bends 6 none (d + 1) kc ks QF 67 [(0, .ref 118), (1, .int x1), (3, .int (x3 + 1))] [] M (PT x)) : WA X ad ca LY RX12 cX12_bends 6 none (d + 1) kc ks QF 247 [(0, .ref 118), (1, .int x1), (3, .int x3)] [] M (PT x) := by
  refine wa_iinc (v := x3 + 1) (lv' := [(3, .int (x3 + 1)), (0, .ref 118), (1, .int x1)]) dX12_bends_247 2 rfl rfl rfl rfl ?_
  refine wa_goto (tgt := 67) dX12_bends_250 rfl ?_
  exact wa_pick [1, 2, 0] rfl hF

theorem bX12_bends_253 {X : a_X} {ad : Nat → Nat} {ca : Nat → ClassId} {d : Nat} {kc ks : Nat} {QF : List Frame → Array Value → State → State → Prop} {x : Nat} {M : a_M} (x1 : Int32)  (hF : WA X ad ca LY RX12 cX12_bends 6 none (d + 1) kc ks QF 2 [(0, .ref 118), (1, .int (x1 + 1))] [] M (PT x)) : WA X ad ca LY RX12 cX12_bends 6 none (d + 1) kc ks QF 253 [(0, .ref 118), (1, .int x1)] [] M (PT x) := by
  refine wa_iinc (v := x1 + 1) (lv' := [(1, .int (x1 + 1)), (0, .ref 118)]) dX12_bends_253 1 rfl rfl rfl rfl ?_
  refine wa_goto (tgt := 2) dX12_bends_256 rfl ?_
  exact wa_pick [1, 0] rfl hF

theorem eX12_bends {X : a_X} {ad : Nat → Nat} {ca : Nat → ClassId} {d : Nat} {Post : Option Value → a_M → a_P → Prop} {x : Nat} {M : a_M}  (h : WA X ad ca LY RX12 cX12_bends 6 none d 0 0 (a_E X ad ca LY Post) 0 [(0, .ref 118)] [] M (PT x)) : Mt X ad ca LY d yX12_bends cX12_bends 6 none [.ref 118] M (PT x) Post := Mt.of (lv := [(0, .ref 118)]) (by decide +kernel) rfl rfl rfl (wa_pick [0] rfl h)

theorem bX12_laysPoly_0 {X : a_X} {ad : Nat → Nat} {ca : Nat → ClassId} {d : Nat} {kc ks : Nat} {QF : List Frame → Array Value → State → State → Prop} {x : Nat} {M : a_M}   (hF : (∃ Q1 : a_M → Prop, Mt X ad ca LY d yX12_bends cX12_bends 6 none [.ref 118] M (PT x) (q_v (PT x) Q1) ∧ ∀ M1, Q1 M1 → WA X ad ca LY RX12 cX12_laysPoly 7 none (d + 1) kc ks QF 6 [(0, .ref 118), (1, .int 0)] [] M1 (PT x))) : WA X ad ca LY RX12 cX12_laysPoly 7 none (d + 1) kc ks QF 0 [(0, .ref 118)] [] M (PT x) := by
  refine wa_aload_n dX12_laysPoly_0 0 rfl rfl ?_
  obtain ⟨Q1, hM9, hF⟩ := hF
  refine wa_callV [] dX12_laysPoly_1 (mmX12_bends _ _) mlX12_365 mnX12_bends mseX12_bends rfl rfl rfl rfl (a_dlt d) rfl rfl hM9 ?_
  rintro r9 M1 P9 ⟨rfl, rfl, hq9⟩
  replace hF := hF M1 hq9
  simp only [Option.toList, List.nil_append]
  refine wa_iconst (v := 0) dX12_laysPoly_4 rfl ?_
  refine wa_istore_n (lv' := [(1, .int 0), (0, .ref 118)]) dX12_laysPoly_5 rfl rfl rfl ?_
  exact wa_pick [1, 0] rfl hF

theorem bX12_laysPoly_6 {X : a_X} {ad : Nat → Nat} {ca : Nat → ClassId} {d : Nat} {kc ks : Nat} {QF : List Frame → Array Value → State → State → Prop} {x : Nat} {M : a_M} (x1 : Int32)  (hF : ((1296 ≤ x1 → WA X ad ca LY RX12 cX12_laysPoly 7 none (d + 1) kc ks QF 35 [(0, .ref 118), (1, .int 1)] [] (ms M 146 0 1) (PT x)) ∧ (¬ 1296 ≤ x1 → (vp_in x1 1296 ∧ WA X ad ca LY RX12 cX12_laysPoly 7 none (d + 1) kc ks QF 6 [(0, .ref 118), (1, .int (x1 + 1))] [] (ms M 146 x1.toNatClampNeg 0) (PT x))))) : WA X ad ca LY RX12 cX12_laysPoly 7 none (d + 1) kc ks QF 6 [(0, .ref 118), (1, .int x1)] [] M (PT x) := by
  refine wa_iload_n dX12_laysPoly_6 1 rfl rfl ?_
  refine wa_sipush (v := 1296) dX12_laysPoly_7 rfl ?_
  refine wa_icmp_ge (tgt := 26) dX12_laysPoly_10 rfl (fun hc => ?_) (fun hc => ?_)
  · replace hF := hF.1 hc
    refine wa_aload_n dX12_laysPoly_26 0 rfl rfl ?_
    refine wa_getr (r := 146) dX12_laysPoly_27 fkX12_99 rfl rfl rfl ?_
    refine wa_iconst (v := 0) dX12_laysPoly_30 rfl ?_
    refine wa_iconst (v := 1) dX12_laysPoly_31 rfl ?_
    refine wb_iast (j := 0) dX12_laysPoly_32 rfl (by unfold vp_in; decide) rfl ?_
    refine wa_iconst (v := 1) dX12_laysPoly_33 rfl ?_
    refine wa_istore_n (lv' := [(1, .int 1), (0, .ref 118)]) dX12_laysPoly_34 rfl rfl rfl ?_
    exact wa_pick [1, 0] rfl hF
  · replace hF := hF.2 hc
    refine wa_aload_n dX12_laysPoly_13 0 rfl rfl ?_
    refine wa_getr (r := 146) dX12_laysPoly_14 fkX12_99 rfl rfl rfl ?_
    refine wa_iload_n dX12_laysPoly_17 1 rfl rfl ?_
    refine wa_iconst (v := 0) dX12_laysPoly_18 rfl ?_
    obtain ⟨hi9, hF⟩ := hF
    refine wb_iast (j := x1.toNatClampNeg) dX12_laysPoly_19 rfl hi9 rfl ?_
    refine wa_iinc (v := x1 + 1) (lv' := [(1, .int (x1 + 1)), (0, .ref 118)]) dX12_laysPoly_20 1 rfl rfl rfl rfl ?_
    refine wa_goto (tgt := 6) dX12_laysPoly_23 rfl ?_
    exact wa_pick [1, 0] rfl hF

theorem bX12_laysPoly_35 {X : a_X} {ad : Nat → Nat} {ca : Nat → ClassId} {d : Nat} {Post : Option Value → a_M → a_P → Prop} {x : Nat} {M : a_M} (x1 : Int32)  (hF : (((M 118 44) < x1 → Post none M (PT x)) ∧ (¬ (M 118 44) < x1 → WA X ad ca LY RX12 cX12_laysPoly 7 none (d + 1) 0 0 (a_E X ad ca LY Post) 56 [(0, .ref 118), (1, .int x1), (2, .int (36 * x1)), (3, .int ((36 * x1) - 36)), (4, .int 0)] [] M (PT x)))) : WA X ad ca LY RX12 cX12_laysPoly 7 none (d + 1) 0 0 (a_E X ad ca LY Post) 35 [(0, .ref 118), (1, .int x1)] [] M (PT x) := by
  refine wa_iload_n dX12_laysPoly_35 1 rfl rfl ?_
  refine wa_aload_n dX12_laysPoly_36 0 rfl rfl ?_
  refine wb_geti (v := M 118 44) dX12_laysPoly_37 fkX12_333 rfl rfl rfl ?_
  refine wa_icmp_gt (tgt := 224) dX12_laysPoly_40 rfl (fun hc => ?_) (fun hc => ?_)
  · replace hF := hF.1 hc
    exact wa_vret dX12_laysPoly_224 rfl hF
  · replace hF := hF.2 hc
    refine wa_bipush (v := 36) dX12_laysPoly_43 rfl ?_
    refine wa_iload_n dX12_laysPoly_45 1 rfl rfl ?_
    refine wa_imul dX12_laysPoly_46 ?_
    refine wa_istore_n (lv' := [(2, .int (36 * x1)), (0, .ref 118), (1, .int x1)]) dX12_laysPoly_47 rfl rfl rfl ?_
    refine wa_iload_n dX12_laysPoly_48 0 rfl rfl ?_
    refine wa_bipush (v := 36) dX12_laysPoly_49 rfl ?_
    refine wa_isub dX12_laysPoly_51 ?_
    refine wa_istore_n (lv' := [(3, .int ((36 * x1) - 36)), (2, .int (36 * x1)), (0, .ref 118), (1, .int x1)]) dX12_laysPoly_52 rfl rfl rfl ?_
    refine wa_iconst (v := 0) dX12_laysPoly_53 rfl ?_
    refine wa_istore (lv' := [(4, .int 0), (3, .int ((36 * x1) - 36)), (2, .int (36 * x1)), (0, .ref 118), (1, .int x1)]) dX12_laysPoly_54 rfl rfl ?_
    exact wa_pick [3, 4, 2, 1, 0] rfl hF

theorem bX12_laysPoly_56 {X : a_X} {ad : Nat → Nat} {ca : Nat → ClassId} {d : Nat} {kc ks : Nat} {QF : List Frame → Array Value → State → State → Prop} {x : Nat} {M : a_M} (x1 : Int32) (x2 : Int32) (x3 : Int32) (x4 : Int32)  (hF : ((x1 ≤ x4 → (vp_in (((35 * (x1 - 1)) + x1) - 1) 1225 ∧ (∃ Q1 : a_M → Prop, Mt X ad ca LY d yX12_adds cX12_adds 5 none [.ref 118, .int x2, .int x3, .int ((M 119 2) - (M 145 ((((35 * (x1 - 1)) + x1) - 1).toNatClampNeg)))] M (PT x) (q_v (PT x) Q1) ∧ ∀ M1, Q1 M1 → WA X ad ca LY RX12 cX12_laysPoly 7 none (d + 1) kc ks QF 122 [(0, .ref 118), (1, .int x1), (2, .int x2), (4, .int 1), (5, .int 1)] [] M1 (PT x)))) ∧ (¬ x1 ≤ x4 → (vp_in (x3 + x4) 1296 ∧ (vp_in ((x2 + x4) + 1) 1296 ∧ WA X ad ca LY RX12 cX12_laysPoly 7 none (d + 1) kc ks QF 56 [(0, .ref 118), (1, .int x1), (2, .int x2), (3, .int x3), (4, .int (x4 + 1))] [] (ms M 146 (((x2 + x4) + 1).toNatClampNeg) (M 146 ((x3 + x4).toNatClampNeg))) (PT x)))))) : WA X ad ca LY RX12 cX12_laysPoly 7 none (d + 1) kc ks QF 56 [(0, .ref 118), (1, .int x1), (2, .int x2), (3, .int x3), (4, .int x4)] [] M (PT x) := by
  refine wa_iload dX12_laysPoly_56 4 rfl ?_
  refine wa_iload_n dX12_laysPoly_58 1 rfl rfl ?_
  refine wa_icmp_ge (tgt := 88) dX12_laysPoly_59 rfl (fun hc => ?_) (fun hc => ?_)
  · replace hF := hF.1 hc
    refine wa_aload_n dX12_laysPoly_88 0 rfl rfl ?_
    refine wa_iload_n dX12_laysPoly_89 2 rfl rfl ?_
    refine wa_iload_n dX12_laysPoly_90 3 rfl rfl ?_
    refine wa_aload_n dX12_laysPoly_91 0 rfl rfl ?_
    refine wa_getr (r := 119) dX12_laysPoly_92 fkX12_7 rfl rfl rfl ?_
    refine wa_iconst (v := 2) dX12_laysPoly_95 rfl ?_
    refine wb_iald (j := 2) (v := M 119 2) dX12_laysPoly_96 rfl (by unfold vp_in; decide) rfl rfl ?_
    refine wa_aload_n dX12_laysPoly_97 0 rfl rfl ?_
    refine wa_getr (r := 145) dX12_laysPoly_98 fkX12_96 rfl rfl rfl ?_
    refine wa_bipush (v := 35) dX12_laysPoly_101 rfl ?_
    refine wa_iload_n dX12_laysPoly_103 1 rfl rfl ?_
    refine wa_iconst (v := 1) dX12_laysPoly_104 rfl ?_
    refine wa_isub dX12_laysPoly_105 ?_
    refine wa_imul dX12_laysPoly_106 ?_
    refine wa_iload_n dX12_laysPoly_107 1 rfl rfl ?_
    refine wa_iadd dX12_laysPoly_108 ?_
    refine wa_iconst (v := 1) dX12_laysPoly_109 rfl ?_
    refine wa_isub dX12_laysPoly_110 ?_
    obtain ⟨hi9, hF⟩ := hF
    refine wb_iald (j := (((35 * (x1 - 1)) + x1) - 1).toNatClampNeg) (v := M 145 ((((35 * (x1 - 1)) + x1) - 1).toNatClampNeg)) dX12_laysPoly_111 rfl hi9 rfl rfl ?_
    refine wa_isub dX12_laysPoly_112 ?_
    obtain ⟨Q1, hM9, hF⟩ := hF
    refine wa_callV [.int x2, .int x3, .int ((M 119 2) - (M 145 ((((35 * (x1 - 1)) + x1) - 1).toNatClampNeg)))] dX12_laysPoly_113 (mmX12_adds _ _) mlX12_368 mnX12_adds mseX12_adds rfl rfl rfl rfl (a_dlt d) rfl rfl hM9 ?_
    rintro r9 M1 P9 ⟨rfl, rfl, hq9⟩
    replace hF := hF M1 hq9
    simp only [Option.toList, List.nil_append]
    refine wa_iconst (v := 1) dX12_laysPoly_116 rfl ?_
    refine wa_istore (lv' := [(4, .int 1), (0, .ref 118), (1, .int x1), (2, .int x2), (3, .int x3)]) dX12_laysPoly_117 rfl rfl ?_
    refine wa_iconst (v := 1) dX12_laysPoly_119 rfl ?_
    refine wa_istore (lv' := [(5, .int 1), (4, .int 1), (0, .ref 118), (1, .int x1), (2, .int x2), (3, .int x3)]) dX12_laysPoly_120 rfl rfl ?_
    exact wa_pick [2, 3, 4, 1, 0] rfl hF
  · replace hF := hF.2 hc
    refine wa_aload_n dX12_laysPoly_62 0 rfl rfl ?_
    refine wa_getr (r := 146) dX12_laysPoly_63 fkX12_99 rfl rfl rfl ?_
    refine wa_iload_n dX12_laysPoly_66 2 rfl rfl ?_
    refine wa_iload dX12_laysPoly_67 4 rfl ?_
    refine wa_iadd dX12_laysPoly_69 ?_
    refine wa_iconst (v := 1) dX12_laysPoly_70 rfl ?_
    refine wa_iadd dX12_laysPoly_71 ?_
    refine wa_aload_n dX12_laysPoly_72 0 rfl rfl ?_
    refine wa_getr (r := 146) dX12_laysPoly_73 fkX12_99 rfl rfl rfl ?_
    refine wa_iload_n dX12_laysPoly_76 3 rfl rfl ?_
    refine wa_iload dX12_laysPoly_77 4 rfl ?_
    refine wa_iadd dX12_laysPoly_79 ?_
    obtain ⟨hi9, hF⟩ := hF
    refine wb_iald (j := (x3 + x4).toNatClampNeg) (v := M 146 ((x3 + x4).toNatClampNeg)) dX12_laysPoly_80 rfl hi9 rfl rfl ?_
    obtain ⟨hi9, hF⟩ := hF
    refine wb_iast (j := ((x2 + x4) + 1).toNatClampNeg) dX12_laysPoly_81 rfl hi9 rfl ?_
    refine wa_iinc (v := x4 + 1) (lv' := [(4, .int (x4 + 1)), (0, .ref 118), (1, .int x1), (2, .int x2), (3, .int x3)]) dX12_laysPoly_82 4 rfl rfl rfl rfl ?_
    refine wa_goto (tgt := 56) dX12_laysPoly_85 rfl ?_
    exact wa_pick [1, 2, 3, 4, 0] rfl hF

theorem bX12_laysPoly_122 {X : a_X} {ad : Nat → Nat} {ca : Nat → ClassId} {d : Nat} {kc ks : Nat} {QF : List Frame → Array Value → State → State → Prop} {x : Nat} {M : a_M} (x1 : Int32) (x2 : Int32) (x4 : Int32) (x5 : Int32)  (hF : ((x1 ≤ x5 → WA X ad ca LY RX12 cX12_laysPoly 7 none (d + 1) kc ks QF 35 [(0, .ref 118), (1, .int (x1 + 1))] [] M (PT x)) ∧ (¬ x1 ≤ x5 → (vp_in ((((35 * (x1 - x5)) + x1) - x5) - 1) 1225 ∧ (¬ (M 119 2) = 0 ∧ (vp_in (((35 * ((x1 - x5) - 1)) + x1) - 1) 1225 ∧ (¬ (M 119 2) = 0 ∧ (∃ Q1 : a_M → Prop, Mt X ad ca LY d yX12_adds cX12_adds 5 none [.ref 118, .int x2, .int (36 * ((x1 - x5) - 1)), .int ((M 119 2) - ((((x4 * (M 145 (((((35 * (x1 - x5)) + x1) - x5) - 1).toNatClampNeg))) - (x4 * (M 145 (((((35 * (x1 - x5)) + x1) - x5) - 1).toNatClampNeg))) / (M 119 2) * (M 119 2)) * (M 145 ((((35 * ((x1 - x5) - 1)) + x1) - 1).toNatClampNeg))) - (((x4 * (M 145 (((((35 * (x1 - x5)) + x1) - x5) - 1).toNatClampNeg))) - (x4 * (M 145 (((((35 * (x1 - x5)) + x1) - x5) - 1).toNatClampNeg))) / (M 119 2) * (M 119 2)) * (M 145 ((((35 * ((x1 - x5) - 1)) + x1) - 1).toNatClampNeg))) / (M 119 2) * (M 119 2)))] M (PT x) (q_v (PT x) Q1) ∧ ∀ M1, Q1 M1 → WA X ad ca LY RX12 cX12_laysPoly 7 none (d + 1) kc ks QF 122 [(0, .ref 118), (1, .int x1), (2, .int x2), (4, .int ((x4 * (M 145 (((((35 * (x1 - x5)) + x1) - x5) - 1).toNatClampNeg))) - (x4 * (M 145 (((((35 * (x1 - x5)) + x1) - x5) - 1).toNatClampNeg))) / (M 119 2) * (M 119 2))), (5, .int (x5 + 1))] [] M1 (PT x))))))))) : WA X ad ca LY RX12 cX12_laysPoly 7 none (d + 1) kc ks QF 122 [(0, .ref 118), (1, .int x1), (2, .int x2), (4, .int x4), (5, .int x5)] [] M (PT x) := by
  refine wa_iload dX12_laysPoly_122 4 rfl ?_
  refine wa_iload_n dX12_laysPoly_124 1 rfl rfl ?_
  refine wa_icmp_ge (tgt := 218) dX12_laysPoly_125 rfl (fun hc => ?_) (fun hc => ?_)
  · replace hF := hF.1 hc
    refine wa_iinc (v := x1 + 1) (lv' := [(1, .int (x1 + 1)), (0, .ref 118), (2, .int x2), (4, .int x4), (5, .int x5)]) dX12_laysPoly_218 1 rfl rfl rfl rfl ?_
    refine wa_goto (tgt := 35) dX12_laysPoly_221 rfl ?_
    exact wa_pick [1, 0] rfl hF
  · replace hF := hF.2 hc
    refine wa_iload dX12_laysPoly_128 3 rfl ?_
    refine wa_aload_n dX12_laysPoly_130 0 rfl rfl ?_
    refine wa_getr (r := 145) dX12_laysPoly_131 fkX12_96 rfl rfl rfl ?_
    refine wa_bipush (v := 35) dX12_laysPoly_134 rfl ?_
    refine wa_iload_n dX12_laysPoly_136 1 rfl rfl ?_
    refine wa_iload dX12_laysPoly_137 4 rfl ?_
    refine wa_isub dX12_laysPoly_139 ?_
    refine wa_imul dX12_laysPoly_140 ?_
    refine wa_iload_n dX12_laysPoly_141 1 rfl rfl ?_
    refine wa_iadd dX12_laysPoly_142 ?_
    refine wa_iload dX12_laysPoly_143 4 rfl ?_
    refine wa_isub dX12_laysPoly_145 ?_
    refine wa_iconst (v := 1) dX12_laysPoly_146 rfl ?_
    refine wa_isub dX12_laysPoly_147 ?_
    obtain ⟨hi9, hF⟩ := hF
    refine wb_iald (j := ((((35 * (x1 - x5)) + x1) - x5) - 1).toNatClampNeg) (v := M 145 (((((35 * (x1 - x5)) + x1) - x5) - 1).toNatClampNeg)) dX12_laysPoly_148 rfl hi9 rfl rfl ?_
    refine wa_imul dX12_laysPoly_149 ?_
    refine wa_aload_n dX12_laysPoly_150 0 rfl rfl ?_
    refine wa_getr (r := 119) dX12_laysPoly_151 fkX12_7 rfl rfl rfl ?_
    refine wa_iconst (v := 2) dX12_laysPoly_154 rfl ?_
    refine wb_iald (j := 2) (v := M 119 2) dX12_laysPoly_155 rfl (by unfold vp_in; decide) rfl rfl ?_
    obtain ⟨hn9, hF⟩ := hF
    refine wa_irem dX12_laysPoly_156 hn9 ?_
    refine wa_istore (lv' := [(4, .int ((x4 * (M 145 (((((35 * (x1 - x5)) + x1) - x5) - 1).toNatClampNeg))) - (x4 * (M 145 (((((35 * (x1 - x5)) + x1) - x5) - 1).toNatClampNeg))) / (M 119 2) * (M 119 2))), (0, .ref 118), (1, .int x1), (2, .int x2), (5, .int x5)]) dX12_laysPoly_157 rfl rfl ?_
    refine wa_iload dX12_laysPoly_159 0 rfl ?_
    refine wa_aload_n dX12_laysPoly_161 1 rfl rfl ?_
    refine wa_getr (r := 145) dX12_laysPoly_162 fkX12_96 rfl rfl rfl ?_
    refine wa_bipush (v := 35) dX12_laysPoly_165 rfl ?_
    refine wa_iload_n dX12_laysPoly_167 2 rfl rfl ?_
    refine wa_iload dX12_laysPoly_168 4 rfl ?_
    refine wa_isub dX12_laysPoly_170 ?_
    refine wa_iconst (v := 1) dX12_laysPoly_171 rfl ?_
    refine wa_isub dX12_laysPoly_172 ?_
    refine wa_imul dX12_laysPoly_173 ?_
    refine wa_iload_n dX12_laysPoly_174 2 rfl rfl ?_
    refine wa_iadd dX12_laysPoly_175 ?_
    refine wa_iconst (v := 1) dX12_laysPoly_176 rfl ?_
    refine wa_isub dX12_laysPoly_177 ?_
    obtain ⟨hi9, hF⟩ := hF
    refine wb_iald (j := (((35 * ((x1 - x5) - 1)) + x1) - 1).toNatClampNeg) (v := M 145 ((((35 * ((x1 - x5) - 1)) + x1) - 1).toNatClampNeg)) dX12_laysPoly_178 rfl hi9 rfl rfl ?_
    refine wa_imul dX12_laysPoly_179 ?_
    refine wa_aload_n dX12_laysPoly_180 1 rfl rfl ?_
    refine wa_getr (r := 119) dX12_laysPoly_181 fkX12_7 rfl rfl rfl ?_
    refine wa_iconst (v := 2) dX12_laysPoly_184 rfl ?_
    refine wb_iald (j := 2) (v := M 119 2) dX12_laysPoly_185 rfl (by unfold vp_in; decide) rfl rfl ?_
    obtain ⟨hn9, hF⟩ := hF
    refine wa_irem dX12_laysPoly_186 hn9 ?_
    refine wa_istore (lv' := [(6, .int ((((x4 * (M 145 (((((35 * (x1 - x5)) + x1) - x5) - 1).toNatClampNeg))) - (x4 * (M 145 (((((35 * (x1 - x5)) + x1) - x5) - 1).toNatClampNeg))) / (M 119 2) * (M 119 2)) * (M 145 ((((35 * ((x1 - x5) - 1)) + x1) - 1).toNatClampNeg))) - (((x4 * (M 145 (((((35 * (x1 - x5)) + x1) - x5) - 1).toNatClampNeg))) - (x4 * (M 145 (((((35 * (x1 - x5)) + x1) - x5) - 1).toNatClampNeg))) / (M 119 2) * (M 119 2)) * (M 145 ((((35 * ((x1 - x5) - 1)) + x1) - 1).toNatClampNeg))) / (M 119 2) * (M 119 2))), (4, .int ((x4 * (M 145 (((((35 * (x1 - x5)) + x1) - x5) - 1).toNatClampNeg))) - (x4 * (M 145 (((((35 * (x1 - x5)) + x1) - x5) - 1).toNatClampNeg))) / (M 119 2) * (M 119 2))), (0, .ref 118), (1, .int x1), (2, .int x2), (5, .int x5)]) dX12_laysPoly_187 rfl rfl ?_
    refine wa_aload_n dX12_laysPoly_189 2 rfl rfl ?_
    refine wa_iload_n dX12_laysPoly_190 4 rfl rfl ?_
    refine wa_bipush (v := 36) dX12_laysPoly_191 rfl ?_
    refine wa_iload_n dX12_laysPoly_193 3 rfl rfl ?_
    refine wa_iload dX12_laysPoly_194 5 rfl ?_
    refine wa_isub dX12_laysPoly_196 ?_
    refine wa_iconst (v := 1) dX12_laysPoly_197 rfl ?_
    refine wa_isub dX12_laysPoly_198 ?_
    refine wa_imul dX12_laysPoly_199 ?_
    refine wa_aload_n dX12_laysPoly_200 2 rfl rfl ?_
    refine wa_getr (r := 119) dX12_laysPoly_201 fkX12_7 rfl rfl rfl ?_
    refine wa_iconst (v := 2) dX12_laysPoly_204 rfl ?_
    refine wb_iald (j := 2) (v := M 119 2) dX12_laysPoly_205 rfl (by unfold vp_in; decide) rfl rfl ?_
    refine wa_iload dX12_laysPoly_206 0 rfl ?_
    refine wa_isub dX12_laysPoly_208 ?_
    obtain ⟨Q1, hM9, hF⟩ := hF
    refine wa_callV [.int x2, .int (36 * ((x1 - x5) - 1)), .int ((M 119 2) - ((((x4 * (M 145 (((((35 * (x1 - x5)) + x1) - x5) - 1).toNatClampNeg))) - (x4 * (M 145 (((((35 * (x1 - x5)) + x1) - x5) - 1).toNatClampNeg))) / (M 119 2) * (M 119 2)) * (M 145 ((((35 * ((x1 - x5) - 1)) + x1) - 1).toNatClampNeg))) - (((x4 * (M 145 (((((35 * (x1 - x5)) + x1) - x5) - 1).toNatClampNeg))) - (x4 * (M 145 (((((35 * (x1 - x5)) + x1) - x5) - 1).toNatClampNeg))) / (M 119 2) * (M 119 2)) * (M 145 ((((35 * ((x1 - x5) - 1)) + x1) - 1).toNatClampNeg))) / (M 119 2) * (M 119 2)))] dX12_laysPoly_209 (mmX12_adds _ _) mlX12_368 mnX12_adds mseX12_adds rfl rfl rfl rfl (a_dlt d) rfl rfl hM9 ?_
    rintro r9 M1 P9 ⟨rfl, rfl, hq9⟩
    replace hF := hF M1 hq9
    simp only [Option.toList, List.nil_append]
    refine wa_iinc (v := x5 + 1) (lv' := [(5, .int (x5 + 1)), (6, .int ((((x4 * (M 145 (((((35 * (x1 - x5)) + x1) - x5) - 1).toNatClampNeg))) - (x4 * (M 145 (((((35 * (x1 - x5)) + x1) - x5) - 1).toNatClampNeg))) / (M 119 2) * (M 119 2)) * (M 145 ((((35 * ((x1 - x5) - 1)) + x1) - 1).toNatClampNeg))) - (((x4 * (M 145 (((((35 * (x1 - x5)) + x1) - x5) - 1).toNatClampNeg))) - (x4 * (M 145 (((((35 * (x1 - x5)) + x1) - x5) - 1).toNatClampNeg))) / (M 119 2) * (M 119 2)) * (M 145 ((((35 * ((x1 - x5) - 1)) + x1) - 1).toNatClampNeg))) / (M 119 2) * (M 119 2))), (4, .int ((x4 * (M 145 (((((35 * (x1 - x5)) + x1) - x5) - 1).toNatClampNeg))) - (x4 * (M 145 (((((35 * (x1 - x5)) + x1) - x5) - 1).toNatClampNeg))) / (M 119 2) * (M 119 2))), (0, .ref 118), (1, .int x1), (2, .int x2)]) dX12_laysPoly_212 5 rfl rfl rfl rfl ?_
    refine wa_goto (tgt := 122) dX12_laysPoly_215 rfl ?_
    exact wa_pick [3, 4, 5, 2, 0] rfl hF

theorem eX12_laysPoly {X : a_X} {ad : Nat → Nat} {ca : Nat → ClassId} {d : Nat} {Post : Option Value → a_M → a_P → Prop} {x : Nat} {M : a_M}  (h : WA X ad ca LY RX12 cX12_laysPoly 7 none d 0 0 (a_E X ad ca LY Post) 0 [(0, .ref 118)] [] M (PT x)) : Mt X ad ca LY d yX12_laysPoly cX12_laysPoly 7 none [.ref 118] M (PT x) Post := Mt.of (lv := [(0, .ref 118)]) (by decide +kernel) rfl rfl rfl (wa_pick [0] rfl h)

theorem bX12_adds_0 {X : a_X} {ad : Nat → Nat} {ca : Nat → ClassId} {d : Nat} {kc ks : Nat} {QF : List Frame → Array Value → State → State → Prop} {x : Nat} {M : a_M} (x1 : Int32) (x2 : Int32) (x3 : Int32)  (hF : WA X ad ca LY RX12 cX12_adds 5 none (d + 1) kc ks QF 3 [(0, .ref 118), (1, .int x1), (2, .int x2), (3, .int x3), (4, .int 0)] [] M (PT x)) : WA X ad ca LY RX12 cX12_adds 5 none (d + 1) kc ks QF 0 [(0, .ref 118), (1, .int x1), (2, .int x2), (3, .int x3)] [] M (PT x) := by
  refine wa_iconst (v := 0) dX12_adds_0 rfl ?_
  refine wa_istore (lv' := [(4, .int 0), (0, .ref 118), (1, .int x1), (2, .int x2), (3, .int x3)]) dX12_adds_1 rfl rfl ?_
  exact wa_pick [1, 2, 3, 4, 0] rfl hF

theorem bX12_adds_3 {X : a_X} {ad : Nat → Nat} {ca : Nat → ClassId} {d : Nat} {Post : Option Value → a_M → a_P → Prop} {x : Nat} {M : a_M} (x1 : Int32) (x2 : Int32) (x3 : Int32) (x4 : Int32)  (hF : ((36 ≤ x4 → Post none M (PT x)) ∧ (¬ 36 ≤ x4 → (vp_in (x1 + x4) 1296 ∧ (vp_in (x2 + x4) 1296 ∧ (¬ (M 119 2) = 0 ∧ (vp_in (x1 + x4) 1296 ∧ WA X ad ca LY RX12 cX12_adds 5 none (d + 1) 0 0 (a_E X ad ca LY Post) 3 [(0, .ref 118), (1, .int x1), (2, .int x2), (3, .int x3), (4, .int (x4 + 1))] [] (ms M 146 ((x1 + x4).toNatClampNeg) (((M 146 ((x1 + x4).toNatClampNeg)) + (x3 * (M 146 ((x2 + x4).toNatClampNeg)))) - ((M 146 ((x1 + x4).toNatClampNeg)) + (x3 * (M 146 ((x2 + x4).toNatClampNeg)))) / (M 119 2) * (M 119 2))) (PT x)))))))) : WA X ad ca LY RX12 cX12_adds 5 none (d + 1) 0 0 (a_E X ad ca LY Post) 3 [(0, .ref 118), (1, .int x1), (2, .int x2), (3, .int x3), (4, .int x4)] [] M (PT x) := by
  refine wa_iload dX12_adds_3 4 rfl ?_
  refine wa_bipush (v := 36) dX12_adds_5 rfl ?_
  refine wa_icmp_ge (tgt := 53) dX12_adds_7 rfl (fun hc => ?_) (fun hc => ?_)
  · replace hF := hF.1 hc
    exact wa_vret dX12_adds_53 rfl hF
  · replace hF := hF.2 hc
    refine wa_aload_n dX12_adds_10 0 rfl rfl ?_
    refine wa_getr (r := 146) dX12_adds_11 fkX12_99 rfl rfl rfl ?_
    refine wa_iload_n dX12_adds_14 1 rfl rfl ?_
    refine wa_iload dX12_adds_15 4 rfl ?_
    refine wa_iadd dX12_adds_17 ?_
    refine wa_aload_n dX12_adds_18 0 rfl rfl ?_
    refine wa_getr (r := 146) dX12_adds_19 fkX12_99 rfl rfl rfl ?_
    refine wa_iload_n dX12_adds_22 1 rfl rfl ?_
    refine wa_iload dX12_adds_23 4 rfl ?_
    refine wa_iadd dX12_adds_25 ?_
    obtain ⟨hi9, hF⟩ := hF
    refine wb_iald (j := (x1 + x4).toNatClampNeg) (v := M 146 ((x1 + x4).toNatClampNeg)) dX12_adds_26 rfl hi9 rfl rfl ?_
    refine wa_iload_n dX12_adds_27 3 rfl rfl ?_
    refine wa_aload_n dX12_adds_28 0 rfl rfl ?_
    refine wa_getr (r := 146) dX12_adds_29 fkX12_99 rfl rfl rfl ?_
    refine wa_iload_n dX12_adds_32 2 rfl rfl ?_
    refine wa_iload dX12_adds_33 4 rfl ?_
    refine wa_iadd dX12_adds_35 ?_
    obtain ⟨hi9, hF⟩ := hF
    refine wb_iald (j := (x2 + x4).toNatClampNeg) (v := M 146 ((x2 + x4).toNatClampNeg)) dX12_adds_36 rfl hi9 rfl rfl ?_
    refine wa_imul dX12_adds_37 ?_
    refine wa_iadd dX12_adds_38 ?_
    refine wa_aload_n dX12_adds_39 0 rfl rfl ?_
    refine wa_getr (r := 119) dX12_adds_40 fkX12_7 rfl rfl rfl ?_
    refine wa_iconst (v := 2) dX12_adds_43 rfl ?_
    refine wb_iald (j := 2) (v := M 119 2) dX12_adds_44 rfl (by unfold vp_in; decide) rfl rfl ?_
    obtain ⟨hn9, hF⟩ := hF
    refine wa_irem dX12_adds_45 hn9 ?_
    obtain ⟨hi9, hF⟩ := hF
    refine wb_iast (j := (x1 + x4).toNatClampNeg) dX12_adds_46 rfl hi9 rfl ?_
    refine wa_iinc (v := x4 + 1) (lv' := [(4, .int (x4 + 1)), (0, .ref 118), (1, .int x1), (2, .int x2), (3, .int x3)]) dX12_adds_47 4 rfl rfl rfl rfl ?_
    refine wa_goto (tgt := 3) dX12_adds_50 rfl ?_
    exact wa_pick [1, 2, 3, 4, 0] rfl hF

theorem eX12_adds {X : a_X} {ad : Nat → Nat} {ca : Nat → ClassId} {d : Nat} {Post : Option Value → a_M → a_P → Prop} {x : Nat} {M : a_M} (x1 : Int32) (x2 : Int32) (x3 : Int32) (h : WA X ad ca LY RX12 cX12_adds 5 none d 0 0 (a_E X ad ca LY Post) 0 [(0, .ref 118), (1, .int x1), (2, .int x2), (3, .int x3)] [] M (PT x)) : Mt X ad ca LY d yX12_adds cX12_adds 5 none [.ref 118, .int x1, .int x2, .int x3] M (PT x) Post := Mt.of (lv := [(0, .ref 118), (1, .int x1), (2, .int x2), (3, .int x3)]) (by decide +kernel) rfl rfl rfl (wa_pick [0, 1, 2, 3] rfl h)

theorem bX12_size_0 {X : a_X} {ad : Nat → Nat} {ca : Nat → ClassId} {d : Nat} {kc ks : Nat} {QF : List Frame → Array Value → State → State → Prop} {x : Nat} {M : a_M} (x1 : Int32) (x2 : Int32)  (hF : (∃ Q1 : Int32 → a_M → Prop, Mt X ad ca LY d yX12_isSector cX12_isSector 2 (some FieldType.boolean) [.ref 118, .int x1] M (PT x) (q_i (PT x) Q1) ∧ ∀ v1 M1, Q1 v1 M1 → ((v1 = 0 → WA X ad ca LY RX12 cX12_size 3 (some FieldType.int) (d + 1) kc ks QF 21 [] [] M1 (PT x)) ∧ (¬ v1 = 0 → ((x2 = (-1) → WA X ad ca LY RX12 cX12_size 3 (some FieldType.int) (d + 1) kc ks QF 23 [(0, .ref 118), (1, .int x1), (2, .int x2)] [] M1 (PT x)) ∧ (¬ x2 = (-1) → (∃ Q2 : Int32 → a_M → Prop, Mt X ad ca LY d yX12_isTurn cX12_isTurn 2 (some FieldType.boolean) [.ref 118, .int x2] M1 (PT x) (q_i (PT x) Q2) ∧ ∀ v2 M2, Q2 v2 M2 → ((¬ v2 = 0 → WA X ad ca LY RX12 cX12_size 3 (some FieldType.int) (d + 1) kc ks QF 23 [(0, .ref 118), (1, .int x1), (2, .int x2)] [] M2 (PT x)) ∧ (v2 = 0 → WA X ad ca LY RX12 cX12_size 3 (some FieldType.int) (d + 1) kc ks QF 21 [] [] M2 (PT x)))))))))) : WA X ad ca LY RX12 cX12_size 3 (some FieldType.int) (d + 1) kc ks QF 0 [(0, .ref 118), (1, .int x1), (2, .int x2)] [] M (PT x) := by
  refine wa_aload_n dX12_size_0 0 rfl rfl ?_
  refine wa_iload_n dX12_size_1 1 rfl rfl ?_
  obtain ⟨Q1, hM9, hF⟩ := hF
  refine wa_callV [.int x1] dX12_size_2 (mmX12_isSector _ _) mlX12_371 mnX12_isSector mseX12_isSector rfl rfl rfl rfl (a_dlt d) rfl rfl hM9 ?_
  rintro r9 M1 P9 ⟨v1, rfl, rfl, hq9⟩
  replace hF := hF v1 M1 hq9
  simp only [Option.toList, List.cons_append, List.nil_append]
  refine wa_if_eq (tgt := 21) dX12_size_5 rfl (fun hc => ?_) (fun hc => ?_)
  · replace hF := hF.1 hc
    exact wa_pick [] rfl hF
  · replace hF := hF.2 hc
    refine wa_iload_n dX12_size_8 2 rfl rfl ?_
    refine wa_iconst (v := (-1)) dX12_size_9 rfl ?_
    refine wa_icmp_eq (tgt := 23) dX12_size_10 rfl (fun hc => ?_) (fun hc => ?_)
    · replace hF := hF.1 hc
      exact hF
    · replace hF := hF.2 hc
      refine wa_aload_n dX12_size_13 0 rfl rfl ?_
      refine wa_iload_n dX12_size_14 2 rfl rfl ?_
      obtain ⟨Q2, hM9, hF⟩ := hF
      refine wa_callV [.int x2] dX12_size_15 (mmX12_isTurn _ _) mlX12_374 mnX12_isTurn mseX12_isTurn rfl rfl rfl rfl (a_dlt d) rfl rfl hM9 ?_
      rintro r9 M2 P9 ⟨v2, rfl, rfl, hq9⟩
      replace hF := hF v2 M2 hq9
      simp only [Option.toList, List.cons_append, List.nil_append]
      refine wa_if_ne (tgt := 23) dX12_size_18 rfl (fun hc => ?_) (fun hc => ?_)
      · replace hF := hF.1 hc
        exact hF
      · replace hF := hF.2 hc
        exact wa_pick [] rfl hF

theorem bX12_size_21 {X : a_X} {ad : Nat → Nat} {ca : Nat → ClassId} {d : Nat} {Post : Option Value → a_M → a_P → Prop} {x : Nat} {M : a_M}   (hF : Post (some (.int (-1))) M (PT x)) : WA X ad ca LY RX12 cX12_size 3 (some FieldType.int) (d + 1) 0 0 (a_E X ad ca LY Post) 21 [] [] M (PT x) := by
  refine wa_iconst (v := (-1)) dX12_size_21 rfl ?_
  exact wa_iret dX12_size_22 rfl rfl hF

theorem bX12_size_23 {X : a_X} {ad : Nat → Nat} {ca : Nat → ClassId} {d : Nat} {kc ks : Nat} {QF : List Frame → Array Value → State → State → Prop} {x : Nat} {M : a_M} (x1 : Int32) (x2 : Int32)  (hF : ((¬ x2 = (-1) → (∃ Q1 : a_M → Prop, Mt X ad ca LY d yX12_laysRounds cX12_laysRounds 4 none [.ref 118, .int x1, .int x2] M (PT x) (q_v (PT x) Q1) ∧ ∀ M1, Q1 M1 → WA X ad ca LY RX12 cX12_size 3 (some FieldType.int) (d + 1) kc ks QF 42 [(0, .ref 118)] [] M1 (PT x))) ∧ (x2 = (-1) → (∃ Q2 : a_M → Prop, Mt X ad ca LY d yX12_laysSector cX12_laysSector 3 none [.ref 118, .int x1] M (PT x) (q_v (PT x) Q2) ∧ ∀ M2, Q2 M2 → WA X ad ca LY RX12 cX12_size 3 (some FieldType.int) (d + 1) kc ks QF 42 [(0, .ref 118)] [] M2 (PT x))))) : WA X ad ca LY RX12 cX12_size 3 (some FieldType.int) (d + 1) kc ks QF 23 [(0, .ref 118), (1, .int x1), (2, .int x2)] [] M (PT x) := by
  refine wa_iload_n dX12_size_23 2 rfl rfl ?_
  refine wa_iconst (v := (-1)) dX12_size_24 rfl ?_
  refine wa_icmp_ne (tgt := 36) dX12_size_25 rfl (fun hc => ?_) (fun hc => ?_)
  · replace hF := hF.1 hc
    refine wa_aload_n dX12_size_36 0 rfl rfl ?_
    refine wa_iload_n dX12_size_37 1 rfl rfl ?_
    refine wa_iload_n dX12_size_38 2 rfl rfl ?_
    obtain ⟨Q1, hM9, hF⟩ := hF
    refine wa_callV [.int x1, .int x2] dX12_size_39 (mmX12_laysRounds _ _) mlX12_354 mnX12_laysRounds mseX12_laysRounds rfl rfl rfl rfl (a_dlt d) rfl rfl hM9 ?_
    rintro r9 M1 P9 ⟨rfl, rfl, hq9⟩
    replace hF := hF M1 hq9
    simp only [Option.toList, List.nil_append]
    exact wa_pick [0] rfl hF
  · replace hF := hF.2 hc
    refine wa_aload_n dX12_size_28 0 rfl rfl ?_
    refine wa_iload_n dX12_size_29 1 rfl rfl ?_
    obtain ⟨Q2, hM9, hF⟩ := hF
    refine wa_callV [.int x1] dX12_size_30 (mmX12_laysSector _ _) mlX12_339 mnX12_laysSector mseX12_laysSector rfl rfl rfl rfl (a_dlt d) rfl rfl hM9 ?_
    rintro r9 M2 P9 ⟨rfl, rfl, hq9⟩
    replace hF := hF M2 hq9
    simp only [Option.toList, List.nil_append]
    refine wa_goto (tgt := 42) dX12_size_33 rfl ?_
    exact wa_pick [0] rfl hF

theorem bX12_size_42 {X : a_X} {ad : Nat → Nat} {ca : Nat → ClassId} {d : Nat} {Post : Option Value → a_M → a_P → Prop} {x : Nat} {M : a_M}   (hF : Post (some (.int (M 118 44))) M (PT x)) : WA X ad ca LY RX12 cX12_size 3 (some FieldType.int) (d + 1) 0 0 (a_E X ad ca LY Post) 42 [(0, .ref 118)] [] M (PT x) := by
  refine wa_aload_n dX12_size_42 0 rfl rfl ?_
  refine wb_geti (v := M 118 44) dX12_size_43 fkX12_333 rfl rfl rfl ?_
  exact wa_iret dX12_size_46 rfl rfl hF

theorem eX12_size {X : a_X} {ad : Nat → Nat} {ca : Nat → ClassId} {d : Nat} {Post : Option Value → a_M → a_P → Prop} {x : Nat} {M : a_M} (x1 : Int32) (x2 : Int32) (h : WA X ad ca LY RX12 cX12_size 3 (some FieldType.int) d 0 0 (a_E X ad ca LY Post) 0 [(0, .ref 118), (1, .int x1), (2, .int x2)] [] M (PT x)) : Mt X ad ca LY d yX12_size cX12_size 3 (some FieldType.int) [.ref 118, .int x1, .int x2] M (PT x) Post := Mt.of (lv := [(0, .ref 118), (1, .int x1), (2, .int x2)]) (by decide +kernel) rfl rfl rfl (wa_pick [0, 1, 2] rfl h)

theorem bX12_trace_0 {X : a_X} {ad : Nat → Nat} {ca : Nat → ClassId} {d : Nat} {kc ks : Nat} {QF : List Frame → Array Value → State → State → Prop} {x : Nat} {M : a_M} (x1 : Int32) (x2 : Int32)  (hF : (∃ Q1 : Int32 → a_M → Prop, Mt X ad ca LY d yX12_isSector cX12_isSector 2 (some FieldType.boolean) [.ref 118, .int x1] M (PT x) (q_i (PT x) Q1) ∧ ∀ v1 M1, Q1 v1 M1 → ((v1 = 0 → WA X ad ca LY RX12 cX12_trace 6 (some FieldType.int) (d + 1) kc ks QF 18 [] [] M1 (PT x)) ∧ (¬ v1 = 0 → (∃ Q2 : Int32 → a_M → Prop, Mt X ad ca LY d yX12_in cX12_in 3 (some FieldType.boolean) [.int x2, .int 0, .int 99] M1 (PT x) (q_i (PT x) Q2) ∧ ∀ v2 M2, Q2 v2 M2 → ((¬ v2 = 0 → (∃ Q3 : a_M → Prop, Mt X ad ca LY d yX12_laysSector cX12_laysSector 3 none [.ref 118, .int x1] M2 (PT x) (q_v (PT x) Q3) ∧ ∀ M3, Q3 M3 → WA X ad ca LY RX12 cX12_trace 6 (some FieldType.int) (d + 1) kc ks QF 30 [(0, .ref 118), (2, .int x2), (3, .int 0), (4, .int 0)] [] M3 (PT x))) ∧ (v2 = 0 → WA X ad ca LY RX12 cX12_trace 6 (some FieldType.int) (d + 1) kc ks QF 18 [] [] M2 (PT x)))))))) : WA X ad ca LY RX12 cX12_trace 6 (some FieldType.int) (d + 1) kc ks QF 0 [(0, .ref 118), (1, .int x1), (2, .int x2)] [] M (PT x) := by
  refine wa_aload_n dX12_trace_0 0 rfl rfl ?_
  refine wa_iload_n dX12_trace_1 1 rfl rfl ?_
  obtain ⟨Q1, hM9, hF⟩ := hF
  refine wa_callV [.int x1] dX12_trace_2 (mmX12_isSector _ _) mlX12_371 mnX12_isSector mseX12_isSector rfl rfl rfl rfl (a_dlt d) rfl rfl hM9 ?_
  rintro r9 M1 P9 ⟨v1, rfl, rfl, hq9⟩
  replace hF := hF v1 M1 hq9
  simp only [Option.toList, List.cons_append, List.nil_append]
  refine wa_if_eq (tgt := 18) dX12_trace_5 rfl (fun hc => ?_) (fun hc => ?_)
  · replace hF := hF.1 hc
    exact wa_pick [] rfl hF
  · replace hF := hF.2 hc
    refine wa_iload_n dX12_trace_8 2 rfl rfl ?_
    refine wa_iconst (v := 0) dX12_trace_9 rfl ?_
    refine wa_bipush (v := 99) dX12_trace_10 rfl ?_
    obtain ⟨Q2, hM9, hF⟩ := hF
    refine wa_callS [.int x2, .int 0, .int 99] dX12_trace_12 (mmX12_in _ _) mlX12_124 mstX12_in rfl (a_dlt d) rfl rfl hM9 ?_
    rintro r9 M2 P9 ⟨v2, rfl, rfl, hq9⟩
    replace hF := hF v2 M2 hq9
    simp only [Option.toList, List.cons_append, List.nil_append]
    refine wa_if_ne (tgt := 20) dX12_trace_15 rfl (fun hc => ?_) (fun hc => ?_)
    · replace hF := hF.1 hc
      refine wa_aload_n dX12_trace_20 0 rfl rfl ?_
      refine wa_iload_n dX12_trace_21 1 rfl rfl ?_
      obtain ⟨Q3, hM9, hF⟩ := hF
      refine wa_callV [.int x1] dX12_trace_22 (mmX12_laysSector _ _) mlX12_339 mnX12_laysSector mseX12_laysSector rfl rfl rfl rfl (a_dlt d) rfl rfl hM9 ?_
      rintro r9 M3 P9 ⟨rfl, rfl, hq9⟩
      replace hF := hF M3 hq9
      simp only [Option.toList, List.nil_append]
      refine wa_iconst (v := 0) dX12_trace_25 rfl ?_
      refine wa_istore_n (lv' := [(3, .int 0), (0, .ref 118), (1, .int x1), (2, .int x2)]) dX12_trace_26 rfl rfl rfl ?_
      refine wa_iconst (v := 0) dX12_trace_27 rfl ?_
      refine wa_istore (lv' := [(4, .int 0), (3, .int 0), (0, .ref 118), (1, .int x1), (2, .int x2)]) dX12_trace_28 rfl rfl ?_
      exact wa_pick [2, 4, 1, 0] rfl hF
    · replace hF := hF.2 hc
      exact wa_pick [] rfl hF

theorem bX12_trace_18 {X : a_X} {ad : Nat → Nat} {ca : Nat → ClassId} {d : Nat} {Post : Option Value → a_M → a_P → Prop} {x : Nat} {M : a_M}   (hF : Post (some (.int (-1))) M (PT x)) : WA X ad ca LY RX12 cX12_trace 6 (some FieldType.int) (d + 1) 0 0 (a_E X ad ca LY Post) 18 [] [] M (PT x) := by
  refine wa_iconst (v := (-1)) dX12_trace_18 rfl ?_
  exact wa_iret dX12_trace_19 rfl rfl hF

theorem bX12_trace_30 {X : a_X} {ad : Nat → Nat} {ca : Nat → ClassId} {d : Nat} {Post : Option Value → a_M → a_P → Prop} {x : Nat} {M : a_M} (x2 : Int32) (x3 : Int32) (x4 : Int32)  (hF : (((M 118 44) ≤ x4 → Post (some (.int x3)) M (PT x)) ∧ (¬ (M 118 44) ≤ x4 → (vp_in x4 35 ∧ (∃ Q1 : a_M → Prop, Mt X ad ca LY d yX12_actedIs cX12_actedIs 3 none [.ref 118, .int (M 143 x4.toNatClampNeg)] M (PT x) (q_v (PT x) Q1) ∧ ∀ M1, Q1 M1 → WA X ad ca LY RX12 cX12_trace 6 (some FieldType.int) (d + 1) 0 0 (a_E X ad ca LY Post) 53 [(0, .ref 118), (2, .int x2), (3, .int x3), (4, .int x4), (5, .int 0)] [] M1 (PT x)))))) : WA X ad ca LY RX12 cX12_trace 6 (some FieldType.int) (d + 1) 0 0 (a_E X ad ca LY Post) 30 [(0, .ref 118), (2, .int x2), (3, .int x3), (4, .int x4)] [] M (PT x) := by
  refine wa_iload dX12_trace_30 3 rfl ?_
  refine wa_aload_n dX12_trace_32 0 rfl rfl ?_
  refine wb_geti (v := M 118 44) dX12_trace_33 fkX12_333 rfl rfl rfl ?_
  refine wa_icmp_ge (tgt := 97) dX12_trace_36 rfl (fun hc => ?_) (fun hc => ?_)
  · replace hF := hF.1 hc
    refine wa_iload_n dX12_trace_97 2 rfl rfl ?_
    exact wa_iret dX12_trace_98 rfl rfl hF
  · replace hF := hF.2 hc
    refine wa_aload_n dX12_trace_39 0 rfl rfl ?_
    refine wa_aload_n dX12_trace_40 0 rfl rfl ?_
    refine wa_getr (r := 143) dX12_trace_41 fkX12_90 rfl rfl rfl ?_
    refine wa_iload dX12_trace_44 3 rfl ?_
    obtain ⟨hi9, hF⟩ := hF
    refine wb_iald (j := x4.toNatClampNeg) (v := M 143 x4.toNatClampNeg) dX12_trace_46 rfl hi9 rfl rfl ?_
    obtain ⟨Q1, hM9, hF⟩ := hF
    refine wa_callV [.int (M 143 x4.toNatClampNeg)] dX12_trace_47 (mmX12_actedIs _ _) mlX12_317 mnX12_actedIs mseX12_actedIs rfl rfl rfl rfl (a_dlt d) rfl rfl hM9 ?_
    rintro r9 M1 P9 ⟨rfl, rfl, hq9⟩
    replace hF := hF M1 hq9
    simp only [Option.toList, List.nil_append]
    refine wa_iconst (v := 0) dX12_trace_50 rfl ?_
    refine wa_istore (lv' := [(5, .int 0), (0, .ref 118), (2, .int x2), (3, .int x3), (4, .int x4)]) dX12_trace_51 rfl rfl ?_
    exact wa_pick [1, 2, 3, 4, 0] rfl hF

theorem bX12_trace_53 {X : a_X} {ad : Nat → Nat} {ca : Nat → ClassId} {d : Nat} {kc ks : Nat} {QF : List Frame → Array Value → State → State → Prop} {x : Nat} {M : a_M} (x2 : Int32) (x3 : Int32) (x4 : Int32) (x5 : Int32)  (hF : ((x2 ≤ x5 → (vp_in x4 35 ∧ (vp_in (M 143 x4.toNatClampNeg) 128 ∧ (¬ (M 119 2) = 0 ∧ WA X ad ca LY RX12 cX12_trace 6 (some FieldType.int) (d + 1) kc ks QF 30 [(0, .ref 118), (2, .int x2), (3, .int ((x3 + (M 140 ((M 143 x4.toNatClampNeg).toNatClampNeg))) - (x3 + (M 140 ((M 143 x4.toNatClampNeg).toNatClampNeg))) / (M 119 2) * (M 119 2))), (4, .int (x4 + 1))] [] M (PT x))))) ∧ (¬ x2 ≤ x5 → (∃ Q1 : a_M → Prop, Mt X ad ca LY d yX12_sums cX12_sums 1 none [.ref 118] M (PT x) (q_v (PT x) Q1) ∧ ∀ M1, Q1 M1 → WA X ad ca LY RX12 cX12_trace 6 (some FieldType.int) (d + 1) kc ks QF 53 [(0, .ref 118), (2, .int x2), (3, .int x3), (4, .int x4), (5, .int (x5 + 1))] [] M1 (PT x))))) : WA X ad ca LY RX12 cX12_trace 6 (some FieldType.int) (d + 1) kc ks QF 53 [(0, .ref 118), (2, .int x2), (3, .int x3), (4, .int x4), (5, .int x5)] [] M (PT x) := by
  refine wa_iload dX12_trace_53 4 rfl ?_
  refine wa_iload_n dX12_trace_55 1 rfl rfl ?_
  refine wa_icmp_ge (tgt := 69) dX12_trace_56 rfl (fun hc => ?_) (fun hc => ?_)
  · replace hF := hF.1 hc
    refine wa_iload_n dX12_trace_69 2 rfl rfl ?_
    refine wa_aload_n dX12_trace_70 0 rfl rfl ?_
    refine wa_getr (r := 140) dX12_trace_71 fkX12_81 rfl rfl rfl ?_
    refine wa_aload_n dX12_trace_74 0 rfl rfl ?_
    refine wa_getr (r := 143) dX12_trace_75 fkX12_90 rfl rfl rfl ?_
    refine wa_iload dX12_trace_78 3 rfl ?_
    obtain ⟨hi9, hF⟩ := hF
    refine wb_iald (j := x4.toNatClampNeg) (v := M 143 x4.toNatClampNeg) dX12_trace_80 rfl hi9 rfl rfl ?_
    obtain ⟨hi9, hF⟩ := hF
    refine wb_iald (j := (M 143 x4.toNatClampNeg).toNatClampNeg) (v := M 140 ((M 143 x4.toNatClampNeg).toNatClampNeg)) dX12_trace_81 rfl hi9 rfl rfl ?_
    refine wa_iadd dX12_trace_82 ?_
    refine wa_aload_n dX12_trace_83 0 rfl rfl ?_
    refine wa_getr (r := 119) dX12_trace_84 fkX12_7 rfl rfl rfl ?_
    refine wa_iconst (v := 2) dX12_trace_87 rfl ?_
    refine wb_iald (j := 2) (v := M 119 2) dX12_trace_88 rfl (by unfold vp_in; decide) rfl rfl ?_
    obtain ⟨hn9, hF⟩ := hF
    refine wa_irem dX12_trace_89 hn9 ?_
    refine wa_istore_n (lv' := [(3, .int ((x3 + (M 140 ((M 143 x4.toNatClampNeg).toNatClampNeg))) - (x3 + (M 140 ((M 143 x4.toNatClampNeg).toNatClampNeg))) / (M 119 2) * (M 119 2))), (0, .ref 118), (2, .int x2), (4, .int x4), (5, .int x5)]) dX12_trace_90 rfl rfl rfl ?_
    refine wa_iinc (v := x4 + 1) (lv' := [(4, .int (x4 + 1)), (3, .int ((x3 + (M 140 ((M 143 x4.toNatClampNeg).toNatClampNeg))) - (x3 + (M 140 ((M 143 x4.toNatClampNeg).toNatClampNeg))) / (M 119 2) * (M 119 2))), (0, .ref 118), (2, .int x2), (5, .int x5)]) dX12_trace_91 3 rfl rfl rfl rfl ?_
    refine wa_goto (tgt := 30) dX12_trace_94 rfl ?_
    exact wa_pick [2, 3, 1, 0] rfl hF
  · replace hF := hF.2 hc
    refine wa_aload_n dX12_trace_59 0 rfl rfl ?_
    obtain ⟨Q1, hM9, hF⟩ := hF
    refine wa_callV [] dX12_trace_60 (mmX12_sums _ _) mlX12_320 mnX12_sums mseX12_sums rfl rfl rfl rfl (a_dlt d) rfl rfl hM9 ?_
    rintro r9 M1 P9 ⟨rfl, rfl, hq9⟩
    replace hF := hF M1 hq9
    simp only [Option.toList, List.nil_append]
    refine wa_iinc (v := x5 + 1) (lv' := [(5, .int (x5 + 1)), (0, .ref 118), (2, .int x2), (3, .int x3), (4, .int x4)]) dX12_trace_63 4 rfl rfl rfl rfl ?_
    refine wa_goto (tgt := 53) dX12_trace_66 rfl ?_
    exact wa_pick [1, 2, 3, 4, 0] rfl hF

theorem eX12_trace {X : a_X} {ad : Nat → Nat} {ca : Nat → ClassId} {d : Nat} {Post : Option Value → a_M → a_P → Prop} {x : Nat} {M : a_M} (x1 : Int32) (x2 : Int32) (h : WA X ad ca LY RX12 cX12_trace 6 (some FieldType.int) d 0 0 (a_E X ad ca LY Post) 0 [(0, .ref 118), (1, .int x1), (2, .int x2)] [] M (PT x)) : Mt X ad ca LY d yX12_trace cX12_trace 6 (some FieldType.int) [.ref 118, .int x1, .int x2] M (PT x) Post := Mt.of (lv := [(0, .ref 118), (1, .int x1), (2, .int x2)]) (by decide +kernel) rfl rfl rfl (wa_pick [0, 1, 2] rfl h)

theorem bX12_poly_0 {X : a_X} {ad : Nat → Nat} {ca : Nat → ClassId} {d : Nat} {kc ks : Nat} {QF : List Frame → Array Value → State → State → Prop} {x : Nat} {M : a_M} (x1 : Int32) (x2 : Int32) (x3 : Int32)  (hF : (∃ Q1 : Int32 → a_M → Prop, Mt X ad ca LY d yX12_isSector cX12_isSector 2 (some FieldType.boolean) [.ref 118, .int x1] M (PT x) (q_i (PT x) Q1) ∧ ∀ v1 M1, Q1 v1 M1 → ((v1 = 0 → WA X ad ca LY RX12 cX12_poly 4 (some FieldType.int) (d + 1) kc ks QF 30 [] [] M1 (PT x)) ∧ (¬ v1 = 0 → ((x2 = (-1) → WA X ad ca LY RX12 cX12_poly 4 (some FieldType.int) (d + 1) kc ks QF 32 [(0, .ref 118), (1, .int x1), (2, .int x2), (3, .int x3)] [] M1 (PT x)) ∧ (¬ x2 = (-1) → (∃ Q2 : Int32 → a_M → Prop, Mt X ad ca LY d yX12_isTurn cX12_isTurn 2 (some FieldType.boolean) [.ref 118, .int x2] M1 (PT x) (q_i (PT x) Q2) ∧ ∀ v2 M2, Q2 v2 M2 → ((v2 = 0 → WA X ad ca LY RX12 cX12_poly 4 (some FieldType.int) (d + 1) kc ks QF 30 [] [] M2 (PT x)) ∧ (¬ v2 = 0 → ((¬ (M2 119 1) = 0 → WA X ad ca LY RX12 cX12_poly 4 (some FieldType.int) (d + 1) kc ks QF 32 [(0, .ref 118), (1, .int x1), (2, .int x2), (3, .int x3)] [] M2 (PT x)) ∧ ((M2 119 1) = 0 → WA X ad ca LY RX12 cX12_poly 4 (some FieldType.int) (d + 1) kc ks QF 30 [] [] M2 (PT x)))))))))))) : WA X ad ca LY RX12 cX12_poly 4 (some FieldType.int) (d + 1) kc ks QF 0 [(0, .ref 118), (1, .int x1), (2, .int x2), (3, .int x3)] [] M (PT x) := by
  refine wa_aload_n dX12_poly_0 0 rfl rfl ?_
  refine wa_iload_n dX12_poly_1 1 rfl rfl ?_
  obtain ⟨Q1, hM9, hF⟩ := hF
  refine wa_callV [.int x1] dX12_poly_2 (mmX12_isSector _ _) mlX12_371 mnX12_isSector mseX12_isSector rfl rfl rfl rfl (a_dlt d) rfl rfl hM9 ?_
  rintro r9 M1 P9 ⟨v1, rfl, rfl, hq9⟩
  replace hF := hF v1 M1 hq9
  simp only [Option.toList, List.cons_append, List.nil_append]
  refine wa_if_eq (tgt := 30) dX12_poly_5 rfl (fun hc => ?_) (fun hc => ?_)
  · replace hF := hF.1 hc
    exact wa_pick [] rfl hF
  · replace hF := hF.2 hc
    refine wa_iload_n dX12_poly_8 2 rfl rfl ?_
    refine wa_iconst (v := (-1)) dX12_poly_9 rfl ?_
    refine wa_icmp_eq (tgt := 32) dX12_poly_10 rfl (fun hc => ?_) (fun hc => ?_)
    · replace hF := hF.1 hc
      exact hF
    · replace hF := hF.2 hc
      refine wa_aload_n dX12_poly_13 0 rfl rfl ?_
      refine wa_iload_n dX12_poly_14 2 rfl rfl ?_
      obtain ⟨Q2, hM9, hF⟩ := hF
      refine wa_callV [.int x2] dX12_poly_15 (mmX12_isTurn _ _) mlX12_374 mnX12_isTurn mseX12_isTurn rfl rfl rfl rfl (a_dlt d) rfl rfl hM9 ?_
      rintro r9 M2 P9 ⟨v2, rfl, rfl, hq9⟩
      replace hF := hF v2 M2 hq9
      simp only [Option.toList, List.cons_append, List.nil_append]
      refine wa_if_eq (tgt := 30) dX12_poly_18 rfl (fun hc => ?_) (fun hc => ?_)
      · replace hF := hF.1 hc
        exact wa_pick [] rfl hF
      · replace hF := hF.2 hc
        refine wa_aload_n dX12_poly_21 0 rfl rfl ?_
        refine wa_getr (r := 119) dX12_poly_22 fkX12_7 rfl rfl rfl ?_
        refine wa_iconst (v := 1) dX12_poly_25 rfl ?_
        refine wb_iald (j := 1) (v := M2 119 1) dX12_poly_26 rfl (by unfold vp_in; decide) rfl rfl ?_
        refine wa_if_ne (tgt := 32) dX12_poly_27 rfl (fun hc => ?_) (fun hc => ?_)
        · replace hF := hF.1 hc
          exact hF
        · replace hF := hF.2 hc
          exact wa_pick [] rfl hF

theorem bX12_poly_30 {X : a_X} {ad : Nat → Nat} {ca : Nat → ClassId} {d : Nat} {Post : Option Value → a_M → a_P → Prop} {x : Nat} {M : a_M}   (hF : Post (some (.int (-1))) M (PT x)) : WA X ad ca LY RX12 cX12_poly 4 (some FieldType.int) (d + 1) 0 0 (a_E X ad ca LY Post) 30 [] [] M (PT x) := by
  refine wa_iconst (v := (-1)) dX12_poly_30 rfl ?_
  exact wa_iret dX12_poly_31 rfl rfl hF

theorem bX12_poly_32 {X : a_X} {ad : Nat → Nat} {ca : Nat → ClassId} {d : Nat} {kc ks : Nat} {QF : List Frame → Array Value → State → State → Prop} {x : Nat} {M : a_M} (x1 : Int32) (x2 : Int32) (x3 : Int32)  (hF : ((¬ x2 = (-1) → (∃ Q1 : a_M → Prop, Mt X ad ca LY d yX12_laysTurn cX12_laysTurn 10 none [.ref 118, .int x1, .int x2] M (PT x) (q_v (PT x) Q1) ∧ ∀ M1, Q1 M1 → WA X ad ca LY RX12 cX12_poly 4 (some FieldType.int) (d + 1) kc ks QF 72 [(0, .ref 118), (3, .int x3)] [] M1 (PT x))) ∧ (x2 = (-1) → ((¬ (M 119 1) = 1 → (∃ Q2 : a_M → Prop, Mt X ad ca LY d yX12_laysSquare cX12_laysSquare 6 none [.ref 118, .int x1, .int (M 119 4), .int 0] M (PT x) (q_v (PT x) Q2) ∧ ∀ M2, Q2 M2 → WA X ad ca LY RX12 cX12_poly 4 (some FieldType.int) (d + 1) kc ks QF 72 [(0, .ref 118), (3, .int x3)] [] M2 (PT x))) ∧ ((M 119 1) = 1 → (∃ Q3 : a_M → Prop, Mt X ad ca LY d yX12_laysSquare cX12_laysSquare 6 none [.ref 118, .int x1, .int (M 119 4), .int 1] M (PT x) (q_v (PT x) Q3) ∧ ∀ M3, Q3 M3 → WA X ad ca LY RX12 cX12_poly 4 (some FieldType.int) (d + 1) kc ks QF 72 [(0, .ref 118), (3, .int x3)] [] M3 (PT x))))))) : WA X ad ca LY RX12 cX12_poly 4 (some FieldType.int) (d + 1) kc ks QF 32 [(0, .ref 118), (1, .int x1), (2, .int x2), (3, .int x3)] [] M (PT x) := by
  refine wa_iload_n dX12_poly_32 2 rfl rfl ?_
  refine wa_iconst (v := (-1)) dX12_poly_33 rfl ?_
  refine wa_icmp_ne (tgt := 66) dX12_poly_34 rfl (fun hc => ?_) (fun hc => ?_)
  · replace hF := hF.1 hc
    refine wa_aload_n dX12_poly_66 0 rfl rfl ?_
    refine wa_iload_n dX12_poly_67 1 rfl rfl ?_
    refine wa_iload_n dX12_poly_68 2 rfl rfl ?_
    obtain ⟨Q1, hM9, hF⟩ := hF
    refine wa_callV [.int x1, .int x2] dX12_poly_69 (mmX12_laysTurn _ _) mlX12_381 mnX12_laysTurn mseX12_laysTurn rfl rfl rfl rfl (a_dlt d) rfl rfl hM9 ?_
    rintro r9 M1 P9 ⟨rfl, rfl, hq9⟩
    replace hF := hF M1 hq9
    simp only [Option.toList, List.nil_append]
    exact wa_pick [0, 3] rfl hF
  · replace hF := hF.2 hc
    refine wa_aload_n dX12_poly_37 0 rfl rfl ?_
    refine wa_iload_n dX12_poly_38 1 rfl rfl ?_
    refine wa_aload_n dX12_poly_39 0 rfl rfl ?_
    refine wa_getr (r := 119) dX12_poly_40 fkX12_7 rfl rfl rfl ?_
    refine wa_iconst (v := 4) dX12_poly_43 rfl ?_
    refine wb_iald (j := 4) (v := M 119 4) dX12_poly_44 rfl (by unfold vp_in; decide) rfl rfl ?_
    refine wa_aload_n dX12_poly_45 0 rfl rfl ?_
    refine wa_getr (r := 119) dX12_poly_46 fkX12_7 rfl rfl rfl ?_
    refine wa_iconst (v := 1) dX12_poly_49 rfl ?_
    refine wb_iald (j := 1) (v := M 119 1) dX12_poly_50 rfl (by unfold vp_in; decide) rfl rfl ?_
    refine wa_iconst (v := 1) dX12_poly_51 rfl ?_
    refine wa_icmp_ne (tgt := 59) dX12_poly_52 rfl (fun hc => ?_) (fun hc => ?_)
    · replace hF := hF.1 hc
      refine wa_iconst (v := 0) dX12_poly_59 rfl ?_
      obtain ⟨Q2, hM9, hF⟩ := hF
      refine wa_callV [.int x1, .int (M 119 4), .int 0] dX12_poly_60 (mmX12_laysSquare _ _) mlX12_377 mnX12_laysSquare mseX12_laysSquare rfl rfl rfl rfl (a_dlt d) rfl rfl hM9 ?_
      rintro r9 M2 P9 ⟨rfl, rfl, hq9⟩
      replace hF := hF M2 hq9
      simp only [Option.toList, List.nil_append]
      refine wa_goto (tgt := 72) dX12_poly_63 rfl ?_
      exact wa_pick [0, 3] rfl hF
    · replace hF := hF.2 hc
      refine wa_iconst (v := 1) dX12_poly_55 rfl ?_
      refine wa_goto (tgt := 60) dX12_poly_56 rfl ?_
      obtain ⟨Q3, hM9, hF⟩ := hF
      refine wa_callV [.int x1, .int (M 119 4), .int 1] dX12_poly_60 (mmX12_laysSquare _ _) mlX12_377 mnX12_laysSquare mseX12_laysSquare rfl rfl rfl rfl (a_dlt d) rfl rfl hM9 ?_
      rintro r9 M3 P9 ⟨rfl, rfl, hq9⟩
      replace hF := hF M3 hq9
      simp only [Option.toList, List.nil_append]
      refine wa_goto (tgt := 72) dX12_poly_63 rfl ?_
      exact wa_pick [0, 3] rfl hF

theorem bX12_poly_72 {X : a_X} {ad : Nat → Nat} {ca : Nat → ClassId} {d : Nat} {Post : Option Value → a_M → a_P → Prop} {x : Nat} {M : a_M} (x3 : Int32)  (hF : (∃ Q1 : Int32 → a_M → Prop, Mt X ad ca LY d yX12_in cX12_in 3 (some FieldType.boolean) [.int x3, .int 0, .int (M 118 44)] M (PT x) (q_i (PT x) Q1) ∧ ∀ v1 M1, Q1 v1 M1 → ((¬ v1 = 0 → (∃ Q2 : a_M → Prop, Mt X ad ca LY d yX12_laysPoly cX12_laysPoly 7 none [.ref 118] M1 (PT x) (q_v (PT x) Q2) ∧ ∀ M2, Q2 M2 → (vp_in ((36 * (M2 118 44)) + x3) 1296 ∧ Post (some (.int (M2 146 (((36 * (M2 118 44)) + x3).toNatClampNeg)))) M2 (PT x)))) ∧ (v1 = 0 → Post (some (.int (-1))) M1 (PT x))))) : WA X ad ca LY RX12 cX12_poly 4 (some FieldType.int) (d + 1) 0 0 (a_E X ad ca LY Post) 72 [(0, .ref 118), (3, .int x3)] [] M (PT x) := by
  refine wa_iload_n dX12_poly_72 1 rfl rfl ?_
  refine wa_iconst (v := 0) dX12_poly_73 rfl ?_
  refine wa_aload_n dX12_poly_74 0 rfl rfl ?_
  refine wb_geti (v := M 118 44) dX12_poly_75 fkX12_333 rfl rfl rfl ?_
  obtain ⟨Q1, hM9, hF⟩ := hF
  refine wa_callS [.int x3, .int 0, .int (M 118 44)] dX12_poly_78 (mmX12_in _ _) mlX12_124 mstX12_in rfl (a_dlt d) rfl rfl hM9 ?_
  rintro r9 M1 P9 ⟨v1, rfl, rfl, hq9⟩
  replace hF := hF v1 M1 hq9
  simp only [Option.toList, List.cons_append, List.nil_append]
  refine wa_if_ne (tgt := 86) dX12_poly_81 rfl (fun hc => ?_) (fun hc => ?_)
  · replace hF := hF.1 hc
    refine wa_aload_n dX12_poly_86 0 rfl rfl ?_
    obtain ⟨Q2, hM9, hF⟩ := hF
    refine wa_callV [] dX12_poly_87 (mmX12_laysPoly _ _) mlX12_384 mnX12_laysPoly mseX12_laysPoly rfl rfl rfl rfl (a_dlt d) rfl rfl hM9 ?_
    rintro r9 M2 P9 ⟨rfl, rfl, hq9⟩
    replace hF := hF M2 hq9
    simp only [Option.toList, List.nil_append]
    refine wa_aload_n dX12_poly_90 0 rfl rfl ?_
    refine wa_getr (r := 146) dX12_poly_91 fkX12_99 rfl rfl rfl ?_
    refine wa_bipush (v := 36) dX12_poly_94 rfl ?_
    refine wa_aload_n dX12_poly_96 0 rfl rfl ?_
    refine wb_geti (v := M2 118 44) dX12_poly_97 fkX12_333 rfl rfl rfl ?_
    refine wa_imul dX12_poly_100 ?_
    refine wa_iload_n dX12_poly_101 1 rfl rfl ?_
    refine wa_iadd dX12_poly_102 ?_
    obtain ⟨hi9, hF⟩ := hF
    refine wb_iald (j := ((36 * (M2 118 44)) + x3).toNatClampNeg) (v := M2 146 (((36 * (M2 118 44)) + x3).toNatClampNeg)) dX12_poly_103 rfl hi9 rfl rfl ?_
    exact wa_iret dX12_poly_104 rfl rfl hF
  · replace hF := hF.2 hc
    refine wa_iconst (v := (-1)) dX12_poly_84 rfl ?_
    exact wa_iret dX12_poly_85 rfl rfl hF

theorem eX12_poly {X : a_X} {ad : Nat → Nat} {ca : Nat → ClassId} {d : Nat} {Post : Option Value → a_M → a_P → Prop} {x : Nat} {M : a_M} (x1 : Int32) (x2 : Int32) (x3 : Int32) (h : WA X ad ca LY RX12 cX12_poly 4 (some FieldType.int) d 0 0 (a_E X ad ca LY Post) 0 [(0, .ref 118), (1, .int x1), (2, .int x2), (3, .int x3)] [] M (PT x)) : Mt X ad ca LY d yX12_poly cX12_poly 4 (some FieldType.int) [.ref 118, .int x1, .int x2, .int x3] M (PT x) Post := Mt.of (lv := [(0, .ref 118), (1, .int x1), (2, .int x2), (3, .int x3)]) (by decide +kernel) rfl rfl rfl (wa_pick [0, 1, 2, 3] rfl h)

theorem bX12_oftenOf_0 {X : a_X} {ad : Nat → Nat} {ca : Nat → ClassId} {d : Nat} {kc ks : Nat} {QF : List Frame → Array Value → State → State → Prop} {x : Nat} {M : a_M} (x1 : Int32)  (hF : WA X ad ca LY RX12 cX12_oftenOf 7 (some FieldType.int) (d + 1) kc ks QF 2 [(0, .ref 118), (1, .int x1), (2, .int 0)] [] M (PT x)) : WA X ad ca LY RX12 cX12_oftenOf 7 (some FieldType.int) (d + 1) kc ks QF 0 [(0, .ref 118), (1, .int x1)] [] M (PT x) := by
  refine wa_iconst (v := 0) dX12_oftenOf_0 rfl ?_
  refine wa_istore_n (lv' := [(2, .int 0), (0, .ref 118), (1, .int x1)]) dX12_oftenOf_1 rfl rfl rfl ?_
  exact wa_pick [1, 2, 0] rfl hF

theorem bX12_oftenOf_2 {X : a_X} {ad : Nat → Nat} {ca : Nat → ClassId} {d : Nat} {kc ks : Nat} {QF : List Frame → Array Value → State → State → Prop} {x : Nat} {M : a_M} (x1 : Int32) (x2 : Int32)  (hF : ((36 ≤ x2 → WA X ad ca LY RX12 cX12_oftenOf 7 (some FieldType.int) (d + 1) kc ks QF 41 [(0, .ref 118), (1, .int x1), (2, .int (M 118 44)), (3, .int 0)] [] M (PT x)) ∧ (¬ 36 ≤ x2 → (vp_in ((36 * (M 118 44)) + x2) 1296 ∧ (vp_in x2 36 ∧ WA X ad ca LY RX12 cX12_oftenOf 7 (some FieldType.int) (d + 1) kc ks QF 2 [(0, .ref 118), (1, .int x1), (2, .int (x2 + 1))] [] (ms M 147 x2.toNatClampNeg (M 146 (((36 * (M 118 44)) + x2).toNatClampNeg))) (PT x)))))) : WA X ad ca LY RX12 cX12_oftenOf 7 (some FieldType.int) (d + 1) kc ks QF 2 [(0, .ref 118), (1, .int x1), (2, .int x2)] [] M (PT x) := by
  refine wa_iload_n dX12_oftenOf_2 2 rfl rfl ?_
  refine wa_bipush (v := 36) dX12_oftenOf_3 rfl ?_
  refine wa_icmp_ge (tgt := 34) dX12_oftenOf_5 rfl (fun hc => ?_) (fun hc => ?_)
  · replace hF := hF.1 hc
    refine wa_aload_n dX12_oftenOf_34 0 rfl rfl ?_
    refine wb_geti (v := M 118 44) dX12_oftenOf_35 fkX12_333 rfl rfl rfl ?_
    refine wa_istore_n (lv' := [(2, .int (M 118 44)), (0, .ref 118), (1, .int x1)]) dX12_oftenOf_38 rfl rfl rfl ?_
    refine wa_iconst (v := 0) dX12_oftenOf_39 rfl ?_
    refine wa_istore_n (lv' := [(3, .int 0), (2, .int (M 118 44)), (0, .ref 118), (1, .int x1)]) dX12_oftenOf_40 rfl rfl rfl ?_
    exact wa_pick [2, 3, 1, 0] rfl hF
  · replace hF := hF.2 hc
    refine wa_aload_n dX12_oftenOf_8 0 rfl rfl ?_
    refine wa_getr (r := 147) dX12_oftenOf_9 fkX12_102 rfl rfl rfl ?_
    refine wa_iload_n dX12_oftenOf_12 2 rfl rfl ?_
    refine wa_aload_n dX12_oftenOf_13 0 rfl rfl ?_
    refine wa_getr (r := 146) dX12_oftenOf_14 fkX12_99 rfl rfl rfl ?_
    refine wa_bipush (v := 36) dX12_oftenOf_17 rfl ?_
    refine wa_aload_n dX12_oftenOf_19 0 rfl rfl ?_
    refine wb_geti (v := M 118 44) dX12_oftenOf_20 fkX12_333 rfl rfl rfl ?_
    refine wa_imul dX12_oftenOf_23 ?_
    refine wa_iload_n dX12_oftenOf_24 2 rfl rfl ?_
    refine wa_iadd dX12_oftenOf_25 ?_
    obtain ⟨hi9, hF⟩ := hF
    refine wb_iald (j := ((36 * (M 118 44)) + x2).toNatClampNeg) (v := M 146 (((36 * (M 118 44)) + x2).toNatClampNeg)) dX12_oftenOf_26 rfl hi9 rfl rfl ?_
    obtain ⟨hi9, hF⟩ := hF
    refine wb_iast (j := x2.toNatClampNeg) dX12_oftenOf_27 rfl hi9 rfl ?_
    refine wa_iinc (v := x2 + 1) (lv' := [(2, .int (x2 + 1)), (0, .ref 118), (1, .int x1)]) dX12_oftenOf_28 2 rfl rfl rfl rfl ?_
    refine wa_goto (tgt := 2) dX12_oftenOf_31 rfl ?_
    exact wa_pick [1, 2, 0] rfl hF

theorem bX12_oftenOf_41 {X : a_X} {ad : Nat → Nat} {ca : Nat → ClassId} {d : Nat} {Post : Option Value → a_M → a_P → Prop} {x : Nat} {M : a_M} (x1 : Int32) (x2 : Int32) (x3 : Int32)  (hF : ((x2 ≤ 0 → Post (some (.int x3)) M (PT x)) ∧ (¬ x2 ≤ 0 → WA X ad ca LY RX12 cX12_oftenOf 7 (some FieldType.int) (d + 1) 0 0 (a_E X ad ca LY Post) 51 [(0, .ref 118), (1, .int x1), (2, .int x2), (3, .int x3), (4, .int 0), (5, .int x2)] [] M (PT x)))) : WA X ad ca LY RX12 cX12_oftenOf 7 (some FieldType.int) (d + 1) 0 0 (a_E X ad ca LY Post) 41 [(0, .ref 118), (1, .int x1), (2, .int x2), (3, .int x3)] [] M (PT x) := by
  refine wa_iload_n dX12_oftenOf_41 2 rfl rfl ?_
  refine wa_if_le (tgt := 112) dX12_oftenOf_42 rfl (fun hc => ?_) (fun hc => ?_)
  · replace hF := hF.1 hc
    refine wa_iload_n dX12_oftenOf_112 3 rfl rfl ?_
    exact wa_iret dX12_oftenOf_113 rfl rfl hF
  · replace hF := hF.2 hc
    refine wa_iconst (v := 0) dX12_oftenOf_45 rfl ?_
    refine wa_istore (lv' := [(4, .int 0), (0, .ref 118), (1, .int x1), (2, .int x2), (3, .int x3)]) dX12_oftenOf_46 rfl rfl ?_
    refine wa_iload_n dX12_oftenOf_48 3 rfl rfl ?_
    refine wa_istore (lv' := [(5, .int x2), (4, .int 0), (0, .ref 118), (1, .int x1), (2, .int x2), (3, .int x3)]) dX12_oftenOf_49 rfl rfl ?_
    exact wa_pick [2, 3, 4, 5, 1, 0] rfl hF

theorem bX12_oftenOf_51 {X : a_X} {ad : Nat → Nat} {ca : Nat → ClassId} {d : Nat} {Post : Option Value → a_M → a_P → Prop} {x : Nat} {M : a_M} (x1 : Int32) (x2 : Int32) (x3 : Int32) (x4 : Int32) (x5 : Int32)  (hF : ((x5 < 0 → ((x4 = 0 → WA X ad ca LY RX12 cX12_oftenOf 7 (some FieldType.int) (d + 1) 0 0 (a_E X ad ca LY Post) 41 [(0, .ref 118), (1, .int x1), (2, .int (x2 + (-1))), (3, .int (x3 + 1))] [] M (PT x)) ∧ (¬ x4 = 0 → Post (some (.int x3)) M (PT x)))) ∧ (¬ x5 < 0 → (vp_in x5 36 ∧ (vp_in x5 36 ∧ (¬ (M 119 2) = 0 ∧ WA X ad ca LY RX12 cX12_oftenOf 7 (some FieldType.int) (d + 1) 0 0 (a_E X ad ca LY Post) 51 [(0, .ref 118), (1, .int x1), (2, .int x2), (3, .int x3), (4, .int (((x4 * x1) + (M 147 x5.toNatClampNeg)) - ((x4 * x1) + (M 147 x5.toNatClampNeg)) / (M 119 2) * (M 119 2))), (5, .int (x5 + (-1)))] [] (ms M 147 x5.toNatClampNeg x4) (PT x))))))) : WA X ad ca LY RX12 cX12_oftenOf 7 (some FieldType.int) (d + 1) 0 0 (a_E X ad ca LY Post) 51 [(0, .ref 118), (1, .int x1), (2, .int x2), (3, .int x3), (4, .int x4), (5, .int x5)] [] M (PT x) := by
  refine wa_iload dX12_oftenOf_51 5 rfl ?_
  refine wa_if_lt (tgt := 96) dX12_oftenOf_53 rfl (fun hc => ?_) (fun hc => ?_)
  · replace hF := hF.1 hc
    refine wa_iload dX12_oftenOf_96 4 rfl ?_
    refine wa_if_eq (tgt := 103) dX12_oftenOf_98 rfl (fun hc => ?_) (fun hc => ?_)
    · replace hF := hF.1 hc
      refine wa_iinc (v := x3 + 1) (lv' := [(3, .int (x3 + 1)), (0, .ref 118), (1, .int x1), (2, .int x2), (4, .int x4), (5, .int x5)]) dX12_oftenOf_103 3 rfl rfl rfl rfl ?_
      refine wa_iinc (v := x2 + (-1)) (lv' := [(2, .int (x2 + (-1))), (3, .int (x3 + 1)), (0, .ref 118), (1, .int x1), (4, .int x4), (5, .int x5)]) dX12_oftenOf_106 3 rfl rfl rfl rfl ?_
      refine wa_goto (tgt := 41) dX12_oftenOf_109 rfl ?_
      exact wa_pick [2, 3, 0, 1] rfl hF
    · replace hF := hF.2 hc
      refine wa_iload_n dX12_oftenOf_101 3 rfl rfl ?_
      exact wa_iret dX12_oftenOf_102 rfl rfl hF
  · replace hF := hF.2 hc
    refine wa_aload_n dX12_oftenOf_56 0 rfl rfl ?_
    refine wa_getr (r := 147) dX12_oftenOf_57 fkX12_102 rfl rfl rfl ?_
    refine wa_iload dX12_oftenOf_60 5 rfl ?_
    obtain ⟨hi9, hF⟩ := hF
    refine wb_iald (j := x5.toNatClampNeg) (v := M 147 x5.toNatClampNeg) dX12_oftenOf_62 rfl hi9 rfl rfl ?_
    refine wa_istore (lv' := [(6, .int (M 147 x5.toNatClampNeg)), (0, .ref 118), (1, .int x1), (2, .int x2), (3, .int x3), (4, .int x4), (5, .int x5)]) dX12_oftenOf_63 rfl rfl ?_
    refine wa_aload_n dX12_oftenOf_65 1 rfl rfl ?_
    refine wa_getr (r := 147) dX12_oftenOf_66 fkX12_102 rfl rfl rfl ?_
    refine wa_iload dX12_oftenOf_69 6 rfl ?_
    refine wa_iload dX12_oftenOf_71 5 rfl ?_
    obtain ⟨hi9, hF⟩ := hF
    refine wb_iast (j := x5.toNatClampNeg) dX12_oftenOf_73 rfl hi9 rfl ?_
    refine wa_iload dX12_oftenOf_74 5 rfl ?_
    refine wa_iload_n dX12_oftenOf_76 2 rfl rfl ?_
    refine wa_imul dX12_oftenOf_77 ?_
    refine wa_iload dX12_oftenOf_78 0 rfl ?_
    refine wa_iadd dX12_oftenOf_80 ?_
    refine wa_aload_n dX12_oftenOf_81 1 rfl rfl ?_
    refine wa_getr (r := 119) dX12_oftenOf_82 fkX12_7 rfl rfl rfl ?_
    refine wa_iconst (v := 2) dX12_oftenOf_85 rfl ?_
    refine wb_iald (j := 2) (v := M 119 2) dX12_oftenOf_86 rfl (by unfold vp_in; decide) rfl ((ms_no M 147 x5.toNatClampNeg x4 119 2 (fun h9 => absurd h9.1 (by decide))).trans rfl) ?_
    obtain ⟨hn9, hF⟩ := hF
    refine wa_irem dX12_oftenOf_87 hn9 ?_
    refine wa_istore (lv' := [(4, .int (((x4 * x1) + (M 147 x5.toNatClampNeg)) - ((x4 * x1) + (M 147 x5.toNatClampNeg)) / (M 119 2) * (M 119 2))), (6, .int (M 147 x5.toNatClampNeg)), (0, .ref 118), (1, .int x1), (2, .int x2), (3, .int x3), (5, .int x5)]) dX12_oftenOf_88 rfl rfl ?_
    refine wa_iinc (v := x5 + (-1)) (lv' := [(5, .int (x5 + (-1))), (4, .int (((x4 * x1) + (M 147 x5.toNatClampNeg)) - ((x4 * x1) + (M 147 x5.toNatClampNeg)) / (M 119 2) * (M 119 2))), (6, .int (M 147 x5.toNatClampNeg)), (0, .ref 118), (1, .int x1), (2, .int x2), (3, .int x3)]) dX12_oftenOf_90 6 rfl rfl rfl rfl ?_
    refine wa_goto (tgt := 51) dX12_oftenOf_93 rfl ?_
    exact wa_pick [3, 4, 5, 6, 1, 0] rfl hF

theorem eX12_oftenOf {X : a_X} {ad : Nat → Nat} {ca : Nat → ClassId} {d : Nat} {Post : Option Value → a_M → a_P → Prop} {x : Nat} {M : a_M} (x1 : Int32) (h : WA X ad ca LY RX12 cX12_oftenOf 7 (some FieldType.int) d 0 0 (a_E X ad ca LY Post) 0 [(0, .ref 118), (1, .int x1)] [] M (PT x)) : Mt X ad ca LY d yX12_oftenOf cX12_oftenOf 7 (some FieldType.int) [.ref 118, .int x1] M (PT x) Post := Mt.of (lv := [(0, .ref 118), (1, .int x1)]) (by decide +kernel) rfl rfl rfl (wa_pick [0, 1] rfl h)

theorem bX12_laysOwn_0 {X : a_X} {ad : Nat → Nat} {ca : Nat → ClassId} {d : Nat} {Post : Option Value → a_M → a_P → Prop} {x : Nat} {M : a_M} (x1 : Int32) (x2 : Int32) (x3 : Int32)  (hF : (∃ Q1 : a_M → Prop, Mt X ad ca LY d yX12_laysSquare cX12_laysSquare 6 none [.ref 118, .int x1, .int x2, .int x3] M (PT x) (q_v (PT x) Q1) ∧ ∀ M1, Q1 M1 → (∃ Q2 : a_M → Prop, Mt X ad ca LY d yX12_laysPoly cX12_laysPoly 7 none [.ref 118] M1 (PT x) (q_v (PT x) Q2) ∧ ∀ M2, Q2 M2 → Post none M2 (PT x)))) : WA X ad ca LY RX12 cX12_laysOwn 4 none (d + 1) 0 0 (a_E X ad ca LY Post) 0 [(0, .ref 118), (1, .int x1), (2, .int x2), (3, .int x3)] [] M (PT x) := by
  refine wa_aload_n dX12_laysOwn_0 0 rfl rfl ?_
  refine wa_iload_n dX12_laysOwn_1 1 rfl rfl ?_
  refine wa_iload_n dX12_laysOwn_2 2 rfl rfl ?_
  refine wa_iload_n dX12_laysOwn_3 3 rfl rfl ?_
  obtain ⟨Q1, hM9, hF⟩ := hF
  refine wa_callV [.int x1, .int x2, .int x3] dX12_laysOwn_4 (mmX12_laysSquare _ _) mlX12_377 mnX12_laysSquare mseX12_laysSquare rfl rfl rfl rfl (a_dlt d) rfl rfl hM9 ?_
  rintro r9 M1 P9 ⟨rfl, rfl, hq9⟩
  replace hF := hF M1 hq9
  simp only [Option.toList, List.nil_append]
  refine wa_aload_n dX12_laysOwn_7 0 rfl rfl ?_
  obtain ⟨Q2, hM9, hF⟩ := hF
  refine wa_callV [] dX12_laysOwn_8 (mmX12_laysPoly _ _) mlX12_384 mnX12_laysPoly mseX12_laysPoly rfl rfl rfl rfl (a_dlt d) rfl rfl hM9 ?_
  rintro r9 M2 P9 ⟨rfl, rfl, hq9⟩
  replace hF := hF M2 hq9
  simp only [Option.toList, List.nil_append]
  exact wa_vret dX12_laysOwn_11 rfl hF

theorem eX12_laysOwn {X : a_X} {ad : Nat → Nat} {ca : Nat → ClassId} {d : Nat} {Post : Option Value → a_M → a_P → Prop} {x : Nat} {M : a_M} (x1 : Int32) (x2 : Int32) (x3 : Int32) (h : WA X ad ca LY RX12 cX12_laysOwn 4 none d 0 0 (a_E X ad ca LY Post) 0 [(0, .ref 118), (1, .int x1), (2, .int x2), (3, .int x3)] [] M (PT x)) : Mt X ad ca LY d yX12_laysOwn cX12_laysOwn 4 none [.ref 118, .int x1, .int x2, .int x3] M (PT x) Post := Mt.of (lv := [(0, .ref 118), (1, .int x1), (2, .int x2), (3, .int x3)]) (by decide +kernel) rfl rfl rfl (wa_pick [0, 1, 2, 3] rfl h)

theorem bX12_own_0 {X : a_X} {ad : Nat → Nat} {ca : Nat → ClassId} {d : Nat} {kc ks : Nat} {QF : List Frame → Array Value → State → State → Prop} {x : Nat} {M : a_M} (x1 : Int32) (x2 : Int32)  (hF : (∃ Q1 : Int32 → a_M → Prop, Mt X ad ca LY d yX12_isSector cX12_isSector 2 (some FieldType.boolean) [.ref 118, .int x1] M (PT x) (q_i (PT x) Q1) ∧ ∀ v1 M1, Q1 v1 M1 → ((v1 = 0 → WA X ad ca LY RX12 cX12_own 5 (some FieldType.int) (d + 1) kc ks QF 13 [] [] M1 (PT x)) ∧ (¬ v1 = 0 → (((-1) ≤ x2 → ((¬ (M1 119 1) = 1 → (∃ Q2 : a_M → Prop, Mt X ad ca LY d yX12_laysOwn cX12_laysOwn 4 none [.ref 118, .int x1, .int (M1 119 4), .int 0] M1 (PT x) (q_v (PT x) Q2) ∧ ∀ M2, Q2 M2 → WA X ad ca LY RX12 cX12_own 5 (some FieldType.int) (d + 1) kc ks QF 46 [(0, .ref 118), (2, .int x2), (3, .int 0), (4, .int 0)] [] M2 (PT x))) ∧ ((M1 119 1) = 1 → (∃ Q3 : a_M → Prop, Mt X ad ca LY d yX12_laysOwn cX12_laysOwn 4 none [.ref 118, .int x1, .int (M1 119 4), .int 1] M1 (PT x) (q_v (PT x) Q3) ∧ ∀ M3, Q3 M3 → WA X ad ca LY RX12 cX12_own 5 (some FieldType.int) (d + 1) kc ks QF 46 [(0, .ref 118), (2, .int x2), (3, .int 0), (4, .int 0)] [] M3 (PT x))))) ∧ (¬ (-1) ≤ x2 → WA X ad ca LY RX12 cX12_own 5 (some FieldType.int) (d + 1) kc ks QF 13 [] [] M1 (PT x))))))) : WA X ad ca LY RX12 cX12_own 5 (some FieldType.int) (d + 1) kc ks QF 0 [(0, .ref 118), (1, .int x1), (2, .int x2)] [] M (PT x) := by
  refine wa_aload_n dX12_own_0 0 rfl rfl ?_
  refine wa_iload_n dX12_own_1 1 rfl rfl ?_
  obtain ⟨Q1, hM9, hF⟩ := hF
  refine wa_callV [.int x1] dX12_own_2 (mmX12_isSector _ _) mlX12_371 mnX12_isSector mseX12_isSector rfl rfl rfl rfl (a_dlt d) rfl rfl hM9 ?_
  rintro r9 M1 P9 ⟨v1, rfl, rfl, hq9⟩
  replace hF := hF v1 M1 hq9
  simp only [Option.toList, List.cons_append, List.nil_append]
  refine wa_if_eq (tgt := 13) dX12_own_5 rfl (fun hc => ?_) (fun hc => ?_)
  · replace hF := hF.1 hc
    exact wa_pick [] rfl hF
  · replace hF := hF.2 hc
    refine wa_iload_n dX12_own_8 2 rfl rfl ?_
    refine wa_iconst (v := (-1)) dX12_own_9 rfl ?_
    refine wa_icmp_ge (tgt := 15) dX12_own_10 rfl (fun hc => ?_) (fun hc => ?_)
    · replace hF := hF.1 hc
      refine wa_aload_n dX12_own_15 0 rfl rfl ?_
      refine wa_iload_n dX12_own_16 1 rfl rfl ?_
      refine wa_aload_n dX12_own_17 0 rfl rfl ?_
      refine wa_getr (r := 119) dX12_own_18 fkX12_7 rfl rfl rfl ?_
      refine wa_iconst (v := 4) dX12_own_21 rfl ?_
      refine wb_iald (j := 4) (v := M1 119 4) dX12_own_22 rfl (by unfold vp_in; decide) rfl rfl ?_
      refine wa_aload_n dX12_own_23 0 rfl rfl ?_
      refine wa_getr (r := 119) dX12_own_24 fkX12_7 rfl rfl rfl ?_
      refine wa_iconst (v := 1) dX12_own_27 rfl ?_
      refine wb_iald (j := 1) (v := M1 119 1) dX12_own_28 rfl (by unfold vp_in; decide) rfl rfl ?_
      refine wa_iconst (v := 1) dX12_own_29 rfl ?_
      refine wa_icmp_ne (tgt := 37) dX12_own_30 rfl (fun hc => ?_) (fun hc => ?_)
      · replace hF := hF.1 hc
        refine wa_iconst (v := 0) dX12_own_37 rfl ?_
        obtain ⟨Q2, hM9, hF⟩ := hF
        refine wa_callV [.int x1, .int (M1 119 4), .int 0] dX12_own_38 (mmX12_laysOwn _ _) mlX12_387 mnX12_laysOwn mseX12_laysOwn rfl rfl rfl rfl (a_dlt d) rfl rfl hM9 ?_
        rintro r9 M2 P9 ⟨rfl, rfl, hq9⟩
        replace hF := hF M2 hq9
        simp only [Option.toList, List.nil_append]
        refine wa_iconst (v := 0) dX12_own_41 rfl ?_
        refine wa_istore_n (lv' := [(3, .int 0), (0, .ref 118), (1, .int x1), (2, .int x2)]) dX12_own_42 rfl rfl rfl ?_
        refine wa_iconst (v := 0) dX12_own_43 rfl ?_
        refine wa_istore (lv' := [(4, .int 0), (3, .int 0), (0, .ref 118), (1, .int x1), (2, .int x2)]) dX12_own_44 rfl rfl ?_
        exact wa_pick [2, 4, 1, 0] rfl hF
      · replace hF := hF.2 hc
        refine wa_iconst (v := 1) dX12_own_33 rfl ?_
        refine wa_goto (tgt := 38) dX12_own_34 rfl ?_
        obtain ⟨Q3, hM9, hF⟩ := hF
        refine wa_callV [.int x1, .int (M1 119 4), .int 1] dX12_own_38 (mmX12_laysOwn _ _) mlX12_387 mnX12_laysOwn mseX12_laysOwn rfl rfl rfl rfl (a_dlt d) rfl rfl hM9 ?_
        rintro r9 M3 P9 ⟨rfl, rfl, hq9⟩
        replace hF := hF M3 hq9
        simp only [Option.toList, List.nil_append]
        refine wa_iconst (v := 0) dX12_own_41 rfl ?_
        refine wa_istore_n (lv' := [(3, .int 0), (0, .ref 118), (1, .int x1), (2, .int x2)]) dX12_own_42 rfl rfl rfl ?_
        refine wa_iconst (v := 0) dX12_own_43 rfl ?_
        refine wa_istore (lv' := [(4, .int 0), (3, .int 0), (0, .ref 118), (1, .int x1), (2, .int x2)]) dX12_own_44 rfl rfl ?_
        exact wa_pick [2, 4, 1, 0] rfl hF
    · replace hF := hF.2 hc
      exact wa_pick [] rfl hF

theorem bX12_own_13 {X : a_X} {ad : Nat → Nat} {ca : Nat → ClassId} {d : Nat} {Post : Option Value → a_M → a_P → Prop} {x : Nat} {M : a_M}   (hF : Post (some (.int (-1))) M (PT x)) : WA X ad ca LY RX12 cX12_own 5 (some FieldType.int) (d + 1) 0 0 (a_E X ad ca LY Post) 13 [] [] M (PT x) := by
  refine wa_iconst (v := (-1)) dX12_own_13 rfl ?_
  exact wa_iret dX12_own_14 rfl rfl hF

theorem bX12_own_46 {X : a_X} {ad : Nat → Nat} {ca : Nat → ClassId} {d : Nat} {Post : Option Value → a_M → a_P → Prop} {x : Nat} {M : a_M} (x2 : Int32) (x3 : Int32) (x4 : Int32)  (hF : (((M 119 2) ≤ x4 → ((¬ x2 = (-1) → Post (some (.int (-1))) M (PT x)) ∧ (x2 = (-1) → Post (some (.int x3)) M (PT x)))) ∧ (¬ (M 119 2) ≤ x4 → (∃ Q1 : Int32 → a_M → Prop, Mt X ad ca LY d yX12_oftenOf cX12_oftenOf 7 (some FieldType.int) [.ref 118, .int x4] M (PT x) (q_i (PT x) Q1) ∧ ∀ v1 M1, Q1 v1 M1 → ((v1 ≤ 0 → WA X ad ca LY RX12 cX12_own 5 (some FieldType.int) (d + 1) 0 0 (a_E X ad ca LY Post) 77 [(0, .ref 118), (2, .int x2), (3, .int x3), (4, .int x4)] [] M1 (PT x)) ∧ (¬ v1 ≤ 0 → ((¬ x3 = x2 → WA X ad ca LY RX12 cX12_own 5 (some FieldType.int) (d + 1) 0 0 (a_E X ad ca LY Post) 77 [(0, .ref 118), (2, .int x2), (3, .int (x3 + 1)), (4, .int x4)] [] M1 (PT x)) ∧ (x3 = x2 → Post (some (.int x4)) M1 (PT x))))))))) : WA X ad ca LY RX12 cX12_own 5 (some FieldType.int) (d + 1) 0 0 (a_E X ad ca LY Post) 46 [(0, .ref 118), (2, .int x2), (3, .int x3), (4, .int x4)] [] M (PT x) := by
  refine wa_iload dX12_own_46 3 rfl ?_
  refine wa_aload_n dX12_own_48 0 rfl rfl ?_
  refine wa_getr (r := 119) dX12_own_49 fkX12_7 rfl rfl rfl ?_
  refine wa_iconst (v := 2) dX12_own_52 rfl ?_
  refine wb_iald (j := 2) (v := M 119 2) dX12_own_53 rfl (by unfold vp_in; decide) rfl rfl ?_
  refine wa_icmp_ge (tgt := 83) dX12_own_54 rfl (fun hc => ?_) (fun hc => ?_)
  · replace hF := hF.1 hc
    refine wa_iload_n dX12_own_83 1 rfl rfl ?_
    refine wa_iconst (v := (-1)) dX12_own_84 rfl ?_
    refine wa_icmp_ne (tgt := 92) dX12_own_85 rfl (fun hc => ?_) (fun hc => ?_)
    · replace hF := hF.1 hc
      refine wa_iconst (v := (-1)) dX12_own_92 rfl ?_
      exact wa_iret dX12_own_93 rfl rfl hF
    · replace hF := hF.2 hc
      refine wa_iload_n dX12_own_88 2 rfl rfl ?_
      refine wa_goto (tgt := 93) dX12_own_89 rfl ?_
      exact wa_iret dX12_own_93 rfl rfl hF
  · replace hF := hF.2 hc
    refine wa_aload_n dX12_own_57 0 rfl rfl ?_
    refine wa_iload dX12_own_58 3 rfl ?_
    obtain ⟨Q1, hM9, hF⟩ := hF
    refine wa_callV [.int x4] dX12_own_60 (mmX12_oftenOf _ _) mlX12_390 mnX12_oftenOf mseX12_oftenOf rfl rfl rfl rfl (a_dlt d) rfl rfl hM9 ?_
    rintro r9 M1 P9 ⟨v1, rfl, rfl, hq9⟩
    replace hF := hF v1 M1 hq9
    simp only [Option.toList, List.cons_append, List.nil_append]
    refine wa_if_le (tgt := 77) dX12_own_63 rfl (fun hc => ?_) (fun hc => ?_)
    · replace hF := hF.1 hc
      exact hF
    · replace hF := hF.2 hc
      refine wa_iload_n dX12_own_66 2 rfl rfl ?_
      refine wa_iload_n dX12_own_67 1 rfl rfl ?_
      refine wa_icmp_ne (tgt := 74) dX12_own_68 rfl (fun hc => ?_) (fun hc => ?_)
      · replace hF := hF.1 hc
        refine wa_iinc (v := x3 + 1) (lv' := [(3, .int (x3 + 1)), (0, .ref 118), (2, .int x2), (4, .int x4)]) dX12_own_74 2 rfl rfl rfl rfl ?_
        exact wa_pick [1, 2, 0, 3] rfl hF
      · replace hF := hF.2 hc
        refine wa_iload dX12_own_71 3 rfl ?_
        exact wa_iret dX12_own_73 rfl rfl hF

theorem bX12_own_77 {X : a_X} {ad : Nat → Nat} {ca : Nat → ClassId} {d : Nat} {kc ks : Nat} {QF : List Frame → Array Value → State → State → Prop} {x : Nat} {M : a_M} (x2 : Int32) (x3 : Int32) (x4 : Int32)  (hF : WA X ad ca LY RX12 cX12_own 5 (some FieldType.int) (d + 1) kc ks QF 46 [(0, .ref 118), (2, .int x2), (3, .int x3), (4, .int (x4 + 1))] [] M (PT x)) : WA X ad ca LY RX12 cX12_own 5 (some FieldType.int) (d + 1) kc ks QF 77 [(0, .ref 118), (2, .int x2), (3, .int x3), (4, .int x4)] [] M (PT x) := by
  refine wa_iinc (v := x4 + 1) (lv' := [(4, .int (x4 + 1)), (0, .ref 118), (2, .int x2), (3, .int x3)]) dX12_own_77 3 rfl rfl rfl rfl ?_
  refine wa_goto (tgt := 46) dX12_own_80 rfl ?_
  exact wa_pick [1, 2, 3, 0] rfl hF

theorem eX12_own {X : a_X} {ad : Nat → Nat} {ca : Nat → ClassId} {d : Nat} {Post : Option Value → a_M → a_P → Prop} {x : Nat} {M : a_M} (x1 : Int32) (x2 : Int32) (h : WA X ad ca LY RX12 cX12_own 5 (some FieldType.int) d 0 0 (a_E X ad ca LY Post) 0 [(0, .ref 118), (1, .int x1), (2, .int x2)] [] M (PT x)) : Mt X ad ca LY d yX12_own cX12_own 5 (some FieldType.int) [.ref 118, .int x1, .int x2] M (PT x) Post := Mt.of (lv := [(0, .ref 118), (1, .int x1), (2, .int x2)]) (by decide +kernel) rfl rfl rfl (wa_pick [0, 1, 2] rfl h)

theorem bX12_often_0 {X : a_X} {ad : Nat → Nat} {ca : Nat → ClassId} {d : Nat} {Post : Option Value → a_M → a_P → Prop} {x : Nat} {M : a_M} (x1 : Int32) (x2 : Int32)  (hF : (∃ Q1 : Int32 → a_M → Prop, Mt X ad ca LY d yX12_isSector cX12_isSector 2 (some FieldType.boolean) [.ref 118, .int x1] M (PT x) (q_i (PT x) Q1) ∧ ∀ v1 M1, Q1 v1 M1 → ((v1 = 0 → WA X ad ca LY RX12 cX12_often 3 (some FieldType.int) (d + 1) 0 0 (a_E X ad ca LY Post) 16 [] [] M1 (PT x)) ∧ (¬ v1 = 0 → (∃ Q2 : Int32 → a_M → Prop, Mt X ad ca LY d yX12_isNumber cX12_isNumber 2 (some FieldType.boolean) [.ref 118, .int x2] M1 (PT x) (q_i (PT x) Q2) ∧ ∀ v2 M2, Q2 v2 M2 → ((¬ v2 = 0 → ((¬ (M2 119 1) = 1 → (∃ Q3 : a_M → Prop, Mt X ad ca LY d yX12_laysOwn cX12_laysOwn 4 none [.ref 118, .int x1, .int (M2 119 4), .int 0] M2 (PT x) (q_v (PT x) Q3) ∧ ∀ M3, Q3 M3 → (∃ Q4 : Int32 → a_M → Prop, Mt X ad ca LY d yX12_oftenOf cX12_oftenOf 7 (some FieldType.int) [.ref 118, .int x2] M3 (PT x) (q_i (PT x) Q4) ∧ ∀ v4 M4, Q4 v4 M4 → Post (some (.int v4)) M4 (PT x)))) ∧ ((M2 119 1) = 1 → (∃ Q5 : a_M → Prop, Mt X ad ca LY d yX12_laysOwn cX12_laysOwn 4 none [.ref 118, .int x1, .int (M2 119 4), .int 1] M2 (PT x) (q_v (PT x) Q5) ∧ ∀ M5, Q5 M5 → (∃ Q6 : Int32 → a_M → Prop, Mt X ad ca LY d yX12_oftenOf cX12_oftenOf 7 (some FieldType.int) [.ref 118, .int x2] M5 (PT x) (q_i (PT x) Q6) ∧ ∀ v6 M6, Q6 v6 M6 → Post (some (.int v6)) M6 (PT x)))))) ∧ (v2 = 0 → WA X ad ca LY RX12 cX12_often 3 (some FieldType.int) (d + 1) 0 0 (a_E X ad ca LY Post) 16 [] [] M2 (PT x)))))))) : WA X ad ca LY RX12 cX12_often 3 (some FieldType.int) (d + 1) 0 0 (a_E X ad ca LY Post) 0 [(0, .ref 118), (1, .int x1), (2, .int x2)] [] M (PT x) := by
  refine wa_aload_n dX12_often_0 0 rfl rfl ?_
  refine wa_iload_n dX12_often_1 1 rfl rfl ?_
  obtain ⟨Q1, hM9, hF⟩ := hF
  refine wa_callV [.int x1] dX12_often_2 (mmX12_isSector _ _) mlX12_371 mnX12_isSector mseX12_isSector rfl rfl rfl rfl (a_dlt d) rfl rfl hM9 ?_
  rintro r9 M1 P9 ⟨v1, rfl, rfl, hq9⟩
  replace hF := hF v1 M1 hq9
  simp only [Option.toList, List.cons_append, List.nil_append]
  refine wa_if_eq (tgt := 16) dX12_often_5 rfl (fun hc => ?_) (fun hc => ?_)
  · replace hF := hF.1 hc
    exact wa_pick [] rfl hF
  · replace hF := hF.2 hc
    refine wa_aload_n dX12_often_8 0 rfl rfl ?_
    refine wa_iload_n dX12_often_9 2 rfl rfl ?_
    obtain ⟨Q2, hM9, hF⟩ := hF
    refine wa_callV [.int x2] dX12_often_10 (mmX12_isNumber _ _) mlX12_135 mnX12_isNumber mseX12_isNumber rfl rfl rfl rfl (a_dlt d) rfl rfl hM9 ?_
    rintro r9 M2 P9 ⟨v2, rfl, rfl, hq9⟩
    replace hF := hF v2 M2 hq9
    simp only [Option.toList, List.cons_append, List.nil_append]
    refine wa_if_ne (tgt := 18) dX12_often_13 rfl (fun hc => ?_) (fun hc => ?_)
    · replace hF := hF.1 hc
      refine wa_aload_n dX12_often_18 0 rfl rfl ?_
      refine wa_iload_n dX12_often_19 1 rfl rfl ?_
      refine wa_aload_n dX12_often_20 0 rfl rfl ?_
      refine wa_getr (r := 119) dX12_often_21 fkX12_7 rfl rfl rfl ?_
      refine wa_iconst (v := 4) dX12_often_24 rfl ?_
      refine wb_iald (j := 4) (v := M2 119 4) dX12_often_25 rfl (by unfold vp_in; decide) rfl rfl ?_
      refine wa_aload_n dX12_often_26 0 rfl rfl ?_
      refine wa_getr (r := 119) dX12_often_27 fkX12_7 rfl rfl rfl ?_
      refine wa_iconst (v := 1) dX12_often_30 rfl ?_
      refine wb_iald (j := 1) (v := M2 119 1) dX12_often_31 rfl (by unfold vp_in; decide) rfl rfl ?_
      refine wa_iconst (v := 1) dX12_often_32 rfl ?_
      refine wa_icmp_ne (tgt := 40) dX12_often_33 rfl (fun hc => ?_) (fun hc => ?_)
      · replace hF := hF.1 hc
        refine wa_iconst (v := 0) dX12_often_40 rfl ?_
        obtain ⟨Q3, hM9, hF⟩ := hF
        refine wa_callV [.int x1, .int (M2 119 4), .int 0] dX12_often_41 (mmX12_laysOwn _ _) mlX12_387 mnX12_laysOwn mseX12_laysOwn rfl rfl rfl rfl (a_dlt d) rfl rfl hM9 ?_
        rintro r9 M3 P9 ⟨rfl, rfl, hq9⟩
        replace hF := hF M3 hq9
        simp only [Option.toList, List.nil_append]
        refine wa_aload_n dX12_often_44 0 rfl rfl ?_
        refine wa_iload_n dX12_often_45 2 rfl rfl ?_
        obtain ⟨Q4, hM9, hF⟩ := hF
        refine wa_callV [.int x2] dX12_often_46 (mmX12_oftenOf _ _) mlX12_390 mnX12_oftenOf mseX12_oftenOf rfl rfl rfl rfl (a_dlt d) rfl rfl hM9 ?_
        rintro r9 M4 P9 ⟨v4, rfl, rfl, hq9⟩
        replace hF := hF v4 M4 hq9
        simp only [Option.toList, List.cons_append, List.nil_append]
        exact wa_iret dX12_often_49 rfl rfl hF
      · replace hF := hF.2 hc
        refine wa_iconst (v := 1) dX12_often_36 rfl ?_
        refine wa_goto (tgt := 41) dX12_often_37 rfl ?_
        obtain ⟨Q5, hM9, hF⟩ := hF
        refine wa_callV [.int x1, .int (M2 119 4), .int 1] dX12_often_41 (mmX12_laysOwn _ _) mlX12_387 mnX12_laysOwn mseX12_laysOwn rfl rfl rfl rfl (a_dlt d) rfl rfl hM9 ?_
        rintro r9 M5 P9 ⟨rfl, rfl, hq9⟩
        replace hF := hF M5 hq9
        simp only [Option.toList, List.nil_append]
        refine wa_aload_n dX12_often_44 0 rfl rfl ?_
        refine wa_iload_n dX12_often_45 2 rfl rfl ?_
        obtain ⟨Q6, hM9, hF⟩ := hF
        refine wa_callV [.int x2] dX12_often_46 (mmX12_oftenOf _ _) mlX12_390 mnX12_oftenOf mseX12_oftenOf rfl rfl rfl rfl (a_dlt d) rfl rfl hM9 ?_
        rintro r9 M6 P9 ⟨v6, rfl, rfl, hq9⟩
        replace hF := hF v6 M6 hq9
        simp only [Option.toList, List.cons_append, List.nil_append]
        exact wa_iret dX12_often_49 rfl rfl hF
    · replace hF := hF.2 hc
      exact wa_pick [] rfl hF

theorem bX12_often_16 {X : a_X} {ad : Nat → Nat} {ca : Nat → ClassId} {d : Nat} {Post : Option Value → a_M → a_P → Prop} {x : Nat} {M : a_M}   (hF : Post (some (.int (-1))) M (PT x)) : WA X ad ca LY RX12 cX12_often 3 (some FieldType.int) (d + 1) 0 0 (a_E X ad ca LY Post) 16 [] [] M (PT x) := by
  refine wa_iconst (v := (-1)) dX12_often_16 rfl ?_
  exact wa_iret dX12_often_17 rfl rfl hF

theorem eX12_often {X : a_X} {ad : Nat → Nat} {ca : Nat → ClassId} {d : Nat} {Post : Option Value → a_M → a_P → Prop} {x : Nat} {M : a_M} (x1 : Int32) (x2 : Int32) (h : WA X ad ca LY RX12 cX12_often 3 (some FieldType.int) d 0 0 (a_E X ad ca LY Post) 0 [(0, .ref 118), (1, .int x1), (2, .int x2)] [] M (PT x)) : Mt X ad ca LY d yX12_often cX12_often 3 (some FieldType.int) [.ref 118, .int x1, .int x2] M (PT x) Post := Mt.of (lv := [(0, .ref 118), (1, .int x1), (2, .int x2)]) (by decide +kernel) rfl rfl rfl (wa_pick [0, 1, 2] rfl h)

theorem bX12_mean_0 {X : a_X} {ad : Nat → Nat} {ca : Nat → ClassId} {d : Nat} {kc ks : Nat} {QF : List Frame → Array Value → State → State → Prop} {x : Nat} {M : a_M} (x1 : Int32) (x2 : Int32)  (hF : (∃ Q1 : Int32 → a_M → Prop, Mt X ad ca LY d yX12_isSector cX12_isSector 2 (some FieldType.boolean) [.ref 118, .int x1] M (PT x) (q_i (PT x) Q1) ∧ ∀ v1 M1, Q1 v1 M1 → ((v1 = 0 → WA X ad ca LY RX12 cX12_mean 6 (some FieldType.int) (d + 1) kc ks QF 24 [] [] M1 (PT x)) ∧ (¬ v1 = 0 → (∃ Q2 : Int32 → a_M → Prop, Mt X ad ca LY d yX12_in cX12_in 3 (some FieldType.boolean) [.int x2, .int 1, .int ((M1 119 0) - 1)] M1 (PT x) (q_i (PT x) Q2) ∧ ∀ v2 M2, Q2 v2 M2 → ((¬ v2 = 0 → WA X ad ca LY RX12 cX12_mean 6 (some FieldType.int) (d + 1) kc ks QF 31 [(0, .ref 118), (1, .int x1), (2, .int x2), (3, .int 0), (4, .int 0)] [] M2 (PT x)) ∧ (v2 = 0 → WA X ad ca LY RX12 cX12_mean 6 (some FieldType.int) (d + 1) kc ks QF 24 [] [] M2 (PT x)))))))) : WA X ad ca LY RX12 cX12_mean 6 (some FieldType.int) (d + 1) kc ks QF 0 [(0, .ref 118), (1, .int x1), (2, .int x2)] [] M (PT x) := by
  refine wa_aload_n dX12_mean_0 0 rfl rfl ?_
  refine wa_iload_n dX12_mean_1 1 rfl rfl ?_
  obtain ⟨Q1, hM9, hF⟩ := hF
  refine wa_callV [.int x1] dX12_mean_2 (mmX12_isSector _ _) mlX12_371 mnX12_isSector mseX12_isSector rfl rfl rfl rfl (a_dlt d) rfl rfl hM9 ?_
  rintro r9 M1 P9 ⟨v1, rfl, rfl, hq9⟩
  replace hF := hF v1 M1 hq9
  simp only [Option.toList, List.cons_append, List.nil_append]
  refine wa_if_eq (tgt := 24) dX12_mean_5 rfl (fun hc => ?_) (fun hc => ?_)
  · replace hF := hF.1 hc
    exact wa_pick [] rfl hF
  · replace hF := hF.2 hc
    refine wa_iload_n dX12_mean_8 2 rfl rfl ?_
    refine wa_iconst (v := 1) dX12_mean_9 rfl ?_
    refine wa_aload_n dX12_mean_10 0 rfl rfl ?_
    refine wa_getr (r := 119) dX12_mean_11 fkX12_7 rfl rfl rfl ?_
    refine wa_iconst (v := 0) dX12_mean_14 rfl ?_
    refine wb_iald (j := 0) (v := M1 119 0) dX12_mean_15 rfl (by unfold vp_in; decide) rfl rfl ?_
    refine wa_iconst (v := 1) dX12_mean_16 rfl ?_
    refine wa_isub dX12_mean_17 ?_
    obtain ⟨Q2, hM9, hF⟩ := hF
    refine wa_callS [.int x2, .int 1, .int ((M1 119 0) - 1)] dX12_mean_18 (mmX12_in _ _) mlX12_124 mstX12_in rfl (a_dlt d) rfl rfl hM9 ?_
    rintro r9 M2 P9 ⟨v2, rfl, rfl, hq9⟩
    replace hF := hF v2 M2 hq9
    simp only [Option.toList, List.cons_append, List.nil_append]
    refine wa_if_ne (tgt := 26) dX12_mean_21 rfl (fun hc => ?_) (fun hc => ?_)
    · replace hF := hF.1 hc
      refine wa_iconst (v := 0) dX12_mean_26 rfl ?_
      refine wa_istore_n (lv' := [(3, .int 0), (0, .ref 118), (1, .int x1), (2, .int x2)]) dX12_mean_27 rfl rfl rfl ?_
      refine wa_iconst (v := 0) dX12_mean_28 rfl ?_
      refine wa_istore (lv' := [(4, .int 0), (3, .int 0), (0, .ref 118), (1, .int x1), (2, .int x2)]) dX12_mean_29 rfl rfl ?_
      exact wa_pick [2, 3, 4, 1, 0] rfl hF
    · replace hF := hF.2 hc
      exact wa_pick [] rfl hF

theorem bX12_mean_24 {X : a_X} {ad : Nat → Nat} {ca : Nat → ClassId} {d : Nat} {Post : Option Value → a_M → a_P → Prop} {x : Nat} {M : a_M}   (hF : Post (some (.int (-1))) M (PT x)) : WA X ad ca LY RX12 cX12_mean 6 (some FieldType.int) (d + 1) 0 0 (a_E X ad ca LY Post) 24 [] [] M (PT x) := by
  refine wa_iconst (v := (-1)) dX12_mean_24 rfl ?_
  exact wa_iret dX12_mean_25 rfl rfl hF

theorem bX12_mean_31 {X : a_X} {ad : Nat → Nat} {ca : Nat → ClassId} {d : Nat} {Post : Option Value → a_M → a_P → Prop} {x : Nat} {M : a_M} (x1 : Int32) (x2 : Int32) (x3 : Int32) (x4 : Int32)  (hF : (∃ Q1 : Int32 → a_M → Prop, Mt X ad ca LY d yX12_states cX12_states 1 (some FieldType.int) [.ref 118] M (PT x) (q_i (PT x) Q1) ∧ ∀ v1 M1, Q1 v1 M1 → ((v1 ≤ x4 → Post (some (.int x3)) M1 (PT x)) ∧ (¬ v1 ≤ x4 → WA X ad ca LY RX12 cX12_mean 6 (some FieldType.int) (d + 1) 0 0 (a_E X ad ca LY Post) 43 [(0, .ref 118), (1, .int x1), (2, .int x2), (3, .int x3), (4, .int x4), (5, .int 0)] [] M1 (PT x))))) : WA X ad ca LY RX12 cX12_mean 6 (some FieldType.int) (d + 1) 0 0 (a_E X ad ca LY Post) 31 [(0, .ref 118), (1, .int x1), (2, .int x2), (3, .int x3), (4, .int x4)] [] M (PT x) := by
  refine wa_iload dX12_mean_31 4 rfl ?_
  refine wa_aload_n dX12_mean_33 0 rfl rfl ?_
  obtain ⟨Q1, hM9, hF⟩ := hF
  refine wa_callV [] dX12_mean_34 (mmX12_states _ _) mlX12_128 mnX12_states mseX12_states rfl rfl rfl rfl (a_dlt d) rfl rfl hM9 ?_
  rintro r9 M1 P9 ⟨v1, rfl, rfl, hq9⟩
  replace hF := hF v1 M1 hq9
  simp only [Option.toList, List.cons_append, List.nil_append]
  refine wa_icmp_ge (tgt := 109) dX12_mean_37 rfl (fun hc => ?_) (fun hc => ?_)
  · replace hF := hF.1 hc
    refine wa_iload_n dX12_mean_109 3 rfl rfl ?_
    exact wa_iret dX12_mean_110 rfl rfl hF
  · replace hF := hF.2 hc
    refine wa_iconst (v := 0) dX12_mean_40 rfl ?_
    refine wa_istore (lv' := [(5, .int 0), (0, .ref 118), (1, .int x1), (2, .int x2), (3, .int x3), (4, .int x4)]) dX12_mean_41 rfl rfl ?_
    exact wa_pick [1, 2, 3, 4, 5, 0] rfl hF

theorem bX12_mean_43 {X : a_X} {ad : Nat → Nat} {ca : Nat → ClassId} {d : Nat} {kc ks : Nat} {QF : List Frame → Array Value → State → State → Prop} {x : Nat} {M : a_M} (x1 : Int32) (x2 : Int32) (x3 : Int32) (x4 : Int32) (x5 : Int32)  (hF : (((M 119 0) ≤ x5 → WA X ad ca LY RX12 cX12_mean 6 (some FieldType.int) (d + 1) kc ks QF 103 [(0, .ref 118), (1, .int x1), (2, .int x2), (3, .int x3), (4, .int x4)] [] M (PT x)) ∧ (¬ (M 119 0) ≤ x5 → (∃ Q1 : Int32 → a_M → Prop, Mt X ad ca LY d yX12_count cX12_count 3 (some FieldType.int) [.int x4] M (PT x) (q_i (PT x) Q1) ∧ ∀ v1 M1, Q1 v1 M1 → ((¬ v1 = x1 → WA X ad ca LY RX12 cX12_mean 6 (some FieldType.int) (d + 1) kc ks QF 103 [(0, .ref 118), (1, .int x1), (2, .int x2), (3, .int x3), (4, .int x4)] [] M1 (PT x)) ∧ (v1 = x1 → (¬ (M1 119 0) = 0 ∧ ((¬ ((x4 >>> (x5 &&& 31)) &&& 1) = ((x4 >>> (((x5 + x2) - (x5 + x2) / (M1 119 0) * (M1 119 0)) &&& 31)) &&& 1) → WA X ad ca LY RX12 cX12_mean 6 (some FieldType.int) (d + 1) kc ks QF 43 [(0, .ref 118), (1, .int x1), (2, .int x2), (3, .int (x3 + 0)), (4, .int x4), (5, .int (x5 + 1))] [] M1 (PT x)) ∧ (((x4 >>> (x5 &&& 31)) &&& 1) = ((x4 >>> (((x5 + x2) - (x5 + x2) / (M1 119 0) * (M1 119 0)) &&& 31)) &&& 1) → WA X ad ca LY RX12 cX12_mean 6 (some FieldType.int) (d + 1) kc ks QF 43 [(0, .ref 118), (1, .int x1), (2, .int x2), (3, .int (x3 + 1)), (4, .int x4), (5, .int (x5 + 1))] [] M1 (PT x)))))))))) : WA X ad ca LY RX12 cX12_mean 6 (some FieldType.int) (d + 1) kc ks QF 43 [(0, .ref 118), (1, .int x1), (2, .int x2), (3, .int x3), (4, .int x4), (5, .int x5)] [] M (PT x) := by
  refine wa_iload dX12_mean_43 5 rfl ?_
  refine wa_aload_n dX12_mean_45 0 rfl rfl ?_
  refine wa_getr (r := 119) dX12_mean_46 fkX12_7 rfl rfl rfl ?_
  refine wa_iconst (v := 0) dX12_mean_49 rfl ?_
  refine wb_iald (j := 0) (v := M 119 0) dX12_mean_50 rfl (by unfold vp_in; decide) rfl rfl ?_
  refine wa_icmp_ge (tgt := 103) dX12_mean_51 rfl (fun hc => ?_) (fun hc => ?_)
  · replace hF := hF.1 hc
    exact wa_pick [0, 1, 2, 3, 4] rfl hF
  · replace hF := hF.2 hc
    refine wa_iload dX12_mean_54 4 rfl ?_
    obtain ⟨Q1, hM9, hF⟩ := hF
    refine wa_callS [.int x4] dX12_mean_56 (mmX12_count _ _) mlX12_336 mstX12_count rfl (a_dlt d) rfl rfl hM9 ?_
    rintro r9 M1 P9 ⟨v1, rfl, rfl, hq9⟩
    replace hF := hF v1 M1 hq9
    simp only [Option.toList, List.cons_append, List.nil_append]
    refine wa_iload_n dX12_mean_59 1 rfl rfl ?_
    refine wa_icmp_ne (tgt := 103) dX12_mean_60 rfl (fun hc => ?_) (fun hc => ?_)
    · replace hF := hF.1 hc
      exact wa_pick [0, 1, 2, 3, 4] rfl hF
    · replace hF := hF.2 hc
      refine wa_iload_n dX12_mean_63 3 rfl rfl ?_
      refine wa_iload dX12_mean_64 4 rfl ?_
      refine wa_iload dX12_mean_66 5 rfl ?_
      refine wa_ishr dX12_mean_68 ?_
      refine wa_iconst (v := 1) dX12_mean_69 rfl ?_
      refine wa_iand dX12_mean_70 ?_
      refine wa_iload dX12_mean_71 4 rfl ?_
      refine wa_iload dX12_mean_73 5 rfl ?_
      refine wa_iload_n dX12_mean_75 2 rfl rfl ?_
      refine wa_iadd dX12_mean_76 ?_
      refine wa_aload_n dX12_mean_77 0 rfl rfl ?_
      refine wa_getr (r := 119) dX12_mean_78 fkX12_7 rfl rfl rfl ?_
      refine wa_iconst (v := 0) dX12_mean_81 rfl ?_
      refine wb_iald (j := 0) (v := M1 119 0) dX12_mean_82 rfl (by unfold vp_in; decide) rfl rfl ?_
      obtain ⟨hn9, hF⟩ := hF
      refine wa_irem dX12_mean_83 hn9 ?_
      refine wa_ishr dX12_mean_84 ?_
      refine wa_iconst (v := 1) dX12_mean_85 rfl ?_
      refine wa_iand dX12_mean_86 ?_
      refine wa_icmp_ne (tgt := 94) dX12_mean_87 rfl (fun hc => ?_) (fun hc => ?_)
      · replace hF := hF.1 hc
        refine wa_iconst (v := 0) dX12_mean_94 rfl ?_
        refine wa_iadd dX12_mean_95 ?_
        refine wa_istore_n (lv' := [(3, .int (x3 + 0)), (0, .ref 118), (1, .int x1), (2, .int x2), (4, .int x4), (5, .int x5)]) dX12_mean_96 rfl rfl rfl ?_
        refine wa_iinc (v := x5 + 1) (lv' := [(5, .int (x5 + 1)), (3, .int (x3 + 0)), (0, .ref 118), (1, .int x1), (2, .int x2), (4, .int x4)]) dX12_mean_97 5 rfl rfl rfl rfl ?_
        refine wa_goto (tgt := 43) dX12_mean_100 rfl ?_
        exact wa_pick [2, 3, 4, 1, 5, 0] rfl hF
      · replace hF := hF.2 hc
        refine wa_iconst (v := 1) dX12_mean_90 rfl ?_
        refine wa_goto (tgt := 95) dX12_mean_91 rfl ?_
        refine wa_iadd dX12_mean_95 ?_
        refine wa_istore_n (lv' := [(3, .int (x3 + 1)), (0, .ref 118), (1, .int x1), (2, .int x2), (4, .int x4), (5, .int x5)]) dX12_mean_96 rfl rfl rfl ?_
        refine wa_iinc (v := x5 + 1) (lv' := [(5, .int (x5 + 1)), (3, .int (x3 + 1)), (0, .ref 118), (1, .int x1), (2, .int x2), (4, .int x4)]) dX12_mean_97 5 rfl rfl rfl rfl ?_
        refine wa_goto (tgt := 43) dX12_mean_100 rfl ?_
        exact wa_pick [2, 3, 4, 1, 5, 0] rfl hF

theorem bX12_mean_103 {X : a_X} {ad : Nat → Nat} {ca : Nat → ClassId} {d : Nat} {kc ks : Nat} {QF : List Frame → Array Value → State → State → Prop} {x : Nat} {M : a_M} (x1 : Int32) (x2 : Int32) (x3 : Int32) (x4 : Int32)  (hF : WA X ad ca LY RX12 cX12_mean 6 (some FieldType.int) (d + 1) kc ks QF 31 [(0, .ref 118), (1, .int x1), (2, .int x2), (3, .int x3), (4, .int (x4 + 1))] [] M (PT x)) : WA X ad ca LY RX12 cX12_mean 6 (some FieldType.int) (d + 1) kc ks QF 103 [(0, .ref 118), (1, .int x1), (2, .int x2), (3, .int x3), (4, .int x4)] [] M (PT x) := by
  refine wa_iinc (v := x4 + 1) (lv' := [(4, .int (x4 + 1)), (0, .ref 118), (1, .int x1), (2, .int x2), (3, .int x3)]) dX12_mean_103 4 rfl rfl rfl rfl ?_
  refine wa_goto (tgt := 31) dX12_mean_106 rfl ?_
  exact wa_pick [1, 2, 3, 4, 0] rfl hF

theorem eX12_mean {X : a_X} {ad : Nat → Nat} {ca : Nat → ClassId} {d : Nat} {Post : Option Value → a_M → a_P → Prop} {x : Nat} {M : a_M} (x1 : Int32) (x2 : Int32) (h : WA X ad ca LY RX12 cX12_mean 6 (some FieldType.int) d 0 0 (a_E X ad ca LY Post) 0 [(0, .ref 118), (1, .int x1), (2, .int x2)] [] M (PT x)) : Mt X ad ca LY d yX12_mean cX12_mean 6 (some FieldType.int) [.ref 118, .int x1, .int x2] M (PT x) Post := Mt.of (lv := [(0, .ref 118), (1, .int x1), (2, .int x2)]) (by decide +kernel) rfl rfl rfl (wa_pick [0, 1, 2] rfl h)
