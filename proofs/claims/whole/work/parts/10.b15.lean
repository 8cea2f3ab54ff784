theorem bX12_pair_0 {X : a_X} {ad : Nat → Nat} {ca : Nat → ClassId} {d : Nat} {Post : Option Value → a_M → a_P → Prop} {x : Nat} {M : a_M} (x1 : Int32) (x2 : Int32) (x3 : Int32)  (hF : (∃ Q1 : Int32 → a_M → Prop, Mt X ad ca LY d yX12_in cX12_in 3 (some FieldType.boolean) [.int x1, .int 0, .int 2] M (PT x) (q_i (PT x) Q1) ∧ ∀ v1 M1, Q1 v1 M1 → ((v1 = 0 → WA X ad ca LY RX12 cX12_pair 6 (some FieldType.int) (d + 1) 0 0 (a_E X ad ca LY Post) 14 [] [] M1 (PT x)) ∧ (¬ v1 = 0 → (((-1) ≤ x2 → (∃ Q2 : Int32 → a_M → Prop, Mt X ad ca LY d yX12_laysPair cX12_laysPair 5 (some FieldType.boolean) [.ref 118, .int x1, .int x2] M1 (PT x) (q_i (PT x) Q2) ∧ ∀ v2 M2, Q2 v2 M2 → ((¬ x2 = (-1) → ((¬ v2 = 0 → (∃ Q3 : Int32 → a_M → Prop, Mt X ad ca LY d yX12_in cX12_in 3 (some FieldType.boolean) [.int x3, .int 0, .int x1] M2 (PT x) (q_i (PT x) Q3) ∧ ∀ v3 M3, Q3 v3 M3 → ((v3 = 0 → (∃ Q4 : Int32 → a_M → Prop, Mt X ad ca LY d yX12_in cX12_in 3 (some FieldType.boolean) [.int x3, .int 10, .int (10 + (M3 119 0))] M3 (PT x) (q_i (PT x) Q4) ∧ ∀ v4 M4, Q4 v4 M4 → ((v4 = 0 → ((¬ (M4 150 0) = 0 → (¬ (M4 119 2) = 0 ∧ (∃ Q5 : Int32 → a_M → Prop, Mt X ad ca LY d yX12_over cX12_over 4 (some FieldType.int) [.ref 118, .int (((M4 119 3) * (M4 150 1)) - ((M4 119 3) * (M4 150 1)) / (M4 119 2) * (M4 119 2)), .int (M4 150 0)] M4 (PT x) (q_i (PT x) Q5) ∧ ∀ v5 M5, Q5 v5 M5 → ((x3 = 30 → Post (some (.int v5)) M5 (PT x)) ∧ (x3 = 31 → (∃ Q6 : Int32 → a_M → Prop, Mt X ad ca LY d yX12_raised cX12_raised 5 (some FieldType.int) [.ref 118, .int (M5 119 3), .int (M5 119 0)] M5 (PT x) (q_i (PT x) Q6) ∧ ∀ v6 M6, Q6 v6 M6 → (∃ Q7 : Int32 → a_M → Prop, Mt X ad ca LY d yX12_over cX12_over 4 (some FieldType.int) [.ref 118, .int (M5 150 0), .int v6] M6 (PT x) (q_i (PT x) Q7) ∧ ∀ v7 M7, Q7 v7 M7 → Post (some (.int v7)) M7 (PT x)))) ∧ (x3 = 32 → (∃ Q8 : a_M → Prop, Mt X ad ca LY d yX12_laysOwn cX12_laysOwn 4 none [.ref 118, .int x1, .int 1, .int 1] M5 (PT x) (q_v (PT x) Q8) ∧ ∀ M8, Q8 M8 → (∃ Q9 : Int32 → a_M → Prop, Mt X ad ca LY d yX12_oftenOf cX12_oftenOf 7 (some FieldType.int) [.ref 118, .int v5] M8 (PT x) (q_i (PT x) Q9) ∧ ∀ v9 M9, Q9 v9 M9 → ((v9 ≤ 0 → Post (some (.int 0)) M9 (PT x)) ∧ (¬ v9 ≤ 0 → Post (some (.int 1)) M9 (PT x)))))) ∧ ((x3).toInt < 30 ∨ 32 < (x3).toInt → Post (some (.int (-1))) M5 (PT x)))))) ∧ ((M4 150 0) = 0 → ((¬ x3 = 32 → Post (some (.int (-1))) M4 (PT x)) ∧ (x3 = 32 → Post (some (.int 0)) M4 (PT x)))))) ∧ (¬ v4 = 0 → (vp_in (x3 - 10) 8 ∧ Post (some (.int (M4 150 ((x3 - 10).toNatClampNeg)))) M4 (PT x)))))) ∧ (¬ v3 = 0 → (vp_in x3 3 ∧ Post (some (.int (M3 148 x3.toNatClampNeg))) M3 (PT x)))))) ∧ (v2 = 0 → Post (some (.int (-1))) M2 (PT x)))) ∧ (x2 = (-1) → Post (some (.int (M2 118 55))) M2 (PT x))))) ∧ (¬ (-1) ≤ x2 → WA X ad ca LY RX12 cX12_pair 6 (some FieldType.int) (d + 1) 0 0 (a_E X ad ca LY Post) 14 [] [] M1 (PT x))))))) : WA X ad ca LY RX12 cX12_pair 6 (some FieldType.int) (d + 1) 0 0 (a_E X ad ca LY Post) 0 [(0, .ref 118), (1, .int x1), (2, .int x2), (3, .int x3)] [] M (PT x) := by
  refine wa_iload_n dX12_pair_0 1 rfl rfl ?_
  refine wa_iconst (v := 0) dX12_pair_1 rfl ?_
  refine wa_iconst (v := 2) dX12_pair_2 rfl ?_
  obtain ⟨Q1, hM9, hF⟩ := hF
  refine wa_callS [.int x1, .int 0, .int 2] dX12_pair_3 (mmX12_in _ _) mlX12_124 mstX12_in rfl (a_dlt d) rfl rfl hM9 ?_
  rintro r9 M1 P9 ⟨v1, rfl, rfl, hq9⟩
  replace hF := hF v1 M1 hq9
  simp only [Option.toList, List.cons_append, List.nil_append]
  refine wa_if_eq (tgt := 14) dX12_pair_6 rfl (fun hc => ?_) (fun hc => ?_)
  · replace hF := hF.1 hc
    exact wa_pick [] rfl hF
  · replace hF := hF.2 hc
    refine wa_iload_n dX12_pair_9 2 rfl rfl ?_
    refine wa_iconst (v := (-1)) dX12_pair_10 rfl ?_
    refine wa_icmp_ge (tgt := 16) dX12_pair_11 rfl (fun hc => ?_) (fun hc => ?_)
    · replace hF := hF.1 hc
      refine wa_aload_n dX12_pair_16 0 rfl rfl ?_
      refine wa_iload_n dX12_pair_17 1 rfl rfl ?_
      refine wa_iload_n dX12_pair_18 2 rfl rfl ?_
      obtain ⟨Q2, hM9, hF⟩ := hF
      refine wa_callV [.int x1, .int x2] dX12_pair_19 (mmX12_laysPair _ _) mlX12_408 mnX12_laysPair mseX12_laysPair rfl rfl rfl rfl (a_dlt d) rfl rfl hM9 ?_
      rintro r9 M2 P9 ⟨v2, rfl, rfl, hq9⟩
      replace hF := hF v2 M2 hq9
      simp only [Option.toList, List.cons_append, List.nil_append]
      refine wa_istore (lv' := [(4, .int v2), (0, .ref 118), (1, .int x1), (2, .int x2), (3, .int x3)]) dX12_pair_22 rfl rfl ?_
      refine wa_iload_n dX12_pair_24 3 rfl rfl ?_
      refine wa_iconst (v := (-1)) dX12_pair_25 rfl ?_
      refine wa_icmp_ne (tgt := 34) dX12_pair_26 rfl (fun hc => ?_) (fun hc => ?_)
      · replace hF := hF.1 hc
        refine wa_iload dX12_pair_34 0 rfl ?_
        refine wa_if_ne (tgt := 41) dX12_pair_36 rfl (fun hc => ?_) (fun hc => ?_)
        · replace hF := hF.1 hc
          refine wa_iload_n dX12_pair_41 4 rfl rfl ?_
          refine wa_iconst (v := 0) dX12_pair_42 rfl ?_
          refine wa_iload_n dX12_pair_43 2 rfl rfl ?_
          obtain ⟨Q3, hM9, hF⟩ := hF
          refine wa_callS [.int x3, .int 0, .int x1] dX12_pair_44 (mmX12_in _ _) mlX12_124 mstX12_in rfl (a_dlt d) rfl rfl hM9 ?_
          rintro r9 M3 P9 ⟨v3, rfl, rfl, hq9⟩
          replace hF := hF v3 M3 hq9
          simp only [Option.toList, List.cons_append, List.nil_append]
          refine wa_if_eq (tgt := 57) dX12_pair_47 rfl (fun hc => ?_) (fun hc => ?_)
          · replace hF := hF.1 hc
            refine wa_iload_n dX12_pair_57 4 rfl rfl ?_
            refine wa_bipush (v := 10) dX12_pair_58 rfl ?_
            refine wa_bipush (v := 10) dX12_pair_60 rfl ?_
            refine wa_aload_n dX12_pair_62 1 rfl rfl ?_
            refine wa_getr (r := 119) dX12_pair_63 fkX12_7 rfl rfl rfl ?_
            refine wa_iconst (v := 0) dX12_pair_66 rfl ?_
            refine wb_iald (j := 0) (v := M3 119 0) dX12_pair_67 rfl (by unfold vp_in; decide) rfl rfl ?_
            refine wa_iadd dX12_pair_68 ?_
            obtain ⟨Q4, hM9, hF⟩ := hF
            refine wa_callS [.int x3, .int 10, .int (10 + (M3 119 0))] dX12_pair_69 (mmX12_in _ _) mlX12_124 mstX12_in rfl (a_dlt d) rfl rfl hM9 ?_
            rintro r9 M4 P9 ⟨v4, rfl, rfl, hq9⟩
            replace hF := hF v4 M4 hq9
            simp only [Option.toList, List.cons_append, List.nil_append]
            refine wa_if_eq (tgt := 85) dX12_pair_72 rfl (fun hc => ?_) (fun hc => ?_)
            · replace hF := hF.1 hc
              refine wa_aload_n dX12_pair_85 1 rfl rfl ?_
              refine wa_getr (r := 150) dX12_pair_86 fkX12_111 rfl rfl rfl ?_
              refine wa_iconst (v := 0) dX12_pair_89 rfl ?_
              refine wb_iald (j := 0) (v := M4 150 0) dX12_pair_90 rfl (by unfold vp_in; decide) rfl rfl ?_
              refine wa_if_ne (tgt := 106) dX12_pair_91 rfl (fun hc => ?_) (fun hc => ?_)
              · replace hF := hF.1 hc
                refine wa_aload_n dX12_pair_106 1 rfl rfl ?_
                refine wa_aload_n dX12_pair_107 1 rfl rfl ?_
                refine wa_getr (r := 119) dX12_pair_108 fkX12_7 rfl rfl rfl ?_
                refine wa_iconst (v := 3) dX12_pair_111 rfl ?_
                refine wb_iald (j := 3) (v := M4 119 3) dX12_pair_112 rfl (by unfold vp_in; decide) rfl rfl ?_
                refine wa_aload_n dX12_pair_113 1 rfl rfl ?_
                refine wa_getr (r := 150) dX12_pair_114 fkX12_111 rfl rfl rfl ?_
                refine wa_iconst (v := 1) dX12_pair_117 rfl ?_
                refine wb_iald (j := 1) (v := M4 150 1) dX12_pair_118 rfl (by unfold vp_in; decide) rfl rfl ?_
                refine wa_imul dX12_pair_119 ?_
                refine wa_aload_n dX12_pair_120 1 rfl rfl ?_
                refine wa_getr (r := 119) dX12_pair_121 fkX12_7 rfl rfl rfl ?_
                refine wa_iconst (v := 2) dX12_pair_124 rfl ?_
                refine wb_iald (j := 2) (v := M4 119 2) dX12_pair_125 rfl (by unfold vp_in; decide) rfl rfl ?_
                obtain ⟨hn9, hF⟩ := hF
                refine wa_irem dX12_pair_126 hn9 ?_
                refine wa_aload_n dX12_pair_127 1 rfl rfl ?_
                refine wa_getr (r := 150) dX12_pair_128 fkX12_111 rfl rfl rfl ?_
                refine wa_iconst (v := 0) dX12_pair_131 rfl ?_
                refine wb_iald (j := 0) (v := M4 150 0) dX12_pair_132 rfl (by unfold vp_in; decide) rfl rfl ?_
                obtain ⟨Q5, hM9, hF⟩ := hF
                refine wa_callV [.int (((M4 119 3) * (M4 150 1)) - ((M4 119 3) * (M4 150 1)) / (M4 119 2) * (M4 119 2)), .int (M4 150 0)] dX12_pair_133 (mmX12_over _ _) mlX12_271 mnX12_over mseX12_over rfl rfl rfl rfl (a_dlt d) rfl rfl hM9 ?_
                rintro r9 M5 P9 ⟨v5, rfl, rfl, hq9⟩
                replace hF := hF v5 M5 hq9
                simp only [Option.toList, List.cons_append, List.nil_append]
                refine wa_istore (lv' := [(5, .int v5), (4, .int v2), (0, .ref 118), (1, .int x1), (2, .int x2), (3, .int x3)]) dX12_pair_136 rfl rfl ?_
                refine wa_iload_n dX12_pair_138 5 rfl rfl ?_
                by_cases hk0 : x3 = 30
                · replace hF := hF.1 hk0
                  rw [hk0]
                  refine wa_tableIn (off := 25) (tgt := 164) dX12_pair_139 (by decide) (by decide) rfl rfl ?_
                  refine wa_iload dX12_pair_164 0 rfl ?_
                  exact wa_iret dX12_pair_166 rfl rfl hF
                replace hF := hF.2
                by_cases hk1 : x3 = 31
                · replace hF := hF.1 hk1
                  rw [hk1]
                  refine wa_tableIn (off := 28) (tgt := 167) dX12_pair_139 (by decide) (by decide) rfl rfl ?_
                  refine wa_aload_n dX12_pair_167 2 rfl rfl ?_
                  refine wa_aload_n dX12_pair_168 2 rfl rfl ?_
                  refine wa_getr (r := 150) dX12_pair_169 fkX12_111 rfl rfl rfl ?_
                  refine wa_iconst (v := 0) dX12_pair_172 rfl ?_
                  refine wb_iald (j := 0) (v := M5 150 0) dX12_pair_173 rfl (by unfold vp_in; decide) rfl rfl ?_
                  refine wa_aload_n dX12_pair_174 2 rfl rfl ?_
                  refine wa_aload_n dX12_pair_175 2 rfl rfl ?_
                  refine wa_getr (r := 119) dX12_pair_176 fkX12_7 rfl rfl rfl ?_
                  refine wa_iconst (v := 3) dX12_pair_179 rfl ?_
                  refine wb_iald (j := 3) (v := M5 119 3) dX12_pair_180 rfl (by unfold vp_in; decide) rfl rfl ?_
                  refine wa_aload_n dX12_pair_181 2 rfl rfl ?_
                  refine wa_getr (r := 119) dX12_pair_182 fkX12_7 rfl rfl rfl ?_
                  refine wa_iconst (v := 0) dX12_pair_185 rfl ?_
                  refine wb_iald (j := 0) (v := M5 119 0) dX12_pair_186 rfl (by unfold vp_in; decide) rfl rfl ?_
                  obtain ⟨Q6, hM9, hF⟩ := hF
                  refine wa_callV [.int (M5 119 3), .int (M5 119 0)] dX12_pair_187 (mmX12_raised _ _) mlX12_357 mnX12_raised mseX12_raised rfl rfl rfl rfl (a_dlt d) rfl rfl hM9 ?_
                  rintro r9 M6 P9 ⟨v6, rfl, rfl, hq9⟩
                  replace hF := hF v6 M6 hq9
                  simp only [Option.toList, List.cons_append, List.nil_append]
                  obtain ⟨Q7, hM9, hF⟩ := hF
                  refine wa_callV [.int (M5 150 0), .int v6] dX12_pair_190 (mmX12_over _ _) mlX12_271 mnX12_over mseX12_over rfl rfl rfl rfl (a_dlt d) rfl rfl hM9 ?_
                  rintro r9 M7 P9 ⟨v7, rfl, rfl, hq9⟩
                  replace hF := hF v7 M7 hq9
                  simp only [Option.toList, List.cons_append, List.nil_append]
                  exact wa_iret dX12_pair_193 rfl rfl hF
                replace hF := hF.2
                by_cases hk2 : x3 = 32
                · replace hF := hF.1 hk2
                  rw [hk2]
                  refine wa_tableIn (off := 55) (tgt := 194) dX12_pair_139 (by decide) (by decide) rfl rfl ?_
                  refine wa_aload_n dX12_pair_194 2 rfl rfl ?_
                  refine wa_iload_n dX12_pair_195 3 rfl rfl ?_
                  refine wa_iconst (v := 1) dX12_pair_196 rfl ?_
                  refine wa_iconst (v := 1) dX12_pair_197 rfl ?_
                  obtain ⟨Q8, hM9, hF⟩ := hF
                  refine wa_callV [.int x1, .int 1, .int 1] dX12_pair_198 (mmX12_laysOwn _ _) mlX12_387 mnX12_laysOwn mseX12_laysOwn rfl rfl rfl rfl (a_dlt d) rfl rfl hM9 ?_
                  rintro r9 M8 P9 ⟨rfl, rfl, hq9⟩
                  replace hF := hF M8 hq9
                  simp only [Option.toList, List.nil_append]
                  refine wa_aload_n dX12_pair_201 2 rfl rfl ?_
                  refine wa_iload dX12_pair_202 0 rfl ?_
                  obtain ⟨Q9, hM9, hF⟩ := hF
                  refine wa_callV [.int v5] dX12_pair_204 (mmX12_oftenOf _ _) mlX12_390 mnX12_oftenOf mseX12_oftenOf rfl rfl rfl rfl (a_dlt d) rfl rfl hM9 ?_
                  rintro r9 M9 P9 ⟨v9, rfl, rfl, hq9⟩
                  replace hF := hF v9 M9 hq9
                  simp only [Option.toList, List.cons_append, List.nil_append]
                  refine wa_if_le (tgt := 214) dX12_pair_207 rfl (fun hc => ?_) (fun hc => ?_)
                  · replace hF := hF.1 hc
                    refine wa_iconst (v := 0) dX12_pair_214 rfl ?_
                    exact wa_iret dX12_pair_215 rfl rfl hF
                  · replace hF := hF.2 hc
                    refine wa_iconst (v := 1) dX12_pair_210 rfl ?_
                    refine wa_goto (tgt := 215) dX12_pair_211 rfl ?_
                    exact wa_iret dX12_pair_215 rfl rfl hF
                replace hF := hF.2
                have ht0 : (x3).toInt ≠ 30 := a_ti hk0
                have ht1 : (x3).toInt ≠ 31 := a_ti hk1
                have ht2 : (x3).toInt ≠ 32 := a_ti hk2
                have hd9 : (x3).toInt < 30 ∨ 32 < (x3).toInt := by omega
                replace hF := hF hd9
                refine wa_tableOut (tgt := 216) dX12_pair_139 hd9 rfl ?_
                refine wa_iconst (v := (-1)) dX12_pair_216 rfl ?_
                exact wa_iret dX12_pair_217 rfl rfl hF
              · replace hF := hF.2 hc
                refine wa_iload_n dX12_pair_94 4 rfl rfl ?_
                refine wa_bipush (v := 32) dX12_pair_95 rfl ?_
                refine wa_icmp_ne (tgt := 104) dX12_pair_97 rfl (fun hc => ?_) (fun hc => ?_)
                · replace hF := hF.1 hc
                  refine wa_iconst (v := (-1)) dX12_pair_104 rfl ?_
                  exact wa_iret dX12_pair_105 rfl rfl hF
                · replace hF := hF.2 hc
                  refine wa_iconst (v := 0) dX12_pair_100 rfl ?_
                  refine wa_goto (tgt := 105) dX12_pair_101 rfl ?_
                  exact wa_iret dX12_pair_105 rfl rfl hF
            · replace hF := hF.2 hc
              refine wa_aload_n dX12_pair_75 1 rfl rfl ?_
              refine wa_getr (r := 150) dX12_pair_76 fkX12_111 rfl rfl rfl ?_
              refine wa_iload_n dX12_pair_79 4 rfl rfl ?_
              refine wa_bipush (v := 10) dX12_pair_80 rfl ?_
              refine wa_isub dX12_pair_82 ?_
              obtain ⟨hi9, hF⟩ := hF
              refine wb_iald (j := (x3 - 10).toNatClampNeg) (v := M4 150 ((x3 - 10).toNatClampNeg)) dX12_pair_83 rfl hi9 rfl rfl ?_
              exact wa_iret dX12_pair_84 rfl rfl hF
          · replace hF := hF.2 hc
            refine wa_aload_n dX12_pair_50 1 rfl rfl ?_
            refine wa_getr (r := 148) dX12_pair_51 fkX12_105 rfl rfl rfl ?_
            refine wa_iload_n dX12_pair_54 4 rfl rfl ?_
            obtain ⟨hi9, hF⟩ := hF
            refine wb_iald (j := x3.toNatClampNeg) (v := M3 148 x3.toNatClampNeg) dX12_pair_55 rfl hi9 rfl rfl ?_
            exact wa_iret dX12_pair_56 rfl rfl hF
        · replace hF := hF.2 hc
          refine wa_iconst (v := (-1)) dX12_pair_39 rfl ?_
          exact wa_iret dX12_pair_40 rfl rfl hF
      · replace hF := hF.2 hc
        refine wa_aload_n dX12_pair_29 1 rfl rfl ?_
        refine wb_geti (v := M2 118 55) dX12_pair_30 fkX12_402 rfl rfl rfl ?_
        exact wa_iret dX12_pair_33 rfl rfl hF
    · replace hF := hF.2 hc
      exact wa_pick [] rfl hF

theorem bX12_pair_14 {X : a_X} {ad : Nat → Nat} {ca : Nat → ClassId} {d : Nat} {Post : Option Value → a_M → a_P → Prop} {x : Nat} {M : a_M}   (hF : Post (some (.int (-1))) M (PT x)) : WA X ad ca LY RX12 cX12_pair 6 (some FieldType.int) (d + 1) 0 0 (a_E X ad ca LY Post) 14 [] [] M (PT x) := by
  refine wa_iconst (v := (-1)) dX12_pair_14 rfl ?_
  exact wa_iret dX12_pair_15 rfl rfl hF

theorem eX12_pair {X : a_X} {ad : Nat → Nat} {ca : Nat → ClassId} {d : Nat} {Post : Option Value → a_M → a_P → Prop} {x : Nat} {M : a_M} (x1 : Int32) (x2 : Int32) (x3 : Int32) (h : WA X ad ca LY RX12 cX12_pair 6 (some FieldType.int) d 0 0 (a_E X ad ca LY Post) 0 [(0, .ref 118), (1, .int x1), (2, .int x2), (3, .int x3)] [] M (PT x)) : Mt X ad ca LY d yX12_pair cX12_pair 6 (some FieldType.int) [.ref 118, .int x1, .int x2, .int x3] M (PT x) Post := Mt.of (lv := [(0, .ref 118), (1, .int x1), (2, .int x2), (3, .int x3)]) (by decide +kernel) rfl rfl rfl (wa_pick [0, 1, 2, 3] rfl h)

theorem bX12_cell_0 {X : a_X} {ad : Nat → Nat} {ca : Nat → ClassId} {d : Nat} {Post : Option Value → a_M → a_P → Prop} {x : Nat} {M : a_M} (x1 : Int32)  (hF : Post (some (.int ((10 + (128 * (M 119 7))) + x1))) M (PT x)) : WA X ad ca LY RX12 cX12_cell 2 (some FieldType.int) (d + 1) 0 0 (a_E X ad ca LY Post) 0 [(0, .ref 118), (1, .int x1)] [] M (PT x) := by
  refine wa_bipush (v := 10) dX12_cell_0 rfl ?_
  refine wa_sipush (v := 128) dX12_cell_2 rfl ?_
  refine wa_aload_n dX12_cell_5 0 rfl rfl ?_
  refine wa_getr (r := 119) dX12_cell_6 fkX12_7 rfl rfl rfl ?_
  refine wa_bipush (v := 7) dX12_cell_9 rfl ?_
  refine wb_iald (j := 7) (v := M 119 7) dX12_cell_11 rfl (by unfold vp_in; decide) rfl rfl ?_
  refine wa_imul dX12_cell_12 ?_
  refine wa_iadd dX12_cell_13 ?_
  refine wa_iload_n dX12_cell_14 1 rfl rfl ?_
  refine wa_iadd dX12_cell_15 ?_
  exact wa_iret dX12_cell_16 rfl rfl hF

theorem eX12_cell {X : a_X} {ad : Nat → Nat} {ca : Nat → ClassId} {d : Nat} {Post : Option Value → a_M → a_P → Prop} {x : Nat} {M : a_M} (x1 : Int32) (h : WA X ad ca LY RX12 cX12_cell 2 (some FieldType.int) d 0 0 (a_E X ad ca LY Post) 0 [(0, .ref 118), (1, .int x1)] [] M (PT x)) : Mt X ad ca LY d yX12_cell cX12_cell 2 (some FieldType.int) [.ref 118, .int x1] M (PT x) Post := Mt.of (lv := [(0, .ref 118), (1, .int x1)]) (by decide +kernel) rfl rfl rfl (wa_pick [0, 1] rfl h)

theorem bX12_set_0 {X : a_X} {ad : Nat → Nat} {ca : Nat → ClassId} {d : Nat} {Post : Option Value → a_M → a_P → Prop} {x : Nat} {M : a_M} (x1 : Int32)  (hF : (∃ Q1 : Int32 → a_M → Prop, Mt X ad ca LY d yX12_isState cX12_isState 2 (some FieldType.boolean) [.ref 118, .int x1] M (PT x) (q_i (PT x) Q1) ∧ ∀ v1 M1, Q1 v1 M1 → ((¬ v1 = 0 → (∃ Q2 : a_M → Prop, Mt X ad ca LY d yX12_forgets cX12_forgets 1 none [.ref 118] M1 (PT x) (q_v (PT x) Q2) ∧ ∀ M2, Q2 M2 → WA X ad ca LY RX12 cX12_set 3 (some FieldType.boolean) (d + 1) 0 0 (a_E X ad ca LY Post) 16 [(0, .ref 118), (1, .int x1), (2, .int 0)] [] M2 (PT x))) ∧ (v1 = 0 → Post (some (.int 0)) M1 (PT x))))) : WA X ad ca LY RX12 cX12_set 3 (some FieldType.boolean) (d + 1) 0 0 (a_E X ad ca LY Post) 0 [(0, .ref 118), (1, .int x1)] [] M (PT x) := by
  refine wa_aload_n dX12_set_0 0 rfl rfl ?_
  refine wa_iload_n dX12_set_1 1 rfl rfl ?_
  obtain ⟨Q1, hM9, hF⟩ := hF
  refine wa_callV [.int x1] dX12_set_2 (mmX12_isState _ _) mlX12_314 mnX12_isState mseX12_isState rfl rfl rfl rfl (a_dlt d) rfl rfl hM9 ?_
  rintro r9 M1 P9 ⟨v1, rfl, rfl, hq9⟩
  replace hF := hF v1 M1 hq9
  simp only [Option.toList, List.cons_append, List.nil_append]
  refine wa_if_ne (tgt := 10) dX12_set_5 rfl (fun hc => ?_) (fun hc => ?_)
  · replace hF := hF.1 hc
    refine wa_aload_n dX12_set_10 0 rfl rfl ?_
    obtain ⟨Q2, hM9, hF⟩ := hF
    refine wa_callV [] dX12_set_11 (mmX12_forgets _ _) mlX12_132 mnX12_forgets mseX12_forgets rfl rfl rfl rfl (a_dlt d) rfl rfl hM9 ?_
    rintro r9 M2 P9 ⟨rfl, rfl, hq9⟩
    replace hF := hF M2 hq9
    simp only [Option.toList, List.nil_append]
    refine wa_iconst (v := 0) dX12_set_14 rfl ?_
    refine wa_istore_n (lv' := [(2, .int 0), (0, .ref 118), (1, .int x1)]) dX12_set_15 rfl rfl rfl ?_
    exact wa_pick [1, 2, 0] rfl hF
  · replace hF := hF.2 hc
    refine wa_iconst (v := 0) dX12_set_8 rfl ?_
    exact wa_iret dX12_set_9 rfl rfl hF

theorem bX12_set_16 {X : a_X} {ad : Nat → Nat} {ca : Nat → ClassId} {d : Nat} {Post : Option Value → a_M → a_P → Prop} {x : Nat} {M : a_M} (x1 : Int32) (x2 : Int32)  (hF : ((128 ≤ x2 → Post (some (.int 1)) M (PT x)) ∧ (¬ 128 ≤ x2 → ((¬ x2 = x1 → (vp_in (10 + x2) 2698 ∧ WA X ad ca LY RX12 cX12_set 3 (some FieldType.boolean) (d + 1) 0 0 (a_E X ad ca LY Post) 16 [(0, .ref 118), (1, .int x1), (2, .int (x2 + 1))] [] (ms M 119 ((10 + x2).toNatClampNeg) 0) (PT x))) ∧ (x2 = x1 → (vp_in (10 + x2) 2698 ∧ WA X ad ca LY RX12 cX12_set 3 (some FieldType.boolean) (d + 1) 0 0 (a_E X ad ca LY Post) 16 [(0, .ref 118), (1, .int x1), (2, .int (x2 + 1))] [] (ms M 119 ((10 + x2).toNatClampNeg) 1) (PT x))))))) : WA X ad ca LY RX12 cX12_set 3 (some FieldType.boolean) (d + 1) 0 0 (a_E X ad ca LY Post) 16 [(0, .ref 118), (1, .int x1), (2, .int x2)] [] M (PT x) := by
  refine wa_iload_n dX12_set_16 2 rfl rfl ?_
  refine wa_sipush (v := 128) dX12_set_17 rfl ?_
  refine wa_icmp_ge (tgt := 48) dX12_set_20 rfl (fun hc => ?_) (fun hc => ?_)
  · replace hF := hF.1 hc
    refine wa_iconst (v := 1) dX12_set_48 rfl ?_
    exact wa_iret dX12_set_49 rfl rfl hF
  · replace hF := hF.2 hc
    refine wa_aload_n dX12_set_23 0 rfl rfl ?_
    refine wa_getr (r := 119) dX12_set_24 fkX12_7 rfl rfl rfl ?_
    refine wa_bipush (v := 10) dX12_set_27 rfl ?_
    refine wa_iload_n dX12_set_29 2 rfl rfl ?_
    refine wa_iadd dX12_set_30 ?_
    refine wa_iload_n dX12_set_31 2 rfl rfl ?_
    refine wa_iload_n dX12_set_32 1 rfl rfl ?_
    refine wa_icmp_ne (tgt := 40) dX12_set_33 rfl (fun hc => ?_) (fun hc => ?_)
    · replace hF := hF.1 hc
      refine wa_iconst (v := 0) dX12_set_40 rfl ?_
      obtain ⟨hi9, hF⟩ := hF
      refine wb_iast (j := (10 + x2).toNatClampNeg) dX12_set_41 rfl hi9 rfl ?_
      refine wa_iinc (v := x2 + 1) (lv' := [(2, .int (x2 + 1)), (0, .ref 118), (1, .int x1)]) dX12_set_42 2 rfl rfl rfl rfl ?_
      refine wa_goto (tgt := 16) dX12_set_45 rfl ?_
      exact wa_pick [1, 2, 0] rfl hF
    · replace hF := hF.2 hc
      refine wa_iconst (v := 1) dX12_set_36 rfl ?_
      refine wa_goto (tgt := 41) dX12_set_37 rfl ?_
      obtain ⟨hi9, hF⟩ := hF
      refine wb_iast (j := (10 + x2).toNatClampNeg) dX12_set_41 rfl hi9 rfl ?_
      refine wa_iinc (v := x2 + 1) (lv' := [(2, .int (x2 + 1)), (0, .ref 118), (1, .int x1)]) dX12_set_42 2 rfl rfl rfl rfl ?_
      refine wa_goto (tgt := 16) dX12_set_45 rfl ?_
      exact wa_pick [1, 2, 0] rfl hF

theorem eX12_set {X : a_X} {ad : Nat → Nat} {ca : Nat → ClassId} {d : Nat} {Post : Option Value → a_M → a_P → Prop} {x : Nat} {M : a_M} (x1 : Int32) (h : WA X ad ca LY RX12 cX12_set 3 (some FieldType.boolean) d 0 0 (a_E X ad ca LY Post) 0 [(0, .ref 118), (1, .int x1)] [] M (PT x)) : Mt X ad ca LY d yX12_set cX12_set 3 (some FieldType.boolean) [.ref 118, .int x1] M (PT x) Post := Mt.of (lv := [(0, .ref 118), (1, .int x1)]) (by decide +kernel) rfl rfl rfl (wa_pick [0, 1] rfl h)

theorem bX12_canAct_0 {X : a_X} {ad : Nat → Nat} {ca : Nat → ClassId} {d : Nat} {Post : Option Value → a_M → a_P → Prop} {x : Nat} {M : a_M} (x1 : Int32) (x2 : Int32)  (hF : ((¬ x1 = 1 → ((¬ x1 = 3 → ((x1 = 0 → WA X ad ca LY RX12 cX12_canAct 3 (some FieldType.boolean) (d + 1) 0 0 (a_E X ad ca LY Post) 43 [] [] M (PT x)) ∧ (¬ x1 = 0 → ((¬ x1 = 2 → Post (some (.int 0)) M (PT x)) ∧ (x1 = 2 → WA X ad ca LY RX12 cX12_canAct 3 (some FieldType.boolean) (d + 1) 0 0 (a_E X ad ca LY Post) 43 [] [] M (PT x)))))) ∧ (x1 = 3 → (∃ Q1 : Int32 → a_M → Prop, Mt X ad ca LY d yX12_isNumber cX12_isNumber 2 (some FieldType.boolean) [.ref 118, .int x2] M (PT x) (q_i (PT x) Q1) ∧ ∀ v1 M1, Q1 v1 M1 → ((v1 = 0 ∨ v1 = 1) ∧ Post (some (.int v1)) M1 (PT x)))))) ∧ (x1 = 1 → (∃ Q2 : Int32 → a_M → Prop, Mt X ad ca LY d yX12_in cX12_in 3 (some FieldType.boolean) [.int x2, .int 0, .int ((M 119 0) - 1)] M (PT x) (q_i (PT x) Q2) ∧ ∀ v2 M2, Q2 v2 M2 → ((v2 = 0 ∨ v2 = 1) ∧ Post (some (.int v2)) M2 (PT x)))))) : WA X ad ca LY RX12 cX12_canAct 3 (some FieldType.boolean) (d + 1) 0 0 (a_E X ad ca LY Post) 0 [(0, .ref 118), (1, .int x1), (2, .int x2)] [] M (PT x) := by
  refine wa_iload_n dX12_canAct_0 1 rfl rfl ?_
  refine wa_iconst (v := 1) dX12_canAct_1 rfl ?_
  refine wa_icmp_ne (tgt := 21) dX12_canAct_2 rfl (fun hc => ?_) (fun hc => ?_)
  · replace hF := hF.1 hc
    refine wa_iload_n dX12_canAct_21 1 rfl rfl ?_
    refine wa_iconst (v := 3) dX12_canAct_22 rfl ?_
    refine wa_icmp_ne (tgt := 34) dX12_canAct_23 rfl (fun hc => ?_) (fun hc => ?_)
    · replace hF := hF.1 hc
      refine wa_iload_n dX12_canAct_34 1 rfl rfl ?_
      refine wa_if_eq (tgt := 43) dX12_canAct_35 rfl (fun hc => ?_) (fun hc => ?_)
      · replace hF := hF.1 hc
        exact wa_pick [] rfl hF
      · replace hF := hF.2 hc
        refine wa_iload_n dX12_canAct_38 1 rfl rfl ?_
        refine wa_iconst (v := 2) dX12_canAct_39 rfl ?_
        refine wa_icmp_ne (tgt := 47) dX12_canAct_40 rfl (fun hc => ?_) (fun hc => ?_)
        · replace hF := hF.1 hc
          refine wa_iconst (v := 0) dX12_canAct_47 rfl ?_
          exact wa_iret dX12_canAct_48 rfl rfl hF
        · replace hF := hF.2 hc
          exact wa_pick [] rfl hF
    · replace hF := hF.2 hc
      refine wa_aload_n dX12_canAct_26 0 rfl rfl ?_
      refine wa_iload_n dX12_canAct_27 2 rfl rfl ?_
      obtain ⟨Q1, hM9, hF⟩ := hF
      refine wa_callV [.int x2] dX12_canAct_28 (mmX12_isNumber _ _) mlX12_135 mnX12_isNumber mseX12_isNumber rfl rfl rfl rfl (a_dlt d) rfl rfl hM9 ?_
      rintro r9 M1 P9 ⟨v1, rfl, rfl, hq9⟩
      replace hF := hF v1 M1 hq9
      simp only [Option.toList, List.cons_append, List.nil_append]
      refine wa_goto (tgt := 48) dX12_canAct_31 rfl ?_
      exact wa_iret dX12_canAct_48 rfl (a_bn hF.1) hF.2
  · replace hF := hF.2 hc
    refine wa_iload_n dX12_canAct_5 2 rfl rfl ?_
    refine wa_iconst (v := 0) dX12_canAct_6 rfl ?_
    refine wa_aload_n dX12_canAct_7 0 rfl rfl ?_
    refine wa_getr (r := 119) dX12_canAct_8 fkX12_7 rfl rfl rfl ?_
    refine wa_iconst (v := 0) dX12_canAct_11 rfl ?_
    refine wb_iald (j := 0) (v := M 119 0) dX12_canAct_12 rfl (by unfold vp_in; decide) rfl rfl ?_
    refine wa_iconst (v := 1) dX12_canAct_13 rfl ?_
    refine wa_isub dX12_canAct_14 ?_
    obtain ⟨Q2, hM9, hF⟩ := hF
    refine wa_callS [.int x2, .int 0, .int ((M 119 0) - 1)] dX12_canAct_15 (mmX12_in _ _) mlX12_124 mstX12_in rfl (a_dlt d) rfl rfl hM9 ?_
    rintro r9 M2 P9 ⟨v2, rfl, rfl, hq9⟩
    replace hF := hF v2 M2 hq9
    simp only [Option.toList, List.cons_append, List.nil_append]
    refine wa_goto (tgt := 48) dX12_canAct_18 rfl ?_
    exact wa_iret dX12_canAct_48 rfl (a_bn hF.1) hF.2

theorem bX12_canAct_43 {X : a_X} {ad : Nat → Nat} {ca : Nat → ClassId} {d : Nat} {Post : Option Value → a_M → a_P → Prop} {x : Nat} {M : a_M}   (hF : Post (some (.int 1)) M (PT x)) : WA X ad ca LY RX12 cX12_canAct 3 (some FieldType.boolean) (d + 1) 0 0 (a_E X ad ca LY Post) 43 [] [] M (PT x) := by
  refine wa_iconst (v := 1) dX12_canAct_43 rfl ?_
  refine wa_goto (tgt := 48) dX12_canAct_44 rfl ?_
  exact wa_iret dX12_canAct_48 rfl rfl hF

theorem eX12_canAct {X : a_X} {ad : Nat → Nat} {ca : Nat → ClassId} {d : Nat} {Post : Option Value → a_M → a_P → Prop} {x : Nat} {M : a_M} (x1 : Int32) (x2 : Int32) (h : WA X ad ca LY RX12 cX12_canAct 3 (some FieldType.boolean) d 0 0 (a_E X ad ca LY Post) 0 [(0, .ref 118), (1, .int x1), (2, .int x2)] [] M (PT x)) : Mt X ad ca LY d yX12_canAct cX12_canAct 3 (some FieldType.boolean) [.ref 118, .int x1, .int x2] M (PT x) Post := Mt.of (lv := [(0, .ref 118), (1, .int x1), (2, .int x2)]) (by decide +kernel) rfl rfl rfl (wa_pick [0, 1, 2] rfl h)

theorem bX12_acts_0 {X : a_X} {ad : Nat → Nat} {ca : Nat → ClassId} {d : Nat} {kc ks : Nat} {QF : List Frame → Array Value → State → State → Prop} {x : Nat} {M : a_M} (x1 : Int32) (x2 : Int32)  (hF : WA X ad ca LY RX12 cX12_acts 4 none (d + 1) kc ks QF 2 [(0, .ref 118), (1, .int x1), (2, .int x2), (3, .int 0)] [] M (PT x)) : WA X ad ca LY RX12 cX12_acts 4 none (d + 1) kc ks QF 0 [(0, .ref 118), (1, .int x1), (2, .int x2)] [] M (PT x) := by
  refine wa_iconst (v := 0) dX12_acts_0 rfl ?_
  refine wa_istore_n (lv' := [(3, .int 0), (0, .ref 118), (1, .int x1), (2, .int x2)]) dX12_acts_1 rfl rfl rfl ?_
  exact wa_pick [1, 2, 3, 0] rfl hF

theorem bX12_acts_2 {X : a_X} {ad : Nat → Nat} {ca : Nat → ClassId} {d : Nat} {kc ks : Nat} {QF : List Frame → Array Value → State → State → Prop} {x : Nat} {M : a_M} (x1 : Int32) (x2 : Int32) (x3 : Int32)  (hF : ((128 ≤ x3 → ((¬ x1 = 2 → ((¬ x1 = 3 → WA X ad ca LY RX12 cX12_acts 4 none (d + 1) kc ks QF 58 [(0, .ref 118), (1, .int x1), (2, .int x2), (3, .int 0)] [] M (PT x)) ∧ (x1 = 3 → (∃ Q1 : a_M → Prop, Mt X ad ca LY d yX12_tables cX12_tables 5 none [.ref 118, .int x2] M (PT x) (q_v (PT x) Q1) ∧ ∀ M1, Q1 M1 → WA X ad ca LY RX12 cX12_acts 4 none (d + 1) kc ks QF 129 [(0, .ref 118)] [] M1 (PT x))))) ∧ (x1 = 2 → (∃ Q2 : a_M → Prop, Mt X ad ca LY d yX12_sums cX12_sums 1 none [.ref 118] M (PT x) (q_v (PT x) Q2) ∧ ∀ M2, Q2 M2 → WA X ad ca LY RX12 cX12_acts 4 none (d + 1) kc ks QF 129 [(0, .ref 118)] [] M2 (PT x))))) ∧ (¬ 128 ≤ x3 → (∃ Q3 : Int32 → a_M → Prop, Mt X ad ca LY d yX12_cell cX12_cell 2 (some FieldType.int) [.ref 118, .int x3] M (PT x) (q_i (PT x) Q3) ∧ ∀ v3 M3, Q3 v3 M3 → (vp_in v3 2698 ∧ (vp_in x3 128 ∧ WA X ad ca LY RX12 cX12_acts 4 none (d + 1) kc ks QF 2 [(0, .ref 118), (1, .int x1), (2, .int x2), (3, .int (x3 + 1))] [] (ms M3 140 x3.toNatClampNeg (M3 119 v3.toNatClampNeg)) (PT x))))))) : WA X ad ca LY RX12 cX12_acts 4 none (d + 1) kc ks QF 2 [(0, .ref 118), (1, .int x1), (2, .int x2), (3, .int x3)] [] M (PT x) := by
  refine wa_iload_n dX12_acts_2 3 rfl rfl ?_
  refine wa_sipush (v := 128) dX12_acts_3 rfl ?_
  refine wa_icmp_ge (tgt := 31) dX12_acts_6 rfl (fun hc => ?_) (fun hc => ?_)
  · replace hF := hF.1 hc
    refine wa_iload_n dX12_acts_31 1 rfl rfl ?_
    refine wa_iconst (v := 2) dX12_acts_32 rfl ?_
    refine wa_icmp_ne (tgt := 43) dX12_acts_33 rfl (fun hc => ?_) (fun hc => ?_)
    · replace hF := hF.1 hc
      refine wa_iload_n dX12_acts_43 1 rfl rfl ?_
      refine wa_iconst (v := 3) dX12_acts_44 rfl ?_
      refine wa_icmp_ne (tgt := 56) dX12_acts_45 rfl (fun hc => ?_) (fun hc => ?_)
      · replace hF := hF.1 hc
        refine wa_iconst (v := 0) dX12_acts_56 rfl ?_
        refine wa_istore_n (lv' := [(3, .int 0), (0, .ref 118), (1, .int x1), (2, .int x2)]) dX12_acts_57 rfl rfl rfl ?_
        exact wa_pick [1, 2, 3, 0] rfl hF
      · replace hF := hF.2 hc
        refine wa_aload_n dX12_acts_48 0 rfl rfl ?_
        refine wa_iload_n dX12_acts_49 2 rfl rfl ?_
        obtain ⟨Q1, hM9, hF⟩ := hF
        refine wa_callV [.int x2] dX12_acts_50 (mmX12_tables _ _) mlX12_323 mnX12_tables mseX12_tables rfl rfl rfl rfl (a_dlt d) rfl rfl hM9 ?_
        rintro r9 M1 P9 ⟨rfl, rfl, hq9⟩
        replace hF := hF M1 hq9
        simp only [Option.toList, List.nil_append]
        refine wa_goto (tgt := 129) dX12_acts_53 rfl ?_
        exact wa_pick [0] rfl hF
    · replace hF := hF.2 hc
      refine wa_aload_n dX12_acts_36 0 rfl rfl ?_
      obtain ⟨Q2, hM9, hF⟩ := hF
      refine wa_callV [] dX12_acts_37 (mmX12_sums _ _) mlX12_320 mnX12_sums mseX12_sums rfl rfl rfl rfl (a_dlt d) rfl rfl hM9 ?_
      rintro r9 M2 P9 ⟨rfl, rfl, hq9⟩
      replace hF := hF M2 hq9
      simp only [Option.toList, List.nil_append]
      refine wa_goto (tgt := 129) dX12_acts_40 rfl ?_
      exact wa_pick [0] rfl hF
  · replace hF := hF.2 hc
    refine wa_aload_n dX12_acts_9 0 rfl rfl ?_
    refine wa_getr (r := 140) dX12_acts_10 fkX12_81 rfl rfl rfl ?_
    refine wa_iload_n dX12_acts_13 3 rfl rfl ?_
    refine wa_aload_n dX12_acts_14 0 rfl rfl ?_
    refine wa_getr (r := 119) dX12_acts_15 fkX12_7 rfl rfl rfl ?_
    refine wa_aload_n dX12_acts_18 0 rfl rfl ?_
    refine wa_iload_n dX12_acts_19 3 rfl rfl ?_
    obtain ⟨Q3, hM9, hF⟩ := hF
    refine wa_callV [.int x3] dX12_acts_20 (mmX12_cell _ _) mlX12_411 mnX12_cell mseX12_cell rfl rfl rfl rfl (a_dlt d) rfl rfl hM9 ?_
    rintro r9 M3 P9 ⟨v3, rfl, rfl, hq9⟩
    replace hF := hF v3 M3 hq9
    simp only [Option.toList, List.cons_append, List.nil_append]
    obtain ⟨hi9, hF⟩ := hF
    refine wb_iald (j := v3.toNatClampNeg) (v := M3 119 v3.toNatClampNeg) dX12_acts_23 rfl hi9 rfl rfl ?_
    obtain ⟨hi9, hF⟩ := hF
    refine wb_iast (j := x3.toNatClampNeg) dX12_acts_24 rfl hi9 rfl ?_
    refine wa_iinc (v := x3 + 1) (lv' := [(3, .int (x3 + 1)), (0, .ref 118), (1, .int x1), (2, .int x2)]) dX12_acts_25 3 rfl rfl rfl rfl ?_
    refine wa_goto (tgt := 2) dX12_acts_28 rfl ?_
    exact wa_pick [1, 2, 3, 0] rfl hF

theorem bX12_acts_58 {X : a_X} {ad : Nat → Nat} {ca : Nat → ClassId} {d : Nat} {kc ks : Nat} {QF : List Frame → Array Value → State → State → Prop} {x : Nat} {M : a_M} (x1 : Int32) (x2 : Int32) (x3 : Int32)  (hF : (∃ Q1 : Int32 → a_M → Prop, Mt X ad ca LY d yX12_states cX12_states 1 (some FieldType.int) [.ref 118] M (PT x) (q_i (PT x) Q1) ∧ ∀ v1 M1, Q1 v1 M1 → ((v1 ≤ x3 → (∃ Q2 : Int32 → a_M → Prop, Mt X ad ca LY d yX12_states cX12_states 1 (some FieldType.int) [.ref 118] M1 (PT x) (q_i (PT x) Q2) ∧ ∀ v2 M2, Q2 v2 M2 → WA X ad ca LY RX12 cX12_acts 4 none (d + 1) kc ks QF 105 [(0, .ref 118), (3, .int v2)] [] M2 (PT x))) ∧ (¬ v1 ≤ x3 → ((¬ x1 = 0 → (vp_in x3 128 ∧ (vp_in (x3 ^^^ ((1 : Int32) <<< (x2 &&& 31))) 128 ∧ WA X ad ca LY RX12 cX12_acts 4 none (d + 1) kc ks QF 58 [(0, .ref 118), (1, .int x1), (2, .int x2), (3, .int (x3 + 1))] [] (ms M1 141 ((x3 ^^^ ((1 : Int32) <<< (x2 &&& 31))).toNatClampNeg) (M1 140 x3.toNatClampNeg)) (PT x)))) ∧ (x1 = 0 → (∃ Q3 : Int32 → a_M → Prop, Mt X ad ca LY d yX12_shifted cX12_shifted 2 (some FieldType.int) [.ref 118, .int x3] M1 (PT x) (q_i (PT x) Q3) ∧ ∀ v3 M3, Q3 v3 M3 → (vp_in x3 128 ∧ (vp_in v3 128 ∧ WA X ad ca LY RX12 cX12_acts 4 none (d + 1) kc ks QF 58 [(0, .ref 118), (1, .int x1), (2, .int x2), (3, .int (x3 + 1))] [] (ms M3 141 v3.toNatClampNeg (M3 140 x3.toNatClampNeg)) (PT x)))))))))) : WA X ad ca LY RX12 cX12_acts 4 none (d + 1) kc ks QF 58 [(0, .ref 118), (1, .int x1), (2, .int x2), (3, .int x3)] [] M (PT x) := by
  refine wa_iload_n dX12_acts_58 3 rfl rfl ?_
  refine wa_aload_n dX12_acts_59 0 rfl rfl ?_
  obtain ⟨Q1, hM9, hF⟩ := hF
  refine wa_callV [] dX12_acts_60 (mmX12_states _ _) mlX12_128 mnX12_states mseX12_states rfl rfl rfl rfl (a_dlt d) rfl rfl hM9 ?_
  rintro r9 M1 P9 ⟨v1, rfl, rfl, hq9⟩
  replace hF := hF v1 M1 hq9
  simp only [Option.toList, List.cons_append, List.nil_append]
  refine wa_icmp_ge (tgt := 100) dX12_acts_63 rfl (fun hc => ?_) (fun hc => ?_)
  · replace hF := hF.1 hc
    refine wa_aload_n dX12_acts_100 0 rfl rfl ?_
    obtain ⟨Q2, hM9, hF⟩ := hF
    refine wa_callV [] dX12_acts_101 (mmX12_states _ _) mlX12_128 mnX12_states mseX12_states rfl rfl rfl rfl (a_dlt d) rfl rfl hM9 ?_
    rintro r9 M2 P9 ⟨v2, rfl, rfl, hq9⟩
    replace hF := hF v2 M2 hq9
    simp only [Option.toList, List.cons_append, List.nil_append]
    refine wa_istore_n (lv' := [(3, .int v2), (0, .ref 118), (1, .int x1), (2, .int x2)]) dX12_acts_104 rfl rfl rfl ?_
    exact wa_pick [1, 0] rfl hF
  · replace hF := hF.2 hc
    refine wa_aload_n dX12_acts_66 0 rfl rfl ?_
    refine wa_getr (r := 141) dX12_acts_67 fkX12_84 rfl rfl rfl ?_
    refine wa_iload_n dX12_acts_70 1 rfl rfl ?_
    refine wa_if_ne (tgt := 82) dX12_acts_71 rfl (fun hc => ?_) (fun hc => ?_)
    · replace hF := hF.1 hc
      refine wa_iload_n dX12_acts_82 3 rfl rfl ?_
      refine wa_iconst (v := 1) dX12_acts_83 rfl ?_
      refine wa_iload_n dX12_acts_84 2 rfl rfl ?_
      refine wa_ishl dX12_acts_85 ?_
      refine wa_ixor dX12_acts_86 ?_
      refine wa_aload_n dX12_acts_87 0 rfl rfl ?_
      refine wa_getr (r := 140) dX12_acts_88 fkX12_81 rfl rfl rfl ?_
      refine wa_iload_n dX12_acts_91 3 rfl rfl ?_
      obtain ⟨hi9, hF⟩ := hF
      refine wb_iald (j := x3.toNatClampNeg) (v := M1 140 x3.toNatClampNeg) dX12_acts_92 rfl hi9 rfl rfl ?_
      obtain ⟨hi9, hF⟩ := hF
      refine wb_iast (j := (x3 ^^^ ((1 : Int32) <<< (x2 &&& 31))).toNatClampNeg) dX12_acts_93 rfl hi9 rfl ?_
      refine wa_iinc (v := x3 + 1) (lv' := [(3, .int (x3 + 1)), (0, .ref 118), (1, .int x1), (2, .int x2)]) dX12_acts_94 3 rfl rfl rfl rfl ?_
      refine wa_goto (tgt := 58) dX12_acts_97 rfl ?_
      exact wa_pick [1, 2, 3, 0] rfl hF
    · replace hF := hF.2 hc
      refine wa_aload_n dX12_acts_74 0 rfl rfl ?_
      refine wa_iload_n dX12_acts_75 3 rfl rfl ?_
      obtain ⟨Q3, hM9, hF⟩ := hF
      refine wa_callV [.int x3] dX12_acts_76 (mmX12_shifted _ _) mlX12_345 mnX12_shifted mseX12_shifted rfl rfl rfl rfl (a_dlt d) rfl rfl hM9 ?_
      rintro r9 M3 P9 ⟨v3, rfl, rfl, hq9⟩
      replace hF := hF v3 M3 hq9
      simp only [Option.toList, List.cons_append, List.nil_append]
      refine wa_goto (tgt := 87) dX12_acts_79 rfl ?_
      refine wa_aload_n dX12_acts_87 0 rfl rfl ?_
      refine wa_getr (r := 140) dX12_acts_88 fkX12_81 rfl rfl rfl ?_
      refine wa_iload_n dX12_acts_91 3 rfl rfl ?_
      obtain ⟨hi9, hF⟩ := hF
      refine wb_iald (j := x3.toNatClampNeg) (v := M3 140 x3.toNatClampNeg) dX12_acts_92 rfl hi9 rfl rfl ?_
      obtain ⟨hi9, hF⟩ := hF
      refine wb_iast (j := v3.toNatClampNeg) dX12_acts_93 rfl hi9 rfl ?_
      refine wa_iinc (v := x3 + 1) (lv' := [(3, .int (x3 + 1)), (0, .ref 118), (1, .int x1), (2, .int x2)]) dX12_acts_94 3 rfl rfl rfl rfl ?_
      refine wa_goto (tgt := 58) dX12_acts_97 rfl ?_
      exact wa_pick [1, 2, 3, 0] rfl hF

theorem bX12_acts_105 {X : a_X} {ad : Nat → Nat} {ca : Nat → ClassId} {d : Nat} {kc ks : Nat} {QF : List Frame → Array Value → State → State → Prop} {x : Nat} {M : a_M} (x3 : Int32)  (hF : ((128 ≤ x3 → (∃ Q1 : a_M → Prop, Mt X ad ca LY d yX12_takesNext cX12_takesNext 2 none [.ref 118] M (PT x) (q_v (PT x) Q1) ∧ ∀ M1, Q1 M1 → WA X ad ca LY RX12 cX12_acts 4 none (d + 1) kc ks QF 129 [(0, .ref 118)] [] M1 (PT x))) ∧ (¬ 128 ≤ x3 → (vp_in x3 128 ∧ WA X ad ca LY RX12 cX12_acts 4 none (d + 1) kc ks QF 105 [(0, .ref 118), (3, .int (x3 + 1))] [] (ms M 141 x3.toNatClampNeg 0) (PT x))))) : WA X ad ca LY RX12 cX12_acts 4 none (d + 1) kc ks QF 105 [(0, .ref 118), (3, .int x3)] [] M (PT x) := by
  refine wa_iload_n dX12_acts_105 1 rfl rfl ?_
  refine wa_sipush (v := 128) dX12_acts_106 rfl ?_
  refine wa_icmp_ge (tgt := 125) dX12_acts_109 rfl (fun hc => ?_) (fun hc => ?_)
  · replace hF := hF.1 hc
    refine wa_aload_n dX12_acts_125 0 rfl rfl ?_
    obtain ⟨Q1, hM9, hF⟩ := hF
    refine wa_callV [] dX12_acts_126 (mmX12_takesNext _ _) mlX12_307 mnX12_takesNext mseX12_takesNext rfl rfl rfl rfl (a_dlt d) rfl rfl hM9 ?_
    rintro r9 M1 P9 ⟨rfl, rfl, hq9⟩
    replace hF := hF M1 hq9
    simp only [Option.toList, List.nil_append]
    exact wa_pick [0] rfl hF
  · replace hF := hF.2 hc
    refine wa_aload_n dX12_acts_112 0 rfl rfl ?_
    refine wa_getr (r := 141) dX12_acts_113 fkX12_84 rfl rfl rfl ?_
    refine wa_iload_n dX12_acts_116 1 rfl rfl ?_
    refine wa_iconst (v := 0) dX12_acts_117 rfl ?_
    obtain ⟨hi9, hF⟩ := hF
    refine wb_iast (j := x3.toNatClampNeg) dX12_acts_118 rfl hi9 rfl ?_
    refine wa_iinc (v := x3 + 1) (lv' := [(3, .int (x3 + 1)), (0, .ref 118)]) dX12_acts_119 1 rfl rfl rfl rfl ?_
    refine wa_goto (tgt := 105) dX12_acts_122 rfl ?_
    exact wa_pick [1, 0] rfl hF

theorem bX12_acts_129 {X : a_X} {ad : Nat → Nat} {ca : Nat → ClassId} {d : Nat} {kc ks : Nat} {QF : List Frame → Array Value → State → State → Prop} {x : Nat} {M : a_M}   (hF : ((¬ (M 119 7) = 20 → WA X ad ca LY RX12 cX12_acts 4 none (d + 1) kc ks QF 182 [(0, .ref 118)] [] M (PT x)) ∧ ((M 119 7) = 20 → WA X ad ca LY RX12 cX12_acts 4 none (d + 1) kc ks QF 144 [(0, .ref 118), (3, .int 10)] [] M (PT x)))) : WA X ad ca LY RX12 cX12_acts 4 none (d + 1) kc ks QF 129 [(0, .ref 118)] [] M (PT x) := by
  refine wa_aload_n dX12_acts_129 0 rfl rfl ?_
  refine wa_getr (r := 119) dX12_acts_130 fkX12_7 rfl rfl rfl ?_
  refine wa_bipush (v := 7) dX12_acts_133 rfl ?_
  refine wb_iald (j := 7) (v := M 119 7) dX12_acts_135 rfl (by unfold vp_in; decide) rfl rfl ?_
  refine wa_bipush (v := 20) dX12_acts_136 rfl ?_
  refine wa_icmp_ne (tgt := 182) dX12_acts_138 rfl (fun hc => ?_) (fun hc => ?_)
  · replace hF := hF.1 hc
    exact hF
  · replace hF := hF.2 hc
    refine wa_bipush (v := 10) dX12_acts_141 rfl ?_
    refine wa_istore_n (lv' := [(3, .int 10), (0, .ref 118)]) dX12_acts_143 rfl rfl rfl ?_
    exact wa_pick [1, 0] rfl hF

theorem bX12_acts_144 {X : a_X} {ad : Nat → Nat} {ca : Nat → ClassId} {d : Nat} {kc ks : Nat} {QF : List Frame → Array Value → State → State → Prop} {x : Nat} {M : a_M} (x3 : Int32)  (hF : ((2570 ≤ x3 → WA X ad ca LY RX12 cX12_acts 4 none (d + 1) kc ks QF 182 [(0, .ref 118)] [] (ms M 119 7 19) (PT x)) ∧ (¬ 2570 ≤ x3 → (vp_in (x3 + 128) 2698 ∧ (vp_in x3 2698 ∧ WA X ad ca LY RX12 cX12_acts 4 none (d + 1) kc ks QF 144 [(0, .ref 118), (3, .int (x3 + 1))] [] (ms M 119 x3.toNatClampNeg (M 119 ((x3 + 128).toNatClampNeg))) (PT x)))))) : WA X ad ca LY RX12 cX12_acts 4 none (d + 1) kc ks QF 144 [(0, .ref 118), (3, .int x3)] [] M (PT x) := by
  refine wa_iload_n dX12_acts_144 1 rfl rfl ?_
  refine wa_sipush (v := 2570) dX12_acts_145 rfl ?_
  refine wa_icmp_ge (tgt := 173) dX12_acts_148 rfl (fun hc => ?_) (fun hc => ?_)
  · replace hF := hF.1 hc
    refine wa_aload_n dX12_acts_173 0 rfl rfl ?_
    refine wa_getr (r := 119) dX12_acts_174 fkX12_7 rfl rfl rfl ?_
    refine wa_bipush (v := 7) dX12_acts_177 rfl ?_
    refine wa_bipush (v := 19) dX12_acts_179 rfl ?_
    refine wb_iast (j := 7) dX12_acts_181 rfl (by unfold vp_in; decide) rfl ?_
    exact wa_pick [0] rfl hF
  · replace hF := hF.2 hc
    refine wa_aload_n dX12_acts_151 0 rfl rfl ?_
    refine wa_getr (r := 119) dX12_acts_152 fkX12_7 rfl rfl rfl ?_
    refine wa_iload_n dX12_acts_155 1 rfl rfl ?_
    refine wa_aload_n dX12_acts_156 0 rfl rfl ?_
    refine wa_getr (r := 119) dX12_acts_157 fkX12_7 rfl rfl rfl ?_
    refine wa_iload_n dX12_acts_160 1 rfl rfl ?_
    refine wa_sipush (v := 128) dX12_acts_161 rfl ?_
    refine wa_iadd dX12_acts_164 ?_
    obtain ⟨hi9, hF⟩ := hF
    refine wb_iald (j := (x3 + 128).toNatClampNeg) (v := M 119 ((x3 + 128).toNatClampNeg)) dX12_acts_165 rfl hi9 rfl rfl ?_
    obtain ⟨hi9, hF⟩ := hF
    refine wb_iast (j := x3.toNatClampNeg) dX12_acts_166 rfl hi9 rfl ?_
    refine wa_iinc (v := x3 + 1) (lv' := [(3, .int (x3 + 1)), (0, .ref 118)]) dX12_acts_167 1 rfl rfl rfl rfl ?_
    refine wa_goto (tgt := 144) dX12_acts_170 rfl ?_
    exact wa_pick [1, 0] rfl hF

theorem bX12_acts_182 {X : a_X} {ad : Nat → Nat} {ca : Nat → ClassId} {d : Nat} {kc ks : Nat} {QF : List Frame → Array Value → State → State → Prop} {x : Nat} {M : a_M}   (hF : WA X ad ca LY RX12 cX12_acts 4 none (d + 1) kc ks QF 209 [(0, .ref 118), (3, .int 0)] [] (ms (ms M 119 7 ((M 119 7) + 1)) 119 8 ((M 119 7) + 1)) (PT x)) : WA X ad ca LY RX12 cX12_acts 4 none (d + 1) kc ks QF 182 [(0, .ref 118)] [] M (PT x) := by
  refine wa_aload_n dX12_acts_182 0 rfl rfl ?_
  refine wa_getr (r := 119) dX12_acts_183 fkX12_7 rfl rfl rfl ?_
  refine wa_bipush (v := 7) dX12_acts_186 rfl ?_
  refine wa_dup2 dX12_acts_188 rfl rfl ?_
  refine wb_iald (j := 7) (v := M 119 7) dX12_acts_189 rfl (by unfold vp_in; decide) rfl rfl ?_
  refine wa_iconst (v := 1) dX12_acts_190 rfl ?_
  refine wa_iadd dX12_acts_191 ?_
  refine wb_iast (j := 7) dX12_acts_192 rfl (by unfold vp_in; decide) rfl ?_
  refine wa_aload_n dX12_acts_193 0 rfl rfl ?_
  refine wa_getr (r := 119) dX12_acts_194 fkX12_7 rfl rfl rfl ?_
  refine wa_bipush (v := 8) dX12_acts_197 rfl ?_
  refine wa_aload_n dX12_acts_199 0 rfl rfl ?_
  refine wa_getr (r := 119) dX12_acts_200 fkX12_7 rfl rfl rfl ?_
  refine wa_bipush (v := 7) dX12_acts_203 rfl ?_
  refine wb_iald (j := 7) (v := ((M 119 7) + 1)) dX12_acts_205 rfl (by unfold vp_in; decide) rfl (ms_is M 119 7 ((M 119 7) + 1)) ?_
  refine wb_iast (j := 8) dX12_acts_206 rfl (by unfold vp_in; decide) rfl ?_
  refine wa_iconst (v := 0) dX12_acts_207 rfl ?_
  refine wa_istore_n (lv' := [(3, .int 0), (0, .ref 118)]) dX12_acts_208 rfl rfl rfl ?_
  exact wa_pick [1, 0] rfl hF

theorem bX12_acts_209 {X : a_X} {ad : Nat → Nat} {ca : Nat → ClassId} {d : Nat} {Post : Option Value → a_M → a_P → Prop} {x : Nat} {M : a_M} (x3 : Int32)  (hF : ((128 ≤ x3 → Post none M (PT x)) ∧ (¬ 128 ≤ x3 → (∃ Q1 : Int32 → a_M → Prop, Mt X ad ca LY d yX12_cell cX12_cell 2 (some FieldType.int) [.ref 118, .int x3] M (PT x) (q_i (PT x) Q1) ∧ ∀ v1 M1, Q1 v1 M1 → (vp_in x3 128 ∧ (vp_in v1 2698 ∧ WA X ad ca LY RX12 cX12_acts 4 none (d + 1) 0 0 (a_E X ad ca LY Post) 209 [(0, .ref 118), (3, .int (x3 + 1))] [] (ms M1 119 v1.toNatClampNeg (M1 140 x3.toNatClampNeg)) (PT x))))))) : WA X ad ca LY RX12 cX12_acts 4 none (d + 1) 0 0 (a_E X ad ca LY Post) 209 [(0, .ref 118), (3, .int x3)] [] M (PT x) := by
  refine wa_iload_n dX12_acts_209 1 rfl rfl ?_
  refine wa_sipush (v := 128) dX12_acts_210 rfl ?_
  refine wa_icmp_ge (tgt := 238) dX12_acts_213 rfl (fun hc => ?_) (fun hc => ?_)
  · replace hF := hF.1 hc
    exact wa_vret dX12_acts_238 rfl hF
  · replace hF := hF.2 hc
    refine wa_aload_n dX12_acts_216 0 rfl rfl ?_
    refine wa_getr (r := 119) dX12_acts_217 fkX12_7 rfl rfl rfl ?_
    refine wa_aload_n dX12_acts_220 0 rfl rfl ?_
    refine wa_iload_n dX12_acts_221 1 rfl rfl ?_
    obtain ⟨Q1, hM9, hF⟩ := hF
    refine wa_callV [.int x3] dX12_acts_222 (mmX12_cell _ _) mlX12_411 mnX12_cell mseX12_cell rfl rfl rfl rfl (a_dlt d) rfl rfl hM9 ?_
    rintro r9 M1 P9 ⟨v1, rfl, rfl, hq9⟩
    replace hF := hF v1 M1 hq9
    simp only [Option.toList, List.cons_append, List.nil_append]
    refine wa_aload_n dX12_acts_225 0 rfl rfl ?_
    refine wa_getr (r := 140) dX12_acts_226 fkX12_81 rfl rfl rfl ?_
    refine wa_iload_n dX12_acts_229 1 rfl rfl ?_
    obtain ⟨hi9, hF⟩ := hF
    refine wb_iald (j := x3.toNatClampNeg) (v := M1 140 x3.toNatClampNeg) dX12_acts_230 rfl hi9 rfl rfl ?_
    obtain ⟨hi9, hF⟩ := hF
    refine wb_iast (j := v1.toNatClampNeg) dX12_acts_231 rfl hi9 rfl ?_
    refine wa_iinc (v := x3 + 1) (lv' := [(3, .int (x3 + 1)), (0, .ref 118)]) dX12_acts_232 1 rfl rfl rfl rfl ?_
    refine wa_goto (tgt := 209) dX12_acts_235 rfl ?_
    exact wa_pick [1, 0] rfl hF

theorem eX12_acts {X : a_X} {ad : Nat → Nat} {ca : Nat → ClassId} {d : Nat} {Post : Option Value → a_M → a_P → Prop} {x : Nat} {M : a_M} (x1 : Int32) (x2 : Int32) (h : WA X ad ca LY RX12 cX12_acts 4 none d 0 0 (a_E X ad ca LY Post) 0 [(0, .ref 118), (1, .int x1), (2, .int x2)] [] M (PT x)) : Mt X ad ca LY d yX12_acts cX12_acts 4 none [.ref 118, .int x1, .int x2] M (PT x) Post := Mt.of (lv := [(0, .ref 118), (1, .int x1), (2, .int x2)]) (by decide +kernel) rfl rfl rfl (wa_pick [0, 1, 2] rfl h)

theorem bX12_act_0 {X : a_X} {ad : Nat → Nat} {ca : Nat → ClassId} {d : Nat} {Post : Option Value → a_M → a_P → Prop} {x : Nat} {M : a_M} (x1 : Int32) (x2 : Int32)  (hF : (∃ Q1 : Int32 → a_M → Prop, Mt X ad ca LY d yX12_canAct cX12_canAct 3 (some FieldType.boolean) [.ref 118, .int x1, .int x2] M (PT x) (q_i (PT x) Q1) ∧ ∀ v1 M1, Q1 v1 M1 → ((¬ v1 = 0 → (∃ Q2 : a_M → Prop, Mt X ad ca LY d yX12_acts cX12_acts 4 none [.ref 118, .int x1, .int x2] M1 (PT x) (q_v (PT x) Q2) ∧ ∀ M2, Q2 M2 → Post (some (.int 1)) M2 (PT x))) ∧ (v1 = 0 → Post (some (.int 0)) M1 (PT x))))) : WA X ad ca LY RX12 cX12_act 3 (some FieldType.boolean) (d + 1) 0 0 (a_E X ad ca LY Post) 0 [(0, .ref 118), (1, .int x1), (2, .int x2)] [] M (PT x) := by
  refine wa_aload_n dX12_act_0 0 rfl rfl ?_
  refine wa_iload_n dX12_act_1 1 rfl rfl ?_
  refine wa_iload_n dX12_act_2 2 rfl rfl ?_
  obtain ⟨Q1, hM9, hF⟩ := hF
  refine wa_callV [.int x1, .int x2] dX12_act_3 (mmX12_canAct _ _) mlX12_414 mnX12_canAct mseX12_canAct rfl rfl rfl rfl (a_dlt d) rfl rfl hM9 ?_
  rintro r9 M1 P9 ⟨v1, rfl, rfl, hq9⟩
  replace hF := hF v1 M1 hq9
  simp only [Option.toList, List.cons_append, List.nil_append]
  refine wa_if_ne (tgt := 11) dX12_act_6 rfl (fun hc => ?_) (fun hc => ?_)
  · replace hF := hF.1 hc
    refine wa_aload_n dX12_act_11 0 rfl rfl ?_
    refine wa_iload_n dX12_act_12 1 rfl rfl ?_
    refine wa_iload_n dX12_act_13 2 rfl rfl ?_
    obtain ⟨Q2, hM9, hF⟩ := hF
    refine wa_callV [.int x1, .int x2] dX12_act_14 (mmX12_acts _ _) mlX12_417 mnX12_acts mseX12_acts rfl rfl rfl rfl (a_dlt d) rfl rfl hM9 ?_
    rintro r9 M2 P9 ⟨rfl, rfl, hq9⟩
    replace hF := hF M2 hq9
    simp only [Option.toList, List.nil_append]
    refine wa_iconst (v := 1) dX12_act_17 rfl ?_
    exact wa_iret dX12_act_18 rfl rfl hF
  · replace hF := hF.2 hc
    refine wa_iconst (v := 0) dX12_act_9 rfl ?_
    exact wa_iret dX12_act_10 rfl rfl hF

theorem eX12_act {X : a_X} {ad : Nat → Nat} {ca : Nat → ClassId} {d : Nat} {Post : Option Value → a_M → a_P → Prop} {x : Nat} {M : a_M} (x1 : Int32) (x2 : Int32) (h : WA X ad ca LY RX12 cX12_act 3 (some FieldType.boolean) d 0 0 (a_E X ad ca LY Post) 0 [(0, .ref 118), (1, .int x1), (2, .int x2)] [] M (PT x)) : Mt X ad ca LY d yX12_act cX12_act 3 (some FieldType.boolean) [.ref 118, .int x1, .int x2] M (PT x) Post := Mt.of (lv := [(0, .ref 118), (1, .int x1), (2, .int x2)]) (by decide +kernel) rfl rfl rfl (wa_pick [0, 1, 2] rfl h)

theorem bX12_played_0 {X : a_X} {ad : Nat → Nat} {ca : Nat → ClassId} {d : Nat} {Post : Option Value → a_M → a_P → Prop} {x : Nat} {M : a_M} (x1 : Int32)  (hF : (∃ Q1 : Int32 → a_M → Prop, Mt X ad ca LY d yX12_in cX12_in 3 (some FieldType.boolean) [.int x1, .int 0, .int ((M 119 5) - 1)] M (PT x) (q_i (PT x) Q1) ∧ ∀ v1 M1, Q1 v1 M1 → ((¬ v1 = 0 → WA X ad ca LY RX12 cX12_played 5 (some FieldType.int) (d + 1) 0 0 (a_E X ad ca LY Post) 21 [(0, .ref 118), (1, .int x1), (2, .int 0)] [] M1 (PT x)) ∧ (v1 = 0 → Post (some (.int (-2))) M1 (PT x))))) : WA X ad ca LY RX12 cX12_played 5 (some FieldType.int) (d + 1) 0 0 (a_E X ad ca LY Post) 0 [(0, .ref 118), (1, .int x1)] [] M (PT x) := by
  refine wa_iload_n dX12_played_0 1 rfl rfl ?_
  refine wa_iconst (v := 0) dX12_played_1 rfl ?_
  refine wa_aload_n dX12_played_2 0 rfl rfl ?_
  refine wa_getr (r := 119) dX12_played_3 fkX12_7 rfl rfl rfl ?_
  refine wa_iconst (v := 5) dX12_played_6 rfl ?_
  refine wb_iald (j := 5) (v := M 119 5) dX12_played_7 rfl (by unfold vp_in; decide) rfl rfl ?_
  refine wa_iconst (v := 1) dX12_played_8 rfl ?_
  refine wa_isub dX12_played_9 ?_
  obtain ⟨Q1, hM9, hF⟩ := hF
  refine wa_callS [.int x1, .int 0, .int ((M 119 5) - 1)] dX12_played_10 (mmX12_in _ _) mlX12_124 mstX12_in rfl (a_dlt d) rfl rfl hM9 ?_
  rintro r9 M1 P9 ⟨v1, rfl, rfl, hq9⟩
  replace hF := hF v1 M1 hq9
  simp only [Option.toList, List.cons_append, List.nil_append]
  refine wa_if_ne (tgt := 19) dX12_played_13 rfl (fun hc => ?_) (fun hc => ?_)
  · replace hF := hF.1 hc
    refine wa_iconst (v := 0) dX12_played_19 rfl ?_
    refine wa_istore_n (lv' := [(2, .int 0), (0, .ref 118), (1, .int x1)]) dX12_played_20 rfl rfl rfl ?_
    exact wa_pick [1, 2, 0] rfl hF
  · replace hF := hF.2 hc
    refine wa_bipush (v := (-2)) dX12_played_16 rfl ?_
    exact wa_iret dX12_played_18 rfl rfl hF

theorem bX12_played_21 {X : a_X} {ad : Nat → Nat} {ca : Nat → ClassId} {d : Nat} {Post : Option Value → a_M → a_P → Prop} {x : Nat} {M : a_M} (x1 : Int32) (x2 : Int32)  (hF : (vp_in x1 4 ∧ (((M 122 x1.toNatClampNeg) ≤ x2 → Post (some (.int (-1))) M (PT x)) ∧ (¬ (M 122 x1.toNatClampNeg) ≤ x2 → (vp_in ((30 * x1) + x2) 120 ∧ ((¬ (M 123 (((30 * x1) + x2).toNatClampNeg)) = 3 → ((¬ (M 123 (((30 * x1) + x2).toNatClampNeg)) = 5 → ((¬ (M 123 (((30 * x1) + x2).toNatClampNeg)) = 6 → ((¬ (M 123 (((30 * x1) + x2).toNatClampNeg)) = 4 → WA X ad ca LY RX12 cX12_played 5 (some FieldType.int) (d + 1) 0 0 (a_E X ad ca LY Post) 136 [(0, .ref 118), (1, .int x1), (2, .int x2)] [] M (PT x)) ∧ ((M 123 (((30 * x1) + x2).toNatClampNeg)) = 4 → (vp_in ((30 * x1) + x2) 120 ∧ (((M 125 (((30 * x1) + x2).toNatClampNeg)) < (M 119 0) → (vp_in ((30 * x1) + x2) 120 ∧ (∃ Q1 : a_M → Prop, Mt X ad ca LY d yX12_acts cX12_acts 4 none [.ref 118, .int 1, .int (M 125 (((30 * x1) + x2).toNatClampNeg))] M (PT x) (q_v (PT x) Q1) ∧ ∀ M1, Q1 M1 → WA X ad ca LY RX12 cX12_played 5 (some FieldType.int) (d + 1) 0 0 (a_E X ad ca LY Post) 136 [(0, .ref 118), (1, .int x1), (2, .int x2)] [] M1 (PT x)))) ∧ (¬ (M 125 (((30 * x1) + x2).toNatClampNeg)) < (M 119 0) → Post (some (.int x2)) M (PT x))))))) ∧ ((M 123 (((30 * x1) + x2).toNatClampNeg)) = 6 → (vp_in ((30 * x1) + x2) 120 ∧ (∃ Q2 : Int32 → a_M → Prop, Mt X ad ca LY d yX12_saysOf cX12_saysOf 5 (some FieldType.int) [.ref 118, .int (M 124 (((30 * x1) + x2).toNatClampNeg)), .int 0] M (PT x) (q_i (PT x) Q2) ∧ ∀ v2 M2, Q2 v2 M2 → (∃ Q3 : a_M → Prop, Mt X ad ca LY d yX12_acts cX12_acts 4 none [.ref 118, .int 3, .int v2] M2 (PT x) (q_v (PT x) Q3) ∧ ∀ M3, Q3 M3 → WA X ad ca LY RX12 cX12_played 5 (some FieldType.int) (d + 1) 0 0 (a_E X ad ca LY Post) 136 [(0, .ref 118), (1, .int x1), (2, .int x2)] [] M3 (PT x))))))) ∧ ((M 123 (((30 * x1) + x2).toNatClampNeg)) = 5 → (∃ Q4 : a_M → Prop, Mt X ad ca LY d yX12_acts cX12_acts 4 none [.ref 118, .int 2, .int 0] M (PT x) (q_v (PT x) Q4) ∧ ∀ M4, Q4 M4 → WA X ad ca LY RX12 cX12_played 5 (some FieldType.int) (d + 1) 0 0 (a_E X ad ca LY Post) 136 [(0, .ref 118), (1, .int x1), (2, .int x2)] [] M4 (PT x))))) ∧ ((M 123 (((30 * x1) + x2).toNatClampNeg)) = 3 → (∃ Q5 : a_M → Prop, Mt X ad ca LY d yX12_acts cX12_acts 4 none [.ref 118, .int 0, .int 0] M (PT x) (q_v (PT x) Q5) ∧ ∀ M5, Q5 M5 → WA X ad ca LY RX12 cX12_played 5 (some FieldType.int) (d + 1) 0 0 (a_E X ad ca LY Post) 136 [(0, .ref 118), (1, .int x1), (2, .int x2)] [] M5 (PT x))))))))) : WA X ad ca LY RX12 cX12_played 5 (some FieldType.int) (d + 1) 0 0 (a_E X ad ca LY Post) 21 [(0, .ref 118), (1, .int x1), (2, .int x2)] [] M (PT x) := by
  refine wa_iload_n dX12_played_21 2 rfl rfl ?_
  refine wa_aload_n dX12_played_22 0 rfl rfl ?_
  refine wa_getr (r := 122) dX12_played_23 fkX12_27 rfl rfl rfl ?_
  refine wa_iload_n dX12_played_26 1 rfl rfl ?_
  obtain ⟨hi9, hF⟩ := hF
  refine wb_iald (j := x1.toNatClampNeg) (v := M 122 x1.toNatClampNeg) dX12_played_27 rfl hi9 rfl rfl ?_
  refine wa_icmp_ge (tgt := 142) dX12_played_28 rfl (fun hc => ?_) (fun hc => ?_)
  · replace hF := hF.1 hc
    refine wa_iconst (v := (-1)) dX12_played_142 rfl ?_
    exact wa_iret dX12_played_143 rfl rfl hF
  · replace hF := hF.2 hc
    refine wa_bipush (v := 30) dX12_played_31 rfl ?_
    refine wa_iload_n dX12_played_33 1 rfl rfl ?_
    refine wa_imul dX12_played_34 ?_
    refine wa_iload_n dX12_played_35 2 rfl rfl ?_
    refine wa_iadd dX12_played_36 ?_
    refine wa_istore_n (lv' := [(3, .int ((30 * x1) + x2)), (0, .ref 118), (1, .int x1), (2, .int x2)]) dX12_played_37 rfl rfl rfl ?_
    refine wa_aload_n dX12_played_38 1 rfl rfl ?_
    refine wa_getr (r := 123) dX12_played_39 fkX12_30 rfl rfl rfl ?_
    refine wa_iload_n dX12_played_42 0 rfl rfl ?_
    obtain ⟨hi9, hF⟩ := hF
    refine wb_iald (j := ((30 * x1) + x2).toNatClampNeg) (v := M 123 (((30 * x1) + x2).toNatClampNeg)) dX12_played_43 rfl hi9 rfl rfl ?_
    refine wa_istore (lv' := [(4, .int (M 123 (((30 * x1) + x2).toNatClampNeg))), (3, .int ((30 * x1) + x2)), (0, .ref 118), (1, .int x1), (2, .int x2)]) dX12_played_44 rfl rfl ?_
    refine wa_iload dX12_played_46 0 rfl ?_
    refine wa_iconst (v := 3) dX12_played_48 rfl ?_
    refine wa_icmp_ne (tgt := 61) dX12_played_49 rfl (fun hc => ?_) (fun hc => ?_)
    · replace hF := hF.1 hc
      refine wa_iload dX12_played_61 0 rfl ?_
      refine wa_iconst (v := 5) dX12_played_63 rfl ?_
      refine wa_icmp_ne (tgt := 76) dX12_played_64 rfl (fun hc => ?_) (fun hc => ?_)
      · replace hF := hF.1 hc
        refine wa_iload dX12_played_76 0 rfl ?_
        refine wa_bipush (v := 6) dX12_played_78 rfl ?_
        refine wa_icmp_ne (tgt := 102) dX12_played_80 rfl (fun hc => ?_) (fun hc => ?_)
        · replace hF := hF.1 hc
          refine wa_iload dX12_played_102 0 rfl ?_
          refine wa_iconst (v := 4) dX12_played_104 rfl ?_
          refine wa_icmp_ne (tgt := 136) dX12_played_105 rfl (fun hc => ?_) (fun hc => ?_)
          · replace hF := hF.1 hc
            exact wa_pick [2, 3, 4] rfl hF
          · replace hF := hF.2 hc
            refine wa_aload_n dX12_played_108 2 rfl rfl ?_
            refine wa_getr (r := 125) dX12_played_109 fkX12_36 rfl rfl rfl ?_
            refine wa_iload_n dX12_played_112 1 rfl rfl ?_
            obtain ⟨hi9, hF⟩ := hF
            refine wb_iald (j := ((30 * x1) + x2).toNatClampNeg) (v := M 125 (((30 * x1) + x2).toNatClampNeg)) dX12_played_113 rfl hi9 rfl rfl ?_
            refine wa_aload_n dX12_played_114 2 rfl rfl ?_
            refine wa_getr (r := 119) dX12_played_115 fkX12_7 rfl rfl rfl ?_
            refine wa_iconst (v := 0) dX12_played_118 rfl ?_
            refine wb_iald (j := 0) (v := M 119 0) dX12_played_119 rfl (by unfold vp_in; decide) rfl rfl ?_
            refine wa_icmp_lt (tgt := 125) dX12_played_120 rfl (fun hc => ?_) (fun hc => ?_)
            · replace hF := hF.1 hc
              refine wa_aload_n dX12_played_125 2 rfl rfl ?_
              refine wa_iconst (v := 1) dX12_played_126 rfl ?_
              refine wa_aload_n dX12_played_127 2 rfl rfl ?_
              refine wa_getr (r := 125) dX12_played_128 fkX12_36 rfl rfl rfl ?_
              refine wa_iload_n dX12_played_131 1 rfl rfl ?_
              obtain ⟨hi9, hF⟩ := hF
              refine wb_iald (j := ((30 * x1) + x2).toNatClampNeg) (v := M 125 (((30 * x1) + x2).toNatClampNeg)) dX12_played_132 rfl hi9 rfl rfl ?_
              obtain ⟨Q1, hM9, hF⟩ := hF
              refine wa_callV [.int 1, .int (M 125 (((30 * x1) + x2).toNatClampNeg))] dX12_played_133 (mmX12_acts _ _) mlX12_417 mnX12_acts mseX12_acts rfl rfl rfl rfl (a_dlt d) rfl rfl hM9 ?_
              rintro r9 M1 P9 ⟨rfl, rfl, hq9⟩
              replace hF := hF M1 hq9
              simp only [Option.toList, List.nil_append]
              exact wa_pick [2, 3, 4] rfl hF
            · replace hF := hF.2 hc
              refine wa_iload_n dX12_played_123 4 rfl rfl ?_
              exact wa_iret dX12_played_124 rfl rfl hF
        · replace hF := hF.2 hc
          refine wa_aload_n dX12_played_83 2 rfl rfl ?_
          refine wa_iconst (v := 3) dX12_played_84 rfl ?_
          refine wa_aload_n dX12_played_85 2 rfl rfl ?_
          refine wa_aload_n dX12_played_86 2 rfl rfl ?_
          refine wa_getr (r := 124) dX12_played_87 fkX12_33 rfl rfl rfl ?_
          refine wa_iload_n dX12_played_90 1 rfl rfl ?_
          obtain ⟨hi9, hF⟩ := hF
          refine wb_iald (j := ((30 * x1) + x2).toNatClampNeg) (v := M 124 (((30 * x1) + x2).toNatClampNeg)) dX12_played_91 rfl hi9 rfl rfl ?_
          refine wa_iconst (v := 0) dX12_played_92 rfl ?_
          obtain ⟨Q2, hM9, hF⟩ := hF
          refine wa_callV [.int (M 124 (((30 * x1) + x2).toNatClampNeg)), .int 0] dX12_played_93 (mmX12_saysOf _ _) mlX12_278 mnX12_saysOf mseX12_saysOf rfl rfl rfl rfl (a_dlt d) rfl rfl hM9 ?_
          rintro r9 M2 P9 ⟨v2, rfl, rfl, hq9⟩
          replace hF := hF v2 M2 hq9
          simp only [Option.toList, List.cons_append, List.nil_append]
          obtain ⟨Q3, hM9, hF⟩ := hF
          refine wa_callV [.int 3, .int v2] dX12_played_96 (mmX12_acts _ _) mlX12_417 mnX12_acts mseX12_acts rfl rfl rfl rfl (a_dlt d) rfl rfl hM9 ?_
          rintro r9 M3 P9 ⟨rfl, rfl, hq9⟩
          replace hF := hF M3 hq9
          simp only [Option.toList, List.nil_append]
          refine wa_goto (tgt := 136) dX12_played_99 rfl ?_
          exact wa_pick [2, 3, 4] rfl hF
      · replace hF := hF.2 hc
        refine wa_aload_n dX12_played_67 2 rfl rfl ?_
        refine wa_iconst (v := 2) dX12_played_68 rfl ?_
        refine wa_iconst (v := 0) dX12_played_69 rfl ?_
        obtain ⟨Q4, hM9, hF⟩ := hF
        refine wa_callV [.int 2, .int 0] dX12_played_70 (mmX12_acts _ _) mlX12_417 mnX12_acts mseX12_acts rfl rfl rfl rfl (a_dlt d) rfl rfl hM9 ?_
        rintro r9 M4 P9 ⟨rfl, rfl, hq9⟩
        replace hF := hF M4 hq9
        simp only [Option.toList, List.nil_append]
        refine wa_goto (tgt := 136) dX12_played_73 rfl ?_
        exact wa_pick [2, 3, 4] rfl hF
    · replace hF := hF.2 hc
      refine wa_aload_n dX12_played_52 2 rfl rfl ?_
      refine wa_iconst (v := 0) dX12_played_53 rfl ?_
      refine wa_iconst (v := 0) dX12_played_54 rfl ?_
      obtain ⟨Q5, hM9, hF⟩ := hF
      refine wa_callV [.int 0, .int 0] dX12_played_55 (mmX12_acts _ _) mlX12_417 mnX12_acts mseX12_acts rfl rfl rfl rfl (a_dlt d) rfl rfl hM9 ?_
      rintro r9 M5 P9 ⟨rfl, rfl, hq9⟩
      replace hF := hF M5 hq9
      simp only [Option.toList, List.nil_append]
      refine wa_goto (tgt := 136) dX12_played_58 rfl ?_
      exact wa_pick [2, 3, 4] rfl hF

theorem bX12_played_136 {X : a_X} {ad : Nat → Nat} {ca : Nat → ClassId} {d : Nat} {kc ks : Nat} {QF : List Frame → Array Value → State → State → Prop} {x : Nat} {M : a_M} (x1 : Int32) (x2 : Int32)  (hF : WA X ad ca LY RX12 cX12_played 5 (some FieldType.int) (d + 1) kc ks QF 21 [(0, .ref 118), (1, .int x1), (2, .int (x2 + 1))] [] M (PT x)) : WA X ad ca LY RX12 cX12_played 5 (some FieldType.int) (d + 1) kc ks QF 136 [(0, .ref 118), (1, .int x1), (2, .int x2)] [] M (PT x) := by
  refine wa_iinc (v := x2 + 1) (lv' := [(2, .int (x2 + 1)), (0, .ref 118), (1, .int x1)]) dX12_played_136 2 rfl rfl rfl rfl ?_
  refine wa_goto (tgt := 21) dX12_played_139 rfl ?_
  exact wa_pick [1, 2, 0] rfl hF

theorem eX12_played {X : a_X} {ad : Nat → Nat} {ca : Nat → ClassId} {d : Nat} {Post : Option Value → a_M → a_P → Prop} {x : Nat} {M : a_M} (x1 : Int32) (h : WA X ad ca LY RX12 cX12_played 5 (some FieldType.int) d 0 0 (a_E X ad ca LY Post) 0 [(0, .ref 118), (1, .int x1)] [] M (PT x)) : Mt X ad ca LY d yX12_played cX12_played 5 (some FieldType.int) [.ref 118, .int x1] M (PT x) Post := Mt.of (lv := [(0, .ref 118), (1, .int x1)]) (by decide +kernel) rfl rfl rfl (wa_pick [0, 1] rfl h)

theorem bX12_undo_0 {X : a_X} {ad : Nat → Nat} {ca : Nat → ClassId} {d : Nat} {Post : Option Value → a_M → a_P → Prop} {x : Nat} {M : a_M}   (hF : ((¬ (M 119 7) = 0 → Post (some (.int ((M 119 7) - 1))) (ms M 119 7 ((M 119 7) - 1)) (PT x)) ∧ ((M 119 7) = 0 → Post (some (.int (-1))) M (PT x)))) : WA X ad ca LY RX12 cX12_undo 1 (some FieldType.int) (d + 1) 0 0 (a_E X ad ca LY Post) 0 [(0, .ref 118)] [] M (PT x) := by
  refine wa_aload_n dX12_undo_0 0 rfl rfl ?_
  refine wa_getr (r := 119) dX12_undo_1 fkX12_7 rfl rfl rfl ?_
  refine wa_bipush (v := 7) dX12_undo_4 rfl ?_
  refine wb_iald (j := 7) (v := M 119 7) dX12_undo_6 rfl (by unfold vp_in; decide) rfl rfl ?_
  refine wa_if_ne (tgt := 12) dX12_undo_7 rfl (fun hc => ?_) (fun hc => ?_)
  · replace hF := hF.1 hc
    refine wa_aload_n dX12_undo_12 0 rfl rfl ?_
    refine wa_getr (r := 119) dX12_undo_13 fkX12_7 rfl rfl rfl ?_
    refine wa_bipush (v := 7) dX12_undo_16 rfl ?_
    refine wa_dup2 dX12_undo_18 rfl rfl ?_
    refine wb_iald (j := 7) (v := M 119 7) dX12_undo_19 rfl (by unfold vp_in; decide) rfl rfl ?_
    refine wa_iconst (v := 1) dX12_undo_20 rfl ?_
    refine wa_isub dX12_undo_21 ?_
    refine wb_iast (j := 7) dX12_undo_22 rfl (by unfold vp_in; decide) rfl ?_
    refine wa_aload_n dX12_undo_23 0 rfl rfl ?_
    refine wa_getr (r := 119) dX12_undo_24 fkX12_7 rfl rfl rfl ?_
    refine wa_bipush (v := 7) dX12_undo_27 rfl ?_
    refine wb_iald (j := 7) (v := ((M 119 7) - 1)) dX12_undo_29 rfl (by unfold vp_in; decide) rfl (ms_is M 119 7 ((M 119 7) - 1)) ?_
    exact wa_iret dX12_undo_30 rfl rfl hF
  · replace hF := hF.2 hc
    refine wa_iconst (v := (-1)) dX12_undo_10 rfl ?_
    exact wa_iret dX12_undo_11 rfl rfl hF

theorem eX12_undo {X : a_X} {ad : Nat → Nat} {ca : Nat → ClassId} {d : Nat} {Post : Option Value → a_M → a_P → Prop} {x : Nat} {M : a_M}  (h : WA X ad ca LY RX12 cX12_undo 1 (some FieldType.int) d 0 0 (a_E X ad ca LY Post) 0 [(0, .ref 118)] [] M (PT x)) : Mt X ad ca LY d yX12_undo cX12_undo 1 (some FieldType.int) [.ref 118] M (PT x) Post := Mt.of (lv := [(0, .ref 118)]) (by decide +kernel) rfl rfl rfl (wa_pick [0] rfl h)

theorem bX12_redo_0 {X : a_X} {ad : Nat → Nat} {ca : Nat → ClassId} {d : Nat} {Post : Option Value → a_M → a_P → Prop} {x : Nat} {M : a_M}   (hF : ((¬ (M 119 7) = (M 119 8) → Post (some (.int ((M 119 8) - ((M 119 7) + 1)))) (ms M 119 7 ((M 119 7) + 1)) (PT x)) ∧ ((M 119 7) = (M 119 8) → Post (some (.int (-1))) M (PT x)))) : WA X ad ca LY RX12 cX12_redo 1 (some FieldType.int) (d + 1) 0 0 (a_E X ad ca LY Post) 0 [(0, .ref 118)] [] M (PT x) := by
  refine wa_aload_n dX12_redo_0 0 rfl rfl ?_
  refine wa_getr (r := 119) dX12_redo_1 fkX12_7 rfl rfl rfl ?_
  refine wa_bipush (v := 7) dX12_redo_4 rfl ?_
  refine wb_iald (j := 7) (v := M 119 7) dX12_redo_6 rfl (by unfold vp_in; decide) rfl rfl ?_
  refine wa_aload_n dX12_redo_7 0 rfl rfl ?_
  refine wa_getr (r := 119) dX12_redo_8 fkX12_7 rfl rfl rfl ?_
  refine wa_bipush (v := 8) dX12_redo_11 rfl ?_
  refine wb_iald (j := 8) (v := M 119 8) dX12_redo_13 rfl (by unfold vp_in; decide) rfl rfl ?_
  refine wa_icmp_ne (tgt := 19) dX12_redo_14 rfl (fun hc => ?_) (fun hc => ?_)
  · replace hF := hF.1 hc
    refine wa_aload_n dX12_redo_19 0 rfl rfl ?_
    refine wa_getr (r := 119) dX12_redo_20 fkX12_7 rfl rfl rfl ?_
    refine wa_bipush (v := 7) dX12_redo_23 rfl ?_
    refine wa_dup2 dX12_redo_25 rfl rfl ?_
    refine wb_iald (j := 7) (v := M 119 7) dX12_redo_26 rfl (by unfold vp_in; decide) rfl rfl ?_
    refine wa_iconst (v := 1) dX12_redo_27 rfl ?_
    refine wa_iadd dX12_redo_28 ?_
    refine wb_iast (j := 7) dX12_redo_29 rfl (by unfold vp_in; decide) rfl ?_
    refine wa_aload_n dX12_redo_30 0 rfl rfl ?_
    refine wa_getr (r := 119) dX12_redo_31 fkX12_7 rfl rfl rfl ?_
    refine wa_bipush (v := 8) dX12_redo_34 rfl ?_
    refine wb_iald (j := 8) (v := M 119 8) dX12_redo_36 rfl (by unfold vp_in; decide) rfl ((ms_no M 119 7 ((M 119 7) + 1) 119 8 (fun h9 => absurd h9.2 (by decide))).trans rfl) ?_
    refine wa_aload_n dX12_redo_37 0 rfl rfl ?_
    refine wa_getr (r := 119) dX12_redo_38 fkX12_7 rfl rfl rfl ?_
    refine wa_bipush (v := 7) dX12_redo_41 rfl ?_
    refine wb_iald (j := 7) (v := ((M 119 7) + 1)) dX12_redo_43 rfl (by unfold vp_in; decide) rfl (ms_is M 119 7 ((M 119 7) + 1)) ?_
    refine wa_isub dX12_redo_44 ?_
    exact wa_iret dX12_redo_45 rfl rfl hF
  · replace hF := hF.2 hc
    refine wa_iconst (v := (-1)) dX12_redo_17 rfl ?_
    exact wa_iret dX12_redo_18 rfl rfl hF

theorem eX12_redo {X : a_X} {ad : Nat → Nat} {ca : Nat → ClassId} {d : Nat} {Post : Option Value → a_M → a_P → Prop} {x : Nat} {M : a_M}  (h : WA X ad ca LY RX12 cX12_redo 1 (some FieldType.int) d 0 0 (a_E X ad ca LY Post) 0 [(0, .ref 118)] [] M (PT x)) : Mt X ad ca LY d yX12_redo cX12_redo 1 (some FieldType.int) [.ref 118] M (PT x) Post := Mt.of (lv := [(0, .ref 118)]) (by decide +kernel) rfl rfl rfl (wa_pick [0] rfl h)

theorem bX12_at_0 {X : a_X} {ad : Nat → Nat} {ca : Nat → ClassId} {d : Nat} {Post : Option Value → a_M → a_P → Prop} {x : Nat} {M : a_M} (x1 : Int32)  (hF : (∃ Q1 : Int32 → a_M → Prop, Mt X ad ca LY d yX12_isState cX12_isState 2 (some FieldType.boolean) [.ref 118, .int x1] M (PT x) (q_i (PT x) Q1) ∧ ∀ v1 M1, Q1 v1 M1 → ((v1 = 0 → Post (some (.int (-1))) M1 (PT x)) ∧ (¬ v1 = 0 → (∃ Q2 : Int32 → a_M → Prop, Mt X ad ca LY d yX12_cell cX12_cell 2 (some FieldType.int) [.ref 118, .int x1] M1 (PT x) (q_i (PT x) Q2) ∧ ∀ v2 M2, Q2 v2 M2 → (vp_in v2 2698 ∧ Post (some (.int (M2 119 v2.toNatClampNeg))) M2 (PT x))))))) : WA X ad ca LY RX12 cX12_at 2 (some FieldType.int) (d + 1) 0 0 (a_E X ad ca LY Post) 0 [(0, .ref 118), (1, .int x1)] [] M (PT x) := by
  refine wa_aload_n dX12_at_0 0 rfl rfl ?_
  refine wa_iload_n dX12_at_1 1 rfl rfl ?_
  obtain ⟨Q1, hM9, hF⟩ := hF
  refine wa_callV [.int x1] dX12_at_2 (mmX12_isState _ _) mlX12_314 mnX12_isState mseX12_isState rfl rfl rfl rfl (a_dlt d) rfl rfl hM9 ?_
  rintro r9 M1 P9 ⟨v1, rfl, rfl, hq9⟩
  replace hF := hF v1 M1 hq9
  simp only [Option.toList, List.cons_append, List.nil_append]
  refine wa_if_eq (tgt := 21) dX12_at_5 rfl (fun hc => ?_) (fun hc => ?_)
  · replace hF := hF.1 hc
    refine wa_iconst (v := (-1)) dX12_at_21 rfl ?_
    exact wa_iret dX12_at_22 rfl rfl hF
  · replace hF := hF.2 hc
    refine wa_aload_n dX12_at_8 0 rfl rfl ?_
    refine wa_getr (r := 119) dX12_at_9 fkX12_7 rfl rfl rfl ?_
    refine wa_aload_n dX12_at_12 0 rfl rfl ?_
    refine wa_iload_n dX12_at_13 1 rfl rfl ?_
    obtain ⟨Q2, hM9, hF⟩ := hF
    refine wa_callV [.int x1] dX12_at_14 (mmX12_cell _ _) mlX12_411 mnX12_cell mseX12_cell rfl rfl rfl rfl (a_dlt d) rfl rfl hM9 ?_
    rintro r9 M2 P9 ⟨v2, rfl, rfl, hq9⟩
    replace hF := hF v2 M2 hq9
    simp only [Option.toList, List.cons_append, List.nil_append]
    obtain ⟨hi9, hF⟩ := hF
    refine wb_iald (j := v2.toNatClampNeg) (v := M2 119 v2.toNatClampNeg) dX12_at_17 rfl hi9 rfl rfl ?_
    refine wa_goto (tgt := 22) dX12_at_18 rfl ?_
    exact wa_iret dX12_at_22 rfl rfl hF

theorem eX12_at {X : a_X} {ad : Nat → Nat} {ca : Nat → ClassId} {d : Nat} {Post : Option Value → a_M → a_P → Prop} {x : Nat} {M : a_M} (x1 : Int32) (h : WA X ad ca LY RX12 cX12_at 2 (some FieldType.int) d 0 0 (a_E X ad ca LY Post) 0 [(0, .ref 118), (1, .int x1)] [] M (PT x)) : Mt X ad ca LY d yX12_at cX12_at 2 (some FieldType.int) [.ref 118, .int x1] M (PT x) Post := Mt.of (lv := [(0, .ref 118), (1, .int x1)]) (by decide +kernel) rfl rfl rfl (wa_pick [0, 1] rfl h)

theorem bX12_norm_0 {X : a_X} {ad : Nat → Nat} {ca : Nat → ClassId} {d : Nat} {kc ks : Nat} {QF : List Frame → Array Value → State → State → Prop} {x : Nat} {M : a_M}   (hF : WA X ad ca LY RX12 cX12_norm 3 (some FieldType.int) (d + 1) kc ks QF 4 [(0, .ref 118), (1, .int 0), (2, .int 0)] [] M (PT x)) : WA X ad ca LY RX12 cX12_norm 3 (some FieldType.int) (d + 1) kc ks QF 0 [(0, .ref 118)] [] M (PT x) := by
  refine wa_iconst (v := 0) dX12_norm_0 rfl ?_
  refine wa_istore_n (lv' := [(1, .int 0), (0, .ref 118)]) dX12_norm_1 rfl rfl rfl ?_
  refine wa_iconst (v := 0) dX12_norm_2 rfl ?_
  refine wa_istore_n (lv' := [(2, .int 0), (1, .int 0), (0, .ref 118)]) dX12_norm_3 rfl rfl rfl ?_
  exact wa_pick [2, 1, 0] rfl hF

theorem bX12_norm_4 {X : a_X} {ad : Nat → Nat} {ca : Nat → ClassId} {d : Nat} {Post : Option Value → a_M → a_P → Prop} {x : Nat} {M : a_M} (x1 : Int32) (x2 : Int32)  (hF : (∃ Q1 : Int32 → a_M → Prop, Mt X ad ca LY d yX12_states cX12_states 1 (some FieldType.int) [.ref 118] M (PT x) (q_i (PT x) Q1) ∧ ∀ v1 M1, Q1 v1 M1 → ((v1 ≤ x2 → Post (some (.int x1)) M1 (PT x)) ∧ (¬ v1 ≤ x2 → (∃ Q2 : Int32 → a_M → Prop, Mt X ad ca LY d yX12_cell cX12_cell 2 (some FieldType.int) [.ref 118, .int x2] M1 (PT x) (q_i (PT x) Q2) ∧ ∀ v2 M2, Q2 v2 M2 → (vp_in v2 2698 ∧ (∃ Q3 : Int32 → a_M → Prop, Mt X ad ca LY d yX12_cell cX12_cell 2 (some FieldType.int) [.ref 118, .int x2] M2 (PT x) (q_i (PT x) Q3) ∧ ∀ v3 M3, Q3 v3 M3 → (vp_in v3 2698 ∧ (¬ (M3 119 2) = 0 ∧ WA X ad ca LY RX12 cX12_norm 3 (some FieldType.int) (d + 1) 0 0 (a_E X ad ca LY Post) 4 [(0, .ref 118), (1, .int ((x1 + ((M2 119 v2.toNatClampNeg) * (M3 119 v3.toNatClampNeg))) - (x1 + ((M2 119 v2.toNatClampNeg) * (M3 119 v3.toNatClampNeg))) / (M3 119 2) * (M3 119 2))), (2, .int (x2 + 1))] [] M3 (PT x)))))))))) : WA X ad ca LY RX12 cX12_norm 3 (some FieldType.int) (d + 1) 0 0 (a_E X ad ca LY Post) 4 [(0, .ref 118), (1, .int x1), (2, .int x2)] [] M (PT x) := by
  refine wa_iload_n dX12_norm_4 2 rfl rfl ?_
  refine wa_aload_n dX12_norm_5 0 rfl rfl ?_
  obtain ⟨Q1, hM9, hF⟩ := hF
  refine wa_callV [] dX12_norm_6 (mmX12_states _ _) mlX12_128 mnX12_states mseX12_states rfl rfl rfl rfl (a_dlt d) rfl rfl hM9 ?_
  rintro r9 M1 P9 ⟨v1, rfl, rfl, hq9⟩
  replace hF := hF v1 M1 hq9
  simp only [Option.toList, List.cons_append, List.nil_append]
  refine wa_icmp_ge (tgt := 49) dX12_norm_9 rfl (fun hc => ?_) (fun hc => ?_)
  · replace hF := hF.1 hc
    refine wa_iload_n dX12_norm_49 1 rfl rfl ?_
    exact wa_iret dX12_norm_50 rfl rfl hF
  · replace hF := hF.2 hc
    refine wa_iload_n dX12_norm_12 1 rfl rfl ?_
    refine wa_aload_n dX12_norm_13 0 rfl rfl ?_
    refine wa_getr (r := 119) dX12_norm_14 fkX12_7 rfl rfl rfl ?_
    refine wa_aload_n dX12_norm_17 0 rfl rfl ?_
    refine wa_iload_n dX12_norm_18 2 rfl rfl ?_
    obtain ⟨Q2, hM9, hF⟩ := hF
    refine wa_callV [.int x2] dX12_norm_19 (mmX12_cell _ _) mlX12_411 mnX12_cell mseX12_cell rfl rfl rfl rfl (a_dlt d) rfl rfl hM9 ?_
    rintro r9 M2 P9 ⟨v2, rfl, rfl, hq9⟩
    replace hF := hF v2 M2 hq9
    simp only [Option.toList, List.cons_append, List.nil_append]
    obtain ⟨hi9, hF⟩ := hF
    refine wb_iald (j := v2.toNatClampNeg) (v := M2 119 v2.toNatClampNeg) dX12_norm_22 rfl hi9 rfl rfl ?_
    refine wa_aload_n dX12_norm_23 0 rfl rfl ?_
    refine wa_getr (r := 119) dX12_norm_24 fkX12_7 rfl rfl rfl ?_
    refine wa_aload_n dX12_norm_27 0 rfl rfl ?_
    refine wa_iload_n dX12_norm_28 2 rfl rfl ?_
    obtain ⟨Q3, hM9, hF⟩ := hF
    refine wa_callV [.int x2] dX12_norm_29 (mmX12_cell _ _) mlX12_411 mnX12_cell mseX12_cell rfl rfl rfl rfl (a_dlt d) rfl rfl hM9 ?_
    rintro r9 M3 P9 ⟨v3, rfl, rfl, hq9⟩
    replace hF := hF v3 M3 hq9
    simp only [Option.toList, List.cons_append, List.nil_append]
    obtain ⟨hi9, hF⟩ := hF
    refine wb_iald (j := v3.toNatClampNeg) (v := M3 119 v3.toNatClampNeg) dX12_norm_32 rfl hi9 rfl rfl ?_
    refine wa_imul dX12_norm_33 ?_
    refine wa_iadd dX12_norm_34 ?_
    refine wa_aload_n dX12_norm_35 0 rfl rfl ?_
    refine wa_getr (r := 119) dX12_norm_36 fkX12_7 rfl rfl rfl ?_
    refine wa_iconst (v := 2) dX12_norm_39 rfl ?_
    refine wb_iald (j := 2) (v := M3 119 2) dX12_norm_40 rfl (by unfold vp_in; decide) rfl rfl ?_
    obtain ⟨hn9, hF⟩ := hF
    refine wa_irem dX12_norm_41 hn9 ?_
    refine wa_istore_n (lv' := [(1, .int ((x1 + ((M2 119 v2.toNatClampNeg) * (M3 119 v3.toNatClampNeg))) - (x1 + ((M2 119 v2.toNatClampNeg) * (M3 119 v3.toNatClampNeg))) / (M3 119 2) * (M3 119 2))), (0, .ref 118), (2, .int x2)]) dX12_norm_42 rfl rfl rfl ?_
    refine wa_iinc (v := x2 + 1) (lv' := [(2, .int (x2 + 1)), (1, .int ((x1 + ((M2 119 v2.toNatClampNeg) * (M3 119 v3.toNatClampNeg))) - (x1 + ((M2 119 v2.toNatClampNeg) * (M3 119 v3.toNatClampNeg))) / (M3 119 2) * (M3 119 2))), (0, .ref 118)]) dX12_norm_43 2 rfl rfl rfl rfl ?_
    refine wa_goto (tgt := 4) dX12_norm_46 rfl ?_
    exact wa_pick [2, 1, 0] rfl hF

theorem eX12_norm {X : a_X} {ad : Nat → Nat} {ca : Nat → ClassId} {d : Nat} {Post : Option Value → a_M → a_P → Prop} {x : Nat} {M : a_M}  (h : WA X ad ca LY RX12 cX12_norm 3 (some FieldType.int) d 0 0 (a_E X ad ca LY Post) 0 [(0, .ref 118)] [] M (PT x)) : Mt X ad ca LY d yX12_norm cX12_norm 3 (some FieldType.int) [.ref 118] M (PT x) Post := Mt.of (lv := [(0, .ref 118)]) (by decide +kernel) rfl rfl rfl (wa_pick [0] rfl h)

theorem bX12_power_0 {X : a_X} {ad : Nat → Nat} {ca : Nat → ClassId} {d : Nat} {kc ks : Nat} {QF : List Frame → Array Value → State → State → Prop} {x : Nat} {M : a_M} (x1 : Int32) (x2 : Int32) (x3 : Int32)  (hF : (∃ Q1 : Int32 → a_M → Prop, Mt X ad ca LY d yX12_isState cX12_isState 2 (some FieldType.boolean) [.ref 118, .int x1] M (PT x) (q_i (PT x) Q1) ∧ ∀ v1 M1, Q1 v1 M1 → ((v1 = 0 → WA X ad ca LY RX12 cX12_power 5 (some FieldType.int) (d + 1) kc ks QF 26 [] [] M1 (PT x)) ∧ (¬ v1 = 0 → (∃ Q2 : Int32 → a_M → Prop, Mt X ad ca LY d yX12_in cX12_in 3 (some FieldType.boolean) [.int x2, .int 0, .int 99] M1 (PT x) (q_i (PT x) Q2) ∧ ∀ v2 M2, Q2 v2 M2 → ((v2 = 0 → WA X ad ca LY RX12 cX12_power 5 (some FieldType.int) (d + 1) kc ks QF 26 [] [] M2 (PT x)) ∧ (¬ v2 = 0 → (∃ Q3 : Int32 → a_M → Prop, Mt X ad ca LY d yX12_isState cX12_isState 2 (some FieldType.boolean) [.ref 118, .int x3] M2 (PT x) (q_i (PT x) Q3) ∧ ∀ v3 M3, Q3 v3 M3 → ((¬ v3 = 0 → (∃ Q4 : a_M → Prop, Mt X ad ca LY d yX12_actedIs cX12_actedIs 3 none [.ref 118, .int x1] M3 (PT x) (q_v (PT x) Q4) ∧ ∀ M4, Q4 M4 → WA X ad ca LY RX12 cX12_power 5 (some FieldType.int) (d + 1) kc ks QF 36 [(0, .ref 118), (2, .int x2), (3, .int x3), (4, .int 0)] [] M4 (PT x))) ∧ (v3 = 0 → WA X ad ca LY RX12 cX12_power 5 (some FieldType.int) (d + 1) kc ks QF 26 [] [] M3 (PT x))))))))))) : WA X ad ca LY RX12 cX12_power 5 (some FieldType.int) (d + 1) kc ks QF 0 [(0, .ref 118), (1, .int x1), (2, .int x2), (3, .int x3)] [] M (PT x) := by
  refine wa_aload_n dX12_power_0 0 rfl rfl ?_
  refine wa_iload_n dX12_power_1 1 rfl rfl ?_
  obtain ⟨Q1, hM9, hF⟩ := hF
  refine wa_callV [.int x1] dX12_power_2 (mmX12_isState _ _) mlX12_314 mnX12_isState mseX12_isState rfl rfl rfl rfl (a_dlt d) rfl rfl hM9 ?_
  rintro r9 M1 P9 ⟨v1, rfl, rfl, hq9⟩
  replace hF := hF v1 M1 hq9
  simp only [Option.toList, List.cons_append, List.nil_append]
  refine wa_if_eq (tgt := 26) dX12_power_5 rfl (fun hc => ?_) (fun hc => ?_)
  · replace hF := hF.1 hc
    exact wa_pick [] rfl hF
  · replace hF := hF.2 hc
    refine wa_iload_n dX12_power_8 2 rfl rfl ?_
    refine wa_iconst (v := 0) dX12_power_9 rfl ?_
    refine wa_bipush (v := 99) dX12_power_10 rfl ?_
    obtain ⟨Q2, hM9, hF⟩ := hF
    refine wa_callS [.int x2, .int 0, .int 99] dX12_power_12 (mmX12_in _ _) mlX12_124 mstX12_in rfl (a_dlt d) rfl rfl hM9 ?_
    rintro r9 M2 P9 ⟨v2, rfl, rfl, hq9⟩
    replace hF := hF v2 M2 hq9
    simp only [Option.toList, List.cons_append, List.nil_append]
    refine wa_if_eq (tgt := 26) dX12_power_15 rfl (fun hc => ?_) (fun hc => ?_)
    · replace hF := hF.1 hc
      exact wa_pick [] rfl hF
    · replace hF := hF.2 hc
      refine wa_aload_n dX12_power_18 0 rfl rfl ?_
      refine wa_iload_n dX12_power_19 3 rfl rfl ?_
      obtain ⟨Q3, hM9, hF⟩ := hF
      refine wa_callV [.int x3] dX12_power_20 (mmX12_isState _ _) mlX12_314 mnX12_isState mseX12_isState rfl rfl rfl rfl (a_dlt d) rfl rfl hM9 ?_
      rintro r9 M3 P9 ⟨v3, rfl, rfl, hq9⟩
      replace hF := hF v3 M3 hq9
      simp only [Option.toList, List.cons_append, List.nil_append]
      refine wa_if_ne (tgt := 28) dX12_power_23 rfl (fun hc => ?_) (fun hc => ?_)
      · replace hF := hF.1 hc
        refine wa_aload_n dX12_power_28 0 rfl rfl ?_
        refine wa_iload_n dX12_power_29 1 rfl rfl ?_
        obtain ⟨Q4, hM9, hF⟩ := hF
        refine wa_callV [.int x1] dX12_power_30 (mmX12_actedIs _ _) mlX12_317 mnX12_actedIs mseX12_actedIs rfl rfl rfl rfl (a_dlt d) rfl rfl hM9 ?_
        rintro r9 M4 P9 ⟨rfl, rfl, hq9⟩
        replace hF := hF M4 hq9
        simp only [Option.toList, List.nil_append]
        refine wa_iconst (v := 0) dX12_power_33 rfl ?_
        refine wa_istore (lv' := [(4, .int 0), (0, .ref 118), (1, .int x1), (2, .int x2), (3, .int x3)]) dX12_power_34 rfl rfl ?_
        exact wa_pick [1, 3, 4, 0] rfl hF
      · replace hF := hF.2 hc
        exact wa_pick [] rfl hF

theorem bX12_power_26 {X : a_X} {ad : Nat → Nat} {ca : Nat → ClassId} {d : Nat} {Post : Option Value → a_M → a_P → Prop} {x : Nat} {M : a_M}   (hF : Post (some (.int (-1))) M (PT x)) : WA X ad ca LY RX12 cX12_power 5 (some FieldType.int) (d + 1) 0 0 (a_E X ad ca LY Post) 26 [] [] M (PT x) := by
  refine wa_iconst (v := (-1)) dX12_power_26 rfl ?_
  exact wa_iret dX12_power_27 rfl rfl hF

theorem bX12_power_36 {X : a_X} {ad : Nat → Nat} {ca : Nat → ClassId} {d : Nat} {Post : Option Value → a_M → a_P → Prop} {x : Nat} {M : a_M} (x2 : Int32) (x3 : Int32) (x4 : Int32)  (hF : ((x2 ≤ x4 → (vp_in x3 128 ∧ Post (some (.int (M 140 x3.toNatClampNeg))) M (PT x))) ∧ (¬ x2 ≤ x4 → (∃ Q1 : a_M → Prop, Mt X ad ca LY d yX12_sums cX12_sums 1 none [.ref 118] M (PT x) (q_v (PT x) Q1) ∧ ∀ M1, Q1 M1 → WA X ad ca LY RX12 cX12_power 5 (some FieldType.int) (d + 1) 0 0 (a_E X ad ca LY Post) 36 [(0, .ref 118), (2, .int x2), (3, .int x3), (4, .int (x4 + 1))] [] M1 (PT x))))) : WA X ad ca LY RX12 cX12_power 5 (some FieldType.int) (d + 1) 0 0 (a_E X ad ca LY Post) 36 [(0, .ref 118), (2, .int x2), (3, .int x3), (4, .int x4)] [] M (PT x) := by
  refine wa_iload dX12_power_36 3 rfl ?_
  refine wa_iload_n dX12_power_38 1 rfl rfl ?_
  refine wa_icmp_ge (tgt := 52) dX12_power_39 rfl (fun hc => ?_) (fun hc => ?_)
  · replace hF := hF.1 hc
    refine wa_aload_n dX12_power_52 0 rfl rfl ?_
    refine wa_getr (r := 140) dX12_power_53 fkX12_81 rfl rfl rfl ?_
    refine wa_iload_n dX12_power_56 2 rfl rfl ?_
    obtain ⟨hi9, hF⟩ := hF
    refine wb_iald (j := x3.toNatClampNeg) (v := M 140 x3.toNatClampNeg) dX12_power_57 rfl hi9 rfl rfl ?_
    exact wa_iret dX12_power_58 rfl rfl hF
  · replace hF := hF.2 hc
    refine wa_aload_n dX12_power_42 0 rfl rfl ?_
    obtain ⟨Q1, hM9, hF⟩ := hF
    refine wa_callV [] dX12_power_43 (mmX12_sums _ _) mlX12_320 mnX12_sums mseX12_sums rfl rfl rfl rfl (a_dlt d) rfl rfl hM9 ?_
    rintro r9 M1 P9 ⟨rfl, rfl, hq9⟩
    replace hF := hF M1 hq9
    simp only [Option.toList, List.nil_append]
    refine wa_iinc (v := x4 + 1) (lv' := [(4, .int (x4 + 1)), (0, .ref 118), (2, .int x2), (3, .int x3)]) dX12_power_46 3 rfl rfl rfl rfl ?_
    refine wa_goto (tgt := 36) dX12_power_49 rfl ?_
    exact wa_pick [1, 2, 3, 0] rfl hF

theorem eX12_power {X : a_X} {ad : Nat → Nat} {ca : Nat → ClassId} {d : Nat} {Post : Option Value → a_M → a_P → Prop} {x : Nat} {M : a_M} (x1 : Int32) (x2 : Int32) (x3 : Int32) (h : WA X ad ca LY RX12 cX12_power 5 (some FieldType.int) d 0 0 (a_E X ad ca LY Post) 0 [(0, .ref 118), (1, .int x1), (2, .int x2), (3, .int x3)] [] M (PT x)) : Mt X ad ca LY d yX12_power cX12_power 5 (some FieldType.int) [.ref 118, .int x1, .int x2, .int x3] M (PT x) Post := Mt.of (lv := [(0, .ref 118), (1, .int x1), (2, .int x2), (3, .int x3)]) (by decide +kernel) rfl rfl rfl (wa_pick [0, 1, 2, 3] rfl h)

theorem bX12_image_0 {X : a_X} {ad : Nat → Nat} {ca : Nat → ClassId} {d : Nat} {Post : Option Value → a_M → a_P → Prop} {x : Nat} {M : a_M}   (hF : (∃ Q1 : a_M → Prop, Mt X ad ca LY d yX12_copies cX12_copies 3 none [.ref 118, .int 1] M (PT x) (q_v (PT x) Q1) ∧ ∀ M1, Q1 M1 → Post (some (.int (M1 119 0))) M1 (PT x))) : WA X ad ca LY RX12 cX12_image 1 (some FieldType.int) (d + 1) 0 0 (a_E X ad ca LY Post) 0 [(0, .ref 118)] [] M (PT x) := by
  refine wa_aload_n dX12_image_0 0 rfl rfl ?_
  refine wa_iconst (v := 1) dX12_image_1 rfl ?_
  obtain ⟨Q1, hM9, hF⟩ := hF
  refine wa_callV [.int 1] dX12_image_2 (mmX12_copies _ _) mlX12_120 mnX12_copies mseX12_copies rfl rfl rfl rfl (a_dlt d) rfl rfl hM9 ?_
  rintro r9 M1 P9 ⟨rfl, rfl, hq9⟩
  replace hF := hF M1 hq9
  simp only [Option.toList, List.nil_append]
  refine wa_aload_n dX12_image_5 0 rfl rfl ?_
  refine wa_getr (r := 119) dX12_image_6 fkX12_7 rfl rfl rfl ?_
  refine wa_iconst (v := 0) dX12_image_9 rfl ?_
  refine wb_iald (j := 0) (v := M1 119 0) dX12_image_10 rfl (by unfold vp_in; decide) rfl rfl ?_
  exact wa_iret dX12_image_11 rfl rfl hF

theorem eX12_image {X : a_X} {ad : Nat → Nat} {ca : Nat → ClassId} {d : Nat} {Post : Option Value → a_M → a_P → Prop} {x : Nat} {M : a_M}  (h : WA X ad ca LY RX12 cX12_image 1 (some FieldType.int) d 0 0 (a_E X ad ca LY Post) 0 [(0, .ref 118)] [] M (PT x)) : Mt X ad ca LY d yX12_image cX12_image 1 (some FieldType.int) [.ref 118] M (PT x) Post := Mt.of (lv := [(0, .ref 118)]) (by decide +kernel) rfl rfl rfl (wa_pick [0] rfl h)

theorem bX12_back_0 {X : a_X} {ad : Nat → Nat} {ca : Nat → ClassId} {d : Nat} {Post : Option Value → a_M → a_P → Prop} {x : Nat} {M : a_M}   (hF : (∃ Q1 : a_M → Prop, Mt X ad ca LY d yX12_copies cX12_copies 3 none [.ref 118, .int 0] M (PT x) (q_v (PT x) Q1) ∧ ∀ M1, Q1 M1 → Post (some (.int (M1 119 0))) M1 (PT x))) : WA X ad ca LY RX12 cX12_back 1 (some FieldType.int) (d + 1) 0 0 (a_E X ad ca LY Post) 0 [(0, .ref 118)] [] M (PT x) := by
  refine wa_aload_n dX12_back_0 0 rfl rfl ?_
  refine wa_iconst (v := 0) dX12_back_1 rfl ?_
  obtain ⟨Q1, hM9, hF⟩ := hF
  refine wa_callV [.int 0] dX12_back_2 (mmX12_copies _ _) mlX12_120 mnX12_copies mseX12_copies rfl rfl rfl rfl (a_dlt d) rfl rfl hM9 ?_
  rintro r9 M1 P9 ⟨rfl, rfl, hq9⟩
  replace hF := hF M1 hq9
  simp only [Option.toList, List.nil_append]
  refine wa_aload_n dX12_back_5 0 rfl rfl ?_
  refine wa_getr (r := 119) dX12_back_6 fkX12_7 rfl rfl rfl ?_
  refine wa_iconst (v := 0) dX12_back_9 rfl ?_
  refine wb_iald (j := 0) (v := M1 119 0) dX12_back_10 rfl (by unfold vp_in; decide) rfl rfl ?_
  exact wa_iret dX12_back_11 rfl rfl hF

theorem eX12_back {X : a_X} {ad : Nat → Nat} {ca : Nat → ClassId} {d : Nat} {Post : Option Value → a_M → a_P → Prop} {x : Nat} {M : a_M}  (h : WA X ad ca LY RX12 cX12_back 1 (some FieldType.int) d 0 0 (a_E X ad ca LY Post) 0 [(0, .ref 118)] [] M (PT x)) : Mt X ad ca LY d yX12_back cX12_back 1 (some FieldType.int) [.ref 118] M (PT x) Post := Mt.of (lv := [(0, .ref 118)]) (by decide +kernel) rfl rfl rfl (wa_pick [0] rfl h)

theorem bX12_about_0 {X : a_X} {ad : Nat → Nat} {ca : Nat → ClassId} {d : Nat} {Post : Option Value → a_M → a_P → Prop} {x : Nat} {M : a_M} (x1 : Int32)  (hF : ((x1 = 0 → Post (some (.int (M 119 0))) M (PT x)) ∧ (x1 = 1 → Post (some (.int (M 119 1))) M (PT x)) ∧ (x1 = 2 → Post (some (.int (M 119 2))) M (PT x)) ∧ (x1 = 3 → Post (some (.int (M 119 3))) M (PT x)) ∧ (x1 = 4 → Post (some (.int (M 119 4))) M (PT x)) ∧ (x1 = 5 → Post (some (.int (M 119 5))) M (PT x)) ∧ (x1 = 6 → Post (some (.int (M 119 6))) M (PT x)) ∧ (x1 = 7 → Post (some (.int (M 119 7))) M (PT x)) ∧ (x1 = 8 → Post (some (.int ((M 119 8) - (M 119 7)))) M (PT x)) ∧ (x1 = 9 → Post (some (.int (M 118 3))) M (PT x)) ∧ ((x1).toInt < 0 ∨ 9 < (x1).toInt → Post (some (.int (-2))) M (PT x)))) : WA X ad ca LY RX12 cX12_about 2 (some FieldType.int) (d + 1) 0 0 (a_E X ad ca LY Post) 0 [(0, .ref 118), (1, .int x1)] [] M (PT x) := by
  refine wa_iload_n dX12_about_0 1 rfl rfl ?_
  by_cases hk0 : x1 = 0
  · replace hF := hF.1 hk0
    rw [hk0]
    refine wa_tableIn (off := 55) (tgt := 56) dX12_about_1 (by decide) (by decide) rfl rfl ?_
    refine wa_aload_n dX12_about_56 0 rfl rfl ?_
    refine wa_getr (r := 119) dX12_about_57 fkX12_7 rfl rfl rfl ?_
    refine wa_iconst (v := 0) dX12_about_60 rfl ?_
    refine wb_iald (j := 0) (v := M 119 0) dX12_about_61 rfl (by unfold vp_in; decide) rfl rfl ?_
    exact wa_iret dX12_about_62 rfl rfl hF
  replace hF := hF.2
  by_cases hk1 : x1 = 1
  · replace hF := hF.1 hk1
    rw [hk1]
    refine wa_tableIn (off := 62) (tgt := 63) dX12_about_1 (by decide) (by decide) rfl rfl ?_
    refine wa_aload_n dX12_about_63 0 rfl rfl ?_
    refine wa_getr (r := 119) dX12_about_64 fkX12_7 rfl rfl rfl ?_
    refine wa_iconst (v := 1) dX12_about_67 rfl ?_
    refine wb_iald (j := 1) (v := M 119 1) dX12_about_68 rfl (by unfold vp_in; decide) rfl rfl ?_
    exact wa_iret dX12_about_69 rfl rfl hF
  replace hF := hF.2
  by_cases hk2 : x1 = 2
  · replace hF := hF.1 hk2
    rw [hk2]
    refine wa_tableIn (off := 69) (tgt := 70) dX12_about_1 (by decide) (by decide) rfl rfl ?_
    refine wa_aload_n dX12_about_70 0 rfl rfl ?_
    refine wa_getr (r := 119) dX12_about_71 fkX12_7 rfl rfl rfl ?_
    refine wa_iconst (v := 2) dX12_about_74 rfl ?_
    refine wb_iald (j := 2) (v := M 119 2) dX12_about_75 rfl (by unfold vp_in; decide) rfl rfl ?_
    exact wa_iret dX12_about_76 rfl rfl hF
  replace hF := hF.2
  by_cases hk3 : x1 = 3
  · replace hF := hF.1 hk3
    rw [hk3]
    refine wa_tableIn (off := 76) (tgt := 77) dX12_about_1 (by decide) (by decide) rfl rfl ?_
    refine wa_aload_n dX12_about_77 0 rfl rfl ?_
    refine wa_getr (r := 119) dX12_about_78 fkX12_7 rfl rfl rfl ?_
    refine wa_iconst (v := 3) dX12_about_81 rfl ?_
    refine wb_iald (j := 3) (v := M 119 3) dX12_about_82 rfl (by unfold vp_in; decide) rfl rfl ?_
    exact wa_iret dX12_about_83 rfl rfl hF
  replace hF := hF.2
  by_cases hk4 : x1 = 4
  · replace hF := hF.1 hk4
    rw [hk4]
    refine wa_tableIn (off := 83) (tgt := 84) dX12_about_1 (by decide) (by decide) rfl rfl ?_
    refine wa_aload_n dX12_about_84 0 rfl rfl ?_
    refine wa_getr (r := 119) dX12_about_85 fkX12_7 rfl rfl rfl ?_
    refine wa_iconst (v := 4) dX12_about_88 rfl ?_
    refine wb_iald (j := 4) (v := M 119 4) dX12_about_89 rfl (by unfold vp_in; decide) rfl rfl ?_
    exact wa_iret dX12_about_90 rfl rfl hF
  replace hF := hF.2
  by_cases hk5 : x1 = 5
  · replace hF := hF.1 hk5
    rw [hk5]
    refine wa_tableIn (off := 90) (tgt := 91) dX12_about_1 (by decide) (by decide) rfl rfl ?_
    refine wa_aload_n dX12_about_91 0 rfl rfl ?_
    refine wa_getr (r := 119) dX12_about_92 fkX12_7 rfl rfl rfl ?_
    refine wa_iconst (v := 5) dX12_about_95 rfl ?_
    refine wb_iald (j := 5) (v := M 119 5) dX12_about_96 rfl (by unfold vp_in; decide) rfl rfl ?_
    exact wa_iret dX12_about_97 rfl rfl hF
  replace hF := hF.2
  by_cases hk6 : x1 = 6
  · replace hF := hF.1 hk6
    rw [hk6]
    refine wa_tableIn (off := 97) (tgt := 98) dX12_about_1 (by decide) (by decide) rfl rfl ?_
    refine wa_aload_n dX12_about_98 0 rfl rfl ?_
    refine wa_getr (r := 119) dX12_about_99 fkX12_7 rfl rfl rfl ?_
    refine wa_bipush (v := 6) dX12_about_102 rfl ?_
    refine wb_iald (j := 6) (v := M 119 6) dX12_about_104 rfl (by unfold vp_in; decide) rfl rfl ?_
    exact wa_iret dX12_about_105 rfl rfl hF
  replace hF := hF.2
  by_cases hk7 : x1 = 7
  · replace hF := hF.1 hk7
    rw [hk7]
    refine wa_tableIn (off := 105) (tgt := 106) dX12_about_1 (by decide) (by decide) rfl rfl ?_
    refine wa_aload_n dX12_about_106 0 rfl rfl ?_
    refine wa_getr (r := 119) dX12_about_107 fkX12_7 rfl rfl rfl ?_
    refine wa_bipush (v := 7) dX12_about_110 rfl ?_
    refine wb_iald (j := 7) (v := M 119 7) dX12_about_112 rfl (by unfold vp_in; decide) rfl rfl ?_
    exact wa_iret dX12_about_113 rfl rfl hF
  replace hF := hF.2
  by_cases hk8 : x1 = 8
  · replace hF := hF.1 hk8
    rw [hk8]
    refine wa_tableIn (off := 113) (tgt := 114) dX12_about_1 (by decide) (by decide) rfl rfl ?_
    refine wa_aload_n dX12_about_114 0 rfl rfl ?_
    refine wa_getr (r := 119) dX12_about_115 fkX12_7 rfl rfl rfl ?_
    refine wa_bipush (v := 8) dX12_about_118 rfl ?_
    refine wb_iald (j := 8) (v := M 119 8) dX12_about_120 rfl (by unfold vp_in; decide) rfl rfl ?_
    refine wa_aload_n dX12_about_121 0 rfl rfl ?_
    refine wa_getr (r := 119) dX12_about_122 fkX12_7 rfl rfl rfl ?_
    refine wa_bipush (v := 7) dX12_about_125 rfl ?_
    refine wb_iald (j := 7) (v := M 119 7) dX12_about_127 rfl (by unfold vp_in; decide) rfl rfl ?_
    refine wa_isub dX12_about_128 ?_
    exact wa_iret dX12_about_129 rfl rfl hF
  replace hF := hF.2
  by_cases hk9 : x1 = 9
  · replace hF := hF.1 hk9
    rw [hk9]
    refine wa_tableIn (off := 129) (tgt := 130) dX12_about_1 (by decide) (by decide) rfl rfl ?_
    refine wa_aload_n dX12_about_130 0 rfl rfl ?_
    refine wb_geti (v := M 118 3) dX12_about_131 fkX12_139 rfl rfl rfl ?_
    exact wa_iret dX12_about_134 rfl rfl hF
  replace hF := hF.2
  have ht0 : (x1).toInt ≠ 0 := a_ti hk0
  have ht1 : (x1).toInt ≠ 1 := a_ti hk1
  have ht2 : (x1).toInt ≠ 2 := a_ti hk2
  have ht3 : (x1).toInt ≠ 3 := a_ti hk3
  have ht4 : (x1).toInt ≠ 4 := a_ti hk4
  have ht5 : (x1).toInt ≠ 5 := a_ti hk5
  have ht6 : (x1).toInt ≠ 6 := a_ti hk6
  have ht7 : (x1).toInt ≠ 7 := a_ti hk7
  have ht8 : (x1).toInt ≠ 8 := a_ti hk8
  have ht9 : (x1).toInt ≠ 9 := a_ti hk9
  have hd9 : (x1).toInt < 0 ∨ 9 < (x1).toInt := by omega
  replace hF := hF hd9
  refine wa_tableOut (tgt := 135) dX12_about_1 hd9 rfl ?_
  refine wa_bipush (v := (-2)) dX12_about_135 rfl ?_
  exact wa_iret dX12_about_137 rfl rfl hF

theorem eX12_about {X : a_X} {ad : Nat → Nat} {ca : Nat → ClassId} {d : Nat} {Post : Option Value → a_M → a_P → Prop} {x : Nat} {M : a_M} (x1 : Int32) (h : WA X ad ca LY RX12 cX12_about 2 (some FieldType.int) d 0 0 (a_E X ad ca LY Post) 0 [(0, .ref 118), (1, .int x1)] [] M (PT x)) : Mt X ad ca LY d yX12_about cX12_about 2 (some FieldType.int) [.ref 118, .int x1] M (PT x) Post := Mt.of (lv := [(0, .ref 118), (1, .int x1)]) (by decide +kernel) rfl rfl rfl (wa_pick [0, 1] rfl h)
