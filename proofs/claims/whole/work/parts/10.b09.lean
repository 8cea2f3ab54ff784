theorem bX12_next_0 {X : a_X} {ad : Nat → Nat} {ca : Nat → ClassId} {d : Nat} {kc ks : Nat} {QF : List Frame → Array Value → State → State → Prop} {x : Nat} {M : a_M}   (hF : (((M 118 12) ≤ (M 118 13) → WA X ad ca LY RX12 cX12_next 5 none (d + 1) kc ks QF 52 [(0, .ref 118)] [] M (PT x)) ∧ (¬ (M 118 12) ≤ (M 118 13) → (vp_in (M 118 13) 300 ∧ (((M 121 ((M 118 13).toNatClampNeg)) = 32 → WA X ad ca LY RX12 cX12_next 5 none (d + 1) kc ks QF 39 [(0, .ref 118)] [] M (PT x)) ∧ (¬ (M 121 ((M 118 13).toNatClampNeg)) = 32 → (vp_in (M 118 13) 300 ∧ ((¬ (M 121 ((M 118 13).toNatClampNeg)) = 10 → WA X ad ca LY RX12 cX12_next 5 none (d + 1) kc ks QF 52 [(0, .ref 118)] [] M (PT x)) ∧ ((M 121 ((M 118 13).toNatClampNeg)) = 10 → WA X ad ca LY RX12 cX12_next 5 none (d + 1) kc ks QF 39 [(0, .ref 118)] [] M (PT x)))))))))) : WA X ad ca LY RX12 cX12_next 5 none (d + 1) kc ks QF 0 [(0, .ref 118)] [] M (PT x) := by
  refine wa_aload_n dX12_next_0 0 rfl rfl ?_
  refine wb_geti (v := M 118 13) dX12_next_1 fkX12_166 rfl rfl rfl ?_
  refine wa_aload_n dX12_next_4 0 rfl rfl ?_
  refine wb_geti (v := M 118 12) dX12_next_5 fkX12_169 rfl rfl rfl ?_
  refine wa_icmp_ge (tgt := 52) dX12_next_8 rfl (fun hc => ?_) (fun hc => ?_)
  · replace hF := hF.1 hc
    exact hF
  · replace hF := hF.2 hc
    refine wa_aload_n dX12_next_11 0 rfl rfl ?_
    refine wa_getr (r := 121) dX12_next_12 fkX12_16 rfl rfl rfl ?_
    refine wa_aload_n dX12_next_15 0 rfl rfl ?_
    refine wb_geti (v := M 118 13) dX12_next_16 fkX12_166 rfl rfl rfl ?_
    obtain ⟨hi9, hF⟩ := hF
    refine wb_bald (j := (M 118 13).toNatClampNeg) (v := M 121 ((M 118 13).toNatClampNeg)) dX12_next_19 rfl hi9 rfl rfl ?_
    refine wa_bipush (v := 32) dX12_next_20 rfl ?_
    refine wa_icmp_eq (tgt := 39) dX12_next_22 rfl (fun hc => ?_) (fun hc => ?_)
    · replace hF := hF.1 hc
      exact hF
    · replace hF := hF.2 hc
      refine wa_aload_n dX12_next_25 0 rfl rfl ?_
      refine wa_getr (r := 121) dX12_next_26 fkX12_16 rfl rfl rfl ?_
      refine wa_aload_n dX12_next_29 0 rfl rfl ?_
      refine wb_geti (v := M 118 13) dX12_next_30 fkX12_166 rfl rfl rfl ?_
      obtain ⟨hi9, hF⟩ := hF
      refine wb_bald (j := (M 118 13).toNatClampNeg) (v := M 121 ((M 118 13).toNatClampNeg)) dX12_next_33 rfl hi9 rfl rfl ?_
      refine wa_bipush (v := 10) dX12_next_34 rfl ?_
      refine wa_icmp_ne (tgt := 52) dX12_next_36 rfl (fun hc => ?_) (fun hc => ?_)
      · replace hF := hF.1 hc
        exact hF
      · replace hF := hF.2 hc
        exact hF

theorem bX12_next_39 {X : a_X} {ad : Nat → Nat} {ca : Nat → ClassId} {d : Nat} {kc ks : Nat} {QF : List Frame → Array Value → State → State → Prop} {x : Nat} {M : a_M}   (hF : WA X ad ca LY RX12 cX12_next 5 none (d + 1) kc ks QF 0 [(0, .ref 118)] [] (ms M 118 13 ((M 118 13) + 1)) (PT x)) : WA X ad ca LY RX12 cX12_next 5 none (d + 1) kc ks QF 39 [(0, .ref 118)] [] M (PT x) := by
  refine wa_aload_n dX12_next_39 0 rfl rfl ?_
  refine wa_dup dX12_next_40 rfl ?_
  refine wb_geti (v := M 118 13) dX12_next_41 fkX12_166 rfl rfl rfl ?_
  refine wa_iconst (v := 1) dX12_next_44 rfl ?_
  refine wa_iadd dX12_next_45 ?_
  refine wb_puti dX12_next_46 fkX12_166 fmX12_13 rfl rfl ?_
  refine wa_goto (tgt := 0) dX12_next_49 rfl ?_
  exact hF

theorem bX12_next_52 {X : a_X} {ad : Nat → Nat} {ca : Nat → ClassId} {d : Nat} {Post : Option Value → a_M → a_P → Prop} {x : Nat} {M : a_M}   (hF : ((¬ (M 118 13) = (M 118 12) → (vp_in (M 118 13) 300 ∧ (∃ Q1 : Int32 → a_M → Prop, Mt X ad ca LY d yX12_isLetter cX12_isLetter 1 (some FieldType.boolean) [.int (M 121 ((M 118 13).toNatClampNeg))] (ms M 118 14 (M 118 13)) (PT x) (q_i (PT x) Q1) ∧ ∀ v1 M1, Q1 v1 M1 → ((v1 = 0 → (∃ Q2 : Int32 → a_M → Prop, Mt X ad ca LY d yX12_in cX12_in 3 (some FieldType.boolean) [.int (M 121 ((M 118 13).toNatClampNeg)), .int 48, .int 57] M1 (PT x) (q_i (PT x) Q2) ∧ ∀ v2 M2, Q2 v2 M2 → ((v2 = 0 → (∃ Q3 : Int32 → a_M → Prop, Mt X ad ca LY d yX12_in cX12_in 3 (some FieldType.boolean) [.int (M 121 ((M 118 13).toNatClampNeg)), .int 59, .int 62] (ms (ms M2 118 13 ((M2 118 13) + 1)) 118 16 (M 121 ((M 118 13).toNatClampNeg))) (PT x) (q_i (PT x) Q3) ∧ ∀ v3 M3, Q3 v3 M3 → ((¬ v3 = 0 → (((M 121 ((M 118 13).toNatClampNeg)) = 60 → WA X ad ca LY RX12 cX12_next 5 none (d + 1) 0 0 (a_E X ad ca LY Post) 385 [(0, .ref 118), (1, .int (M 121 ((M 118 13).toNatClampNeg)))] [] (ms M3 118 15 3) (PT x)) ∧ (¬ (M 121 ((M 118 13).toNatClampNeg)) = 60 → ((¬ (M 121 ((M 118 13).toNatClampNeg)) = 62 → Post none (ms M3 118 15 3) (PT x)) ∧ ((M 121 ((M 118 13).toNatClampNeg)) = 62 → WA X ad ca LY RX12 cX12_next 5 none (d + 1) 0 0 (a_E X ad ca LY Post) 385 [(0, .ref 118), (1, .int (M 121 ((M 118 13).toNatClampNeg)))] [] (ms M3 118 15 3) (PT x)))))) ∧ (v3 = 0 → (∃ Q4 : Int32 → a_M → Prop, Mt X ad ca LY d yX12_in cX12_in 3 (some FieldType.boolean) [.int (M 121 ((M 118 13).toNatClampNeg)), .int 40, .int 45] M3 (PT x) (q_i (PT x) Q4) ∧ ∀ v4 M4, Q4 v4 M4 → ((¬ v4 = 0 → (((M 121 ((M 118 13).toNatClampNeg)) = 60 → WA X ad ca LY RX12 cX12_next 5 none (d + 1) 0 0 (a_E X ad ca LY Post) 385 [(0, .ref 118), (1, .int (M 121 ((M 118 13).toNatClampNeg)))] [] (ms M4 118 15 3) (PT x)) ∧ (¬ (M 121 ((M 118 13).toNatClampNeg)) = 60 → ((¬ (M 121 ((M 118 13).toNatClampNeg)) = 62 → Post none (ms M4 118 15 3) (PT x)) ∧ ((M 121 ((M 118 13).toNatClampNeg)) = 62 → WA X ad ca LY RX12 cX12_next 5 none (d + 1) 0 0 (a_E X ad ca LY Post) 385 [(0, .ref 118), (1, .int (M 121 ((M 118 13).toNatClampNeg)))] [] (ms M4 118 15 3) (PT x)))))) ∧ (v4 = 0 → (((M 121 ((M 118 13).toNatClampNeg)) = 47 → (((M 121 ((M 118 13).toNatClampNeg)) = 60 → WA X ad ca LY RX12 cX12_next 5 none (d + 1) 0 0 (a_E X ad ca LY Post) 385 [(0, .ref 118), (1, .int (M 121 ((M 118 13).toNatClampNeg)))] [] (ms M4 118 15 3) (PT x)) ∧ (¬ (M 121 ((M 118 13).toNatClampNeg)) = 60 → ((¬ (M 121 ((M 118 13).toNatClampNeg)) = 62 → Post none (ms M4 118 15 3) (PT x)) ∧ ((M 121 ((M 118 13).toNatClampNeg)) = 62 → WA X ad ca LY RX12 cX12_next 5 none (d + 1) 0 0 (a_E X ad ca LY Post) 385 [(0, .ref 118), (1, .int (M 121 ((M 118 13).toNatClampNeg)))] [] (ms M4 118 15 3) (PT x)))))) ∧ (¬ (M 121 ((M 118 13).toNatClampNeg)) = 47 → ((¬ (M 121 ((M 118 13).toNatClampNeg)) = 35 → (((M 121 ((M 118 13).toNatClampNeg)) = 60 → WA X ad ca LY RX12 cX12_next 5 none (d + 1) 0 0 (a_E X ad ca LY Post) 385 [(0, .ref 118), (1, .int (M 121 ((M 118 13).toNatClampNeg)))] [] (ms M4 118 15 4) (PT x)) ∧ (¬ (M 121 ((M 118 13).toNatClampNeg)) = 60 → ((¬ (M 121 ((M 118 13).toNatClampNeg)) = 62 → Post none (ms M4 118 15 4) (PT x)) ∧ ((M 121 ((M 118 13).toNatClampNeg)) = 62 → WA X ad ca LY RX12 cX12_next 5 none (d + 1) 0 0 (a_E X ad ca LY Post) 385 [(0, .ref 118), (1, .int (M 121 ((M 118 13).toNatClampNeg)))] [] (ms M4 118 15 4) (PT x)))))) ∧ ((M 121 ((M 118 13).toNatClampNeg)) = 35 → (((M 121 ((M 118 13).toNatClampNeg)) = 60 → WA X ad ca LY RX12 cX12_next 5 none (d + 1) 0 0 (a_E X ad ca LY Post) 385 [(0, .ref 118), (1, .int (M 121 ((M 118 13).toNatClampNeg)))] [] (ms M4 118 15 3) (PT x)) ∧ (¬ (M 121 ((M 118 13).toNatClampNeg)) = 60 → ((¬ (M 121 ((M 118 13).toNatClampNeg)) = 62 → Post none (ms M4 118 15 3) (PT x)) ∧ ((M 121 ((M 118 13).toNatClampNeg)) = 62 → WA X ad ca LY RX12 cX12_next 5 none (d + 1) 0 0 (a_E X ad ca LY Post) 385 [(0, .ref 118), (1, .int (M 121 ((M 118 13).toNatClampNeg)))] [] (ms M4 118 15 3) (PT x)))))))))))))))) ∧ (¬ v2 = 0 → WA X ad ca LY RX12 cX12_next 5 none (d + 1) 0 0 (a_E X ad ca LY Post) 232 [(0, .ref 118)] [] (ms (ms M2 118 15 2) 118 16 0) (PT x))))) ∧ (¬ v1 = 0 → WA X ad ca LY RX12 cX12_next 5 none (d + 1) 0 0 (a_E X ad ca LY Post) 99 [(0, .ref 118), (2, .long 0), (4, .int 0)] [] M1 (PT x)))))) ∧ ((M 118 13) = (M 118 12) → Post none (ms (ms M 118 14 (M 118 13)) 118 15 0) (PT x)))) : WA X ad ca LY RX12 cX12_next 5 none (d + 1) 0 0 (a_E X ad ca LY Post) 52 [(0, .ref 118)] [] M (PT x) := by
  refine wa_aload_n dX12_next_52 0 rfl rfl ?_
  refine wa_aload_n dX12_next_53 0 rfl rfl ?_
  refine wb_geti (v := M 118 13) dX12_next_54 fkX12_166 rfl rfl rfl ?_
  refine wb_puti dX12_next_57 fkX12_172 fmX12_14 rfl rfl ?_
  refine wa_aload_n dX12_next_60 0 rfl rfl ?_
  refine wb_geti (v := M 118 13) dX12_next_61 fkX12_166 rfl rfl ((ms_no M 118 14 (M 118 13) 118 13 (fun h9 => absurd h9.2 (by decide))).trans rfl) ?_
  refine wa_aload_n dX12_next_64 0 rfl rfl ?_
  refine wb_geti (v := M 118 12) dX12_next_65 fkX12_169 rfl rfl ((ms_no M 118 14 (M 118 13) 118 12 (fun h9 => absurd h9.2 (by decide))).trans rfl) ?_
  refine wa_icmp_ne (tgt := 77) dX12_next_68 rfl (fun hc => ?_) (fun hc => ?_)
  · replace hF := hF.1 hc
    refine wa_aload_n dX12_next_77 0 rfl rfl ?_
    refine wa_getr (r := 121) dX12_next_78 fkX12_16 rfl rfl rfl ?_
    refine wa_aload_n dX12_next_81 0 rfl rfl ?_
    refine wb_geti (v := M 118 13) dX12_next_82 fkX12_166 rfl rfl ((ms_no M 118 14 (M 118 13) 118 13 (fun h9 => absurd h9.2 (by decide))).trans rfl) ?_
    obtain ⟨hi9, hF⟩ := hF
    refine wb_bald (j := (M 118 13).toNatClampNeg) (v := M 121 ((M 118 13).toNatClampNeg)) dX12_next_85 rfl hi9 rfl ((ms_no M 118 14 (M 118 13) 121 ((M 118 13).toNatClampNeg) (fun h9 => absurd h9.1 (by decide))).trans rfl) ?_
    refine wa_istore_n (lv' := [(1, .int (M 121 ((M 118 13).toNatClampNeg))), (0, .ref 118)]) dX12_next_86 rfl rfl rfl ?_
    refine wa_iload_n dX12_next_87 0 rfl rfl ?_
    obtain ⟨Q1, hM9, hF⟩ := hF
    refine wa_callS [.int (M 121 ((M 118 13).toNatClampNeg))] dX12_next_88 (mmX12_isLetter _ _) mlX12_178 mstX12_isLetter rfl (a_dlt d) rfl rfl hM9 ?_
    rintro r9 M1 P9 ⟨v1, rfl, rfl, hq9⟩
    replace hF := hF v1 M1 hq9
    simp only [Option.toList, List.cons_append, List.nil_append]
    refine wa_if_eq (tgt := 211) dX12_next_91 rfl (fun hc => ?_) (fun hc => ?_)
    · replace hF := hF.1 hc
      refine wa_iload_n dX12_next_211 0 rfl rfl ?_
      refine wa_bipush (v := 48) dX12_next_212 rfl ?_
      refine wa_bipush (v := 57) dX12_next_214 rfl ?_
      obtain ⟨Q2, hM9, hF⟩ := hF
      refine wa_callS [.int (M 121 ((M 118 13).toNatClampNeg)), .int 48, .int 57] dX12_next_216 (mmX12_in _ _) mlX12_124 mstX12_in rfl (a_dlt d) rfl rfl hM9 ?_
      rintro r9 M2 P9 ⟨v2, rfl, rfl, hq9⟩
      replace hF := hF v2 M2 hq9
      simp only [Option.toList, List.cons_append, List.nil_append]
      refine wa_if_eq (tgt := 315) dX12_next_219 rfl (fun hc => ?_) (fun hc => ?_)
      · replace hF := hF.1 hc
        refine wa_aload_n dX12_next_315 1 rfl rfl ?_
        refine wa_dup dX12_next_316 rfl ?_
        refine wb_geti (v := M2 118 13) dX12_next_317 fkX12_166 rfl rfl rfl ?_
        refine wa_iconst (v := 1) dX12_next_320 rfl ?_
        refine wa_iadd dX12_next_321 ?_
        refine wb_puti dX12_next_322 fkX12_166 fmX12_13 rfl rfl ?_
        refine wa_aload_n dX12_next_325 1 rfl rfl ?_
        refine wa_iload_n dX12_next_326 0 rfl rfl ?_
        refine wb_puti dX12_next_327 fkX12_187 fmX12_16 rfl rfl ?_
        refine wa_aload_n dX12_next_330 1 rfl rfl ?_
        refine wa_iload_n dX12_next_331 0 rfl rfl ?_
        refine wa_bipush (v := 59) dX12_next_332 rfl ?_
        refine wa_bipush (v := 62) dX12_next_334 rfl ?_
        obtain ⟨Q3, hM9, hF⟩ := hF
        refine wa_callS [.int (M 121 ((M 118 13).toNatClampNeg)), .int 59, .int 62] dX12_next_336 (mmX12_in _ _) mlX12_124 mstX12_in rfl (a_dlt d) rfl rfl hM9 ?_
        rintro r9 M3 P9 ⟨v3, rfl, rfl, hq9⟩
        replace hF := hF v3 M3 hq9
        simp only [Option.toList, List.cons_append, List.nil_append]
        refine wa_if_ne (tgt := 365) dX12_next_339 rfl (fun hc => ?_) (fun hc => ?_)
        · replace hF := hF.1 hc
          refine wa_iconst (v := 3) dX12_next_365 rfl ?_
          refine wa_goto (tgt := 370) dX12_next_366 rfl ?_
          refine wb_puti dX12_next_370 fkX12_175 fmX12_15 rfl rfl ?_
          refine wa_iload_n dX12_next_373 0 rfl rfl ?_
          refine wa_bipush (v := 60) dX12_next_374 rfl ?_
          refine wa_icmp_eq (tgt := 385) dX12_next_376 rfl (fun hc => ?_) (fun hc => ?_)
          · replace hF := hF.1 hc
            exact wa_pick [1, 0] rfl hF
          · replace hF := hF.2 hc
            refine wa_iload_n dX12_next_379 0 rfl rfl ?_
            refine wa_bipush (v := 62) dX12_next_380 rfl ?_
            refine wa_icmp_ne (tgt := 439) dX12_next_382 rfl (fun hc => ?_) (fun hc => ?_)
            · replace hF := hF.1 hc
              exact wa_vret dX12_next_439 rfl hF
            · replace hF := hF.2 hc
              exact wa_pick [1, 0] rfl hF
        · replace hF := hF.2 hc
          refine wa_iload_n dX12_next_342 0 rfl rfl ?_
          refine wa_bipush (v := 40) dX12_next_343 rfl ?_
          refine wa_bipush (v := 45) dX12_next_345 rfl ?_
          obtain ⟨Q4, hM9, hF⟩ := hF
          refine wa_callS [.int (M 121 ((M 118 13).toNatClampNeg)), .int 40, .int 45] dX12_next_347 (mmX12_in _ _) mlX12_124 mstX12_in rfl (a_dlt d) rfl rfl hM9 ?_
          rintro r9 M4 P9 ⟨v4, rfl, rfl, hq9⟩
          replace hF := hF v4 M4 hq9
          simp only [Option.toList, List.cons_append, List.nil_append]
          refine wa_if_ne (tgt := 365) dX12_next_350 rfl (fun hc => ?_) (fun hc => ?_)
          · replace hF := hF.1 hc
            refine wa_iconst (v := 3) dX12_next_365 rfl ?_
            refine wa_goto (tgt := 370) dX12_next_366 rfl ?_
            refine wb_puti dX12_next_370 fkX12_175 fmX12_15 rfl rfl ?_
            refine wa_iload_n dX12_next_373 0 rfl rfl ?_
            refine wa_bipush (v := 60) dX12_next_374 rfl ?_
            refine wa_icmp_eq (tgt := 385) dX12_next_376 rfl (fun hc => ?_) (fun hc => ?_)
            · replace hF := hF.1 hc
              exact wa_pick [1, 0] rfl hF
            · replace hF := hF.2 hc
              refine wa_iload_n dX12_next_379 0 rfl rfl ?_
              refine wa_bipush (v := 62) dX12_next_380 rfl ?_
              refine wa_icmp_ne (tgt := 439) dX12_next_382 rfl (fun hc => ?_) (fun hc => ?_)
              · replace hF := hF.1 hc
                exact wa_vret dX12_next_439 rfl hF
              · replace hF := hF.2 hc
                exact wa_pick [1, 0] rfl hF
          · replace hF := hF.2 hc
            refine wa_iload_n dX12_next_353 0 rfl rfl ?_
            refine wa_bipush (v := 47) dX12_next_354 rfl ?_
            refine wa_icmp_eq (tgt := 365) dX12_next_356 rfl (fun hc => ?_) (fun hc => ?_)
            · replace hF := hF.1 hc
              refine wa_iconst (v := 3) dX12_next_365 rfl ?_
              refine wa_goto (tgt := 370) dX12_next_366 rfl ?_
              refine wb_puti dX12_next_370 fkX12_175 fmX12_15 rfl rfl ?_
              refine wa_iload_n dX12_next_373 0 rfl rfl ?_
              refine wa_bipush (v := 60) dX12_next_374 rfl ?_
              refine wa_icmp_eq (tgt := 385) dX12_next_376 rfl (fun hc => ?_) (fun hc => ?_)
              · replace hF := hF.1 hc
                exact wa_pick [1, 0] rfl hF
              · replace hF := hF.2 hc
                refine wa_iload_n dX12_next_379 0 rfl rfl ?_
                refine wa_bipush (v := 62) dX12_next_380 rfl ?_
                refine wa_icmp_ne (tgt := 439) dX12_next_382 rfl (fun hc => ?_) (fun hc => ?_)
                · replace hF := hF.1 hc
                  exact wa_vret dX12_next_439 rfl hF
                · replace hF := hF.2 hc
                  exact wa_pick [1, 0] rfl hF
            · replace hF := hF.2 hc
              refine wa_iload_n dX12_next_359 0 rfl rfl ?_
              refine wa_bipush (v := 35) dX12_next_360 rfl ?_
              refine wa_icmp_ne (tgt := 369) dX12_next_362 rfl (fun hc => ?_) (fun hc => ?_)
              · replace hF := hF.1 hc
                refine wa_iconst (v := 4) dX12_next_369 rfl ?_
                refine wb_puti dX12_next_370 fkX12_175 fmX12_15 rfl rfl ?_
                refine wa_iload_n dX12_next_373 0 rfl rfl ?_
                refine wa_bipush (v := 60) dX12_next_374 rfl ?_
                refine wa_icmp_eq (tgt := 385) dX12_next_376 rfl (fun hc => ?_) (fun hc => ?_)
                · replace hF := hF.1 hc
                  exact wa_pick [1, 0] rfl hF
                · replace hF := hF.2 hc
                  refine wa_iload_n dX12_next_379 0 rfl rfl ?_
                  refine wa_bipush (v := 62) dX12_next_380 rfl ?_
                  refine wa_icmp_ne (tgt := 439) dX12_next_382 rfl (fun hc => ?_) (fun hc => ?_)
                  · replace hF := hF.1 hc
                    exact wa_vret dX12_next_439 rfl hF
                  · replace hF := hF.2 hc
                    exact wa_pick [1, 0] rfl hF
              · replace hF := hF.2 hc
                refine wa_iconst (v := 3) dX12_next_365 rfl ?_
                refine wa_goto (tgt := 370) dX12_next_366 rfl ?_
                refine wb_puti dX12_next_370 fkX12_175 fmX12_15 rfl rfl ?_
                refine wa_iload_n dX12_next_373 0 rfl rfl ?_
                refine wa_bipush (v := 60) dX12_next_374 rfl ?_
                refine wa_icmp_eq (tgt := 385) dX12_next_376 rfl (fun hc => ?_) (fun hc => ?_)
                · replace hF := hF.1 hc
                  exact wa_pick [1, 0] rfl hF
                · replace hF := hF.2 hc
                  refine wa_iload_n dX12_next_379 0 rfl rfl ?_
                  refine wa_bipush (v := 62) dX12_next_380 rfl ?_
                  refine wa_icmp_ne (tgt := 439) dX12_next_382 rfl (fun hc => ?_) (fun hc => ?_)
                  · replace hF := hF.1 hc
                    exact wa_vret dX12_next_439 rfl hF
                  · replace hF := hF.2 hc
                    exact wa_pick [1, 0] rfl hF
      · replace hF := hF.2 hc
        refine wa_aload_n dX12_next_222 1 rfl rfl ?_
        refine wa_iconst (v := 2) dX12_next_223 rfl ?_
        refine wb_puti dX12_next_224 fkX12_175 fmX12_15 rfl rfl ?_
        refine wa_aload_n dX12_next_227 1 rfl rfl ?_
        refine wa_iconst (v := 0) dX12_next_228 rfl ?_
        refine wb_puti dX12_next_229 fkX12_187 fmX12_16 rfl rfl ?_
        exact wa_pick [1] rfl hF
    · replace hF := hF.2 hc
      refine wa_lconst (v := 0) dX12_next_94 rfl ?_
      refine wa_lstore_n (lv' := [(2, .long 0), (1, .int (M 121 ((M 118 13).toNatClampNeg))), (0, .ref 118)]) dX12_next_95 rfl rfl rfl ?_
      refine wa_iconst (v := 0) dX12_next_96 rfl ?_
      refine wa_istore (lv' := [(4, .int 0), (2, .long 0), (1, .int (M 121 ((M 118 13).toNatClampNeg))), (0, .ref 118)]) dX12_next_97 rfl rfl ?_
      exact wa_pick [3, 1, 0] rfl hF
  · replace hF := hF.2 hc
    refine wa_aload_n dX12_next_71 0 rfl rfl ?_
    refine wa_iconst (v := 0) dX12_next_72 rfl ?_
    refine wb_puti dX12_next_73 fkX12_175 fmX12_15 rfl rfl ?_
    exact wa_vret dX12_next_76 rfl hF

theorem bX12_next_99 {X : a_X} {ad : Nat → Nat} {ca : Nat → ClassId} {d : Nat} {kc ks : Nat} {QF : List Frame → Array Value → State → State → Prop} {x : Nat} {M : a_M} (x2 : Int64) (x4 : Int32)  (hF : (((M 118 12) ≤ (M 118 13) → WA X ad ca LY RX12 cX12_next 5 none (d + 1) kc ks QF 173 [(0, .ref 118), (2, .long x2), (4, .int x4)] [] M (PT x)) ∧ (¬ (M 118 12) ≤ (M 118 13) → (vp_in (M 118 13) 300 ∧ (∃ Q1 : Int32 → a_M → Prop, Mt X ad ca LY d yX12_isLetter cX12_isLetter 1 (some FieldType.boolean) [.int (M 121 ((M 118 13).toNatClampNeg))] M (PT x) (q_i (PT x) Q1) ∧ ∀ v1 M1, Q1 v1 M1 → ((v1 = 0 → WA X ad ca LY RX12 cX12_next 5 none (d + 1) kc ks QF 173 [(0, .ref 118), (2, .long x2), (4, .int x4)] [] M1 (PT x)) ∧ (¬ v1 = 0 → ((8 ≤ x4 → WA X ad ca LY RX12 cX12_next 5 none (d + 1) kc ks QF 99 [(0, .ref 118), (2, .long x2), (4, .int (x4 + 1))] [] (ms M1 118 13 ((M1 118 13) + 1)) (PT x)) ∧ (¬ 8 ≤ x4 → (vp_in (M1 118 13) 300 ∧ WA X ad ca LY RX12 cX12_next 5 none (d + 1) kc ks QF 99 [(0, .ref 118), (2, .long (((64 * x2) + ((M1 121 ((M1 118 13).toNatClampNeg)).toInt64)) - 64)), (4, .int (x4 + 1))] [] (ms M1 118 13 ((M1 118 13) + 1)) (PT x))))))))))) : WA X ad ca LY RX12 cX12_next 5 none (d + 1) kc ks QF 99 [(0, .ref 118), (2, .long x2), (4, .int x4)] [] M (PT x) := by
  refine wa_aload_n dX12_next_99 0 rfl rfl ?_
  refine wb_geti (v := M 118 13) dX12_next_100 fkX12_166 rfl rfl rfl ?_
  refine wa_aload_n dX12_next_103 0 rfl rfl ?_
  refine wb_geti (v := M 118 12) dX12_next_104 fkX12_169 rfl rfl rfl ?_
  refine wa_icmp_ge (tgt := 173) dX12_next_107 rfl (fun hc => ?_) (fun hc => ?_)
  · replace hF := hF.1 hc
    exact hF
  · replace hF := hF.2 hc
    refine wa_aload_n dX12_next_110 0 rfl rfl ?_
    refine wa_getr (r := 121) dX12_next_111 fkX12_16 rfl rfl rfl ?_
    refine wa_aload_n dX12_next_114 0 rfl rfl ?_
    refine wb_geti (v := M 118 13) dX12_next_115 fkX12_166 rfl rfl rfl ?_
    obtain ⟨hi9, hF⟩ := hF
    refine wb_bald (j := (M 118 13).toNatClampNeg) (v := M 121 ((M 118 13).toNatClampNeg)) dX12_next_118 rfl hi9 rfl rfl ?_
    obtain ⟨Q1, hM9, hF⟩ := hF
    refine wa_callS [.int (M 121 ((M 118 13).toNatClampNeg))] dX12_next_119 (mmX12_isLetter _ _) mlX12_178 mstX12_isLetter rfl (a_dlt d) rfl rfl hM9 ?_
    rintro r9 M1 P9 ⟨v1, rfl, rfl, hq9⟩
    replace hF := hF v1 M1 hq9
    simp only [Option.toList, List.cons_append, List.nil_append]
    refine wa_if_eq (tgt := 173) dX12_next_122 rfl (fun hc => ?_) (fun hc => ?_)
    · replace hF := hF.1 hc
      exact hF
    · replace hF := hF.2 hc
      refine wa_iload dX12_next_125 2 rfl ?_
      refine wa_bipush (v := 8) dX12_next_127 rfl ?_
      refine wa_icmp_ge (tgt := 155) dX12_next_129 rfl (fun hc => ?_) (fun hc => ?_)
      · replace hF := hF.1 hc
        refine wa_lload_n dX12_next_155 1 rfl rfl ?_
        refine wa_lstore_n (lv' := [(2, .long x2), (0, .ref 118), (4, .int x4)]) dX12_next_156 rfl rfl rfl ?_
        refine wa_iinc (v := x4 + 1) (lv' := [(4, .int (x4 + 1)), (2, .long x2), (0, .ref 118)]) dX12_next_157 2 rfl rfl rfl rfl ?_
        refine wa_aload_n dX12_next_160 2 rfl rfl ?_
        refine wa_dup dX12_next_161 rfl ?_
        refine wb_geti (v := M1 118 13) dX12_next_162 fkX12_166 rfl rfl rfl ?_
        refine wa_iconst (v := 1) dX12_next_165 rfl ?_
        refine wa_iadd dX12_next_166 ?_
        refine wb_puti dX12_next_167 fkX12_166 fmX12_13 rfl rfl ?_
        refine wa_goto (tgt := 99) dX12_next_170 rfl ?_
        exact wa_pick [2, 1, 0] rfl hF
      · replace hF := hF.2 hc
        refine wa_ldc2 dX12_next_132 klX12_181 ?_
        refine wa_lload_n dX12_next_135 1 rfl rfl ?_
        refine wa_lmul dX12_next_136 ?_
        refine wa_aload_n dX12_next_137 0 rfl rfl ?_
        refine wa_getr (r := 121) dX12_next_138 fkX12_16 rfl rfl rfl ?_
        refine wa_aload_n dX12_next_141 0 rfl rfl ?_
        refine wb_geti (v := M1 118 13) dX12_next_142 fkX12_166 rfl rfl rfl ?_
        obtain ⟨hi9, hF⟩ := hF
        refine wb_bald (j := (M1 118 13).toNatClampNeg) (v := M1 121 ((M1 118 13).toNatClampNeg)) dX12_next_145 rfl hi9 rfl rfl ?_
        refine wa_i2l dX12_next_146 ?_
        refine wa_ladd dX12_next_147 ?_
        refine wa_ldc2 dX12_next_148 klX12_181 ?_
        refine wa_lsub dX12_next_151 ?_
        refine wa_goto (tgt := 156) dX12_next_152 rfl ?_
        refine wa_lstore_n (lv' := [(2, .long (((64 * x2) + ((M1 121 ((M1 118 13).toNatClampNeg)).toInt64)) - 64)), (0, .ref 118), (4, .int x4)]) dX12_next_156 rfl rfl rfl ?_
        refine wa_iinc (v := x4 + 1) (lv' := [(4, .int (x4 + 1)), (2, .long (((64 * x2) + ((M1 121 ((M1 118 13).toNatClampNeg)).toInt64)) - 64)), (0, .ref 118)]) dX12_next_157 2 rfl rfl rfl rfl ?_
        refine wa_aload_n dX12_next_160 2 rfl rfl ?_
        refine wa_dup dX12_next_161 rfl ?_
        refine wb_geti (v := M1 118 13) dX12_next_162 fkX12_166 rfl rfl rfl ?_
        refine wa_iconst (v := 1) dX12_next_165 rfl ?_
        refine wa_iadd dX12_next_166 ?_
        refine wb_puti dX12_next_167 fkX12_166 fmX12_13 rfl rfl ?_
        refine wa_goto (tgt := 99) dX12_next_170 rfl ?_
        exact wa_pick [2, 1, 0] rfl hF

theorem bX12_next_173 {X : a_X} {ad : Nat → Nat} {ca : Nat → ClassId} {d : Nat} {Post : Option Value → a_M → a_P → Prop} {x : Nat} {M : a_M} (x2 : Int64) (x4 : Int32)  (hF : ((x4 ≤ 7 → (∃ Q1 : Int32 → a_M → Prop, Mt X ad ca LY d yX12_wordOf cX12_wordOf 2 (some FieldType.int) [.long x2] M (PT x) (q_i (PT x) Q1) ∧ ∀ v1 M1, Q1 v1 M1 → ((0 ≤ v1 → Post none (ms (ms M1 118 16 v1) 118 15 1) (PT x)) ∧ (¬ 0 ≤ v1 → Post none (ms (ms M1 118 16 v1) 118 15 4) (PT x))))) ∧ (¬ x4 ≤ 7 → Post none (ms (ms M 118 16 (-1)) 118 15 4) (PT x)))) : WA X ad ca LY RX12 cX12_next 5 none (d + 1) 0 0 (a_E X ad ca LY Post) 173 [(0, .ref 118), (2, .long x2), (4, .int x4)] [] M (PT x) := by
  refine wa_aload_n dX12_next_173 0 rfl rfl ?_
  refine wa_iload dX12_next_174 2 rfl ?_
  refine wa_bipush (v := 7) dX12_next_176 rfl ?_
  refine wa_icmp_le (tgt := 185) dX12_next_178 rfl (fun hc => ?_) (fun hc => ?_)
  · replace hF := hF.1 hc
    refine wa_lload_n dX12_next_185 1 rfl rfl ?_
    obtain ⟨Q1, hM9, hF⟩ := hF
    refine wa_callS [.long x2] dX12_next_186 (mmX12_wordOf _ _) mlX12_183 mstX12_wordOf rfl (a_dlt d) rfl rfl hM9 ?_
    rintro r9 M1 P9 ⟨v1, rfl, rfl, hq9⟩
    replace hF := hF v1 M1 hq9
    simp only [Option.toList, List.cons_append, List.nil_append]
    refine wb_puti dX12_next_189 fkX12_187 fmX12_16 rfl rfl ?_
    refine wa_aload_n dX12_next_192 0 rfl rfl ?_
    refine wa_aload_n dX12_next_193 0 rfl rfl ?_
    refine wb_geti (v := v1) dX12_next_194 fkX12_187 rfl rfl (ms_is M1 118 16 v1) ?_
    refine wa_if_ge (tgt := 204) dX12_next_197 rfl (fun hc => ?_) (fun hc => ?_)
    · replace hF := hF.1 hc
      refine wa_iconst (v := 1) dX12_next_204 rfl ?_
      refine wb_puti dX12_next_205 fkX12_175 fmX12_15 rfl rfl ?_
      refine wa_goto (tgt := 439) dX12_next_208 rfl ?_
      exact wa_vret dX12_next_439 rfl hF
    · replace hF := hF.2 hc
      refine wa_iconst (v := 4) dX12_next_200 rfl ?_
      refine wa_goto (tgt := 205) dX12_next_201 rfl ?_
      refine wb_puti dX12_next_205 fkX12_175 fmX12_15 rfl rfl ?_
      refine wa_goto (tgt := 439) dX12_next_208 rfl ?_
      exact wa_vret dX12_next_439 rfl hF
  · replace hF := hF.2 hc
    refine wa_iconst (v := (-1)) dX12_next_181 rfl ?_
    refine wa_goto (tgt := 189) dX12_next_182 rfl ?_
    refine wb_puti dX12_next_189 fkX12_187 fmX12_16 rfl rfl ?_
    refine wa_aload_n dX12_next_192 0 rfl rfl ?_
    refine wa_aload_n dX12_next_193 0 rfl rfl ?_
    refine wb_geti (v := (-1)) dX12_next_194 fkX12_187 rfl rfl (ms_is M 118 16 (-1)) ?_
    refine wa_if_ge (tgt := 204) dX12_next_197 rfl (fun hc => ?_) (fun hc => ?_)
    · exact absurd hc (by decide)
    · skip
      refine wa_iconst (v := 4) dX12_next_200 rfl ?_
      refine wa_goto (tgt := 205) dX12_next_201 rfl ?_
      refine wb_puti dX12_next_205 fkX12_175 fmX12_15 rfl rfl ?_
      refine wa_goto (tgt := 439) dX12_next_208 rfl ?_
      exact wa_vret dX12_next_439 rfl hF

theorem bX12_next_232 {X : a_X} {ad : Nat → Nat} {ca : Nat → ClassId} {d : Nat} {Post : Option Value → a_M → a_P → Prop} {x : Nat} {M : a_M}   (hF : (((M 118 12) ≤ (M 118 13) → Post none M (PT x)) ∧ (¬ (M 118 12) ≤ (M 118 13) → (vp_in (M 118 13) 300 ∧ (∃ Q1 : Int32 → a_M → Prop, Mt X ad ca LY d yX12_in cX12_in 3 (some FieldType.boolean) [.int (M 121 ((M 118 13).toNatClampNeg)), .int 48, .int 57] M (PT x) (q_i (PT x) Q1) ∧ ∀ v1 M1, Q1 v1 M1 → ((v1 = 0 → Post none M1 (PT x)) ∧ (¬ v1 = 0 → (((M1 118 16) ≤ 99999 → (vp_in (M1 118 13) 300 ∧ WA X ad ca LY RX12 cX12_next 5 none (d + 1) 0 0 (a_E X ad ca LY Post) 232 [(0, .ref 118)] [] (ms (ms M1 118 16 (((10 * (M1 118 16)) + (M1 121 ((M1 118 13).toNatClampNeg))) - 48)) 118 13 ((M1 118 13) + 1)) (PT x))) ∧ (¬ (M1 118 16) ≤ 99999 → WA X ad ca LY RX12 cX12_next 5 none (d + 1) 0 0 (a_E X ad ca LY Post) 232 [(0, .ref 118)] [] (ms (ms M1 118 16 (M1 118 16)) 118 13 ((M1 118 13) + 1)) (PT x)))))))))) : WA X ad ca LY RX12 cX12_next 5 none (d + 1) 0 0 (a_E X ad ca LY Post) 232 [(0, .ref 118)] [] M (PT x) := by
  refine wa_aload_n dX12_next_232 0 rfl rfl ?_
  refine wb_geti (v := M 118 13) dX12_next_233 fkX12_166 rfl rfl rfl ?_
  refine wa_aload_n dX12_next_236 0 rfl rfl ?_
  refine wb_geti (v := M 118 12) dX12_next_237 fkX12_169 rfl rfl rfl ?_
  refine wa_icmp_ge (tgt := 439) dX12_next_240 rfl (fun hc => ?_) (fun hc => ?_)
  · replace hF := hF.1 hc
    exact wa_vret dX12_next_439 rfl hF
  · replace hF := hF.2 hc
    refine wa_aload_n dX12_next_243 0 rfl rfl ?_
    refine wa_getr (r := 121) dX12_next_244 fkX12_16 rfl rfl rfl ?_
    refine wa_aload_n dX12_next_247 0 rfl rfl ?_
    refine wb_geti (v := M 118 13) dX12_next_248 fkX12_166 rfl rfl rfl ?_
    obtain ⟨hi9, hF⟩ := hF
    refine wb_bald (j := (M 118 13).toNatClampNeg) (v := M 121 ((M 118 13).toNatClampNeg)) dX12_next_251 rfl hi9 rfl rfl ?_
    refine wa_bipush (v := 48) dX12_next_252 rfl ?_
    refine wa_bipush (v := 57) dX12_next_254 rfl ?_
    obtain ⟨Q1, hM9, hF⟩ := hF
    refine wa_callS [.int (M 121 ((M 118 13).toNatClampNeg)), .int 48, .int 57] dX12_next_256 (mmX12_in _ _) mlX12_124 mstX12_in rfl (a_dlt d) rfl rfl hM9 ?_
    rintro r9 M1 P9 ⟨v1, rfl, rfl, hq9⟩
    replace hF := hF v1 M1 hq9
    simp only [Option.toList, List.cons_append, List.nil_append]
    refine wa_if_eq (tgt := 439) dX12_next_259 rfl (fun hc => ?_) (fun hc => ?_)
    · replace hF := hF.1 hc
      exact wa_vret dX12_next_439 rfl hF
    · replace hF := hF.2 hc
      refine wa_aload_n dX12_next_262 0 rfl rfl ?_
      refine wa_aload_n dX12_next_263 0 rfl rfl ?_
      refine wb_geti (v := M1 118 16) dX12_next_264 fkX12_187 rfl rfl rfl ?_
      refine wa_ldc dX12_next_267 kiX12_190 ?_
      refine wa_icmp_le (tgt := 279) dX12_next_269 rfl (fun hc => ?_) (fun hc => ?_)
      · replace hF := hF.1 hc
        refine wa_bipush (v := 10) dX12_next_279 rfl ?_
        refine wa_aload_n dX12_next_281 0 rfl rfl ?_
        refine wb_geti (v := M1 118 16) dX12_next_282 fkX12_187 rfl rfl rfl ?_
        refine wa_imul dX12_next_285 ?_
        refine wa_aload_n dX12_next_286 0 rfl rfl ?_
        refine wa_getr (r := 121) dX12_next_287 fkX12_16 rfl rfl rfl ?_
        refine wa_aload_n dX12_next_290 0 rfl rfl ?_
        refine wb_geti (v := M1 118 13) dX12_next_291 fkX12_166 rfl rfl rfl ?_
        obtain ⟨hi9, hF⟩ := hF
        refine wb_bald (j := (M1 118 13).toNatClampNeg) (v := M1 121 ((M1 118 13).toNatClampNeg)) dX12_next_294 rfl hi9 rfl rfl ?_
        refine wa_iadd dX12_next_295 ?_
        refine wa_bipush (v := 48) dX12_next_296 rfl ?_
        refine wa_isub dX12_next_298 ?_
        refine wb_puti dX12_next_299 fkX12_187 fmX12_16 rfl rfl ?_
        refine wa_aload_n dX12_next_302 0 rfl rfl ?_
        refine wa_dup dX12_next_303 rfl ?_
        refine wb_geti (v := M1 118 13) dX12_next_304 fkX12_166 rfl rfl ((ms_no M1 118 16 (((10 * (M1 118 16)) + (M1 121 ((M1 118 13).toNatClampNeg))) - 48) 118 13 (fun h9 => absurd h9.2 (by decide))).trans rfl) ?_
        refine wa_iconst (v := 1) dX12_next_307 rfl ?_
        refine wa_iadd dX12_next_308 ?_
        refine wb_puti dX12_next_309 fkX12_166 fmX12_13 rfl rfl ?_
        refine wa_goto (tgt := 232) dX12_next_312 rfl ?_
        exact hF
      · replace hF := hF.2 hc
        refine wa_aload_n dX12_next_272 0 rfl rfl ?_
        refine wb_geti (v := M1 118 16) dX12_next_273 fkX12_187 rfl rfl rfl ?_
        refine wa_goto (tgt := 299) dX12_next_276 rfl ?_
        refine wb_puti dX12_next_299 fkX12_187 fmX12_16 rfl rfl ?_
        refine wa_aload_n dX12_next_302 0 rfl rfl ?_
        refine wa_dup dX12_next_303 rfl ?_
        refine wb_geti (v := M1 118 13) dX12_next_304 fkX12_166 rfl rfl ((ms_no M1 118 16 (M1 118 16) 118 13 (fun h9 => absurd h9.2 (by decide))).trans rfl) ?_
        refine wa_iconst (v := 1) dX12_next_307 rfl ?_
        refine wa_iadd dX12_next_308 ?_
        refine wb_puti dX12_next_309 fkX12_166 fmX12_13 rfl rfl ?_
        refine wa_goto (tgt := 232) dX12_next_312 rfl ?_
        exact hF

theorem bX12_next_385 {X : a_X} {ad : Nat → Nat} {ca : Nat → ClassId} {d : Nat} {Post : Option Value → a_M → a_P → Prop} {x : Nat} {M : a_M} (x1 : Int32)  (hF : (((M 118 12) ≤ (M 118 13) → Post none M (PT x)) ∧ (¬ (M 118 12) ≤ (M 118 13) → (vp_in (M 118 13) 300 ∧ ((¬ (M 121 ((M 118 13).toNatClampNeg)) = 61 → Post none M (PT x)) ∧ ((M 121 ((M 118 13).toNatClampNeg)) = 61 → ((¬ x1 = 60 → Post none (ms (ms M 118 16 301) 118 13 ((M 118 13) + 1)) (PT x)) ∧ (x1 = 60 → Post none (ms (ms M 118 16 300) 118 13 ((M 118 13) + 1)) (PT x))))))))) : WA X ad ca LY RX12 cX12_next 5 none (d + 1) 0 0 (a_E X ad ca LY Post) 385 [(0, .ref 118), (1, .int x1)] [] M (PT x) := by
  refine wa_aload_n dX12_next_385 0 rfl rfl ?_
  refine wb_geti (v := M 118 13) dX12_next_386 fkX12_166 rfl rfl rfl ?_
  refine wa_aload_n dX12_next_389 0 rfl rfl ?_
  refine wb_geti (v := M 118 12) dX12_next_390 fkX12_169 rfl rfl rfl ?_
  refine wa_icmp_ge (tgt := 439) dX12_next_393 rfl (fun hc => ?_) (fun hc => ?_)
  · replace hF := hF.1 hc
    exact wa_vret dX12_next_439 rfl hF
  · replace hF := hF.2 hc
    refine wa_aload_n dX12_next_396 0 rfl rfl ?_
    refine wa_getr (r := 121) dX12_next_397 fkX12_16 rfl rfl rfl ?_
    refine wa_aload_n dX12_next_400 0 rfl rfl ?_
    refine wb_geti (v := M 118 13) dX12_next_401 fkX12_166 rfl rfl rfl ?_
    obtain ⟨hi9, hF⟩ := hF
    refine wb_bald (j := (M 118 13).toNatClampNeg) (v := M 121 ((M 118 13).toNatClampNeg)) dX12_next_404 rfl hi9 rfl rfl ?_
    refine wa_bipush (v := 61) dX12_next_405 rfl ?_
    refine wa_icmp_ne (tgt := 439) dX12_next_407 rfl (fun hc => ?_) (fun hc => ?_)
    · replace hF := hF.1 hc
      exact wa_vret dX12_next_439 rfl hF
    · replace hF := hF.2 hc
      refine wa_aload_n dX12_next_410 0 rfl rfl ?_
      refine wa_iload_n dX12_next_411 1 rfl rfl ?_
      refine wa_bipush (v := 60) dX12_next_412 rfl ?_
      refine wa_icmp_ne (tgt := 423) dX12_next_414 rfl (fun hc => ?_) (fun hc => ?_)
      · replace hF := hF.1 hc
        refine wa_sipush (v := 301) dX12_next_423 rfl ?_
        refine wb_puti dX12_next_426 fkX12_187 fmX12_16 rfl rfl ?_
        refine wa_aload_n dX12_next_429 0 rfl rfl ?_
        refine wa_dup dX12_next_430 rfl ?_
        refine wb_geti (v := M 118 13) dX12_next_431 fkX12_166 rfl rfl ((ms_no M 118 16 301 118 13 (fun h9 => absurd h9.2 (by decide))).trans rfl) ?_
        refine wa_iconst (v := 1) dX12_next_434 rfl ?_
        refine wa_iadd dX12_next_435 ?_
        refine wb_puti dX12_next_436 fkX12_166 fmX12_13 rfl rfl ?_
        exact wa_vret dX12_next_439 rfl hF
      · replace hF := hF.2 hc
        refine wa_sipush (v := 300) dX12_next_417 rfl ?_
        refine wa_goto (tgt := 426) dX12_next_420 rfl ?_
        refine wb_puti dX12_next_426 fkX12_187 fmX12_16 rfl rfl ?_
        refine wa_aload_n dX12_next_429 0 rfl rfl ?_
        refine wa_dup dX12_next_430 rfl ?_
        refine wb_geti (v := M 118 13) dX12_next_431 fkX12_166 rfl rfl ((ms_no M 118 16 300 118 13 (fun h9 => absurd h9.2 (by decide))).trans rfl) ?_
        refine wa_iconst (v := 1) dX12_next_434 rfl ?_
        refine wa_iadd dX12_next_435 ?_
        refine wb_puti dX12_next_436 fkX12_166 fmX12_13 rfl rfl ?_
        exact wa_vret dX12_next_439 rfl hF

theorem eX12_next {X : a_X} {ad : Nat → Nat} {ca : Nat → ClassId} {d : Nat} {Post : Option Value → a_M → a_P → Prop} {x : Nat} {M : a_M}  (h : WA X ad ca LY RX12 cX12_next 5 none d 0 0 (a_E X ad ca LY Post) 0 [(0, .ref 118)] [] M (PT x)) : Mt X ad ca LY d yX12_next cX12_next 5 none [.ref 118] M (PT x) Post := Mt.of (lv := [(0, .ref 118)]) (by decide +kernel) rfl rfl rfl (wa_pick [0] rfl h)

theorem bX12_isSign_0 {X : a_X} {ad : Nat → Nat} {ca : Nat → ClassId} {d : Nat} {Post : Option Value → a_M → a_P → Prop} {x : Nat} {M : a_M} (x1 : Int32)  (hF : ((¬ (M 118 15) = 3 → WA X ad ca LY RX12 cX12_isSign 2 (some FieldType.boolean) (d + 1) 0 0 (a_E X ad ca LY Post) 20 [] [] M (PT x)) ∧ ((M 118 15) = 3 → ((¬ (M 118 16) = x1 → WA X ad ca LY RX12 cX12_isSign 2 (some FieldType.boolean) (d + 1) 0 0 (a_E X ad ca LY Post) 20 [] [] M (PT x)) ∧ ((M 118 16) = x1 → Post (some (.int 1)) M (PT x)))))) : WA X ad ca LY RX12 cX12_isSign 2 (some FieldType.boolean) (d + 1) 0 0 (a_E X ad ca LY Post) 0 [(0, .ref 118), (1, .int x1)] [] M (PT x) := by
  refine wa_aload_n dX12_isSign_0 0 rfl rfl ?_
  refine wb_geti (v := M 118 15) dX12_isSign_1 fkX12_175 rfl rfl rfl ?_
  refine wa_iconst (v := 3) dX12_isSign_4 rfl ?_
  refine wa_icmp_ne (tgt := 20) dX12_isSign_5 rfl (fun hc => ?_) (fun hc => ?_)
  · replace hF := hF.1 hc
    exact wa_pick [] rfl hF
  · replace hF := hF.2 hc
    refine wa_aload_n dX12_isSign_8 0 rfl rfl ?_
    refine wb_geti (v := M 118 16) dX12_isSign_9 fkX12_187 rfl rfl rfl ?_
    refine wa_iload_n dX12_isSign_12 1 rfl rfl ?_
    refine wa_icmp_ne (tgt := 20) dX12_isSign_13 rfl (fun hc => ?_) (fun hc => ?_)
    · replace hF := hF.1 hc
      exact wa_pick [] rfl hF
    · replace hF := hF.2 hc
      refine wa_iconst (v := 1) dX12_isSign_16 rfl ?_
      refine wa_goto (tgt := 21) dX12_isSign_17 rfl ?_
      exact wa_iret dX12_isSign_21 rfl rfl hF

theorem bX12_isSign_20 {X : a_X} {ad : Nat → Nat} {ca : Nat → ClassId} {d : Nat} {Post : Option Value → a_M → a_P → Prop} {x : Nat} {M : a_M}   (hF : Post (some (.int 0)) M (PT x)) : WA X ad ca LY RX12 cX12_isSign 2 (some FieldType.boolean) (d + 1) 0 0 (a_E X ad ca LY Post) 20 [] [] M (PT x) := by
  refine wa_iconst (v := 0) dX12_isSign_20 rfl ?_
  exact wa_iret dX12_isSign_21 rfl rfl hF

theorem eX12_isSign {X : a_X} {ad : Nat → Nat} {ca : Nat → ClassId} {d : Nat} {Post : Option Value → a_M → a_P → Prop} {x : Nat} {M : a_M} (x1 : Int32) (h : WA X ad ca LY RX12 cX12_isSign 2 (some FieldType.boolean) d 0 0 (a_E X ad ca LY Post) 0 [(0, .ref 118), (1, .int x1)] [] M (PT x)) : Mt X ad ca LY d yX12_isSign cX12_isSign 2 (some FieldType.boolean) [.ref 118, .int x1] M (PT x) Post := Mt.of (lv := [(0, .ref 118), (1, .int x1)]) (by decide +kernel) rfl rfl rfl (wa_pick [0, 1] rfl h)

theorem bX12_errs_0 {X : a_X} {ad : Nat → Nat} {ca : Nat → ClassId} {d : Nat} {Post : Option Value → a_M → a_P → Prop} {x : Nat} {M : a_M} (x1 : Int32)  (hF : ((¬ (M 118 17) = 0 → Post none M (PT x)) ∧ ((M 118 17) = 0 → Post none (ms (ms M 118 17 x1) 118 18 (M 118 14)) (PT x)))) : WA X ad ca LY RX12 cX12_errs 2 none (d + 1) 0 0 (a_E X ad ca LY Post) 0 [(0, .ref 118), (1, .int x1)] [] M (PT x) := by
  refine wa_aload_n dX12_errs_0 0 rfl rfl ?_
  refine wb_geti (v := M 118 17) dX12_errs_1 fkX12_191 rfl rfl rfl ?_
  refine wa_if_ne (tgt := 20) dX12_errs_4 rfl (fun hc => ?_) (fun hc => ?_)
  · replace hF := hF.1 hc
    exact wa_vret dX12_errs_20 rfl hF
  · replace hF := hF.2 hc
    refine wa_aload_n dX12_errs_7 0 rfl rfl ?_
    refine wa_iload_n dX12_errs_8 1 rfl rfl ?_
    refine wb_puti dX12_errs_9 fkX12_191 fmX12_17 rfl rfl ?_
    refine wa_aload_n dX12_errs_12 0 rfl rfl ?_
    refine wa_aload_n dX12_errs_13 0 rfl rfl ?_
    refine wb_geti (v := M 118 14) dX12_errs_14 fkX12_172 rfl rfl ((ms_no M 118 17 x1 118 14 (fun h9 => absurd h9.2 (by decide))).trans rfl) ?_
    refine wb_puti dX12_errs_17 fkX12_194 fmX12_18 rfl rfl ?_
    exact wa_vret dX12_errs_20 rfl hF

theorem eX12_errs {X : a_X} {ad : Nat → Nat} {ca : Nat → ClassId} {d : Nat} {Post : Option Value → a_M → a_P → Prop} {x : Nat} {M : a_M} (x1 : Int32) (h : WA X ad ca LY RX12 cX12_errs 2 none d 0 0 (a_E X ad ca LY Post) 0 [(0, .ref 118), (1, .int x1)] [] M (PT x)) : Mt X ad ca LY d yX12_errs cX12_errs 2 none [.ref 118, .int x1] M (PT x) Post := Mt.of (lv := [(0, .ref 118), (1, .int x1)]) (by decide +kernel) rfl rfl rfl (wa_pick [0, 1] rfl h)

theorem bX12_emits_0 {X : a_X} {ad : Nat → Nat} {ca : Nat → ClassId} {d : Nat} {Post : Option Value → a_M → a_P → Prop} {x : Nat} {M : a_M} (x1 : Int32) (x2 : Int32)  (hF : (vp_in (M 118 31) 400 ∧ (vp_in (M 118 31) 400 ∧ Post none (ms (ms (ms M 134 ((M 118 31).toNatClampNeg) x1) 135 ((M 118 31).toNatClampNeg) x2) 118 31 ((M 118 31) + 1)) (PT x)))) : WA X ad ca LY RX12 cX12_emits 3 none (d + 1) 0 0 (a_E X ad ca LY Post) 0 [(0, .ref 118), (1, .int x1), (2, .int x2)] [] M (PT x) := by
  refine wa_aload_n dX12_emits_0 0 rfl rfl ?_
  refine wa_getr (r := 134) dX12_emits_1 fkX12_63 rfl rfl rfl ?_
  refine wa_aload_n dX12_emits_4 0 rfl rfl ?_
  refine wb_geti (v := M 118 31) dX12_emits_5 fkX12_197 rfl rfl rfl ?_
  refine wa_iload_n dX12_emits_8 1 rfl rfl ?_
  obtain ⟨hi9, hF⟩ := hF
  refine wb_iast (j := (M 118 31).toNatClampNeg) dX12_emits_9 rfl hi9 rfl ?_
  refine wa_aload_n dX12_emits_10 0 rfl rfl ?_
  refine wa_getr (r := 135) dX12_emits_11 fkX12_66 rfl rfl rfl ?_
  refine wa_aload_n dX12_emits_14 0 rfl rfl ?_
  refine wb_geti (v := M 118 31) dX12_emits_15 fkX12_197 rfl rfl ((ms_no M 134 ((M 118 31).toNatClampNeg) x1 118 31 (fun h9 => absurd h9.1 (by decide))).trans rfl) ?_
  refine wa_iload_n dX12_emits_18 2 rfl rfl ?_
  obtain ⟨hi9, hF⟩ := hF
  refine wb_iast (j := (M 118 31).toNatClampNeg) dX12_emits_19 rfl hi9 rfl ?_
  refine wa_aload_n dX12_emits_20 0 rfl rfl ?_
  refine wa_dup dX12_emits_21 rfl ?_
  refine wb_geti (v := M 118 31) dX12_emits_22 fkX12_197 rfl rfl ((ms_no (ms M 134 ((M 118 31).toNatClampNeg) x1) 135 ((M 118 31).toNatClampNeg) x2 118 31 (fun h9 => absurd h9.1 (by decide))).trans ((ms_no M 134 ((M 118 31).toNatClampNeg) x1 118 31 (fun h9 => absurd h9.1 (by decide))).trans rfl)) ?_
  refine wa_iconst (v := 1) dX12_emits_25 rfl ?_
  refine wa_iadd dX12_emits_26 ?_
  refine wb_puti dX12_emits_27 fkX12_197 fmX12_31 rfl rfl ?_
  exact wa_vret dX12_emits_30 rfl hF

theorem eX12_emits {X : a_X} {ad : Nat → Nat} {ca : Nat → ClassId} {d : Nat} {Post : Option Value → a_M → a_P → Prop} {x : Nat} {M : a_M} (x1 : Int32) (x2 : Int32) (h : WA X ad ca LY RX12 cX12_emits 3 none d 0 0 (a_E X ad ca LY Post) 0 [(0, .ref 118), (1, .int x1), (2, .int x2)] [] M (PT x)) : Mt X ad ca LY d yX12_emits cX12_emits 3 none [.ref 118, .int x1, .int x2] M (PT x) Post := Mt.of (lv := [(0, .ref 118), (1, .int x1), (2, .int x2)]) (by decide +kernel) rfl rfl rfl (wa_pick [0, 1, 2] rfl h)

theorem bX12_opensFrame_0 {X : a_X} {ad : Nat → Nat} {ca : Nat → ClassId} {d : Nat} {Post : Option Value → a_M → a_P → Prop} {x : Nat} {M : a_M} (x1 : Int32)  (hF : (vp_in (M 118 20) 40 ∧ Post none (ms (ms M 128 ((M 118 20).toNatClampNeg) x1) 118 20 ((M 118 20) + 1)) (PT x))) : WA X ad ca LY RX12 cX12_opensFrame 2 none (d + 1) 0 0 (a_E X ad ca LY Post) 0 [(0, .ref 118), (1, .int x1)] [] M (PT x) := by
  refine wa_aload_n dX12_opensFrame_0 0 rfl rfl ?_
  refine wa_getr (r := 128) dX12_opensFrame_1 fkX12_45 rfl rfl rfl ?_
  refine wa_aload_n dX12_opensFrame_4 0 rfl rfl ?_
  refine wb_geti (v := M 118 20) dX12_opensFrame_5 fkX12_200 rfl rfl rfl ?_
  refine wa_iload_n dX12_opensFrame_8 1 rfl rfl ?_
  obtain ⟨hi9, hF⟩ := hF
  refine wb_iast (j := (M 118 20).toNatClampNeg) dX12_opensFrame_9 rfl hi9 rfl ?_
  refine wa_aload_n dX12_opensFrame_10 0 rfl rfl ?_
  refine wa_dup dX12_opensFrame_11 rfl ?_
  refine wb_geti (v := M 118 20) dX12_opensFrame_12 fkX12_200 rfl rfl ((ms_no M 128 ((M 118 20).toNatClampNeg) x1 118 20 (fun h9 => absurd h9.1 (by decide))).trans rfl) ?_
  refine wa_iconst (v := 1) dX12_opensFrame_15 rfl ?_
  refine wa_iadd dX12_opensFrame_16 ?_
  refine wb_puti dX12_opensFrame_17 fkX12_200 fmX12_20 rfl rfl ?_
  exact wa_vret dX12_opensFrame_20 rfl hF

theorem eX12_opensFrame {X : a_X} {ad : Nat → Nat} {ca : Nat → ClassId} {d : Nat} {Post : Option Value → a_M → a_P → Prop} {x : Nat} {M : a_M} (x1 : Int32) (h : WA X ad ca LY RX12 cX12_opensFrame 2 none d 0 0 (a_E X ad ca LY Post) 0 [(0, .ref 118), (1, .int x1)] [] M (PT x)) : Mt X ad ca LY d yX12_opensFrame cX12_opensFrame 2 none [.ref 118, .int x1] M (PT x) Post := Mt.of (lv := [(0, .ref 118), (1, .int x1)]) (by decide +kernel) rfl rfl rfl (wa_pick [0, 1] rfl h)

theorem bX12_top_0 {X : a_X} {ad : Nat → Nat} {ca : Nat → ClassId} {d : Nat} {Post : Option Value → a_M → a_P → Prop} {x : Nat} {M : a_M}   (hF : (vp_in ((M 118 20) - 1) 40 ∧ Post (some (.int (M 128 (((M 118 20) - 1).toNatClampNeg)))) M (PT x))) : WA X ad ca LY RX12 cX12_top 1 (some FieldType.int) (d + 1) 0 0 (a_E X ad ca LY Post) 0 [(0, .ref 118)] [] M (PT x) := by
  refine wa_aload_n dX12_top_0 0 rfl rfl ?_
  refine wa_getr (r := 128) dX12_top_1 fkX12_45 rfl rfl rfl ?_
  refine wa_aload_n dX12_top_4 0 rfl rfl ?_
  refine wb_geti (v := M 118 20) dX12_top_5 fkX12_200 rfl rfl rfl ?_
  refine wa_iconst (v := 1) dX12_top_8 rfl ?_
  refine wa_isub dX12_top_9 ?_
  obtain ⟨hi9, hF⟩ := hF
  refine wb_iald (j := ((M 118 20) - 1).toNatClampNeg) (v := M 128 (((M 118 20) - 1).toNatClampNeg)) dX12_top_10 rfl hi9 rfl rfl ?_
  exact wa_iret dX12_top_11 rfl rfl hF

theorem eX12_top {X : a_X} {ad : Nat → Nat} {ca : Nat → ClassId} {d : Nat} {Post : Option Value → a_M → a_P → Prop} {x : Nat} {M : a_M}  (h : WA X ad ca LY RX12 cX12_top 1 (some FieldType.int) d 0 0 (a_E X ad ca LY Post) 0 [(0, .ref 118)] [] M (PT x)) : Mt X ad ca LY d yX12_top cX12_top 1 (some FieldType.int) [.ref 118] M (PT x) Post := Mt.of (lv := [(0, .ref 118)]) (by decide +kernel) rfl rfl rfl (wa_pick [0] rfl h)

theorem bX12_opensSign_0 {X : a_X} {ad : Nat → Nat} {ca : Nat → ClassId} {d : Nat} {Post : Option Value → a_M → a_P → Prop} {x : Nat} {M : a_M} (x1 : Int32)  (hF : ((¬ (M 118 19) = 8 → (∃ Q1 : a_M → Prop, Mt X ad ca LY d yX12_opensFrame cX12_opensFrame 2 none [.ref 118, .int x1] (ms M 118 19 ((M 118 19) + 1)) (PT x) (q_v (PT x) Q1) ∧ ∀ M1, Q1 M1 → (∃ Q2 : a_M → Prop, Mt X ad ca LY d yX12_next cX12_next 5 none [.ref 118] M1 (PT x) (q_v (PT x) Q2) ∧ ∀ M2, Q2 M2 → Post (some (.int 1)) M2 (PT x)))) ∧ ((M 118 19) = 8 → (∃ Q3 : a_M → Prop, Mt X ad ca LY d yX12_errs cX12_errs 2 none [.ref 118, .int 3] M (PT x) (q_v (PT x) Q3) ∧ ∀ M3, Q3 M3 → Post (some (.int 0)) M3 (PT x))))) : WA X ad ca LY RX12 cX12_opensSign 2 (some FieldType.boolean) (d + 1) 0 0 (a_E X ad ca LY Post) 0 [(0, .ref 118), (1, .int x1)] [] M (PT x) := by
  refine wa_aload_n dX12_opensSign_0 0 rfl rfl ?_
  refine wb_geti (v := M 118 19) dX12_opensSign_1 fkX12_203 rfl rfl rfl ?_
  refine wa_bipush (v := 8) dX12_opensSign_4 rfl ?_
  refine wa_icmp_ne (tgt := 16) dX12_opensSign_6 rfl (fun hc => ?_) (fun hc => ?_)
  · replace hF := hF.1 hc
    refine wa_aload_n dX12_opensSign_16 0 rfl rfl ?_
    refine wa_dup dX12_opensSign_17 rfl ?_
    refine wb_geti (v := M 118 19) dX12_opensSign_18 fkX12_203 rfl rfl rfl ?_
    refine wa_iconst (v := 1) dX12_opensSign_21 rfl ?_
    refine wa_iadd dX12_opensSign_22 ?_
    refine wb_puti dX12_opensSign_23 fkX12_203 fmX12_19 rfl rfl ?_
    refine wa_aload_n dX12_opensSign_26 0 rfl rfl ?_
    refine wa_iload_n dX12_opensSign_27 1 rfl rfl ?_
    obtain ⟨Q1, hM9, hF⟩ := hF
    refine wa_callV [.int x1] dX12_opensSign_28 (mmX12_opensFrame _ _) mlX12_209 mnX12_opensFrame mseX12_opensFrame rfl rfl rfl rfl (a_dlt d) rfl rfl hM9 ?_
    rintro r9 M1 P9 ⟨rfl, rfl, hq9⟩
    replace hF := hF M1 hq9
    simp only [Option.toList, List.nil_append]
    refine wa_aload_n dX12_opensSign_31 0 rfl rfl ?_
    obtain ⟨Q2, hM9, hF⟩ := hF
    refine wa_callV [] dX12_opensSign_32 (mmX12_next _ _) mlX12_212 mnX12_next mseX12_next rfl rfl rfl rfl (a_dlt d) rfl rfl hM9 ?_
    rintro r9 M2 P9 ⟨rfl, rfl, hq9⟩
    replace hF := hF M2 hq9
    simp only [Option.toList, List.nil_append]
    refine wa_iconst (v := 1) dX12_opensSign_35 rfl ?_
    exact wa_iret dX12_opensSign_36 rfl rfl hF
  · replace hF := hF.2 hc
    refine wa_aload_n dX12_opensSign_9 0 rfl rfl ?_
    refine wa_iconst (v := 3) dX12_opensSign_10 rfl ?_
    obtain ⟨Q3, hM9, hF⟩ := hF
    refine wa_callV [.int 3] dX12_opensSign_11 (mmX12_errs _ _) mlX12_206 mnX12_errs mseX12_errs rfl rfl rfl rfl (a_dlt d) rfl rfl hM9 ?_
    rintro r9 M3 P9 ⟨rfl, rfl, hq9⟩
    replace hF := hF M3 hq9
    simp only [Option.toList, List.nil_append]
    refine wa_iconst (v := 0) dX12_opensSign_14 rfl ?_
    exact wa_iret dX12_opensSign_15 rfl rfl hF

theorem eX12_opensSign {X : a_X} {ad : Nat → Nat} {ca : Nat → ClassId} {d : Nat} {Post : Option Value → a_M → a_P → Prop} {x : Nat} {M : a_M} (x1 : Int32) (h : WA X ad ca LY RX12 cX12_opensSign 2 (some FieldType.boolean) d 0 0 (a_E X ad ca LY Post) 0 [(0, .ref 118), (1, .int x1)] [] M (PT x)) : Mt X ad ca LY d yX12_opensSign cX12_opensSign 2 (some FieldType.boolean) [.ref 118, .int x1] M (PT x) Post := Mt.of (lv := [(0, .ref 118), (1, .int x1)]) (by decide +kernel) rfl rfl rfl (wa_pick [0, 1] rfl h)

theorem bX12_rank_0 {X : a_X} {ad : Nat → Nat} {ca : Nat → ClassId} {d : Nat} {Post : Option Value → a_M → a_P → Prop} {x : Nat} {M : a_M} (x0 : Int32)  (hF : ((¬ x0 = 407 → ((¬ x0 = 406 → ((x0 = 43 → WA X ad ca LY RX12 cX12_rank 1 (some FieldType.int) (d + 1) 0 0 (a_E X ad ca LY Post) 34 [] [] M (PT x)) ∧ (¬ x0 = 43 → ((¬ x0 = 45 → Post (some (.int 4)) M (PT x)) ∧ (x0 = 45 → WA X ad ca LY RX12 cX12_rank 1 (some FieldType.int) (d + 1) 0 0 (a_E X ad ca LY Post) 34 [] [] M (PT x)))))) ∧ (x0 = 406 → Post (some (.int 2)) M (PT x)))) ∧ (x0 = 407 → Post (some (.int 1)) M (PT x)))) : WA X ad ca LY RX12 cX12_rank 1 (some FieldType.int) (d + 1) 0 0 (a_E X ad ca LY Post) 0 [(0, .int x0)] [] M (PT x) := by
  refine wa_iload_n dX12_rank_0 0 rfl rfl ?_
  refine wa_sipush (v := 407) dX12_rank_1 rfl ?_
  refine wa_icmp_ne (tgt := 11) dX12_rank_4 rfl (fun hc => ?_) (fun hc => ?_)
  · replace hF := hF.1 hc
    refine wa_iload_n dX12_rank_11 0 rfl rfl ?_
    refine wa_sipush (v := 406) dX12_rank_12 rfl ?_
    refine wa_icmp_ne (tgt := 22) dX12_rank_15 rfl (fun hc => ?_) (fun hc => ?_)
    · replace hF := hF.1 hc
      refine wa_iload_n dX12_rank_22 0 rfl rfl ?_
      refine wa_bipush (v := 43) dX12_rank_23 rfl ?_
      refine wa_icmp_eq (tgt := 34) dX12_rank_25 rfl (fun hc => ?_) (fun hc => ?_)
      · replace hF := hF.1 hc
        exact wa_pick [] rfl hF
      · replace hF := hF.2 hc
        refine wa_iload_n dX12_rank_28 0 rfl rfl ?_
        refine wa_bipush (v := 45) dX12_rank_29 rfl ?_
        refine wa_icmp_ne (tgt := 38) dX12_rank_31 rfl (fun hc => ?_) (fun hc => ?_)
        · replace hF := hF.1 hc
          refine wa_iconst (v := 4) dX12_rank_38 rfl ?_
          exact wa_iret dX12_rank_39 rfl rfl hF
        · replace hF := hF.2 hc
          exact wa_pick [] rfl hF
    · replace hF := hF.2 hc
      refine wa_iconst (v := 2) dX12_rank_18 rfl ?_
      refine wa_goto (tgt := 39) dX12_rank_19 rfl ?_
      exact wa_iret dX12_rank_39 rfl rfl hF
  · replace hF := hF.2 hc
    refine wa_iconst (v := 1) dX12_rank_7 rfl ?_
    refine wa_goto (tgt := 39) dX12_rank_8 rfl ?_
    exact wa_iret dX12_rank_39 rfl rfl hF

theorem bX12_rank_34 {X : a_X} {ad : Nat → Nat} {ca : Nat → ClassId} {d : Nat} {Post : Option Value → a_M → a_P → Prop} {x : Nat} {M : a_M}   (hF : Post (some (.int 3)) M (PT x)) : WA X ad ca LY RX12 cX12_rank 1 (some FieldType.int) (d + 1) 0 0 (a_E X ad ca LY Post) 34 [] [] M (PT x) := by
  refine wa_iconst (v := 3) dX12_rank_34 rfl ?_
  refine wa_goto (tgt := 39) dX12_rank_35 rfl ?_
  exact wa_iret dX12_rank_39 rfl rfl hF

theorem eX12_rank {X : a_X} {ad : Nat → Nat} {ca : Nat → ClassId} {d : Nat} {Post : Option Value → a_M → a_P → Prop} {x : Nat} {M : a_M} (x0 : Int32) (h : WA X ad ca LY RX12 cX12_rank 1 (some FieldType.int) d 0 0 (a_E X ad ca LY Post) 0 [(0, .int x0)] [] M (PT x)) : Mt X ad ca LY d yX12_rank cX12_rank 1 (some FieldType.int) [.int x0] M (PT x) Post := Mt.of (lv := [(0, .int x0)]) (by decide +kernel) rfl rfl rfl (wa_pick [0] rfl h)

theorem bX12_works_0 {X : a_X} {ad : Nat → Nat} {ca : Nat → ClassId} {d : Nat} {Post : Option Value → a_M → a_P → Prop} {x : Nat} {M : a_M} (x1 : Int32)  (hF : (((M 118 22) ≤ 0 → Post none M (PT x)) ∧ (¬ (M 118 22) ≤ 0 → (vp_in ((M 118 22) - 1) 80 ∧ ((¬ (M 130 (((M 118 22) - 1).toNatClampNeg)) = (M 118 20) → Post none M (PT x)) ∧ ((M 130 (((M 118 22) - 1).toNatClampNeg)) = (M 118 20) → (vp_in ((M 118 22) - 1) 80 ∧ (∃ Q1 : Int32 → a_M → Prop, Mt X ad ca LY d yX12_rank cX12_rank 1 (some FieldType.int) [.int (M 129 (((M 118 22) - 1).toNatClampNeg))] M (PT x) (q_i (PT x) Q1) ∧ ∀ v1 M1, Q1 v1 M1 → ((v1 < x1 → Post none M1 (PT x)) ∧ (¬ v1 < x1 → (vp_in ((M1 118 22) - 1) 80 ∧ (∃ Q2 : a_M → Prop, Mt X ad ca LY d yX12_emits cX12_emits 3 none [.ref 118, .int (M1 129 (((M1 118 22) - 1).toNatClampNeg)), .int 0] (ms M1 118 22 ((M1 118 22) - 1)) (PT x) (q_v (PT x) Q2) ∧ ∀ M2, Q2 M2 → WA X ad ca LY RX12 cX12_works 2 none (d + 1) 0 0 (a_E X ad ca LY Post) 0 [(0, .ref 118), (1, .int x1)] [] M2 (PT x))))))))))))) : WA X ad ca LY RX12 cX12_works 2 none (d + 1) 0 0 (a_E X ad ca LY Post) 0 [(0, .ref 118), (1, .int x1)] [] M (PT x) := by
  refine wa_aload_n dX12_works_0 0 rfl rfl ?_
  refine wb_geti (v := M 118 22) dX12_works_1 fkX12_214 rfl rfl rfl ?_
  refine wa_if_le (tgt := 70) dX12_works_4 rfl (fun hc => ?_) (fun hc => ?_)
  · replace hF := hF.1 hc
    exact wa_vret dX12_works_70 rfl hF
  · replace hF := hF.2 hc
    refine wa_aload_n dX12_works_7 0 rfl rfl ?_
    refine wa_getr (r := 130) dX12_works_8 fkX12_51 rfl rfl rfl ?_
    refine wa_aload_n dX12_works_11 0 rfl rfl ?_
    refine wb_geti (v := M 118 22) dX12_works_12 fkX12_214 rfl rfl rfl ?_
    refine wa_iconst (v := 1) dX12_works_15 rfl ?_
    refine wa_isub dX12_works_16 ?_
    obtain ⟨hi9, hF⟩ := hF
    refine wb_iald (j := ((M 118 22) - 1).toNatClampNeg) (v := M 130 (((M 118 22) - 1).toNatClampNeg)) dX12_works_17 rfl hi9 rfl rfl ?_
    refine wa_aload_n dX12_works_18 0 rfl rfl ?_
    refine wb_geti (v := M 118 20) dX12_works_19 fkX12_200 rfl rfl rfl ?_
    refine wa_icmp_ne (tgt := 70) dX12_works_22 rfl (fun hc => ?_) (fun hc => ?_)
    · replace hF := hF.1 hc
      exact wa_vret dX12_works_70 rfl hF
    · replace hF := hF.2 hc
      refine wa_aload_n dX12_works_25 0 rfl rfl ?_
      refine wa_getr (r := 129) dX12_works_26 fkX12_48 rfl rfl rfl ?_
      refine wa_aload_n dX12_works_29 0 rfl rfl ?_
      refine wb_geti (v := M 118 22) dX12_works_30 fkX12_214 rfl rfl rfl ?_
      refine wa_iconst (v := 1) dX12_works_33 rfl ?_
      refine wa_isub dX12_works_34 ?_
      obtain ⟨hi9, hF⟩ := hF
      refine wb_iald (j := ((M 118 22) - 1).toNatClampNeg) (v := M 129 (((M 118 22) - 1).toNatClampNeg)) dX12_works_35 rfl hi9 rfl rfl ?_
      obtain ⟨Q1, hM9, hF⟩ := hF
      refine wa_callS [.int (M 129 (((M 118 22) - 1).toNatClampNeg))] dX12_works_36 (mmX12_rank _ _) mlX12_217 mstX12_rank rfl (a_dlt d) rfl rfl hM9 ?_
      rintro r9 M1 P9 ⟨v1, rfl, rfl, hq9⟩
      replace hF := hF v1 M1 hq9
      simp only [Option.toList, List.cons_append, List.nil_append]
      refine wa_iload_n dX12_works_39 1 rfl rfl ?_
      refine wa_icmp_lt (tgt := 70) dX12_works_40 rfl (fun hc => ?_) (fun hc => ?_)
      · replace hF := hF.1 hc
        exact wa_vret dX12_works_70 rfl hF
      · replace hF := hF.2 hc
        refine wa_aload_n dX12_works_43 0 rfl rfl ?_
        refine wa_dup dX12_works_44 rfl ?_
        refine wb_geti (v := M1 118 22) dX12_works_45 fkX12_214 rfl rfl rfl ?_
        refine wa_iconst (v := 1) dX12_works_48 rfl ?_
        refine wa_isub dX12_works_49 ?_
        refine wb_puti dX12_works_50 fkX12_214 fmX12_22 rfl rfl ?_
        refine wa_aload_n dX12_works_53 0 rfl rfl ?_
        refine wa_aload_n dX12_works_54 0 rfl rfl ?_
        refine wa_getr (r := 129) dX12_works_55 fkX12_48 rfl rfl rfl ?_
        refine wa_aload_n dX12_works_58 0 rfl rfl ?_
        refine wb_geti (v := ((M1 118 22) - 1)) dX12_works_59 fkX12_214 rfl rfl (ms_is M1 118 22 ((M1 118 22) - 1)) ?_
        obtain ⟨hi9, hF⟩ := hF
        refine wb_iald (j := ((M1 118 22) - 1).toNatClampNeg) (v := M1 129 (((M1 118 22) - 1).toNatClampNeg)) dX12_works_62 rfl hi9 rfl ((ms_no M1 118 22 ((M1 118 22) - 1) 129 (((M1 118 22) - 1).toNatClampNeg) (fun h9 => absurd h9.1 (by decide))).trans rfl) ?_
        refine wa_iconst (v := 0) dX12_works_63 rfl ?_
        obtain ⟨Q2, hM9, hF⟩ := hF
        refine wa_callV [.int (M1 129 (((M1 118 22) - 1).toNatClampNeg)), .int 0] dX12_works_64 (mmX12_emits _ _) mlX12_221 mnX12_emits mseX12_emits rfl rfl rfl rfl (a_dlt d) rfl rfl hM9 ?_
        rintro r9 M2 P9 ⟨rfl, rfl, hq9⟩
        replace hF := hF M2 hq9
        simp only [Option.toList, List.nil_append]
        refine wa_goto (tgt := 0) dX12_works_67 rfl ?_
        exact hF

theorem eX12_works {X : a_X} {ad : Nat → Nat} {ca : Nat → ClassId} {d : Nat} {Post : Option Value → a_M → a_P → Prop} {x : Nat} {M : a_M} (x1 : Int32) (h : WA X ad ca LY RX12 cX12_works 2 none d 0 0 (a_E X ad ca LY Post) 0 [(0, .ref 118), (1, .int x1)] [] M (PT x)) : Mt X ad ca LY d yX12_works cX12_works 2 none [.ref 118, .int x1] M (PT x) Post := Mt.of (lv := [(0, .ref 118), (1, .int x1)]) (by decide +kernel) rfl rfl rfl (wa_pick [0, 1] rfl h)

theorem bX12_waitsFor_0 {X : a_X} {ad : Nat → Nat} {ca : Nat → ClassId} {d : Nat} {Post : Option Value → a_M → a_P → Prop} {x : Nat} {M : a_M} (x1 : Int32)  (hF : (∃ Q1 : Int32 → a_M → Prop, Mt X ad ca LY d yX12_rank cX12_rank 1 (some FieldType.int) [.int x1] M (PT x) (q_i (PT x) Q1) ∧ ∀ v1 M1, Q1 v1 M1 → (∃ Q2 : a_M → Prop, Mt X ad ca LY d yX12_works cX12_works 2 none [.ref 118, .int v1] M1 (PT x) (q_v (PT x) Q2) ∧ ∀ M2, Q2 M2 → (vp_in (M2 118 22) 80 ∧ (vp_in (M2 118 22) 80 ∧ (∃ Q3 : a_M → Prop, Mt X ad ca LY d yX12_next cX12_next 5 none [.ref 118] (ms (ms (ms M2 129 ((M2 118 22).toNatClampNeg) x1) 130 ((M2 118 22).toNatClampNeg) (M2 118 20)) 118 22 ((M2 118 22) + 1)) (PT x) (q_v (PT x) Q3) ∧ ∀ M3, Q3 M3 → Post none M3 (PT x))))))) : WA X ad ca LY RX12 cX12_waitsFor 2 none (d + 1) 0 0 (a_E X ad ca LY Post) 0 [(0, .ref 118), (1, .int x1)] [] M (PT x) := by
  refine wa_aload_n dX12_waitsFor_0 0 rfl rfl ?_
  refine wa_iload_n dX12_waitsFor_1 1 rfl rfl ?_
  obtain ⟨Q1, hM9, hF⟩ := hF
  refine wa_callS [.int x1] dX12_waitsFor_2 (mmX12_rank _ _) mlX12_217 mstX12_rank rfl (a_dlt d) rfl rfl hM9 ?_
  rintro r9 M1 P9 ⟨v1, rfl, rfl, hq9⟩
  replace hF := hF v1 M1 hq9
  simp only [Option.toList, List.cons_append, List.nil_append]
  obtain ⟨Q2, hM9, hF⟩ := hF
  refine wa_callV [.int v1] dX12_waitsFor_5 (mmX12_works _ _) mlX12_225 mnX12_works mseX12_works rfl rfl rfl rfl (a_dlt d) rfl rfl hM9 ?_
  rintro r9 M2 P9 ⟨rfl, rfl, hq9⟩
  replace hF := hF M2 hq9
  simp only [Option.toList, List.nil_append]
  refine wa_aload_n dX12_waitsFor_8 0 rfl rfl ?_
  refine wa_getr (r := 129) dX12_waitsFor_9 fkX12_48 rfl rfl rfl ?_
  refine wa_aload_n dX12_waitsFor_12 0 rfl rfl ?_
  refine wb_geti (v := M2 118 22) dX12_waitsFor_13 fkX12_214 rfl rfl rfl ?_
  refine wa_iload_n dX12_waitsFor_16 1 rfl rfl ?_
  obtain ⟨hi9, hF⟩ := hF
  refine wb_iast (j := (M2 118 22).toNatClampNeg) dX12_waitsFor_17 rfl hi9 rfl ?_
  refine wa_aload_n dX12_waitsFor_18 0 rfl rfl ?_
  refine wa_getr (r := 130) dX12_waitsFor_19 fkX12_51 rfl rfl rfl ?_
  refine wa_aload_n dX12_waitsFor_22 0 rfl rfl ?_
  refine wb_geti (v := M2 118 22) dX12_waitsFor_23 fkX12_214 rfl rfl ((ms_no M2 129 ((M2 118 22).toNatClampNeg) x1 118 22 (fun h9 => absurd h9.1 (by decide))).trans rfl) ?_
  refine wa_aload_n dX12_waitsFor_26 0 rfl rfl ?_
  refine wb_geti (v := M2 118 20) dX12_waitsFor_27 fkX12_200 rfl rfl ((ms_no M2 129 ((M2 118 22).toNatClampNeg) x1 118 20 (fun h9 => absurd h9.1 (by decide))).trans rfl) ?_
  obtain ⟨hi9, hF⟩ := hF
  refine wb_iast (j := (M2 118 22).toNatClampNeg) dX12_waitsFor_30 rfl hi9 rfl ?_
  refine wa_aload_n dX12_waitsFor_31 0 rfl rfl ?_
  refine wa_dup dX12_waitsFor_32 rfl ?_
  refine wb_geti (v := M2 118 22) dX12_waitsFor_33 fkX12_214 rfl rfl ((ms_no (ms M2 129 ((M2 118 22).toNatClampNeg) x1) 130 ((M2 118 22).toNatClampNeg) (M2 118 20) 118 22 (fun h9 => absurd h9.1 (by decide))).trans ((ms_no M2 129 ((M2 118 22).toNatClampNeg) x1 118 22 (fun h9 => absurd h9.1 (by decide))).trans rfl)) ?_
  refine wa_iconst (v := 1) dX12_waitsFor_36 rfl ?_
  refine wa_iadd dX12_waitsFor_37 ?_
  refine wb_puti dX12_waitsFor_38 fkX12_214 fmX12_22 rfl rfl ?_
  refine wa_aload_n dX12_waitsFor_41 0 rfl rfl ?_
  obtain ⟨Q3, hM9, hF⟩ := hF
  refine wa_callV [] dX12_waitsFor_42 (mmX12_next _ _) mlX12_212 mnX12_next mseX12_next rfl rfl rfl rfl (a_dlt d) rfl rfl hM9 ?_
  rintro r9 M3 P9 ⟨rfl, rfl, hq9⟩
  replace hF := hF M3 hq9
  simp only [Option.toList, List.nil_append]
  exact wa_vret dX12_waitsFor_45 rfl hF

theorem eX12_waitsFor {X : a_X} {ad : Nat → Nat} {ca : Nat → ClassId} {d : Nat} {Post : Option Value → a_M → a_P → Prop} {x : Nat} {M : a_M} (x1 : Int32) (h : WA X ad ca LY RX12 cX12_waitsFor 2 none d 0 0 (a_E X ad ca LY Post) 0 [(0, .ref 118), (1, .int x1)] [] M (PT x)) : Mt X ad ca LY d yX12_waitsFor cX12_waitsFor 2 none [.ref 118, .int x1] M (PT x) Post := Mt.of (lv := [(0, .ref 118), (1, .int x1)]) (by decide +kernel) rfl rfl rfl (wa_pick [0, 1] rfl h)

theorem bX12_begins_0 {X : a_X} {ad : Nat → Nat} {ca : Nat → ClassId} {d : Nat} {Post : Option Value → a_M → a_P → Prop} {x : Nat} {M : a_M}   (hF : ((¬ (M 118 15) = 2 → ((¬ (M 118 15) = 1 → WA X ad ca LY RX12 cX12_begins 2 none (d + 1) 0 0 (a_E X ad ca LY Post) 112 [(0, .ref 118)] [] M (PT x)) ∧ ((M 118 15) = 1 → (((M 118 16) < 7 → WA X ad ca LY RX12 cX12_begins 2 none (d + 1) 0 0 (a_E X ad ca LY Post) 112 [(0, .ref 118)] [] M (PT x)) ∧ (¬ (M 118 16) < 7 → ((¬ (M 118 16) = 7 → WA X ad ca LY RX12 cX12_begins 2 none (d + 1) 0 0 (a_E X ad ca LY Post) 87 [(0, .ref 118)] [] M (PT x)) ∧ ((M 118 16) = 7 → ((¬ (M 118 27) = 6 → WA X ad ca LY RX12 cX12_begins 2 none (d + 1) 0 0 (a_E X ad ca LY Post) 87 [(0, .ref 118)] [] M (PT x)) ∧ ((M 118 27) = 6 → (∃ Q1 : a_M → Prop, Mt X ad ca LY d yX12_errs cX12_errs 2 none [.ref 118, .int 5] M (PT x) (q_v (PT x) Q1) ∧ ∀ M1, Q1 M1 → Post none M1 (PT x))))))))))) ∧ ((M 118 15) = 2 → (((M 118 16) ≤ 9999 → (∃ Q2 : a_M → Prop, Mt X ad ca LY d yX12_emits cX12_emits 3 none [.ref 118, .int 400, .int (M 118 16)] M (PT x) (q_v (PT x) Q2) ∧ ∀ M2, Q2 M2 → (∃ Q3 : a_M → Prop, Mt X ad ca LY d yX12_next cX12_next 5 none [.ref 118] M2 (PT x) (q_v (PT x) Q3) ∧ ∀ M3, Q3 M3 → (∃ Q4 : a_M → Prop, Mt X ad ca LY d yX12_oneIsOver cX12_oneIsOver 1 none [.ref 118] M3 (PT x) (q_v (PT x) Q4) ∧ ∀ M4, Q4 M4 → Post none M4 (PT x))))) ∧ (¬ (M 118 16) ≤ 9999 → (∃ Q5 : a_M → Prop, Mt X ad ca LY d yX12_errs cX12_errs 2 none [.ref 118, .int 2] M (PT x) (q_v (PT x) Q5) ∧ ∀ M5, Q5 M5 → Post none M5 (PT x))))))) : WA X ad ca LY RX12 cX12_begins 2 none (d + 1) 0 0 (a_E X ad ca LY Post) 0 [(0, .ref 118)] [] M (PT x) := by
  refine wa_aload_n dX12_begins_0 0 rfl rfl ?_
  refine wb_geti (v := M 118 15) dX12_begins_1 fkX12_175 rfl rfl rfl ?_
  refine wa_iconst (v := 2) dX12_begins_4 rfl ?_
  refine wa_icmp_ne (tgt := 46) dX12_begins_5 rfl (fun hc => ?_) (fun hc => ?_)
  · replace hF := hF.1 hc
    refine wa_aload_n dX12_begins_46 0 rfl rfl ?_
    refine wb_geti (v := M 118 15) dX12_begins_47 fkX12_175 rfl rfl rfl ?_
    refine wa_iconst (v := 1) dX12_begins_50 rfl ?_
    refine wa_icmp_ne (tgt := 112) dX12_begins_51 rfl (fun hc => ?_) (fun hc => ?_)
    · replace hF := hF.1 hc
      exact hF
    · replace hF := hF.2 hc
      refine wa_aload_n dX12_begins_54 0 rfl rfl ?_
      refine wb_geti (v := M 118 16) dX12_begins_55 fkX12_187 rfl rfl rfl ?_
      refine wa_bipush (v := 7) dX12_begins_58 rfl ?_
      refine wa_icmp_lt (tgt := 112) dX12_begins_60 rfl (fun hc => ?_) (fun hc => ?_)
      · replace hF := hF.1 hc
        exact hF
      · replace hF := hF.2 hc
        refine wa_aload_n dX12_begins_63 0 rfl rfl ?_
        refine wb_geti (v := M 118 16) dX12_begins_64 fkX12_187 rfl rfl rfl ?_
        refine wa_bipush (v := 7) dX12_begins_67 rfl ?_
        refine wa_icmp_ne (tgt := 87) dX12_begins_69 rfl (fun hc => ?_) (fun hc => ?_)
        · replace hF := hF.1 hc
          exact hF
        · replace hF := hF.2 hc
          refine wa_aload_n dX12_begins_72 0 rfl rfl ?_
          refine wb_geti (v := M 118 27) dX12_begins_73 fkX12_231 rfl rfl rfl ?_
          refine wa_bipush (v := 6) dX12_begins_76 rfl ?_
          refine wa_icmp_ne (tgt := 87) dX12_begins_78 rfl (fun hc => ?_) (fun hc => ?_)
          · replace hF := hF.1 hc
            exact hF
          · replace hF := hF.2 hc
            refine wa_aload_n dX12_begins_81 0 rfl rfl ?_
            refine wa_iconst (v := 5) dX12_begins_82 rfl ?_
            obtain ⟨Q1, hM9, hF⟩ := hF
            refine wa_callV [.int 5] dX12_begins_83 (mmX12_errs _ _) mlX12_206 mnX12_errs mseX12_errs rfl rfl rfl rfl (a_dlt d) rfl rfl hM9 ?_
            rintro r9 M1 P9 ⟨rfl, rfl, hq9⟩
            replace hF := hF M1 hq9
            simp only [Option.toList, List.nil_append]
            exact wa_vret dX12_begins_86 rfl hF
  · replace hF := hF.2 hc
    refine wa_aload_n dX12_begins_8 0 rfl rfl ?_
    refine wb_geti (v := M 118 16) dX12_begins_9 fkX12_187 rfl rfl rfl ?_
    refine wa_sipush (v := 9999) dX12_begins_12 rfl ?_
    refine wa_icmp_le (tgt := 24) dX12_begins_15 rfl (fun hc => ?_) (fun hc => ?_)
    · replace hF := hF.1 hc
      refine wa_aload_n dX12_begins_24 0 rfl rfl ?_
      refine wa_sipush (v := 400) dX12_begins_25 rfl ?_
      refine wa_aload_n dX12_begins_28 0 rfl rfl ?_
      refine wb_geti (v := M 118 16) dX12_begins_29 fkX12_187 rfl rfl rfl ?_
      obtain ⟨Q2, hM9, hF⟩ := hF
      refine wa_callV [.int 400, .int (M 118 16)] dX12_begins_32 (mmX12_emits _ _) mlX12_221 mnX12_emits mseX12_emits rfl rfl rfl rfl (a_dlt d) rfl rfl hM9 ?_
      rintro r9 M2 P9 ⟨rfl, rfl, hq9⟩
      replace hF := hF M2 hq9
      simp only [Option.toList, List.nil_append]
      refine wa_aload_n dX12_begins_35 0 rfl rfl ?_
      obtain ⟨Q3, hM9, hF⟩ := hF
      refine wa_callV [] dX12_begins_36 (mmX12_next _ _) mlX12_212 mnX12_next mseX12_next rfl rfl rfl rfl (a_dlt d) rfl rfl hM9 ?_
      rintro r9 M3 P9 ⟨rfl, rfl, hq9⟩
      replace hF := hF M3 hq9
      simp only [Option.toList, List.nil_append]
      refine wa_aload_n dX12_begins_39 0 rfl rfl ?_
      obtain ⟨Q4, hM9, hF⟩ := hF
      refine wa_callV [] dX12_begins_40 (mmX12_oneIsOver _ _) mlX12_228 mnX12_oneIsOver mseX12_oneIsOver rfl rfl rfl rfl (a_dlt d) rfl rfl hM9 ?_
      rintro r9 M4 P9 ⟨rfl, rfl, hq9⟩
      replace hF := hF M4 hq9
      simp only [Option.toList, List.nil_append]
      refine wa_goto (tgt := 155) dX12_begins_43 rfl ?_
      exact wa_vret dX12_begins_155 rfl hF
    · replace hF := hF.2 hc
      refine wa_aload_n dX12_begins_18 0 rfl rfl ?_
      refine wa_iconst (v := 2) dX12_begins_19 rfl ?_
      obtain ⟨Q5, hM9, hF⟩ := hF
      refine wa_callV [.int 2] dX12_begins_20 (mmX12_errs _ _) mlX12_206 mnX12_errs mseX12_errs rfl rfl rfl rfl (a_dlt d) rfl rfl hM9 ?_
      rintro r9 M5 P9 ⟨rfl, rfl, hq9⟩
      replace hF := hF M5 hq9
      simp only [Option.toList, List.nil_append]
      exact wa_vret dX12_begins_23 rfl hF

theorem bX12_begins_87 {X : a_X} {ad : Nat → Nat} {ca : Nat → ClassId} {d : Nat} {Post : Option Value → a_M → a_P → Prop} {x : Nat} {M : a_M}   (hF : (∃ Q1 : a_M → Prop, Mt X ad ca LY d yX12_emits cX12_emits 3 none [.ref 118, .int 401, .int ((M 118 16) - 7)] M (PT x) (q_v (PT x) Q1) ∧ ∀ M1, Q1 M1 → (∃ Q2 : a_M → Prop, Mt X ad ca LY d yX12_next cX12_next 5 none [.ref 118] M1 (PT x) (q_v (PT x) Q2) ∧ ∀ M2, Q2 M2 → (∃ Q3 : a_M → Prop, Mt X ad ca LY d yX12_oneIsOver cX12_oneIsOver 1 none [.ref 118] M2 (PT x) (q_v (PT x) Q3) ∧ ∀ M3, Q3 M3 → Post none M3 (PT x))))) : WA X ad ca LY RX12 cX12_begins 2 none (d + 1) 0 0 (a_E X ad ca LY Post) 87 [(0, .ref 118)] [] M (PT x) := by
  refine wa_aload_n dX12_begins_87 0 rfl rfl ?_
  refine wa_sipush (v := 401) dX12_begins_88 rfl ?_
  refine wa_aload_n dX12_begins_91 0 rfl rfl ?_
  refine wb_geti (v := M 118 16) dX12_begins_92 fkX12_187 rfl rfl rfl ?_
  refine wa_bipush (v := 7) dX12_begins_95 rfl ?_
  refine wa_isub dX12_begins_97 ?_
  obtain ⟨Q1, hM9, hF⟩ := hF
  refine wa_callV [.int 401, .int ((M 118 16) - 7)] dX12_begins_98 (mmX12_emits _ _) mlX12_221 mnX12_emits mseX12_emits rfl rfl rfl rfl (a_dlt d) rfl rfl hM9 ?_
  rintro r9 M1 P9 ⟨rfl, rfl, hq9⟩
  replace hF := hF M1 hq9
  simp only [Option.toList, List.nil_append]
  refine wa_aload_n dX12_begins_101 0 rfl rfl ?_
  obtain ⟨Q2, hM9, hF⟩ := hF
  refine wa_callV [] dX12_begins_102 (mmX12_next _ _) mlX12_212 mnX12_next mseX12_next rfl rfl rfl rfl (a_dlt d) rfl rfl hM9 ?_
  rintro r9 M2 P9 ⟨rfl, rfl, hq9⟩
  replace hF := hF M2 hq9
  simp only [Option.toList, List.nil_append]
  refine wa_aload_n dX12_begins_105 0 rfl rfl ?_
  obtain ⟨Q3, hM9, hF⟩ := hF
  refine wa_callV [] dX12_begins_106 (mmX12_oneIsOver _ _) mlX12_228 mnX12_oneIsOver mseX12_oneIsOver rfl rfl rfl rfl (a_dlt d) rfl rfl hM9 ?_
  rintro r9 M3 P9 ⟨rfl, rfl, hq9⟩
  replace hF := hF M3 hq9
  simp only [Option.toList, List.nil_append]
  refine wa_goto (tgt := 155) dX12_begins_109 rfl ?_
  exact wa_vret dX12_begins_155 rfl hF

theorem bX12_begins_112 {X : a_X} {ad : Nat → Nat} {ca : Nat → ClassId} {d : Nat} {Post : Option Value → a_M → a_P → Prop} {x : Nat} {M : a_M}   (hF : (∃ Q1 : Int32 → a_M → Prop, Mt X ad ca LY d yX12_isSign cX12_isSign 2 (some FieldType.boolean) [.ref 118, .int 40] M (PT x) (q_i (PT x) Q1) ∧ ∀ v1 M1, Q1 v1 M1 → ((v1 = 0 → (∃ Q2 : Int32 → a_M → Prop, Mt X ad ca LY d yX12_isSign cX12_isSign 2 (some FieldType.boolean) [.ref 118, .int 45] M1 (PT x) (q_i (PT x) Q2) ∧ ∀ v2 M2, Q2 v2 M2 → ((v2 = 0 → (∃ Q3 : a_M → Prop, Mt X ad ca LY d yX12_errs cX12_errs 2 none [.ref 118, .int 1] M2 (PT x) (q_v (PT x) Q3) ∧ ∀ M3, Q3 M3 → Post none M3 (PT x))) ∧ (¬ v2 = 0 → (∃ Q4 : Int32 → a_M → Prop, Mt X ad ca LY d yX12_opensSign cX12_opensSign 2 (some FieldType.boolean) [.ref 118, .int 7] M2 (PT x) (q_i (PT x) Q4) ∧ ∀ v4 M4, Q4 v4 M4 → Post none M4 (PT x)))))) ∧ (¬ v1 = 0 → (∃ Q5 : Int32 → a_M → Prop, Mt X ad ca LY d yX12_opensSign cX12_opensSign 2 (some FieldType.boolean) [.ref 118, .int 6] M1 (PT x) (q_i (PT x) Q5) ∧ ∀ v5 M5, Q5 v5 M5 → Post none M5 (PT x)))))) : WA X ad ca LY RX12 cX12_begins 2 none (d + 1) 0 0 (a_E X ad ca LY Post) 112 [(0, .ref 118)] [] M (PT x) := by
  refine wa_aload_n dX12_begins_112 0 rfl rfl ?_
  refine wa_bipush (v := 40) dX12_begins_113 rfl ?_
  obtain ⟨Q1, hM9, hF⟩ := hF
  refine wa_callV [.int 40] dX12_begins_115 (mmX12_isSign _ _) mlX12_234 mnX12_isSign mseX12_isSign rfl rfl rfl rfl (a_dlt d) rfl rfl hM9 ?_
  rintro r9 M1 P9 ⟨v1, rfl, rfl, hq9⟩
  replace hF := hF v1 M1 hq9
  simp only [Option.toList, List.cons_append, List.nil_append]
  refine wa_if_eq (tgt := 131) dX12_begins_118 rfl (fun hc => ?_) (fun hc => ?_)
  · replace hF := hF.1 hc
    refine wa_aload_n dX12_begins_131 0 rfl rfl ?_
    refine wa_bipush (v := 45) dX12_begins_132 rfl ?_
    obtain ⟨Q2, hM9, hF⟩ := hF
    refine wa_callV [.int 45] dX12_begins_134 (mmX12_isSign _ _) mlX12_234 mnX12_isSign mseX12_isSign rfl rfl rfl rfl (a_dlt d) rfl rfl hM9 ?_
    rintro r9 M2 P9 ⟨v2, rfl, rfl, hq9⟩
    replace hF := hF v2 M2 hq9
    simp only [Option.toList, List.cons_append, List.nil_append]
    refine wa_if_eq (tgt := 150) dX12_begins_137 rfl (fun hc => ?_) (fun hc => ?_)
    · replace hF := hF.1 hc
      refine wa_aload_n dX12_begins_150 0 rfl rfl ?_
      refine wa_iconst (v := 1) dX12_begins_151 rfl ?_
      obtain ⟨Q3, hM9, hF⟩ := hF
      refine wa_callV [.int 1] dX12_begins_152 (mmX12_errs _ _) mlX12_206 mnX12_errs mseX12_errs rfl rfl rfl rfl (a_dlt d) rfl rfl hM9 ?_
      rintro r9 M3 P9 ⟨rfl, rfl, hq9⟩
      replace hF := hF M3 hq9
      simp only [Option.toList, List.nil_append]
      exact wa_vret dX12_begins_155 rfl hF
    · replace hF := hF.2 hc
      refine wa_aload_n dX12_begins_140 0 rfl rfl ?_
      refine wa_bipush (v := 7) dX12_begins_141 rfl ?_
      obtain ⟨Q4, hM9, hF⟩ := hF
      refine wa_callV [.int 7] dX12_begins_143 (mmX12_opensSign _ _) mlX12_237 mnX12_opensSign mseX12_opensSign rfl rfl rfl rfl (a_dlt d) rfl rfl hM9 ?_
      rintro r9 M4 P9 ⟨v4, rfl, rfl, hq9⟩
      replace hF := hF v4 M4 hq9
      simp only [Option.toList, List.cons_append, List.nil_append]
      refine wa_istore_n (lv' := [(1, .int v4), (0, .ref 118)]) dX12_begins_146 rfl rfl rfl ?_
      refine wa_goto (tgt := 155) dX12_begins_147 rfl ?_
      exact wa_vret dX12_begins_155 rfl hF
  · replace hF := hF.2 hc
    refine wa_aload_n dX12_begins_121 0 rfl rfl ?_
    refine wa_bipush (v := 6) dX12_begins_122 rfl ?_
    obtain ⟨Q5, hM9, hF⟩ := hF
    refine wa_callV [.int 6] dX12_begins_124 (mmX12_opensSign _ _) mlX12_237 mnX12_opensSign mseX12_opensSign rfl rfl rfl rfl (a_dlt d) rfl rfl hM9 ?_
    rintro r9 M5 P9 ⟨v5, rfl, rfl, hq9⟩
    replace hF := hF v5 M5 hq9
    simp only [Option.toList, List.cons_append, List.nil_append]
    refine wa_istore_n (lv' := [(1, .int v5), (0, .ref 118)]) dX12_begins_127 rfl rfl rfl ?_
    refine wa_goto (tgt := 155) dX12_begins_128 rfl ?_
    exact wa_vret dX12_begins_155 rfl hF

theorem eX12_begins {X : a_X} {ad : Nat → Nat} {ca : Nat → ClassId} {d : Nat} {Post : Option Value → a_M → a_P → Prop} {x : Nat} {M : a_M}  (h : WA X ad ca LY RX12 cX12_begins 2 none d 0 0 (a_E X ad ca LY Post) 0 [(0, .ref 118)] [] M (PT x)) : Mt X ad ca LY d yX12_begins cX12_begins 2 none [.ref 118] M (PT x) Post := Mt.of (lv := [(0, .ref 118)]) (by decide +kernel) rfl rfl rfl (wa_pick [0] rfl h)

theorem bX12_oneIsOver_0 {X : a_X} {ad : Nat → Nat} {ca : Nat → ClassId} {d : Nat} {Post : Option Value → a_M → a_P → Prop} {x : Nat} {M : a_M}   (hF : (∃ Q1 : Int32 → a_M → Prop, Mt X ad ca LY d yX12_top cX12_top 1 (some FieldType.int) [.ref 118] M (PT x) (q_i (PT x) Q1) ∧ ∀ v1 M1, Q1 v1 M1 → ((¬ v1 = 7 → Post none (ms M1 118 25 2) (PT x)) ∧ (v1 = 7 → (∃ Q2 : a_M → Prop, Mt X ad ca LY d yX12_emits cX12_emits 3 none [.ref 118, .int 402, .int 0] (ms (ms M1 118 20 ((M1 118 20) - 1)) 118 19 ((M1 118 19) - 1)) (PT x) (q_v (PT x) Q2) ∧ ∀ M2, Q2 M2 → WA X ad ca LY RX12 cX12_oneIsOver 1 none (d + 1) 0 0 (a_E X ad ca LY Post) 0 [(0, .ref 118)] [] M2 (PT x)))))) : WA X ad ca LY RX12 cX12_oneIsOver 1 none (d + 1) 0 0 (a_E X ad ca LY Post) 0 [(0, .ref 118)] [] M (PT x) := by
  refine wa_aload_n dX12_oneIsOver_0 0 rfl rfl ?_
  obtain ⟨Q1, hM9, hF⟩ := hF
  refine wa_callV [] dX12_oneIsOver_1 (mmX12_top _ _) mlX12_240 mnX12_top mseX12_top rfl rfl rfl rfl (a_dlt d) rfl rfl hM9 ?_
  rintro r9 M1 P9 ⟨v1, rfl, rfl, hq9⟩
  replace hF := hF v1 M1 hq9
  simp only [Option.toList, List.cons_append, List.nil_append]
  refine wa_bipush (v := 7) dX12_oneIsOver_4 rfl ?_
  refine wa_icmp_ne (tgt := 40) dX12_oneIsOver_6 rfl (fun hc => ?_) (fun hc => ?_)
  · replace hF := hF.1 hc
    refine wa_aload_n dX12_oneIsOver_40 0 rfl rfl ?_
    refine wa_iconst (v := 2) dX12_oneIsOver_41 rfl ?_
    refine wb_puti dX12_oneIsOver_42 fkX12_243 fmX12_25 rfl rfl ?_
    exact wa_vret dX12_oneIsOver_45 rfl hF
  · replace hF := hF.2 hc
    refine wa_aload_n dX12_oneIsOver_9 0 rfl rfl ?_
    refine wa_dup dX12_oneIsOver_10 rfl ?_
    refine wb_geti (v := M1 118 20) dX12_oneIsOver_11 fkX12_200 rfl rfl rfl ?_
    refine wa_iconst (v := 1) dX12_oneIsOver_14 rfl ?_
    refine wa_isub dX12_oneIsOver_15 ?_
    refine wb_puti dX12_oneIsOver_16 fkX12_200 fmX12_20 rfl rfl ?_
    refine wa_aload_n dX12_oneIsOver_19 0 rfl rfl ?_
    refine wa_dup dX12_oneIsOver_20 rfl ?_
    refine wb_geti (v := M1 118 19) dX12_oneIsOver_21 fkX12_203 rfl rfl ((ms_no M1 118 20 ((M1 118 20) - 1) 118 19 (fun h9 => absurd h9.2 (by decide))).trans rfl) ?_
    refine wa_iconst (v := 1) dX12_oneIsOver_24 rfl ?_
    refine wa_isub dX12_oneIsOver_25 ?_
    refine wb_puti dX12_oneIsOver_26 fkX12_203 fmX12_19 rfl rfl ?_
    refine wa_aload_n dX12_oneIsOver_29 0 rfl rfl ?_
    refine wa_sipush (v := 402) dX12_oneIsOver_30 rfl ?_
    refine wa_iconst (v := 0) dX12_oneIsOver_33 rfl ?_
    obtain ⟨Q2, hM9, hF⟩ := hF
    refine wa_callV [.int 402, .int 0] dX12_oneIsOver_34 (mmX12_emits _ _) mlX12_221 mnX12_emits mseX12_emits rfl rfl rfl rfl (a_dlt d) rfl rfl hM9 ?_
    rintro r9 M2 P9 ⟨rfl, rfl, hq9⟩
    replace hF := hF M2 hq9
    simp only [Option.toList, List.nil_append]
    refine wa_goto (tgt := 0) dX12_oneIsOver_37 rfl ?_
    exact hF

theorem eX12_oneIsOver {X : a_X} {ad : Nat → Nat} {ca : Nat → ClassId} {d : Nat} {Post : Option Value → a_M → a_P → Prop} {x : Nat} {M : a_M}  (h : WA X ad ca LY RX12 cX12_oneIsOver 1 none d 0 0 (a_E X ad ca LY Post) 0 [(0, .ref 118)] [] M (PT x)) : Mt X ad ca LY d yX12_oneIsOver cX12_oneIsOver 1 none [.ref 118] M (PT x) Post := Mt.of (lv := [(0, .ref 118)]) (by decide +kernel) rfl rfl rfl (wa_pick [0] rfl h)

theorem bX12_goesOn_0 {X : a_X} {ad : Nat → Nat} {ca : Nat → ClassId} {d : Nat} {kc ks : Nat} {QF : List Frame → Array Value → State → State → Prop} {x : Nat} {M : a_M}   (hF : (∃ Q1 : Int32 → a_M → Prop, Mt X ad ca LY d yX12_top cX12_top 1 (some FieldType.int) [.ref 118] M (PT x) (q_i (PT x) Q1) ∧ ∀ v1 M1, Q1 v1 M1 → ((¬ (M1 118 15) = 3 → WA X ad ca LY RX12 cX12_goesOn 2 none (d + 1) kc ks QF 65 [(0, .ref 118), (1, .int v1)] [] M1 (PT x)) ∧ ((M1 118 15) = 3 → (((M1 118 16) = 43 → WA X ad ca LY RX12 cX12_goesOn 2 none (d + 1) kc ks QF 49 [(0, .ref 118)] [] M1 (PT x)) ∧ (¬ (M1 118 16) = 43 → (((M1 118 16) = 45 → WA X ad ca LY RX12 cX12_goesOn 2 none (d + 1) kc ks QF 49 [(0, .ref 118)] [] M1 (PT x)) ∧ (¬ (M1 118 16) = 45 → (((M1 118 16) = 42 → WA X ad ca LY RX12 cX12_goesOn 2 none (d + 1) kc ks QF 49 [(0, .ref 118)] [] M1 (PT x)) ∧ (¬ (M1 118 16) = 42 → ((¬ (M1 118 16) = 47 → WA X ad ca LY RX12 cX12_goesOn 2 none (d + 1) kc ks QF 65 [(0, .ref 118), (1, .int v1)] [] M1 (PT x)) ∧ ((M1 118 16) = 47 → WA X ad ca LY RX12 cX12_goesOn 2 none (d + 1) kc ks QF 49 [(0, .ref 118)] [] M1 (PT x))))))))))))) : WA X ad ca LY RX12 cX12_goesOn 2 none (d + 1) kc ks QF 0 [(0, .ref 118)] [] M (PT x) := by
  refine wa_aload_n dX12_goesOn_0 0 rfl rfl ?_
  obtain ⟨Q1, hM9, hF⟩ := hF
  refine wa_callV [] dX12_goesOn_1 (mmX12_top _ _) mlX12_240 mnX12_top mseX12_top rfl rfl rfl rfl (a_dlt d) rfl rfl hM9 ?_
  rintro r9 M1 P9 ⟨v1, rfl, rfl, hq9⟩
  replace hF := hF v1 M1 hq9
  simp only [Option.toList, List.cons_append, List.nil_append]
  refine wa_istore_n (lv' := [(1, .int v1), (0, .ref 118)]) dX12_goesOn_4 rfl rfl rfl ?_
  refine wa_aload_n dX12_goesOn_5 1 rfl rfl ?_
  refine wb_geti (v := M1 118 15) dX12_goesOn_6 fkX12_175 rfl rfl rfl ?_
  refine wa_iconst (v := 3) dX12_goesOn_9 rfl ?_
  refine wa_icmp_ne (tgt := 65) dX12_goesOn_10 rfl (fun hc => ?_) (fun hc => ?_)
  · replace hF := hF.1 hc
    exact wa_pick [1, 0] rfl hF
  · replace hF := hF.2 hc
    refine wa_aload_n dX12_goesOn_13 1 rfl rfl ?_
    refine wb_geti (v := M1 118 16) dX12_goesOn_14 fkX12_187 rfl rfl rfl ?_
    refine wa_bipush (v := 43) dX12_goesOn_17 rfl ?_
    refine wa_icmp_eq (tgt := 49) dX12_goesOn_19 rfl (fun hc => ?_) (fun hc => ?_)
    · replace hF := hF.1 hc
      exact wa_pick [1] rfl hF
    · replace hF := hF.2 hc
      refine wa_aload_n dX12_goesOn_22 1 rfl rfl ?_
      refine wb_geti (v := M1 118 16) dX12_goesOn_23 fkX12_187 rfl rfl rfl ?_
      refine wa_bipush (v := 45) dX12_goesOn_26 rfl ?_
      refine wa_icmp_eq (tgt := 49) dX12_goesOn_28 rfl (fun hc => ?_) (fun hc => ?_)
      · replace hF := hF.1 hc
        exact wa_pick [1] rfl hF
      · replace hF := hF.2 hc
        refine wa_aload_n dX12_goesOn_31 1 rfl rfl ?_
        refine wb_geti (v := M1 118 16) dX12_goesOn_32 fkX12_187 rfl rfl rfl ?_
        refine wa_bipush (v := 42) dX12_goesOn_35 rfl ?_
        refine wa_icmp_eq (tgt := 49) dX12_goesOn_37 rfl (fun hc => ?_) (fun hc => ?_)
        · replace hF := hF.1 hc
          exact wa_pick [1] rfl hF
        · replace hF := hF.2 hc
          refine wa_aload_n dX12_goesOn_40 1 rfl rfl ?_
          refine wb_geti (v := M1 118 16) dX12_goesOn_41 fkX12_187 rfl rfl rfl ?_
          refine wa_bipush (v := 47) dX12_goesOn_44 rfl ?_
          refine wa_icmp_ne (tgt := 65) dX12_goesOn_46 rfl (fun hc => ?_) (fun hc => ?_)
          · replace hF := hF.1 hc
            exact wa_pick [1, 0] rfl hF
          · replace hF := hF.2 hc
            exact wa_pick [1] rfl hF

theorem bX12_goesOn_49 {X : a_X} {ad : Nat → Nat} {ca : Nat → ClassId} {d : Nat} {Post : Option Value → a_M → a_P → Prop} {x : Nat} {M : a_M}   (hF : (∃ Q1 : a_M → Prop, Mt X ad ca LY d yX12_waitsFor cX12_waitsFor 2 none [.ref 118, .int (M 118 16)] M (PT x) (q_v (PT x) Q1) ∧ ∀ M1, Q1 M1 → Post none (ms M1 118 25 1) (PT x))) : WA X ad ca LY RX12 cX12_goesOn 2 none (d + 1) 0 0 (a_E X ad ca LY Post) 49 [(0, .ref 118)] [] M (PT x) := by
  refine wa_aload_n dX12_goesOn_49 0 rfl rfl ?_
  refine wa_aload_n dX12_goesOn_50 0 rfl rfl ?_
  refine wb_geti (v := M 118 16) dX12_goesOn_51 fkX12_187 rfl rfl rfl ?_
  obtain ⟨Q1, hM9, hF⟩ := hF
  refine wa_callV [.int (M 118 16)] dX12_goesOn_54 (mmX12_waitsFor _ _) mlX12_246 mnX12_waitsFor mseX12_waitsFor rfl rfl rfl rfl (a_dlt d) rfl rfl hM9 ?_
  rintro r9 M1 P9 ⟨rfl, rfl, hq9⟩
  replace hF := hF M1 hq9
  simp only [Option.toList, List.nil_append]
  refine wa_aload_n dX12_goesOn_57 0 rfl rfl ?_
  refine wa_iconst (v := 1) dX12_goesOn_58 rfl ?_
  refine wb_puti dX12_goesOn_59 fkX12_243 fmX12_25 rfl rfl ?_
  refine wa_goto (tgt := 142) dX12_goesOn_62 rfl ?_
  exact wa_vret dX12_goesOn_142 rfl hF

theorem bX12_goesOn_65 {X : a_X} {ad : Nat → Nat} {ca : Nat → ClassId} {d : Nat} {Post : Option Value → a_M → a_P → Prop} {x : Nat} {M : a_M} (x1 : Int32)  (hF : ((¬ x1 = 6 → WA X ad ca LY RX12 cX12_goesOn 2 none (d + 1) 0 0 (a_E X ad ca LY Post) 116 [(0, .ref 118), (1, .int x1)] [] M (PT x)) ∧ (x1 = 6 → (∃ Q1 : Int32 → a_M → Prop, Mt X ad ca LY d yX12_isSign cX12_isSign 2 (some FieldType.boolean) [.ref 118, .int 41] M (PT x) (q_i (PT x) Q1) ∧ ∀ v1 M1, Q1 v1 M1 → ((v1 = 0 → WA X ad ca LY RX12 cX12_goesOn 2 none (d + 1) 0 0 (a_E X ad ca LY Post) 116 [(0, .ref 118), (1, .int x1)] [] M1 (PT x)) ∧ (¬ v1 = 0 → (∃ Q2 : a_M → Prop, Mt X ad ca LY d yX12_works cX12_works 2 none [.ref 118, .int 3] M1 (PT x) (q_v (PT x) Q2) ∧ ∀ M2, Q2 M2 → (∃ Q3 : a_M → Prop, Mt X ad ca LY d yX12_next cX12_next 5 none [.ref 118] (ms (ms M2 118 20 ((M2 118 20) - 1)) 118 19 ((M2 118 19) - 1)) (PT x) (q_v (PT x) Q3) ∧ ∀ M3, Q3 M3 → (∃ Q4 : a_M → Prop, Mt X ad ca LY d yX12_oneIsOver cX12_oneIsOver 1 none [.ref 118] M3 (PT x) (q_v (PT x) Q4) ∧ ∀ M4, Q4 M4 → Post none M4 (PT x)))))))))) : WA X ad ca LY RX12 cX12_goesOn 2 none (d + 1) 0 0 (a_E X ad ca LY Post) 65 [(0, .ref 118), (1, .int x1)] [] M (PT x) := by
  refine wa_iload_n dX12_goesOn_65 1 rfl rfl ?_
  refine wa_bipush (v := 6) dX12_goesOn_66 rfl ?_
  refine wa_icmp_ne (tgt := 116) dX12_goesOn_68 rfl (fun hc => ?_) (fun hc => ?_)
  · replace hF := hF.1 hc
    exact hF
  · replace hF := hF.2 hc
    refine wa_aload_n dX12_goesOn_71 0 rfl rfl ?_
    refine wa_bipush (v := 41) dX12_goesOn_72 rfl ?_
    obtain ⟨Q1, hM9, hF⟩ := hF
    refine wa_callV [.int 41] dX12_goesOn_74 (mmX12_isSign _ _) mlX12_234 mnX12_isSign mseX12_isSign rfl rfl rfl rfl (a_dlt d) rfl rfl hM9 ?_
    rintro r9 M1 P9 ⟨v1, rfl, rfl, hq9⟩
    replace hF := hF v1 M1 hq9
    simp only [Option.toList, List.cons_append, List.nil_append]
    refine wa_if_eq (tgt := 116) dX12_goesOn_77 rfl (fun hc => ?_) (fun hc => ?_)
    · replace hF := hF.1 hc
      exact hF
    · replace hF := hF.2 hc
      refine wa_aload_n dX12_goesOn_80 0 rfl rfl ?_
      refine wa_iconst (v := 3) dX12_goesOn_81 rfl ?_
      obtain ⟨Q2, hM9, hF⟩ := hF
      refine wa_callV [.int 3] dX12_goesOn_82 (mmX12_works _ _) mlX12_225 mnX12_works mseX12_works rfl rfl rfl rfl (a_dlt d) rfl rfl hM9 ?_
      rintro r9 M2 P9 ⟨rfl, rfl, hq9⟩
      replace hF := hF M2 hq9
      simp only [Option.toList, List.nil_append]
      refine wa_aload_n dX12_goesOn_85 0 rfl rfl ?_
      refine wa_dup dX12_goesOn_86 rfl ?_
      refine wb_geti (v := M2 118 20) dX12_goesOn_87 fkX12_200 rfl rfl rfl ?_
      refine wa_iconst (v := 1) dX12_goesOn_90 rfl ?_
      refine wa_isub dX12_goesOn_91 ?_
      refine wb_puti dX12_goesOn_92 fkX12_200 fmX12_20 rfl rfl ?_
      refine wa_aload_n dX12_goesOn_95 0 rfl rfl ?_
      refine wa_dup dX12_goesOn_96 rfl ?_
      refine wb_geti (v := M2 118 19) dX12_goesOn_97 fkX12_203 rfl rfl ((ms_no M2 118 20 ((M2 118 20) - 1) 118 19 (fun h9 => absurd h9.2 (by decide))).trans rfl) ?_
      refine wa_iconst (v := 1) dX12_goesOn_100 rfl ?_
      refine wa_isub dX12_goesOn_101 ?_
      refine wb_puti dX12_goesOn_102 fkX12_203 fmX12_19 rfl rfl ?_
      refine wa_aload_n dX12_goesOn_105 0 rfl rfl ?_
      obtain ⟨Q3, hM9, hF⟩ := hF
      refine wa_callV [] dX12_goesOn_106 (mmX12_next _ _) mlX12_212 mnX12_next mseX12_next rfl rfl rfl rfl (a_dlt d) rfl rfl hM9 ?_
      rintro r9 M3 P9 ⟨rfl, rfl, hq9⟩
      replace hF := hF M3 hq9
      simp only [Option.toList, List.nil_append]
      refine wa_aload_n dX12_goesOn_109 0 rfl rfl ?_
      obtain ⟨Q4, hM9, hF⟩ := hF
      refine wa_callV [] dX12_goesOn_110 (mmX12_oneIsOver _ _) mlX12_228 mnX12_oneIsOver mseX12_oneIsOver rfl rfl rfl rfl (a_dlt d) rfl rfl hM9 ?_
      rintro r9 M4 P9 ⟨rfl, rfl, hq9⟩
      replace hF := hF M4 hq9
      simp only [Option.toList, List.nil_append]
      refine wa_goto (tgt := 142) dX12_goesOn_113 rfl ?_
      exact wa_vret dX12_goesOn_142 rfl hF

theorem bX12_goesOn_116 {X : a_X} {ad : Nat → Nat} {ca : Nat → ClassId} {d : Nat} {Post : Option Value → a_M → a_P → Prop} {x : Nat} {M : a_M} (x1 : Int32)  (hF : ((¬ x1 = 1 → WA X ad ca LY RX12 cX12_goesOn 2 none (d + 1) 0 0 (a_E X ad ca LY Post) 137 [(0, .ref 118)] [] M (PT x)) ∧ (x1 = 1 → (∃ Q1 : Int32 → a_M → Prop, Mt X ad ca LY d yX12_isSign cX12_isSign 2 (some FieldType.boolean) [.ref 118, .int 59] M (PT x) (q_i (PT x) Q1) ∧ ∀ v1 M1, Q1 v1 M1 → ((v1 = 0 → WA X ad ca LY RX12 cX12_goesOn 2 none (d + 1) 0 0 (a_E X ad ca LY Post) 137 [(0, .ref 118)] [] M1 (PT x)) ∧ (¬ v1 = 0 → (∃ Q2 : a_M → Prop, Mt X ad ca LY d yX12_clauseIsOver cX12_clauseIsOver 1 none [.ref 118] M1 (PT x) (q_v (PT x) Q2) ∧ ∀ M2, Q2 M2 → Post none M2 (PT x)))))))) : WA X ad ca LY RX12 cX12_goesOn 2 none (d + 1) 0 0 (a_E X ad ca LY Post) 116 [(0, .ref 118), (1, .int x1)] [] M (PT x) := by
  refine wa_iload_n dX12_goesOn_116 1 rfl rfl ?_
  refine wa_iconst (v := 1) dX12_goesOn_117 rfl ?_
  refine wa_icmp_ne (tgt := 137) dX12_goesOn_118 rfl (fun hc => ?_) (fun hc => ?_)
  · replace hF := hF.1 hc
    exact wa_pick [0] rfl hF
  · replace hF := hF.2 hc
    refine wa_aload_n dX12_goesOn_121 0 rfl rfl ?_
    refine wa_bipush (v := 59) dX12_goesOn_122 rfl ?_
    obtain ⟨Q1, hM9, hF⟩ := hF
    refine wa_callV [.int 59] dX12_goesOn_124 (mmX12_isSign _ _) mlX12_234 mnX12_isSign mseX12_isSign rfl rfl rfl rfl (a_dlt d) rfl rfl hM9 ?_
    rintro r9 M1 P9 ⟨v1, rfl, rfl, hq9⟩
    replace hF := hF v1 M1 hq9
    simp only [Option.toList, List.cons_append, List.nil_append]
    refine wa_if_eq (tgt := 137) dX12_goesOn_127 rfl (fun hc => ?_) (fun hc => ?_)
    · replace hF := hF.1 hc
      exact wa_pick [0] rfl hF
    · replace hF := hF.2 hc
      refine wa_aload_n dX12_goesOn_130 0 rfl rfl ?_
      obtain ⟨Q2, hM9, hF⟩ := hF
      refine wa_callV [] dX12_goesOn_131 (mmX12_clauseIsOver _ _) mlX12_249 mnX12_clauseIsOver mseX12_clauseIsOver rfl rfl rfl rfl (a_dlt d) rfl rfl hM9 ?_
      rintro r9 M2 P9 ⟨rfl, rfl, hq9⟩
      replace hF := hF M2 hq9
      simp only [Option.toList, List.nil_append]
      refine wa_goto (tgt := 142) dX12_goesOn_134 rfl ?_
      exact wa_vret dX12_goesOn_142 rfl hF

theorem bX12_goesOn_137 {X : a_X} {ad : Nat → Nat} {ca : Nat → ClassId} {d : Nat} {Post : Option Value → a_M → a_P → Prop} {x : Nat} {M : a_M}   (hF : (∃ Q1 : a_M → Prop, Mt X ad ca LY d yX12_errs cX12_errs 2 none [.ref 118, .int 1] M (PT x) (q_v (PT x) Q1) ∧ ∀ M1, Q1 M1 → Post none M1 (PT x))) : WA X ad ca LY RX12 cX12_goesOn 2 none (d + 1) 0 0 (a_E X ad ca LY Post) 137 [(0, .ref 118)] [] M (PT x) := by
  refine wa_aload_n dX12_goesOn_137 0 rfl rfl ?_
  refine wa_iconst (v := 1) dX12_goesOn_138 rfl ?_
  obtain ⟨Q1, hM9, hF⟩ := hF
  refine wa_callV [.int 1] dX12_goesOn_139 (mmX12_errs _ _) mlX12_206 mnX12_errs mseX12_errs rfl rfl rfl rfl (a_dlt d) rfl rfl hM9 ?_
  rintro r9 M1 P9 ⟨rfl, rfl, hq9⟩
  replace hF := hF M1 hq9
  simp only [Option.toList, List.nil_append]
  exact wa_vret dX12_goesOn_142 rfl hF

theorem eX12_goesOn {X : a_X} {ad : Nat → Nat} {ca : Nat → ClassId} {d : Nat} {Post : Option Value → a_M → a_P → Prop} {x : Nat} {M : a_M}  (h : WA X ad ca LY RX12 cX12_goesOn 2 none d 0 0 (a_E X ad ca LY Post) 0 [(0, .ref 118)] [] M (PT x)) : Mt X ad ca LY d yX12_goesOn cX12_goesOn 2 none [.ref 118] M (PT x) Post := Mt.of (lv := [(0, .ref 118)]) (by decide +kernel) rfl rfl rfl (wa_pick [0] rfl h)

theorem bX12_clauseIsOver_0 {X : a_X} {ad : Nat → Nat} {ca : Nat → ClassId} {d : Nat} {Post : Option Value → a_M → a_P → Prop} {x : Nat} {M : a_M}   (hF : (∃ Q1 : a_M → Prop, Mt X ad ca LY d yX12_works cX12_works 2 none [.ref 118, .int 1] M (PT x) (q_v (PT x) Q1) ∧ ∀ M1, Q1 M1 → (∃ Q2 : a_M → Prop, Mt X ad ca LY d yX12_emits cX12_emits 3 none [.ref 118, .int 408, .int 0] (ms M1 118 20 0) (PT x) (q_v (PT x) Q2) ∧ ∀ M2, Q2 M2 → (∃ Q3 : a_M → Prop, Mt X ad ca LY d yX12_next cX12_next 5 none [.ref 118] (ms M2 118 26 ((M2 118 26) + 1)) (PT x) (q_v (PT x) Q3) ∧ ∀ M3, Q3 M3 → Post none (ms M3 118 25 4) (PT x))))) : WA X ad ca LY RX12 cX12_clauseIsOver 1 none (d + 1) 0 0 (a_E X ad ca LY Post) 0 [(0, .ref 118)] [] M (PT x) := by
  refine wa_aload_n dX12_clauseIsOver_0 0 rfl rfl ?_
  refine wa_iconst (v := 1) dX12_clauseIsOver_1 rfl ?_
  obtain ⟨Q1, hM9, hF⟩ := hF
  refine wa_callV [.int 1] dX12_clauseIsOver_2 (mmX12_works _ _) mlX12_225 mnX12_works mseX12_works rfl rfl rfl rfl (a_dlt d) rfl rfl hM9 ?_
  rintro r9 M1 P9 ⟨rfl, rfl, hq9⟩
  replace hF := hF M1 hq9
  simp only [Option.toList, List.nil_append]
  refine wa_aload_n dX12_clauseIsOver_5 0 rfl rfl ?_
  refine wa_iconst (v := 0) dX12_clauseIsOver_6 rfl ?_
  refine wb_puti dX12_clauseIsOver_7 fkX12_200 fmX12_20 rfl rfl ?_
  refine wa_aload_n dX12_clauseIsOver_10 0 rfl rfl ?_
  refine wa_sipush (v := 408) dX12_clauseIsOver_11 rfl ?_
  refine wa_iconst (v := 0) dX12_clauseIsOver_14 rfl ?_
  obtain ⟨Q2, hM9, hF⟩ := hF
  refine wa_callV [.int 408, .int 0] dX12_clauseIsOver_15 (mmX12_emits _ _) mlX12_221 mnX12_emits mseX12_emits rfl rfl rfl rfl (a_dlt d) rfl rfl hM9 ?_
  rintro r9 M2 P9 ⟨rfl, rfl, hq9⟩
  replace hF := hF M2 hq9
  simp only [Option.toList, List.nil_append]
  refine wa_aload_n dX12_clauseIsOver_18 0 rfl rfl ?_
  refine wa_dup dX12_clauseIsOver_19 rfl ?_
  refine wb_geti (v := M2 118 26) dX12_clauseIsOver_20 fkX12_252 rfl rfl rfl ?_
  refine wa_iconst (v := 1) dX12_clauseIsOver_23 rfl ?_
  refine wa_iadd dX12_clauseIsOver_24 ?_
  refine wb_puti dX12_clauseIsOver_25 fkX12_252 fmX12_26 rfl rfl ?_
  refine wa_aload_n dX12_clauseIsOver_28 0 rfl rfl ?_
  obtain ⟨Q3, hM9, hF⟩ := hF
  refine wa_callV [] dX12_clauseIsOver_29 (mmX12_next _ _) mlX12_212 mnX12_next mseX12_next rfl rfl rfl rfl (a_dlt d) rfl rfl hM9 ?_
  rintro r9 M3 P9 ⟨rfl, rfl, hq9⟩
  replace hF := hF M3 hq9
  simp only [Option.toList, List.nil_append]
  refine wa_aload_n dX12_clauseIsOver_32 0 rfl rfl ?_
  refine wa_iconst (v := 4) dX12_clauseIsOver_33 rfl ?_
  refine wb_puti dX12_clauseIsOver_34 fkX12_243 fmX12_25 rfl rfl ?_
  exact wa_vret dX12_clauseIsOver_37 rfl hF

theorem eX12_clauseIsOver {X : a_X} {ad : Nat → Nat} {ca : Nat → ClassId} {d : Nat} {Post : Option Value → a_M → a_P → Prop} {x : Nat} {M : a_M}  (h : WA X ad ca LY RX12 cX12_clauseIsOver 1 none d 0 0 (a_E X ad ca LY Post) 0 [(0, .ref 118)] [] M (PT x)) : Mt X ad ca LY d yX12_clauseIsOver cX12_clauseIsOver 1 none [.ref 118] M (PT x) Post := Mt.of (lv := [(0, .ref 118)]) (by decide +kernel) rfl rfl rfl (wa_pick [0] rfl h)

theorem bX12_number_0 {X : a_X} {ad : Nat → Nat} {ca : Nat → ClassId} {d : Nat} {Post : Option Value → a_M → a_P → Prop} {x : Nat} {M : a_M} (x1 : Int32) (x2 : Int32)  (hF : ((0 < (M 118 17) → WA X ad ca LY RX12 cX12_number 4 (some FieldType.int) (d + 1) 0 0 (a_E X ad ca LY Post) 15 [(0, .ref 118), (1, .int x1)] [] M (PT x)) ∧ (¬ 0 < (M 118 17) → (((M 118 15) = 2 → (∃ Q1 : Int32 → a_M → Prop, Mt X ad ca LY d yX12_in cX12_in 3 (some FieldType.boolean) [.int (M 118 16), .int x1, .int x2] M (PT x) (q_i (PT x) Q1) ∧ ∀ v1 M1, Q1 v1 M1 → ((¬ v1 = 0 → (∃ Q2 : a_M → Prop, Mt X ad ca LY d yX12_next cX12_next 5 none [.ref 118] M1 (PT x) (q_v (PT x) Q2) ∧ ∀ M2, Q2 M2 → Post (some (.int (M1 118 16))) M2 (PT x))) ∧ (v1 = 0 → (∃ Q3 : a_M → Prop, Mt X ad ca LY d yX12_errs cX12_errs 2 none [.ref 118, .int 2] M1 (PT x) (q_v (PT x) Q3) ∧ ∀ M3, Q3 M3 → Post (some (.int x1)) M3 (PT x)))))) ∧ (¬ (M 118 15) = 2 → WA X ad ca LY RX12 cX12_number 4 (some FieldType.int) (d + 1) 0 0 (a_E X ad ca LY Post) 15 [(0, .ref 118), (1, .int x1)] [] M (PT x)))))) : WA X ad ca LY RX12 cX12_number 4 (some FieldType.int) (d + 1) 0 0 (a_E X ad ca LY Post) 0 [(0, .ref 118), (1, .int x1), (2, .int x2)] [] M (PT x) := by
  refine wa_aload_n dX12_number_0 0 rfl rfl ?_
  refine wb_geti (v := M 118 17) dX12_number_1 fkX12_191 rfl rfl rfl ?_
  refine wa_if_gt (tgt := 15) dX12_number_4 rfl (fun hc => ?_) (fun hc => ?_)
  · replace hF := hF.1 hc
    exact wa_pick [0, 1] rfl hF
  · replace hF := hF.2 hc
    refine wa_aload_n dX12_number_7 0 rfl rfl ?_
    refine wb_geti (v := M 118 15) dX12_number_8 fkX12_175 rfl rfl rfl ?_
    refine wa_iconst (v := 2) dX12_number_11 rfl ?_
    refine wa_icmp_eq (tgt := 22) dX12_number_12 rfl (fun hc => ?_) (fun hc => ?_)
    · replace hF := hF.1 hc
      refine wa_aload_n dX12_number_22 0 rfl rfl ?_
      refine wb_geti (v := M 118 16) dX12_number_23 fkX12_187 rfl rfl rfl ?_
      refine wa_iload_n dX12_number_26 1 rfl rfl ?_
      refine wa_iload_n dX12_number_27 2 rfl rfl ?_
      obtain ⟨Q1, hM9, hF⟩ := hF
      refine wa_callS [.int (M 118 16), .int x1, .int x2] dX12_number_28 (mmX12_in _ _) mlX12_124 mstX12_in rfl (a_dlt d) rfl rfl hM9 ?_
      rintro r9 M1 P9 ⟨v1, rfl, rfl, hq9⟩
      replace hF := hF v1 M1 hq9
      simp only [Option.toList, List.cons_append, List.nil_append]
      refine wa_if_ne (tgt := 41) dX12_number_31 rfl (fun hc => ?_) (fun hc => ?_)
      · replace hF := hF.1 hc
        refine wa_aload_n dX12_number_41 0 rfl rfl ?_
        refine wb_geti (v := M1 118 16) dX12_number_42 fkX12_187 rfl rfl rfl ?_
        refine wa_istore_n (lv' := [(3, .int (M1 118 16)), (0, .ref 118), (1, .int x1), (2, .int x2)]) dX12_number_45 rfl rfl rfl ?_
        refine wa_aload_n dX12_number_46 1 rfl rfl ?_
        obtain ⟨Q2, hM9, hF⟩ := hF
        refine wa_callV [] dX12_number_47 (mmX12_next _ _) mlX12_212 mnX12_next mseX12_next rfl rfl rfl rfl (a_dlt d) rfl rfl hM9 ?_
        rintro r9 M2 P9 ⟨rfl, rfl, hq9⟩
        replace hF := hF M2 hq9
        simp only [Option.toList, List.nil_append]
        refine wa_iload_n dX12_number_50 0 rfl rfl ?_
        exact wa_iret dX12_number_51 rfl rfl hF
      · replace hF := hF.2 hc
        refine wa_aload_n dX12_number_34 0 rfl rfl ?_
        refine wa_iconst (v := 2) dX12_number_35 rfl ?_
        obtain ⟨Q3, hM9, hF⟩ := hF
        refine wa_callV [.int 2] dX12_number_36 (mmX12_errs _ _) mlX12_206 mnX12_errs mseX12_errs rfl rfl rfl rfl (a_dlt d) rfl rfl hM9 ?_
        rintro r9 M3 P9 ⟨rfl, rfl, hq9⟩
        replace hF := hF M3 hq9
        simp only [Option.toList, List.nil_append]
        refine wa_iload_n dX12_number_39 1 rfl rfl ?_
        exact wa_iret dX12_number_40 rfl rfl hF
    · replace hF := hF.2 hc
      exact wa_pick [0, 1] rfl hF

theorem bX12_number_15 {X : a_X} {ad : Nat → Nat} {ca : Nat → ClassId} {d : Nat} {Post : Option Value → a_M → a_P → Prop} {x : Nat} {M : a_M} (x1 : Int32)  (hF : (∃ Q1 : a_M → Prop, Mt X ad ca LY d yX12_errs cX12_errs 2 none [.ref 118, .int 1] M (PT x) (q_v (PT x) Q1) ∧ ∀ M1, Q1 M1 → Post (some (.int x1)) M1 (PT x))) : WA X ad ca LY RX12 cX12_number 4 (some FieldType.int) (d + 1) 0 0 (a_E X ad ca LY Post) 15 [(0, .ref 118), (1, .int x1)] [] M (PT x) := by
  refine wa_aload_n dX12_number_15 0 rfl rfl ?_
  refine wa_iconst (v := 1) dX12_number_16 rfl ?_
  obtain ⟨Q1, hM9, hF⟩ := hF
  refine wa_callV [.int 1] dX12_number_17 (mmX12_errs _ _) mlX12_206 mnX12_errs mseX12_errs rfl rfl rfl rfl (a_dlt d) rfl rfl hM9 ?_
  rintro r9 M1 P9 ⟨rfl, rfl, hq9⟩
  replace hF := hF M1 hq9
  simp only [Option.toList, List.nil_append]
  refine wa_iload_n dX12_number_20 1 rfl rfl ?_
  exact wa_iret dX12_number_21 rfl rfl hF

theorem eX12_number {X : a_X} {ad : Nat → Nat} {ca : Nat → ClassId} {d : Nat} {Post : Option Value → a_M → a_P → Prop} {x : Nat} {M : a_M} (x1 : Int32) (x2 : Int32) (h : WA X ad ca LY RX12 cX12_number 4 (some FieldType.int) d 0 0 (a_E X ad ca LY Post) 0 [(0, .ref 118), (1, .int x1), (2, .int x2)] [] M (PT x)) : Mt X ad ca LY d yX12_number cX12_number 4 (some FieldType.int) [.ref 118, .int x1, .int x2] M (PT x) Post := Mt.of (lv := [(0, .ref 118), (1, .int x1), (2, .int x2)]) (by decide +kernel) rfl rfl rfl (wa_pick [0, 1, 2] rfl h)

theorem bX12_wasTold_0 {X : a_X} {ad : Nat → Nat} {ca : Nat → ClassId} {d : Nat} {kc ks : Nat} {QF : List Frame → Array Value → State → State → Prop} {x : Nat} {M : a_M} (x1 : Int32)  (hF : WA X ad ca LY RX12 cX12_wasTold 4 (some FieldType.boolean) (d + 1) kc ks QF 4 [(0, .ref 118), (1, .int x1), (2, .int 0), (3, .int 0)] [] M (PT x)) : WA X ad ca LY RX12 cX12_wasTold 4 (some FieldType.boolean) (d + 1) kc ks QF 0 [(0, .ref 118), (1, .int x1)] [] M (PT x) := by
  refine wa_iconst (v := 0) dX12_wasTold_0 rfl ?_
  refine wa_istore_n (lv' := [(2, .int 0), (0, .ref 118), (1, .int x1)]) dX12_wasTold_1 rfl rfl rfl ?_
  refine wa_iconst (v := 0) dX12_wasTold_2 rfl ?_
  refine wa_istore_n (lv' := [(3, .int 0), (2, .int 0), (0, .ref 118), (1, .int x1)]) dX12_wasTold_3 rfl rfl rfl ?_
  exact wa_pick [2, 3, 1, 0] rfl hF

theorem bX12_wasTold_4 {X : a_X} {ad : Nat → Nat} {ca : Nat → ClassId} {d : Nat} {Post : Option Value → a_M → a_P → Prop} {x : Nat} {M : a_M} (x1 : Int32) (x2 : Int32) (x3 : Int32)  (hF : (((M 118 26) ≤ x3 → ((x2 = 0 ∨ x2 = 1) ∧ Post (some (.int x2)) M (PT x))) ∧ (¬ (M 118 26) ≤ x3 → ((¬ x2 = 0 → WA X ad ca LY RX12 cX12_wasTold 4 (some FieldType.boolean) (d + 1) 0 0 (a_E X ad ca LY Post) 26 [(0, .ref 118), (1, .int x1), (3, .int x3)] [] M (PT x)) ∧ (x2 = 0 → (vp_in x3 30 ∧ ((¬ (M 131 x3.toNatClampNeg) = x1 → WA X ad ca LY RX12 cX12_wasTold 4 (some FieldType.boolean) (d + 1) 0 0 (a_E X ad ca LY Post) 4 [(0, .ref 118), (1, .int x1), (2, .int 0), (3, .int (x3 + 1))] [] M (PT x)) ∧ ((M 131 x3.toNatClampNeg) = x1 → WA X ad ca LY RX12 cX12_wasTold 4 (some FieldType.boolean) (d + 1) 0 0 (a_E X ad ca LY Post) 26 [(0, .ref 118), (1, .int x1), (3, .int x3)] [] M (PT x))))))))) : WA X ad ca LY RX12 cX12_wasTold 4 (some FieldType.boolean) (d + 1) 0 0 (a_E X ad ca LY Post) 4 [(0, .ref 118), (1, .int x1), (2, .int x2), (3, .int x3)] [] M (PT x) := by
  refine wa_iload_n dX12_wasTold_4 3 rfl rfl ?_
  refine wa_aload_n dX12_wasTold_5 0 rfl rfl ?_
  refine wb_geti (v := M 118 26) dX12_wasTold_6 fkX12_252 rfl rfl rfl ?_
  refine wa_icmp_ge (tgt := 38) dX12_wasTold_9 rfl (fun hc => ?_) (fun hc => ?_)
  · replace hF := hF.1 hc
    refine wa_iload_n dX12_wasTold_38 2 rfl rfl ?_
    exact wa_iret dX12_wasTold_39 rfl (a_bn hF.1) hF.2
  · replace hF := hF.2 hc
    refine wa_iload_n dX12_wasTold_12 2 rfl rfl ?_
    refine wa_if_ne (tgt := 26) dX12_wasTold_13 rfl (fun hc => ?_) (fun hc => ?_)
    · replace hF := hF.1 hc
      exact wa_pick [0, 1, 3] rfl hF
    · replace hF := hF.2 hc
      refine wa_aload_n dX12_wasTold_16 0 rfl rfl ?_
      refine wa_getr (r := 131) dX12_wasTold_17 fkX12_54 rfl rfl rfl ?_
      refine wa_iload_n dX12_wasTold_20 3 rfl rfl ?_
      obtain ⟨hi9, hF⟩ := hF
      refine wb_iald (j := x3.toNatClampNeg) (v := M 131 x3.toNatClampNeg) dX12_wasTold_21 rfl hi9 rfl rfl ?_
      refine wa_iload_n dX12_wasTold_22 1 rfl rfl ?_
      refine wa_icmp_ne (tgt := 30) dX12_wasTold_23 rfl (fun hc => ?_) (fun hc => ?_)
      · replace hF := hF.1 hc
        refine wa_iconst (v := 0) dX12_wasTold_30 rfl ?_
        refine wa_istore_n (lv' := [(2, .int 0), (0, .ref 118), (1, .int x1), (3, .int x3)]) dX12_wasTold_31 rfl rfl rfl ?_
        refine wa_iinc (v := x3 + 1) (lv' := [(3, .int (x3 + 1)), (2, .int 0), (0, .ref 118), (1, .int x1)]) dX12_wasTold_32 3 rfl rfl rfl rfl ?_
        refine wa_goto (tgt := 4) dX12_wasTold_35 rfl ?_
        exact wa_pick [2, 3, 1, 0] rfl hF
      · replace hF := hF.2 hc
        exact wa_pick [0, 1, 3] rfl hF

theorem bX12_wasTold_26 {X : a_X} {ad : Nat → Nat} {ca : Nat → ClassId} {d : Nat} {kc ks : Nat} {QF : List Frame → Array Value → State → State → Prop} {x : Nat} {M : a_M} (x1 : Int32) (x3 : Int32)  (hF : WA X ad ca LY RX12 cX12_wasTold 4 (some FieldType.boolean) (d + 1) kc ks QF 4 [(0, .ref 118), (1, .int x1), (2, .int 1), (3, .int (x3 + 1))] [] M (PT x)) : WA X ad ca LY RX12 cX12_wasTold 4 (some FieldType.boolean) (d + 1) kc ks QF 26 [(0, .ref 118), (1, .int x1), (3, .int x3)] [] M (PT x) := by
  refine wa_iconst (v := 1) dX12_wasTold_26 rfl ?_
  refine wa_goto (tgt := 31) dX12_wasTold_27 rfl ?_
  refine wa_istore_n (lv' := [(2, .int 1), (0, .ref 118), (1, .int x1), (3, .int x3)]) dX12_wasTold_31 rfl rfl rfl ?_
  refine wa_iinc (v := x3 + 1) (lv' := [(3, .int (x3 + 1)), (2, .int 1), (0, .ref 118), (1, .int x1)]) dX12_wasTold_32 3 rfl rfl rfl rfl ?_
  refine wa_goto (tgt := 4) dX12_wasTold_35 rfl ?_
  exact wa_pick [2, 3, 1, 0] rfl hF

theorem eX12_wasTold {X : a_X} {ad : Nat → Nat} {ca : Nat → ClassId} {d : Nat} {Post : Option Value → a_M → a_P → Prop} {x : Nat} {M : a_M} (x1 : Int32) (h : WA X ad ca LY RX12 cX12_wasTold 4 (some FieldType.boolean) d 0 0 (a_E X ad ca LY Post) 0 [(0, .ref 118), (1, .int x1)] [] M (PT x)) : Mt X ad ca LY d yX12_wasTold cX12_wasTold 4 (some FieldType.boolean) [.ref 118, .int x1] M (PT x) Post := Mt.of (lv := [(0, .ref 118), (1, .int x1)]) (by decide +kernel) rfl rfl rfl (wa_pick [0, 1] rfl h)
