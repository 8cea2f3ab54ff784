theorem bX8_look_0 {X : a_X} {ad : Nat → Nat} {ca : Nat → ClassId} {d : Nat} {Post : Option Value → a_M → a_P → Prop} {x : Nat} {M : a_M} (o1 : Nat) (x2 : Int32) (x3 : Int32) (hLo1 : LY[o1]? = some (6, 5)) (hF : ((¬ x2 = (M 23 2) → WA X ad ca LY RX8 cX8_look 4 none (d + 1) 0 0 (a_E X ad ca LY Post) 28 [(0, .ref 23), (1, .ref o1), (2, .int x2), (3, .int x3)] [] M (PT x)) ∧ (x2 = (M 23 2) → ((¬ x3 = (M 23 3) → WA X ad ca LY RX8 cX8_look 4 none (d + 1) 0 0 (a_E X ad ca LY Post) 28 [(0, .ref 23), (1, .ref o1), (2, .int x2), (3, .int x3)] [] M (PT x)) ∧ (x3 = (M 23 3) → (∃ Q1 : Int32 → a_M → Prop, Mt X ad ca LY d yX6_isLike cX6_isLike 2 (some FieldType.boolean) [.ref 24, .ref o1] M (PT x) (q_i (PT x) Q1) ∧ ∀ v1 M1, Q1 v1 M1 → ((v1 = 0 → WA X ad ca LY RX8 cX8_look 4 none (d + 1) 0 0 (a_E X ad ca LY Post) 28 [(0, .ref 23), (1, .ref o1), (2, .int x2), (3, .int x3)] [] M1 (PT x)) ∧ (¬ v1 = 0 → Post none M1 (PT x))))))))) : WA X ad ca LY RX8 cX8_look 4 none (d + 1) 0 0 (a_E X ad ca LY Post) 0 [(0, .ref 23), (1, .ref o1), (2, .int x2), (3, .int x3)] [] M (PT x) := by
  refine wa_iload_n dX8_look_0 2 rfl rfl ?_
  refine wa_aload_n dX8_look_1 0 rfl rfl ?_
  refine wb_geti (v := M 23 2) dX8_look_2 fkX8_18 rfl rfl rfl ?_
  refine wa_icmp_ne (tgt := 28) dX8_look_5 rfl (fun hc => ?_) (fun hc => ?_)
  · replace hF := hF.1 hc
    exact hF
  · replace hF := hF.2 hc
    refine wa_iload_n dX8_look_8 3 rfl rfl ?_
    refine wa_aload_n dX8_look_9 0 rfl rfl ?_
    refine wb_geti (v := M 23 3) dX8_look_10 fkX8_22 rfl rfl rfl ?_
    refine wa_icmp_ne (tgt := 28) dX8_look_13 rfl (fun hc => ?_) (fun hc => ?_)
    · replace hF := hF.1 hc
      exact hF
    · replace hF := hF.2 hc
      refine wa_aload_n dX8_look_16 0 rfl rfl ?_
      refine wa_getr (r := 24) dX8_look_17 fkX8_12 rfl rfl rfl ?_
      refine wa_aload_n dX8_look_20 1 rfl rfl ?_
      obtain ⟨Q1, hM9, hF⟩ := hF
      refine wa_callV [.ref o1] dX8_look_21 (mmX6_isLike _ _) mlX8_48 mnX6_isLike mseX6_isLike rfl rfl rfl rfl (a_dlt d) rfl rfl hM9 ?_
      rintro r9 M1 P9 ⟨v1, rfl, rfl, hq9⟩
      replace hF := hF v1 M1 hq9
      simp only [Option.toList, List.cons_append, List.nil_append]
      refine wa_if_eq (tgt := 28) dX8_look_24 rfl (fun hc => ?_) (fun hc => ?_)
      · replace hF := hF.1 hc
        exact hF
      · replace hF := hF.2 hc
        exact wa_vret dX8_look_27 rfl hF

theorem bX8_look_28 {X : a_X} {ad : Nat → Nat} {ca : Nat → ClassId} {d : Nat} {Post : Option Value → a_M → a_P → Prop} {x : Nat} {M : a_M} (o1 : Nat) (x2 : Int32) (x3 : Int32) (hLo1 : LY[o1]? = some (6, 5)) (hF : (∃ Q1 : a_M → Prop, Mt X ad ca LY d yX6_copyFrom cX6_copyFrom 2 none [.ref 24, .ref o1] (ms (ms M 23 2 x2) 23 3 x3) (PT x) (q_v (PT x) Q1) ∧ ∀ M1, Q1 M1 → (∃ Q2 : a_M → Prop, Mt X ad ca LY d yX0_gather cX0_gather 6 none [.ref 19, .ref o1, .int x2, .int x3] M1 (PT x) (q_v (PT x) Q2) ∧ ∀ M2, Q2 M2 → (∃ Q3 : a_M → Prop, Mt X ad ca LY d yX0_fillSum cX0_fillSum 9 none [.ref 19, .ref o1, .ref 25] M2 (PT x) (q_v (PT x) Q3) ∧ ∀ M3, Q3 M3 → (∃ Q4 : a_M → Prop, Mt X ad ca LY d yX8_flatten cX8_flatten 5 none [.ref 23] (ms M3 23 9 (M3 19 3)) (PT x) (q_v (PT x) Q4) ∧ ∀ M4, Q4 M4 → (∃ Q5 : a_M → Prop, Mt X ad ca LY d yX8_findTerms cX8_findTerms 4 none [.ref 23] M4 (PT x) (q_v (PT x) Q5) ∧ ∀ M5, Q5 M5 → Post none M5 (PT x))))))) : WA X ad ca LY RX8 cX8_look 4 none (d + 1) 0 0 (a_E X ad ca LY Post) 28 [(0, .ref 23), (1, .ref o1), (2, .int x2), (3, .int x3)] [] M (PT x) := by
  refine wa_aload_n dX8_look_28 0 rfl rfl ?_
  refine wa_iload_n dX8_look_29 2 rfl rfl ?_
  refine wb_puti dX8_look_30 fkX8_18 fmX8_2 rfl rfl ?_
  refine wa_aload_n dX8_look_33 0 rfl rfl ?_
  refine wa_iload_n dX8_look_34 3 rfl rfl ?_
  refine wb_puti dX8_look_35 fkX8_22 fmX8_3 rfl rfl ?_
  refine wa_aload_n dX8_look_38 0 rfl rfl ?_
  refine wa_getr (r := 24) dX8_look_39 fkX8_12 rfl rfl rfl ?_
  refine wa_aload_n dX8_look_42 1 rfl rfl ?_
  obtain ⟨Q1, hM9, hF⟩ := hF
  refine wa_callV [.ref o1] dX8_look_43 (mmX6_copyFrom _ _) mlX8_52 mnX6_copyFrom mseX6_copyFrom rfl rfl rfl rfl (a_dlt d) rfl rfl hM9 ?_
  rintro r9 M1 P9 ⟨rfl, rfl, hq9⟩
  replace hF := hF M1 hq9
  simp only [Option.toList, List.nil_append]
  refine wa_aload_n dX8_look_46 0 rfl rfl ?_
  refine wa_getr (r := 19) dX8_look_47 fkX8_44 rfl rfl rfl ?_
  refine wa_aload_n dX8_look_50 1 rfl rfl ?_
  refine wa_iload_n dX8_look_51 2 rfl rfl ?_
  refine wa_iload_n dX8_look_52 3 rfl rfl ?_
  obtain ⟨Q2, hM9, hF⟩ := hF
  refine wa_callV [.ref o1, .int x2, .int x3] dX8_look_53 (mmX0_gather _ _) mlX8_56 mnX0_gather mseX0_gather rfl rfl rfl rfl (a_dlt d) rfl rfl hM9 ?_
  rintro r9 M2 P9 ⟨rfl, rfl, hq9⟩
  replace hF := hF M2 hq9
  simp only [Option.toList, List.nil_append]
  refine wa_aload_n dX8_look_56 0 rfl rfl ?_
  refine wa_getr (r := 19) dX8_look_57 fkX8_44 rfl rfl rfl ?_
  refine wa_aload_n dX8_look_60 1 rfl rfl ?_
  refine wa_aload_n dX8_look_61 0 rfl rfl ?_
  refine wa_getr (r := 25) dX8_look_62 fkX8_25 rfl rfl rfl ?_
  obtain ⟨Q3, hM9, hF⟩ := hF
  refine wa_callV [.ref o1, .ref 25] dX8_look_65 (mmX0_fillSum _ _) mlX8_62 mnX0_fillSum mseX0_fillSum rfl rfl rfl rfl (a_dlt d) rfl rfl hM9 ?_
  rintro r9 M3 P9 ⟨rfl, rfl, hq9⟩
  replace hF := hF M3 hq9
  simp only [Option.toList, List.nil_append]
  refine wa_aload_n dX8_look_68 0 rfl rfl ?_
  refine wa_aload_n dX8_look_69 0 rfl rfl ?_
  refine wa_getr (r := 19) dX8_look_70 fkX8_44 rfl rfl rfl ?_
  refine wb_geti (v := M3 19 3) dX8_look_73 fkX8_66 rfl rfl rfl ?_
  refine wb_puti dX8_look_76 fkX8_41 fmX8_9 rfl rfl ?_
  refine wa_aload_n dX8_look_79 0 rfl rfl ?_
  obtain ⟨Q4, hM9, hF⟩ := hF
  refine wa_callV [] dX8_look_80 (mmX8_flatten _ _) mlX8_69 mnX8_flatten mseX8_flatten rfl rfl rfl rfl (a_dlt d) rfl rfl hM9 ?_
  rintro r9 M4 P9 ⟨rfl, rfl, hq9⟩
  replace hF := hF M4 hq9
  simp only [Option.toList, List.nil_append]
  refine wa_aload_n dX8_look_83 0 rfl rfl ?_
  obtain ⟨Q5, hM9, hF⟩ := hF
  refine wa_callV [] dX8_look_84 (mmX8_findTerms _ _) mlX8_72 mnX8_findTerms mseX8_findTerms rfl rfl rfl rfl (a_dlt d) rfl rfl hM9 ?_
  rintro r9 M5 P9 ⟨rfl, rfl, hq9⟩
  replace hF := hF M5 hq9
  simp only [Option.toList, List.nil_append]
  exact wa_vret dX8_look_87 rfl hF

theorem eX8_look {X : a_X} {ad : Nat → Nat} {ca : Nat → ClassId} {d : Nat} {Post : Option Value → a_M → a_P → Prop} {x : Nat} {M : a_M} (o1 : Nat) (x2 : Int32) (x3 : Int32) (h : WA X ad ca LY RX8 cX8_look 4 none d 0 0 (a_E X ad ca LY Post) 0 [(0, .ref 23), (1, .ref o1), (2, .int x2), (3, .int x3)] [] M (PT x)) : Mt X ad ca LY d yX8_look cX8_look 4 none [.ref 23, .ref o1, .int x2, .int x3] M (PT x) Post := Mt.of (lv := [(0, .ref 23), (1, .ref o1), (2, .int x2), (3, .int x3)]) (by decide +kernel) rfl rfl rfl (wa_pick [0, 1, 2, 3] rfl h)

theorem bX8_flatten_0 {X : a_X} {ad : Nat → Nat} {ca : Nat → ClassId} {d : Nat} {kc ks : Nat} {QF : List Frame → Array Value → State → State → Prop} {x : Nat} {M : a_M}   (hF : WA X ad ca LY RX8 cX8_flatten 5 none (d + 1) kc ks QF 2 [(0, .ref 23), (1, .int 1)] [] M (PT x)) : WA X ad ca LY RX8 cX8_flatten 5 none (d + 1) kc ks QF 0 [(0, .ref 23)] [] M (PT x) := by
  refine wa_iconst (v := 1) dX8_flatten_0 rfl ?_
  refine wa_istore_n (lv' := [(1, .int 1), (0, .ref 23)]) dX8_flatten_1 rfl rfl rfl ?_
  exact wa_pick [1, 0] rfl hF

theorem bX8_flatten_2 {X : a_X} {ad : Nat → Nat} {ca : Nat → ClassId} {d : Nat} {Post : Option Value → a_M → a_P → Prop} {x : Nat} {M : a_M} (x1 : Int32)  (hF : (((M 23 9) ≤ (x1 + 1) → Post none M (PT x)) ∧ (¬ (M 23 9) ≤ (x1 + 1) → (∃ Q1 : Int32 → a_M → Prop, Mt X ad ca LY d yX8_pivotFor cX8_pivotFor 3 (some FieldType.int) [.ref 23, .int x1] M (PT x) (q_i (PT x) Q1) ∧ ∀ v1 M1, Q1 v1 M1 → ((v1 = (-1) → WA X ad ca LY RX8 cX8_flatten 5 none (d + 1) 0 0 (a_E X ad ca LY Post) 102 [(0, .ref 23), (1, .int x1)] [] M1 (PT x)) ∧ (¬ v1 = (-1) → (∃ Q2 : a_M → Prop, Mt X ad ca LY d yX8_swapBoth cX8_swapBoth 4 none [.ref 23, .int x1, .int v1] M1 (PT x) (q_v (PT x) Q2) ∧ ∀ M2, Q2 M2 → WA X ad ca LY RX8 cX8_flatten 5 none (d + 1) 0 0 (a_E X ad ca LY Post) 33 [(0, .ref 23), (1, .int x1), (3, .int (x1 + 1))] [] M2 (PT x)))))))) : WA X ad ca LY RX8 cX8_flatten 5 none (d + 1) 0 0 (a_E X ad ca LY Post) 2 [(0, .ref 23), (1, .int x1)] [] M (PT x) := by
  refine wa_iload_n dX8_flatten_2 1 rfl rfl ?_
  refine wa_iconst (v := 1) dX8_flatten_3 rfl ?_
  refine wa_iadd dX8_flatten_4 ?_
  refine wa_aload_n dX8_flatten_5 0 rfl rfl ?_
  refine wb_geti (v := M 23 9) dX8_flatten_6 fkX8_41 rfl rfl rfl ?_
  refine wa_icmp_ge (tgt := 108) dX8_flatten_9 rfl (fun hc => ?_) (fun hc => ?_)
  · replace hF := hF.1 hc
    exact wa_vret dX8_flatten_108 rfl hF
  · replace hF := hF.2 hc
    refine wa_aload_n dX8_flatten_12 0 rfl rfl ?_
    refine wa_iload_n dX8_flatten_13 1 rfl rfl ?_
    obtain ⟨Q1, hM9, hF⟩ := hF
    refine wa_callV [.int x1] dX8_flatten_14 (mmX8_pivotFor _ _) mlX8_75 mnX8_pivotFor mseX8_pivotFor rfl rfl rfl rfl (a_dlt d) rfl rfl hM9 ?_
    rintro r9 M1 P9 ⟨v1, rfl, rfl, hq9⟩
    replace hF := hF v1 M1 hq9
    simp only [Option.toList, List.cons_append, List.nil_append]
    refine wa_istore_n (lv' := [(2, .int v1), (0, .ref 23), (1, .int x1)]) dX8_flatten_17 rfl rfl rfl ?_
    refine wa_iload_n dX8_flatten_18 0 rfl rfl ?_
    refine wa_iconst (v := (-1)) dX8_flatten_19 rfl ?_
    refine wa_icmp_eq (tgt := 102) dX8_flatten_20 rfl (fun hc => ?_) (fun hc => ?_)
    · replace hF := hF.1 hc
      exact wa_pick [1, 2] rfl hF
    · replace hF := hF.2 hc
      refine wa_aload_n dX8_flatten_23 1 rfl rfl ?_
      refine wa_iload_n dX8_flatten_24 2 rfl rfl ?_
      refine wa_iload_n dX8_flatten_25 0 rfl rfl ?_
      obtain ⟨Q2, hM9, hF⟩ := hF
      refine wa_callV [.int x1, .int v1] dX8_flatten_26 (mmX8_swapBoth _ _) mlX8_79 mnX8_swapBoth mseX8_swapBoth rfl rfl rfl rfl (a_dlt d) rfl rfl hM9 ?_
      rintro r9 M2 P9 ⟨rfl, rfl, hq9⟩
      replace hF := hF M2 hq9
      simp only [Option.toList, List.nil_append]
      refine wa_iload_n dX8_flatten_29 2 rfl rfl ?_
      refine wa_iconst (v := 1) dX8_flatten_30 rfl ?_
      refine wa_iadd dX8_flatten_31 ?_
      refine wa_istore_n (lv' := [(3, .int (x1 + 1)), (2, .int v1), (0, .ref 23), (1, .int x1)]) dX8_flatten_32 rfl rfl rfl ?_
      exact wa_pick [2, 3, 0] rfl hF

theorem bX8_flatten_33 {X : a_X} {ad : Nat → Nat} {ca : Nat → ClassId} {d : Nat} {kc ks : Nat} {QF : List Frame → Array Value → State → State → Prop} {x : Nat} {M : a_M} (x1 : Int32) (x3 : Int32)  (hF : (((M 23 9) ≤ x3 → WA X ad ca LY RX8 cX8_flatten 5 none (d + 1) kc ks QF 102 [(0, .ref 23), (1, .int x1)] [] M (PT x)) ∧ (¬ (M 23 9) ≤ x3 → (vp_in (((x3 * (M 23 9)) + x1) - 1) 1225 ∧ (vp_in (((x1 * (M 23 9)) + x1) - 1) 1225 ∧ (∃ Q1 : Int32 → a_M → Prop, Mt X ad ca LY d yX11_over cX11_over 3 (some FieldType.int) [.int (M 25 ((((x3 * (M 23 9)) + x1) - 1).toNatClampNeg)), .int (M 25 ((((x1 * (M 23 9)) + x1) - 1).toNatClampNeg)), .int (M 24 2)] M (PT x) (q_i (PT x) Q1) ∧ ∀ v1 M1, Q1 v1 M1 → ((v1 = 0 → WA X ad ca LY RX8 cX8_flatten 5 none (d + 1) kc ks QF 96 [(0, .ref 23), (1, .int x1), (3, .int x3)] [] M1 (PT x)) ∧ (¬ v1 = 0 → (∃ Q2 : a_M → Prop, Mt X ad ca LY d yX8_takeRowOff cX8_takeRowOff 5 none [.ref 23, .int x1, .int x3, .int v1] M1 (PT x) (q_v (PT x) Q2) ∧ ∀ M2, Q2 M2 → WA X ad ca LY RX8 cX8_flatten 5 none (d + 1) kc ks QF 96 [(0, .ref 23), (1, .int x1), (3, .int x3)] [] M2 (PT x)))))))))) : WA X ad ca LY RX8 cX8_flatten 5 none (d + 1) kc ks QF 33 [(0, .ref 23), (1, .int x1), (3, .int x3)] [] M (PT x) := by
  refine wa_iload_n dX8_flatten_33 2 rfl rfl ?_
  refine wa_aload_n dX8_flatten_34 0 rfl rfl ?_
  refine wb_geti (v := M 23 9) dX8_flatten_35 fkX8_41 rfl rfl rfl ?_
  refine wa_icmp_ge (tgt := 102) dX8_flatten_38 rfl (fun hc => ?_) (fun hc => ?_)
  · replace hF := hF.1 hc
    exact wa_pick [0, 1] rfl hF
  · replace hF := hF.2 hc
    refine wa_aload_n dX8_flatten_41 0 rfl rfl ?_
    refine wa_getr (r := 25) dX8_flatten_42 fkX8_25 rfl rfl rfl ?_
    refine wa_iload_n dX8_flatten_45 2 rfl rfl ?_
    refine wa_aload_n dX8_flatten_46 0 rfl rfl ?_
    refine wb_geti (v := M 23 9) dX8_flatten_47 fkX8_41 rfl rfl rfl ?_
    refine wa_imul dX8_flatten_50 ?_
    refine wa_iload_n dX8_flatten_51 1 rfl rfl ?_
    refine wa_iadd dX8_flatten_52 ?_
    refine wa_iconst (v := 1) dX8_flatten_53 rfl ?_
    refine wa_isub dX8_flatten_54 ?_
    obtain ⟨hi9, hF⟩ := hF
    refine wb_iald (j := (((x3 * (M 23 9)) + x1) - 1).toNatClampNeg) (v := M 25 ((((x3 * (M 23 9)) + x1) - 1).toNatClampNeg)) dX8_flatten_55 rfl hi9 rfl rfl ?_
    refine wa_aload_n dX8_flatten_56 0 rfl rfl ?_
    refine wa_getr (r := 25) dX8_flatten_57 fkX8_25 rfl rfl rfl ?_
    refine wa_iload_n dX8_flatten_60 1 rfl rfl ?_
    refine wa_aload_n dX8_flatten_61 0 rfl rfl ?_
    refine wb_geti (v := M 23 9) dX8_flatten_62 fkX8_41 rfl rfl rfl ?_
    refine wa_imul dX8_flatten_65 ?_
    refine wa_iload_n dX8_flatten_66 1 rfl rfl ?_
    refine wa_iadd dX8_flatten_67 ?_
    refine wa_iconst (v := 1) dX8_flatten_68 rfl ?_
    refine wa_isub dX8_flatten_69 ?_
    obtain ⟨hi9, hF⟩ := hF
    refine wb_iald (j := (((x1 * (M 23 9)) + x1) - 1).toNatClampNeg) (v := M 25 ((((x1 * (M 23 9)) + x1) - 1).toNatClampNeg)) dX8_flatten_70 rfl hi9 rfl rfl ?_
    refine wa_aload_n dX8_flatten_71 0 rfl rfl ?_
    refine wa_getr (r := 24) dX8_flatten_72 fkX8_12 rfl rfl rfl ?_
    refine wb_geti (v := M 24 2) dX8_flatten_75 fkX8_83 rfl rfl rfl ?_
    obtain ⟨Q1, hM9, hF⟩ := hF
    refine wa_callSN [.int (M 25 ((((x3 * (M 23 9)) + x1) - 1).toNatClampNeg)), .int (M 25 ((((x1 * (M 23 9)) + x1) - 1).toNatClampNeg)), .int (M 24 2)] dX8_flatten_78 (mmX11_over _ _) mkX8_86 mstX11_over rfl (a_dlt d) rfl rfl hM9 ?_
    rintro r9 M1 P9 ⟨v1, rfl, rfl, hq9⟩
    replace hF := hF v1 M1 hq9
    simp only [Option.toList, List.cons_append, List.nil_append]
    refine wa_istore (lv' := [(4, .int v1), (0, .ref 23), (1, .int x1), (3, .int x3)]) dX8_flatten_81 rfl rfl ?_
    refine wa_iload dX8_flatten_83 0 rfl ?_
    refine wa_if_eq (tgt := 96) dX8_flatten_85 rfl (fun hc => ?_) (fun hc => ?_)
    · replace hF := hF.1 hc
      exact wa_pick [1, 2, 3] rfl hF
    · replace hF := hF.2 hc
      refine wa_aload_n dX8_flatten_88 1 rfl rfl ?_
      refine wa_iload_n dX8_flatten_89 2 rfl rfl ?_
      refine wa_iload_n dX8_flatten_90 3 rfl rfl ?_
      refine wa_iload dX8_flatten_91 0 rfl ?_
      obtain ⟨Q2, hM9, hF⟩ := hF
      refine wa_callV [.int x1, .int x3, .int v1] dX8_flatten_93 (mmX8_takeRowOff _ _) mlX8_90 mnX8_takeRowOff mseX8_takeRowOff rfl rfl rfl rfl (a_dlt d) rfl rfl hM9 ?_
      rintro r9 M2 P9 ⟨rfl, rfl, hq9⟩
      replace hF := hF M2 hq9
      simp only [Option.toList, List.nil_append]
      exact wa_pick [1, 2, 3] rfl hF

theorem bX8_flatten_96 {X : a_X} {ad : Nat → Nat} {ca : Nat → ClassId} {d : Nat} {kc ks : Nat} {QF : List Frame → Array Value → State → State → Prop} {x : Nat} {M : a_M} (x1 : Int32) (x3 : Int32)  (hF : WA X ad ca LY RX8 cX8_flatten 5 none (d + 1) kc ks QF 33 [(0, .ref 23), (1, .int x1), (3, .int (x3 + 1))] [] M (PT x)) : WA X ad ca LY RX8 cX8_flatten 5 none (d + 1) kc ks QF 96 [(0, .ref 23), (1, .int x1), (3, .int x3)] [] M (PT x) := by
  refine wa_iinc (v := x3 + 1) (lv' := [(3, .int (x3 + 1)), (0, .ref 23), (1, .int x1)]) dX8_flatten_96 2 rfl rfl rfl rfl ?_
  refine wa_goto (tgt := 33) dX8_flatten_99 rfl ?_
  exact wa_pick [1, 2, 0] rfl hF

theorem bX8_flatten_102 {X : a_X} {ad : Nat → Nat} {ca : Nat → ClassId} {d : Nat} {kc ks : Nat} {QF : List Frame → Array Value → State → State → Prop} {x : Nat} {M : a_M} (x1 : Int32)  (hF : WA X ad ca LY RX8 cX8_flatten 5 none (d + 1) kc ks QF 2 [(0, .ref 23), (1, .int (x1 + 1))] [] M (PT x)) : WA X ad ca LY RX8 cX8_flatten 5 none (d + 1) kc ks QF 102 [(0, .ref 23), (1, .int x1)] [] M (PT x) := by
  refine wa_iinc (v := x1 + 1) (lv' := [(1, .int (x1 + 1)), (0, .ref 23)]) dX8_flatten_102 1 rfl rfl rfl rfl ?_
  refine wa_goto (tgt := 2) dX8_flatten_105 rfl ?_
  exact wa_pick [1, 0] rfl hF

theorem eX8_flatten {X : a_X} {ad : Nat → Nat} {ca : Nat → ClassId} {d : Nat} {Post : Option Value → a_M → a_P → Prop} {x : Nat} {M : a_M}  (h : WA X ad ca LY RX8 cX8_flatten 5 none d 0 0 (a_E X ad ca LY Post) 0 [(0, .ref 23)] [] M (PT x)) : Mt X ad ca LY d yX8_flatten cX8_flatten 5 none [.ref 23] M (PT x) Post := Mt.of (lv := [(0, .ref 23)]) (by decide +kernel) rfl rfl rfl (wa_pick [0] rfl h)

theorem bX8_pivotFor_0 {X : a_X} {ad : Nat → Nat} {ca : Nat → ClassId} {d : Nat} {kc ks : Nat} {QF : List Frame → Array Value → State → State → Prop} {x : Nat} {M : a_M} (x1 : Int32)  (hF : WA X ad ca LY RX8 cX8_pivotFor 3 (some FieldType.int) (d + 1) kc ks QF 2 [(0, .ref 23), (1, .int x1), (2, .int x1)] [] M (PT x)) : WA X ad ca LY RX8 cX8_pivotFor 3 (some FieldType.int) (d + 1) kc ks QF 0 [(0, .ref 23), (1, .int x1)] [] M (PT x) := by
  refine wa_iload_n dX8_pivotFor_0 1 rfl rfl ?_
  refine wa_istore_n (lv' := [(2, .int x1), (0, .ref 23), (1, .int x1)]) dX8_pivotFor_1 rfl rfl rfl ?_
  exact wa_pick [1, 2, 0] rfl hF

theorem bX8_pivotFor_2 {X : a_X} {ad : Nat → Nat} {ca : Nat → ClassId} {d : Nat} {Post : Option Value → a_M → a_P → Prop} {x : Nat} {M : a_M} (x1 : Int32) (x2 : Int32)  (hF : (((M 23 9) ≤ x2 → Post (some (.int (-1))) M (PT x)) ∧ (¬ (M 23 9) ≤ x2 → (vp_in (((x2 * (M 23 9)) + x1) - 1) 1225 ∧ (((M 25 ((((x2 * (M 23 9)) + x1) - 1).toNatClampNeg)) = 0 → WA X ad ca LY RX8 cX8_pivotFor 3 (some FieldType.int) (d + 1) 0 0 (a_E X ad ca LY Post) 2 [(0, .ref 23), (1, .int x1), (2, .int (x2 + 1))] [] M (PT x)) ∧ (¬ (M 25 ((((x2 * (M 23 9)) + x1) - 1).toNatClampNeg)) = 0 → Post (some (.int x2)) M (PT x))))))) : WA X ad ca LY RX8 cX8_pivotFor 3 (some FieldType.int) (d + 1) 0 0 (a_E X ad ca LY Post) 2 [(0, .ref 23), (1, .int x1), (2, .int x2)] [] M (PT x) := by
  refine wa_iload_n dX8_pivotFor_2 2 rfl rfl ?_
  refine wa_aload_n dX8_pivotFor_3 0 rfl rfl ?_
  refine wb_geti (v := M 23 9) dX8_pivotFor_4 fkX8_41 rfl rfl rfl ?_
  refine wa_icmp_ge (tgt := 36) dX8_pivotFor_7 rfl (fun hc => ?_) (fun hc => ?_)
  · replace hF := hF.1 hc
    refine wa_iconst (v := (-1)) dX8_pivotFor_36 rfl ?_
    exact wa_iret dX8_pivotFor_37 rfl rfl hF
  · replace hF := hF.2 hc
    refine wa_aload_n dX8_pivotFor_10 0 rfl rfl ?_
    refine wa_getr (r := 25) dX8_pivotFor_11 fkX8_25 rfl rfl rfl ?_
    refine wa_iload_n dX8_pivotFor_14 2 rfl rfl ?_
    refine wa_aload_n dX8_pivotFor_15 0 rfl rfl ?_
    refine wb_geti (v := M 23 9) dX8_pivotFor_16 fkX8_41 rfl rfl rfl ?_
    refine wa_imul dX8_pivotFor_19 ?_
    refine wa_iload_n dX8_pivotFor_20 1 rfl rfl ?_
    refine wa_iadd dX8_pivotFor_21 ?_
    refine wa_iconst (v := 1) dX8_pivotFor_22 rfl ?_
    refine wa_isub dX8_pivotFor_23 ?_
    obtain ⟨hi9, hF⟩ := hF
    refine wb_iald (j := (((x2 * (M 23 9)) + x1) - 1).toNatClampNeg) (v := M 25 ((((x2 * (M 23 9)) + x1) - 1).toNatClampNeg)) dX8_pivotFor_24 rfl hi9 rfl rfl ?_
    refine wa_if_eq (tgt := 30) dX8_pivotFor_25 rfl (fun hc => ?_) (fun hc => ?_)
    · replace hF := hF.1 hc
      refine wa_iinc (v := x2 + 1) (lv' := [(2, .int (x2 + 1)), (0, .ref 23), (1, .int x1)]) dX8_pivotFor_30 2 rfl rfl rfl rfl ?_
      refine wa_goto (tgt := 2) dX8_pivotFor_33 rfl ?_
      exact wa_pick [1, 2, 0] rfl hF
    · replace hF := hF.2 hc
      refine wa_iload_n dX8_pivotFor_28 2 rfl rfl ?_
      exact wa_iret dX8_pivotFor_29 rfl rfl hF

theorem eX8_pivotFor {X : a_X} {ad : Nat → Nat} {ca : Nat → ClassId} {d : Nat} {Post : Option Value → a_M → a_P → Prop} {x : Nat} {M : a_M} (x1 : Int32) (h : WA X ad ca LY RX8 cX8_pivotFor 3 (some FieldType.int) d 0 0 (a_E X ad ca LY Post) 0 [(0, .ref 23), (1, .int x1)] [] M (PT x)) : Mt X ad ca LY d yX8_pivotFor cX8_pivotFor 3 (some FieldType.int) [.ref 23, .int x1] M (PT x) Post := Mt.of (lv := [(0, .ref 23), (1, .int x1)]) (by decide +kernel) rfl rfl rfl (wa_pick [0, 1] rfl h)

theorem bX8_swapBoth_0 {X : a_X} {ad : Nat → Nat} {ca : Nat → ClassId} {d : Nat} {Post : Option Value → a_M → a_P → Prop} {x : Nat} {M : a_M} (x1 : Int32) (x2 : Int32)  (hF : ((¬ x2 = x1 → WA X ad ca LY RX8 cX8_swapBoth 4 none (d + 1) 0 0 (a_E X ad ca LY Post) 8 [(0, .ref 23), (1, .int x1), (2, .int x2), (3, .int 0)] [] M (PT x)) ∧ (x2 = x1 → Post none M (PT x)))) : WA X ad ca LY RX8 cX8_swapBoth 4 none (d + 1) 0 0 (a_E X ad ca LY Post) 0 [(0, .ref 23), (1, .int x1), (2, .int x2)] [] M (PT x) := by
  refine wa_iload_n dX8_swapBoth_0 2 rfl rfl ?_
  refine wa_iload_n dX8_swapBoth_1 1 rfl rfl ?_
  refine wa_icmp_ne (tgt := 6) dX8_swapBoth_2 rfl (fun hc => ?_) (fun hc => ?_)
  · replace hF := hF.1 hc
    refine wa_iconst (v := 0) dX8_swapBoth_6 rfl ?_
    refine wa_istore_n (lv' := [(3, .int 0), (0, .ref 23), (1, .int x1), (2, .int x2)]) dX8_swapBoth_7 rfl rfl rfl ?_
    exact wa_pick [1, 2, 3, 0] rfl hF
  · replace hF := hF.2 hc
    exact wa_vret dX8_swapBoth_5 rfl hF

theorem bX8_swapBoth_8 {X : a_X} {ad : Nat → Nat} {ca : Nat → ClassId} {d : Nat} {kc ks : Nat} {QF : List Frame → Array Value → State → State → Prop} {x : Nat} {M : a_M} (x1 : Int32) (x2 : Int32) (x3 : Int32)  (hF : (((M 23 9) ≤ x3 → WA X ad ca LY RX8 cX8_swapBoth 4 none (d + 1) kc ks QF 44 [(0, .ref 23), (1, .int x1), (2, .int x2), (3, .int 0)] [] M (PT x)) ∧ (¬ (M 23 9) ≤ x3 → (∃ Q1 : a_M → Prop, Mt X ad ca LY d yX8_swapCells cX8_swapCells 4 none [.ref 23, .int ((x1 * (M 23 9)) + x3), .int ((x2 * (M 23 9)) + x3)] M (PT x) (q_v (PT x) Q1) ∧ ∀ M1, Q1 M1 → WA X ad ca LY RX8 cX8_swapBoth 4 none (d + 1) kc ks QF 8 [(0, .ref 23), (1, .int x1), (2, .int x2), (3, .int (x3 + 1))] [] M1 (PT x))))) : WA X ad ca LY RX8 cX8_swapBoth 4 none (d + 1) kc ks QF 8 [(0, .ref 23), (1, .int x1), (2, .int x2), (3, .int x3)] [] M (PT x) := by
  refine wa_iload_n dX8_swapBoth_8 3 rfl rfl ?_
  refine wa_aload_n dX8_swapBoth_9 0 rfl rfl ?_
  refine wb_geti (v := M 23 9) dX8_swapBoth_10 fkX8_41 rfl rfl rfl ?_
  refine wa_icmp_ge (tgt := 42) dX8_swapBoth_13 rfl (fun hc => ?_) (fun hc => ?_)
  · replace hF := hF.1 hc
    refine wa_iconst (v := 0) dX8_swapBoth_42 rfl ?_
    refine wa_istore_n (lv' := [(3, .int 0), (0, .ref 23), (1, .int x1), (2, .int x2)]) dX8_swapBoth_43 rfl rfl rfl ?_
    exact wa_pick [1, 2, 3, 0] rfl hF
  · replace hF := hF.2 hc
    refine wa_aload_n dX8_swapBoth_16 0 rfl rfl ?_
    refine wa_iload_n dX8_swapBoth_17 1 rfl rfl ?_
    refine wa_aload_n dX8_swapBoth_18 0 rfl rfl ?_
    refine wb_geti (v := M 23 9) dX8_swapBoth_19 fkX8_41 rfl rfl rfl ?_
    refine wa_imul dX8_swapBoth_22 ?_
    refine wa_iload_n dX8_swapBoth_23 3 rfl rfl ?_
    refine wa_iadd dX8_swapBoth_24 ?_
    refine wa_iload_n dX8_swapBoth_25 2 rfl rfl ?_
    refine wa_aload_n dX8_swapBoth_26 0 rfl rfl ?_
    refine wb_geti (v := M 23 9) dX8_swapBoth_27 fkX8_41 rfl rfl rfl ?_
    refine wa_imul dX8_swapBoth_30 ?_
    refine wa_iload_n dX8_swapBoth_31 3 rfl rfl ?_
    refine wa_iadd dX8_swapBoth_32 ?_
    obtain ⟨Q1, hM9, hF⟩ := hF
    refine wa_callV [.int ((x1 * (M 23 9)) + x3), .int ((x2 * (M 23 9)) + x3)] dX8_swapBoth_33 (mmX8_swapCells _ _) mlX8_94 mnX8_swapCells mseX8_swapCells rfl rfl rfl rfl (a_dlt d) rfl rfl hM9 ?_
    rintro r9 M1 P9 ⟨rfl, rfl, hq9⟩
    replace hF := hF M1 hq9
    simp only [Option.toList, List.nil_append]
    refine wa_iinc (v := x3 + 1) (lv' := [(3, .int (x3 + 1)), (0, .ref 23), (1, .int x1), (2, .int x2)]) dX8_swapBoth_36 3 rfl rfl rfl rfl ?_
    refine wa_goto (tgt := 8) dX8_swapBoth_39 rfl ?_
    exact wa_pick [1, 2, 3, 0] rfl hF

theorem bX8_swapBoth_44 {X : a_X} {ad : Nat → Nat} {ca : Nat → ClassId} {d : Nat} {Post : Option Value → a_M → a_P → Prop} {x : Nat} {M : a_M} (x1 : Int32) (x2 : Int32) (x3 : Int32)  (hF : (((M 23 9) ≤ x3 → Post none M (PT x)) ∧ (¬ (M 23 9) ≤ x3 → (∃ Q1 : a_M → Prop, Mt X ad ca LY d yX8_swapCells cX8_swapCells 4 none [.ref 23, .int ((x3 * (M 23 9)) + x1), .int ((x3 * (M 23 9)) + x2)] M (PT x) (q_v (PT x) Q1) ∧ ∀ M1, Q1 M1 → WA X ad ca LY RX8 cX8_swapBoth 4 none (d + 1) 0 0 (a_E X ad ca LY Post) 44 [(0, .ref 23), (1, .int x1), (2, .int x2), (3, .int (x3 + 1))] [] M1 (PT x))))) : WA X ad ca LY RX8 cX8_swapBoth 4 none (d + 1) 0 0 (a_E X ad ca LY Post) 44 [(0, .ref 23), (1, .int x1), (2, .int x2), (3, .int x3)] [] M (PT x) := by
  refine wa_iload_n dX8_swapBoth_44 3 rfl rfl ?_
  refine wa_aload_n dX8_swapBoth_45 0 rfl rfl ?_
  refine wb_geti (v := M 23 9) dX8_swapBoth_46 fkX8_41 rfl rfl rfl ?_
  refine wa_icmp_ge (tgt := 78) dX8_swapBoth_49 rfl (fun hc => ?_) (fun hc => ?_)
  · replace hF := hF.1 hc
    exact wa_vret dX8_swapBoth_78 rfl hF
  · replace hF := hF.2 hc
    refine wa_aload_n dX8_swapBoth_52 0 rfl rfl ?_
    refine wa_iload_n dX8_swapBoth_53 3 rfl rfl ?_
    refine wa_aload_n dX8_swapBoth_54 0 rfl rfl ?_
    refine wb_geti (v := M 23 9) dX8_swapBoth_55 fkX8_41 rfl rfl rfl ?_
    refine wa_imul dX8_swapBoth_58 ?_
    refine wa_iload_n dX8_swapBoth_59 1 rfl rfl ?_
    refine wa_iadd dX8_swapBoth_60 ?_
    refine wa_iload_n dX8_swapBoth_61 3 rfl rfl ?_
    refine wa_aload_n dX8_swapBoth_62 0 rfl rfl ?_
    refine wb_geti (v := M 23 9) dX8_swapBoth_63 fkX8_41 rfl rfl rfl ?_
    refine wa_imul dX8_swapBoth_66 ?_
    refine wa_iload_n dX8_swapBoth_67 2 rfl rfl ?_
    refine wa_iadd dX8_swapBoth_68 ?_
    obtain ⟨Q1, hM9, hF⟩ := hF
    refine wa_callV [.int ((x3 * (M 23 9)) + x1), .int ((x3 * (M 23 9)) + x2)] dX8_swapBoth_69 (mmX8_swapCells _ _) mlX8_94 mnX8_swapCells mseX8_swapCells rfl rfl rfl rfl (a_dlt d) rfl rfl hM9 ?_
    rintro r9 M1 P9 ⟨rfl, rfl, hq9⟩
    replace hF := hF M1 hq9
    simp only [Option.toList, List.nil_append]
    refine wa_iinc (v := x3 + 1) (lv' := [(3, .int (x3 + 1)), (0, .ref 23), (1, .int x1), (2, .int x2)]) dX8_swapBoth_72 3 rfl rfl rfl rfl ?_
    refine wa_goto (tgt := 44) dX8_swapBoth_75 rfl ?_
    exact wa_pick [1, 2, 3, 0] rfl hF

theorem eX8_swapBoth {X : a_X} {ad : Nat → Nat} {ca : Nat → ClassId} {d : Nat} {Post : Option Value → a_M → a_P → Prop} {x : Nat} {M : a_M} (x1 : Int32) (x2 : Int32) (h : WA X ad ca LY RX8 cX8_swapBoth 4 none d 0 0 (a_E X ad ca LY Post) 0 [(0, .ref 23), (1, .int x1), (2, .int x2)] [] M (PT x)) : Mt X ad ca LY d yX8_swapBoth cX8_swapBoth 4 none [.ref 23, .int x1, .int x2] M (PT x) Post := Mt.of (lv := [(0, .ref 23), (1, .int x1), (2, .int x2)]) (by decide +kernel) rfl rfl rfl (wa_pick [0, 1, 2] rfl h)

theorem bX8_swapCells_0 {X : a_X} {ad : Nat → Nat} {ca : Nat → ClassId} {d : Nat} {Post : Option Value → a_M → a_P → Prop} {x : Nat} {M : a_M} (x1 : Int32) (x2 : Int32)  (hF : (vp_in x1 1225 ∧ (vp_in x2 1225 ∧ (vp_in x1 1225 ∧ (vp_in x2 1225 ∧ Post none (ms (ms M 25 x1.toNatClampNeg (M 25 x2.toNatClampNeg)) 25 x2.toNatClampNeg (M 25 x1.toNatClampNeg)) (PT x)))))) : WA X ad ca LY RX8 cX8_swapCells 4 none (d + 1) 0 0 (a_E X ad ca LY Post) 0 [(0, .ref 23), (1, .int x1), (2, .int x2)] [] M (PT x) := by
  refine wa_aload_n dX8_swapCells_0 0 rfl rfl ?_
  refine wa_getr (r := 25) dX8_swapCells_1 fkX8_25 rfl rfl rfl ?_
  refine wa_iload_n dX8_swapCells_4 1 rfl rfl ?_
  obtain ⟨hi9, hF⟩ := hF
  refine wb_iald (j := x1.toNatClampNeg) (v := M 25 x1.toNatClampNeg) dX8_swapCells_5 rfl hi9 rfl rfl ?_
  refine wa_istore_n (lv' := [(3, .int (M 25 x1.toNatClampNeg)), (0, .ref 23), (1, .int x1), (2, .int x2)]) dX8_swapCells_6 rfl rfl rfl ?_
  refine wa_aload_n dX8_swapCells_7 1 rfl rfl ?_
  refine wa_getr (r := 25) dX8_swapCells_8 fkX8_25 rfl rfl rfl ?_
  refine wa_iload_n dX8_swapCells_11 2 rfl rfl ?_
  refine wa_aload_n dX8_swapCells_12 1 rfl rfl ?_
  refine wa_getr (r := 25) dX8_swapCells_13 fkX8_25 rfl rfl rfl ?_
  refine wa_iload_n dX8_swapCells_16 3 rfl rfl ?_
  obtain ⟨hi9, hF⟩ := hF
  refine wb_iald (j := x2.toNatClampNeg) (v := M 25 x2.toNatClampNeg) dX8_swapCells_17 rfl hi9 rfl rfl ?_
  obtain ⟨hi9, hF⟩ := hF
  refine wb_iast (j := x1.toNatClampNeg) dX8_swapCells_18 rfl hi9 rfl ?_
  refine wa_aload_n dX8_swapCells_19 1 rfl rfl ?_
  refine wa_getr (r := 25) dX8_swapCells_20 fkX8_25 rfl rfl rfl ?_
  refine wa_iload_n dX8_swapCells_23 3 rfl rfl ?_
  refine wa_iload_n dX8_swapCells_24 0 rfl rfl ?_
  obtain ⟨hi9, hF⟩ := hF
  refine wb_iast (j := x2.toNatClampNeg) dX8_swapCells_25 rfl hi9 rfl ?_
  exact wa_vret dX8_swapCells_26 rfl hF

theorem eX8_swapCells {X : a_X} {ad : Nat → Nat} {ca : Nat → ClassId} {d : Nat} {Post : Option Value → a_M → a_P → Prop} {x : Nat} {M : a_M} (x1 : Int32) (x2 : Int32) (h : WA X ad ca LY RX8 cX8_swapCells 4 none d 0 0 (a_E X ad ca LY Post) 0 [(0, .ref 23), (1, .int x1), (2, .int x2)] [] M (PT x)) : Mt X ad ca LY d yX8_swapCells cX8_swapCells 4 none [.ref 23, .int x1, .int x2] M (PT x) Post := Mt.of (lv := [(0, .ref 23), (1, .int x1), (2, .int x2)]) (by decide +kernel) rfl rfl rfl (wa_pick [0, 1, 2] rfl h)

theorem bX8_takeRowOff_0 {X : a_X} {ad : Nat → Nat} {ca : Nat → ClassId} {d : Nat} {kc ks : Nat} {QF : List Frame → Array Value → State → State → Prop} {x : Nat} {M : a_M} (x1 : Int32) (x2 : Int32) (x3 : Int32)  (hF : WA X ad ca LY RX8 cX8_takeRowOff 5 none (d + 1) kc ks QF 5 [(0, .ref 23), (1, .int x1), (2, .int x2), (3, .int x3), (4, .int (x1 - 1))] [] M (PT x)) : WA X ad ca LY RX8 cX8_takeRowOff 5 none (d + 1) kc ks QF 0 [(0, .ref 23), (1, .int x1), (2, .int x2), (3, .int x3)] [] M (PT x) := by
  refine wa_iload_n dX8_takeRowOff_0 1 rfl rfl ?_
  refine wa_iconst (v := 1) dX8_takeRowOff_1 rfl ?_
  refine wa_isub dX8_takeRowOff_2 ?_
  refine wa_istore (lv' := [(4, .int (x1 - 1)), (0, .ref 23), (1, .int x1), (2, .int x2), (3, .int x3)]) dX8_takeRowOff_3 rfl rfl ?_
  exact wa_pick [1, 2, 3, 4, 0] rfl hF

theorem bX8_takeRowOff_5 {X : a_X} {ad : Nat → Nat} {ca : Nat → ClassId} {d : Nat} {kc ks : Nat} {QF : List Frame → Array Value → State → State → Prop} {x : Nat} {M : a_M} (x1 : Int32) (x2 : Int32) (x3 : Int32) (x4 : Int32)  (hF : (((M 23 9) ≤ x4 → WA X ad ca LY RX8 cX8_takeRowOff 5 none (d + 1) kc ks QF 78 [(0, .ref 23), (1, .int x1), (2, .int x2), (3, .int x3), (4, .int 0)] [] M (PT x)) ∧ (¬ (M 23 9) ≤ x4 → (vp_in ((x2 * (M 23 9)) + x4) 1225 ∧ (vp_in ((x1 * (M 23 9)) + x4) 1225 ∧ (∃ Q1 : Int32 → a_M → Prop, Mt X ad ca LY d yX11_left cX11_left 3 (some FieldType.int) [.int ((M 25 (((x2 * (M 23 9)) + x4).toNatClampNeg)) - (x3 * (M 25 (((x1 * (M 23 9)) + x4).toNatClampNeg)))), .int (M 24 2)] M (PT x) (q_i (PT x) Q1) ∧ ∀ v1 M1, Q1 v1 M1 → (vp_in ((x2 * (M 23 9)) + x4) 1225 ∧ WA X ad ca LY RX8 cX8_takeRowOff 5 none (d + 1) kc ks QF 5 [(0, .ref 23), (1, .int x1), (2, .int x2), (3, .int x3), (4, .int (x4 + 1))] [] (ms M1 25 (((x2 * (M 23 9)) + x4).toNatClampNeg) v1) (PT x)))))))) : WA X ad ca LY RX8 cX8_takeRowOff 5 none (d + 1) kc ks QF 5 [(0, .ref 23), (1, .int x1), (2, .int x2), (3, .int x3), (4, .int x4)] [] M (PT x) := by
  refine wa_iload dX8_takeRowOff_5 4 rfl ?_
  refine wa_aload_n dX8_takeRowOff_7 0 rfl rfl ?_
  refine wb_geti (v := M 23 9) dX8_takeRowOff_8 fkX8_41 rfl rfl rfl ?_
  refine wa_icmp_ge (tgt := 75) dX8_takeRowOff_11 rfl (fun hc => ?_) (fun hc => ?_)
  · replace hF := hF.1 hc
    refine wa_iconst (v := 0) dX8_takeRowOff_75 rfl ?_
    refine wa_istore (lv' := [(4, .int 0), (0, .ref 23), (1, .int x1), (2, .int x2), (3, .int x3)]) dX8_takeRowOff_76 rfl rfl ?_
    exact wa_pick [1, 2, 3, 4, 0] rfl hF
  · replace hF := hF.2 hc
    refine wa_aload_n dX8_takeRowOff_14 0 rfl rfl ?_
    refine wa_getr (r := 25) dX8_takeRowOff_15 fkX8_25 rfl rfl rfl ?_
    refine wa_iload_n dX8_takeRowOff_18 2 rfl rfl ?_
    refine wa_aload_n dX8_takeRowOff_19 0 rfl rfl ?_
    refine wb_geti (v := M 23 9) dX8_takeRowOff_20 fkX8_41 rfl rfl rfl ?_
    refine wa_imul dX8_takeRowOff_23 ?_
    refine wa_iload dX8_takeRowOff_24 4 rfl ?_
    refine wa_iadd dX8_takeRowOff_26 ?_
    refine wa_aload_n dX8_takeRowOff_27 0 rfl rfl ?_
    refine wa_getr (r := 25) dX8_takeRowOff_28 fkX8_25 rfl rfl rfl ?_
    refine wa_iload_n dX8_takeRowOff_31 2 rfl rfl ?_
    refine wa_aload_n dX8_takeRowOff_32 0 rfl rfl ?_
    refine wb_geti (v := M 23 9) dX8_takeRowOff_33 fkX8_41 rfl rfl rfl ?_
    refine wa_imul dX8_takeRowOff_36 ?_
    refine wa_iload dX8_takeRowOff_37 4 rfl ?_
    refine wa_iadd dX8_takeRowOff_39 ?_
    obtain ⟨hi9, hF⟩ := hF
    refine wb_iald (j := ((x2 * (M 23 9)) + x4).toNatClampNeg) (v := M 25 (((x2 * (M 23 9)) + x4).toNatClampNeg)) dX8_takeRowOff_40 rfl hi9 rfl rfl ?_
    refine wa_iload_n dX8_takeRowOff_41 3 rfl rfl ?_
    refine wa_aload_n dX8_takeRowOff_42 0 rfl rfl ?_
    refine wa_getr (r := 25) dX8_takeRowOff_43 fkX8_25 rfl rfl rfl ?_
    refine wa_iload_n dX8_takeRowOff_46 1 rfl rfl ?_
    refine wa_aload_n dX8_takeRowOff_47 0 rfl rfl ?_
    refine wb_geti (v := M 23 9) dX8_takeRowOff_48 fkX8_41 rfl rfl rfl ?_
    refine wa_imul dX8_takeRowOff_51 ?_
    refine wa_iload dX8_takeRowOff_52 4 rfl ?_
    refine wa_iadd dX8_takeRowOff_54 ?_
    obtain ⟨hi9, hF⟩ := hF
    refine wb_iald (j := ((x1 * (M 23 9)) + x4).toNatClampNeg) (v := M 25 (((x1 * (M 23 9)) + x4).toNatClampNeg)) dX8_takeRowOff_55 rfl hi9 rfl rfl ?_
    refine wa_imul dX8_takeRowOff_56 ?_
    refine wa_isub dX8_takeRowOff_57 ?_
    refine wa_aload_n dX8_takeRowOff_58 0 rfl rfl ?_
    refine wa_getr (r := 24) dX8_takeRowOff_59 fkX8_12 rfl rfl rfl ?_
    refine wb_geti (v := M 24 2) dX8_takeRowOff_62 fkX8_83 rfl rfl rfl ?_
    obtain ⟨Q1, hM9, hF⟩ := hF
    refine wa_callSN [.int ((M 25 (((x2 * (M 23 9)) + x4).toNatClampNeg)) - (x3 * (M 25 (((x1 * (M 23 9)) + x4).toNatClampNeg)))), .int (M 24 2)] dX8_takeRowOff_65 (mmX11_left _ _) mkX8_97 mstX11_left rfl (a_dlt d) rfl rfl hM9 ?_
    rintro r9 M1 P9 ⟨v1, rfl, rfl, hq9⟩
    replace hF := hF v1 M1 hq9
    simp only [Option.toList, List.cons_append, List.nil_append]
    obtain ⟨hi9, hF⟩ := hF
    refine wb_iast (j := ((x2 * (M 23 9)) + x4).toNatClampNeg) dX8_takeRowOff_68 rfl hi9 rfl ?_
    refine wa_iinc (v := x4 + 1) (lv' := [(4, .int (x4 + 1)), (0, .ref 23), (1, .int x1), (2, .int x2), (3, .int x3)]) dX8_takeRowOff_69 4 rfl rfl rfl rfl ?_
    refine wa_goto (tgt := 5) dX8_takeRowOff_72 rfl ?_
    exact wa_pick [1, 2, 3, 4, 0] rfl hF

theorem bX8_takeRowOff_78 {X : a_X} {ad : Nat → Nat} {ca : Nat → ClassId} {d : Nat} {Post : Option Value → a_M → a_P → Prop} {x : Nat} {M : a_M} (x1 : Int32) (x2 : Int32) (x3 : Int32) (x4 : Int32)  (hF : (((M 23 9) ≤ x4 → Post none M (PT x)) ∧ (¬ (M 23 9) ≤ x4 → (vp_in ((x4 * (M 23 9)) + x1) 1225 ∧ (vp_in ((x4 * (M 23 9)) + x2) 1225 ∧ (∃ Q1 : Int32 → a_M → Prop, Mt X ad ca LY d yX11_left cX11_left 3 (some FieldType.int) [.int ((M 25 (((x4 * (M 23 9)) + x1).toNatClampNeg)) + (x3 * (M 25 (((x4 * (M 23 9)) + x2).toNatClampNeg)))), .int (M 24 2)] M (PT x) (q_i (PT x) Q1) ∧ ∀ v1 M1, Q1 v1 M1 → (vp_in ((x4 * (M 23 9)) + x1) 1225 ∧ WA X ad ca LY RX8 cX8_takeRowOff 5 none (d + 1) 0 0 (a_E X ad ca LY Post) 78 [(0, .ref 23), (1, .int x1), (2, .int x2), (3, .int x3), (4, .int (x4 + 1))] [] (ms M1 25 (((x4 * (M 23 9)) + x1).toNatClampNeg) v1) (PT x)))))))) : WA X ad ca LY RX8 cX8_takeRowOff 5 none (d + 1) 0 0 (a_E X ad ca LY Post) 78 [(0, .ref 23), (1, .int x1), (2, .int x2), (3, .int x3), (4, .int x4)] [] M (PT x) := by
  refine wa_iload dX8_takeRowOff_78 4 rfl ?_
  refine wa_aload_n dX8_takeRowOff_80 0 rfl rfl ?_
  refine wb_geti (v := M 23 9) dX8_takeRowOff_81 fkX8_41 rfl rfl rfl ?_
  refine wa_icmp_ge (tgt := 148) dX8_takeRowOff_84 rfl (fun hc => ?_) (fun hc => ?_)
  · replace hF := hF.1 hc
    exact wa_vret dX8_takeRowOff_148 rfl hF
  · replace hF := hF.2 hc
    refine wa_aload_n dX8_takeRowOff_87 0 rfl rfl ?_
    refine wa_getr (r := 25) dX8_takeRowOff_88 fkX8_25 rfl rfl rfl ?_
    refine wa_iload dX8_takeRowOff_91 4 rfl ?_
    refine wa_aload_n dX8_takeRowOff_93 0 rfl rfl ?_
    refine wb_geti (v := M 23 9) dX8_takeRowOff_94 fkX8_41 rfl rfl rfl ?_
    refine wa_imul dX8_takeRowOff_97 ?_
    refine wa_iload_n dX8_takeRowOff_98 1 rfl rfl ?_
    refine wa_iadd dX8_takeRowOff_99 ?_
    refine wa_aload_n dX8_takeRowOff_100 0 rfl rfl ?_
    refine wa_getr (r := 25) dX8_takeRowOff_101 fkX8_25 rfl rfl rfl ?_
    refine wa_iload dX8_takeRowOff_104 4 rfl ?_
    refine wa_aload_n dX8_takeRowOff_106 0 rfl rfl ?_
    refine wb_geti (v := M 23 9) dX8_takeRowOff_107 fkX8_41 rfl rfl rfl ?_
    refine wa_imul dX8_takeRowOff_110 ?_
    refine wa_iload_n dX8_takeRowOff_111 1 rfl rfl ?_
    refine wa_iadd dX8_takeRowOff_112 ?_
    obtain ⟨hi9, hF⟩ := hF
    refine wb_iald (j := ((x4 * (M 23 9)) + x1).toNatClampNeg) (v := M 25 (((x4 * (M 23 9)) + x1).toNatClampNeg)) dX8_takeRowOff_113 rfl hi9 rfl rfl ?_
    refine wa_iload_n dX8_takeRowOff_114 3 rfl rfl ?_
    refine wa_aload_n dX8_takeRowOff_115 0 rfl rfl ?_
    refine wa_getr (r := 25) dX8_takeRowOff_116 fkX8_25 rfl rfl rfl ?_
    refine wa_iload dX8_takeRowOff_119 4 rfl ?_
    refine wa_aload_n dX8_takeRowOff_121 0 rfl rfl ?_
    refine wb_geti (v := M 23 9) dX8_takeRowOff_122 fkX8_41 rfl rfl rfl ?_
    refine wa_imul dX8_takeRowOff_125 ?_
    refine wa_iload_n dX8_takeRowOff_126 2 rfl rfl ?_
    refine wa_iadd dX8_takeRowOff_127 ?_
    obtain ⟨hi9, hF⟩ := hF
    refine wb_iald (j := ((x4 * (M 23 9)) + x2).toNatClampNeg) (v := M 25 (((x4 * (M 23 9)) + x2).toNatClampNeg)) dX8_takeRowOff_128 rfl hi9 rfl rfl ?_
    refine wa_imul dX8_takeRowOff_129 ?_
    refine wa_iadd dX8_takeRowOff_130 ?_
    refine wa_aload_n dX8_takeRowOff_131 0 rfl rfl ?_
    refine wa_getr (r := 24) dX8_takeRowOff_132 fkX8_12 rfl rfl rfl ?_
    refine wb_geti (v := M 24 2) dX8_takeRowOff_135 fkX8_83 rfl rfl rfl ?_
    obtain ⟨Q1, hM9, hF⟩ := hF
    refine wa_callSN [.int ((M 25 (((x4 * (M 23 9)) + x1).toNatClampNeg)) + (x3 * (M 25 (((x4 * (M 23 9)) + x2).toNatClampNeg)))), .int (M 24 2)] dX8_takeRowOff_138 (mmX11_left _ _) mkX8_97 mstX11_left rfl (a_dlt d) rfl rfl hM9 ?_
    rintro r9 M1 P9 ⟨v1, rfl, rfl, hq9⟩
    replace hF := hF v1 M1 hq9
    simp only [Option.toList, List.cons_append, List.nil_append]
    obtain ⟨hi9, hF⟩ := hF
    refine wb_iast (j := ((x4 * (M 23 9)) + x1).toNatClampNeg) dX8_takeRowOff_141 rfl hi9 rfl ?_
    refine wa_iinc (v := x4 + 1) (lv' := [(4, .int (x4 + 1)), (0, .ref 23), (1, .int x1), (2, .int x2), (3, .int x3)]) dX8_takeRowOff_142 4 rfl rfl rfl rfl ?_
    refine wa_goto (tgt := 78) dX8_takeRowOff_145 rfl ?_
    exact wa_pick [1, 2, 3, 4, 0] rfl hF

theorem eX8_takeRowOff {X : a_X} {ad : Nat → Nat} {ca : Nat → ClassId} {d : Nat} {Post : Option Value → a_M → a_P → Prop} {x : Nat} {M : a_M} (x1 : Int32) (x2 : Int32) (x3 : Int32) (h : WA X ad ca LY RX8 cX8_takeRowOff 5 none d 0 0 (a_E X ad ca LY Post) 0 [(0, .ref 23), (1, .int x1), (2, .int x2), (3, .int x3)] [] M (PT x)) : Mt X ad ca LY d yX8_takeRowOff cX8_takeRowOff 5 none [.ref 23, .int x1, .int x2, .int x3] M (PT x) Post := Mt.of (lv := [(0, .ref 23), (1, .int x1), (2, .int x2), (3, .int x3)]) (by decide +kernel) rfl rfl rfl (wa_pick [0, 1, 2, 3] rfl h)

theorem bX8_findTerms_0 {X : a_X} {ad : Nat → Nat} {ca : Nat → ClassId} {d : Nat} {kc ks : Nat} {QF : List Frame → Array Value → State → State → Prop} {x : Nat} {M : a_M}   (hF : (∃ Q1 : a_M → Prop, Mt X ad ca LY d yX11_clear cX11_clear 2 none [.ref 26] M (PT x) (q_v (PT x) Q1) ∧ ∀ M1, Q1 M1 → WA X ad ca LY RX8 cX8_findTerms 4 none (d + 1) kc ks QF 16 [(0, .ref 23), (1, .int 0)] [] (ms M1 26 0 1) (PT x))) : WA X ad ca LY RX8 cX8_findTerms 4 none (d + 1) kc ks QF 0 [(0, .ref 23)] [] M (PT x) := by
  refine wa_aload_n dX8_findTerms_0 0 rfl rfl ?_
  refine wa_getr (r := 26) dX8_findTerms_1 fkX8_29 rfl rfl rfl ?_
  obtain ⟨Q1, hM9, hF⟩ := hF
  refine wa_callSN [.ref 26] dX8_findTerms_4 (mmX11_clear _ _) mkX8_101 mstX11_clear rfl (a_dlt d) rfl rfl hM9 ?_
  rintro r9 M1 P9 ⟨rfl, rfl, hq9⟩
  replace hF := hF M1 hq9
  simp only [Option.toList, List.nil_append]
  refine wa_aload_n dX8_findTerms_7 0 rfl rfl ?_
  refine wa_getr (r := 26) dX8_findTerms_8 fkX8_29 rfl rfl rfl ?_
  refine wa_iconst (v := 0) dX8_findTerms_11 rfl ?_
  refine wa_iconst (v := 1) dX8_findTerms_12 rfl ?_
  refine wb_iast (j := 0) dX8_findTerms_13 rfl (by unfold vp_in; decide) rfl ?_
  refine wa_iconst (v := 0) dX8_findTerms_14 rfl ?_
  refine wa_istore_n (lv' := [(1, .int 0), (0, .ref 23)]) dX8_findTerms_15 rfl rfl rfl ?_
  exact wa_pick [1, 0] rfl hF

theorem bX8_findTerms_16 {X : a_X} {ad : Nat → Nat} {ca : Nat → ClassId} {d : Nat} {Post : Option Value → a_M → a_P → Prop} {x : Nat} {M : a_M} (x1 : Int32)  (hF : (((M 23 9) ≤ x1 → (¬ ((M 23 9) * 36 : Int32) < 0 ∧ ¬ (0 : Int32) < 0 ∧ ¬ ((M 23 9) + 1 : Int32) < 0 ∧ ((M 23 9) * 36 : Int32).toNatClampNeg + ((M 23 9) + 1 : Int32).toNatClampNeg ≤ 1296 ∧ (0 : Int32).toNatClampNeg + ((M 23 9) + 1 : Int32).toNatClampNeg ≤ 36 ∧ Post none (va_up M 29 (va_cpy (M 26) (M 29) ((M 23 9) * 36 : Int32).toNatClampNeg (0 : Int32).toNatClampNeg ((M 23 9) + 1 : Int32).toNatClampNeg)) (PT x))) ∧ (¬ (M 23 9) ≤ x1 → WA X ad ca LY RX8 cX8_findTerms 4 none (d + 1) 0 0 (a_E X ad ca LY Post) 26 [(0, .ref 23), (1, .int x1), (2, .int 0)] [] M (PT x)))) : WA X ad ca LY RX8 cX8_findTerms 4 none (d + 1) 0 0 (a_E X ad ca LY Post) 16 [(0, .ref 23), (1, .int x1)] [] M (PT x) := by
  refine wa_iload_n dX8_findTerms_16 1 rfl rfl ?_
  refine wa_aload_n dX8_findTerms_17 0 rfl rfl ?_
  refine wb_geti (v := M 23 9) dX8_findTerms_18 fkX8_41 rfl rfl rfl ?_
  refine wa_icmp_ge (tgt := 156) dX8_findTerms_21 rfl (fun hc => ?_) (fun hc => ?_)
  · replace hF := hF.1 hc
    refine wa_aload_n dX8_findTerms_156 0 rfl rfl ?_
    refine wa_getr (r := 26) dX8_findTerms_157 fkX8_29 rfl rfl rfl ?_
    refine wa_aload_n dX8_findTerms_160 0 rfl rfl ?_
    refine wb_geti (v := M 23 9) dX8_findTerms_161 fkX8_41 rfl rfl rfl ?_
    refine wa_bipush (v := 36) dX8_findTerms_164 rfl ?_
    refine wa_imul dX8_findTerms_166 ?_
    refine wa_aload_n dX8_findTerms_167 0 rfl rfl ?_
    refine wa_getr (r := 29) dX8_findTerms_168 fkX8_38 rfl rfl rfl ?_
    refine wa_iconst (v := 0) dX8_findTerms_171 rfl ?_
    refine wa_aload_n dX8_findTerms_172 0 rfl rfl ?_
    refine wb_geti (v := M 23 9) dX8_findTerms_173 fkX8_41 rfl rfl rfl ?_
    refine wa_iconst (v := 1) dX8_findTerms_176 rfl ?_
    refine wa_iadd dX8_findTerms_177 ?_
    obtain ⟨h91, h92, h93, h94, h95, hF⟩ := hF
    refine wa_copy dX8_findTerms_178 mlX8_108 acn acs inJ10 rfl rfl h91 h92 h93 h94 h95 rfl ?_
    exact wa_vret dX8_findTerms_181 rfl hF
  · replace hF := hF.2 hc
    refine wa_iconst (v := 0) dX8_findTerms_24 rfl ?_
    refine wa_istore_n (lv' := [(2, .int 0), (0, .ref 23), (1, .int x1)]) dX8_findTerms_25 rfl rfl rfl ?_
    exact wa_pick [1, 2, 0] rfl hF

theorem bX8_findTerms_26 {X : a_X} {ad : Nat → Nat} {ca : Nat → ClassId} {d : Nat} {kc ks : Nat} {QF : List Frame → Array Value → State → State → Prop} {x : Nat} {M : a_M} (x1 : Int32) (x2 : Int32)  (hF : ((x1 < x2 → WA X ad ca LY RX8 cX8_findTerms 4 none (d + 1) kc ks QF 67 [(0, .ref 23), (1, .int x1), (2, .int 1), (3, .int x1)] [] M (PT x)) ∧ (¬ x1 < x2 → (vp_in ((x1 * 36) + x2) 1296 ∧ (vp_in ((((x1 + 1) * 36) + x2) + 1) 1296 ∧ WA X ad ca LY RX8 cX8_findTerms 4 none (d + 1) kc ks QF 26 [(0, .ref 23), (1, .int x1), (2, .int (x2 + 1))] [] (ms M 26 (((((x1 + 1) * 36) + x2) + 1).toNatClampNeg) (M 26 (((x1 * 36) + x2).toNatClampNeg))) (PT x)))))) : WA X ad ca LY RX8 cX8_findTerms 4 none (d + 1) kc ks QF 26 [(0, .ref 23), (1, .int x1), (2, .int x2)] [] M (PT x) := by
  refine wa_iload_n dX8_findTerms_26 2 rfl rfl ?_
  refine wa_iload_n dX8_findTerms_27 1 rfl rfl ?_
  refine wa_icmp_gt (tgt := 63) dX8_findTerms_28 rfl (fun hc => ?_) (fun hc => ?_)
  · replace hF := hF.1 hc
    refine wa_iconst (v := 1) dX8_findTerms_63 rfl ?_
    refine wa_istore_n (lv' := [(2, .int 1), (0, .ref 23), (1, .int x1)]) dX8_findTerms_64 rfl rfl rfl ?_
    refine wa_iload_n dX8_findTerms_65 2 rfl rfl ?_
    refine wa_istore_n (lv' := [(3, .int x1), (2, .int 1), (0, .ref 23), (1, .int x1)]) dX8_findTerms_66 rfl rfl rfl ?_
    exact wa_pick [2, 3, 1, 0] rfl hF
  · replace hF := hF.2 hc
    refine wa_aload_n dX8_findTerms_31 0 rfl rfl ?_
    refine wa_getr (r := 26) dX8_findTerms_32 fkX8_29 rfl rfl rfl ?_
    refine wa_iload_n dX8_findTerms_35 1 rfl rfl ?_
    refine wa_iconst (v := 1) dX8_findTerms_36 rfl ?_
    refine wa_iadd dX8_findTerms_37 ?_
    refine wa_bipush (v := 36) dX8_findTerms_38 rfl ?_
    refine wa_imul dX8_findTerms_40 ?_
    refine wa_iload_n dX8_findTerms_41 2 rfl rfl ?_
    refine wa_iadd dX8_findTerms_42 ?_
    refine wa_iconst (v := 1) dX8_findTerms_43 rfl ?_
    refine wa_iadd dX8_findTerms_44 ?_
    refine wa_aload_n dX8_findTerms_45 0 rfl rfl ?_
    refine wa_getr (r := 26) dX8_findTerms_46 fkX8_29 rfl rfl rfl ?_
    refine wa_iload_n dX8_findTerms_49 1 rfl rfl ?_
    refine wa_bipush (v := 36) dX8_findTerms_50 rfl ?_
    refine wa_imul dX8_findTerms_52 ?_
    refine wa_iload_n dX8_findTerms_53 2 rfl rfl ?_
    refine wa_iadd dX8_findTerms_54 ?_
    obtain ⟨hi9, hF⟩ := hF
    refine wb_iald (j := ((x1 * 36) + x2).toNatClampNeg) (v := M 26 (((x1 * 36) + x2).toNatClampNeg)) dX8_findTerms_55 rfl hi9 rfl rfl ?_
    obtain ⟨hi9, hF⟩ := hF
    refine wb_iast (j := ((((x1 + 1) * 36) + x2) + 1).toNatClampNeg) dX8_findTerms_56 rfl hi9 rfl ?_
    refine wa_iinc (v := x2 + 1) (lv' := [(2, .int (x2 + 1)), (0, .ref 23), (1, .int x1)]) dX8_findTerms_57 2 rfl rfl rfl rfl ?_
    refine wa_goto (tgt := 26) dX8_findTerms_60 rfl ?_
    exact wa_pick [1, 2, 0] rfl hF

theorem bX8_findTerms_67 {X : a_X} {ad : Nat → Nat} {ca : Nat → ClassId} {d : Nat} {kc ks : Nat} {QF : List Frame → Array Value → State → State → Prop} {x : Nat} {M : a_M} (x1 : Int32) (x2 : Int32) (x3 : Int32)  (hF : ((x3 < 0 → WA X ad ca LY RX8 cX8_findTerms 4 none (d + 1) kc ks QF 150 [(0, .ref 23), (1, .int x1)] [] M (PT x)) ∧ (¬ x3 < 0 → ((x2 = 0 → WA X ad ca LY RX8 cX8_findTerms 4 none (d + 1) kc ks QF 150 [(0, .ref 23), (1, .int x1)] [] M (PT x)) ∧ (¬ x2 = 0 → (vp_in ((x3 * (M 23 9)) + x1) 1225 ∧ (∃ Q1 : Int32 → a_M → Prop, Mt X ad ca LY d yX11_left cX11_left 3 (some FieldType.int) [.int ((M 25 (((x3 * (M 23 9)) + x1).toNatClampNeg)) * x2), .int (M 24 2)] M (PT x) (q_i (PT x) Q1) ∧ ∀ v1 M1, Q1 v1 M1 → (∃ Q2 : a_M → Prop, Mt X ad ca LY d yX8_takeStepOff cX8_takeStepOff 5 none [.ref 23, .int (x1 + 1), .int x3, .int v1] M1 (PT x) (q_v (PT x) Q2) ∧ ∀ M2, Q2 M2 → ((x3 ≤ 0 → WA X ad ca LY RX8 cX8_findTerms 4 none (d + 1) kc ks QF 67 [(0, .ref 23), (1, .int x1), (2, .int 0), (3, .int (x3 + (-1)))] [] M2 (PT x)) ∧ (¬ x3 ≤ 0 → (vp_in (((x3 * (M2 23 9)) + x3) - 1) 1225 ∧ (∃ Q3 : Int32 → a_M → Prop, Mt X ad ca LY d yX11_left cX11_left 3 (some FieldType.int) [.int (x2 * (M2 25 ((((x3 * (M2 23 9)) + x3) - 1).toNatClampNeg))), .int (M2 24 2)] M2 (PT x) (q_i (PT x) Q3) ∧ ∀ v3 M3, Q3 v3 M3 → WA X ad ca LY RX8 cX8_findTerms 4 none (d + 1) kc ks QF 67 [(0, .ref 23), (1, .int x1), (2, .int v3), (3, .int (x3 + (-1)))] [] M3 (PT x))))))))))))) : WA X ad ca LY RX8 cX8_findTerms 4 none (d + 1) kc ks QF 67 [(0, .ref 23), (1, .int x1), (2, .int x2), (3, .int x3)] [] M (PT x) := by
  refine wa_iload_n dX8_findTerms_67 3 rfl rfl ?_
  refine wa_if_lt (tgt := 150) dX8_findTerms_68 rfl (fun hc => ?_) (fun hc => ?_)
  · replace hF := hF.1 hc
    exact wa_pick [0, 1] rfl hF
  · replace hF := hF.2 hc
    refine wa_iload_n dX8_findTerms_71 2 rfl rfl ?_
    refine wa_if_eq (tgt := 150) dX8_findTerms_72 rfl (fun hc => ?_) (fun hc => ?_)
    · replace hF := hF.1 hc
      exact wa_pick [0, 1] rfl hF
    · replace hF := hF.2 hc
      refine wa_aload_n dX8_findTerms_75 0 rfl rfl ?_
      refine wa_iload_n dX8_findTerms_76 1 rfl rfl ?_
      refine wa_iconst (v := 1) dX8_findTerms_77 rfl ?_
      refine wa_iadd dX8_findTerms_78 ?_
      refine wa_iload_n dX8_findTerms_79 3 rfl rfl ?_
      refine wa_aload_n dX8_findTerms_80 0 rfl rfl ?_
      refine wa_getr (r := 25) dX8_findTerms_81 fkX8_25 rfl rfl rfl ?_
      refine wa_iload_n dX8_findTerms_84 3 rfl rfl ?_
      refine wa_aload_n dX8_findTerms_85 0 rfl rfl ?_
      refine wb_geti (v := M 23 9) dX8_findTerms_86 fkX8_41 rfl rfl rfl ?_
      refine wa_imul dX8_findTerms_89 ?_
      refine wa_iload_n dX8_findTerms_90 1 rfl rfl ?_
      refine wa_iadd dX8_findTerms_91 ?_
      obtain ⟨hi9, hF⟩ := hF
      refine wb_iald (j := ((x3 * (M 23 9)) + x1).toNatClampNeg) (v := M 25 (((x3 * (M 23 9)) + x1).toNatClampNeg)) dX8_findTerms_92 rfl hi9 rfl rfl ?_
      refine wa_iload_n dX8_findTerms_93 2 rfl rfl ?_
      refine wa_imul dX8_findTerms_94 ?_
      refine wa_aload_n dX8_findTerms_95 0 rfl rfl ?_
      refine wa_getr (r := 24) dX8_findTerms_96 fkX8_12 rfl rfl rfl ?_
      refine wb_geti (v := M 24 2) dX8_findTerms_99 fkX8_83 rfl rfl rfl ?_
      obtain ⟨Q1, hM9, hF⟩ := hF
      refine wa_callSN [.int ((M 25 (((x3 * (M 23 9)) + x1).toNatClampNeg)) * x2), .int (M 24 2)] dX8_findTerms_102 (mmX11_left _ _) mkX8_97 mstX11_left rfl (a_dlt d) rfl rfl hM9 ?_
      rintro r9 M1 P9 ⟨v1, rfl, rfl, hq9⟩
      replace hF := hF v1 M1 hq9
      simp only [Option.toList, List.cons_append, List.nil_append]
      obtain ⟨Q2, hM9, hF⟩ := hF
      refine wa_callV [.int (x1 + 1), .int x3, .int v1] dX8_findTerms_105 (mmX8_takeStepOff _ _) mlX8_105 mnX8_takeStepOff mseX8_takeStepOff rfl rfl rfl rfl (a_dlt d) rfl rfl hM9 ?_
      rintro r9 M2 P9 ⟨rfl, rfl, hq9⟩
      replace hF := hF M2 hq9
      simp only [Option.toList, List.nil_append]
      refine wa_iload_n dX8_findTerms_108 3 rfl rfl ?_
      refine wa_if_le (tgt := 142) dX8_findTerms_109 rfl (fun hc => ?_) (fun hc => ?_)
      · replace hF := hF.1 hc
        refine wa_iconst (v := 0) dX8_findTerms_142 rfl ?_
        refine wa_istore_n (lv' := [(2, .int 0), (0, .ref 23), (1, .int x1), (3, .int x3)]) dX8_findTerms_143 rfl rfl rfl ?_
        refine wa_iinc (v := x3 + (-1)) (lv' := [(3, .int (x3 + (-1))), (2, .int 0), (0, .ref 23), (1, .int x1)]) dX8_findTerms_144 3 rfl rfl rfl rfl ?_
        refine wa_goto (tgt := 67) dX8_findTerms_147 rfl ?_
        exact wa_pick [2, 3, 1, 0] rfl hF
      · replace hF := hF.2 hc
        refine wa_iload_n dX8_findTerms_112 2 rfl rfl ?_
        refine wa_aload_n dX8_findTerms_113 0 rfl rfl ?_
        refine wa_getr (r := 25) dX8_findTerms_114 fkX8_25 rfl rfl rfl ?_
        refine wa_iload_n dX8_findTerms_117 3 rfl rfl ?_
        refine wa_aload_n dX8_findTerms_118 0 rfl rfl ?_
        refine wb_geti (v := M2 23 9) dX8_findTerms_119 fkX8_41 rfl rfl rfl ?_
        refine wa_imul dX8_findTerms_122 ?_
        refine wa_iload_n dX8_findTerms_123 3 rfl rfl ?_
        refine wa_iadd dX8_findTerms_124 ?_
        refine wa_iconst (v := 1) dX8_findTerms_125 rfl ?_
        refine wa_isub dX8_findTerms_126 ?_
        obtain ⟨hi9, hF⟩ := hF
        refine wb_iald (j := (((x3 * (M2 23 9)) + x3) - 1).toNatClampNeg) (v := M2 25 ((((x3 * (M2 23 9)) + x3) - 1).toNatClampNeg)) dX8_findTerms_127 rfl hi9 rfl rfl ?_
        refine wa_imul dX8_findTerms_128 ?_
        refine wa_aload_n dX8_findTerms_129 0 rfl rfl ?_
        refine wa_getr (r := 24) dX8_findTerms_130 fkX8_12 rfl rfl rfl ?_
        refine wb_geti (v := M2 24 2) dX8_findTerms_133 fkX8_83 rfl rfl rfl ?_
        obtain ⟨Q3, hM9, hF⟩ := hF
        refine wa_callSN [.int (x2 * (M2 25 ((((x3 * (M2 23 9)) + x3) - 1).toNatClampNeg))), .int (M2 24 2)] dX8_findTerms_136 (mmX11_left _ _) mkX8_97 mstX11_left rfl (a_dlt d) rfl rfl hM9 ?_
        rintro r9 M3 P9 ⟨v3, rfl, rfl, hq9⟩
        replace hF := hF v3 M3 hq9
        simp only [Option.toList, List.cons_append, List.nil_append]
        refine wa_goto (tgt := 143) dX8_findTerms_139 rfl ?_
        refine wa_istore_n (lv' := [(2, .int v3), (0, .ref 23), (1, .int x1), (3, .int x3)]) dX8_findTerms_143 rfl rfl rfl ?_
        refine wa_iinc (v := x3 + (-1)) (lv' := [(3, .int (x3 + (-1))), (2, .int v3), (0, .ref 23), (1, .int x1)]) dX8_findTerms_144 3 rfl rfl rfl rfl ?_
        refine wa_goto (tgt := 67) dX8_findTerms_147 rfl ?_
        exact wa_pick [2, 3, 1, 0] rfl hF

theorem bX8_findTerms_150 {X : a_X} {ad : Nat → Nat} {ca : Nat → ClassId} {d : Nat} {kc ks : Nat} {QF : List Frame → Array Value → State → State → Prop} {x : Nat} {M : a_M} (x1 : Int32)  (hF : WA X ad ca LY RX8 cX8_findTerms 4 none (d + 1) kc ks QF 16 [(0, .ref 23), (1, .int (x1 + 1))] [] M (PT x)) : WA X ad ca LY RX8 cX8_findTerms 4 none (d + 1) kc ks QF 150 [(0, .ref 23), (1, .int x1)] [] M (PT x) := by
  refine wa_iinc (v := x1 + 1) (lv' := [(1, .int (x1 + 1)), (0, .ref 23)]) dX8_findTerms_150 1 rfl rfl rfl rfl ?_
  refine wa_goto (tgt := 16) dX8_findTerms_153 rfl ?_
  exact wa_pick [1, 0] rfl hF

theorem eX8_findTerms {X : a_X} {ad : Nat → Nat} {ca : Nat → ClassId} {d : Nat} {Post : Option Value → a_M → a_P → Prop} {x : Nat} {M : a_M}  (h : WA X ad ca LY RX8 cX8_findTerms 4 none d 0 0 (a_E X ad ca LY Post) 0 [(0, .ref 23)] [] M (PT x)) : Mt X ad ca LY d yX8_findTerms cX8_findTerms 4 none [.ref 23] M (PT x) Post := Mt.of (lv := [(0, .ref 23)]) (by decide +kernel) rfl rfl rfl (wa_pick [0] rfl h)

theorem bX8_takeStepOff_0 {X : a_X} {ad : Nat → Nat} {ca : Nat → ClassId} {d : Nat} {Post : Option Value → a_M → a_P → Prop} {x : Nat} {M : a_M} (x1 : Int32) (x2 : Int32) (x3 : Int32)  (hF : ((x3 = 0 → Post none M (PT x)) ∧ (¬ x3 = 0 → WA X ad ca LY RX8 cX8_takeStepOff 5 none (d + 1) 0 0 (a_E X ad ca LY Post) 7 [(0, .ref 23), (1, .int x1), (2, .int x2), (3, .int x3), (4, .int 0)] [] M (PT x)))) : WA X ad ca LY RX8 cX8_takeStepOff 5 none (d + 1) 0 0 (a_E X ad ca LY Post) 0 [(0, .ref 23), (1, .int x1), (2, .int x2), (3, .int x3)] [] M (PT x) := by
  refine wa_iload_n dX8_takeStepOff_0 3 rfl rfl ?_
  refine wa_if_eq (tgt := 68) dX8_takeStepOff_1 rfl (fun hc => ?_) (fun hc => ?_)
  · replace hF := hF.1 hc
    exact wa_vret dX8_takeStepOff_68 rfl hF
  · replace hF := hF.2 hc
    refine wa_iconst (v := 0) dX8_takeStepOff_4 rfl ?_
    refine wa_istore (lv' := [(4, .int 0), (0, .ref 23), (1, .int x1), (2, .int x2), (3, .int x3)]) dX8_takeStepOff_5 rfl rfl ?_
    exact wa_pick [1, 2, 3, 4, 0] rfl hF

theorem bX8_takeStepOff_7 {X : a_X} {ad : Nat → Nat} {ca : Nat → ClassId} {d : Nat} {Post : Option Value → a_M → a_P → Prop} {x : Nat} {M : a_M} (x1 : Int32) (x2 : Int32) (x3 : Int32) (x4 : Int32)  (hF : ((x2 < x4 → Post none M (PT x)) ∧ (¬ x2 < x4 → (vp_in ((x1 * 36) + x4) 1296 ∧ (vp_in ((x2 * 36) + x4) 1296 ∧ (∃ Q1 : Int32 → a_M → Prop, Mt X ad ca LY d yX11_left cX11_left 3 (some FieldType.int) [.int ((M 26 (((x1 * 36) + x4).toNatClampNeg)) - (x3 * (M 26 (((x2 * 36) + x4).toNatClampNeg)))), .int (M 24 2)] M (PT x) (q_i (PT x) Q1) ∧ ∀ v1 M1, Q1 v1 M1 → (vp_in ((x1 * 36) + x4) 1296 ∧ WA X ad ca LY RX8 cX8_takeStepOff 5 none (d + 1) 0 0 (a_E X ad ca LY Post) 7 [(0, .ref 23), (1, .int x1), (2, .int x2), (3, .int x3), (4, .int (x4 + 1))] [] (ms M1 26 (((x1 * 36) + x4).toNatClampNeg) v1) (PT x)))))))) : WA X ad ca LY RX8 cX8_takeStepOff 5 none (d + 1) 0 0 (a_E X ad ca LY Post) 7 [(0, .ref 23), (1, .int x1), (2, .int x2), (3, .int x3), (4, .int x4)] [] M (PT x) := by
  refine wa_iload dX8_takeStepOff_7 4 rfl ?_
  refine wa_iload_n dX8_takeStepOff_9 2 rfl rfl ?_
  refine wa_icmp_gt (tgt := 68) dX8_takeStepOff_10 rfl (fun hc => ?_) (fun hc => ?_)
  · replace hF := hF.1 hc
    exact wa_vret dX8_takeStepOff_68 rfl hF
  · replace hF := hF.2 hc
    refine wa_aload_n dX8_takeStepOff_13 0 rfl rfl ?_
    refine wa_getr (r := 26) dX8_takeStepOff_14 fkX8_29 rfl rfl rfl ?_
    refine wa_iload_n dX8_takeStepOff_17 1 rfl rfl ?_
    refine wa_bipush (v := 36) dX8_takeStepOff_18 rfl ?_
    refine wa_imul dX8_takeStepOff_20 ?_
    refine wa_iload dX8_takeStepOff_21 4 rfl ?_
    refine wa_iadd dX8_takeStepOff_23 ?_
    refine wa_aload_n dX8_takeStepOff_24 0 rfl rfl ?_
    refine wa_getr (r := 26) dX8_takeStepOff_25 fkX8_29 rfl rfl rfl ?_
    refine wa_iload_n dX8_takeStepOff_28 1 rfl rfl ?_
    refine wa_bipush (v := 36) dX8_takeStepOff_29 rfl ?_
    refine wa_imul dX8_takeStepOff_31 ?_
    refine wa_iload dX8_takeStepOff_32 4 rfl ?_
    refine wa_iadd dX8_takeStepOff_34 ?_
    obtain ⟨hi9, hF⟩ := hF
    refine wb_iald (j := ((x1 * 36) + x4).toNatClampNeg) (v := M 26 (((x1 * 36) + x4).toNatClampNeg)) dX8_takeStepOff_35 rfl hi9 rfl rfl ?_
    refine wa_iload_n dX8_takeStepOff_36 3 rfl rfl ?_
    refine wa_aload_n dX8_takeStepOff_37 0 rfl rfl ?_
    refine wa_getr (r := 26) dX8_takeStepOff_38 fkX8_29 rfl rfl rfl ?_
    refine wa_iload_n dX8_takeStepOff_41 2 rfl rfl ?_
    refine wa_bipush (v := 36) dX8_takeStepOff_42 rfl ?_
    refine wa_imul dX8_takeStepOff_44 ?_
    refine wa_iload dX8_takeStepOff_45 4 rfl ?_
    refine wa_iadd dX8_takeStepOff_47 ?_
    obtain ⟨hi9, hF⟩ := hF
    refine wb_iald (j := ((x2 * 36) + x4).toNatClampNeg) (v := M 26 (((x2 * 36) + x4).toNatClampNeg)) dX8_takeStepOff_48 rfl hi9 rfl rfl ?_
    refine wa_imul dX8_takeStepOff_49 ?_
    refine wa_isub dX8_takeStepOff_50 ?_
    refine wa_aload_n dX8_takeStepOff_51 0 rfl rfl ?_
    refine wa_getr (r := 24) dX8_takeStepOff_52 fkX8_12 rfl rfl rfl ?_
    refine wb_geti (v := M 24 2) dX8_takeStepOff_55 fkX8_83 rfl rfl rfl ?_
    obtain ⟨Q1, hM9, hF⟩ := hF
    refine wa_callSN [.int ((M 26 (((x1 * 36) + x4).toNatClampNeg)) - (x3 * (M 26 (((x2 * 36) + x4).toNatClampNeg)))), .int (M 24 2)] dX8_takeStepOff_58 (mmX11_left _ _) mkX8_97 mstX11_left rfl (a_dlt d) rfl rfl hM9 ?_
    rintro r9 M1 P9 ⟨v1, rfl, rfl, hq9⟩
    replace hF := hF v1 M1 hq9
    simp only [Option.toList, List.cons_append, List.nil_append]
    obtain ⟨hi9, hF⟩ := hF
    refine wb_iast (j := ((x1 * 36) + x4).toNatClampNeg) dX8_takeStepOff_61 rfl hi9 rfl ?_
    refine wa_iinc (v := x4 + 1) (lv' := [(4, .int (x4 + 1)), (0, .ref 23), (1, .int x1), (2, .int x2), (3, .int x3)]) dX8_takeStepOff_62 4 rfl rfl rfl rfl ?_
    refine wa_goto (tgt := 7) dX8_takeStepOff_65 rfl ?_
    exact wa_pick [1, 2, 3, 4, 0] rfl hF

theorem eX8_takeStepOff {X : a_X} {ad : Nat → Nat} {ca : Nat → ClassId} {d : Nat} {Post : Option Value → a_M → a_P → Prop} {x : Nat} {M : a_M} (x1 : Int32) (x2 : Int32) (x3 : Int32) (h : WA X ad ca LY RX8 cX8_takeStepOff 5 none d 0 0 (a_E X ad ca LY Post) 0 [(0, .ref 23), (1, .int x1), (2, .int x2), (3, .int x3)] [] M (PT x)) : Mt X ad ca LY d yX8_takeStepOff cX8_takeStepOff 5 none [.ref 23, .int x1, .int x2, .int x3] M (PT x) Post := Mt.of (lv := [(0, .ref 23), (1, .int x1), (2, .int x2), (3, .int x3)]) (by decide +kernel) rfl rfl rfl (wa_pick [0, 1, 2, 3] rfl h)

theorem bX8_traceOf_0 {X : a_X} {ad : Nat → Nat} {ca : Nat → ClassId} {d : Nat} {kc ks : Nat} {QF : List Frame → Array Value → State → State → Prop} {x : Nat} {M : a_M} (x1 : Int32)  (hF : (∃ Q1 : Int32 → a_M → Prop, Mt X ad ca LY d yX11_left cX11_left 3 (some FieldType.int) [.int (M 23 9), .int (M 24 2)] M (PT x) (q_i (PT x) Q1) ∧ ∀ v1 M1, Q1 v1 M1 → WA X ad ca LY RX8 cX8_traceOf 5 (some FieldType.int) (d + 1) kc ks QF 22 [(0, .ref 23), (1, .int x1), (2, .int 1)] [] (ms M1 28 0 v1) (PT x))) : WA X ad ca LY RX8 cX8_traceOf 5 (some FieldType.int) (d + 1) kc ks QF 0 [(0, .ref 23), (1, .int x1)] [] M (PT x) := by
  refine wa_aload_n dX8_traceOf_0 0 rfl rfl ?_
  refine wa_getr (r := 28) dX8_traceOf_1 fkX8_35 rfl rfl rfl ?_
  refine wa_iconst (v := 0) dX8_traceOf_4 rfl ?_
  refine wa_aload_n dX8_traceOf_5 0 rfl rfl ?_
  refine wb_geti (v := M 23 9) dX8_traceOf_6 fkX8_41 rfl rfl rfl ?_
  refine wa_aload_n dX8_traceOf_9 0 rfl rfl ?_
  refine wa_getr (r := 24) dX8_traceOf_10 fkX8_12 rfl rfl rfl ?_
  refine wb_geti (v := M 24 2) dX8_traceOf_13 fkX8_83 rfl rfl rfl ?_
  obtain ⟨Q1, hM9, hF⟩ := hF
  refine wa_callSN [.int (M 23 9), .int (M 24 2)] dX8_traceOf_16 (mmX11_left _ _) mkX8_97 mstX11_left rfl (a_dlt d) rfl rfl hM9 ?_
  rintro r9 M1 P9 ⟨v1, rfl, rfl, hq9⟩
  replace hF := hF v1 M1 hq9
  simp only [Option.toList, List.cons_append, List.nil_append]
  refine wb_iast (j := 0) dX8_traceOf_19 rfl (by unfold vp_in; decide) rfl ?_
  refine wa_iconst (v := 1) dX8_traceOf_20 rfl ?_
  refine wa_istore_n (lv' := [(2, .int 1), (0, .ref 23), (1, .int x1)]) dX8_traceOf_21 rfl rfl rfl ?_
  exact wa_pick [1, 2, 0] rfl hF

theorem bX8_traceOf_22 {X : a_X} {ad : Nat → Nat} {ca : Nat → ClassId} {d : Nat} {kc ks : Nat} {QF : List Frame → Array Value → State → State → Prop} {x : Nat} {M : a_M} (x1 : Int32) (x2 : Int32)  (hF : ((x1 < x2 → WA X ad ca LY RX8 cX8_traceOf 5 (some FieldType.int) (d + 1) kc ks QF 132 [(0, .ref 23), (1, .int x1)] [] M (PT x)) ∧ (¬ x1 < x2 → ((100 ≤ x2 → WA X ad ca LY RX8 cX8_traceOf 5 (some FieldType.int) (d + 1) kc ks QF 132 [(0, .ref 23), (1, .int x1)] [] M (PT x)) ∧ (¬ 100 ≤ x2 → (((M 23 9) < x2 → WA X ad ca LY RX8 cX8_traceOf 5 (some FieldType.int) (d + 1) kc ks QF 62 [(0, .ref 23), (1, .int x1), (2, .int x2), (3, .int 0), (4, .int 1)] [] M (PT x)) ∧ (¬ (M 23 9) < x2 → (vp_in ((M 23 9) - x2) 36 ∧ WA X ad ca LY RX8 cX8_traceOf 5 (some FieldType.int) (d + 1) kc ks QF 62 [(0, .ref 23), (1, .int x1), (2, .int x2), (3, .int (x2 * (M 29 (((M 23 9) - x2).toNatClampNeg)))), (4, .int 1)] [] M (PT x))))))))) : WA X ad ca LY RX8 cX8_traceOf 5 (some FieldType.int) (d + 1) kc ks QF 22 [(0, .ref 23), (1, .int x1), (2, .int x2)] [] M (PT x) := by
  refine wa_iload_n dX8_traceOf_22 2 rfl rfl ?_
  refine wa_iload_n dX8_traceOf_23 1 rfl rfl ?_
  refine wa_icmp_gt (tgt := 132) dX8_traceOf_24 rfl (fun hc => ?_) (fun hc => ?_)
  · replace hF := hF.1 hc
    exact wa_pick [0, 1] rfl hF
  · replace hF := hF.2 hc
    refine wa_iload_n dX8_traceOf_27 2 rfl rfl ?_
    refine wa_bipush (v := 100) dX8_traceOf_28 rfl ?_
    refine wa_icmp_ge (tgt := 132) dX8_traceOf_30 rfl (fun hc => ?_) (fun hc => ?_)
    · replace hF := hF.1 hc
      exact wa_pick [0, 1] rfl hF
    · replace hF := hF.2 hc
      refine wa_iload_n dX8_traceOf_33 2 rfl rfl ?_
      refine wa_aload_n dX8_traceOf_34 0 rfl rfl ?_
      refine wb_geti (v := M 23 9) dX8_traceOf_35 fkX8_41 rfl rfl rfl ?_
      refine wa_icmp_gt (tgt := 57) dX8_traceOf_38 rfl (fun hc => ?_) (fun hc => ?_)
      · replace hF := hF.1 hc
        refine wa_iconst (v := 0) dX8_traceOf_57 rfl ?_
        refine wa_istore_n (lv' := [(3, .int 0), (0, .ref 23), (1, .int x1), (2, .int x2)]) dX8_traceOf_58 rfl rfl rfl ?_
        refine wa_iconst (v := 1) dX8_traceOf_59 rfl ?_
        refine wa_istore (lv' := [(4, .int 1), (3, .int 0), (0, .ref 23), (1, .int x1), (2, .int x2)]) dX8_traceOf_60 rfl rfl ?_
        exact wa_pick [2, 3, 4, 1, 0] rfl hF
      · replace hF := hF.2 hc
        refine wa_iload_n dX8_traceOf_41 2 rfl rfl ?_
        refine wa_aload_n dX8_traceOf_42 0 rfl rfl ?_
        refine wa_getr (r := 29) dX8_traceOf_43 fkX8_38 rfl rfl rfl ?_
        refine wa_aload_n dX8_traceOf_46 0 rfl rfl ?_
        refine wb_geti (v := M 23 9) dX8_traceOf_47 fkX8_41 rfl rfl rfl ?_
        refine wa_iload_n dX8_traceOf_50 2 rfl rfl ?_
        refine wa_isub dX8_traceOf_51 ?_
        obtain ⟨hi9, hF⟩ := hF
        refine wb_iald (j := ((M 23 9) - x2).toNatClampNeg) (v := M 29 (((M 23 9) - x2).toNatClampNeg)) dX8_traceOf_52 rfl hi9 rfl rfl ?_
        refine wa_imul dX8_traceOf_53 ?_
        refine wa_goto (tgt := 58) dX8_traceOf_54 rfl ?_
        refine wa_istore_n (lv' := [(3, .int (x2 * (M 29 (((M 23 9) - x2).toNatClampNeg)))), (0, .ref 23), (1, .int x1), (2, .int x2)]) dX8_traceOf_58 rfl rfl rfl ?_
        refine wa_iconst (v := 1) dX8_traceOf_59 rfl ?_
        refine wa_istore (lv' := [(4, .int 1), (3, .int (x2 * (M 29 (((M 23 9) - x2).toNatClampNeg)))), (0, .ref 23), (1, .int x1), (2, .int x2)]) dX8_traceOf_60 rfl rfl ?_
        exact wa_pick [2, 3, 4, 1, 0] rfl hF

theorem bX8_traceOf_62 {X : a_X} {ad : Nat → Nat} {ca : Nat → ClassId} {d : Nat} {kc ks : Nat} {QF : List Frame → Array Value → State → State → Prop} {x : Nat} {M : a_M} (x1 : Int32) (x2 : Int32) (x3 : Int32) (x4 : Int32)  (hF : ((x2 ≤ x4 → WA X ad ca LY RX8 cX8_traceOf 5 (some FieldType.int) (d + 1) kc ks QF 108 [(0, .ref 23), (1, .int x1), (2, .int x2), (3, .int x3)] [] M (PT x)) ∧ (¬ x2 ≤ x4 → (((M 23 9) < x4 → WA X ad ca LY RX8 cX8_traceOf 5 (some FieldType.int) (d + 1) kc ks QF 108 [(0, .ref 23), (1, .int x1), (2, .int x2), (3, .int x3)] [] M (PT x)) ∧ (¬ (M 23 9) < x4 → (vp_in ((M 23 9) - x4) 36 ∧ (vp_in (x2 - x4) 100 ∧ WA X ad ca LY RX8 cX8_traceOf 5 (some FieldType.int) (d + 1) kc ks QF 62 [(0, .ref 23), (1, .int x1), (2, .int x2), (3, .int (x3 + ((M 29 (((M 23 9) - x4).toNatClampNeg)) * (M 28 ((x2 - x4).toNatClampNeg))))), (4, .int (x4 + 1))] [] M (PT x)))))))) : WA X ad ca LY RX8 cX8_traceOf 5 (some FieldType.int) (d + 1) kc ks QF 62 [(0, .ref 23), (1, .int x1), (2, .int x2), (3, .int x3), (4, .int x4)] [] M (PT x) := by
  refine wa_iload dX8_traceOf_62 4 rfl ?_
  refine wa_iload_n dX8_traceOf_64 2 rfl rfl ?_
  refine wa_icmp_ge (tgt := 108) dX8_traceOf_65 rfl (fun hc => ?_) (fun hc => ?_)
  · replace hF := hF.1 hc
    exact wa_pick [0, 1, 2, 3] rfl hF
  · replace hF := hF.2 hc
    refine wa_iload dX8_traceOf_68 4 rfl ?_
    refine wa_aload_n dX8_traceOf_70 0 rfl rfl ?_
    refine wb_geti (v := M 23 9) dX8_traceOf_71 fkX8_41 rfl rfl rfl ?_
    refine wa_icmp_gt (tgt := 108) dX8_traceOf_74 rfl (fun hc => ?_) (fun hc => ?_)
    · replace hF := hF.1 hc
      exact wa_pick [0, 1, 2, 3] rfl hF
    · replace hF := hF.2 hc
      refine wa_iload_n dX8_traceOf_77 3 rfl rfl ?_
      refine wa_aload_n dX8_traceOf_78 0 rfl rfl ?_
      refine wa_getr (r := 29) dX8_traceOf_79 fkX8_38 rfl rfl rfl ?_
      refine wa_aload_n dX8_traceOf_82 0 rfl rfl ?_
      refine wb_geti (v := M 23 9) dX8_traceOf_83 fkX8_41 rfl rfl rfl ?_
      refine wa_iload dX8_traceOf_86 4 rfl ?_
      refine wa_isub dX8_traceOf_88 ?_
      obtain ⟨hi9, hF⟩ := hF
      refine wb_iald (j := ((M 23 9) - x4).toNatClampNeg) (v := M 29 (((M 23 9) - x4).toNatClampNeg)) dX8_traceOf_89 rfl hi9 rfl rfl ?_
      refine wa_aload_n dX8_traceOf_90 0 rfl rfl ?_
      refine wa_getr (r := 28) dX8_traceOf_91 fkX8_35 rfl rfl rfl ?_
      refine wa_iload_n dX8_traceOf_94 2 rfl rfl ?_
      refine wa_iload dX8_traceOf_95 4 rfl ?_
      refine wa_isub dX8_traceOf_97 ?_
      obtain ⟨hi9, hF⟩ := hF
      refine wb_iald (j := (x2 - x4).toNatClampNeg) (v := M 28 ((x2 - x4).toNatClampNeg)) dX8_traceOf_98 rfl hi9 rfl rfl ?_
      refine wa_imul dX8_traceOf_99 ?_
      refine wa_iadd dX8_traceOf_100 ?_
      refine wa_istore_n (lv' := [(3, .int (x3 + ((M 29 (((M 23 9) - x4).toNatClampNeg)) * (M 28 ((x2 - x4).toNatClampNeg))))), (0, .ref 23), (1, .int x1), (2, .int x2), (4, .int x4)]) dX8_traceOf_101 rfl rfl rfl ?_
      refine wa_iinc (v := x4 + 1) (lv' := [(4, .int (x4 + 1)), (3, .int (x3 + ((M 29 (((M 23 9) - x4).toNatClampNeg)) * (M 28 ((x2 - x4).toNatClampNeg))))), (0, .ref 23), (1, .int x1), (2, .int x2)]) dX8_traceOf_102 4 rfl rfl rfl rfl ?_
      refine wa_goto (tgt := 62) dX8_traceOf_105 rfl ?_
      exact wa_pick [2, 3, 4, 1, 0] rfl hF

theorem bX8_traceOf_108 {X : a_X} {ad : Nat → Nat} {ca : Nat → ClassId} {d : Nat} {kc ks : Nat} {QF : List Frame → Array Value → State → State → Prop} {x : Nat} {M : a_M} (x1 : Int32) (x2 : Int32) (x3 : Int32)  (hF : (∃ Q1 : Int32 → a_M → Prop, Mt X ad ca LY d yX11_left cX11_left 3 (some FieldType.int) [.int (-x3), .int (M 24 2)] M (PT x) (q_i (PT x) Q1) ∧ ∀ v1 M1, Q1 v1 M1 → (vp_in x2 100 ∧ WA X ad ca LY RX8 cX8_traceOf 5 (some FieldType.int) (d + 1) kc ks QF 22 [(0, .ref 23), (1, .int x1), (2, .int (x2 + 1))] [] (ms M1 28 x2.toNatClampNeg v1) (PT x)))) : WA X ad ca LY RX8 cX8_traceOf 5 (some FieldType.int) (d + 1) kc ks QF 108 [(0, .ref 23), (1, .int x1), (2, .int x2), (3, .int x3)] [] M (PT x) := by
  refine wa_aload_n dX8_traceOf_108 0 rfl rfl ?_
  refine wa_getr (r := 28) dX8_traceOf_109 fkX8_35 rfl rfl rfl ?_
  refine wa_iload_n dX8_traceOf_112 2 rfl rfl ?_
  refine wa_iload_n dX8_traceOf_113 3 rfl rfl ?_
  refine wa_ineg dX8_traceOf_114 ?_
  refine wa_aload_n dX8_traceOf_115 0 rfl rfl ?_
  refine wa_getr (r := 24) dX8_traceOf_116 fkX8_12 rfl rfl rfl ?_
  refine wb_geti (v := M 24 2) dX8_traceOf_119 fkX8_83 rfl rfl rfl ?_
  obtain ⟨Q1, hM9, hF⟩ := hF
  refine wa_callSN [.int (-x3), .int (M 24 2)] dX8_traceOf_122 (mmX11_left _ _) mkX8_97 mstX11_left rfl (a_dlt d) rfl rfl hM9 ?_
  rintro r9 M1 P9 ⟨v1, rfl, rfl, hq9⟩
  replace hF := hF v1 M1 hq9
  simp only [Option.toList, List.cons_append, List.nil_append]
  obtain ⟨hi9, hF⟩ := hF
  refine wb_iast (j := x2.toNatClampNeg) dX8_traceOf_125 rfl hi9 rfl ?_
  refine wa_iinc (v := x2 + 1) (lv' := [(2, .int (x2 + 1)), (0, .ref 23), (1, .int x1), (3, .int x3)]) dX8_traceOf_126 2 rfl rfl rfl rfl ?_
  refine wa_goto (tgt := 22) dX8_traceOf_129 rfl ?_
  exact wa_pick [1, 2, 0] rfl hF

theorem bX8_traceOf_132 {X : a_X} {ad : Nat → Nat} {ca : Nat → ClassId} {d : Nat} {Post : Option Value → a_M → a_P → Prop} {x : Nat} {M : a_M} (x1 : Int32)  (hF : ((x1 < 0 → WA X ad ca LY RX8 cX8_traceOf 5 (some FieldType.int) (d + 1) 0 0 (a_E X ad ca LY Post) 151 [] [] M (PT x)) ∧ (¬ x1 < 0 → ((100 ≤ x1 → WA X ad ca LY RX8 cX8_traceOf 5 (some FieldType.int) (d + 1) 0 0 (a_E X ad ca LY Post) 151 [] [] M (PT x)) ∧ (¬ 100 ≤ x1 → (vp_in x1 100 ∧ Post (some (.int (M 28 x1.toNatClampNeg))) M (PT x))))))) : WA X ad ca LY RX8 cX8_traceOf 5 (some FieldType.int) (d + 1) 0 0 (a_E X ad ca LY Post) 132 [(0, .ref 23), (1, .int x1)] [] M (PT x) := by
  refine wa_iload_n dX8_traceOf_132 1 rfl rfl ?_
  refine wa_if_lt (tgt := 151) dX8_traceOf_133 rfl (fun hc => ?_) (fun hc => ?_)
  · replace hF := hF.1 hc
    exact wa_pick [] rfl hF
  · replace hF := hF.2 hc
    refine wa_iload_n dX8_traceOf_136 1 rfl rfl ?_
    refine wa_bipush (v := 100) dX8_traceOf_137 rfl ?_
    refine wa_icmp_ge (tgt := 151) dX8_traceOf_139 rfl (fun hc => ?_) (fun hc => ?_)
    · replace hF := hF.1 hc
      exact wa_pick [] rfl hF
    · replace hF := hF.2 hc
      refine wa_aload_n dX8_traceOf_142 0 rfl rfl ?_
      refine wa_getr (r := 28) dX8_traceOf_143 fkX8_35 rfl rfl rfl ?_
      refine wa_iload_n dX8_traceOf_146 1 rfl rfl ?_
      obtain ⟨hi9, hF⟩ := hF
      refine wb_iald (j := x1.toNatClampNeg) (v := M 28 x1.toNatClampNeg) dX8_traceOf_147 rfl hi9 rfl rfl ?_
      refine wa_goto (tgt := 152) dX8_traceOf_148 rfl ?_
      exact wa_iret dX8_traceOf_152 rfl rfl hF

theorem bX8_traceOf_151 {X : a_X} {ad : Nat → Nat} {ca : Nat → ClassId} {d : Nat} {Post : Option Value → a_M → a_P → Prop} {x : Nat} {M : a_M}   (hF : Post (some (.int (-1))) M (PT x)) : WA X ad ca LY RX8 cX8_traceOf 5 (some FieldType.int) (d + 1) 0 0 (a_E X ad ca LY Post) 151 [] [] M (PT x) := by
  refine wa_iconst (v := (-1)) dX8_traceOf_151 rfl ?_
  exact wa_iret dX8_traceOf_152 rfl rfl hF

theorem eX8_traceOf {X : a_X} {ad : Nat → Nat} {ca : Nat → ClassId} {d : Nat} {Post : Option Value → a_M → a_P → Prop} {x : Nat} {M : a_M} (x1 : Int32) (h : WA X ad ca LY RX8 cX8_traceOf 5 (some FieldType.int) d 0 0 (a_E X ad ca LY Post) 0 [(0, .ref 23), (1, .int x1)] [] M (PT x)) : Mt X ad ca LY d yX8_traceOf cX8_traceOf 5 (some FieldType.int) [.ref 23, .int x1] M (PT x) Post := Mt.of (lv := [(0, .ref 23), (1, .int x1)]) (by decide +kernel) rfl rfl rfl (wa_pick [0, 1] rfl h)

theorem bX8_valueAt_0 {X : a_X} {ad : Nat → Nat} {ca : Nat → ClassId} {d : Nat} {kc ks : Nat} {QF : List Frame → Array Value → State → State → Prop} {x : Nat} {M : a_M} (x1 : Int32)  (hF : WA X ad ca LY RX8 cX8_valueAt 4 (some FieldType.int) (d + 1) kc ks QF 7 [(0, .ref 23), (1, .int x1), (2, .int 0), (3, .int (M 23 9))] [] M (PT x)) : WA X ad ca LY RX8 cX8_valueAt 4 (some FieldType.int) (d + 1) kc ks QF 0 [(0, .ref 23), (1, .int x1)] [] M (PT x) := by
  refine wa_iconst (v := 0) dX8_valueAt_0 rfl ?_
  refine wa_istore_n (lv' := [(2, .int 0), (0, .ref 23), (1, .int x1)]) dX8_valueAt_1 rfl rfl rfl ?_
  refine wa_aload_n dX8_valueAt_2 1 rfl rfl ?_
  refine wb_geti (v := M 23 9) dX8_valueAt_3 fkX8_41 rfl rfl rfl ?_
  refine wa_istore_n (lv' := [(3, .int (M 23 9)), (2, .int 0), (0, .ref 23), (1, .int x1)]) dX8_valueAt_6 rfl rfl rfl ?_
  exact wa_pick [2, 3, 1, 0] rfl hF

theorem bX8_valueAt_7 {X : a_X} {ad : Nat → Nat} {ca : Nat → ClassId} {d : Nat} {Post : Option Value → a_M → a_P → Prop} {x : Nat} {M : a_M} (x1 : Int32) (x2 : Int32) (x3 : Int32)  (hF : ((x3 < 0 → Post (some (.int x2)) M (PT x)) ∧ (¬ x3 < 0 → (vp_in x3 36 ∧ (∃ Q1 : Int32 → a_M → Prop, Mt X ad ca LY d yX11_left cX11_left 3 (some FieldType.int) [.int ((x2 * x1) + (M 29 x3.toNatClampNeg)), .int (M 24 2)] M (PT x) (q_i (PT x) Q1) ∧ ∀ v1 M1, Q1 v1 M1 → WA X ad ca LY RX8 cX8_valueAt 4 (some FieldType.int) (d + 1) 0 0 (a_E X ad ca LY Post) 7 [(0, .ref 23), (1, .int x1), (2, .int v1), (3, .int (x3 + (-1)))] [] M1 (PT x)))))) : WA X ad ca LY RX8 cX8_valueAt 4 (some FieldType.int) (d + 1) 0 0 (a_E X ad ca LY Post) 7 [(0, .ref 23), (1, .int x1), (2, .int x2), (3, .int x3)] [] M (PT x) := by
  refine wa_iload_n dX8_valueAt_7 3 rfl rfl ?_
  refine wa_if_lt (tgt := 38) dX8_valueAt_8 rfl (fun hc => ?_) (fun hc => ?_)
  · replace hF := hF.1 hc
    refine wa_iload_n dX8_valueAt_38 2 rfl rfl ?_
    exact wa_iret dX8_valueAt_39 rfl rfl hF
  · replace hF := hF.2 hc
    refine wa_iload_n dX8_valueAt_11 2 rfl rfl ?_
    refine wa_iload_n dX8_valueAt_12 1 rfl rfl ?_
    refine wa_imul dX8_valueAt_13 ?_
    refine wa_aload_n dX8_valueAt_14 0 rfl rfl ?_
    refine wa_getr (r := 29) dX8_valueAt_15 fkX8_38 rfl rfl rfl ?_
    refine wa_iload_n dX8_valueAt_18 3 rfl rfl ?_
    obtain ⟨hi9, hF⟩ := hF
    refine wb_iald (j := x3.toNatClampNeg) (v := M 29 x3.toNatClampNeg) dX8_valueAt_19 rfl hi9 rfl rfl ?_
    refine wa_iadd dX8_valueAt_20 ?_
    refine wa_aload_n dX8_valueAt_21 0 rfl rfl ?_
    refine wa_getr (r := 24) dX8_valueAt_22 fkX8_12 rfl rfl rfl ?_
    refine wb_geti (v := M 24 2) dX8_valueAt_25 fkX8_83 rfl rfl rfl ?_
    obtain ⟨Q1, hM9, hF⟩ := hF
    refine wa_callSN [.int ((x2 * x1) + (M 29 x3.toNatClampNeg)), .int (M 24 2)] dX8_valueAt_28 (mmX11_left _ _) mkX8_97 mstX11_left rfl (a_dlt d) rfl rfl hM9 ?_
    rintro r9 M1 P9 ⟨v1, rfl, rfl, hq9⟩
    replace hF := hF v1 M1 hq9
    simp only [Option.toList, List.cons_append, List.nil_append]
    refine wa_istore_n (lv' := [(2, .int v1), (0, .ref 23), (1, .int x1), (3, .int x3)]) dX8_valueAt_31 rfl rfl rfl ?_
    refine wa_iinc (v := x3 + (-1)) (lv' := [(3, .int (x3 + (-1))), (2, .int v1), (0, .ref 23), (1, .int x1)]) dX8_valueAt_32 3 rfl rfl rfl rfl ?_
    refine wa_goto (tgt := 7) dX8_valueAt_35 rfl ?_
    exact wa_pick [2, 3, 1, 0] rfl hF

theorem eX8_valueAt {X : a_X} {ad : Nat → Nat} {ca : Nat → ClassId} {d : Nat} {Post : Option Value → a_M → a_P → Prop} {x : Nat} {M : a_M} (x1 : Int32) (h : WA X ad ca LY RX8 cX8_valueAt 4 (some FieldType.int) d 0 0 (a_E X ad ca LY Post) 0 [(0, .ref 23), (1, .int x1)] [] M (PT x)) : Mt X ad ca LY d yX8_valueAt cX8_valueAt 4 (some FieldType.int) [.ref 23, .int x1] M (PT x) Post := Mt.of (lv := [(0, .ref 23), (1, .int x1)]) (by decide +kernel) rfl rfl rfl (wa_pick [0, 1] rfl h)

theorem bX8_howManyOwn_0 {X : a_X} {ad : Nat → Nat} {ca : Nat → ClassId} {d : Nat} {kc ks : Nat} {QF : List Frame → Array Value → State → State → Prop} {x : Nat} {M : a_M}   (hF : WA X ad ca LY RX8 cX8_howManyOwn 3 (some FieldType.int) (d + 1) kc ks QF 4 [(0, .ref 23), (1, .int 0), (2, .int 0)] [] M (PT x)) : WA X ad ca LY RX8 cX8_howManyOwn 3 (some FieldType.int) (d + 1) kc ks QF 0 [(0, .ref 23)] [] M (PT x) := by
  refine wa_iconst (v := 0) dX8_howManyOwn_0 rfl ?_
  refine wa_istore_n (lv' := [(1, .int 0), (0, .ref 23)]) dX8_howManyOwn_1 rfl rfl rfl ?_
  refine wa_iconst (v := 0) dX8_howManyOwn_2 rfl ?_
  refine wa_istore_n (lv' := [(2, .int 0), (1, .int 0), (0, .ref 23)]) dX8_howManyOwn_3 rfl rfl rfl ?_
  exact wa_pick [2, 1, 0] rfl hF

theorem bX8_howManyOwn_4 {X : a_X} {ad : Nat → Nat} {ca : Nat → ClassId} {d : Nat} {Post : Option Value → a_M → a_P → Prop} {x : Nat} {M : a_M} (x1 : Int32) (x2 : Int32)  (hF : (((M 24 2) ≤ x2 → Post (some (.int x1)) M (PT x)) ∧ (¬ (M 24 2) ≤ x2 → (∃ Q1 : Int32 → a_M → Prop, Mt X ad ca LY d yX8_valueAt cX8_valueAt 4 (some FieldType.int) [.ref 23, .int x2] M (PT x) (q_i (PT x) Q1) ∧ ∀ v1 M1, Q1 v1 M1 → ((¬ v1 = 0 → WA X ad ca LY RX8 cX8_howManyOwn 3 (some FieldType.int) (d + 1) 0 0 (a_E X ad ca LY Post) 26 [(0, .ref 23), (1, .int x1), (2, .int x2)] [] M1 (PT x)) ∧ (v1 = 0 → WA X ad ca LY RX8 cX8_howManyOwn 3 (some FieldType.int) (d + 1) 0 0 (a_E X ad ca LY Post) 26 [(0, .ref 23), (1, .int (x1 + 1)), (2, .int x2)] [] M1 (PT x))))))) : WA X ad ca LY RX8 cX8_howManyOwn 3 (some FieldType.int) (d + 1) 0 0 (a_E X ad ca LY Post) 4 [(0, .ref 23), (1, .int x1), (2, .int x2)] [] M (PT x) := by
  refine wa_iload_n dX8_howManyOwn_4 2 rfl rfl ?_
  refine wa_aload_n dX8_howManyOwn_5 0 rfl rfl ?_
  refine wa_getr (r := 24) dX8_howManyOwn_6 fkX8_12 rfl rfl rfl ?_
  refine wb_geti (v := M 24 2) dX8_howManyOwn_9 fkX8_83 rfl rfl rfl ?_
  refine wa_icmp_ge (tgt := 32) dX8_howManyOwn_12 rfl (fun hc => ?_) (fun hc => ?_)
  · replace hF := hF.1 hc
    refine wa_iload_n dX8_howManyOwn_32 1 rfl rfl ?_
    exact wa_iret dX8_howManyOwn_33 rfl rfl hF
  · replace hF := hF.2 hc
    refine wa_aload_n dX8_howManyOwn_15 0 rfl rfl ?_
    refine wa_iload_n dX8_howManyOwn_16 2 rfl rfl ?_
    obtain ⟨Q1, hM9, hF⟩ := hF
    refine wa_callV [.int x2] dX8_howManyOwn_17 (mmX8_valueAt _ _) mlX8_114 mnX8_valueAt mseX8_valueAt rfl rfl rfl rfl (a_dlt d) rfl rfl hM9 ?_
    rintro r9 M1 P9 ⟨v1, rfl, rfl, hq9⟩
    replace hF := hF v1 M1 hq9
    simp only [Option.toList, List.cons_append, List.nil_append]
    refine wa_if_ne (tgt := 26) dX8_howManyOwn_20 rfl (fun hc => ?_) (fun hc => ?_)
    · replace hF := hF.1 hc
      exact hF
    · replace hF := hF.2 hc
      refine wa_iinc (v := x1 + 1) (lv' := [(1, .int (x1 + 1)), (0, .ref 23), (2, .int x2)]) dX8_howManyOwn_23 1 rfl rfl rfl rfl ?_
      exact wa_pick [1, 0, 2] rfl hF

theorem bX8_howManyOwn_26 {X : a_X} {ad : Nat → Nat} {ca : Nat → ClassId} {d : Nat} {kc ks : Nat} {QF : List Frame → Array Value → State → State → Prop} {x : Nat} {M : a_M} (x1 : Int32) (x2 : Int32)  (hF : WA X ad ca LY RX8 cX8_howManyOwn 3 (some FieldType.int) (d + 1) kc ks QF 4 [(0, .ref 23), (1, .int x1), (2, .int (x2 + 1))] [] M (PT x)) : WA X ad ca LY RX8 cX8_howManyOwn 3 (some FieldType.int) (d + 1) kc ks QF 26 [(0, .ref 23), (1, .int x1), (2, .int x2)] [] M (PT x) := by
  refine wa_iinc (v := x2 + 1) (lv' := [(2, .int (x2 + 1)), (0, .ref 23), (1, .int x1)]) dX8_howManyOwn_26 2 rfl rfl rfl rfl ?_
  refine wa_goto (tgt := 4) dX8_howManyOwn_29 rfl ?_
  exact wa_pick [1, 2, 0] rfl hF

theorem eX8_howManyOwn {X : a_X} {ad : Nat → Nat} {ca : Nat → ClassId} {d : Nat} {Post : Option Value → a_M → a_P → Prop} {x : Nat} {M : a_M}  (h : WA X ad ca LY RX8 cX8_howManyOwn 3 (some FieldType.int) d 0 0 (a_E X ad ca LY Post) 0 [(0, .ref 23)] [] M (PT x)) : Mt X ad ca LY d yX8_howManyOwn cX8_howManyOwn 3 (some FieldType.int) [.ref 23] M (PT x) Post := Mt.of (lv := [(0, .ref 23)]) (by decide +kernel) rfl rfl rfl (wa_pick [0] rfl h)

theorem bX8_ownAt_0 {X : a_X} {ad : Nat → Nat} {ca : Nat → ClassId} {d : Nat} {kc ks : Nat} {QF : List Frame → Array Value → State → State → Prop} {x : Nat} {M : a_M} (x1 : Int32)  (hF : WA X ad ca LY RX8 cX8_ownAt 4 (some FieldType.int) (d + 1) kc ks QF 4 [(0, .ref 23), (2, .int x1), (3, .int 0)] [] M (PT x)) : WA X ad ca LY RX8 cX8_ownAt 4 (some FieldType.int) (d + 1) kc ks QF 0 [(0, .ref 23), (1, .int x1)] [] M (PT x) := by
  refine wa_iload_n dX8_ownAt_0 1 rfl rfl ?_
  refine wa_istore_n (lv' := [(2, .int x1), (0, .ref 23), (1, .int x1)]) dX8_ownAt_1 rfl rfl rfl ?_
  refine wa_iconst (v := 0) dX8_ownAt_2 rfl ?_
  refine wa_istore_n (lv' := [(3, .int 0), (2, .int x1), (0, .ref 23), (1, .int x1)]) dX8_ownAt_3 rfl rfl rfl ?_
  exact wa_pick [2, 1, 0] rfl hF

theorem bX8_ownAt_4 {X : a_X} {ad : Nat → Nat} {ca : Nat → ClassId} {d : Nat} {Post : Option Value → a_M → a_P → Prop} {x : Nat} {M : a_M} (x2 : Int32) (x3 : Int32)  (hF : (((M 24 2) ≤ x3 → Post (some (.int (-1))) M (PT x)) ∧ (¬ (M 24 2) ≤ x3 → (∃ Q1 : Int32 → a_M → Prop, Mt X ad ca LY d yX8_valueAt cX8_valueAt 4 (some FieldType.int) [.ref 23, .int x3] M (PT x) (q_i (PT x) Q1) ∧ ∀ v1 M1, Q1 v1 M1 → ((¬ v1 = 0 → WA X ad ca LY RX8 cX8_ownAt 4 (some FieldType.int) (d + 1) 0 0 (a_E X ad ca LY Post) 32 [(0, .ref 23), (2, .int x2), (3, .int x3)] [] M1 (PT x)) ∧ (v1 = 0 → ((¬ x2 = 0 → WA X ad ca LY RX8 cX8_ownAt 4 (some FieldType.int) (d + 1) 0 0 (a_E X ad ca LY Post) 32 [(0, .ref 23), (2, .int (x2 + (-1))), (3, .int x3)] [] M1 (PT x)) ∧ (x2 = 0 → Post (some (.int x3)) M1 (PT x))))))))) : WA X ad ca LY RX8 cX8_ownAt 4 (some FieldType.int) (d + 1) 0 0 (a_E X ad ca LY Post) 4 [(0, .ref 23), (2, .int x2), (3, .int x3)] [] M (PT x) := by
  refine wa_iload_n dX8_ownAt_4 2 rfl rfl ?_
  refine wa_aload_n dX8_ownAt_5 0 rfl rfl ?_
  refine wa_getr (r := 24) dX8_ownAt_6 fkX8_12 rfl rfl rfl ?_
  refine wb_geti (v := M 24 2) dX8_ownAt_9 fkX8_83 rfl rfl rfl ?_
  refine wa_icmp_ge (tgt := 38) dX8_ownAt_12 rfl (fun hc => ?_) (fun hc => ?_)
  · replace hF := hF.1 hc
    refine wa_iconst (v := (-1)) dX8_ownAt_38 rfl ?_
    exact wa_iret dX8_ownAt_39 rfl rfl hF
  · replace hF := hF.2 hc
    refine wa_aload_n dX8_ownAt_15 0 rfl rfl ?_
    refine wa_iload_n dX8_ownAt_16 2 rfl rfl ?_
    obtain ⟨Q1, hM9, hF⟩ := hF
    refine wa_callV [.int x3] dX8_ownAt_17 (mmX8_valueAt _ _) mlX8_114 mnX8_valueAt mseX8_valueAt rfl rfl rfl rfl (a_dlt d) rfl rfl hM9 ?_
    rintro r9 M1 P9 ⟨v1, rfl, rfl, hq9⟩
    replace hF := hF v1 M1 hq9
    simp only [Option.toList, List.cons_append, List.nil_append]
    refine wa_if_ne (tgt := 32) dX8_ownAt_20 rfl (fun hc => ?_) (fun hc => ?_)
    · replace hF := hF.1 hc
      exact hF
    · replace hF := hF.2 hc
      refine wa_iload_n dX8_ownAt_23 1 rfl rfl ?_
      refine wa_if_ne (tgt := 29) dX8_ownAt_24 rfl (fun hc => ?_) (fun hc => ?_)
      · replace hF := hF.1 hc
        refine wa_iinc (v := x2 + (-1)) (lv' := [(2, .int (x2 + (-1))), (0, .ref 23), (3, .int x3)]) dX8_ownAt_29 1 rfl rfl rfl rfl ?_
        exact wa_pick [1, 0, 2] rfl hF
      · replace hF := hF.2 hc
        refine wa_iload_n dX8_ownAt_27 2 rfl rfl ?_
        exact wa_iret dX8_ownAt_28 rfl rfl hF

theorem bX8_ownAt_32 {X : a_X} {ad : Nat → Nat} {ca : Nat → ClassId} {d : Nat} {kc ks : Nat} {QF : List Frame → Array Value → State → State → Prop} {x : Nat} {M : a_M} (x2 : Int32) (x3 : Int32)  (hF : WA X ad ca LY RX8 cX8_ownAt 4 (some FieldType.int) (d + 1) kc ks QF 4 [(0, .ref 23), (2, .int x2), (3, .int (x3 + 1))] [] M (PT x)) : WA X ad ca LY RX8 cX8_ownAt 4 (some FieldType.int) (d + 1) kc ks QF 32 [(0, .ref 23), (2, .int x2), (3, .int x3)] [] M (PT x) := by
  refine wa_iinc (v := x3 + 1) (lv' := [(3, .int (x3 + 1)), (0, .ref 23), (2, .int x2)]) dX8_ownAt_32 2 rfl rfl rfl rfl ?_
  refine wa_goto (tgt := 4) dX8_ownAt_35 rfl ?_
  exact wa_pick [1, 2, 0] rfl hF

theorem eX8_ownAt {X : a_X} {ad : Nat → Nat} {ca : Nat → ClassId} {d : Nat} {Post : Option Value → a_M → a_P → Prop} {x : Nat} {M : a_M} (x1 : Int32) (h : WA X ad ca LY RX8 cX8_ownAt 4 (some FieldType.int) d 0 0 (a_E X ad ca LY Post) 0 [(0, .ref 23), (1, .int x1)] [] M (PT x)) : Mt X ad ca LY d yX8_ownAt cX8_ownAt 4 (some FieldType.int) [.ref 23, .int x1] M (PT x) Post := Mt.of (lv := [(0, .ref 23), (1, .int x1)]) (by decide +kernel) rfl rfl rfl (wa_pick [0, 1] rfl h)

theorem bX8_howOften_0 {X : a_X} {ad : Nat → Nat} {ca : Nat → ClassId} {d : Nat} {kc ks : Nat} {QF : List Frame → Array Value → State → State → Prop} {x : Nat} {M : a_M} (x1 : Int32)  (hF : (¬ (0 : Int32) < 0 ∧ ¬ (0 : Int32) < 0 ∧ ¬ ((M 23 9) + 1 : Int32) < 0 ∧ (0 : Int32).toNatClampNeg + ((M 23 9) + 1 : Int32).toNatClampNeg ≤ 36 ∧ (0 : Int32).toNatClampNeg + ((M 23 9) + 1 : Int32).toNatClampNeg ≤ 36 ∧ WA X ad ca LY RX8 cX8_howOften 3 (some FieldType.int) (d + 1) kc ks QF 21 [(0, .ref 23), (1, .int x1), (2, .int 0)] [] (va_up M 27 (va_cpy (M 29) (M 27) (0 : Int32).toNatClampNeg (0 : Int32).toNatClampNeg ((M 23 9) + 1 : Int32).toNatClampNeg)) (PT x))) : WA X ad ca LY RX8 cX8_howOften 3 (some FieldType.int) (d + 1) kc ks QF 0 [(0, .ref 23), (1, .int x1)] [] M (PT x) := by
  refine wa_aload_n dX8_howOften_0 0 rfl rfl ?_
  refine wa_getr (r := 29) dX8_howOften_1 fkX8_38 rfl rfl rfl ?_
  refine wa_iconst (v := 0) dX8_howOften_4 rfl ?_
  refine wa_aload_n dX8_howOften_5 0 rfl rfl ?_
  refine wa_getr (r := 27) dX8_howOften_6 fkX8_32 rfl rfl rfl ?_
  refine wa_iconst (v := 0) dX8_howOften_9 rfl ?_
  refine wa_aload_n dX8_howOften_10 0 rfl rfl ?_
  refine wb_geti (v := M 23 9) dX8_howOften_11 fkX8_41 rfl rfl rfl ?_
  refine wa_iconst (v := 1) dX8_howOften_14 rfl ?_
  refine wa_iadd dX8_howOften_15 ?_
  obtain ⟨h91, h92, h93, h94, h95, hF⟩ := hF
  refine wa_copy dX8_howOften_16 mlX8_108 acn acs inJ10 rfl rfl h91 h92 h93 h94 h95 rfl ?_
  refine wa_iconst (v := 0) dX8_howOften_19 rfl ?_
  refine wa_istore_n (lv' := [(2, .int 0), (0, .ref 23), (1, .int x1)]) dX8_howOften_20 rfl rfl rfl ?_
  exact wa_pick [1, 2, 0] rfl hF

theorem bX8_howOften_21 {X : a_X} {ad : Nat → Nat} {ca : Nat → ClassId} {d : Nat} {kc ks : Nat} {QF : List Frame → Array Value → State → State → Prop} {x : Nat} {M : a_M} (x1 : Int32) (x2 : Int32)  (hF : (((M 23 9) ≤ x2 → WA X ad ca LY RX8 cX8_howOften 3 (some FieldType.int) (d + 1) kc ks QF 44 [(2, .int x2)] [] M (PT x)) ∧ (¬ (M 23 9) ≤ x2 → (∃ Q1 : Int32 → a_M → Prop, Mt X ad ca LY d yX8_dividesRest cX8_dividesRest 4 (some FieldType.boolean) [.ref 23, .int x1, .int x2] M (PT x) (q_i (PT x) Q1) ∧ ∀ v1 M1, Q1 v1 M1 → ((v1 = 0 → WA X ad ca LY RX8 cX8_howOften 3 (some FieldType.int) (d + 1) kc ks QF 44 [(2, .int x2)] [] M1 (PT x)) ∧ (¬ v1 = 0 → WA X ad ca LY RX8 cX8_howOften 3 (some FieldType.int) (d + 1) kc ks QF 21 [(0, .ref 23), (1, .int x1), (2, .int (x2 + 1))] [] M1 (PT x))))))) : WA X ad ca LY RX8 cX8_howOften 3 (some FieldType.int) (d + 1) kc ks QF 21 [(0, .ref 23), (1, .int x1), (2, .int x2)] [] M (PT x) := by
  refine wa_iload_n dX8_howOften_21 2 rfl rfl ?_
  refine wa_aload_n dX8_howOften_22 0 rfl rfl ?_
  refine wb_geti (v := M 23 9) dX8_howOften_23 fkX8_41 rfl rfl rfl ?_
  refine wa_icmp_ge (tgt := 44) dX8_howOften_26 rfl (fun hc => ?_) (fun hc => ?_)
  · replace hF := hF.1 hc
    exact wa_pick [2] rfl hF
  · replace hF := hF.2 hc
    refine wa_aload_n dX8_howOften_29 0 rfl rfl ?_
    refine wa_iload_n dX8_howOften_30 1 rfl rfl ?_
    refine wa_iload_n dX8_howOften_31 2 rfl rfl ?_
    obtain ⟨Q1, hM9, hF⟩ := hF
    refine wa_callV [.int x1, .int x2] dX8_howOften_32 (mmX8_dividesRest _ _) mlX8_117 mnX8_dividesRest mseX8_dividesRest rfl rfl rfl rfl (a_dlt d) rfl rfl hM9 ?_
    rintro r9 M1 P9 ⟨v1, rfl, rfl, hq9⟩
    replace hF := hF v1 M1 hq9
    simp only [Option.toList, List.cons_append, List.nil_append]
    refine wa_if_eq (tgt := 44) dX8_howOften_35 rfl (fun hc => ?_) (fun hc => ?_)
    · replace hF := hF.1 hc
      exact wa_pick [2] rfl hF
    · replace hF := hF.2 hc
      refine wa_iinc (v := x2 + 1) (lv' := [(2, .int (x2 + 1)), (0, .ref 23), (1, .int x1)]) dX8_howOften_38 2 rfl rfl rfl rfl ?_
      refine wa_goto (tgt := 21) dX8_howOften_41 rfl ?_
      exact wa_pick [1, 2, 0] rfl hF

theorem bX8_howOften_44 {X : a_X} {ad : Nat → Nat} {ca : Nat → ClassId} {d : Nat} {Post : Option Value → a_M → a_P → Prop} {x : Nat} {M : a_M} (x2 : Int32)  (hF : Post (some (.int x2)) M (PT x)) : WA X ad ca LY RX8 cX8_howOften 3 (some FieldType.int) (d + 1) 0 0 (a_E X ad ca LY Post) 44 [(2, .int x2)] [] M (PT x) := by
  refine wa_iload_n dX8_howOften_44 0 rfl rfl ?_
  exact wa_iret dX8_howOften_45 rfl rfl hF

theorem eX8_howOften {X : a_X} {ad : Nat → Nat} {ca : Nat → ClassId} {d : Nat} {Post : Option Value → a_M → a_P → Prop} {x : Nat} {M : a_M} (x1 : Int32) (h : WA X ad ca LY RX8 cX8_howOften 3 (some FieldType.int) d 0 0 (a_E X ad ca LY Post) 0 [(0, .ref 23), (1, .int x1)] [] M (PT x)) : Mt X ad ca LY d yX8_howOften cX8_howOften 3 (some FieldType.int) [.ref 23, .int x1] M (PT x) Post := Mt.of (lv := [(0, .ref 23), (1, .int x1)]) (by decide +kernel) rfl rfl rfl (wa_pick [0, 1] rfl h)

theorem bX8_dividesRest_0 {X : a_X} {ad : Nat → Nat} {ca : Nat → ClassId} {d : Nat} {kc ks : Nat} {QF : List Frame → Array Value → State → State → Prop} {x : Nat} {M : a_M} (x1 : Int32) (x2 : Int32)  (hF : WA X ad ca LY RX8 cX8_dividesRest 4 (some FieldType.boolean) (d + 1) kc ks QF 7 [(0, .ref 23), (1, .int x1), (2, .int x2), (3, .int ((M 23 9) - 1))] [] M (PT x)) : WA X ad ca LY RX8 cX8_dividesRest 4 (some FieldType.boolean) (d + 1) kc ks QF 0 [(0, .ref 23), (1, .int x1), (2, .int x2)] [] M (PT x) := by
  refine wa_aload_n dX8_dividesRest_0 0 rfl rfl ?_
  refine wb_geti (v := M 23 9) dX8_dividesRest_1 fkX8_41 rfl rfl rfl ?_
  refine wa_iconst (v := 1) dX8_dividesRest_4 rfl ?_
  refine wa_isub dX8_dividesRest_5 ?_
  refine wa_istore_n (lv' := [(3, .int ((M 23 9) - 1)), (0, .ref 23), (1, .int x1), (2, .int x2)]) dX8_dividesRest_6 rfl rfl rfl ?_
  exact wa_pick [1, 2, 3, 0] rfl hF

theorem bX8_dividesRest_7 {X : a_X} {ad : Nat → Nat} {ca : Nat → ClassId} {d : Nat} {Post : Option Value → a_M → a_P → Prop} {x : Nat} {M : a_M} (x1 : Int32) (x2 : Int32) (x3 : Int32)  (hF : ((x3 < x2 → (vp_in x2 36 ∧ ((¬ (M 27 x2.toNatClampNeg) = 0 → Post (some (.int 0)) M (PT x)) ∧ ((M 27 x2.toNatClampNeg) = 0 → Post (some (.int 1)) M (PT x))))) ∧ (¬ x3 < x2 → (vp_in x3 36 ∧ (vp_in (x3 + 1) 36 ∧ (∃ Q1 : Int32 → a_M → Prop, Mt X ad ca LY d yX11_left cX11_left 3 (some FieldType.int) [.int ((M 27 x3.toNatClampNeg) + (x1 * (M 27 ((x3 + 1).toNatClampNeg)))), .int (M 24 2)] M (PT x) (q_i (PT x) Q1) ∧ ∀ v1 M1, Q1 v1 M1 → (vp_in x3 36 ∧ WA X ad ca LY RX8 cX8_dividesRest 4 (some FieldType.boolean) (d + 1) 0 0 (a_E X ad ca LY Post) 7 [(0, .ref 23), (1, .int x1), (2, .int x2), (3, .int (x3 + (-1)))] [] (ms M1 27 x3.toNatClampNeg v1) (PT x)))))))) : WA X ad ca LY RX8 cX8_dividesRest 4 (some FieldType.boolean) (d + 1) 0 0 (a_E X ad ca LY Post) 7 [(0, .ref 23), (1, .int x1), (2, .int x2), (3, .int x3)] [] M (PT x) := by
  refine wa_iload_n dX8_dividesRest_7 3 rfl rfl ?_
  refine wa_iload_n dX8_dividesRest_8 2 rfl rfl ?_
  refine wa_icmp_lt (tgt := 51) dX8_dividesRest_9 rfl (fun hc => ?_) (fun hc => ?_)
  · replace hF := hF.1 hc
    refine wa_aload_n dX8_dividesRest_51 0 rfl rfl ?_
    refine wa_getr (r := 27) dX8_dividesRest_52 fkX8_32 rfl rfl rfl ?_
    refine wa_iload_n dX8_dividesRest_55 2 rfl rfl ?_
    obtain ⟨hi9, hF⟩ := hF
    refine wb_iald (j := x2.toNatClampNeg) (v := M 27 x2.toNatClampNeg) dX8_dividesRest_56 rfl hi9 rfl rfl ?_
    refine wa_if_ne (tgt := 64) dX8_dividesRest_57 rfl (fun hc => ?_) (fun hc => ?_)
    · replace hF := hF.1 hc
      refine wa_iconst (v := 0) dX8_dividesRest_64 rfl ?_
      exact wa_iret dX8_dividesRest_65 rfl rfl hF
    · replace hF := hF.2 hc
      refine wa_iconst (v := 1) dX8_dividesRest_60 rfl ?_
      refine wa_goto (tgt := 65) dX8_dividesRest_61 rfl ?_
      exact wa_iret dX8_dividesRest_65 rfl rfl hF
  · replace hF := hF.2 hc
    refine wa_aload_n dX8_dividesRest_12 0 rfl rfl ?_
    refine wa_getr (r := 27) dX8_dividesRest_13 fkX8_32 rfl rfl rfl ?_
    refine wa_iload_n dX8_dividesRest_16 3 rfl rfl ?_
    refine wa_aload_n dX8_dividesRest_17 0 rfl rfl ?_
    refine wa_getr (r := 27) dX8_dividesRest_18 fkX8_32 rfl rfl rfl ?_
    refine wa_iload_n dX8_dividesRest_21 3 rfl rfl ?_
    obtain ⟨hi9, hF⟩ := hF
    refine wb_iald (j := x3.toNatClampNeg) (v := M 27 x3.toNatClampNeg) dX8_dividesRest_22 rfl hi9 rfl rfl ?_
    refine wa_iload_n dX8_dividesRest_23 1 rfl rfl ?_
    refine wa_aload_n dX8_dividesRest_24 0 rfl rfl ?_
    refine wa_getr (r := 27) dX8_dividesRest_25 fkX8_32 rfl rfl rfl ?_
    refine wa_iload_n dX8_dividesRest_28 3 rfl rfl ?_
    refine wa_iconst (v := 1) dX8_dividesRest_29 rfl ?_
    refine wa_iadd dX8_dividesRest_30 ?_
    obtain ⟨hi9, hF⟩ := hF
    refine wb_iald (j := (x3 + 1).toNatClampNeg) (v := M 27 ((x3 + 1).toNatClampNeg)) dX8_dividesRest_31 rfl hi9 rfl rfl ?_
    refine wa_imul dX8_dividesRest_32 ?_
    refine wa_iadd dX8_dividesRest_33 ?_
    refine wa_aload_n dX8_dividesRest_34 0 rfl rfl ?_
    refine wa_getr (r := 24) dX8_dividesRest_35 fkX8_12 rfl rfl rfl ?_
    refine wb_geti (v := M 24 2) dX8_dividesRest_38 fkX8_83 rfl rfl rfl ?_
    obtain ⟨Q1, hM9, hF⟩ := hF
    refine wa_callSN [.int ((M 27 x3.toNatClampNeg) + (x1 * (M 27 ((x3 + 1).toNatClampNeg)))), .int (M 24 2)] dX8_dividesRest_41 (mmX11_left _ _) mkX8_97 mstX11_left rfl (a_dlt d) rfl rfl hM9 ?_
    rintro r9 M1 P9 ⟨v1, rfl, rfl, hq9⟩
    replace hF := hF v1 M1 hq9
    simp only [Option.toList, List.cons_append, List.nil_append]
    obtain ⟨hi9, hF⟩ := hF
    refine wb_iast (j := x3.toNatClampNeg) dX8_dividesRest_44 rfl hi9 rfl ?_
    refine wa_iinc (v := x3 + (-1)) (lv' := [(3, .int (x3 + (-1))), (0, .ref 23), (1, .int x1), (2, .int x2)]) dX8_dividesRest_45 3 rfl rfl rfl rfl ?_
    refine wa_goto (tgt := 7) dX8_dividesRest_48 rfl ?_
    exact wa_pick [1, 2, 3, 0] rfl hF

theorem eX8_dividesRest {X : a_X} {ad : Nat → Nat} {ca : Nat → ClassId} {d : Nat} {Post : Option Value → a_M → a_P → Prop} {x : Nat} {M : a_M} (x1 : Int32) (x2 : Int32) (h : WA X ad ca LY RX8 cX8_dividesRest 4 (some FieldType.boolean) d 0 0 (a_E X ad ca LY Post) 0 [(0, .ref 23), (1, .int x1), (2, .int x2)] [] M (PT x)) : Mt X ad ca LY d yX8_dividesRest cX8_dividesRest 4 (some FieldType.boolean) [.ref 23, .int x1, .int x2] M (PT x) Post := Mt.of (lv := [(0, .ref 23), (1, .int x1), (2, .int x2)]) (by decide +kernel) rfl rfl rfl (wa_pick [0, 1, 2] rfl h)

theorem bX9_copyFrom_0 {X : a_X} {ad : Nat → Nat} {ca : Nat → ClassId} {d : Nat} {Post : Option Value → a_M → a_P → Prop} {x : Nat} {M : a_M} (o0 : Nat) (o1 : Nat) (ro0_0 : Nat) (ro1_0 : Nat) (ro0_1 : Nat) (ro1_1 : Nat) (hLo0 : LY[o0]? = some (9, 4)) (hLo1 : LY[o1]? = some (9, 4)) (hLro0_0 : LY[ro0_0]? = some (6, 5)) (hpro0_0 : PT x o0 0 = ro0_0 + 1) (hLro1_0 : LY[ro1_0]? = some (6, 5)) (hpro1_0 : PT x o1 0 = ro1_0 + 1) (hLro0_1 : LY[ro0_1]? = some (2, 4)) (hpro0_1 : PT x o0 1 = ro0_1 + 1) (hLro1_1 : LY[ro1_1]? = some (2, 4)) (hpro1_1 : PT x o1 1 = ro1_1 + 1) (hF : (∃ Q1 : a_M → Prop, Mt X ad ca LY d yX6_copyFrom cX6_copyFrom 2 none [.ref ro0_0, .ref ro1_0] M (PT x) (q_v (PT x) Q1) ∧ ∀ M1, Q1 M1 → (∃ Q2 : a_M → Prop, Mt X ad ca LY d yX2_copyFrom cX2_copyFrom 3 none [.ref ro0_1, .ref ro1_1] M1 (PT x) (q_v (PT x) Q2) ∧ ∀ M2, Q2 M2 → Post none (ms (ms M2 o0 2 (M2 o1 2)) o0 3 (M2 o1 3)) (PT x)))) : WA X ad ca LY RX9 cX9_copyFrom 2 none (d + 1) 0 0 (a_E X ad ca LY Post) 0 [(0, .ref o0), (1, .ref o1)] [] M (PT x) := by
  refine wa_aload_n dX9_copyFrom_0 0 rfl rfl ?_
  refine wa_getr (r := ro0_0) dX9_copyFrom_1 fkX9_12 rfl hLo0 hpro0_0 ?_
  refine wa_aload_n dX9_copyFrom_4 1 rfl rfl ?_
  refine wa_getr (r := ro1_0) dX9_copyFrom_5 fkX9_12 rfl hLo1 hpro1_0 ?_
  obtain ⟨Q1, hM9, hF⟩ := hF
  refine wa_callV [.ref ro1_0] dX9_copyFrom_8 (mmX6_copyFrom _ _) mlX9_35 mnX6_copyFrom mseX6_copyFrom hLro0_0 rfl rfl rfl (a_dlt d) rfl rfl hM9 ?_
  rintro r9 M1 P9 ⟨rfl, rfl, hq9⟩
  replace hF := hF M1 hq9
  simp only [Option.toList, List.nil_append]
  refine wa_aload_n dX9_copyFrom_11 0 rfl rfl ?_
  refine wa_getr (r := ro0_1) dX9_copyFrom_12 fkX9_21 rfl hLo0 hpro0_1 ?_
  refine wa_aload_n dX9_copyFrom_15 1 rfl rfl ?_
  refine wa_getr (r := ro1_1) dX9_copyFrom_16 fkX9_21 rfl hLo1 hpro1_1 ?_
  obtain ⟨Q2, hM9, hF⟩ := hF
  refine wa_callV [.ref ro1_1] dX9_copyFrom_19 (mmX2_copyFrom _ _) mlX9_39 mnX2_copyFrom mseX2_copyFrom hLro0_1 rfl rfl rfl (a_dlt d) rfl rfl hM9 ?_
  rintro r9 M2 P9 ⟨rfl, rfl, hq9⟩
  replace hF := hF M2 hq9
  simp only [Option.toList, List.nil_append]
  refine wa_aload_n dX9_copyFrom_22 0 rfl rfl ?_
  refine wa_aload_n dX9_copyFrom_23 1 rfl rfl ?_
  refine wb_geti (v := M2 o1 2) dX9_copyFrom_24 fkX9_25 rfl hLo1 rfl ?_
  refine wb_puti dX9_copyFrom_27 fkX9_25 fmX9_2 rfl hLo0 ?_
  refine wa_aload_n dX9_copyFrom_30 0 rfl rfl ?_
  refine wa_aload_n dX9_copyFrom_31 1 rfl rfl ?_
  refine wb_geti (v := M2 o1 3) dX9_copyFrom_32 fkX9_29 rfl hLo1 ((ms_no M2 o0 2 (M2 o1 2) o1 3 (fun h9 => absurd h9.2 (by decide))).trans rfl) ?_
  refine wb_puti dX9_copyFrom_35 fkX9_29 fmX9_3 rfl hLo0 ?_
  exact wa_vret dX9_copyFrom_38 rfl hF

theorem eX9_copyFrom {X : a_X} {ad : Nat → Nat} {ca : Nat → ClassId} {d : Nat} {Post : Option Value → a_M → a_P → Prop} {x : Nat} {M : a_M} (o0 : Nat) (o1 : Nat) (h : WA X ad ca LY RX9 cX9_copyFrom 2 none d 0 0 (a_E X ad ca LY Post) 0 [(0, .ref o0), (1, .ref o1)] [] M (PT x)) : Mt X ad ca LY d yX9_copyFrom cX9_copyFrom 2 none [.ref o0, .ref o1] M (PT x) Post := Mt.of (lv := [(0, .ref o0), (1, .ref o1)]) (by decide +kernel) rfl rfl rfl (wa_pick [0, 1] rfl h)

theorem bX10_add_0 {X : a_X} {ad : Nat → Nat} {ca : Nat → ClassId} {d : Nat} {kc ks : Nat} {QF : List Frame → Array Value → State → State → Prop} {x : Nat} {M : a_M} (x1 : Int32)  (hF : WA X ad ca LY RX10 cX10_add 3 none (d + 1) kc ks QF 3 [(0, .ref 1), (1, .int x1), (2, .int 24)] [] M (PT x)) : WA X ad ca LY RX10 cX10_add 3 none (d + 1) kc ks QF 0 [(0, .ref 1), (1, .int x1)] [] M (PT x) := by
  refine wa_bipush (v := 24) dX10_add_0 rfl ?_
  refine wa_istore_n (lv' := [(2, .int 24), (0, .ref 1), (1, .int x1)]) dX10_add_2 rfl rfl rfl ?_
  exact wa_pick [1, 2, 0] rfl hF

theorem bX10_add_3 {X : a_X} {ad : Nat → Nat} {ca : Nat → ClassId} {d : Nat} {Post : Option Value → a_M → a_P → Prop} {x : Nat} {M : a_M} (x1 : Int32) (x2 : Int32)  (hF : ((x2 < 0 → Post none M (PT x)) ∧ (¬ x2 < 0 → ((300 ≤ (M 1 3) → WA X ad ca LY RX10 cX10_add 3 none (d + 1) 0 0 (a_E X ad ca LY Post) 43 [(0, .ref 1), (1, .int x1), (2, .int x2)] [] M (PT x)) ∧ (¬ 300 ≤ (M 1 3) → (vp_in (M 1 3) 300 ∧ WA X ad ca LY RX10 cX10_add 3 none (d + 1) 0 0 (a_E X ad ca LY Post) 43 [(0, .ref 1), (1, .int x1), (2, .int x2)] [] (ms (ms M 2 ((M 1 3).toNatClampNeg) ((x1 >>> (x2 &&& 31)) &&& 255)) 1 3 ((M 1 3) + 1)) (PT x))))))) : WA X ad ca LY RX10 cX10_add 3 none (d + 1) 0 0 (a_E X ad ca LY Post) 3 [(0, .ref 1), (1, .int x1), (2, .int x2)] [] M (PT x) := by
  refine wa_iload_n dX10_add_3 2 rfl rfl ?_
  refine wa_if_lt (tgt := 49) dX10_add_4 rfl (fun hc => ?_) (fun hc => ?_)
  · replace hF := hF.1 hc
    exact wa_vret dX10_add_49 rfl hF
  · replace hF := hF.2 hc
    refine wa_aload_n dX10_add_7 0 rfl rfl ?_
    refine wb_geti (v := M 1 3) dX10_add_8 fkX10_19 rfl rfl rfl ?_
    refine wa_sipush (v := 300) dX10_add_11 rfl ?_
    refine wa_icmp_ge (tgt := 43) dX10_add_14 rfl (fun hc => ?_) (fun hc => ?_)
    · replace hF := hF.1 hc
      exact hF
    · replace hF := hF.2 hc
      refine wa_aload_n dX10_add_17 0 rfl rfl ?_
      refine wa_getr (r := 2) dX10_add_18 fkX10_9 rfl rfl rfl ?_
      refine wa_aload_n dX10_add_21 0 rfl rfl ?_
      refine wb_geti (v := M 1 3) dX10_add_22 fkX10_19 rfl rfl rfl ?_
      refine wa_iload_n dX10_add_25 1 rfl rfl ?_
      refine wa_iload_n dX10_add_26 2 rfl rfl ?_
      refine wa_ishr dX10_add_27 ?_
      refine wa_sipush (v := 255) dX10_add_28 rfl ?_
      refine wa_iand dX10_add_31 ?_
      obtain ⟨hi9, hF⟩ := hF
      refine wb_iast (j := (M 1 3).toNatClampNeg) dX10_add_32 rfl hi9 rfl ?_
      refine wa_aload_n dX10_add_33 0 rfl rfl ?_
      refine wa_dup dX10_add_34 rfl ?_
      refine wb_geti (v := M 1 3) dX10_add_35 fkX10_19 rfl rfl ((ms_no M 2 ((M 1 3).toNatClampNeg) ((x1 >>> (x2 &&& 31)) &&& 255) 1 3 (fun h9 => absurd h9.1 (by decide))).trans rfl) ?_
      refine wa_iconst (v := 1) dX10_add_38 rfl ?_
      refine wa_iadd dX10_add_39 ?_
      refine wb_puti dX10_add_40 fkX10_19 fmX10_3 rfl rfl ?_
      exact hF

theorem bX10_add_43 {X : a_X} {ad : Nat → Nat} {ca : Nat → ClassId} {d : Nat} {kc ks : Nat} {QF : List Frame → Array Value → State → State → Prop} {x : Nat} {M : a_M} (x1 : Int32) (x2 : Int32)  (hF : WA X ad ca LY RX10 cX10_add 3 none (d + 1) kc ks QF 3 [(0, .ref 1), (1, .int x1), (2, .int (x2 + (-8)))] [] M (PT x)) : WA X ad ca LY RX10 cX10_add 3 none (d + 1) kc ks QF 43 [(0, .ref 1), (1, .int x1), (2, .int x2)] [] M (PT x) := by
  refine wa_iinc (v := x2 + (-8)) (lv' := [(2, .int (x2 + (-8))), (0, .ref 1), (1, .int x1)]) dX10_add_43 2 rfl rfl rfl rfl ?_
  refine wa_goto (tgt := 3) dX10_add_46 rfl ?_
  exact wa_pick [1, 2, 0] rfl hF

theorem eX10_add {X : a_X} {ad : Nat → Nat} {ca : Nat → ClassId} {d : Nat} {Post : Option Value → a_M → a_P → Prop} {x : Nat} {M : a_M} (x1 : Int32) (h : WA X ad ca LY RX10 cX10_add 3 none d 0 0 (a_E X ad ca LY Post) 0 [(0, .ref 1), (1, .int x1)] [] M (PT x)) : Mt X ad ca LY d yX10_add cX10_add 3 none [.ref 1, .int x1] M (PT x) Post := Mt.of (lv := [(0, .ref 1), (1, .int x1)]) (by decide +kernel) rfl rfl rfl (wa_pick [0, 1] rfl h)

theorem bX10_start_0 {X : a_X} {ad : Nat → Nat} {ca : Nat → ClassId} {d : Nat} {Post : Option Value → a_M → a_P → Prop} {x : Nat} {M : a_M} (x1 : Int32)  (hF : ((x1 < 0 → WA X ad ca LY RX10 cX10_start 2 (some FieldType.int) (d + 1) 0 0 (a_E X ad ca LY Post) 22 [(0, .ref 1)] [] M (PT x)) ∧ (¬ x1 < 0 → ((301 ≤ x1 → WA X ad ca LY RX10 cX10_start 2 (some FieldType.int) (d + 1) 0 0 (a_E X ad ca LY Post) 22 [(0, .ref 1)] [] M (PT x)) ∧ (¬ 301 ≤ x1 → (vp_in x1 301 ∧ Post (some (.int (M 4 x1.toNatClampNeg))) M (PT x))))))) : WA X ad ca LY RX10 cX10_start 2 (some FieldType.int) (d + 1) 0 0 (a_E X ad ca LY Post) 0 [(0, .ref 1), (1, .int x1)] [] M (PT x) := by
  refine wa_iload_n dX10_start_0 1 rfl rfl ?_
  refine wa_if_lt (tgt := 22) dX10_start_1 rfl (fun hc => ?_) (fun hc => ?_)
  · replace hF := hF.1 hc
    exact wa_pick [0] rfl hF
  · replace hF := hF.2 hc
    refine wa_iload_n dX10_start_4 1 rfl rfl ?_
    refine wa_aload_n dX10_start_5 0 rfl rfl ?_
    refine wa_getr (r := 4) dX10_start_6 fkX10_16 rfl rfl rfl ?_
    refine wa_alen (v := 301) dX10_start_9 rfl (by decide) rfl ?_
    refine wa_icmp_ge (tgt := 22) dX10_start_10 rfl (fun hc => ?_) (fun hc => ?_)
    · replace hF := hF.1 hc
      exact wa_pick [0] rfl hF
    · replace hF := hF.2 hc
      refine wa_aload_n dX10_start_13 0 rfl rfl ?_
      refine wa_getr (r := 4) dX10_start_14 fkX10_16 rfl rfl rfl ?_
      refine wa_iload_n dX10_start_17 1 rfl rfl ?_
      obtain ⟨hi9, hF⟩ := hF
      refine wb_iald (j := x1.toNatClampNeg) (v := M 4 x1.toNatClampNeg) dX10_start_18 rfl hi9 rfl rfl ?_
      refine wa_goto (tgt := 26) dX10_start_19 rfl ?_
      exact wa_iret dX10_start_26 rfl rfl hF

theorem bX10_start_22 {X : a_X} {ad : Nat → Nat} {ca : Nat → ClassId} {d : Nat} {Post : Option Value → a_M → a_P → Prop} {x : Nat} {M : a_M}   (hF : Post (some (.int (M 1 3))) M (PT x)) : WA X ad ca LY RX10 cX10_start 2 (some FieldType.int) (d + 1) 0 0 (a_E X ad ca LY Post) 22 [(0, .ref 1)] [] M (PT x) := by
  refine wa_aload_n dX10_start_22 0 rfl rfl ?_
  refine wb_geti (v := M 1 3) dX10_start_23 fkX10_19 rfl rfl rfl ?_
  exact wa_iret dX10_start_26 rfl rfl hF

theorem eX10_start {X : a_X} {ad : Nat → Nat} {ca : Nat → ClassId} {d : Nat} {Post : Option Value → a_M → a_P → Prop} {x : Nat} {M : a_M} (x1 : Int32) (h : WA X ad ca LY RX10 cX10_start 2 (some FieldType.int) d 0 0 (a_E X ad ca LY Post) 0 [(0, .ref 1), (1, .int x1)] [] M (PT x)) : Mt X ad ca LY d yX10_start cX10_start 2 (some FieldType.int) [.ref 1, .int x1] M (PT x) Post := Mt.of (lv := [(0, .ref 1), (1, .int x1)]) (by decide +kernel) rfl rfl rfl (wa_pick [0, 1] rfl h)

theorem bX10_split_0 {X : a_X} {ad : Nat → Nat} {ca : Nat → ClassId} {d : Nat} {kc ks : Nat} {QF : List Frame → Array Value → State → State → Prop} {x : Nat} {M : a_M}   (hF : WA X ad ca LY RX10 cX10_split 4 none (d + 1) kc ks QF 6 [(0, .ref 1), (1, .int 0), (2, .int 0), (3, .int 0)] [] M (PT x)) : WA X ad ca LY RX10 cX10_split 4 none (d + 1) kc ks QF 0 [(0, .ref 1)] [] M (PT x) := by
  refine wa_iconst (v := 0) dX10_split_0 rfl ?_
  refine wa_istore_n (lv' := [(1, .int 0), (0, .ref 1)]) dX10_split_1 rfl rfl rfl ?_
  refine wa_iconst (v := 0) dX10_split_2 rfl ?_
  refine wa_istore_n (lv' := [(2, .int 0), (1, .int 0), (0, .ref 1)]) dX10_split_3 rfl rfl rfl ?_
  refine wa_iconst (v := 0) dX10_split_4 rfl ?_
  refine wa_istore_n (lv' := [(3, .int 0), (2, .int 0), (1, .int 0), (0, .ref 1)]) dX10_split_5 rfl rfl rfl ?_
  exact wa_pick [3, 2, 1, 0] rfl hF

theorem bX10_split_6 {X : a_X} {ad : Nat → Nat} {ca : Nat → ClassId} {d : Nat} {Post : Option Value → a_M → a_P → Prop} {x : Nat} {M : a_M} (x1 : Int32) (x2 : Int32) (x3 : Int32)  (hF : (((M 1 3) ≤ x3 → (vp_in x1 301 ∧ (vp_in x1 301 ∧ Post none (ms (ms M 4 x1.toNatClampNeg (M 1 3)) 3 x1.toNatClampNeg (-1)) (PT x)))) ∧ (¬ (M 1 3) ≤ x3 → ((x3 < x2 → WA X ad ca LY RX10 cX10_split 4 none (d + 1) 0 0 (a_E X ad ca LY Post) 69 [(0, .ref 1), (1, .int x1), (2, .int x2), (3, .int x3)] [] M (PT x)) ∧ (¬ x3 < x2 → (vp_in x3 300 ∧ (((M 2 x3.toNatClampNeg) = 32 → WA X ad ca LY RX10 cX10_split 4 none (d + 1) 0 0 (a_E X ad ca LY Post) 69 [(0, .ref 1), (1, .int x1), (2, .int x2), (3, .int x3)] [] M (PT x)) ∧ (¬ (M 2 x3.toNatClampNeg) = 32 → (vp_in x3 300 ∧ (((M 2 x3.toNatClampNeg) = 10 → WA X ad ca LY RX10 cX10_split 4 none (d + 1) 0 0 (a_E X ad ca LY Post) 69 [(0, .ref 1), (1, .int x1), (2, .int x2), (3, .int x3)] [] M (PT x)) ∧ (¬ (M 2 x3.toNatClampNeg) = 10 → (∃ Q1 : Int32 → a_M → Prop, Mt X ad ca LY d yX10_stopOf cX10_stopOf 4 (some FieldType.int) [.ref 1, .int x3] M (PT x) (q_i (PT x) Q1) ∧ ∀ v1 M1, Q1 v1 M1 → (vp_in x1 301 ∧ (∃ Q2 : Int32 → a_M → Prop, Mt X ad ca LY d yX10_tokenOf cX10_tokenOf 4 (some FieldType.int) [.ref 1, .int x3, .int v1] (ms M1 4 x1.toNatClampNeg x3) (PT x) (q_i (PT x) Q2) ∧ ∀ v2 M2, Q2 v2 M2 → (vp_in x1 301 ∧ WA X ad ca LY RX10 cX10_split 4 none (d + 1) 0 0 (a_E X ad ca LY Post) 69 [(0, .ref 1), (1, .int (x1 + 1)), (2, .int v1), (3, .int x3)] [] (ms M2 3 x1.toNatClampNeg v2) (PT x)))))))))))))))) : WA X ad ca LY RX10 cX10_split 4 none (d + 1) 0 0 (a_E X ad ca LY Post) 6 [(0, .ref 1), (1, .int x1), (2, .int x2), (3, .int x3)] [] M (PT x) := by
  refine wa_iload_n dX10_split_6 3 rfl rfl ?_
  refine wa_aload_n dX10_split_7 0 rfl rfl ?_
  refine wb_geti (v := M 1 3) dX10_split_8 fkX10_19 rfl rfl rfl ?_
  refine wa_icmp_ge (tgt := 75) dX10_split_11 rfl (fun hc => ?_) (fun hc => ?_)
  · replace hF := hF.1 hc
    refine wa_aload_n dX10_split_75 0 rfl rfl ?_
    refine wa_getr (r := 4) dX10_split_76 fkX10_16 rfl rfl rfl ?_
    refine wa_iload_n dX10_split_79 1 rfl rfl ?_
    refine wa_aload_n dX10_split_80 0 rfl rfl ?_
    refine wb_geti (v := M 1 3) dX10_split_81 fkX10_19 rfl rfl rfl ?_
    obtain ⟨hi9, hF⟩ := hF
    refine wb_iast (j := x1.toNatClampNeg) dX10_split_84 rfl hi9 rfl ?_
    refine wa_aload_n dX10_split_85 0 rfl rfl ?_
    refine wa_getr (r := 3) dX10_split_86 fkX10_13 rfl rfl rfl ?_
    refine wa_iload_n dX10_split_89 1 rfl rfl ?_
    refine wa_iconst (v := (-1)) dX10_split_90 rfl ?_
    obtain ⟨hi9, hF⟩ := hF
    refine wb_iast (j := x1.toNatClampNeg) dX10_split_91 rfl hi9 rfl ?_
    exact wa_vret dX10_split_92 rfl hF
  · replace hF := hF.2 hc
    refine wa_iload_n dX10_split_14 3 rfl rfl ?_
    refine wa_iload_n dX10_split_15 2 rfl rfl ?_
    refine wa_icmp_lt (tgt := 69) dX10_split_16 rfl (fun hc => ?_) (fun hc => ?_)
    · replace hF := hF.1 hc
      exact hF
    · replace hF := hF.2 hc
      refine wa_aload_n dX10_split_19 0 rfl rfl ?_
      refine wa_getr (r := 2) dX10_split_20 fkX10_9 rfl rfl rfl ?_
      refine wa_iload_n dX10_split_23 3 rfl rfl ?_
      obtain ⟨hi9, hF⟩ := hF
      refine wb_iald (j := x3.toNatClampNeg) (v := M 2 x3.toNatClampNeg) dX10_split_24 rfl hi9 rfl rfl ?_
      refine wa_bipush (v := 32) dX10_split_25 rfl ?_
      refine wa_icmp_eq (tgt := 69) dX10_split_27 rfl (fun hc => ?_) (fun hc => ?_)
      · replace hF := hF.1 hc
        exact hF
      · replace hF := hF.2 hc
        refine wa_aload_n dX10_split_30 0 rfl rfl ?_
        refine wa_getr (r := 2) dX10_split_31 fkX10_9 rfl rfl rfl ?_
        refine wa_iload_n dX10_split_34 3 rfl rfl ?_
        obtain ⟨hi9, hF⟩ := hF
        refine wb_iald (j := x3.toNatClampNeg) (v := M 2 x3.toNatClampNeg) dX10_split_35 rfl hi9 rfl rfl ?_
        refine wa_bipush (v := 10) dX10_split_36 rfl ?_
        refine wa_icmp_eq (tgt := 69) dX10_split_38 rfl (fun hc => ?_) (fun hc => ?_)
        · replace hF := hF.1 hc
          exact hF
        · replace hF := hF.2 hc
          refine wa_aload_n dX10_split_41 0 rfl rfl ?_
          refine wa_iload_n dX10_split_42 3 rfl rfl ?_
          obtain ⟨Q1, hM9, hF⟩ := hF
          refine wa_callV [.int x3] dX10_split_43 (mmX10_stopOf _ _) mlX10_23 mnX10_stopOf mseX10_stopOf rfl rfl rfl rfl (a_dlt d) rfl rfl hM9 ?_
          rintro r9 M1 P9 ⟨v1, rfl, rfl, hq9⟩
          replace hF := hF v1 M1 hq9
          simp only [Option.toList, List.cons_append, List.nil_append]
          refine wa_istore_n (lv' := [(2, .int v1), (0, .ref 1), (1, .int x1), (3, .int x3)]) dX10_split_46 rfl rfl rfl ?_
          refine wa_aload_n dX10_split_47 1 rfl rfl ?_
          refine wa_getr (r := 4) dX10_split_48 fkX10_16 rfl rfl rfl ?_
          refine wa_iload_n dX10_split_51 2 rfl rfl ?_
          refine wa_iload_n dX10_split_52 3 rfl rfl ?_
          obtain ⟨hi9, hF⟩ := hF
          refine wb_iast (j := x1.toNatClampNeg) dX10_split_53 rfl hi9 rfl ?_
          refine wa_aload_n dX10_split_54 1 rfl rfl ?_
          refine wa_getr (r := 3) dX10_split_55 fkX10_13 rfl rfl rfl ?_
          refine wa_iload_n dX10_split_58 2 rfl rfl ?_
          refine wa_aload_n dX10_split_59 1 rfl rfl ?_
          refine wa_iload_n dX10_split_60 3 rfl rfl ?_
          refine wa_iload_n dX10_split_61 0 rfl rfl ?_
          obtain ⟨Q2, hM9, hF⟩ := hF
          refine wa_callV [.int x3, .int v1] dX10_split_62 (mmX10_tokenOf _ _) mlX10_27 mnX10_tokenOf mseX10_tokenOf rfl rfl rfl rfl (a_dlt d) rfl rfl hM9 ?_
          rintro r9 M2 P9 ⟨v2, rfl, rfl, hq9⟩
          replace hF := hF v2 M2 hq9
          simp only [Option.toList, List.cons_append, List.nil_append]
          obtain ⟨hi9, hF⟩ := hF
          refine wb_iast (j := x1.toNatClampNeg) dX10_split_65 rfl hi9 rfl ?_
          refine wa_iinc (v := x1 + 1) (lv' := [(1, .int (x1 + 1)), (2, .int v1), (0, .ref 1), (3, .int x3)]) dX10_split_66 2 rfl rfl rfl rfl ?_
          exact wa_pick [2, 0, 1, 3] rfl hF

theorem bX10_split_69 {X : a_X} {ad : Nat → Nat} {ca : Nat → ClassId} {d : Nat} {kc ks : Nat} {QF : List Frame → Array Value → State → State → Prop} {x : Nat} {M : a_M} (x1 : Int32) (x2 : Int32) (x3 : Int32)  (hF : WA X ad ca LY RX10 cX10_split 4 none (d + 1) kc ks QF 6 [(0, .ref 1), (1, .int x1), (2, .int x2), (3, .int (x3 + 1))] [] M (PT x)) : WA X ad ca LY RX10 cX10_split 4 none (d + 1) kc ks QF 69 [(0, .ref 1), (1, .int x1), (2, .int x2), (3, .int x3)] [] M (PT x) := by
  refine wa_iinc (v := x3 + 1) (lv' := [(3, .int (x3 + 1)), (0, .ref 1), (1, .int x1), (2, .int x2)]) dX10_split_69 3 rfl rfl rfl rfl ?_
  refine wa_goto (tgt := 6) dX10_split_72 rfl ?_
  exact wa_pick [1, 2, 3, 0] rfl hF

theorem eX10_split {X : a_X} {ad : Nat → Nat} {ca : Nat → ClassId} {d : Nat} {Post : Option Value → a_M → a_P → Prop} {x : Nat} {M : a_M}  (h : WA X ad ca LY RX10 cX10_split 4 none d 0 0 (a_E X ad ca LY Post) 0 [(0, .ref 1)] [] M (PT x)) : Mt X ad ca LY d yX10_split cX10_split 4 none [.ref 1] M (PT x) Post := Mt.of (lv := [(0, .ref 1)]) (by decide +kernel) rfl rfl rfl (wa_pick [0] rfl h)
