theorem bX11_often_0 {X : a_X} {ad : Nat → Nat} {ca : Nat → ClassId} {d : Nat} {Post : Option Value → a_M → a_P → Prop} {x : Nat} {M : a_M} (x1 : Int32) (x2 : Int32)  (hF : (∃ Q1 : Int32 → a_M → Prop, Mt X ad ca LY d yX6_isCount cX6_isCount 2 (some FieldType.boolean) [.ref 45, .int x1] M (PT x) (q_i (PT x) Q1) ∧ ∀ v1 M1, Q1 v1 M1 → ((v1 = 0 → WA X ad ca LY RX11 cX11_often 3 (some FieldType.int) (d + 1) 0 0 (a_E X ad ca LY Post) 28 [] [] M1 (PT x)) ∧ (¬ v1 = 0 → (∃ Q2 : Int32 → a_M → Prop, Mt X ad ca LY d yX6_isNumber cX6_isNumber 2 (some FieldType.boolean) [.ref 45, .int x2] M1 (PT x) (q_i (PT x) Q2) ∧ ∀ v2 M2, Q2 v2 M2 → ((¬ v2 = 0 → (∃ Q3 : a_M → Prop, Mt X ad ca LY d yX8_look cX8_look 4 none [.ref 23, .ref 45, .int x1, .int (-1)] M2 (PT x) (q_v (PT x) Q3) ∧ ∀ M3, Q3 M3 → (∃ Q4 : Int32 → a_M → Prop, Mt X ad ca LY d yX8_howOften cX8_howOften 3 (some FieldType.int) [.ref 23, .int x2] M3 (PT x) (q_i (PT x) Q4) ∧ ∀ v4 M4, Q4 v4 M4 → Post (some (.int v4)) M4 (PT x)))) ∧ (v2 = 0 → WA X ad ca LY RX11 cX11_often 3 (some FieldType.int) (d + 1) 0 0 (a_E X ad ca LY Post) 28 [] [] M2 (PT x)))))))) : WA X ad ca LY RX11 cX11_often 3 (some FieldType.int) (d + 1) 0 0 (a_E X ad ca LY Post) 0 [(0, .ref 0), (1, .int x1), (2, .int x2)] [] M (PT x) := by
  refine wa_aload_n dX11_often_0 0 rfl rfl ?_
  refine wa_getr (r := 44) dX11_often_1 fkX11_101 rfl rfl rfl ?_
  refine wa_getr (r := 45) dX11_often_4 fkX11_108 rfl rfl rfl ?_
  refine wa_iload_n dX11_often_7 1 rfl rfl ?_
  obtain ⟨Q1, hM9, hF⟩ := hF
  refine wa_callV [.int x1] dX11_often_8 (mmX6_isCount _ _) mlX11_227 mnX6_isCount mseX6_isCount rfl rfl rfl rfl (a_dlt d) rfl rfl hM9 ?_
  rintro r9 M1 P9 ⟨v1, rfl, rfl, hq9⟩
  replace hF := hF v1 M1 hq9
  simp only [Option.toList, List.cons_append, List.nil_append]
  refine wa_if_eq (tgt := 28) dX11_often_11 rfl (fun hc => ?_) (fun hc => ?_)
  · replace hF := hF.1 hc
    exact wa_pick [] rfl hF
  · replace hF := hF.2 hc
    refine wa_aload_n dX11_often_14 0 rfl rfl ?_
    refine wa_getr (r := 44) dX11_often_15 fkX11_101 rfl rfl rfl ?_
    refine wa_getr (r := 45) dX11_often_18 fkX11_108 rfl rfl rfl ?_
    refine wa_iload_n dX11_often_21 2 rfl rfl ?_
    obtain ⟨Q2, hM9, hF⟩ := hF
    refine wa_callV [.int x2] dX11_often_22 (mmX6_isNumber _ _) mlX11_147 mnX6_isNumber mseX6_isNumber rfl rfl rfl rfl (a_dlt d) rfl rfl hM9 ?_
    rintro r9 M2 P9 ⟨v2, rfl, rfl, hq9⟩
    replace hF := hF v2 M2 hq9
    simp only [Option.toList, List.cons_append, List.nil_append]
    refine wa_if_ne (tgt := 30) dX11_often_25 rfl (fun hc => ?_) (fun hc => ?_)
    · replace hF := hF.1 hc
      refine wa_aload_n dX11_often_30 0 rfl rfl ?_
      refine wa_getr (r := 23) dX11_often_31 fkX11_55 rfl rfl rfl ?_
      refine wa_aload_n dX11_often_34 0 rfl rfl ?_
      refine wa_getr (r := 44) dX11_often_35 fkX11_101 rfl rfl rfl ?_
      refine wa_getr (r := 45) dX11_often_38 fkX11_108 rfl rfl rfl ?_
      refine wa_iload_n dX11_often_41 1 rfl rfl ?_
      refine wa_iconst (v := (-1)) dX11_often_42 rfl ?_
      obtain ⟨Q3, hM9, hF⟩ := hF
      refine wa_callV [.ref 45, .int x1, .int (-1)] dX11_often_43 (mmX8_look _ _) mlX11_230 mnX8_look mseX8_look rfl rfl rfl rfl (a_dlt d) rfl rfl hM9 ?_
      rintro r9 M3 P9 ⟨rfl, rfl, hq9⟩
      replace hF := hF M3 hq9
      simp only [Option.toList, List.nil_append]
      refine wa_aload_n dX11_often_46 0 rfl rfl ?_
      refine wa_getr (r := 23) dX11_often_47 fkX11_55 rfl rfl rfl ?_
      refine wa_iload_n dX11_often_50 2 rfl rfl ?_
      obtain ⟨Q4, hM9, hF⟩ := hF
      refine wa_callV [.int x2] dX11_often_51 (mmX8_howOften _ _) mlX11_249 mnX8_howOften mseX8_howOften rfl rfl rfl rfl (a_dlt d) rfl rfl hM9 ?_
      rintro r9 M4 P9 ⟨v4, rfl, rfl, hq9⟩
      replace hF := hF v4 M4 hq9
      simp only [Option.toList, List.cons_append, List.nil_append]
      exact wa_iret dX11_often_54 rfl rfl hF
    · replace hF := hF.2 hc
      exact wa_pick [] rfl hF

theorem bX11_often_28 {X : a_X} {ad : Nat → Nat} {ca : Nat → ClassId} {d : Nat} {Post : Option Value → a_M → a_P → Prop} {x : Nat} {M : a_M}   (hF : Post (some (.int (-1))) M (PT x)) : WA X ad ca LY RX11 cX11_often 3 (some FieldType.int) (d + 1) 0 0 (a_E X ad ca LY Post) 28 [] [] M (PT x) := by
  refine wa_iconst (v := (-1)) dX11_often_28 rfl ?_
  exact wa_iret dX11_often_29 rfl rfl hF

theorem eX11_often {X : a_X} {ad : Nat → Nat} {ca : Nat → ClassId} {d : Nat} {Post : Option Value → a_M → a_P → Prop} {x : Nat} {M : a_M} (x1 : Int32) (x2 : Int32) (h : WA X ad ca LY RX11 cX11_often 3 (some FieldType.int) d 0 0 (a_E X ad ca LY Post) 0 [(0, .ref 0), (1, .int x1), (2, .int x2)] [] M (PT x)) : Mt X ad ca LY d yX11_often cX11_often 3 (some FieldType.int) [.ref 0, .int x1, .int x2] M (PT x) Post := Mt.of (lv := [(0, .ref 0), (1, .int x1), (2, .int x2)]) (by decide +kernel) rfl rfl rfl (wa_pick [0, 1, 2] rfl h)

theorem bX11_root_0 {X : a_X} {ad : Nat → Nat} {ca : Nat → ClassId} {d : Nat} {Post : Option Value → a_M → a_P → Prop} {x : Nat} {M : a_M}   (hF : (∃ Q1 : Int32 → a_M → Prop, Mt X ad ca LY d yX6_leastRoot cX6_leastRoot 2 (some FieldType.int) [.ref 45] M (PT x) (q_i (PT x) Q1) ∧ ∀ v1 M1, Q1 v1 M1 → Post (some (.int v1)) M1 (PT x))) : WA X ad ca LY RX11 cX11_root 1 (some FieldType.int) (d + 1) 0 0 (a_E X ad ca LY Post) 0 [(0, .ref 0)] [] M (PT x) := by
  refine wa_aload_n dX11_root_0 0 rfl rfl ?_
  refine wa_getr (r := 44) dX11_root_1 fkX11_101 rfl rfl rfl ?_
  refine wa_getr (r := 45) dX11_root_4 fkX11_108 rfl rfl rfl ?_
  obtain ⟨Q1, hM9, hF⟩ := hF
  refine wa_callV [] dX11_root_7 (mmX6_leastRoot _ _) mlX11_252 mnX6_leastRoot mseX6_leastRoot rfl rfl rfl rfl (a_dlt d) rfl rfl hM9 ?_
  rintro r9 M1 P9 ⟨v1, rfl, rfl, hq9⟩
  replace hF := hF v1 M1 hq9
  simp only [Option.toList, List.cons_append, List.nil_append]
  exact wa_iret dX11_root_10 rfl rfl hF

theorem eX11_root {X : a_X} {ad : Nat → Nat} {ca : Nat → ClassId} {d : Nat} {Post : Option Value → a_M → a_P → Prop} {x : Nat} {M : a_M}  (h : WA X ad ca LY RX11 cX11_root 1 (some FieldType.int) d 0 0 (a_E X ad ca LY Post) 0 [(0, .ref 0)] [] M (PT x)) : Mt X ad ca LY d yX11_root cX11_root 1 (some FieldType.int) [.ref 0] M (PT x) Post := Mt.of (lv := [(0, .ref 0)]) (by decide +kernel) rfl rfl rfl (wa_pick [0] rfl h)

theorem bX11_mean_0 {X : a_X} {ad : Nat → Nat} {ca : Nat → ClassId} {d : Nat} {kc ks : Nat} {QF : List Frame → Array Value → State → State → Prop} {x : Nat} {M : a_M} (x1 : Int32) (x2 : Int32)  (hF : (∃ Q1 : Int32 → a_M → Prop, Mt X ad ca LY d yX6_isCount cX6_isCount 2 (some FieldType.boolean) [.ref 45, .int x1] M (PT x) (q_i (PT x) Q1) ∧ ∀ v1 M1, Q1 v1 M1 → ((v1 = 0 → WA X ad ca LY RX11 cX11_mean 6 (some FieldType.int) (d + 1) kc ks QF 29 [] [] M1 (PT x)) ∧ (¬ v1 = 0 → ((x2 < 1 → WA X ad ca LY RX11 cX11_mean 6 (some FieldType.int) (d + 1) kc ks QF 29 [] [] M1 (PT x)) ∧ (¬ x2 < 1 → ((x2 < (M1 45 0) → WA X ad ca LY RX11 cX11_mean 6 (some FieldType.int) (d + 1) kc ks QF 37 [(1, .int x1), (2, .int x2), (3, .ref 45), (4, .int 0), (5, .int 0)] [] M1 (PT x)) ∧ (¬ x2 < (M1 45 0) → WA X ad ca LY RX11 cX11_mean 6 (some FieldType.int) (d + 1) kc ks QF 29 [] [] M1 (PT x))))))))) : WA X ad ca LY RX11 cX11_mean 6 (some FieldType.int) (d + 1) kc ks QF 0 [(0, .ref 0), (1, .int x1), (2, .int x2)] [] M (PT x) := by
  refine wa_aload_n dX11_mean_0 0 rfl rfl ?_
  refine wa_getr (r := 44) dX11_mean_1 fkX11_101 rfl rfl rfl ?_
  refine wa_getr (r := 45) dX11_mean_4 fkX11_108 rfl rfl rfl ?_
  refine wa_astore_n (lv' := [(3, .ref 45), (0, .ref 0), (1, .int x1), (2, .int x2)]) dX11_mean_7 rfl rfl rfl ?_
  refine wa_aload_n dX11_mean_8 0 rfl rfl ?_
  refine wa_iload_n dX11_mean_9 2 rfl rfl ?_
  obtain ⟨Q1, hM9, hF⟩ := hF
  refine wa_callV [.int x1] dX11_mean_10 (mmX6_isCount _ _) mlX11_227 mnX6_isCount mseX6_isCount rfl rfl rfl rfl (a_dlt d) rfl rfl hM9 ?_
  rintro r9 M1 P9 ⟨v1, rfl, rfl, hq9⟩
  replace hF := hF v1 M1 hq9
  simp only [Option.toList, List.cons_append, List.nil_append]
  refine wa_if_eq (tgt := 29) dX11_mean_13 rfl (fun hc => ?_) (fun hc => ?_)
  · replace hF := hF.1 hc
    exact wa_pick [] rfl hF
  · replace hF := hF.2 hc
    refine wa_iload_n dX11_mean_16 3 rfl rfl ?_
    refine wa_iconst (v := 1) dX11_mean_17 rfl ?_
    refine wa_icmp_lt (tgt := 29) dX11_mean_18 rfl (fun hc => ?_) (fun hc => ?_)
    · replace hF := hF.1 hc
      exact wa_pick [] rfl hF
    · replace hF := hF.2 hc
      refine wa_iload_n dX11_mean_21 3 rfl rfl ?_
      refine wa_aload_n dX11_mean_22 0 rfl rfl ?_
      refine wb_geti (v := M1 45 0) dX11_mean_23 fkX11_111 rfl rfl rfl ?_
      refine wa_icmp_lt (tgt := 31) dX11_mean_26 rfl (fun hc => ?_) (fun hc => ?_)
      · replace hF := hF.1 hc
        refine wa_iconst (v := 0) dX11_mean_31 rfl ?_
        refine wa_istore (lv' := [(4, .int 0), (3, .ref 45), (0, .ref 0), (1, .int x1), (2, .int x2)]) dX11_mean_32 rfl rfl ?_
        refine wa_iconst (v := 0) dX11_mean_34 rfl ?_
        refine wa_istore (lv' := [(5, .int 0), (4, .int 0), (3, .ref 45), (0, .ref 0), (1, .int x1), (2, .int x2)]) dX11_mean_35 rfl rfl ?_
        exact wa_pick [4, 5, 2, 1, 0] rfl hF
      · replace hF := hF.2 hc
        exact wa_pick [] rfl hF

theorem bX11_mean_29 {X : a_X} {ad : Nat → Nat} {ca : Nat → ClassId} {d : Nat} {Post : Option Value → a_M → a_P → Prop} {x : Nat} {M : a_M}   (hF : Post (some (.int (-1))) M (PT x)) : WA X ad ca LY RX11 cX11_mean 6 (some FieldType.int) (d + 1) 0 0 (a_E X ad ca LY Post) 29 [] [] M (PT x) := by
  refine wa_iconst (v := (-1)) dX11_mean_29 rfl ?_
  exact wa_iret dX11_mean_30 rfl rfl hF

theorem bX11_mean_37 {X : a_X} {ad : Nat → Nat} {ca : Nat → ClassId} {d : Nat} {Post : Option Value → a_M → a_P → Prop} {x : Nat} {M : a_M} (x1 : Int32) (x2 : Int32) (o3 : Nat) (x4 : Int32) (x5 : Int32) (hLo3 : LY[o3]? = some (6, 5)) (hF : (∃ Q1 : Int32 → a_M → Prop, Mt X ad ca LY d yX6_states cX6_states 1 (some FieldType.int) [.ref o3] M (PT x) (q_i (PT x) Q1) ∧ ∀ v1 M1, Q1 v1 M1 → ((v1 ≤ x5 → Post (some (.int x4)) M1 (PT x)) ∧ (¬ v1 ≤ x5 → (∃ Q2 : Int32 → a_M → Prop, Mt X ad ca LY d yJ6_bitCount_0f7a4 cJ6_bitCount_0f7a4 1 (some FieldType.int) [.int x5] M1 (PT x) (q_i (PT x) Q2) ∧ ∀ v2 M2, Q2 v2 M2 → ((¬ v2 = x1 → WA X ad ca LY RX11 cX11_mean 6 (some FieldType.int) (d + 1) 0 0 (a_E X ad ca LY Post) 67 [(1, .int x1), (2, .int x2), (3, .ref o3), (4, .int x4), (5, .int x5)] [] M2 (PT x)) ∧ (v2 = x1 → (∃ Q3 : Int32 → a_M → Prop, Mt X ad ca LY d yX6_alikeAt cX6_alikeAt 6 (some FieldType.int) [.ref o3, .int x5, .int x2] M2 (PT x) (q_i (PT x) Q3) ∧ ∀ v3 M3, Q3 v3 M3 → WA X ad ca LY RX11 cX11_mean 6 (some FieldType.int) (d + 1) 0 0 (a_E X ad ca LY Post) 67 [(1, .int x1), (2, .int x2), (3, .ref o3), (4, .int (x4 + v3)), (5, .int x5)] [] M3 (PT x))))))))) : WA X ad ca LY RX11 cX11_mean 6 (some FieldType.int) (d + 1) 0 0 (a_E X ad ca LY Post) 37 [(1, .int x1), (2, .int x2), (3, .ref o3), (4, .int x4), (5, .int x5)] [] M (PT x) := by
  refine wa_iload dX11_mean_37 4 rfl ?_
  refine wa_aload_n dX11_mean_39 2 rfl rfl ?_
  obtain ⟨Q1, hM9, hF⟩ := hF
  refine wa_callV [] dX11_mean_40 (mmX6_states _ _) mlX11_255 mnX6_states mseX6_states hLo3 rfl rfl rfl (a_dlt d) rfl rfl hM9 ?_
  rintro r9 M1 P9 ⟨v1, rfl, rfl, hq9⟩
  replace hF := hF v1 M1 hq9
  simp only [Option.toList, List.cons_append, List.nil_append]
  refine wa_icmp_ge (tgt := 73) dX11_mean_43 rfl (fun hc => ?_) (fun hc => ?_)
  · replace hF := hF.1 hc
    refine wa_iload dX11_mean_73 3 rfl ?_
    exact wa_iret dX11_mean_75 rfl rfl hF
  · replace hF := hF.2 hc
    refine wa_iload dX11_mean_46 4 rfl ?_
    obtain ⟨Q2, hM9, hF⟩ := hF
    refine wa_callS [.int x5] dX11_mean_48 (mmJ6_bitCount_0f7a4 _ _) mlX11_258 mstJ6_bitCount_0f7a4 rfl (a_dlt d) rfl rfl hM9 ?_
    rintro r9 M2 P9 ⟨v2, rfl, rfl, hq9⟩
    replace hF := hF v2 M2 hq9
    simp only [Option.toList, List.cons_append, List.nil_append]
    refine wa_iload_n dX11_mean_51 0 rfl rfl ?_
    refine wa_icmp_ne (tgt := 67) dX11_mean_52 rfl (fun hc => ?_) (fun hc => ?_)
    · replace hF := hF.1 hc
      exact hF
    · replace hF := hF.2 hc
      refine wa_iload dX11_mean_55 3 rfl ?_
      refine wa_aload_n dX11_mean_57 2 rfl rfl ?_
      refine wa_iload dX11_mean_58 4 rfl ?_
      refine wa_iload_n dX11_mean_60 1 rfl rfl ?_
      obtain ⟨Q3, hM9, hF⟩ := hF
      refine wa_callV [.int x5, .int x2] dX11_mean_61 (mmX6_alikeAt _ _) mlX11_263 mnX6_alikeAt mseX6_alikeAt hLo3 rfl rfl rfl (a_dlt d) rfl rfl hM9 ?_
      rintro r9 M3 P9 ⟨v3, rfl, rfl, hq9⟩
      replace hF := hF v3 M3 hq9
      simp only [Option.toList, List.cons_append, List.nil_append]
      refine wa_iadd dX11_mean_64 ?_
      refine wa_istore (lv' := [(4, .int (x4 + v3)), (1, .int x1), (2, .int x2), (3, .ref o3), (5, .int x5)]) dX11_mean_65 rfl rfl ?_
      exact wa_pick [1, 2, 3, 0, 4] rfl hF

theorem bX11_mean_67 {X : a_X} {ad : Nat → Nat} {ca : Nat → ClassId} {d : Nat} {kc ks : Nat} {QF : List Frame → Array Value → State → State → Prop} {x : Nat} {M : a_M} (x1 : Int32) (x2 : Int32) (o3 : Nat) (x4 : Int32) (x5 : Int32) (hLo3 : LY[o3]? = some (6, 5)) (hF : WA X ad ca LY RX11 cX11_mean 6 (some FieldType.int) (d + 1) kc ks QF 37 [(1, .int x1), (2, .int x2), (3, .ref o3), (4, .int x4), (5, .int (x5 + 1))] [] M (PT x)) : WA X ad ca LY RX11 cX11_mean 6 (some FieldType.int) (d + 1) kc ks QF 67 [(1, .int x1), (2, .int x2), (3, .ref o3), (4, .int x4), (5, .int x5)] [] M (PT x) := by
  refine wa_iinc (v := x5 + 1) (lv' := [(5, .int (x5 + 1)), (1, .int x1), (2, .int x2), (3, .ref o3), (4, .int x4)]) dX11_mean_67 4 rfl rfl rfl rfl ?_
  refine wa_goto (tgt := 37) dX11_mean_70 rfl ?_
  exact wa_pick [1, 2, 3, 4, 0] rfl hF

theorem eX11_mean {X : a_X} {ad : Nat → Nat} {ca : Nat → ClassId} {d : Nat} {Post : Option Value → a_M → a_P → Prop} {x : Nat} {M : a_M} (x1 : Int32) (x2 : Int32) (h : WA X ad ca LY RX11 cX11_mean 6 (some FieldType.int) d 0 0 (a_E X ad ca LY Post) 0 [(0, .ref 0), (1, .int x1), (2, .int x2)] [] M (PT x)) : Mt X ad ca LY d yX11_mean cX11_mean 6 (some FieldType.int) [.ref 0, .int x1, .int x2] M (PT x) Post := Mt.of (lv := [(0, .ref 0), (1, .int x1), (2, .int x2)]) (by decide +kernel) rfl rfl rfl (wa_pick [0, 1, 2] rfl h)

theorem bX11_pair_0 {X : a_X} {ad : Nat → Nat} {ca : Nat → ClassId} {d : Nat} {Post : Option Value → a_M → a_P → Prop} {x : Nat} {M : a_M} (x1 : Int32) (x2 : Int32) (x3 : Int32)  (hF : ((x1 < 0 → WA X ad ca LY RX11 cX11_pair 5 (some FieldType.int) (d + 1) 0 0 (a_E X ad ca LY Post) 23 [] [] M (PT x)) ∧ (¬ x1 < 0 → ((2 < x1 → WA X ad ca LY RX11 cX11_pair 5 (some FieldType.int) (d + 1) 0 0 (a_E X ad ca LY Post) 23 [] [] M (PT x)) ∧ (¬ 2 < x1 → (((-1) ≤ x2 → ((¬ x2 = (-1) → (∃ Q1 : Int32 → a_M → Prop, Mt X ad ca LY d yX3_find cX3_find 7 (some FieldType.boolean) [.ref 33, .ref 45, .int x1, .int x2] M (PT x) (q_i (PT x) Q1) ∧ ∀ v1 M1, Q1 v1 M1 → ((¬ v1 = 0 → ((x3 < 0 → WA X ad ca LY RX11 cX11_pair 5 (some FieldType.int) (d + 1) 0 0 (a_E X ad ca LY Post) 76 [(0, .ref 0), (1, .int x1), (3, .int x3), (4, .ref 45)] [] M1 (PT x)) ∧ (¬ x3 < 0 → ((x1 < x3 → WA X ad ca LY RX11 cX11_pair 5 (some FieldType.int) (d + 1) 0 0 (a_E X ad ca LY Post) 76 [(0, .ref 0), (1, .int x1), (3, .int x3), (4, .ref 45)] [] M1 (PT x)) ∧ (¬ x1 < x3 → (vp_in x3 3 ∧ Post (some (.int (M1 39 x3.toNatClampNeg))) M1 (PT x))))))) ∧ (v1 = 0 → Post (some (.int (-1))) M1 (PT x))))) ∧ (x2 = (-1) → (∃ Q2 : Int32 → a_M → Prop, Mt X ad ca LY d yX3_howMany cX3_howMany 5 (some FieldType.int) [.ref 33, .ref 45, .int x1] M (PT x) (q_i (PT x) Q2) ∧ ∀ v2 M2, Q2 v2 M2 → Post (some (.int v2)) M2 (PT x))))) ∧ (¬ (-1) ≤ x2 → WA X ad ca LY RX11 cX11_pair 5 (some FieldType.int) (d + 1) 0 0 (a_E X ad ca LY Post) 23 [] [] M (PT x)))))))) : WA X ad ca LY RX11 cX11_pair 5 (some FieldType.int) (d + 1) 0 0 (a_E X ad ca LY Post) 0 [(0, .ref 0), (1, .int x1), (2, .int x2), (3, .int x3)] [] M (PT x) := by
  refine wa_aload_n dX11_pair_0 0 rfl rfl ?_
  refine wa_getr (r := 44) dX11_pair_1 fkX11_101 rfl rfl rfl ?_
  refine wa_getr (r := 45) dX11_pair_4 fkX11_108 rfl rfl rfl ?_
  refine wa_astore (lv' := [(4, .ref 45), (0, .ref 0), (1, .int x1), (2, .int x2), (3, .int x3)]) dX11_pair_7 rfl rfl ?_
  refine wa_iload_n dX11_pair_9 2 rfl rfl ?_
  refine wa_if_lt (tgt := 23) dX11_pair_10 rfl (fun hc => ?_) (fun hc => ?_)
  · replace hF := hF.1 hc
    exact wa_pick [] rfl hF
  · replace hF := hF.2 hc
    refine wa_iload_n dX11_pair_13 2 rfl rfl ?_
    refine wa_iconst (v := 2) dX11_pair_14 rfl ?_
    refine wa_icmp_gt (tgt := 23) dX11_pair_15 rfl (fun hc => ?_) (fun hc => ?_)
    · replace hF := hF.1 hc
      exact wa_pick [] rfl hF
    · replace hF := hF.2 hc
      refine wa_iload_n dX11_pair_18 3 rfl rfl ?_
      refine wa_iconst (v := (-1)) dX11_pair_19 rfl ?_
      refine wa_icmp_ge (tgt := 25) dX11_pair_20 rfl (fun hc => ?_) (fun hc => ?_)
      · replace hF := hF.1 hc
        refine wa_iload_n dX11_pair_25 3 rfl rfl ?_
        refine wa_iconst (v := (-1)) dX11_pair_26 rfl ?_
        refine wa_icmp_ne (tgt := 41) dX11_pair_27 rfl (fun hc => ?_) (fun hc => ?_)
        · replace hF := hF.1 hc
          refine wa_aload_n dX11_pair_41 1 rfl rfl ?_
          refine wa_getr (r := 33) dX11_pair_42 fkX11_69 rfl rfl rfl ?_
          refine wa_aload dX11_pair_45 0 rfl ?_
          refine wa_iload_n dX11_pair_47 2 rfl rfl ?_
          refine wa_iload_n dX11_pair_48 3 rfl rfl ?_
          obtain ⟨Q1, hM9, hF⟩ := hF
          refine wa_callV [.ref 45, .int x1, .int x2] dX11_pair_49 (mmX3_find _ _) mlX11_270 mnX3_find mseX3_find rfl rfl rfl rfl (a_dlt d) rfl rfl hM9 ?_
          rintro r9 M1 P9 ⟨v1, rfl, rfl, hq9⟩
          replace hF := hF v1 M1 hq9
          simp only [Option.toList, List.cons_append, List.nil_append]
          refine wa_if_ne (tgt := 57) dX11_pair_52 rfl (fun hc => ?_) (fun hc => ?_)
          · replace hF := hF.1 hc
            refine wa_iload_n dX11_pair_57 4 rfl rfl ?_
            refine wa_if_lt (tgt := 76) dX11_pair_58 rfl (fun hc => ?_) (fun hc => ?_)
            · replace hF := hF.1 hc
              exact wa_pick [1, 2, 4, 0] rfl hF
            · replace hF := hF.2 hc
              refine wa_iload_n dX11_pair_61 4 rfl rfl ?_
              refine wa_iload_n dX11_pair_62 2 rfl rfl ?_
              refine wa_icmp_gt (tgt := 76) dX11_pair_63 rfl (fun hc => ?_) (fun hc => ?_)
              · replace hF := hF.1 hc
                exact wa_pick [1, 2, 4, 0] rfl hF
              · replace hF := hF.2 hc
                refine wa_aload_n dX11_pair_66 1 rfl rfl ?_
                refine wa_getr (r := 33) dX11_pair_67 fkX11_69 rfl rfl rfl ?_
                refine wa_getr (r := 39) dX11_pair_70 fkX11_274 rfl rfl rfl ?_
                refine wa_iload_n dX11_pair_73 4 rfl rfl ?_
                obtain ⟨hi9, hF⟩ := hF
                refine wb_iald (j := x3.toNatClampNeg) (v := M1 39 x3.toNatClampNeg) dX11_pair_74 rfl hi9 rfl rfl ?_
                exact wa_iret dX11_pair_75 rfl rfl hF
          · replace hF := hF.2 hc
            refine wa_iconst (v := (-1)) dX11_pair_55 rfl ?_
            exact wa_iret dX11_pair_56 rfl rfl hF
        · replace hF := hF.2 hc
          refine wa_aload_n dX11_pair_30 1 rfl rfl ?_
          refine wa_getr (r := 33) dX11_pair_31 fkX11_69 rfl rfl rfl ?_
          refine wa_aload dX11_pair_34 0 rfl ?_
          refine wa_iload_n dX11_pair_36 2 rfl rfl ?_
          obtain ⟨Q2, hM9, hF⟩ := hF
          refine wa_callV [.ref 45, .int x1] dX11_pair_37 (mmX3_howMany _ _) mlX11_266 mnX3_howMany mseX3_howMany rfl rfl rfl rfl (a_dlt d) rfl rfl hM9 ?_
          rintro r9 M2 P9 ⟨v2, rfl, rfl, hq9⟩
          replace hF := hF v2 M2 hq9
          simp only [Option.toList, List.cons_append, List.nil_append]
          exact wa_iret dX11_pair_40 rfl rfl hF
      · replace hF := hF.2 hc
        exact wa_pick [] rfl hF

theorem bX11_pair_23 {X : a_X} {ad : Nat → Nat} {ca : Nat → ClassId} {d : Nat} {Post : Option Value → a_M → a_P → Prop} {x : Nat} {M : a_M}   (hF : Post (some (.int (-1))) M (PT x)) : WA X ad ca LY RX11 cX11_pair 5 (some FieldType.int) (d + 1) 0 0 (a_E X ad ca LY Post) 23 [] [] M (PT x) := by
  refine wa_iconst (v := (-1)) dX11_pair_23 rfl ?_
  exact wa_iret dX11_pair_24 rfl rfl hF

theorem bX11_pair_76 {X : a_X} {ad : Nat → Nat} {ca : Nat → ClassId} {d : Nat} {Post : Option Value → a_M → a_P → Prop} {x : Nat} {M : a_M} (x1 : Int32) (x3 : Int32) (o4 : Nat) (hLo4 : LY[o4]? = some (6, 5)) (hF : ((x3 < 10 → WA X ad ca LY RX11 cX11_pair 5 (some FieldType.int) (d + 1) 0 0 (a_E X ad ca LY Post) 107 [(0, .ref 0), (1, .int x1), (3, .int x3), (4, .ref o4)] [] M (PT x)) ∧ (¬ x3 < 10 → (((10 + (M o4 0)) < x3 → WA X ad ca LY RX11 cX11_pair 5 (some FieldType.int) (d + 1) 0 0 (a_E X ad ca LY Post) 107 [(0, .ref 0), (1, .int x1), (3, .int x3), (4, .ref o4)] [] M (PT x)) ∧ (¬ (10 + (M o4 0)) < x3 → (vp_in (x3 - 10) 8 ∧ Post (some (.int (M 40 ((x3 - 10).toNatClampNeg)))) M (PT x))))))) : WA X ad ca LY RX11 cX11_pair 5 (some FieldType.int) (d + 1) 0 0 (a_E X ad ca LY Post) 76 [(0, .ref 0), (1, .int x1), (3, .int x3), (4, .ref o4)] [] M (PT x) := by
  refine wa_iload_n dX11_pair_76 2 rfl rfl ?_
  refine wa_bipush (v := 10) dX11_pair_77 rfl ?_
  refine wa_icmp_lt (tgt := 107) dX11_pair_79 rfl (fun hc => ?_) (fun hc => ?_)
  · replace hF := hF.1 hc
    exact hF
  · replace hF := hF.2 hc
    refine wa_iload_n dX11_pair_82 2 rfl rfl ?_
    refine wa_bipush (v := 10) dX11_pair_83 rfl ?_
    refine wa_aload dX11_pair_85 3 rfl ?_
    refine wb_geti (v := M o4 0) dX11_pair_87 fkX11_111 rfl hLo4 rfl ?_
    refine wa_iadd dX11_pair_90 ?_
    refine wa_icmp_gt (tgt := 107) dX11_pair_91 rfl (fun hc => ?_) (fun hc => ?_)
    · replace hF := hF.1 hc
      exact hF
    · replace hF := hF.2 hc
      refine wa_aload_n dX11_pair_94 0 rfl rfl ?_
      refine wa_getr (r := 33) dX11_pair_95 fkX11_69 rfl rfl rfl ?_
      refine wa_getr (r := 40) dX11_pair_98 fkX11_277 rfl rfl rfl ?_
      refine wa_iload_n dX11_pair_101 2 rfl rfl ?_
      refine wa_bipush (v := 10) dX11_pair_102 rfl ?_
      refine wa_isub dX11_pair_104 ?_
      obtain ⟨hi9, hF⟩ := hF
      refine wb_iald (j := (x3 - 10).toNatClampNeg) (v := M 40 ((x3 - 10).toNatClampNeg)) dX11_pair_105 rfl hi9 rfl rfl ?_
      exact wa_iret dX11_pair_106 rfl rfl hF

theorem bX11_pair_107 {X : a_X} {ad : Nat → Nat} {ca : Nat → ClassId} {d : Nat} {Post : Option Value → a_M → a_P → Prop} {x : Nat} {M : a_M} (x1 : Int32) (x3 : Int32) (o4 : Nat) (hLo4 : LY[o4]? = some (6, 5)) (hF : ((x3 = 30 → (∃ Q1 : Int32 → a_M → Prop, Mt X ad ca LY d yX3_energy cX3_energy 2 (some FieldType.int) [.ref 33, .ref o4] M (PT x) (q_i (PT x) Q1) ∧ ∀ v1 M1, Q1 v1 M1 → Post (some (.int v1)) M1 (PT x))) ∧ (x3 = 31 → (∃ Q2 : Int32 → a_M → Prop, Mt X ad ca LY d yX3_move cX3_move 2 (some FieldType.int) [.ref 33, .ref o4] M (PT x) (q_i (PT x) Q2) ∧ ∀ v2 M2, Q2 v2 M2 → Post (some (.int v2)) M2 (PT x))) ∧ (x3 = 32 → (∃ Q3 : Int32 → a_M → Prop, Mt X ad ca LY d yX3_energy cX3_energy 2 (some FieldType.int) [.ref 33, .ref o4] M (PT x) (q_i (PT x) Q3) ∧ ∀ v3 M3, Q3 v3 M3 → (∃ Q4 : Int32 → a_M → Prop, Mt X ad ca LY d yX11_isTrue cX11_isTrue 3 (some FieldType.int) [.ref 0, .int x1, .int v3] M3 (PT x) (q_i (PT x) Q4) ∧ ∀ v4 M4, Q4 v4 M4 → Post (some (.int v4)) M4 (PT x)))) ∧ ((x3).toInt < 30 ∨ 32 < (x3).toInt → Post (some (.int (-1))) M (PT x)))) : WA X ad ca LY RX11 cX11_pair 5 (some FieldType.int) (d + 1) 0 0 (a_E X ad ca LY Post) 107 [(0, .ref 0), (1, .int x1), (3, .int x3), (4, .ref o4)] [] M (PT x) := by
  refine wa_iload_n dX11_pair_107 2 rfl rfl ?_
  by_cases hk0 : x3 = 30
  · replace hF := hF.1 hk0
    rw [hk0]
    refine wa_tableIn (off := 28) (tgt := 136) dX11_pair_108 (by decide) (by decide) rfl rfl ?_
    refine wa_aload_n dX11_pair_136 0 rfl rfl ?_
    refine wa_getr (r := 33) dX11_pair_137 fkX11_69 rfl rfl rfl ?_
    refine wa_aload dX11_pair_140 3 rfl ?_
    obtain ⟨Q1, hM9, hF⟩ := hF
    refine wa_callV [.ref o4] dX11_pair_142 (mmX3_energy _ _) mlX11_280 mnX3_energy mseX3_energy rfl rfl rfl rfl (a_dlt d) rfl rfl hM9 ?_
    rintro r9 M1 P9 ⟨v1, rfl, rfl, hq9⟩
    replace hF := hF v1 M1 hq9
    simp only [Option.toList, List.cons_append, List.nil_append]
    exact wa_iret dX11_pair_145 rfl rfl hF
  replace hF := hF.2
  by_cases hk1 : x3 = 31
  · replace hF := hF.1 hk1
    rw [hk1]
    refine wa_tableIn (off := 38) (tgt := 146) dX11_pair_108 (by decide) (by decide) rfl rfl ?_
    refine wa_aload_n dX11_pair_146 0 rfl rfl ?_
    refine wa_getr (r := 33) dX11_pair_147 fkX11_69 rfl rfl rfl ?_
    refine wa_aload dX11_pair_150 3 rfl ?_
    obtain ⟨Q2, hM9, hF⟩ := hF
    refine wa_callV [.ref o4] dX11_pair_152 (mmX3_move _ _) mlX11_284 mnX3_move mseX3_move rfl rfl rfl rfl (a_dlt d) rfl rfl hM9 ?_
    rintro r9 M2 P9 ⟨v2, rfl, rfl, hq9⟩
    replace hF := hF v2 M2 hq9
    simp only [Option.toList, List.cons_append, List.nil_append]
    exact wa_iret dX11_pair_155 rfl rfl hF
  replace hF := hF.2
  by_cases hk2 : x3 = 32
  · replace hF := hF.1 hk2
    rw [hk2]
    refine wa_tableIn (off := 48) (tgt := 156) dX11_pair_108 (by decide) (by decide) rfl rfl ?_
    refine wa_aload_n dX11_pair_156 0 rfl rfl ?_
    refine wa_iload_n dX11_pair_157 1 rfl rfl ?_
    refine wa_aload_n dX11_pair_158 0 rfl rfl ?_
    refine wa_getr (r := 33) dX11_pair_159 fkX11_69 rfl rfl rfl ?_
    refine wa_aload dX11_pair_162 3 rfl ?_
    obtain ⟨Q3, hM9, hF⟩ := hF
    refine wa_callV [.ref o4] dX11_pair_164 (mmX3_energy _ _) mlX11_280 mnX3_energy mseX3_energy rfl rfl rfl rfl (a_dlt d) rfl rfl hM9 ?_
    rintro r9 M3 P9 ⟨v3, rfl, rfl, hq9⟩
    replace hF := hF v3 M3 hq9
    simp only [Option.toList, List.cons_append, List.nil_append]
    obtain ⟨Q4, hM9, hF⟩ := hF
    refine wa_callV [.int x1, .int v3] dX11_pair_167 (mmX11_isTrue _ _) mlX11_287 mnX11_isTrue mseX11_isTrue rfl rfl rfl rfl (a_dlt d) rfl rfl hM9 ?_
    rintro r9 M4 P9 ⟨v4, rfl, rfl, hq9⟩
    replace hF := hF v4 M4 hq9
    simp only [Option.toList, List.cons_append, List.nil_append]
    exact wa_iret dX11_pair_170 rfl rfl hF
  replace hF := hF.2
  have ht0 : (x3).toInt ≠ 30 := a_ti hk0
  have ht1 : (x3).toInt ≠ 31 := a_ti hk1
  have ht2 : (x3).toInt ≠ 32 := a_ti hk2
  have hd9 : (x3).toInt < 30 ∨ 32 < (x3).toInt := by omega
  replace hF := hF hd9
  refine wa_tableOut (tgt := 171) dX11_pair_108 hd9 rfl ?_
  refine wa_iconst (v := (-1)) dX11_pair_171 rfl ?_
  exact wa_iret dX11_pair_172 rfl rfl hF

theorem eX11_pair {X : a_X} {ad : Nat → Nat} {ca : Nat → ClassId} {d : Nat} {Post : Option Value → a_M → a_P → Prop} {x : Nat} {M : a_M} (x1 : Int32) (x2 : Int32) (x3 : Int32) (h : WA X ad ca LY RX11 cX11_pair 5 (some FieldType.int) d 0 0 (a_E X ad ca LY Post) 0 [(0, .ref 0), (1, .int x1), (2, .int x2), (3, .int x3)] [] M (PT x)) : Mt X ad ca LY d yX11_pair cX11_pair 5 (some FieldType.int) [.ref 0, .int x1, .int x2, .int x3] M (PT x) Post := Mt.of (lv := [(0, .ref 0), (1, .int x1), (2, .int x2), (3, .int x3)]) (by decide +kernel) rfl rfl rfl (wa_pick [0, 1, 2, 3] rfl h)

theorem bX11_set_0 {X : a_X} {ad : Nat → Nat} {ca : Nat → ClassId} {d : Nat} {Post : Option Value → a_M → a_P → Prop} {x : Nat} {M : a_M} (x1 : Int32)  (hF : (∃ Q1 : Int32 → a_M → Prop, Mt X ad ca LY d yX6_isState cX6_isState 2 (some FieldType.boolean) [.ref 45, .int x1] M (PT x) (q_i (PT x) Q1) ∧ ∀ v1 M1, Q1 v1 M1 → ((¬ v1 = 0 → (∃ Q2 : a_M → Prop, Mt X ad ca LY d yX2_restart cX2_restart 1 none [.ref 46] M1 (PT x) (q_v (PT x) Q2) ∧ ∀ M2, Q2 M2 → (∃ Q3 : Nat → a_M → Prop, Mt X ad ca LY d yX2_vector cX2_vector 1 (some (FieldType.array FieldType.int)) [.ref 46] M2 (PT x) (q_r (PT x) Q3) ∧ ∀ r3 M3, Q3 r3 M3 → ∃ nr3, LY[r3]? = some (100, nr3) ∧ (vp_in x1 nr3 ∧ Post (some (.int 1)) (ms M3 r3 x1.toNatClampNeg 1) (PT x))))) ∧ (v1 = 0 → Post (some (.int 0)) M1 (PT x))))) : WA X ad ca LY RX11 cX11_set 2 (some FieldType.boolean) (d + 1) 0 0 (a_E X ad ca LY Post) 0 [(0, .ref 0), (1, .int x1)] [] M (PT x) := by
  refine wa_aload_n dX11_set_0 0 rfl rfl ?_
  refine wa_getr (r := 44) dX11_set_1 fkX11_101 rfl rfl rfl ?_
  refine wa_getr (r := 45) dX11_set_4 fkX11_108 rfl rfl rfl ?_
  refine wa_iload_n dX11_set_7 1 rfl rfl ?_
  obtain ⟨Q1, hM9, hF⟩ := hF
  refine wa_callV [.int x1] dX11_set_8 (mmX6_isState _ _) mlX11_203 mnX6_isState mseX6_isState rfl rfl rfl rfl (a_dlt d) rfl rfl hM9 ?_
  rintro r9 M1 P9 ⟨v1, rfl, rfl, hq9⟩
  replace hF := hF v1 M1 hq9
  simp only [Option.toList, List.cons_append, List.nil_append]
  refine wa_if_ne (tgt := 16) dX11_set_11 rfl (fun hc => ?_) (fun hc => ?_)
  · replace hF := hF.1 hc
    refine wa_aload_n dX11_set_16 0 rfl rfl ?_
    refine wa_getr (r := 44) dX11_set_17 fkX11_101 rfl rfl rfl ?_
    refine wa_getr (r := 46) dX11_set_20 fkX11_119 rfl rfl rfl ?_
    obtain ⟨Q2, hM9, hF⟩ := hF
    refine wa_callV [] dX11_set_23 (mmX2_restart _ _) mlX11_123 mnX2_restart mseX2_restart rfl rfl rfl rfl (a_dlt d) rfl rfl hM9 ?_
    rintro r9 M2 P9 ⟨rfl, rfl, hq9⟩
    replace hF := hF M2 hq9
    simp only [Option.toList, List.nil_append]
    refine wa_aload_n dX11_set_26 0 rfl rfl ?_
    refine wa_getr (r := 44) dX11_set_27 fkX11_101 rfl rfl rfl ?_
    refine wa_getr (r := 46) dX11_set_30 fkX11_119 rfl rfl rfl ?_
    obtain ⟨Q3, hM9, hF⟩ := hF
    refine wa_callV [] dX11_set_33 (mmX2_vector _ _) mlX11_290 mnX2_vector mseX2_vector rfl rfl rfl rfl (a_dlt d) rfl rfl hM9 ?_
    rintro r9 M3 P9 ⟨r3, rfl, rfl, hq9⟩
    obtain ⟨nr3, hLr3, hF⟩ := hF r3 M3 hq9
    simp only [Option.toList, List.cons_append, List.nil_append]
    refine wa_iload_n dX11_set_36 1 rfl rfl ?_
    refine wa_iconst (v := 1) dX11_set_37 rfl ?_
    obtain ⟨hi9, hF⟩ := hF
    refine wb_iast (j := x1.toNatClampNeg) dX11_set_38 hLr3 hi9 rfl ?_
    refine wa_iconst (v := 1) dX11_set_39 rfl ?_
    exact wa_iret dX11_set_40 rfl rfl hF
  · replace hF := hF.2 hc
    refine wa_iconst (v := 0) dX11_set_14 rfl ?_
    exact wa_iret dX11_set_15 rfl rfl hF

theorem eX11_set {X : a_X} {ad : Nat → Nat} {ca : Nat → ClassId} {d : Nat} {Post : Option Value → a_M → a_P → Prop} {x : Nat} {M : a_M} (x1 : Int32) (h : WA X ad ca LY RX11 cX11_set 2 (some FieldType.boolean) d 0 0 (a_E X ad ca LY Post) 0 [(0, .ref 0), (1, .int x1)] [] M (PT x)) : Mt X ad ca LY d yX11_set cX11_set 2 (some FieldType.boolean) [.ref 0, .int x1] M (PT x) Post := Mt.of (lv := [(0, .ref 0), (1, .int x1)]) (by decide +kernel) rfl rfl rfl (wa_pick [0, 1] rfl h)

theorem bX11_act_0 {X : a_X} {ad : Nat → Nat} {ca : Nat → ClassId} {d : Nat} {Post : Option Value → a_M → a_P → Prop} {x : Nat} {M : a_M} (x1 : Int32) (x2 : Int32)  (hF : (∃ Q1 : Int32 → a_M → Prop, Mt X ad ca LY d yX11_enact cX11_enact 7 (some FieldType.boolean) [.ref 0, .int x1, .int x2] M (PT x) (q_i (PT x) Q1) ∧ ∀ v1 M1, Q1 v1 M1 → ((v1 = 0 ∨ v1 = 1) ∧ Post (some (.int v1)) M1 (PT x)))) : WA X ad ca LY RX11 cX11_act 3 (some FieldType.boolean) (d + 1) 0 0 (a_E X ad ca LY Post) 0 [(0, .ref 0), (1, .int x1), (2, .int x2)] [] M (PT x) := by
  refine wa_aload_n dX11_act_0 0 rfl rfl ?_
  refine wa_iload_n dX11_act_1 1 rfl rfl ?_
  refine wa_iload_n dX11_act_2 2 rfl rfl ?_
  obtain ⟨Q1, hM9, hF⟩ := hF
  refine wa_callV [.int x1, .int x2] dX11_act_3 (mmX11_enact _ _) mlX11_294 mnX11_enact mseX11_enact rfl rfl rfl rfl (a_dlt d) rfl rfl hM9 ?_
  rintro r9 M1 P9 ⟨v1, rfl, rfl, hq9⟩
  replace hF := hF v1 M1 hq9
  simp only [Option.toList, List.cons_append, List.nil_append]
  exact wa_iret dX11_act_6 rfl (a_bn hF.1) hF.2

theorem eX11_act {X : a_X} {ad : Nat → Nat} {ca : Nat → ClassId} {d : Nat} {Post : Option Value → a_M → a_P → Prop} {x : Nat} {M : a_M} (x1 : Int32) (x2 : Int32) (h : WA X ad ca LY RX11 cX11_act 3 (some FieldType.boolean) d 0 0 (a_E X ad ca LY Post) 0 [(0, .ref 0), (1, .int x1), (2, .int x2)] [] M (PT x)) : Mt X ad ca LY d yX11_act cX11_act 3 (some FieldType.boolean) [.ref 0, .int x1, .int x2] M (PT x) Post := Mt.of (lv := [(0, .ref 0), (1, .int x1), (2, .int x2)]) (by decide +kernel) rfl rfl rfl (wa_pick [0, 1, 2] rfl h)

theorem bX11_played_0 {X : a_X} {ad : Nat → Nat} {ca : Nat → ClassId} {d : Nat} {Post : Option Value → a_M → a_P → Prop} {x : Nat} {M : a_M} (x1 : Int32)  (hF : (∃ Q1 : Int32 → a_M → Prop, Mt X ad ca LY d yX11_isText cX11_isText 2 (some FieldType.boolean) [.ref 0, .int x1] M (PT x) (q_i (PT x) Q1) ∧ ∀ v1 M1, Q1 v1 M1 → ((¬ v1 = 0 → (vp_in x1 4 ∧ ∃ r2 nr2 : Nat, PT x 5 x1.toNatClampNeg = r2 + 1 ∧ (nr2 = 0 ∧ LY[r2]? = some (7, 7)) ∧ WA X ad ca LY RX11 cX11_played 5 (some FieldType.int) (d + 1) 0 0 (a_E X ad ca LY Post) 20 [(0, .ref 0), (2, .ref r2), (3, .int 0)] [] M1 (PT x))) ∧ (v1 = 0 → Post (some (.int (-2))) M1 (PT x))))) : WA X ad ca LY RX11 cX11_played 5 (some FieldType.int) (d + 1) 0 0 (a_E X ad ca LY Post) 0 [(0, .ref 0), (1, .int x1)] [] M (PT x) := by
  refine wa_aload_n dX11_played_0 0 rfl rfl ?_
  refine wa_iload_n dX11_played_1 1 rfl rfl ?_
  obtain ⟨Q1, hM9, hF⟩ := hF
  refine wa_callV [.int x1] dX11_played_2 (mmX11_isText _ _) mlX11_173 mnX11_isText mseX11_isText rfl rfl rfl rfl (a_dlt d) rfl rfl hM9 ?_
  rintro r9 M1 P9 ⟨v1, rfl, rfl, hq9⟩
  replace hF := hF v1 M1 hq9
  simp only [Option.toList, List.cons_append, List.nil_append]
  refine wa_if_ne (tgt := 11) dX11_played_5 rfl (fun hc => ?_) (fun hc => ?_)
  · replace hF := hF.1 hc
    refine wa_aload_n dX11_played_11 0 rfl rfl ?_
    refine wa_getr (r := 5) dX11_played_12 fkX11_18 rfl rfl rfl ?_
    refine wa_iload_n dX11_played_15 1 rfl rfl ?_
    obtain ⟨hi9, r2, nr2, hpr2, hLr2, hF⟩ := hF
    replace hLr2 := hLr2.2
    refine wa_aald (r := r2) dX11_played_16 rfl (by decide) hi9 hpr2 ?_
    refine wa_astore_n (lv' := [(2, .ref r2), (0, .ref 0), (1, .int x1)]) dX11_played_17 rfl rfl rfl ?_
    refine wa_iconst (v := 0) dX11_played_18 rfl ?_
    refine wa_istore_n (lv' := [(3, .int 0), (2, .ref r2), (0, .ref 0), (1, .int x1)]) dX11_played_19 rfl rfl rfl ?_
    exact wa_pick [2, 1, 0] rfl hF
  · replace hF := hF.2 hc
    refine wa_bipush (v := (-2)) dX11_played_8 rfl ?_
    exact wa_iret dX11_played_10 rfl rfl hF

theorem bX11_played_20 {X : a_X} {ad : Nat → Nat} {ca : Nat → ClassId} {d : Nat} {Post : Option Value → a_M → a_P → Prop} {x : Nat} {M : a_M} (o2 : Nat) (x3 : Int32) (hLo2 : LY[o2]? = some (7, 7)) (hF : (((M o2 0) ≤ x3 → Post (some (.int (-1))) M (PT x)) ∧ (¬ (M o2 0) ≤ x3 → (∃ Q1 : Int32 → a_M → Prop, Mt X ad ca LY d yX7_kindOf cX7_kindOf 2 (some FieldType.int) [.ref o2, .int x3] M (PT x) (q_i (PT x) Q1) ∧ ∀ v1 M1, Q1 v1 M1 → (((v1 - 3) < 0 → WA X ad ca LY RX11 cX11_played 5 (some FieldType.int) (d + 1) 0 0 (a_E X ad ca LY Post) 65 [(0, .ref 0), (2, .ref o2), (3, .int x3)] [] M1 (PT x)) ∧ (¬ (v1 - 3) < 0 → (∃ Q2 : Int32 → a_M → Prop, Mt X ad ca LY d yX7_argument cX7_argument 4 (some FieldType.int) [.ref o2, .int x3, .ref 45] M1 (PT x) (q_i (PT x) Q2) ∧ ∀ v2 M2, Q2 v2 M2 → (∃ Q3 : Int32 → a_M → Prop, Mt X ad ca LY d yX11_enact cX11_enact 7 (some FieldType.boolean) [.ref 0, .int (v1 - 3), .int v2] M2 (PT x) (q_i (PT x) Q3) ∧ ∀ v3 M3, Q3 v3 M3 → ((¬ v3 = 0 → WA X ad ca LY RX11 cX11_played 5 (some FieldType.int) (d + 1) 0 0 (a_E X ad ca LY Post) 65 [(0, .ref 0), (2, .ref o2), (3, .int x3)] [] M3 (PT x)) ∧ (v3 = 0 → Post (some (.int x3)) M3 (PT x))))))))))) : WA X ad ca LY RX11 cX11_played 5 (some FieldType.int) (d + 1) 0 0 (a_E X ad ca LY Post) 20 [(0, .ref 0), (2, .ref o2), (3, .int x3)] [] M (PT x) := by
  refine wa_iload_n dX11_played_20 2 rfl rfl ?_
  refine wa_aload_n dX11_played_21 1 rfl rfl ?_
  refine wb_geti (v := M o2 0) dX11_played_22 fkX11_297 rfl hLo2 rfl ?_
  refine wa_icmp_ge (tgt := 71) dX11_played_25 rfl (fun hc => ?_) (fun hc => ?_)
  · replace hF := hF.1 hc
    refine wa_iconst (v := (-1)) dX11_played_71 rfl ?_
    exact wa_iret dX11_played_72 rfl rfl hF
  · replace hF := hF.2 hc
    refine wa_aload_n dX11_played_28 1 rfl rfl ?_
    refine wa_iload_n dX11_played_29 2 rfl rfl ?_
    obtain ⟨Q1, hM9, hF⟩ := hF
    refine wa_callV [.int x3] dX11_played_30 (mmX7_kindOf _ _) mlX11_300 mnX7_kindOf mseX7_kindOf hLo2 rfl rfl rfl (a_dlt d) rfl rfl hM9 ?_
    rintro r9 M1 P9 ⟨v1, rfl, rfl, hq9⟩
    replace hF := hF v1 M1 hq9
    simp only [Option.toList, List.cons_append, List.nil_append]
    refine wa_iconst (v := 3) dX11_played_33 rfl ?_
    refine wa_isub dX11_played_34 ?_
    refine wa_istore (lv' := [(4, .int (v1 - 3)), (0, .ref 0), (2, .ref o2), (3, .int x3)]) dX11_played_35 rfl rfl ?_
    refine wa_iload dX11_played_37 0 rfl ?_
    refine wa_if_lt (tgt := 65) dX11_played_39 rfl (fun hc => ?_) (fun hc => ?_)
    · replace hF := hF.1 hc
      exact wa_pick [1, 2, 3] rfl hF
    · replace hF := hF.2 hc
      refine wa_aload_n dX11_played_42 1 rfl rfl ?_
      refine wa_iload dX11_played_43 0 rfl ?_
      refine wa_aload_n dX11_played_45 2 rfl rfl ?_
      refine wa_iload_n dX11_played_46 3 rfl rfl ?_
      refine wa_aload_n dX11_played_47 1 rfl rfl ?_
      refine wa_getr (r := 44) dX11_played_48 fkX11_101 rfl rfl rfl ?_
      refine wa_getr (r := 45) dX11_played_51 fkX11_108 rfl rfl rfl ?_
      obtain ⟨Q2, hM9, hF⟩ := hF
      refine wa_callV [.int x3, .ref 45] dX11_played_54 (mmX7_argument _ _) mlX11_303 mnX7_argument mseX7_argument hLo2 rfl rfl rfl (a_dlt d) rfl rfl hM9 ?_
      rintro r9 M2 P9 ⟨v2, rfl, rfl, hq9⟩
      replace hF := hF v2 M2 hq9
      simp only [Option.toList, List.cons_append, List.nil_append]
      obtain ⟨Q3, hM9, hF⟩ := hF
      refine wa_callV [.int (v1 - 3), .int v2] dX11_played_57 (mmX11_enact _ _) mlX11_294 mnX11_enact mseX11_enact rfl rfl rfl rfl (a_dlt d) rfl rfl hM9 ?_
      rintro r9 M3 P9 ⟨v3, rfl, rfl, hq9⟩
      replace hF := hF v3 M3 hq9
      simp only [Option.toList, List.cons_append, List.nil_append]
      refine wa_if_ne (tgt := 65) dX11_played_60 rfl (fun hc => ?_) (fun hc => ?_)
      · replace hF := hF.1 hc
        exact wa_pick [1, 2, 3] rfl hF
      · replace hF := hF.2 hc
        refine wa_iload_n dX11_played_63 3 rfl rfl ?_
        exact wa_iret dX11_played_64 rfl rfl hF

theorem bX11_played_65 {X : a_X} {ad : Nat → Nat} {ca : Nat → ClassId} {d : Nat} {kc ks : Nat} {QF : List Frame → Array Value → State → State → Prop} {x : Nat} {M : a_M} (o2 : Nat) (x3 : Int32) (hLo2 : LY[o2]? = some (7, 7)) (hF : WA X ad ca LY RX11 cX11_played 5 (some FieldType.int) (d + 1) kc ks QF 20 [(0, .ref 0), (2, .ref o2), (3, .int (x3 + 1))] [] M (PT x)) : WA X ad ca LY RX11 cX11_played 5 (some FieldType.int) (d + 1) kc ks QF 65 [(0, .ref 0), (2, .ref o2), (3, .int x3)] [] M (PT x) := by
  refine wa_iinc (v := x3 + 1) (lv' := [(3, .int (x3 + 1)), (0, .ref 0), (2, .ref o2)]) dX11_played_65 2 rfl rfl rfl rfl ?_
  refine wa_goto (tgt := 20) dX11_played_68 rfl ?_
  exact wa_pick [1, 2, 0] rfl hF

theorem eX11_played {X : a_X} {ad : Nat → Nat} {ca : Nat → ClassId} {d : Nat} {Post : Option Value → a_M → a_P → Prop} {x : Nat} {M : a_M} (x1 : Int32) (h : WA X ad ca LY RX11 cX11_played 5 (some FieldType.int) d 0 0 (a_E X ad ca LY Post) 0 [(0, .ref 0), (1, .int x1)] [] M (PT x)) : Mt X ad ca LY d yX11_played cX11_played 5 (some FieldType.int) [.ref 0, .int x1] M (PT x) Post := Mt.of (lv := [(0, .ref 0), (1, .int x1)]) (by decide +kernel) rfl rfl rfl (wa_pick [0, 1] rfl h)

theorem bX11_undo_0 {X : a_X} {ad : Nat → Nat} {ca : Nat → ClassId} {d : Nat} {Post : Option Value → a_M → a_P → Prop} {x : Nat} {M : a_M}   (hF : ((¬ (M 46 2) = 0 → Post (some (.int ((M 46 2) - 1))) (ms (ms M 46 2 ((M 46 2) - 1)) 46 3 ((M 46 3) + 1)) (PT x)) ∧ ((M 46 2) = 0 → Post (some (.int (-1))) M (PT x)))) : WA X ad ca LY RX11 cX11_undo 2 (some FieldType.int) (d + 1) 0 0 (a_E X ad ca LY Post) 0 [(0, .ref 0)] [] M (PT x) := by
  refine wa_aload_n dX11_undo_0 0 rfl rfl ?_
  refine wa_getr (r := 44) dX11_undo_1 fkX11_101 rfl rfl rfl ?_
  refine wa_getr (r := 46) dX11_undo_4 fkX11_119 rfl rfl rfl ?_
  refine wa_astore_n (lv' := [(1, .ref 46), (0, .ref 0)]) dX11_undo_7 rfl rfl rfl ?_
  refine wa_aload_n dX11_undo_8 0 rfl rfl ?_
  refine wb_geti (v := M 46 2) dX11_undo_9 fkX11_307 rfl rfl rfl ?_
  refine wa_if_ne (tgt := 17) dX11_undo_12 rfl (fun hc => ?_) (fun hc => ?_)
  · replace hF := hF.1 hc
    refine wa_aload_n dX11_undo_17 0 rfl rfl ?_
    refine wa_dup dX11_undo_18 rfl ?_
    refine wb_geti (v := M 46 2) dX11_undo_19 fkX11_307 rfl rfl rfl ?_
    refine wa_iconst (v := 1) dX11_undo_22 rfl ?_
    refine wa_isub dX11_undo_23 ?_
    refine wb_puti dX11_undo_24 fkX11_307 fmX2_2 rfl rfl ?_
    refine wa_aload_n dX11_undo_27 0 rfl rfl ?_
    refine wa_dup dX11_undo_28 rfl ?_
    refine wb_geti (v := M 46 3) dX11_undo_29 fkX11_310 rfl rfl ((ms_no M 46 2 ((M 46 2) - 1) 46 3 (fun h9 => absurd h9.2 (by decide))).trans rfl) ?_
    refine wa_iconst (v := 1) dX11_undo_32 rfl ?_
    refine wa_iadd dX11_undo_33 ?_
    refine wb_puti dX11_undo_34 fkX11_310 fmX2_3 rfl rfl ?_
    refine wa_aload_n dX11_undo_37 0 rfl rfl ?_
    refine wb_geti (v := ((M 46 2) - 1)) dX11_undo_38 fkX11_307 rfl rfl ((ms_no (ms M 46 2 ((M 46 2) - 1)) 46 3 ((M 46 3) + 1) 46 2 (fun h9 => absurd h9.2 (by decide))).trans (ms_is M 46 2 ((M 46 2) - 1))) ?_
    exact wa_iret dX11_undo_41 rfl rfl hF
  · replace hF := hF.2 hc
    refine wa_iconst (v := (-1)) dX11_undo_15 rfl ?_
    exact wa_iret dX11_undo_16 rfl rfl hF

theorem eX11_undo {X : a_X} {ad : Nat → Nat} {ca : Nat → ClassId} {d : Nat} {Post : Option Value → a_M → a_P → Prop} {x : Nat} {M : a_M}  (h : WA X ad ca LY RX11 cX11_undo 2 (some FieldType.int) d 0 0 (a_E X ad ca LY Post) 0 [(0, .ref 0)] [] M (PT x)) : Mt X ad ca LY d yX11_undo cX11_undo 2 (some FieldType.int) [.ref 0] M (PT x) Post := Mt.of (lv := [(0, .ref 0)]) (by decide +kernel) rfl rfl rfl (wa_pick [0] rfl h)

theorem bX11_redo_0 {X : a_X} {ad : Nat → Nat} {ca : Nat → ClassId} {d : Nat} {Post : Option Value → a_M → a_P → Prop} {x : Nat} {M : a_M}   (hF : ((¬ (M 46 3) = 0 → Post (some (.int ((M 46 3) - 1))) (ms (ms M 46 3 ((M 46 3) - 1)) 46 2 ((M 46 2) + 1)) (PT x)) ∧ ((M 46 3) = 0 → Post (some (.int (-1))) M (PT x)))) : WA X ad ca LY RX11 cX11_redo 2 (some FieldType.int) (d + 1) 0 0 (a_E X ad ca LY Post) 0 [(0, .ref 0)] [] M (PT x) := by
  refine wa_aload_n dX11_redo_0 0 rfl rfl ?_
  refine wa_getr (r := 44) dX11_redo_1 fkX11_101 rfl rfl rfl ?_
  refine wa_getr (r := 46) dX11_redo_4 fkX11_119 rfl rfl rfl ?_
  refine wa_astore_n (lv' := [(1, .ref 46), (0, .ref 0)]) dX11_redo_7 rfl rfl rfl ?_
  refine wa_aload_n dX11_redo_8 0 rfl rfl ?_
  refine wb_geti (v := M 46 3) dX11_redo_9 fkX11_310 rfl rfl rfl ?_
  refine wa_if_ne (tgt := 17) dX11_redo_12 rfl (fun hc => ?_) (fun hc => ?_)
  · replace hF := hF.1 hc
    refine wa_aload_n dX11_redo_17 0 rfl rfl ?_
    refine wa_dup dX11_redo_18 rfl ?_
    refine wb_geti (v := M 46 3) dX11_redo_19 fkX11_310 rfl rfl rfl ?_
    refine wa_iconst (v := 1) dX11_redo_22 rfl ?_
    refine wa_isub dX11_redo_23 ?_
    refine wb_puti dX11_redo_24 fkX11_310 fmX2_3 rfl rfl ?_
    refine wa_aload_n dX11_redo_27 0 rfl rfl ?_
    refine wa_dup dX11_redo_28 rfl ?_
    refine wb_geti (v := M 46 2) dX11_redo_29 fkX11_307 rfl rfl ((ms_no M 46 3 ((M 46 3) - 1) 46 2 (fun h9 => absurd h9.2 (by decide))).trans rfl) ?_
    refine wa_iconst (v := 1) dX11_redo_32 rfl ?_
    refine wa_iadd dX11_redo_33 ?_
    refine wb_puti dX11_redo_34 fkX11_307 fmX2_2 rfl rfl ?_
    refine wa_aload_n dX11_redo_37 0 rfl rfl ?_
    refine wb_geti (v := ((M 46 3) - 1)) dX11_redo_38 fkX11_310 rfl rfl ((ms_no (ms M 46 3 ((M 46 3) - 1)) 46 2 ((M 46 2) + 1) 46 3 (fun h9 => absurd h9.2 (by decide))).trans (ms_is M 46 3 ((M 46 3) - 1))) ?_
    exact wa_iret dX11_redo_41 rfl rfl hF
  · replace hF := hF.2 hc
    refine wa_iconst (v := (-1)) dX11_redo_15 rfl ?_
    exact wa_iret dX11_redo_16 rfl rfl hF

theorem eX11_redo {X : a_X} {ad : Nat → Nat} {ca : Nat → ClassId} {d : Nat} {Post : Option Value → a_M → a_P → Prop} {x : Nat} {M : a_M}  (h : WA X ad ca LY RX11 cX11_redo 2 (some FieldType.int) d 0 0 (a_E X ad ca LY Post) 0 [(0, .ref 0)] [] M (PT x)) : Mt X ad ca LY d yX11_redo cX11_redo 2 (some FieldType.int) [.ref 0] M (PT x) Post := Mt.of (lv := [(0, .ref 0)]) (by decide +kernel) rfl rfl rfl (wa_pick [0] rfl h)

theorem bX11_at_0 {X : a_X} {ad : Nat → Nat} {ca : Nat → ClassId} {d : Nat} {Post : Option Value → a_M → a_P → Prop} {x : Nat} {M : a_M} (x1 : Int32)  (hF : (∃ Q1 : Int32 → a_M → Prop, Mt X ad ca LY d yX6_isState cX6_isState 2 (some FieldType.boolean) [.ref 45, .int x1] M (PT x) (q_i (PT x) Q1) ∧ ∀ v1 M1, Q1 v1 M1 → ((v1 = 0 → Post (some (.int (-1))) M1 (PT x)) ∧ (¬ v1 = 0 → (∃ Q2 : Nat → a_M → Prop, Mt X ad ca LY d yX2_vector cX2_vector 1 (some (FieldType.array FieldType.int)) [.ref 46] M1 (PT x) (q_r (PT x) Q2) ∧ ∀ r2 M2, Q2 r2 M2 → ∃ nr2, LY[r2]? = some (100, nr2) ∧ (vp_in x1 nr2 ∧ Post (some (.int (M2 r2 x1.toNatClampNeg))) M2 (PT x))))))) : WA X ad ca LY RX11 cX11_at 2 (some FieldType.int) (d + 1) 0 0 (a_E X ad ca LY Post) 0 [(0, .ref 0), (1, .int x1)] [] M (PT x) := by
  refine wa_aload_n dX11_at_0 0 rfl rfl ?_
  refine wa_getr (r := 44) dX11_at_1 fkX11_101 rfl rfl rfl ?_
  refine wa_getr (r := 45) dX11_at_4 fkX11_108 rfl rfl rfl ?_
  refine wa_iload_n dX11_at_7 1 rfl rfl ?_
  obtain ⟨Q1, hM9, hF⟩ := hF
  refine wa_callV [.int x1] dX11_at_8 (mmX6_isState _ _) mlX11_203 mnX6_isState mseX6_isState rfl rfl rfl rfl (a_dlt d) rfl rfl hM9 ?_
  rintro r9 M1 P9 ⟨v1, rfl, rfl, hq9⟩
  replace hF := hF v1 M1 hq9
  simp only [Option.toList, List.cons_append, List.nil_append]
  refine wa_if_eq (tgt := 29) dX11_at_11 rfl (fun hc => ?_) (fun hc => ?_)
  · replace hF := hF.1 hc
    refine wa_iconst (v := (-1)) dX11_at_29 rfl ?_
    exact wa_iret dX11_at_30 rfl rfl hF
  · replace hF := hF.2 hc
    refine wa_aload_n dX11_at_14 0 rfl rfl ?_
    refine wa_getr (r := 44) dX11_at_15 fkX11_101 rfl rfl rfl ?_
    refine wa_getr (r := 46) dX11_at_18 fkX11_119 rfl rfl rfl ?_
    obtain ⟨Q2, hM9, hF⟩ := hF
    refine wa_callV [] dX11_at_21 (mmX2_vector _ _) mlX11_290 mnX2_vector mseX2_vector rfl rfl rfl rfl (a_dlt d) rfl rfl hM9 ?_
    rintro r9 M2 P9 ⟨r2, rfl, rfl, hq9⟩
    obtain ⟨nr2, hLr2, hF⟩ := hF r2 M2 hq9
    simp only [Option.toList, List.cons_append, List.nil_append]
    refine wa_iload_n dX11_at_24 1 rfl rfl ?_
    obtain ⟨hi9, hF⟩ := hF
    refine wb_iald (j := x1.toNatClampNeg) (v := M2 r2 x1.toNatClampNeg) dX11_at_25 hLr2 hi9 rfl rfl ?_
    refine wa_goto (tgt := 30) dX11_at_26 rfl ?_
    exact wa_iret dX11_at_30 rfl rfl hF

theorem eX11_at {X : a_X} {ad : Nat → Nat} {ca : Nat → ClassId} {d : Nat} {Post : Option Value → a_M → a_P → Prop} {x : Nat} {M : a_M} (x1 : Int32) (h : WA X ad ca LY RX11 cX11_at 2 (some FieldType.int) d 0 0 (a_E X ad ca LY Post) 0 [(0, .ref 0), (1, .int x1)] [] M (PT x)) : Mt X ad ca LY d yX11_at cX11_at 2 (some FieldType.int) [.ref 0, .int x1] M (PT x) Post := Mt.of (lv := [(0, .ref 0), (1, .int x1)]) (by decide +kernel) rfl rfl rfl (wa_pick [0, 1] rfl h)

theorem bX11_norm_0 {X : a_X} {ad : Nat → Nat} {ca : Nat → ClassId} {d : Nat} {kc ks : Nat} {QF : List Frame → Array Value → State → State → Prop} {x : Nat} {M : a_M}   (hF : (∃ Q1 : Nat → a_M → Prop, Mt X ad ca LY d yX2_vector cX2_vector 1 (some (FieldType.array FieldType.int)) [.ref 46] M (PT x) (q_r (PT x) Q1) ∧ ∀ r1 M1, Q1 r1 M1 → ∃ nr1, LY[r1]? = some (100, nr1) ∧ WA X ad ca LY RX11 cX11_norm 4 (some FieldType.int) (d + 1) kc ks QF 15 [(0, .ref 0), (1, .ref r1), (2, .int 0), (3, .int 0)] [] M1 (PT x))) : WA X ad ca LY RX11 cX11_norm 4 (some FieldType.int) (d + 1) kc ks QF 0 [(0, .ref 0)] [] M (PT x) := by
  refine wa_aload_n dX11_norm_0 0 rfl rfl ?_
  refine wa_getr (r := 44) dX11_norm_1 fkX11_101 rfl rfl rfl ?_
  refine wa_getr (r := 46) dX11_norm_4 fkX11_119 rfl rfl rfl ?_
  obtain ⟨Q1, hM9, hF⟩ := hF
  refine wa_callV [] dX11_norm_7 (mmX2_vector _ _) mlX11_290 mnX2_vector mseX2_vector rfl rfl rfl rfl (a_dlt d) rfl rfl hM9 ?_
  rintro r9 M1 P9 ⟨r1, rfl, rfl, hq9⟩
  obtain ⟨nr1, hLr1, hF⟩ := hF r1 M1 hq9
  simp only [Option.toList, List.cons_append, List.nil_append]
  refine wa_astore_n (lv' := [(1, .ref r1), (0, .ref 0)]) dX11_norm_10 rfl rfl rfl ?_
  refine wa_iconst (v := 0) dX11_norm_11 rfl ?_
  refine wa_istore_n (lv' := [(2, .int 0), (1, .ref r1), (0, .ref 0)]) dX11_norm_12 rfl rfl rfl ?_
  refine wa_iconst (v := 0) dX11_norm_13 rfl ?_
  refine wa_istore_n (lv' := [(3, .int 0), (2, .int 0), (1, .ref r1), (0, .ref 0)]) dX11_norm_14 rfl rfl rfl ?_
  exact wa_pick [3, 2, 1, 0] rfl hF

theorem bX11_norm_15 {X : a_X} {ad : Nat → Nat} {ca : Nat → ClassId} {d : Nat} {Post : Option Value → a_M → a_P → Prop} {x : Nat} {M : a_M} (o1 : Nat) (no1 : Nat) (x2 : Int32) (x3 : Int32) (hLo1 : LY[o1]? = some (100, no1)) (hF : (∃ Q1 : Int32 → a_M → Prop, Mt X ad ca LY d yX6_states cX6_states 1 (some FieldType.int) [.ref 45] M (PT x) (q_i (PT x) Q1) ∧ ∀ v1 M1, Q1 v1 M1 → ((v1 ≤ x3 → (∃ Q2 : Int32 → a_M → Prop, Mt X ad ca LY d yX11_left cX11_left 3 (some FieldType.int) [.int x2, .int (M1 45 2)] M1 (PT x) (q_i (PT x) Q2) ∧ ∀ v2 M2, Q2 v2 M2 → Post (some (.int v2)) M2 (PT x))) ∧ (¬ v1 ≤ x3 → (vp_in x3 no1 ∧ (vp_in x3 no1 ∧ WA X ad ca LY RX11 cX11_norm 4 (some FieldType.int) (d + 1) 0 0 (a_E X ad ca LY Post) 15 [(0, .ref 0), (1, .ref o1), (2, .int (x2 + ((M1 o1 x3.toNatClampNeg) * (M1 o1 x3.toNatClampNeg)))), (3, .int (x3 + 1))] [] M1 (PT x))))))) : WA X ad ca LY RX11 cX11_norm 4 (some FieldType.int) (d + 1) 0 0 (a_E X ad ca LY Post) 15 [(0, .ref 0), (1, .ref o1), (2, .int x2), (3, .int x3)] [] M (PT x) := by
  refine wa_iload_n dX11_norm_15 3 rfl rfl ?_
  refine wa_aload_n dX11_norm_16 0 rfl rfl ?_
  refine wa_getr (r := 44) dX11_norm_17 fkX11_101 rfl rfl rfl ?_
  refine wa_getr (r := 45) dX11_norm_20 fkX11_108 rfl rfl rfl ?_
  obtain ⟨Q1, hM9, hF⟩ := hF
  refine wa_callV [] dX11_norm_23 (mmX6_states _ _) mlX11_255 mnX6_states mseX6_states rfl rfl rfl rfl (a_dlt d) rfl rfl hM9 ?_
  rintro r9 M1 P9 ⟨v1, rfl, rfl, hq9⟩
  replace hF := hF v1 M1 hq9
  simp only [Option.toList, List.cons_append, List.nil_append]
  refine wa_icmp_ge (tgt := 45) dX11_norm_26 rfl (fun hc => ?_) (fun hc => ?_)
  · replace hF := hF.1 hc
    refine wa_iload_n dX11_norm_45 2 rfl rfl ?_
    refine wa_aload_n dX11_norm_46 0 rfl rfl ?_
    refine wa_getr (r := 44) dX11_norm_47 fkX11_101 rfl rfl rfl ?_
    refine wa_getr (r := 45) dX11_norm_50 fkX11_108 rfl rfl rfl ?_
    refine wb_geti (v := M1 45 2) dX11_norm_53 fkX11_132 rfl rfl rfl ?_
    obtain ⟨Q2, hM9, hF⟩ := hF
    refine wa_callS [.int x2, .int (M1 45 2)] dX11_norm_56 (mmX11_left _ _) mlX11_138 mstX11_left rfl (a_dlt d) rfl rfl hM9 ?_
    rintro r9 M2 P9 ⟨v2, rfl, rfl, hq9⟩
    replace hF := hF v2 M2 hq9
    simp only [Option.toList, List.cons_append, List.nil_append]
    exact wa_iret dX11_norm_59 rfl rfl hF
  · replace hF := hF.2 hc
    refine wa_iload_n dX11_norm_29 2 rfl rfl ?_
    refine wa_aload_n dX11_norm_30 1 rfl rfl ?_
    refine wa_iload_n dX11_norm_31 3 rfl rfl ?_
    obtain ⟨hi9, hF⟩ := hF
    refine wb_iald (j := x3.toNatClampNeg) (v := M1 o1 x3.toNatClampNeg) dX11_norm_32 hLo1 hi9 rfl rfl ?_
    refine wa_aload_n dX11_norm_33 1 rfl rfl ?_
    refine wa_iload_n dX11_norm_34 3 rfl rfl ?_
    obtain ⟨hi9, hF⟩ := hF
    refine wb_iald (j := x3.toNatClampNeg) (v := M1 o1 x3.toNatClampNeg) dX11_norm_35 hLo1 hi9 rfl rfl ?_
    refine wa_imul dX11_norm_36 ?_
    refine wa_iadd dX11_norm_37 ?_
    refine wa_istore_n (lv' := [(2, .int (x2 + ((M1 o1 x3.toNatClampNeg) * (M1 o1 x3.toNatClampNeg)))), (0, .ref 0), (1, .ref o1), (3, .int x3)]) dX11_norm_38 rfl rfl rfl ?_
    refine wa_iinc (v := x3 + 1) (lv' := [(3, .int (x3 + 1)), (2, .int (x2 + ((M1 o1 x3.toNatClampNeg) * (M1 o1 x3.toNatClampNeg)))), (0, .ref 0), (1, .ref o1)]) dX11_norm_39 3 rfl rfl rfl rfl ?_
    refine wa_goto (tgt := 15) dX11_norm_42 rfl ?_
    exact wa_pick [2, 3, 1, 0] rfl hF

theorem eX11_norm {X : a_X} {ad : Nat → Nat} {ca : Nat → ClassId} {d : Nat} {Post : Option Value → a_M → a_P → Prop} {x : Nat} {M : a_M}  (h : WA X ad ca LY RX11 cX11_norm 4 (some FieldType.int) d 0 0 (a_E X ad ca LY Post) 0 [(0, .ref 0)] [] M (PT x)) : Mt X ad ca LY d yX11_norm cX11_norm 4 (some FieldType.int) [.ref 0] M (PT x) Post := Mt.of (lv := [(0, .ref 0)]) (by decide +kernel) rfl rfl rfl (wa_pick [0] rfl h)

theorem bX11_power_0 {X : a_X} {ad : Nat → Nat} {ca : Nat → ClassId} {d : Nat} {kc ks : Nat} {QF : List Frame → Array Value → State → State → Prop} {x : Nat} {M : a_M} (x1 : Int32) (x2 : Int32) (x3 : Int32)  (hF : (∃ Q1 : Int32 → a_M → Prop, Mt X ad ca LY d yX6_isState cX6_isState 2 (some FieldType.boolean) [.ref 45, .int x1] M (PT x) (q_i (PT x) Q1) ∧ ∀ v1 M1, Q1 v1 M1 → ((v1 = 0 → WA X ad ca LY RX11 cX11_power 6 (some FieldType.int) (d + 1) kc ks QF 37 [] [] M1 (PT x)) ∧ (¬ v1 = 0 → (∃ Q2 : Int32 → a_M → Prop, Mt X ad ca LY d yX6_isState cX6_isState 2 (some FieldType.boolean) [.ref 45, .int x3] M1 (PT x) (q_i (PT x) Q2) ∧ ∀ v2 M2, Q2 v2 M2 → ((v2 = 0 → WA X ad ca LY RX11 cX11_power 6 (some FieldType.int) (d + 1) kc ks QF 37 [] [] M2 (PT x)) ∧ (¬ v2 = 0 → ((x2 < 0 → WA X ad ca LY RX11 cX11_power 6 (some FieldType.int) (d + 1) kc ks QF 37 [] [] M2 (PT x)) ∧ (¬ x2 < 0 → ((x2 < 100 → (∃ Q3 : a_M → Prop, Mt X ad ca LY d yX11_clear cX11_clear 2 none [.ref 42] M2 (PT x) (q_v (PT x) Q3) ∧ ∀ M3, Q3 M3 → (vp_in x1 128 ∧ WA X ad ca LY RX11 cX11_power 6 (some FieldType.int) (d + 1) kc ks QF 56 [(0, .ref 0), (2, .int x2), (3, .int x3), (4, .ref 45), (5, .int 0)] [] (ms M3 42 x1.toNatClampNeg 1) (PT x)))) ∧ (¬ x2 < 100 → WA X ad ca LY RX11 cX11_power 6 (some FieldType.int) (d + 1) kc ks QF 37 [] [] M2 (PT x)))))))))))) : WA X ad ca LY RX11 cX11_power 6 (some FieldType.int) (d + 1) kc ks QF 0 [(0, .ref 0), (1, .int x1), (2, .int x2), (3, .int x3)] [] M (PT x) := by
  refine wa_aload_n dX11_power_0 0 rfl rfl ?_
  refine wa_getr (r := 44) dX11_power_1 fkX11_101 rfl rfl rfl ?_
  refine wa_getr (r := 45) dX11_power_4 fkX11_108 rfl rfl rfl ?_
  refine wa_astore (lv' := [(4, .ref 45), (0, .ref 0), (1, .int x1), (2, .int x2), (3, .int x3)]) dX11_power_7 rfl rfl ?_
  refine wa_aload dX11_power_9 0 rfl ?_
  refine wa_iload_n dX11_power_11 2 rfl rfl ?_
  obtain ⟨Q1, hM9, hF⟩ := hF
  refine wa_callV [.int x1] dX11_power_12 (mmX6_isState _ _) mlX11_203 mnX6_isState mseX6_isState rfl rfl rfl rfl (a_dlt d) rfl rfl hM9 ?_
  rintro r9 M1 P9 ⟨v1, rfl, rfl, hq9⟩
  replace hF := hF v1 M1 hq9
  simp only [Option.toList, List.cons_append, List.nil_append]
  refine wa_if_eq (tgt := 37) dX11_power_15 rfl (fun hc => ?_) (fun hc => ?_)
  · replace hF := hF.1 hc
    exact wa_pick [] rfl hF
  · replace hF := hF.2 hc
    refine wa_aload dX11_power_18 0 rfl ?_
    refine wa_iload_n dX11_power_20 4 rfl rfl ?_
    obtain ⟨Q2, hM9, hF⟩ := hF
    refine wa_callV [.int x3] dX11_power_21 (mmX6_isState _ _) mlX11_203 mnX6_isState mseX6_isState rfl rfl rfl rfl (a_dlt d) rfl rfl hM9 ?_
    rintro r9 M2 P9 ⟨v2, rfl, rfl, hq9⟩
    replace hF := hF v2 M2 hq9
    simp only [Option.toList, List.cons_append, List.nil_append]
    refine wa_if_eq (tgt := 37) dX11_power_24 rfl (fun hc => ?_) (fun hc => ?_)
    · replace hF := hF.1 hc
      exact wa_pick [] rfl hF
    · replace hF := hF.2 hc
      refine wa_iload_n dX11_power_27 3 rfl rfl ?_
      refine wa_if_lt (tgt := 37) dX11_power_28 rfl (fun hc => ?_) (fun hc => ?_)
      · replace hF := hF.1 hc
        exact wa_pick [] rfl hF
      · replace hF := hF.2 hc
        refine wa_iload_n dX11_power_31 3 rfl rfl ?_
        refine wa_bipush (v := 100) dX11_power_32 rfl ?_
        refine wa_icmp_lt (tgt := 39) dX11_power_34 rfl (fun hc => ?_) (fun hc => ?_)
        · replace hF := hF.1 hc
          refine wa_aload_n dX11_power_39 1 rfl rfl ?_
          refine wa_getr (r := 42) dX11_power_40 fkX11_80 rfl rfl rfl ?_
          obtain ⟨Q3, hM9, hF⟩ := hF
          refine wa_callS [.ref 42] dX11_power_43 (mmX11_clear _ _) mlX11_313 mstX11_clear rfl (a_dlt d) rfl rfl hM9 ?_
          rintro r9 M3 P9 ⟨rfl, rfl, hq9⟩
          replace hF := hF M3 hq9
          simp only [Option.toList, List.nil_append]
          refine wa_aload_n dX11_power_46 1 rfl rfl ?_
          refine wa_getr (r := 42) dX11_power_47 fkX11_80 rfl rfl rfl ?_
          refine wa_iload_n dX11_power_50 2 rfl rfl ?_
          refine wa_iconst (v := 1) dX11_power_51 rfl ?_
          obtain ⟨hi9, hF⟩ := hF
          refine wb_iast (j := x1.toNatClampNeg) dX11_power_52 rfl hi9 rfl ?_
          refine wa_iconst (v := 0) dX11_power_53 rfl ?_
          refine wa_istore (lv' := [(5, .int 0), (4, .ref 45), (0, .ref 0), (1, .int x1), (2, .int x2), (3, .int x3)]) dX11_power_54 rfl rfl ?_
          exact wa_pick [2, 4, 5, 1, 0] rfl hF
        · replace hF := hF.2 hc
          exact wa_pick [] rfl hF

theorem bX11_power_37 {X : a_X} {ad : Nat → Nat} {ca : Nat → ClassId} {d : Nat} {Post : Option Value → a_M → a_P → Prop} {x : Nat} {M : a_M}   (hF : Post (some (.int (-1))) M (PT x)) : WA X ad ca LY RX11 cX11_power 6 (some FieldType.int) (d + 1) 0 0 (a_E X ad ca LY Post) 37 [] [] M (PT x) := by
  refine wa_iconst (v := (-1)) dX11_power_37 rfl ?_
  exact wa_iret dX11_power_38 rfl rfl hF

theorem bX11_power_56 {X : a_X} {ad : Nat → Nat} {ca : Nat → ClassId} {d : Nat} {Post : Option Value → a_M → a_P → Prop} {x : Nat} {M : a_M} (x2 : Int32) (x3 : Int32) (o4 : Nat) (x5 : Int32) (hLo4 : LY[o4]? = some (6, 5)) (hF : ((x2 ≤ x5 → (vp_in x3 128 ∧ Post (some (.int (M 42 x3.toNatClampNeg))) M (PT x))) ∧ (¬ x2 ≤ x5 → (∃ Q1 : a_M → Prop, Mt X ad ca LY d yX6_sumOver cX6_sumOver 4 none [.ref o4, .ref 42, .ref 43] M (PT x) (q_v (PT x) Q1) ∧ ∀ M1, Q1 M1 → (¬ (0 : Int32) < 0 ∧ ¬ (0 : Int32) < 0 ∧ ¬ (128 : Int32) < 0 ∧ (0 : Int32).toNatClampNeg + (128 : Int32).toNatClampNeg ≤ 128 ∧ (0 : Int32).toNatClampNeg + (128 : Int32).toNatClampNeg ≤ 128 ∧ WA X ad ca LY RX11 cX11_power 6 (some FieldType.int) (d + 1) 0 0 (a_E X ad ca LY Post) 56 [(0, .ref 0), (2, .int x2), (3, .int x3), (4, .ref o4), (5, .int (x5 + 1))] [] (va_up M1 42 (va_cpy (M1 43) (M1 42) (0 : Int32).toNatClampNeg (0 : Int32).toNatClampNeg (128 : Int32).toNatClampNeg)) (PT x)))))) : WA X ad ca LY RX11 cX11_power 6 (some FieldType.int) (d + 1) 0 0 (a_E X ad ca LY Post) 56 [(0, .ref 0), (2, .int x2), (3, .int x3), (4, .ref o4), (5, .int x5)] [] M (PT x) := by
  refine wa_iload dX11_power_56 4 rfl ?_
  refine wa_iload_n dX11_power_58 1 rfl rfl ?_
  refine wa_icmp_ge (tgt := 97) dX11_power_59 rfl (fun hc => ?_) (fun hc => ?_)
  · replace hF := hF.1 hc
    refine wa_aload_n dX11_power_97 0 rfl rfl ?_
    refine wa_getr (r := 42) dX11_power_98 fkX11_80 rfl rfl rfl ?_
    refine wa_iload_n dX11_power_101 2 rfl rfl ?_
    obtain ⟨hi9, hF⟩ := hF
    refine wb_iald (j := x3.toNatClampNeg) (v := M 42 x3.toNatClampNeg) dX11_power_102 rfl hi9 rfl rfl ?_
    exact wa_iret dX11_power_103 rfl rfl hF
  · replace hF := hF.2 hc
    refine wa_aload dX11_power_62 3 rfl ?_
    refine wa_aload_n dX11_power_64 0 rfl rfl ?_
    refine wa_getr (r := 42) dX11_power_65 fkX11_80 rfl rfl rfl ?_
    refine wa_aload_n dX11_power_68 0 rfl rfl ?_
    refine wa_getr (r := 43) dX11_power_69 fkX11_84 rfl rfl rfl ?_
    obtain ⟨Q1, hM9, hF⟩ := hF
    refine wa_callV [.ref 42, .ref 43] dX11_power_72 (mmX6_sumOver _ _) mlX11_317 mnX6_sumOver mseX6_sumOver hLo4 rfl rfl rfl (a_dlt d) rfl rfl hM9 ?_
    rintro r9 M1 P9 ⟨rfl, rfl, hq9⟩
    replace hF := hF M1 hq9
    simp only [Option.toList, List.nil_append]
    refine wa_aload_n dX11_power_75 0 rfl rfl ?_
    refine wa_getr (r := 43) dX11_power_76 fkX11_84 rfl rfl rfl ?_
    refine wa_iconst (v := 0) dX11_power_79 rfl ?_
    refine wa_aload_n dX11_power_80 0 rfl rfl ?_
    refine wa_getr (r := 42) dX11_power_81 fkX11_80 rfl rfl rfl ?_
    refine wa_iconst (v := 0) dX11_power_84 rfl ?_
    refine wa_sipush (v := 128) dX11_power_85 rfl ?_
    obtain ⟨h91, h92, h93, h94, h95, hF⟩ := hF
    refine wa_copy dX11_power_88 mlX11_321 acn acs inJ10 rfl rfl h91 h92 h93 h94 h95 rfl ?_
    refine wa_iinc (v := x5 + 1) (lv' := [(5, .int (x5 + 1)), (0, .ref 0), (2, .int x2), (3, .int x3), (4, .ref o4)]) dX11_power_91 4 rfl rfl rfl rfl ?_
    refine wa_goto (tgt := 56) dX11_power_94 rfl ?_
    exact wa_pick [1, 2, 3, 4, 0] rfl hF

theorem eX11_power {X : a_X} {ad : Nat → Nat} {ca : Nat → ClassId} {d : Nat} {Post : Option Value → a_M → a_P → Prop} {x : Nat} {M : a_M} (x1 : Int32) (x2 : Int32) (x3 : Int32) (h : WA X ad ca LY RX11 cX11_power 6 (some FieldType.int) d 0 0 (a_E X ad ca LY Post) 0 [(0, .ref 0), (1, .int x1), (2, .int x2), (3, .int x3)] [] M (PT x)) : Mt X ad ca LY d yX11_power cX11_power 6 (some FieldType.int) [.ref 0, .int x1, .int x2, .int x3] M (PT x) Post := Mt.of (lv := [(0, .ref 0), (1, .int x1), (2, .int x2), (3, .int x3)]) (by decide +kernel) rfl rfl rfl (wa_pick [0, 1, 2, 3] rfl h)

theorem bX11_image_0 {X : a_X} {ad : Nat → Nat} {ca : Nat → ClassId} {d : Nat} {Post : Option Value → a_M → a_P → Prop} {x : Nat} {M : a_M}   (hF : (∃ Q1 : a_M → Prop, Mt X ad ca LY d yX9_copyFrom cX9_copyFrom 2 none [.ref 69, .ref 44] M (PT x) (q_v (PT x) Q1) ∧ ∀ M1, Q1 M1 → Post (some (.int (M1 45 0))) M1 (PT x))) : WA X ad ca LY RX11 cX11_image 1 (some FieldType.int) (d + 1) 0 0 (a_E X ad ca LY Post) 0 [(0, .ref 0)] [] M (PT x) := by
  refine wa_aload_n dX11_image_0 0 rfl rfl ?_
  refine wa_getr (r := 69) dX11_image_1 fkX11_105 rfl rfl rfl ?_
  refine wa_aload_n dX11_image_4 0 rfl rfl ?_
  refine wa_getr (r := 44) dX11_image_5 fkX11_101 rfl rfl rfl ?_
  obtain ⟨Q1, hM9, hF⟩ := hF
  refine wa_callV [.ref 44] dX11_image_8 (mmX9_copyFrom _ _) mlX11_327 mnX9_copyFrom mseX9_copyFrom rfl rfl rfl rfl (a_dlt d) rfl rfl hM9 ?_
  rintro r9 M1 P9 ⟨rfl, rfl, hq9⟩
  replace hF := hF M1 hq9
  simp only [Option.toList, List.nil_append]
  refine wa_aload_n dX11_image_11 0 rfl rfl ?_
  refine wa_getr (r := 44) dX11_image_12 fkX11_101 rfl rfl rfl ?_
  refine wa_getr (r := 45) dX11_image_15 fkX11_108 rfl rfl rfl ?_
  refine wb_geti (v := M1 45 0) dX11_image_18 fkX11_111 rfl rfl rfl ?_
  exact wa_iret dX11_image_21 rfl rfl hF

theorem eX11_image {X : a_X} {ad : Nat → Nat} {ca : Nat → ClassId} {d : Nat} {Post : Option Value → a_M → a_P → Prop} {x : Nat} {M : a_M}  (h : WA X ad ca LY RX11 cX11_image 1 (some FieldType.int) d 0 0 (a_E X ad ca LY Post) 0 [(0, .ref 0)] [] M (PT x)) : Mt X ad ca LY d yX11_image cX11_image 1 (some FieldType.int) [.ref 0] M (PT x) Post := Mt.of (lv := [(0, .ref 0)]) (by decide +kernel) rfl rfl rfl (wa_pick [0] rfl h)

theorem bX11_back_0 {X : a_X} {ad : Nat → Nat} {ca : Nat → ClassId} {d : Nat} {Post : Option Value → a_M → a_P → Prop} {x : Nat} {M : a_M}   (hF : (∃ Q1 : a_M → Prop, Mt X ad ca LY d yX9_copyFrom cX9_copyFrom 2 none [.ref 44, .ref 69] M (PT x) (q_v (PT x) Q1) ∧ ∀ M1, Q1 M1 → Post (some (.int (M1 45 0))) M1 (PT x))) : WA X ad ca LY RX11 cX11_back 1 (some FieldType.int) (d + 1) 0 0 (a_E X ad ca LY Post) 0 [(0, .ref 0)] [] M (PT x) := by
  refine wa_aload_n dX11_back_0 0 rfl rfl ?_
  refine wa_getr (r := 44) dX11_back_1 fkX11_101 rfl rfl rfl ?_
  refine wa_aload_n dX11_back_4 0 rfl rfl ?_
  refine wa_getr (r := 69) dX11_back_5 fkX11_105 rfl rfl rfl ?_
  obtain ⟨Q1, hM9, hF⟩ := hF
  refine wa_callV [.ref 69] dX11_back_8 (mmX9_copyFrom _ _) mlX11_327 mnX9_copyFrom mseX9_copyFrom rfl rfl rfl rfl (a_dlt d) rfl rfl hM9 ?_
  rintro r9 M1 P9 ⟨rfl, rfl, hq9⟩
  replace hF := hF M1 hq9
  simp only [Option.toList, List.nil_append]
  refine wa_aload_n dX11_back_11 0 rfl rfl ?_
  refine wa_getr (r := 44) dX11_back_12 fkX11_101 rfl rfl rfl ?_
  refine wa_getr (r := 45) dX11_back_15 fkX11_108 rfl rfl rfl ?_
  refine wb_geti (v := M1 45 0) dX11_back_18 fkX11_111 rfl rfl rfl ?_
  exact wa_iret dX11_back_21 rfl rfl hF

theorem eX11_back {X : a_X} {ad : Nat → Nat} {ca : Nat → ClassId} {d : Nat} {Post : Option Value → a_M → a_P → Prop} {x : Nat} {M : a_M}  (h : WA X ad ca LY RX11 cX11_back 1 (some FieldType.int) d 0 0 (a_E X ad ca LY Post) 0 [(0, .ref 0)] [] M (PT x)) : Mt X ad ca LY d yX11_back cX11_back 1 (some FieldType.int) [.ref 0] M (PT x) Post := Mt.of (lv := [(0, .ref 0)]) (by decide +kernel) rfl rfl rfl (wa_pick [0] rfl h)

theorem bX11_about_0 {X : a_X} {ad : Nat → Nat} {ca : Nat → ClassId} {d : Nat} {Post : Option Value → a_M → a_P → Prop} {x : Nat} {M : a_M} (x1 : Int32)  (hF : ((x1 = 0 → Post (some (.int (M 45 0))) M (PT x)) ∧ (x1 = 1 → (((M 45 1) = 0 → Post (some (.int 0)) M (PT x)) ∧ (¬ (M 45 1) = 0 → Post (some (.int 1)) M (PT x)))) ∧ (x1 = 2 → Post (some (.int (M 45 2))) M (PT x)) ∧ (x1 = 3 → Post (some (.int (M 45 3))) M (PT x)) ∧ (x1 = 4 → Post (some (.int (M 45 4))) M (PT x)) ∧ (x1 = 5 → Post (some (.int (M 44 2))) M (PT x)) ∧ (x1 = 6 → Post (some (.int (M 44 3))) M (PT x)) ∧ (x1 = 7 → Post (some (.int (M 46 2))) M (PT x)) ∧ (x1 = 8 → Post (some (.int (M 46 3))) M (PT x)) ∧ (x1 = 9 → Post (some (.int (M 1 3))) M (PT x)) ∧ ((x1).toInt < 0 ∨ 9 < (x1).toInt → Post (some (.int (-2))) M (PT x)))) : WA X ad ca LY RX11 cX11_about 2 (some FieldType.int) (d + 1) 0 0 (a_E X ad ca LY Post) 0 [(0, .ref 0), (1, .int x1)] [] M (PT x) := by
  refine wa_iload_n dX11_about_0 1 rfl rfl ?_
  by_cases hk0 : x1 = 0
  · replace hF := hF.1 hk0
    rw [hk0]
    refine wa_tableIn (off := 55) (tgt := 56) dX11_about_1 (by decide) (by decide) rfl rfl ?_
    refine wa_aload_n dX11_about_56 0 rfl rfl ?_
    refine wa_getr (r := 44) dX11_about_57 fkX11_101 rfl rfl rfl ?_
    refine wa_getr (r := 45) dX11_about_60 fkX11_108 rfl rfl rfl ?_
    refine wb_geti (v := M 45 0) dX11_about_63 fkX11_111 rfl rfl rfl ?_
    exact wa_iret dX11_about_66 rfl rfl hF
  replace hF := hF.2
  by_cases hk1 : x1 = 1
  · replace hF := hF.1 hk1
    rw [hk1]
    refine wa_tableIn (off := 66) (tgt := 67) dX11_about_1 (by decide) (by decide) rfl rfl ?_
    refine wa_aload_n dX11_about_67 0 rfl rfl ?_
    refine wa_getr (r := 44) dX11_about_68 fkX11_101 rfl rfl rfl ?_
    refine wa_getr (r := 45) dX11_about_71 fkX11_108 rfl rfl rfl ?_
    refine wb_geti (v := M 45 1) dX11_about_74 fkX11_115 rfl rfl rfl ?_
    refine wa_if_eq (tgt := 84) dX11_about_77 rfl (fun hc => ?_) (fun hc => ?_)
    · replace hF := hF.1 hc
      refine wa_iconst (v := 0) dX11_about_84 rfl ?_
      exact wa_iret dX11_about_85 rfl rfl hF
    · replace hF := hF.2 hc
      refine wa_iconst (v := 1) dX11_about_80 rfl ?_
      refine wa_goto (tgt := 85) dX11_about_81 rfl ?_
      exact wa_iret dX11_about_85 rfl rfl hF
  replace hF := hF.2
  by_cases hk2 : x1 = 2
  · replace hF := hF.1 hk2
    rw [hk2]
    refine wa_tableIn (off := 85) (tgt := 86) dX11_about_1 (by decide) (by decide) rfl rfl ?_
    refine wa_aload_n dX11_about_86 0 rfl rfl ?_
    refine wa_getr (r := 44) dX11_about_87 fkX11_101 rfl rfl rfl ?_
    refine wa_getr (r := 45) dX11_about_90 fkX11_108 rfl rfl rfl ?_
    refine wb_geti (v := M 45 2) dX11_about_93 fkX11_132 rfl rfl rfl ?_
    exact wa_iret dX11_about_96 rfl rfl hF
  replace hF := hF.2
  by_cases hk3 : x1 = 3
  · replace hF := hF.1 hk3
    rw [hk3]
    refine wa_tableIn (off := 96) (tgt := 97) dX11_about_1 (by decide) (by decide) rfl rfl ?_
    refine wa_aload_n dX11_about_97 0 rfl rfl ?_
    refine wa_getr (r := 44) dX11_about_98 fkX11_101 rfl rfl rfl ?_
    refine wa_getr (r := 45) dX11_about_101 fkX11_108 rfl rfl rfl ?_
    refine wb_geti (v := M 45 3) dX11_about_104 fkX11_141 rfl rfl rfl ?_
    exact wa_iret dX11_about_107 rfl rfl hF
  replace hF := hF.2
  by_cases hk4 : x1 = 4
  · replace hF := hF.1 hk4
    rw [hk4]
    refine wa_tableIn (off := 107) (tgt := 108) dX11_about_1 (by decide) (by decide) rfl rfl ?_
    refine wa_aload_n dX11_about_108 0 rfl rfl ?_
    refine wa_getr (r := 44) dX11_about_109 fkX11_101 rfl rfl rfl ?_
    refine wa_getr (r := 45) dX11_about_112 fkX11_108 rfl rfl rfl ?_
    refine wb_geti (v := M 45 4) dX11_about_115 fkX11_135 rfl rfl rfl ?_
    exact wa_iret dX11_about_118 rfl rfl hF
  replace hF := hF.2
  by_cases hk5 : x1 = 5
  · replace hF := hF.1 hk5
    rw [hk5]
    refine wa_tableIn (off := 118) (tgt := 119) dX11_about_1 (by decide) (by decide) rfl rfl ?_
    refine wa_aload_n dX11_about_119 0 rfl rfl ?_
    refine wa_getr (r := 44) dX11_about_120 fkX11_101 rfl rfl rfl ?_
    refine wb_geti (v := M 44 2) dX11_about_123 fkX11_156 rfl rfl rfl ?_
    exact wa_iret dX11_about_126 rfl rfl hF
  replace hF := hF.2
  by_cases hk6 : x1 = 6
  · replace hF := hF.1 hk6
    rw [hk6]
    refine wa_tableIn (off := 126) (tgt := 127) dX11_about_1 (by decide) (by decide) rfl rfl ?_
    refine wa_aload_n dX11_about_127 0 rfl rfl ?_
    refine wa_getr (r := 44) dX11_about_128 fkX11_101 rfl rfl rfl ?_
    refine wb_geti (v := M 44 3) dX11_about_131 fkX11_176 rfl rfl rfl ?_
    exact wa_iret dX11_about_134 rfl rfl hF
  replace hF := hF.2
  by_cases hk7 : x1 = 7
  · replace hF := hF.1 hk7
    rw [hk7]
    refine wa_tableIn (off := 134) (tgt := 135) dX11_about_1 (by decide) (by decide) rfl rfl ?_
    refine wa_aload_n dX11_about_135 0 rfl rfl ?_
    refine wa_getr (r := 44) dX11_about_136 fkX11_101 rfl rfl rfl ?_
    refine wa_getr (r := 46) dX11_about_139 fkX11_119 rfl rfl rfl ?_
    refine wb_geti (v := M 46 2) dX11_about_142 fkX11_307 rfl rfl rfl ?_
    exact wa_iret dX11_about_145 rfl rfl hF
  replace hF := hF.2
  by_cases hk8 : x1 = 8
  · replace hF := hF.1 hk8
    rw [hk8]
    refine wa_tableIn (off := 145) (tgt := 146) dX11_about_1 (by decide) (by decide) rfl rfl ?_
    refine wa_aload_n dX11_about_146 0 rfl rfl ?_
    refine wa_getr (r := 44) dX11_about_147 fkX11_101 rfl rfl rfl ?_
    refine wa_getr (r := 46) dX11_about_150 fkX11_119 rfl rfl rfl ?_
    refine wb_geti (v := M 46 3) dX11_about_153 fkX11_310 rfl rfl rfl ?_
    exact wa_iret dX11_about_156 rfl rfl hF
  replace hF := hF.2
  by_cases hk9 : x1 = 9
  · replace hF := hF.1 hk9
    rw [hk9]
    refine wa_tableIn (off := 156) (tgt := 157) dX11_about_1 (by decide) (by decide) rfl rfl ?_
    refine wa_aload_n dX11_about_157 0 rfl rfl ?_
    refine wa_getr (r := 1) dX11_about_158 fkX11_10 rfl rfl rfl ?_
    refine wb_geti (v := M 1 3) dX11_about_161 fkX11_150 rfl rfl rfl ?_
    exact wa_iret dX11_about_164 rfl rfl hF
  replace hF := hF.2
  have ht0 : (x1).toInt ≠ 0 := a_ti hk0
  have ht1 : (x1).toInt ≠ 1 := a_ti hk1
  have ht2 : (x1).toInt ≠ 2 := a_ti hk2
  have ht3 : (x1).toInt ≠ 3 := a_ti hk3
  have ht4 : (x1).toInt ≠ 4 := a_ti hk4
  have ht5 : (x1).toInt ≠ 5 := a_ti hk5
  have ht6 : (x1).toInt ≠ 6 := a_ti hk6
  have ht7 : (x1).toInt ≠ 7 := a_ti hk7
  have ht8 : (x1).toInt ≠ 8 := a_ti hk8
  have ht9 : (x1).toInt ≠ 9 := a_ti hk9
  have hd9 : (x1).toInt < 0 ∨ 9 < (x1).toInt := by omega
  replace hF := hF hd9
  refine wa_tableOut (tgt := 165) dX11_about_1 hd9 rfl ?_
  refine wa_bipush (v := (-2)) dX11_about_165 rfl ?_
  exact wa_iret dX11_about_167 rfl rfl hF

theorem eX11_about {X : a_X} {ad : Nat → Nat} {ca : Nat → ClassId} {d : Nat} {Post : Option Value → a_M → a_P → Prop} {x : Nat} {M : a_M} (x1 : Int32) (h : WA X ad ca LY RX11 cX11_about 2 (some FieldType.int) d 0 0 (a_E X ad ca LY Post) 0 [(0, .ref 0), (1, .int x1)] [] M (PT x)) : Mt X ad ca LY d yX11_about cX11_about 2 (some FieldType.int) [.ref 0, .int x1] M (PT x) Post := Mt.of (lv := [(0, .ref 0), (1, .int x1)]) (by decide +kernel) rfl rfl rfl (wa_pick [0, 1] rfl h)

theorem bX11_isText_0 {X : a_X} {ad : Nat → Nat} {ca : Nat → ClassId} {d : Nat} {Post : Option Value → a_M → a_P → Prop} {x : Nat} {M : a_M} (x1 : Int32)  (hF : ((x1 < 0 → WA X ad ca LY RX11 cX11_isText 2 (some FieldType.boolean) (d + 1) 0 0 (a_E X ad ca LY Post) 28 [] [] M (PT x)) ∧ (¬ x1 < 0 → (((M 44 2) ≤ x1 → WA X ad ca LY RX11 cX11_isText 2 (some FieldType.boolean) (d + 1) 0 0 (a_E X ad ca LY Post) 28 [] [] M (PT x)) ∧ (¬ (M 44 2) ≤ x1 → ((4 ≤ x1 → WA X ad ca LY RX11 cX11_isText 2 (some FieldType.boolean) (d + 1) 0 0 (a_E X ad ca LY Post) 28 [] [] M (PT x)) ∧ (¬ 4 ≤ x1 → Post (some (.int 1)) M (PT x)))))))) : WA X ad ca LY RX11 cX11_isText 2 (some FieldType.boolean) (d + 1) 0 0 (a_E X ad ca LY Post) 0 [(0, .ref 0), (1, .int x1)] [] M (PT x) := by
  refine wa_iload_n dX11_isText_0 1 rfl rfl ?_
  refine wa_if_lt (tgt := 28) dX11_isText_1 rfl (fun hc => ?_) (fun hc => ?_)
  · replace hF := hF.1 hc
    exact wa_pick [] rfl hF
  · replace hF := hF.2 hc
    refine wa_iload_n dX11_isText_4 1 rfl rfl ?_
    refine wa_aload_n dX11_isText_5 0 rfl rfl ?_
    refine wa_getr (r := 44) dX11_isText_6 fkX11_101 rfl rfl rfl ?_
    refine wb_geti (v := M 44 2) dX11_isText_9 fkX11_156 rfl rfl rfl ?_
    refine wa_icmp_ge (tgt := 28) dX11_isText_12 rfl (fun hc => ?_) (fun hc => ?_)
    · replace hF := hF.1 hc
      exact wa_pick [] rfl hF
    · replace hF := hF.2 hc
      refine wa_iload_n dX11_isText_15 1 rfl rfl ?_
      refine wa_aload_n dX11_isText_16 0 rfl rfl ?_
      refine wa_getr (r := 5) dX11_isText_17 fkX11_18 rfl rfl rfl ?_
      refine wa_alen (v := 4) dX11_isText_20 rfl (by decide) rfl ?_
      refine wa_icmp_ge (tgt := 28) dX11_isText_21 rfl (fun hc => ?_) (fun hc => ?_)
      · replace hF := hF.1 hc
        exact wa_pick [] rfl hF
      · replace hF := hF.2 hc
        refine wa_iconst (v := 1) dX11_isText_24 rfl ?_
        refine wa_goto (tgt := 29) dX11_isText_25 rfl ?_
        exact wa_iret dX11_isText_29 rfl rfl hF

theorem bX11_isText_28 {X : a_X} {ad : Nat → Nat} {ca : Nat → ClassId} {d : Nat} {Post : Option Value → a_M → a_P → Prop} {x : Nat} {M : a_M}   (hF : Post (some (.int 0)) M (PT x)) : WA X ad ca LY RX11 cX11_isText 2 (some FieldType.boolean) (d + 1) 0 0 (a_E X ad ca LY Post) 28 [] [] M (PT x) := by
  refine wa_iconst (v := 0) dX11_isText_28 rfl ?_
  exact wa_iret dX11_isText_29 rfl rfl hF

theorem eX11_isText {X : a_X} {ad : Nat → Nat} {ca : Nat → ClassId} {d : Nat} {Post : Option Value → a_M → a_P → Prop} {x : Nat} {M : a_M} (x1 : Int32) (h : WA X ad ca LY RX11 cX11_isText 2 (some FieldType.boolean) d 0 0 (a_E X ad ca LY Post) 0 [(0, .ref 0), (1, .int x1)] [] M (PT x)) : Mt X ad ca LY d yX11_isText cX11_isText 2 (some FieldType.boolean) [.ref 0, .int x1] M (PT x) Post := Mt.of (lv := [(0, .ref 0), (1, .int x1)]) (by decide +kernel) rfl rfl rfl (wa_pick [0, 1] rfl h)

theorem bX11_toldScript_0 {X : a_X} {ad : Nat → Nat} {ca : Nat → ClassId} {d : Nat} {Post : Option Value → a_M → a_P → Prop} {x : Nat} {M : a_M}   (hF : (∃ Q1 : Int32 → a_M → Prop, Mt X ad ca LY d yX11_isText cX11_isText 2 (some FieldType.boolean) [.ref 0, .int (M 44 3)] M (PT x) (q_i (PT x) Q1) ∧ ∀ v1 M1, Q1 v1 M1 → ((v1 = 0 → Post (some (.ref 6)) M1 (PT x)) ∧ (¬ v1 = 0 → (vp_in (M1 44 3) 4 ∧ ∃ r2 nr2 : Nat, PT x 5 ((M1 44 3).toNatClampNeg) = r2 + 1 ∧ (nr2 = 0 ∧ LY[r2]? = some (7, 7)) ∧ Post (some (.ref r2)) M1 (PT x)))))) : WA X ad ca LY RX11 cX11_toldScript 1 (some (FieldType.object "SolvedChains$Script")) (d + 1) 0 0 (a_E X ad ca LY Post) 0 [(0, .ref 0)] [] M (PT x) := by
  refine wa_aload_n dX11_toldScript_0 0 rfl rfl ?_
  refine wa_aload_n dX11_toldScript_1 0 rfl rfl ?_
  refine wa_getr (r := 44) dX11_toldScript_2 fkX11_101 rfl rfl rfl ?_
  refine wb_geti (v := M 44 3) dX11_toldScript_5 fkX11_176 rfl rfl rfl ?_
  obtain ⟨Q1, hM9, hF⟩ := hF
  refine wa_callV [.int (M 44 3)] dX11_toldScript_8 (mmX11_isText _ _) mlX11_173 mnX11_isText mseX11_isText rfl rfl rfl rfl (a_dlt d) rfl rfl hM9 ?_
  rintro r9 M1 P9 ⟨v1, rfl, rfl, hq9⟩
  replace hF := hF v1 M1 hq9
  simp only [Option.toList, List.cons_append, List.nil_append]
  refine wa_if_eq (tgt := 29) dX11_toldScript_11 rfl (fun hc => ?_) (fun hc => ?_)
  · replace hF := hF.1 hc
    refine wa_aload_n dX11_toldScript_29 0 rfl rfl ?_
    refine wa_getr (r := 6) dX11_toldScript_30 fkX11_23 rfl rfl rfl ?_
    exact wa_aret dX11_toldScript_33 rfl (Or.inl ⟨_, rfl⟩) hF
  · replace hF := hF.2 hc
    refine wa_aload_n dX11_toldScript_14 0 rfl rfl ?_
    refine wa_getr (r := 5) dX11_toldScript_15 fkX11_18 rfl rfl rfl ?_
    refine wa_aload_n dX11_toldScript_18 0 rfl rfl ?_
    refine wa_getr (r := 44) dX11_toldScript_19 fkX11_101 rfl rfl rfl ?_
    refine wb_geti (v := M1 44 3) dX11_toldScript_22 fkX11_176 rfl rfl rfl ?_
    obtain ⟨hi9, r2, nr2, hpr2, hLr2, hF⟩ := hF
    replace hLr2 := hLr2.2
    refine wa_aald (r := r2) dX11_toldScript_25 rfl (by decide) hi9 hpr2 ?_
    refine wa_goto (tgt := 33) dX11_toldScript_26 rfl ?_
    exact wa_aret dX11_toldScript_33 rfl (Or.inl ⟨_, rfl⟩) hF

theorem eX11_toldScript {X : a_X} {ad : Nat → Nat} {ca : Nat → ClassId} {d : Nat} {Post : Option Value → a_M → a_P → Prop} {x : Nat} {M : a_M}  (h : WA X ad ca LY RX11 cX11_toldScript 1 (some (FieldType.object "SolvedChains$Script")) d 0 0 (a_E X ad ca LY Post) 0 [(0, .ref 0)] [] M (PT x)) : Mt X ad ca LY d yX11_toldScript cX11_toldScript 1 (some (FieldType.object "SolvedChains$Script")) [.ref 0] M (PT x) Post := Mt.of (lv := [(0, .ref 0)]) (by decide +kernel) rfl rfl rfl (wa_pick [0] rfl h)

theorem bX11_hasSector_0 {X : a_X} {ad : Nat → Nat} {ca : Nat → ClassId} {d : Nat} {Post : Option Value → a_M → a_P → Prop} {x : Nat} {M : a_M} (x1 : Int32) (x2 : Int32)  (hF : (∃ Q1 : Int32 → a_M → Prop, Mt X ad ca LY d yX6_isCount cX6_isCount 2 (some FieldType.boolean) [.ref 45, .int x1] M (PT x) (q_i (PT x) Q1) ∧ ∀ v1 M1, Q1 v1 M1 → ((¬ v1 = 0 → ((x2 = (-1) → WA X ad ca LY RX11 cX11_hasSector 4 (some FieldType.boolean) (d + 1) 0 0 (a_E X ad ca LY Post) 43 [] [] M1 (PT x)) ∧ (¬ x2 = (-1) → ((x2 < 0 → WA X ad ca LY RX11 cX11_hasSector 4 (some FieldType.boolean) (d + 1) 0 0 (a_E X ad ca LY Post) 47 [] [] M1 (PT x)) ∧ (¬ x2 < 0 → (((M1 45 0) ≤ x2 → WA X ad ca LY RX11 cX11_hasSector 4 (some FieldType.boolean) (d + 1) 0 0 (a_E X ad ca LY Post) 47 [] [] M1 (PT x)) ∧ (¬ (M1 45 0) ≤ x2 → (∃ Q2 : Int32 → a_M → Prop, Mt X ad ca LY d yX6_leastRoot cX6_leastRoot 2 (some FieldType.int) [.ref 45] M1 (PT x) (q_i (PT x) Q2) ∧ ∀ v2 M2, Q2 v2 M2 → ((v2 = (-1) → WA X ad ca LY RX11 cX11_hasSector 4 (some FieldType.boolean) (d + 1) 0 0 (a_E X ad ca LY Post) 47 [] [] M2 (PT x)) ∧ (¬ v2 = (-1) → WA X ad ca LY RX11 cX11_hasSector 4 (some FieldType.boolean) (d + 1) 0 0 (a_E X ad ca LY Post) 43 [] [] M2 (PT x))))))))))) ∧ (v1 = 0 → Post (some (.int 0)) M1 (PT x))))) : WA X ad ca LY RX11 cX11_hasSector 4 (some FieldType.boolean) (d + 1) 0 0 (a_E X ad ca LY Post) 0 [(0, .ref 0), (1, .int x1), (2, .int x2)] [] M (PT x) := by
  refine wa_aload_n dX11_hasSector_0 0 rfl rfl ?_
  refine wa_getr (r := 44) dX11_hasSector_1 fkX11_101 rfl rfl rfl ?_
  refine wa_getr (r := 45) dX11_hasSector_4 fkX11_108 rfl rfl rfl ?_
  refine wa_astore_n (lv' := [(3, .ref 45), (0, .ref 0), (1, .int x1), (2, .int x2)]) dX11_hasSector_7 rfl rfl rfl ?_
  refine wa_aload_n dX11_hasSector_8 0 rfl rfl ?_
  refine wa_iload_n dX11_hasSector_9 2 rfl rfl ?_
  obtain ⟨Q1, hM9, hF⟩ := hF
  refine wa_callV [.int x1] dX11_hasSector_10 (mmX6_isCount _ _) mlX11_227 mnX6_isCount mseX6_isCount rfl rfl rfl rfl (a_dlt d) rfl rfl hM9 ?_
  rintro r9 M1 P9 ⟨v1, rfl, rfl, hq9⟩
  replace hF := hF v1 M1 hq9
  simp only [Option.toList, List.cons_append, List.nil_append]
  refine wa_if_ne (tgt := 18) dX11_hasSector_13 rfl (fun hc => ?_) (fun hc => ?_)
  · replace hF := hF.1 hc
    refine wa_iload_n dX11_hasSector_18 3 rfl rfl ?_
    refine wa_iconst (v := (-1)) dX11_hasSector_19 rfl ?_
    refine wa_icmp_eq (tgt := 43) dX11_hasSector_20 rfl (fun hc => ?_) (fun hc => ?_)
    · replace hF := hF.1 hc
      exact wa_pick [] rfl hF
    · replace hF := hF.2 hc
      refine wa_iload_n dX11_hasSector_23 3 rfl rfl ?_
      refine wa_if_lt (tgt := 47) dX11_hasSector_24 rfl (fun hc => ?_) (fun hc => ?_)
      · replace hF := hF.1 hc
        exact wa_pick [] rfl hF
      · replace hF := hF.2 hc
        refine wa_iload_n dX11_hasSector_27 3 rfl rfl ?_
        refine wa_aload_n dX11_hasSector_28 0 rfl rfl ?_
        refine wb_geti (v := M1 45 0) dX11_hasSector_29 fkX11_111 rfl rfl rfl ?_
        refine wa_icmp_ge (tgt := 47) dX11_hasSector_32 rfl (fun hc => ?_) (fun hc => ?_)
        · replace hF := hF.1 hc
          exact wa_pick [] rfl hF
        · replace hF := hF.2 hc
          refine wa_aload_n dX11_hasSector_35 0 rfl rfl ?_
          obtain ⟨Q2, hM9, hF⟩ := hF
          refine wa_callV [] dX11_hasSector_36 (mmX6_leastRoot _ _) mlX11_252 mnX6_leastRoot mseX6_leastRoot rfl rfl rfl rfl (a_dlt d) rfl rfl hM9 ?_
          rintro r9 M2 P9 ⟨v2, rfl, rfl, hq9⟩
          replace hF := hF v2 M2 hq9
          simp only [Option.toList, List.cons_append, List.nil_append]
          refine wa_iconst (v := (-1)) dX11_hasSector_39 rfl ?_
          refine wa_icmp_eq (tgt := 47) dX11_hasSector_40 rfl (fun hc => ?_) (fun hc => ?_)
          · replace hF := hF.1 hc
            exact wa_pick [] rfl hF
          · replace hF := hF.2 hc
            exact wa_pick [] rfl hF
  · replace hF := hF.2 hc
    refine wa_iconst (v := 0) dX11_hasSector_16 rfl ?_
    exact wa_iret dX11_hasSector_17 rfl rfl hF

theorem bX11_hasSector_43 {X : a_X} {ad : Nat → Nat} {ca : Nat → ClassId} {d : Nat} {Post : Option Value → a_M → a_P → Prop} {x : Nat} {M : a_M}   (hF : Post (some (.int 1)) M (PT x)) : WA X ad ca LY RX11 cX11_hasSector 4 (some FieldType.boolean) (d + 1) 0 0 (a_E X ad ca LY Post) 43 [] [] M (PT x) := by
  refine wa_iconst (v := 1) dX11_hasSector_43 rfl ?_
  refine wa_goto (tgt := 48) dX11_hasSector_44 rfl ?_
  exact wa_iret dX11_hasSector_48 rfl rfl hF

theorem bX11_hasSector_47 {X : a_X} {ad : Nat → Nat} {ca : Nat → ClassId} {d : Nat} {Post : Option Value → a_M → a_P → Prop} {x : Nat} {M : a_M}   (hF : Post (some (.int 0)) M (PT x)) : WA X ad ca LY RX11 cX11_hasSector 4 (some FieldType.boolean) (d + 1) 0 0 (a_E X ad ca LY Post) 47 [] [] M (PT x) := by
  refine wa_iconst (v := 0) dX11_hasSector_47 rfl ?_
  exact wa_iret dX11_hasSector_48 rfl rfl hF

theorem eX11_hasSector {X : a_X} {ad : Nat → Nat} {ca : Nat → ClassId} {d : Nat} {Post : Option Value → a_M → a_P → Prop} {x : Nat} {M : a_M} (x1 : Int32) (x2 : Int32) (h : WA X ad ca LY RX11 cX11_hasSector 4 (some FieldType.boolean) d 0 0 (a_E X ad ca LY Post) 0 [(0, .ref 0), (1, .int x1), (2, .int x2)] [] M (PT x)) : Mt X ad ca LY d yX11_hasSector cX11_hasSector 4 (some FieldType.boolean) [.ref 0, .int x1, .int x2] M (PT x) Post := Mt.of (lv := [(0, .ref 0), (1, .int x1), (2, .int x2)]) (by decide +kernel) rfl rfl rfl (wa_pick [0, 1, 2] rfl h)

theorem bX11_agreesInSectors_0 {X : a_X} {ad : Nat → Nat} {ca : Nat → ClassId} {d : Nat} {kc ks : Nat} {QF : List Frame → Array Value → State → State → Prop} {x : Nat} {M : a_M} (x1 : Int32) (x2 : Int32)  (hF : (∃ Q1 : Nat → a_M → Prop, Mt X ad ca LY d yX11_toldScript cX11_toldScript 1 (some (FieldType.object "SolvedChains$Script")) [.ref 0] M (PT x) (q_r (PT x) Q1) ∧ ∀ r1 M1, Q1 r1 M1 → ∃ nr1, (nr1 = 0 ∧ LY[r1]? = some (7, 7)) ∧ (∃ Q2 : a_M → Prop, Mt X ad ca LY d yX1_look cX1_look 4 none [.ref 13, .ref 45, .ref r1] M1 (PT x) (q_v (PT x) Q2) ∧ ∀ M2, Q2 M2 → WA X ad ca LY RX11 cX11_agreesInSectors 6 (some FieldType.boolean) (d + 1) kc ks QF 26 [(0, .ref 0), (1, .int x1), (2, .int x2), (3, .ref 45), (4, .int 1), (5, .int 0)] [] M2 (PT x)))) : WA X ad ca LY RX11 cX11_agreesInSectors 6 (some FieldType.boolean) (d + 1) kc ks QF 0 [(0, .ref 0), (1, .int x1), (2, .int x2)] [] M (PT x) := by
  refine wa_aload_n dX11_agreesInSectors_0 0 rfl rfl ?_
  refine wa_getr (r := 44) dX11_agreesInSectors_1 fkX11_101 rfl rfl rfl ?_
  refine wa_getr (r := 45) dX11_agreesInSectors_4 fkX11_108 rfl rfl rfl ?_
  refine wa_astore_n (lv' := [(3, .ref 45), (0, .ref 0), (1, .int x1), (2, .int x2)]) dX11_agreesInSectors_7 rfl rfl rfl ?_
  refine wa_aload_n dX11_agreesInSectors_8 1 rfl rfl ?_
  refine wa_getr (r := 13) dX11_agreesInSectors_9 fkX11_39 rfl rfl rfl ?_
  refine wa_aload_n dX11_agreesInSectors_12 0 rfl rfl ?_
  refine wa_aload_n dX11_agreesInSectors_13 1 rfl rfl ?_
  obtain ⟨Q1, hM9, hF⟩ := hF
  refine wa_callV [] dX11_agreesInSectors_14 (mmX11_toldScript _ _) mlX11_179 mnX11_toldScript mseX11_toldScript rfl rfl rfl rfl (a_dlt d) rfl rfl hM9 ?_
  rintro r9 M1 P9 ⟨r1, rfl, rfl, hq9⟩
  obtain ⟨nr1, hLr1, hF⟩ := hF r1 M1 hq9
  simp only [Option.toList, List.cons_append, List.nil_append]
  replace hLr1 := hLr1.2
  obtain ⟨Q2, hM9, hF⟩ := hF
  refine wa_callV [.ref 45, .ref r1] dX11_agreesInSectors_17 (mmX1_look _ _) mlX11_187 mnX1_look mseX1_look rfl rfl rfl rfl (a_dlt d) rfl rfl hM9 ?_
  rintro r9 M2 P9 ⟨rfl, rfl, hq9⟩
  replace hF := hF M2 hq9
  simp only [Option.toList, List.nil_append]
  refine wa_iconst (v := 1) dX11_agreesInSectors_20 rfl ?_
  refine wa_istore (lv' := [(4, .int 1), (3, .ref 45), (0, .ref 0), (1, .int x1), (2, .int x2)]) dX11_agreesInSectors_21 rfl rfl ?_
  refine wa_iconst (v := 0) dX11_agreesInSectors_23 rfl ?_
  refine wa_istore (lv' := [(5, .int 0), (4, .int 1), (3, .ref 45), (0, .ref 0), (1, .int x1), (2, .int x2)]) dX11_agreesInSectors_24 rfl rfl ?_
  exact wa_pick [3, 4, 5, 2, 1, 0] rfl hF

theorem bX11_agreesInSectors_26 {X : a_X} {ad : Nat → Nat} {ca : Nat → ClassId} {d : Nat} {kc ks : Nat} {QF : List Frame → Array Value → State → State → Prop} {x : Nat} {M : a_M} (x1 : Int32) (x2 : Int32) (o3 : Nat) (x4 : Int32) (x5 : Int32) (hLo3 : LY[o3]? = some (6, 5)) (hF : ((x4 = 0 → WA X ad ca LY RX11 cX11_agreesInSectors 6 (some FieldType.boolean) (d + 1) kc ks QF 133 [(4, .int x4)] [] M (PT x)) ∧ (¬ x4 = 0 → (((M o3 0) < (2 * x5) → WA X ad ca LY RX11 cX11_agreesInSectors 6 (some FieldType.boolean) (d + 1) kc ks QF 133 [(4, .int x4)] [] M (PT x)) ∧ (¬ (M o3 0) < (2 * x5) → (∃ Q1 : a_M → Prop, Mt X ad ca LY d yX0_gather cX0_gather 6 none [.ref 19, .ref o3, .int x5, .int (-1)] M (PT x) (q_v (PT x) Q1) ∧ ∀ M1, Q1 M1 → (∃ Q2 : a_M → Prop, Mt X ad ca LY d yX4_fillTable cX4_fillTable 7 none [.ref 30, .ref 13, .int x1, .ref 31] M1 (PT x) (q_v (PT x) Q2) ∧ ∀ M2, Q2 M2 → ((¬ x2 = (-1) → (∃ Q3 : a_M → Prop, Mt X ad ca LY d yX4_fillTable cX4_fillTable 7 none [.ref 30, .ref 13, .int x2, .ref 32] M2 (PT x) (q_v (PT x) Q3) ∧ ∀ M3, Q3 M3 → WA X ad ca LY RX11 cX11_agreesInSectors 6 (some FieldType.boolean) (d + 1) kc ks QF 114 [(0, .ref 0), (1, .int x1), (2, .int x2), (3, .ref o3), (5, .int x5)] [] M3 (PT x))) ∧ (x2 = (-1) → (∃ Q4 : a_M → Prop, Mt X ad ca LY d yX0_fillSum cX0_fillSum 9 none [.ref 19, .ref o3, .ref 32] M2 (PT x) (q_v (PT x) Q4) ∧ ∀ M4, Q4 M4 → WA X ad ca LY RX11 cX11_agreesInSectors 6 (some FieldType.boolean) (d + 1) kc ks QF 114 [(0, .ref 0), (1, .int x1), (2, .int x2), (3, .ref o3), (5, .int x5)] [] M4 (PT x))))))))))) : WA X ad ca LY RX11 cX11_agreesInSectors 6 (some FieldType.boolean) (d + 1) kc ks QF 26 [(0, .ref 0), (1, .int x1), (2, .int x2), (3, .ref o3), (4, .int x4), (5, .int x5)] [] M (PT x) := by
  refine wa_iload dX11_agreesInSectors_26 4 rfl ?_
  refine wa_if_eq (tgt := 133) dX11_agreesInSectors_28 rfl (fun hc => ?_) (fun hc => ?_)
  · replace hF := hF.1 hc
    exact wa_pick [4] rfl hF
  · replace hF := hF.2 hc
    refine wa_iconst (v := 2) dX11_agreesInSectors_31 rfl ?_
    refine wa_iload dX11_agreesInSectors_32 5 rfl ?_
    refine wa_imul dX11_agreesInSectors_34 ?_
    refine wa_aload_n dX11_agreesInSectors_35 3 rfl rfl ?_
    refine wb_geti (v := M o3 0) dX11_agreesInSectors_36 fkX11_111 rfl hLo3 rfl ?_
    refine wa_icmp_gt (tgt := 133) dX11_agreesInSectors_39 rfl (fun hc => ?_) (fun hc => ?_)
    · replace hF := hF.1 hc
      exact wa_pick [4] rfl hF
    · replace hF := hF.2 hc
      refine wa_aload_n dX11_agreesInSectors_42 0 rfl rfl ?_
      refine wa_getr (r := 19) dX11_agreesInSectors_43 fkX11_46 rfl rfl rfl ?_
      refine wa_aload_n dX11_agreesInSectors_46 3 rfl rfl ?_
      refine wa_iload dX11_agreesInSectors_47 5 rfl ?_
      refine wa_iconst (v := (-1)) dX11_agreesInSectors_49 rfl ?_
      obtain ⟨Q1, hM9, hF⟩ := hF
      refine wa_callV [.ref o3, .int x5, .int (-1)] dX11_agreesInSectors_50 (mmX0_gather _ _) mlX11_220 mnX0_gather mseX0_gather rfl rfl rfl rfl (a_dlt d) rfl rfl hM9 ?_
      rintro r9 M1 P9 ⟨rfl, rfl, hq9⟩
      replace hF := hF M1 hq9
      simp only [Option.toList, List.nil_append]
      refine wa_aload_n dX11_agreesInSectors_53 0 rfl rfl ?_
      refine wa_getr (r := 30) dX11_agreesInSectors_54 fkX11_62 rfl rfl rfl ?_
      refine wa_aload_n dX11_agreesInSectors_57 0 rfl rfl ?_
      refine wa_getr (r := 13) dX11_agreesInSectors_58 fkX11_39 rfl rfl rfl ?_
      refine wa_iload_n dX11_agreesInSectors_61 1 rfl rfl ?_
      refine wa_aload_n dX11_agreesInSectors_62 0 rfl rfl ?_
      refine wa_getr (r := 30) dX11_agreesInSectors_63 fkX11_62 rfl rfl rfl ?_
      refine wa_getr (r := 31) dX11_agreesInSectors_66 fkX11_331 rfl rfl rfl ?_
      obtain ⟨Q2, hM9, hF⟩ := hF
      refine wa_callV [.ref 13, .int x1, .ref 31] dX11_agreesInSectors_69 (mmX4_fillTable _ _) mlX11_334 mnX4_fillTable mseX4_fillTable rfl rfl rfl rfl (a_dlt d) rfl rfl hM9 ?_
      rintro r9 M2 P9 ⟨rfl, rfl, hq9⟩
      replace hF := hF M2 hq9
      simp only [Option.toList, List.nil_append]
      refine wa_iload_n dX11_agreesInSectors_72 2 rfl rfl ?_
      refine wa_iconst (v := (-1)) dX11_agreesInSectors_73 rfl ?_
      refine wa_icmp_ne (tgt := 95) dX11_agreesInSectors_74 rfl (fun hc => ?_) (fun hc => ?_)
      · replace hF := hF.1 hc
        refine wa_aload_n dX11_agreesInSectors_95 0 rfl rfl ?_
        refine wa_getr (r := 30) dX11_agreesInSectors_96 fkX11_62 rfl rfl rfl ?_
        refine wa_aload_n dX11_agreesInSectors_99 0 rfl rfl ?_
        refine wa_getr (r := 13) dX11_agreesInSectors_100 fkX11_39 rfl rfl rfl ?_
        refine wa_iload_n dX11_agreesInSectors_103 2 rfl rfl ?_
        refine wa_aload_n dX11_agreesInSectors_104 0 rfl rfl ?_
        refine wa_getr (r := 30) dX11_agreesInSectors_105 fkX11_62 rfl rfl rfl ?_
        refine wa_getr (r := 32) dX11_agreesInSectors_108 fkX11_338 rfl rfl rfl ?_
        obtain ⟨Q3, hM9, hF⟩ := hF
        refine wa_callV [.ref 13, .int x2, .ref 32] dX11_agreesInSectors_111 (mmX4_fillTable _ _) mlX11_334 mnX4_fillTable mseX4_fillTable rfl rfl rfl rfl (a_dlt d) rfl rfl hM9 ?_
        rintro r9 M3 P9 ⟨rfl, rfl, hq9⟩
        replace hF := hF M3 hq9
        simp only [Option.toList, List.nil_append]
        exact wa_pick [0, 1, 2, 3, 5] rfl hF
      · replace hF := hF.2 hc
        refine wa_aload_n dX11_agreesInSectors_77 0 rfl rfl ?_
        refine wa_getr (r := 19) dX11_agreesInSectors_78 fkX11_46 rfl rfl rfl ?_
        refine wa_aload_n dX11_agreesInSectors_81 3 rfl rfl ?_
        refine wa_aload_n dX11_agreesInSectors_82 0 rfl rfl ?_
        refine wa_getr (r := 30) dX11_agreesInSectors_83 fkX11_62 rfl rfl rfl ?_
        refine wa_getr (r := 32) dX11_agreesInSectors_86 fkX11_338 rfl rfl rfl ?_
        obtain ⟨Q4, hM9, hF⟩ := hF
        refine wa_callV [.ref o3, .ref 32] dX11_agreesInSectors_89 (mmX0_fillSum _ _) mlX11_341 mnX0_fillSum mseX0_fillSum rfl rfl rfl rfl (a_dlt d) rfl rfl hM9 ?_
        rintro r9 M4 P9 ⟨rfl, rfl, hq9⟩
        replace hF := hF M4 hq9
        simp only [Option.toList, List.nil_append]
        refine wa_goto (tgt := 114) dX11_agreesInSectors_92 rfl ?_
        exact wa_pick [0, 1, 2, 3, 5] rfl hF

theorem bX11_agreesInSectors_114 {X : a_X} {ad : Nat → Nat} {ca : Nat → ClassId} {d : Nat} {kc ks : Nat} {QF : List Frame → Array Value → State → State → Prop} {x : Nat} {M : a_M} (x1 : Int32) (x2 : Int32) (o3 : Nat) (x5 : Int32) (hLo3 : LY[o3]? = some (6, 5)) (hF : (∃ Q1 : Int32 → a_M → Prop, Mt X ad ca LY d yX4_agree cX4_agree 7 (some FieldType.boolean) [.ref 30, .int (M o3 2)] M (PT x) (q_i (PT x) Q1) ∧ ∀ v1 M1, Q1 v1 M1 → WA X ad ca LY RX11 cX11_agreesInSectors 6 (some FieldType.boolean) (d + 1) kc ks QF 26 [(0, .ref 0), (1, .int x1), (2, .int x2), (3, .ref o3), (4, .int v1), (5, .int (x5 + 1))] [] M1 (PT x))) : WA X ad ca LY RX11 cX11_agreesInSectors 6 (some FieldType.boolean) (d + 1) kc ks QF 114 [(0, .ref 0), (1, .int x1), (2, .int x2), (3, .ref o3), (5, .int x5)] [] M (PT x) := by
  refine wa_aload_n dX11_agreesInSectors_114 0 rfl rfl ?_
  refine wa_getr (r := 30) dX11_agreesInSectors_115 fkX11_62 rfl rfl rfl ?_
  refine wa_aload_n dX11_agreesInSectors_118 3 rfl rfl ?_
  refine wb_geti (v := M o3 2) dX11_agreesInSectors_119 fkX11_132 rfl hLo3 rfl ?_
  obtain ⟨Q1, hM9, hF⟩ := hF
  refine wa_callV [.int (M o3 2)] dX11_agreesInSectors_122 (mmX4_agree _ _) mlX11_345 mnX4_agree mseX4_agree rfl rfl rfl rfl (a_dlt d) rfl rfl hM9 ?_
  rintro r9 M1 P9 ⟨v1, rfl, rfl, hq9⟩
  replace hF := hF v1 M1 hq9
  simp only [Option.toList, List.cons_append, List.nil_append]
  refine wa_istore (lv' := [(4, .int v1), (0, .ref 0), (1, .int x1), (2, .int x2), (3, .ref o3), (5, .int x5)]) dX11_agreesInSectors_125 rfl rfl ?_
  refine wa_iinc (v := x5 + 1) (lv' := [(5, .int (x5 + 1)), (4, .int v1), (0, .ref 0), (1, .int x1), (2, .int x2), (3, .ref o3)]) dX11_agreesInSectors_127 5 rfl rfl rfl rfl ?_
  refine wa_goto (tgt := 26) dX11_agreesInSectors_130 rfl ?_
  exact wa_pick [2, 3, 4, 5, 1, 0] rfl hF

theorem bX11_agreesInSectors_133 {X : a_X} {ad : Nat → Nat} {ca : Nat → ClassId} {d : Nat} {Post : Option Value → a_M → a_P → Prop} {x : Nat} {M : a_M} (x4 : Int32)  (hF : ((x4 = 0 ∨ x4 = 1) ∧ Post (some (.int x4)) M (PT x))) : WA X ad ca LY RX11 cX11_agreesInSectors 6 (some FieldType.boolean) (d + 1) 0 0 (a_E X ad ca LY Post) 133 [(4, .int x4)] [] M (PT x) := by
  refine wa_iload dX11_agreesInSectors_133 0 rfl ?_
  exact wa_iret dX11_agreesInSectors_135 rfl (a_bn hF.1) hF.2

theorem eX11_agreesInSectors {X : a_X} {ad : Nat → Nat} {ca : Nat → ClassId} {d : Nat} {Post : Option Value → a_M → a_P → Prop} {x : Nat} {M : a_M} (x1 : Int32) (x2 : Int32) (h : WA X ad ca LY RX11 cX11_agreesInSectors 6 (some FieldType.boolean) d 0 0 (a_E X ad ca LY Post) 0 [(0, .ref 0), (1, .int x1), (2, .int x2)] [] M (PT x)) : Mt X ad ca LY d yX11_agreesInSectors cX11_agreesInSectors 6 (some FieldType.boolean) [.ref 0, .int x1, .int x2] M (PT x) Post := Mt.of (lv := [(0, .ref 0), (1, .int x1), (2, .int x2)]) (by decide +kernel) rfl rfl rfl (wa_pick [0, 1, 2] rfl h)

theorem bX11_enact_0 {X : a_X} {ad : Nat → Nat} {ca : Nat → ClassId} {d : Nat} {kc ks : Nat} {QF : List Frame → Array Value → State → State → Prop} {x : Nat} {M : a_M} (x1 : Int32) (x2 : Int32)  (hF : ((x1 = 0 → WA X ad ca LY RX11 cX11_enact 7 (some FieldType.boolean) (d + 1) kc ks QF 47 [(0, .ref 0), (1, .int x1), (2, .int x2), (3, .ref 45)] [] M (PT x)) ∧ (¬ x1 = 0 → ((x1 = 2 → WA X ad ca LY RX11 cX11_enact 7 (some FieldType.boolean) (d + 1) kc ks QF 47 [(0, .ref 0), (1, .int x1), (2, .int x2), (3, .ref 45)] [] M (PT x)) ∧ (¬ x1 = 2 → ((¬ x1 = 1 → WA X ad ca LY RX11 cX11_enact 7 (some FieldType.boolean) (d + 1) kc ks QF 34 [(0, .ref 0), (1, .int x1), (2, .int x2), (3, .ref 45)] [] M (PT x)) ∧ (x1 = 1 → ((x2 < 0 → WA X ad ca LY RX11 cX11_enact 7 (some FieldType.boolean) (d + 1) kc ks QF 34 [(0, .ref 0), (1, .int x1), (2, .int x2), (3, .ref 45)] [] M (PT x)) ∧ (¬ x2 < 0 → ((x2 < (M 45 0) → WA X ad ca LY RX11 cX11_enact 7 (some FieldType.boolean) (d + 1) kc ks QF 47 [(0, .ref 0), (1, .int x1), (2, .int x2), (3, .ref 45)] [] M (PT x)) ∧ (¬ x2 < (M 45 0) → WA X ad ca LY RX11 cX11_enact 7 (some FieldType.boolean) (d + 1) kc ks QF 34 [(0, .ref 0), (1, .int x1), (2, .int x2), (3, .ref 45)] [] M (PT x)))))))))))) : WA X ad ca LY RX11 cX11_enact 7 (some FieldType.boolean) (d + 1) kc ks QF 0 [(0, .ref 0), (1, .int x1), (2, .int x2)] [] M (PT x) := by
  refine wa_aload_n dX11_enact_0 0 rfl rfl ?_
  refine wa_getr (r := 44) dX11_enact_1 fkX11_101 rfl rfl rfl ?_
  refine wa_getr (r := 45) dX11_enact_4 fkX11_108 rfl rfl rfl ?_
  refine wa_astore_n (lv' := [(3, .ref 45), (0, .ref 0), (1, .int x1), (2, .int x2)]) dX11_enact_7 rfl rfl rfl ?_
  refine wa_iload_n dX11_enact_8 2 rfl rfl ?_
  refine wa_if_eq (tgt := 47) dX11_enact_9 rfl (fun hc => ?_) (fun hc => ?_)
  · replace hF := hF.1 hc
    exact wa_pick [1, 2, 3, 0] rfl hF
  · replace hF := hF.2 hc
    refine wa_iload_n dX11_enact_12 2 rfl rfl ?_
    refine wa_iconst (v := 2) dX11_enact_13 rfl ?_
    refine wa_icmp_eq (tgt := 47) dX11_enact_14 rfl (fun hc => ?_) (fun hc => ?_)
    · replace hF := hF.1 hc
      exact wa_pick [1, 2, 3, 0] rfl hF
    · replace hF := hF.2 hc
      refine wa_iload_n dX11_enact_17 2 rfl rfl ?_
      refine wa_iconst (v := 1) dX11_enact_18 rfl ?_
      refine wa_icmp_ne (tgt := 34) dX11_enact_19 rfl (fun hc => ?_) (fun hc => ?_)
      · replace hF := hF.1 hc
        exact wa_pick [1, 2, 3, 0] rfl hF
      · replace hF := hF.2 hc
        refine wa_iload_n dX11_enact_22 3 rfl rfl ?_
        refine wa_if_lt (tgt := 34) dX11_enact_23 rfl (fun hc => ?_) (fun hc => ?_)
        · replace hF := hF.1 hc
          exact wa_pick [1, 2, 3, 0] rfl hF
        · replace hF := hF.2 hc
          refine wa_iload_n dX11_enact_26 3 rfl rfl ?_
          refine wa_aload_n dX11_enact_27 0 rfl rfl ?_
          refine wb_geti (v := M 45 0) dX11_enact_28 fkX11_111 rfl rfl rfl ?_
          refine wa_icmp_lt (tgt := 47) dX11_enact_31 rfl (fun hc => ?_) (fun hc => ?_)
          · replace hF := hF.1 hc
            exact wa_pick [1, 2, 3, 0] rfl hF
          · replace hF := hF.2 hc
            exact wa_pick [1, 2, 3, 0] rfl hF

theorem bX11_enact_34 {X : a_X} {ad : Nat → Nat} {ca : Nat → ClassId} {d : Nat} {kc ks : Nat} {QF : List Frame → Array Value → State → State → Prop} {x : Nat} {M : a_M} (x1 : Int32) (x2 : Int32) (o3 : Nat) (hLo3 : LY[o3]? = some (6, 5)) (hF : ((¬ x1 = 3 → WA X ad ca LY RX11 cX11_enact 7 (some FieldType.boolean) (d + 1) kc ks QF 51 [(0, .ref 0), (1, .int x1), (2, .int x2), (3, .ref o3)] [] M (PT x)) ∧ (x1 = 3 → (∃ Q1 : Int32 → a_M → Prop, Mt X ad ca LY d yX6_isNumber cX6_isNumber 2 (some FieldType.boolean) [.ref o3, .int x2] M (PT x) (q_i (PT x) Q1) ∧ ∀ v1 M1, Q1 v1 M1 → ((v1 = 0 → WA X ad ca LY RX11 cX11_enact 7 (some FieldType.boolean) (d + 1) kc ks QF 51 [(0, .ref 0), (1, .int x1), (2, .int x2), (3, .ref o3)] [] M1 (PT x)) ∧ (¬ v1 = 0 → WA X ad ca LY RX11 cX11_enact 7 (some FieldType.boolean) (d + 1) kc ks QF 47 [(0, .ref 0), (1, .int x1), (2, .int x2), (3, .ref o3)] [] M1 (PT x))))))) : WA X ad ca LY RX11 cX11_enact 7 (some FieldType.boolean) (d + 1) kc ks QF 34 [(0, .ref 0), (1, .int x1), (2, .int x2), (3, .ref o3)] [] M (PT x) := by
  refine wa_iload_n dX11_enact_34 1 rfl rfl ?_
  refine wa_iconst (v := 3) dX11_enact_35 rfl ?_
  refine wa_icmp_ne (tgt := 51) dX11_enact_36 rfl (fun hc => ?_) (fun hc => ?_)
  · replace hF := hF.1 hc
    exact hF
  · replace hF := hF.2 hc
    refine wa_aload_n dX11_enact_39 3 rfl rfl ?_
    refine wa_iload_n dX11_enact_40 2 rfl rfl ?_
    obtain ⟨Q1, hM9, hF⟩ := hF
    refine wa_callV [.int x2] dX11_enact_41 (mmX6_isNumber _ _) mlX11_147 mnX6_isNumber mseX6_isNumber hLo3 rfl rfl rfl (a_dlt d) rfl rfl hM9 ?_
    rintro r9 M1 P9 ⟨v1, rfl, rfl, hq9⟩
    replace hF := hF v1 M1 hq9
    simp only [Option.toList, List.cons_append, List.nil_append]
    refine wa_if_eq (tgt := 51) dX11_enact_44 rfl (fun hc => ?_) (fun hc => ?_)
    · replace hF := hF.1 hc
      exact hF
    · replace hF := hF.2 hc
      exact hF

theorem bX11_enact_47 {X : a_X} {ad : Nat → Nat} {ca : Nat → ClassId} {d : Nat} {kc ks : Nat} {QF : List Frame → Array Value → State → State → Prop} {x : Nat} {M : a_M} (x1 : Int32) (x2 : Int32) (o3 : Nat) (hLo3 : LY[o3]? = some (6, 5)) (hF : (∃ Q1 : a_M → Prop, Mt X ad ca LY d yX2_open cX2_open 1 none [.ref 46] M (PT x) (q_v (PT x) Q1) ∧ ∀ M1, Q1 M1 → (∃ Q2 : Nat → a_M → Prop, Mt X ad ca LY d yX2_earlier cX2_earlier 1 (some (FieldType.array FieldType.int)) [.ref 46] M1 (PT x) (q_r (PT x) Q2) ∧ ∀ r2 M2, Q2 r2 M2 → ∃ nr2, LY[r2]? = some (100, nr2) ∧ (∃ Q3 : Nat → a_M → Prop, Mt X ad ca LY d yX2_vector cX2_vector 1 (some (FieldType.array FieldType.int)) [.ref 46] M2 (PT x) (q_r (PT x) Q3) ∧ ∀ r3 M3, Q3 r3 M3 → ∃ nr3, LY[r3]? = some (100, nr3) ∧ ((x1 = 0 → (∃ Q4 : a_M → Prop, Mt X ad ca LY d yX6_shiftOver cX6_shiftOver 4 none [.ref o3, .ref r2, .ref r3] M3 (PT x) (q_v (PT x) Q4) ∧ ∀ M4, Q4 M4 → WA X ad ca LY RX11 cX11_enact 7 (some FieldType.boolean) (d + 1) kc ks QF 182 [] [] M4 (PT x))) ∧ (x1 = 1 → (∃ Q5 : a_M → Prop, Mt X ad ca LY d yX6_turnOver cX6_turnOver 5 none [.ref o3, .int x2, .ref r2, .ref r3] M3 (PT x) (q_v (PT x) Q5) ∧ ∀ M5, Q5 M5 → WA X ad ca LY RX11 cX11_enact 7 (some FieldType.boolean) (d + 1) kc ks QF 182 [] [] M5 (PT x))) ∧ (x1 = 2 → (∃ Q6 : a_M → Prop, Mt X ad ca LY d yX6_sumOver cX6_sumOver 4 none [.ref o3, .ref r2, .ref r3] M3 (PT x) (q_v (PT x) Q6) ∧ ∀ M6, Q6 M6 → WA X ad ca LY RX11 cX11_enact 7 (some FieldType.boolean) (d + 1) kc ks QF 182 [] [] M6 (PT x))) ∧ ((x1).toInt < 0 ∨ 2 < (x1).toInt → (∃ Q7 : Nat → a_M → Prop, Mt X ad ca LY d yX11_toldScript cX11_toldScript 1 (some (FieldType.object "SolvedChains$Script")) [.ref 0] M3 (PT x) (q_r (PT x) Q7) ∧ ∀ r7 M7, Q7 r7 M7 → ∃ nr7, (nr7 = 0 ∧ LY[r7]? = some (7, 7)) ∧ (∃ Q8 : a_M → Prop, Mt X ad ca LY d yX1_look cX1_look 4 none [.ref 13, .ref o3, .ref r7] M7 (PT x) (q_v (PT x) Q8) ∧ ∀ M8, Q8 M8 → (∃ Q9 : a_M → Prop, Mt X ad ca LY d yX1_tableOver cX1_tableOver 7 none [.ref 13, .int x2, .ref r2, .ref r3] M8 (PT x) (q_v (PT x) Q9) ∧ ∀ M9, Q9 M9 → WA X ad ca LY RX11 cX11_enact 7 (some FieldType.boolean) (d + 1) kc ks QF 182 [] [] M9 (PT x)))))))))) : WA X ad ca LY RX11 cX11_enact 7 (some FieldType.boolean) (d + 1) kc ks QF 47 [(0, .ref 0), (1, .int x1), (2, .int x2), (3, .ref o3)] [] M (PT x) := by
  refine wa_iconst (v := 1) dX11_enact_47 rfl ?_
  refine wa_goto (tgt := 52) dX11_enact_48 rfl ?_
  refine wa_istore (lv' := [(4, .int 1), (0, .ref 0), (1, .int x1), (2, .int x2), (3, .ref o3)]) dX11_enact_52 rfl rfl ?_
  refine wa_iload dX11_enact_54 0 rfl ?_
  refine wa_if_ne (tgt := 61) dX11_enact_56 rfl (fun hc => ?_) (fun hc => ?_)
  · skip
    refine wa_aload_n dX11_enact_61 1 rfl rfl ?_
    refine wa_getr (r := 44) dX11_enact_62 fkX11_101 rfl rfl rfl ?_
    refine wa_getr (r := 46) dX11_enact_65 fkX11_119 rfl rfl rfl ?_
    obtain ⟨Q1, hM9, hF⟩ := hF
    refine wa_callV [] dX11_enact_68 (mmX2_open _ _) mlX11_348 mnX2_open mseX2_open rfl rfl rfl rfl (a_dlt d) rfl rfl hM9 ?_
    rintro r9 M1 P9 ⟨rfl, rfl, hq9⟩
    replace hF := hF M1 hq9
    simp only [Option.toList, List.nil_append]
    refine wa_aload_n dX11_enact_71 1 rfl rfl ?_
    refine wa_getr (r := 44) dX11_enact_72 fkX11_101 rfl rfl rfl ?_
    refine wa_getr (r := 46) dX11_enact_75 fkX11_119 rfl rfl rfl ?_
    obtain ⟨Q2, hM9, hF⟩ := hF
    refine wa_callV [] dX11_enact_78 (mmX2_earlier _ _) mlX11_351 mnX2_earlier mseX2_earlier rfl rfl rfl rfl (a_dlt d) rfl rfl hM9 ?_
    rintro r9 M2 P9 ⟨r2, rfl, rfl, hq9⟩
    obtain ⟨nr2, hLr2, hF⟩ := hF r2 M2 hq9
    simp only [Option.toList, List.cons_append, List.nil_append]
    refine wa_astore (lv' := [(5, .ref r2), (4, .int 1), (0, .ref 0), (1, .int x1), (2, .int x2), (3, .ref o3)]) dX11_enact_81 rfl rfl ?_
    refine wa_aload_n dX11_enact_83 2 rfl rfl ?_
    refine wa_getr (r := 44) dX11_enact_84 fkX11_101 rfl rfl rfl ?_
    refine wa_getr (r := 46) dX11_enact_87 fkX11_119 rfl rfl rfl ?_
    obtain ⟨Q3, hM9, hF⟩ := hF
    refine wa_callV [] dX11_enact_90 (mmX2_vector _ _) mlX11_290 mnX2_vector mseX2_vector rfl rfl rfl rfl (a_dlt d) rfl rfl hM9 ?_
    rintro r9 M3 P9 ⟨r3, rfl, rfl, hq9⟩
    obtain ⟨nr3, hLr3, hF⟩ := hF r3 M3 hq9
    simp only [Option.toList, List.cons_append, List.nil_append]
    refine wa_astore (lv' := [(6, .ref r3), (5, .ref r2), (4, .int 1), (0, .ref 0), (1, .int x1), (2, .int x2), (3, .ref o3)]) dX11_enact_93 rfl rfl ?_
    refine wa_iload_n dX11_enact_95 4 rfl rfl ?_
    by_cases hk0 : x1 = 0
    · replace hF := hF.1 hk0
      rw [hk0]
      refine wa_tableIn (off := 28) (tgt := 124) dX11_enact_96 (by decide) (by decide) rfl rfl ?_
      refine wa_aload_n dX11_enact_124 6 rfl rfl ?_
      refine wa_aload dX11_enact_125 1 rfl ?_
      refine wa_aload dX11_enact_127 0 rfl ?_
      obtain ⟨Q4, hM9, hF⟩ := hF
      refine wa_callV [.ref r2, .ref r3] dX11_enact_129 (mmX6_shiftOver _ _) mlX11_354 mnX6_shiftOver mseX6_shiftOver hLo3 rfl rfl rfl (a_dlt d) rfl rfl hM9 ?_
      rintro r9 M4 P9 ⟨rfl, rfl, hq9⟩
      replace hF := hF M4 hq9
      simp only [Option.toList, List.nil_append]
      refine wa_goto (tgt := 182) dX11_enact_132 rfl ?_
      exact wa_pick [] rfl hF
    replace hF := hF.2
    by_cases hk1 : x1 = 1
    · replace hF := hF.1 hk1
      rw [hk1]
      refine wa_tableIn (off := 39) (tgt := 135) dX11_enact_96 (by decide) (by decide) rfl rfl ?_
      refine wa_aload_n dX11_enact_135 6 rfl rfl ?_
      refine wa_iload_n dX11_enact_136 5 rfl rfl ?_
      refine wa_aload dX11_enact_137 1 rfl ?_
      refine wa_aload dX11_enact_139 0 rfl ?_
      obtain ⟨Q5, hM9, hF⟩ := hF
      refine wa_callV [.int x2, .ref r2, .ref r3] dX11_enact_141 (mmX6_turnOver _ _) mlX11_357 mnX6_turnOver mseX6_turnOver hLo3 rfl rfl rfl (a_dlt d) rfl rfl hM9 ?_
      rintro r9 M5 P9 ⟨rfl, rfl, hq9⟩
      replace hF := hF M5 hq9
      simp only [Option.toList, List.nil_append]
      refine wa_goto (tgt := 182) dX11_enact_144 rfl ?_
      exact wa_pick [] rfl hF
    replace hF := hF.2
    by_cases hk2 : x1 = 2
    · replace hF := hF.1 hk2
      rw [hk2]
      refine wa_tableIn (off := 51) (tgt := 147) dX11_enact_96 (by decide) (by decide) rfl rfl ?_
      refine wa_aload_n dX11_enact_147 6 rfl rfl ?_
      refine wa_aload dX11_enact_148 1 rfl ?_
      refine wa_aload dX11_enact_150 0 rfl ?_
      obtain ⟨Q6, hM9, hF⟩ := hF
      refine wa_callV [.ref r2, .ref r3] dX11_enact_152 (mmX6_sumOver _ _) mlX11_317 mnX6_sumOver mseX6_sumOver hLo3 rfl rfl rfl (a_dlt d) rfl rfl hM9 ?_
      rintro r9 M6 P9 ⟨rfl, rfl, hq9⟩
      replace hF := hF M6 hq9
      simp only [Option.toList, List.nil_append]
      refine wa_goto (tgt := 182) dX11_enact_155 rfl ?_
      exact wa_pick [] rfl hF
    replace hF := hF.2
    have ht0 : (x1).toInt ≠ 0 := a_ti hk0
    have ht1 : (x1).toInt ≠ 1 := a_ti hk1
    have ht2 : (x1).toInt ≠ 2 := a_ti hk2
    have hd9 : (x1).toInt < 0 ∨ 2 < (x1).toInt := by omega
    replace hF := hF hd9
    refine wa_tableOut (tgt := 158) dX11_enact_96 hd9 rfl ?_
    refine wa_aload_n dX11_enact_158 3 rfl rfl ?_
    refine wa_getr (r := 13) dX11_enact_159 fkX11_39 rfl rfl rfl ?_
    refine wa_aload_n dX11_enact_162 6 rfl rfl ?_
    refine wa_aload_n dX11_enact_163 3 rfl rfl ?_
    obtain ⟨Q7, hM9, hF⟩ := hF
    refine wa_callV [] dX11_enact_164 (mmX11_toldScript _ _) mlX11_179 mnX11_toldScript mseX11_toldScript rfl rfl rfl rfl (a_dlt d) rfl rfl hM9 ?_
    rintro r9 M7 P9 ⟨r7, rfl, rfl, hq9⟩
    obtain ⟨nr7, hLr7, hF⟩ := hF r7 M7 hq9
    simp only [Option.toList, List.cons_append, List.nil_append]
    replace hLr7 := hLr7.2
    obtain ⟨Q8, hM9, hF⟩ := hF
    refine wa_callV [.ref o3, .ref r7] dX11_enact_167 (mmX1_look _ _) mlX11_187 mnX1_look mseX1_look rfl rfl rfl rfl (a_dlt d) rfl rfl hM9 ?_
    rintro r9 M8 P9 ⟨rfl, rfl, hq9⟩
    replace hF := hF M8 hq9
    simp only [Option.toList, List.nil_append]
    refine wa_aload_n dX11_enact_170 3 rfl rfl ?_
    refine wa_getr (r := 13) dX11_enact_171 fkX11_39 rfl rfl rfl ?_
    refine wa_iload_n dX11_enact_174 5 rfl rfl ?_
    refine wa_aload dX11_enact_175 1 rfl ?_
    refine wa_aload dX11_enact_177 0 rfl ?_
    obtain ⟨Q9, hM9, hF⟩ := hF
    refine wa_callV [.int x2, .ref r2, .ref r3] dX11_enact_179 (mmX1_tableOver _ _) mlX11_361 mnX1_tableOver mseX1_tableOver rfl rfl rfl rfl (a_dlt d) rfl rfl hM9 ?_
    rintro r9 M9 P9 ⟨rfl, rfl, hq9⟩
    replace hF := hF M9 hq9
    simp only [Option.toList, List.nil_append]
    exact wa_pick [] rfl hF
  · exact absurd hc (by decide)

theorem bX11_enact_51 {X : a_X} {ad : Nat → Nat} {ca : Nat → ClassId} {d : Nat} {Post : Option Value → a_M → a_P → Prop} {x : Nat} {M : a_M} (x1 : Int32) (x2 : Int32) (o3 : Nat) (hLo3 : LY[o3]? = some (6, 5)) (hF : Post (some (.int 0)) M (PT x)) : WA X ad ca LY RX11 cX11_enact 7 (some FieldType.boolean) (d + 1) 0 0 (a_E X ad ca LY Post) 51 [(0, .ref 0), (1, .int x1), (2, .int x2), (3, .ref o3)] [] M (PT x) := by
  refine wa_iconst (v := 0) dX11_enact_51 rfl ?_
  refine wa_istore (lv' := [(4, .int 0), (0, .ref 0), (1, .int x1), (2, .int x2), (3, .ref o3)]) dX11_enact_52 rfl rfl ?_
  refine wa_iload dX11_enact_54 0 rfl ?_
  refine wa_if_ne (tgt := 61) dX11_enact_56 rfl (fun hc => ?_) (fun hc => ?_)
  · exact absurd hc (by decide)
  · skip
    refine wa_iconst (v := 0) dX11_enact_59 rfl ?_
    exact wa_iret dX11_enact_60 rfl rfl hF

theorem bX11_enact_182 {X : a_X} {ad : Nat → Nat} {ca : Nat → ClassId} {d : Nat} {Post : Option Value → a_M → a_P → Prop} {x : Nat} {M : a_M}   (hF : Post (some (.int 1)) M (PT x)) : WA X ad ca LY RX11 cX11_enact 7 (some FieldType.boolean) (d + 1) 0 0 (a_E X ad ca LY Post) 182 [] [] M (PT x) := by
  refine wa_iconst (v := 1) dX11_enact_182 rfl ?_
  exact wa_iret dX11_enact_183 rfl rfl hF

theorem eX11_enact {X : a_X} {ad : Nat → Nat} {ca : Nat → ClassId} {d : Nat} {Post : Option Value → a_M → a_P → Prop} {x : Nat} {M : a_M} (x1 : Int32) (x2 : Int32) (h : WA X ad ca LY RX11 cX11_enact 7 (some FieldType.boolean) d 0 0 (a_E X ad ca LY Post) 0 [(0, .ref 0), (1, .int x1), (2, .int x2)] [] M (PT x)) : Mt X ad ca LY d yX11_enact cX11_enact 7 (some FieldType.boolean) [.ref 0, .int x1, .int x2] M (PT x) Post := Mt.of (lv := [(0, .ref 0), (1, .int x1), (2, .int x2)]) (by decide +kernel) rfl rfl rfl (wa_pick [0, 1, 2] rfl h)
