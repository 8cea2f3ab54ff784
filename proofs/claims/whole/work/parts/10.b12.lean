theorem bX12_commute_0 {X : a_X} {ad : Nat → Nat} {ca : Nat → ClassId} {d : Nat} {kc ks : Nat} {QF : List Frame → Array Value → State → State → Prop} {x : Nat} {M : a_M} (x1 : Int32) (x2 : Int32)  (hF : (∃ Q1 : Int32 → a_M → Prop, Mt X ad ca LY d yX12_isNumber cX12_isNumber 2 (some FieldType.boolean) [.ref 118, .int x1] M (PT x) (q_i (PT x) Q1) ∧ ∀ v1 M1, Q1 v1 M1 → ((v1 = 0 → WA X ad ca LY RX12 cX12_commute 5 (some FieldType.boolean) (d + 1) kc ks QF 16 [] [] M1 (PT x)) ∧ (¬ v1 = 0 → (∃ Q2 : Int32 → a_M → Prop, Mt X ad ca LY d yX12_isNumber cX12_isNumber 2 (some FieldType.boolean) [.ref 118, .int x2] M1 (PT x) (q_i (PT x) Q2) ∧ ∀ v2 M2, Q2 v2 M2 → ((¬ v2 = 0 → WA X ad ca LY RX12 cX12_commute 5 (some FieldType.boolean) (d + 1) kc ks QF 23 [(0, .ref 118), (1, .int x1), (2, .int x2), (3, .int 1), (4, .int 0)] [] M2 (PT x)) ∧ (v2 = 0 → WA X ad ca LY RX12 cX12_commute 5 (some FieldType.boolean) (d + 1) kc ks QF 16 [] [] M2 (PT x)))))))) : WA X ad ca LY RX12 cX12_commute 5 (some FieldType.boolean) (d + 1) kc ks QF 0 [(0, .ref 118), (1, .int x1), (2, .int x2)] [] M (PT x) := by
  refine wa_aload_n dX12_commute_0 0 rfl rfl ?_
  refine wa_iload_n dX12_commute_1 1 rfl rfl ?_
  obtain ⟨Q1, hM9, hF⟩ := hF
  refine wa_callV [.int x1] dX12_commute_2 (mmX12_isNumber _ _) mlX12_135 mnX12_isNumber mseX12_isNumber rfl rfl rfl rfl (a_dlt d) rfl rfl hM9 ?_
  rintro r9 M1 P9 ⟨v1, rfl, rfl, hq9⟩
  replace hF := hF v1 M1 hq9
  simp only [Option.toList, List.cons_append, List.nil_append]
  refine wa_if_eq (tgt := 16) dX12_commute_5 rfl (fun hc => ?_) (fun hc => ?_)
  · replace hF := hF.1 hc
    exact wa_pick [] rfl hF
  · replace hF := hF.2 hc
    refine wa_aload_n dX12_commute_8 0 rfl rfl ?_
    refine wa_iload_n dX12_commute_9 2 rfl rfl ?_
    obtain ⟨Q2, hM9, hF⟩ := hF
    refine wa_callV [.int x2] dX12_commute_10 (mmX12_isNumber _ _) mlX12_135 mnX12_isNumber mseX12_isNumber rfl rfl rfl rfl (a_dlt d) rfl rfl hM9 ?_
    rintro r9 M2 P9 ⟨v2, rfl, rfl, hq9⟩
    replace hF := hF v2 M2 hq9
    simp only [Option.toList, List.cons_append, List.nil_append]
    refine wa_if_ne (tgt := 18) dX12_commute_13 rfl (fun hc => ?_) (fun hc => ?_)
    · replace hF := hF.1 hc
      refine wa_iconst (v := 1) dX12_commute_18 rfl ?_
      refine wa_istore_n (lv' := [(3, .int 1), (0, .ref 118), (1, .int x1), (2, .int x2)]) dX12_commute_19 rfl rfl rfl ?_
      refine wa_iconst (v := 0) dX12_commute_20 rfl ?_
      refine wa_istore (lv' := [(4, .int 0), (3, .int 1), (0, .ref 118), (1, .int x1), (2, .int x2)]) dX12_commute_21 rfl rfl ?_
      exact wa_pick [2, 3, 4, 1, 0] rfl hF
    · replace hF := hF.2 hc
      exact wa_pick [] rfl hF

theorem bX12_commute_16 {X : a_X} {ad : Nat → Nat} {ca : Nat → ClassId} {d : Nat} {Post : Option Value → a_M → a_P → Prop} {x : Nat} {M : a_M}   (hF : Post (some (.int 0)) M (PT x)) : WA X ad ca LY RX12 cX12_commute 5 (some FieldType.boolean) (d + 1) 0 0 (a_E X ad ca LY Post) 16 [] [] M (PT x) := by
  refine wa_iconst (v := 0) dX12_commute_16 rfl ?_
  exact wa_iret dX12_commute_17 rfl rfl hF

theorem bX12_commute_23 {X : a_X} {ad : Nat → Nat} {ca : Nat → ClassId} {d : Nat} {kc ks : Nat} {QF : List Frame → Array Value → State → State → Prop} {x : Nat} {M : a_M} (x1 : Int32) (x2 : Int32) (x3 : Int32) (x4 : Int32)  (hF : (∃ Q1 : Int32 → a_M → Prop, Mt X ad ca LY d yX12_states cX12_states 1 (some FieldType.int) [.ref 118] M (PT x) (q_i (PT x) Q1) ∧ ∀ v1 M1, Q1 v1 M1 → ((v1 ≤ x4 → WA X ad ca LY RX12 cX12_commute 5 (some FieldType.boolean) (d + 1) kc ks QF 83 [(3, .int x3)] [] M1 (PT x)) ∧ (¬ v1 ≤ x4 → ((x3 = 0 → WA X ad ca LY RX12 cX12_commute 5 (some FieldType.boolean) (d + 1) kc ks QF 83 [(3, .int x3)] [] M1 (PT x)) ∧ (¬ x3 = 0 → (∃ Q2 : a_M → Prop, Mt X ad ca LY d yX12_actedIs cX12_actedIs 3 none [.ref 118, .int x4] M1 (PT x) (q_v (PT x) Q2) ∧ ∀ M2, Q2 M2 → (∃ Q3 : a_M → Prop, Mt X ad ca LY d yX12_tables cX12_tables 5 none [.ref 118, .int x1] M2 (PT x) (q_v (PT x) Q3) ∧ ∀ M3, Q3 M3 → (∃ Q4 : a_M → Prop, Mt X ad ca LY d yX12_tables cX12_tables 5 none [.ref 118, .int x2] M3 (PT x) (q_v (PT x) Q4) ∧ ∀ M4, Q4 M4 → (∃ Q5 : a_M → Prop, Mt X ad ca LY d yX12_keepsOther cX12_keepsOther 2 none [.ref 118] M4 (PT x) (q_v (PT x) Q5) ∧ ∀ M5, Q5 M5 → (∃ Q6 : a_M → Prop, Mt X ad ca LY d yX12_actedIs cX12_actedIs 3 none [.ref 118, .int x4] M5 (PT x) (q_v (PT x) Q6) ∧ ∀ M6, Q6 M6 → (∃ Q7 : a_M → Prop, Mt X ad ca LY d yX12_tables cX12_tables 5 none [.ref 118, .int x2] M6 (PT x) (q_v (PT x) Q7) ∧ ∀ M7, Q7 M7 → (∃ Q8 : a_M → Prop, Mt X ad ca LY d yX12_tables cX12_tables 5 none [.ref 118, .int x1] M7 (PT x) (q_v (PT x) Q8) ∧ ∀ M8, Q8 M8 → (∃ Q9 : Int32 → a_M → Prop, Mt X ad ca LY d yX12_isOther cX12_isOther 3 (some FieldType.boolean) [.ref 118] M8 (PT x) (q_i (PT x) Q9) ∧ ∀ v9 M9, Q9 v9 M9 → WA X ad ca LY RX12 cX12_commute 5 (some FieldType.boolean) (d + 1) kc ks QF 23 [(0, .ref 118), (1, .int x1), (2, .int x2), (3, .int v9), (4, .int (x4 + 1))] [] M9 (PT x))))))))))))))) : WA X ad ca LY RX12 cX12_commute 5 (some FieldType.boolean) (d + 1) kc ks QF 23 [(0, .ref 118), (1, .int x1), (2, .int x2), (3, .int x3), (4, .int x4)] [] M (PT x) := by
  refine wa_iload dX12_commute_23 4 rfl ?_
  refine wa_aload_n dX12_commute_25 0 rfl rfl ?_
  obtain ⟨Q1, hM9, hF⟩ := hF
  refine wa_callV [] dX12_commute_26 (mmX12_states _ _) mlX12_128 mnX12_states mseX12_states rfl rfl rfl rfl (a_dlt d) rfl rfl hM9 ?_
  rintro r9 M1 P9 ⟨v1, rfl, rfl, hq9⟩
  replace hF := hF v1 M1 hq9
  simp only [Option.toList, List.cons_append, List.nil_append]
  refine wa_icmp_ge (tgt := 83) dX12_commute_29 rfl (fun hc => ?_) (fun hc => ?_)
  · replace hF := hF.1 hc
    exact wa_pick [3] rfl hF
  · replace hF := hF.2 hc
    refine wa_iload_n dX12_commute_32 3 rfl rfl ?_
    refine wa_if_eq (tgt := 83) dX12_commute_33 rfl (fun hc => ?_) (fun hc => ?_)
    · replace hF := hF.1 hc
      exact wa_pick [3] rfl hF
    · replace hF := hF.2 hc
      refine wa_aload_n dX12_commute_36 0 rfl rfl ?_
      refine wa_iload dX12_commute_37 4 rfl ?_
      obtain ⟨Q2, hM9, hF⟩ := hF
      refine wa_callV [.int x4] dX12_commute_39 (mmX12_actedIs _ _) mlX12_317 mnX12_actedIs mseX12_actedIs rfl rfl rfl rfl (a_dlt d) rfl rfl hM9 ?_
      rintro r9 M2 P9 ⟨rfl, rfl, hq9⟩
      replace hF := hF M2 hq9
      simp only [Option.toList, List.nil_append]
      refine wa_aload_n dX12_commute_42 0 rfl rfl ?_
      refine wa_iload_n dX12_commute_43 1 rfl rfl ?_
      obtain ⟨Q3, hM9, hF⟩ := hF
      refine wa_callV [.int x1] dX12_commute_44 (mmX12_tables _ _) mlX12_323 mnX12_tables mseX12_tables rfl rfl rfl rfl (a_dlt d) rfl rfl hM9 ?_
      rintro r9 M3 P9 ⟨rfl, rfl, hq9⟩
      replace hF := hF M3 hq9
      simp only [Option.toList, List.nil_append]
      refine wa_aload_n dX12_commute_47 0 rfl rfl ?_
      refine wa_iload_n dX12_commute_48 2 rfl rfl ?_
      obtain ⟨Q4, hM9, hF⟩ := hF
      refine wa_callV [.int x2] dX12_commute_49 (mmX12_tables _ _) mlX12_323 mnX12_tables mseX12_tables rfl rfl rfl rfl (a_dlt d) rfl rfl hM9 ?_
      rintro r9 M4 P9 ⟨rfl, rfl, hq9⟩
      replace hF := hF M4 hq9
      simp only [Option.toList, List.nil_append]
      refine wa_aload_n dX12_commute_52 0 rfl rfl ?_
      obtain ⟨Q5, hM9, hF⟩ := hF
      refine wa_callV [] dX12_commute_53 (mmX12_keepsOther _ _) mlX12_326 mnX12_keepsOther mseX12_keepsOther rfl rfl rfl rfl (a_dlt d) rfl rfl hM9 ?_
      rintro r9 M5 P9 ⟨rfl, rfl, hq9⟩
      replace hF := hF M5 hq9
      simp only [Option.toList, List.nil_append]
      refine wa_aload_n dX12_commute_56 0 rfl rfl ?_
      refine wa_iload dX12_commute_57 4 rfl ?_
      obtain ⟨Q6, hM9, hF⟩ := hF
      refine wa_callV [.int x4] dX12_commute_59 (mmX12_actedIs _ _) mlX12_317 mnX12_actedIs mseX12_actedIs rfl rfl rfl rfl (a_dlt d) rfl rfl hM9 ?_
      rintro r9 M6 P9 ⟨rfl, rfl, hq9⟩
      replace hF := hF M6 hq9
      simp only [Option.toList, List.nil_append]
      refine wa_aload_n dX12_commute_62 0 rfl rfl ?_
      refine wa_iload_n dX12_commute_63 2 rfl rfl ?_
      obtain ⟨Q7, hM9, hF⟩ := hF
      refine wa_callV [.int x2] dX12_commute_64 (mmX12_tables _ _) mlX12_323 mnX12_tables mseX12_tables rfl rfl rfl rfl (a_dlt d) rfl rfl hM9 ?_
      rintro r9 M7 P9 ⟨rfl, rfl, hq9⟩
      replace hF := hF M7 hq9
      simp only [Option.toList, List.nil_append]
      refine wa_aload_n dX12_commute_67 0 rfl rfl ?_
      refine wa_iload_n dX12_commute_68 1 rfl rfl ?_
      obtain ⟨Q8, hM9, hF⟩ := hF
      refine wa_callV [.int x1] dX12_commute_69 (mmX12_tables _ _) mlX12_323 mnX12_tables mseX12_tables rfl rfl rfl rfl (a_dlt d) rfl rfl hM9 ?_
      rintro r9 M8 P9 ⟨rfl, rfl, hq9⟩
      replace hF := hF M8 hq9
      simp only [Option.toList, List.nil_append]
      refine wa_aload_n dX12_commute_72 0 rfl rfl ?_
      obtain ⟨Q9, hM9, hF⟩ := hF
      refine wa_callV [] dX12_commute_73 (mmX12_isOther _ _) mlX12_329 mnX12_isOther mseX12_isOther rfl rfl rfl rfl (a_dlt d) rfl rfl hM9 ?_
      rintro r9 M9 P9 ⟨v9, rfl, rfl, hq9⟩
      replace hF := hF v9 M9 hq9
      simp only [Option.toList, List.cons_append, List.nil_append]
      refine wa_istore_n (lv' := [(3, .int v9), (0, .ref 118), (1, .int x1), (2, .int x2), (4, .int x4)]) dX12_commute_76 rfl rfl rfl ?_
      refine wa_iinc (v := x4 + 1) (lv' := [(4, .int (x4 + 1)), (3, .int v9), (0, .ref 118), (1, .int x1), (2, .int x2)]) dX12_commute_77 4 rfl rfl rfl rfl ?_
      refine wa_goto (tgt := 23) dX12_commute_80 rfl ?_
      exact wa_pick [2, 3, 4, 1, 0] rfl hF

theorem bX12_commute_83 {X : a_X} {ad : Nat → Nat} {ca : Nat → ClassId} {d : Nat} {Post : Option Value → a_M → a_P → Prop} {x : Nat} {M : a_M} (x3 : Int32)  (hF : ((x3 = 0 ∨ x3 = 1) ∧ Post (some (.int x3)) M (PT x))) : WA X ad ca LY RX12 cX12_commute 5 (some FieldType.boolean) (d + 1) 0 0 (a_E X ad ca LY Post) 83 [(3, .int x3)] [] M (PT x) := by
  refine wa_iload_n dX12_commute_83 0 rfl rfl ?_
  exact wa_iret dX12_commute_84 rfl (a_bn hF.1) hF.2

theorem eX12_commute {X : a_X} {ad : Nat → Nat} {ca : Nat → ClassId} {d : Nat} {Post : Option Value → a_M → a_P → Prop} {x : Nat} {M : a_M} (x1 : Int32) (x2 : Int32) (h : WA X ad ca LY RX12 cX12_commute 5 (some FieldType.boolean) d 0 0 (a_E X ad ca LY Post) 0 [(0, .ref 118), (1, .int x1), (2, .int x2)] [] M (PT x)) : Mt X ad ca LY d yX12_commute cX12_commute 5 (some FieldType.boolean) [.ref 118, .int x1, .int x2] M (PT x) Post := Mt.of (lv := [(0, .ref 118), (1, .int x1), (2, .int x2)]) (by decide +kernel) rfl rfl rfl (wa_pick [0, 1, 2] rfl h)

theorem bX12_keeps_0 {X : a_X} {ad : Nat → Nat} {ca : Nat → ClassId} {d : Nat} {Post : Option Value → a_M → a_P → Prop} {x : Nat} {M : a_M} (x1 : Int32)  (hF : (∃ Q1 : Int32 → a_M → Prop, Mt X ad ca LY d yX12_isNumber cX12_isNumber 2 (some FieldType.boolean) [.ref 118, .int x1] M (PT x) (q_i (PT x) Q1) ∧ ∀ v1 M1, Q1 v1 M1 → ((¬ v1 = 0 → WA X ad ca LY RX12 cX12_keeps 4 (some FieldType.boolean) (d + 1) 0 0 (a_E X ad ca LY Post) 14 [(0, .ref 118), (1, .int x1), (2, .int 1), (3, .int 0)] [] M1 (PT x)) ∧ (v1 = 0 → Post (some (.int 0)) M1 (PT x))))) : WA X ad ca LY RX12 cX12_keeps 4 (some FieldType.boolean) (d + 1) 0 0 (a_E X ad ca LY Post) 0 [(0, .ref 118), (1, .int x1)] [] M (PT x) := by
  refine wa_aload_n dX12_keeps_0 0 rfl rfl ?_
  refine wa_iload_n dX12_keeps_1 1 rfl rfl ?_
  obtain ⟨Q1, hM9, hF⟩ := hF
  refine wa_callV [.int x1] dX12_keeps_2 (mmX12_isNumber _ _) mlX12_135 mnX12_isNumber mseX12_isNumber rfl rfl rfl rfl (a_dlt d) rfl rfl hM9 ?_
  rintro r9 M1 P9 ⟨v1, rfl, rfl, hq9⟩
  replace hF := hF v1 M1 hq9
  simp only [Option.toList, List.cons_append, List.nil_append]
  refine wa_if_ne (tgt := 10) dX12_keeps_5 rfl (fun hc => ?_) (fun hc => ?_)
  · replace hF := hF.1 hc
    refine wa_iconst (v := 1) dX12_keeps_10 rfl ?_
    refine wa_istore_n (lv' := [(2, .int 1), (0, .ref 118), (1, .int x1)]) dX12_keeps_11 rfl rfl rfl ?_
    refine wa_iconst (v := 0) dX12_keeps_12 rfl ?_
    refine wa_istore_n (lv' := [(3, .int 0), (2, .int 1), (0, .ref 118), (1, .int x1)]) dX12_keeps_13 rfl rfl rfl ?_
    exact wa_pick [2, 3, 1, 0] rfl hF
  · replace hF := hF.2 hc
    refine wa_iconst (v := 0) dX12_keeps_8 rfl ?_
    exact wa_iret dX12_keeps_9 rfl rfl hF

theorem bX12_keeps_14 {X : a_X} {ad : Nat → Nat} {ca : Nat → ClassId} {d : Nat} {kc ks : Nat} {QF : List Frame → Array Value → State → State → Prop} {x : Nat} {M : a_M} (x1 : Int32) (x2 : Int32) (x3 : Int32)  (hF : (∃ Q1 : Int32 → a_M → Prop, Mt X ad ca LY d yX12_states cX12_states 1 (some FieldType.int) [.ref 118] M (PT x) (q_i (PT x) Q1) ∧ ∀ v1 M1, Q1 v1 M1 → ((v1 ≤ x3 → WA X ad ca LY RX12 cX12_keeps 4 (some FieldType.boolean) (d + 1) kc ks QF 69 [(2, .int x2)] [] M1 (PT x)) ∧ (¬ v1 ≤ x3 → ((x2 = 0 → WA X ad ca LY RX12 cX12_keeps 4 (some FieldType.boolean) (d + 1) kc ks QF 69 [(2, .int x2)] [] M1 (PT x)) ∧ (¬ x2 = 0 → (∃ Q2 : a_M → Prop, Mt X ad ca LY d yX12_actedIs cX12_actedIs 3 none [.ref 118, .int x3] M1 (PT x) (q_v (PT x) Q2) ∧ ∀ M2, Q2 M2 → (∃ Q3 : a_M → Prop, Mt X ad ca LY d yX12_tables cX12_tables 5 none [.ref 118, .int x1] M2 (PT x) (q_v (PT x) Q3) ∧ ∀ M3, Q3 M3 → (∃ Q4 : a_M → Prop, Mt X ad ca LY d yX12_sums cX12_sums 1 none [.ref 118] M3 (PT x) (q_v (PT x) Q4) ∧ ∀ M4, Q4 M4 → (∃ Q5 : a_M → Prop, Mt X ad ca LY d yX12_keepsOther cX12_keepsOther 2 none [.ref 118] M4 (PT x) (q_v (PT x) Q5) ∧ ∀ M5, Q5 M5 → (∃ Q6 : a_M → Prop, Mt X ad ca LY d yX12_actedIs cX12_actedIs 3 none [.ref 118, .int x3] M5 (PT x) (q_v (PT x) Q6) ∧ ∀ M6, Q6 M6 → (∃ Q7 : a_M → Prop, Mt X ad ca LY d yX12_sums cX12_sums 1 none [.ref 118] M6 (PT x) (q_v (PT x) Q7) ∧ ∀ M7, Q7 M7 → (∃ Q8 : a_M → Prop, Mt X ad ca LY d yX12_tables cX12_tables 5 none [.ref 118, .int x1] M7 (PT x) (q_v (PT x) Q8) ∧ ∀ M8, Q8 M8 → (∃ Q9 : Int32 → a_M → Prop, Mt X ad ca LY d yX12_isOther cX12_isOther 3 (some FieldType.boolean) [.ref 118] M8 (PT x) (q_i (PT x) Q9) ∧ ∀ v9 M9, Q9 v9 M9 → WA X ad ca LY RX12 cX12_keeps 4 (some FieldType.boolean) (d + 1) kc ks QF 14 [(0, .ref 118), (1, .int x1), (2, .int v9), (3, .int (x3 + 1))] [] M9 (PT x))))))))))))))) : WA X ad ca LY RX12 cX12_keeps 4 (some FieldType.boolean) (d + 1) kc ks QF 14 [(0, .ref 118), (1, .int x1), (2, .int x2), (3, .int x3)] [] M (PT x) := by
  refine wa_iload_n dX12_keeps_14 3 rfl rfl ?_
  refine wa_aload_n dX12_keeps_15 0 rfl rfl ?_
  obtain ⟨Q1, hM9, hF⟩ := hF
  refine wa_callV [] dX12_keeps_16 (mmX12_states _ _) mlX12_128 mnX12_states mseX12_states rfl rfl rfl rfl (a_dlt d) rfl rfl hM9 ?_
  rintro r9 M1 P9 ⟨v1, rfl, rfl, hq9⟩
  replace hF := hF v1 M1 hq9
  simp only [Option.toList, List.cons_append, List.nil_append]
  refine wa_icmp_ge (tgt := 69) dX12_keeps_19 rfl (fun hc => ?_) (fun hc => ?_)
  · replace hF := hF.1 hc
    exact wa_pick [2] rfl hF
  · replace hF := hF.2 hc
    refine wa_iload_n dX12_keeps_22 2 rfl rfl ?_
    refine wa_if_eq (tgt := 69) dX12_keeps_23 rfl (fun hc => ?_) (fun hc => ?_)
    · replace hF := hF.1 hc
      exact wa_pick [2] rfl hF
    · replace hF := hF.2 hc
      refine wa_aload_n dX12_keeps_26 0 rfl rfl ?_
      refine wa_iload_n dX12_keeps_27 3 rfl rfl ?_
      obtain ⟨Q2, hM9, hF⟩ := hF
      refine wa_callV [.int x3] dX12_keeps_28 (mmX12_actedIs _ _) mlX12_317 mnX12_actedIs mseX12_actedIs rfl rfl rfl rfl (a_dlt d) rfl rfl hM9 ?_
      rintro r9 M2 P9 ⟨rfl, rfl, hq9⟩
      replace hF := hF M2 hq9
      simp only [Option.toList, List.nil_append]
      refine wa_aload_n dX12_keeps_31 0 rfl rfl ?_
      refine wa_iload_n dX12_keeps_32 1 rfl rfl ?_
      obtain ⟨Q3, hM9, hF⟩ := hF
      refine wa_callV [.int x1] dX12_keeps_33 (mmX12_tables _ _) mlX12_323 mnX12_tables mseX12_tables rfl rfl rfl rfl (a_dlt d) rfl rfl hM9 ?_
      rintro r9 M3 P9 ⟨rfl, rfl, hq9⟩
      replace hF := hF M3 hq9
      simp only [Option.toList, List.nil_append]
      refine wa_aload_n dX12_keeps_36 0 rfl rfl ?_
      obtain ⟨Q4, hM9, hF⟩ := hF
      refine wa_callV [] dX12_keeps_37 (mmX12_sums _ _) mlX12_320 mnX12_sums mseX12_sums rfl rfl rfl rfl (a_dlt d) rfl rfl hM9 ?_
      rintro r9 M4 P9 ⟨rfl, rfl, hq9⟩
      replace hF := hF M4 hq9
      simp only [Option.toList, List.nil_append]
      refine wa_aload_n dX12_keeps_40 0 rfl rfl ?_
      obtain ⟨Q5, hM9, hF⟩ := hF
      refine wa_callV [] dX12_keeps_41 (mmX12_keepsOther _ _) mlX12_326 mnX12_keepsOther mseX12_keepsOther rfl rfl rfl rfl (a_dlt d) rfl rfl hM9 ?_
      rintro r9 M5 P9 ⟨rfl, rfl, hq9⟩
      replace hF := hF M5 hq9
      simp only [Option.toList, List.nil_append]
      refine wa_aload_n dX12_keeps_44 0 rfl rfl ?_
      refine wa_iload_n dX12_keeps_45 3 rfl rfl ?_
      obtain ⟨Q6, hM9, hF⟩ := hF
      refine wa_callV [.int x3] dX12_keeps_46 (mmX12_actedIs _ _) mlX12_317 mnX12_actedIs mseX12_actedIs rfl rfl rfl rfl (a_dlt d) rfl rfl hM9 ?_
      rintro r9 M6 P9 ⟨rfl, rfl, hq9⟩
      replace hF := hF M6 hq9
      simp only [Option.toList, List.nil_append]
      refine wa_aload_n dX12_keeps_49 0 rfl rfl ?_
      obtain ⟨Q7, hM9, hF⟩ := hF
      refine wa_callV [] dX12_keeps_50 (mmX12_sums _ _) mlX12_320 mnX12_sums mseX12_sums rfl rfl rfl rfl (a_dlt d) rfl rfl hM9 ?_
      rintro r9 M7 P9 ⟨rfl, rfl, hq9⟩
      replace hF := hF M7 hq9
      simp only [Option.toList, List.nil_append]
      refine wa_aload_n dX12_keeps_53 0 rfl rfl ?_
      refine wa_iload_n dX12_keeps_54 1 rfl rfl ?_
      obtain ⟨Q8, hM9, hF⟩ := hF
      refine wa_callV [.int x1] dX12_keeps_55 (mmX12_tables _ _) mlX12_323 mnX12_tables mseX12_tables rfl rfl rfl rfl (a_dlt d) rfl rfl hM9 ?_
      rintro r9 M8 P9 ⟨rfl, rfl, hq9⟩
      replace hF := hF M8 hq9
      simp only [Option.toList, List.nil_append]
      refine wa_aload_n dX12_keeps_58 0 rfl rfl ?_
      obtain ⟨Q9, hM9, hF⟩ := hF
      refine wa_callV [] dX12_keeps_59 (mmX12_isOther _ _) mlX12_329 mnX12_isOther mseX12_isOther rfl rfl rfl rfl (a_dlt d) rfl rfl hM9 ?_
      rintro r9 M9 P9 ⟨v9, rfl, rfl, hq9⟩
      replace hF := hF v9 M9 hq9
      simp only [Option.toList, List.cons_append, List.nil_append]
      refine wa_istore_n (lv' := [(2, .int v9), (0, .ref 118), (1, .int x1), (3, .int x3)]) dX12_keeps_62 rfl rfl rfl ?_
      refine wa_iinc (v := x3 + 1) (lv' := [(3, .int (x3 + 1)), (2, .int v9), (0, .ref 118), (1, .int x1)]) dX12_keeps_63 3 rfl rfl rfl rfl ?_
      refine wa_goto (tgt := 14) dX12_keeps_66 rfl ?_
      exact wa_pick [2, 3, 1, 0] rfl hF

theorem bX12_keeps_69 {X : a_X} {ad : Nat → Nat} {ca : Nat → ClassId} {d : Nat} {Post : Option Value → a_M → a_P → Prop} {x : Nat} {M : a_M} (x2 : Int32)  (hF : ((x2 = 0 ∨ x2 = 1) ∧ Post (some (.int x2)) M (PT x))) : WA X ad ca LY RX12 cX12_keeps 4 (some FieldType.boolean) (d + 1) 0 0 (a_E X ad ca LY Post) 69 [(2, .int x2)] [] M (PT x) := by
  refine wa_iload_n dX12_keeps_69 0 rfl rfl ?_
  exact wa_iret dX12_keeps_70 rfl (a_bn hF.1) hF.2

theorem eX12_keeps {X : a_X} {ad : Nat → Nat} {ca : Nat → ClassId} {d : Nat} {Post : Option Value → a_M → a_P → Prop} {x : Nat} {M : a_M} (x1 : Int32) (h : WA X ad ca LY RX12 cX12_keeps 4 (some FieldType.boolean) d 0 0 (a_E X ad ca LY Post) 0 [(0, .ref 118), (1, .int x1)] [] M (PT x)) : Mt X ad ca LY d yX12_keeps cX12_keeps 4 (some FieldType.boolean) [.ref 118, .int x1] M (PT x) Post := Mt.of (lv := [(0, .ref 118), (1, .int x1)]) (by decide +kernel) rfl rfl rfl (wa_pick [0, 1] rfl h)

theorem bX12_isSector_0 {X : a_X} {ad : Nat → Nat} {ca : Nat → ClassId} {d : Nat} {Post : Option Value → a_M → a_P → Prop} {x : Nat} {M : a_M} (x1 : Int32)  (hF : (∃ Q1 : Int32 → a_M → Prop, Mt X ad ca LY d yX12_in cX12_in 3 (some FieldType.boolean) [.int x1, .int 0, .int (M 119 0)] M (PT x) (q_i (PT x) Q1) ∧ ∀ v1 M1, Q1 v1 M1 → ((v1 = 0 ∨ v1 = 1) ∧ Post (some (.int v1)) M1 (PT x)))) : WA X ad ca LY RX12 cX12_isSector 2 (some FieldType.boolean) (d + 1) 0 0 (a_E X ad ca LY Post) 0 [(0, .ref 118), (1, .int x1)] [] M (PT x) := by
  refine wa_iload_n dX12_isSector_0 1 rfl rfl ?_
  refine wa_iconst (v := 0) dX12_isSector_1 rfl ?_
  refine wa_aload_n dX12_isSector_2 0 rfl rfl ?_
  refine wa_getr (r := 119) dX12_isSector_3 fkX12_7 rfl rfl rfl ?_
  refine wa_iconst (v := 0) dX12_isSector_6 rfl ?_
  refine wb_iald (j := 0) (v := M 119 0) dX12_isSector_7 rfl (by unfold vp_in; decide) rfl rfl ?_
  obtain ⟨Q1, hM9, hF⟩ := hF
  refine wa_callS [.int x1, .int 0, .int (M 119 0)] dX12_isSector_8 (mmX12_in _ _) mlX12_124 mstX12_in rfl (a_dlt d) rfl rfl hM9 ?_
  rintro r9 M1 P9 ⟨v1, rfl, rfl, hq9⟩
  replace hF := hF v1 M1 hq9
  simp only [Option.toList, List.cons_append, List.nil_append]
  exact wa_iret dX12_isSector_11 rfl (a_bn hF.1) hF.2

theorem eX12_isSector {X : a_X} {ad : Nat → Nat} {ca : Nat → ClassId} {d : Nat} {Post : Option Value → a_M → a_P → Prop} {x : Nat} {M : a_M} (x1 : Int32) (h : WA X ad ca LY RX12 cX12_isSector 2 (some FieldType.boolean) d 0 0 (a_E X ad ca LY Post) 0 [(0, .ref 118), (1, .int x1)] [] M (PT x)) : Mt X ad ca LY d yX12_isSector cX12_isSector 2 (some FieldType.boolean) [.ref 118, .int x1] M (PT x) Post := Mt.of (lv := [(0, .ref 118), (1, .int x1)]) (by decide +kernel) rfl rfl rfl (wa_pick [0, 1] rfl h)

theorem bX12_laysSector_0 {X : a_X} {ad : Nat → Nat} {ca : Nat → ClassId} {d : Nat} {kc ks : Nat} {QF : List Frame → Array Value → State → State → Prop} {x : Nat} {M : a_M} (x1 : Int32)  (hF : WA X ad ca LY RX12 cX12_laysSector 3 none (d + 1) kc ks QF 7 [(0, .ref 118), (1, .int x1), (2, .int 0)] [] (ms M 118 44 0) (PT x)) : WA X ad ca LY RX12 cX12_laysSector 3 none (d + 1) kc ks QF 0 [(0, .ref 118), (1, .int x1)] [] M (PT x) := by
  refine wa_aload_n dX12_laysSector_0 0 rfl rfl ?_
  refine wa_iconst (v := 0) dX12_laysSector_1 rfl ?_
  refine wb_puti dX12_laysSector_2 fkX12_333 fmX12_44 rfl rfl ?_
  refine wa_iconst (v := 0) dX12_laysSector_5 rfl ?_
  refine wa_istore_n (lv' := [(2, .int 0), (0, .ref 118), (1, .int x1)]) dX12_laysSector_6 rfl rfl rfl ?_
  exact wa_pick [1, 2, 0] rfl hF

theorem bX12_laysSector_7 {X : a_X} {ad : Nat → Nat} {ca : Nat → ClassId} {d : Nat} {Post : Option Value → a_M → a_P → Prop} {x : Nat} {M : a_M} (x1 : Int32) (x2 : Int32)  (hF : (∃ Q1 : Int32 → a_M → Prop, Mt X ad ca LY d yX12_states cX12_states 1 (some FieldType.int) [.ref 118] M (PT x) (q_i (PT x) Q1) ∧ ∀ v1 M1, Q1 v1 M1 → ((v1 ≤ x2 → Post none M1 (PT x)) ∧ (¬ v1 ≤ x2 → (vp_in x2 128 ∧ (∃ Q2 : Int32 → a_M → Prop, Mt X ad ca LY d yX12_count cX12_count 3 (some FieldType.int) [.int x2] (ms M1 144 x2.toNatClampNeg (-1)) (PT x) (q_i (PT x) Q2) ∧ ∀ v2 M2, Q2 v2 M2 → ((¬ v2 = x1 → WA X ad ca LY RX12 cX12_laysSector 3 none (d + 1) 0 0 (a_E X ad ca LY Post) 60 [(0, .ref 118), (1, .int x1), (2, .int x2)] [] M2 (PT x)) ∧ (v2 = x1 → (vp_in (M2 118 44) 35 ∧ (vp_in x2 128 ∧ WA X ad ca LY RX12 cX12_laysSector 3 none (d + 1) 0 0 (a_E X ad ca LY Post) 60 [(0, .ref 118), (1, .int x1), (2, .int x2)] [] (ms (ms (ms M2 143 ((M2 118 44).toNatClampNeg) x2) 144 x2.toNatClampNeg (M2 118 44)) 118 44 ((M2 118 44) + 1)) (PT x))))))))))) : WA X ad ca LY RX12 cX12_laysSector 3 none (d + 1) 0 0 (a_E X ad ca LY Post) 7 [(0, .ref 118), (1, .int x1), (2, .int x2)] [] M (PT x) := by
  refine wa_iload_n dX12_laysSector_7 2 rfl rfl ?_
  refine wa_aload_n dX12_laysSector_8 0 rfl rfl ?_
  obtain ⟨Q1, hM9, hF⟩ := hF
  refine wa_callV [] dX12_laysSector_9 (mmX12_states _ _) mlX12_128 mnX12_states mseX12_states rfl rfl rfl rfl (a_dlt d) rfl rfl hM9 ?_
  rintro r9 M1 P9 ⟨v1, rfl, rfl, hq9⟩
  replace hF := hF v1 M1 hq9
  simp only [Option.toList, List.cons_append, List.nil_append]
  refine wa_icmp_ge (tgt := 66) dX12_laysSector_12 rfl (fun hc => ?_) (fun hc => ?_)
  · replace hF := hF.1 hc
    exact wa_vret dX12_laysSector_66 rfl hF
  · replace hF := hF.2 hc
    refine wa_aload_n dX12_laysSector_15 0 rfl rfl ?_
    refine wa_getr (r := 144) dX12_laysSector_16 fkX12_93 rfl rfl rfl ?_
    refine wa_iload_n dX12_laysSector_19 2 rfl rfl ?_
    refine wa_iconst (v := (-1)) dX12_laysSector_20 rfl ?_
    obtain ⟨hi9, hF⟩ := hF
    refine wb_iast (j := x2.toNatClampNeg) dX12_laysSector_21 rfl hi9 rfl ?_
    refine wa_iload_n dX12_laysSector_22 2 rfl rfl ?_
    obtain ⟨Q2, hM9, hF⟩ := hF
    refine wa_callS [.int x2] dX12_laysSector_23 (mmX12_count _ _) mlX12_336 mstX12_count rfl (a_dlt d) rfl rfl hM9 ?_
    rintro r9 M2 P9 ⟨v2, rfl, rfl, hq9⟩
    replace hF := hF v2 M2 hq9
    simp only [Option.toList, List.cons_append, List.nil_append]
    refine wa_iload_n dX12_laysSector_26 1 rfl rfl ?_
    refine wa_icmp_ne (tgt := 60) dX12_laysSector_27 rfl (fun hc => ?_) (fun hc => ?_)
    · replace hF := hF.1 hc
      exact hF
    · replace hF := hF.2 hc
      refine wa_aload_n dX12_laysSector_30 0 rfl rfl ?_
      refine wa_getr (r := 143) dX12_laysSector_31 fkX12_90 rfl rfl rfl ?_
      refine wa_aload_n dX12_laysSector_34 0 rfl rfl ?_
      refine wb_geti (v := M2 118 44) dX12_laysSector_35 fkX12_333 rfl rfl rfl ?_
      refine wa_iload_n dX12_laysSector_38 2 rfl rfl ?_
      obtain ⟨hi9, hF⟩ := hF
      refine wb_iast (j := (M2 118 44).toNatClampNeg) dX12_laysSector_39 rfl hi9 rfl ?_
      refine wa_aload_n dX12_laysSector_40 0 rfl rfl ?_
      refine wa_getr (r := 144) dX12_laysSector_41 fkX12_93 rfl rfl rfl ?_
      refine wa_iload_n dX12_laysSector_44 2 rfl rfl ?_
      refine wa_aload_n dX12_laysSector_45 0 rfl rfl ?_
      refine wb_geti (v := M2 118 44) dX12_laysSector_46 fkX12_333 rfl rfl ((ms_no M2 143 ((M2 118 44).toNatClampNeg) x2 118 44 (fun h9 => absurd h9.1 (by decide))).trans rfl) ?_
      obtain ⟨hi9, hF⟩ := hF
      refine wb_iast (j := x2.toNatClampNeg) dX12_laysSector_49 rfl hi9 rfl ?_
      refine wa_aload_n dX12_laysSector_50 0 rfl rfl ?_
      refine wa_dup dX12_laysSector_51 rfl ?_
      refine wb_geti (v := M2 118 44) dX12_laysSector_52 fkX12_333 rfl rfl ((ms_no (ms M2 143 ((M2 118 44).toNatClampNeg) x2) 144 x2.toNatClampNeg (M2 118 44) 118 44 (fun h9 => absurd h9.1 (by decide))).trans ((ms_no M2 143 ((M2 118 44).toNatClampNeg) x2 118 44 (fun h9 => absurd h9.1 (by decide))).trans rfl)) ?_
      refine wa_iconst (v := 1) dX12_laysSector_55 rfl ?_
      refine wa_iadd dX12_laysSector_56 ?_
      refine wb_puti dX12_laysSector_57 fkX12_333 fmX12_44 rfl rfl ?_
      exact hF

theorem bX12_laysSector_60 {X : a_X} {ad : Nat → Nat} {ca : Nat → ClassId} {d : Nat} {kc ks : Nat} {QF : List Frame → Array Value → State → State → Prop} {x : Nat} {M : a_M} (x1 : Int32) (x2 : Int32)  (hF : WA X ad ca LY RX12 cX12_laysSector 3 none (d + 1) kc ks QF 7 [(0, .ref 118), (1, .int x1), (2, .int (x2 + 1))] [] M (PT x)) : WA X ad ca LY RX12 cX12_laysSector 3 none (d + 1) kc ks QF 60 [(0, .ref 118), (1, .int x1), (2, .int x2)] [] M (PT x) := by
  refine wa_iinc (v := x2 + 1) (lv' := [(2, .int (x2 + 1)), (0, .ref 118), (1, .int x1)]) dX12_laysSector_60 2 rfl rfl rfl rfl ?_
  refine wa_goto (tgt := 7) dX12_laysSector_63 rfl ?_
  exact wa_pick [1, 2, 0] rfl hF

theorem eX12_laysSector {X : a_X} {ad : Nat → Nat} {ca : Nat → ClassId} {d : Nat} {Post : Option Value → a_M → a_P → Prop} {x : Nat} {M : a_M} (x1 : Int32) (h : WA X ad ca LY RX12 cX12_laysSector 3 none d 0 0 (a_E X ad ca LY Post) 0 [(0, .ref 118), (1, .int x1)] [] M (PT x)) : Mt X ad ca LY d yX12_laysSector cX12_laysSector 3 none [.ref 118, .int x1] M (PT x) Post := Mt.of (lv := [(0, .ref 118), (1, .int x1)]) (by decide +kernel) rfl rfl rfl (wa_pick [0, 1] rfl h)

theorem bX12_laysSquare_0 {X : a_X} {ad : Nat → Nat} {ca : Nat → ClassId} {d : Nat} {kc ks : Nat} {QF : List Frame → Array Value → State → State → Prop} {x : Nat} {M : a_M} (x1 : Int32) (x2 : Int32) (x3 : Int32)  (hF : (∃ Q1 : a_M → Prop, Mt X ad ca LY d yX12_laysSector cX12_laysSector 3 none [.ref 118, .int x1] M (PT x) (q_v (PT x) Q1) ∧ ∀ M1, Q1 M1 → WA X ad ca LY RX12 cX12_laysSquare 6 none (d + 1) kc ks QF 8 [(0, .ref 118), (2, .int x2), (3, .int x3), (4, .int 0)] [] M1 (PT x))) : WA X ad ca LY RX12 cX12_laysSquare 6 none (d + 1) kc ks QF 0 [(0, .ref 118), (1, .int x1), (2, .int x2), (3, .int x3)] [] M (PT x) := by
  refine wa_aload_n dX12_laysSquare_0 0 rfl rfl ?_
  refine wa_iload_n dX12_laysSquare_1 1 rfl rfl ?_
  obtain ⟨Q1, hM9, hF⟩ := hF
  refine wa_callV [.int x1] dX12_laysSquare_2 (mmX12_laysSector _ _) mlX12_339 mnX12_laysSector mseX12_laysSector rfl rfl rfl rfl (a_dlt d) rfl rfl hM9 ?_
  rintro r9 M1 P9 ⟨rfl, rfl, hq9⟩
  replace hF := hF M1 hq9
  simp only [Option.toList, List.nil_append]
  refine wa_iconst (v := 0) dX12_laysSquare_5 rfl ?_
  refine wa_istore (lv' := [(4, .int 0), (0, .ref 118), (1, .int x1), (2, .int x2), (3, .int x3)]) dX12_laysSquare_6 rfl rfl ?_
  exact wa_pick [1, 3, 4, 0] rfl hF

theorem bX12_laysSquare_8 {X : a_X} {ad : Nat → Nat} {ca : Nat → ClassId} {d : Nat} {Post : Option Value → a_M → a_P → Prop} {x : Nat} {M : a_M} (x2 : Int32) (x3 : Int32) (x4 : Int32)  (hF : (((M 118 44) ≤ x4 → Post none M (PT x)) ∧ (¬ (M 118 44) ≤ x4 → (vp_in x4 35 ∧ (∃ Q1 : a_M → Prop, Mt X ad ca LY d yX12_actedIs cX12_actedIs 3 none [.ref 118, .int (M 143 x4.toNatClampNeg)] M (PT x) (q_v (PT x) Q1) ∧ ∀ M1, Q1 M1 → (∃ Q2 : a_M → Prop, Mt X ad ca LY d yX12_sumsBy cX12_sumsBy 8 none [.ref 118, .int x2, .int x3] M1 (PT x) (q_v (PT x) Q2) ∧ ∀ M2, Q2 M2 → WA X ad ca LY RX12 cX12_laysSquare 6 none (d + 1) 0 0 (a_E X ad ca LY Post) 37 [(0, .ref 118), (2, .int x2), (3, .int x3), (4, .int x4), (5, .int 0)] [] M2 (PT x))))))) : WA X ad ca LY RX12 cX12_laysSquare 6 none (d + 1) 0 0 (a_E X ad ca LY Post) 8 [(0, .ref 118), (2, .int x2), (3, .int x3), (4, .int x4)] [] M (PT x) := by
  refine wa_iload dX12_laysSquare_8 3 rfl ?_
  refine wa_aload_n dX12_laysSquare_10 0 rfl rfl ?_
  refine wb_geti (v := M 118 44) dX12_laysSquare_11 fkX12_333 rfl rfl rfl ?_
  refine wa_icmp_ge (tgt := 83) dX12_laysSquare_14 rfl (fun hc => ?_) (fun hc => ?_)
  · replace hF := hF.1 hc
    exact wa_vret dX12_laysSquare_83 rfl hF
  · replace hF := hF.2 hc
    refine wa_aload_n dX12_laysSquare_17 0 rfl rfl ?_
    refine wa_aload_n dX12_laysSquare_18 0 rfl rfl ?_
    refine wa_getr (r := 143) dX12_laysSquare_19 fkX12_90 rfl rfl rfl ?_
    refine wa_iload dX12_laysSquare_22 3 rfl ?_
    obtain ⟨hi9, hF⟩ := hF
    refine wb_iald (j := x4.toNatClampNeg) (v := M 143 x4.toNatClampNeg) dX12_laysSquare_24 rfl hi9 rfl rfl ?_
    obtain ⟨Q1, hM9, hF⟩ := hF
    refine wa_callV [.int (M 143 x4.toNatClampNeg)] dX12_laysSquare_25 (mmX12_actedIs _ _) mlX12_317 mnX12_actedIs mseX12_actedIs rfl rfl rfl rfl (a_dlt d) rfl rfl hM9 ?_
    rintro r9 M1 P9 ⟨rfl, rfl, hq9⟩
    replace hF := hF M1 hq9
    simp only [Option.toList, List.nil_append]
    refine wa_aload_n dX12_laysSquare_28 0 rfl rfl ?_
    refine wa_iload_n dX12_laysSquare_29 1 rfl rfl ?_
    refine wa_iload_n dX12_laysSquare_30 2 rfl rfl ?_
    obtain ⟨Q2, hM9, hF⟩ := hF
    refine wa_callV [.int x2, .int x3] dX12_laysSquare_31 (mmX12_sumsBy _ _) mlX12_310 mnX12_sumsBy mseX12_sumsBy rfl rfl rfl rfl (a_dlt d) rfl rfl hM9 ?_
    rintro r9 M2 P9 ⟨rfl, rfl, hq9⟩
    replace hF := hF M2 hq9
    simp only [Option.toList, List.nil_append]
    refine wa_iconst (v := 0) dX12_laysSquare_34 rfl ?_
    refine wa_istore (lv' := [(5, .int 0), (0, .ref 118), (2, .int x2), (3, .int x3), (4, .int x4)]) dX12_laysSquare_35 rfl rfl ?_
    exact wa_pick [1, 2, 3, 4, 0] rfl hF

theorem bX12_laysSquare_37 {X : a_X} {ad : Nat → Nat} {ca : Nat → ClassId} {d : Nat} {kc ks : Nat} {QF : List Frame → Array Value → State → State → Prop} {x : Nat} {M : a_M} (x2 : Int32) (x3 : Int32) (x4 : Int32) (x5 : Int32)  (hF : (((M 118 44) ≤ x5 → WA X ad ca LY RX12 cX12_laysSquare 6 none (d + 1) kc ks QF 8 [(0, .ref 118), (2, .int x2), (3, .int x3), (4, .int (x4 + 1))] [] M (PT x)) ∧ (¬ (M 118 44) ≤ x5 → (vp_in x5 35 ∧ (vp_in (M 143 x5.toNatClampNeg) 128 ∧ (vp_in ((35 * x5) + x4) 1225 ∧ WA X ad ca LY RX12 cX12_laysSquare 6 none (d + 1) kc ks QF 37 [(0, .ref 118), (2, .int x2), (3, .int x3), (4, .int x4), (5, .int (x5 + 1))] [] (ms M 145 (((35 * x5) + x4).toNatClampNeg) (M 140 ((M 143 x5.toNatClampNeg).toNatClampNeg))) (PT x))))))) : WA X ad ca LY RX12 cX12_laysSquare 6 none (d + 1) kc ks QF 37 [(0, .ref 118), (2, .int x2), (3, .int x3), (4, .int x4), (5, .int x5)] [] M (PT x) := by
  refine wa_iload dX12_laysSquare_37 4 rfl ?_
  refine wa_aload_n dX12_laysSquare_39 0 rfl rfl ?_
  refine wb_geti (v := M 118 44) dX12_laysSquare_40 fkX12_333 rfl rfl rfl ?_
  refine wa_icmp_ge (tgt := 77) dX12_laysSquare_43 rfl (fun hc => ?_) (fun hc => ?_)
  · replace hF := hF.1 hc
    refine wa_iinc (v := x4 + 1) (lv' := [(4, .int (x4 + 1)), (0, .ref 118), (2, .int x2), (3, .int x3), (5, .int x5)]) dX12_laysSquare_77 3 rfl rfl rfl rfl ?_
    refine wa_goto (tgt := 8) dX12_laysSquare_80 rfl ?_
    exact wa_pick [1, 2, 3, 0] rfl hF
  · replace hF := hF.2 hc
    refine wa_aload_n dX12_laysSquare_46 0 rfl rfl ?_
    refine wa_getr (r := 145) dX12_laysSquare_47 fkX12_96 rfl rfl rfl ?_
    refine wa_bipush (v := 35) dX12_laysSquare_50 rfl ?_
    refine wa_iload dX12_laysSquare_52 4 rfl ?_
    refine wa_imul dX12_laysSquare_54 ?_
    refine wa_iload dX12_laysSquare_55 3 rfl ?_
    refine wa_iadd dX12_laysSquare_57 ?_
    refine wa_aload_n dX12_laysSquare_58 0 rfl rfl ?_
    refine wa_getr (r := 140) dX12_laysSquare_59 fkX12_81 rfl rfl rfl ?_
    refine wa_aload_n dX12_laysSquare_62 0 rfl rfl ?_
    refine wa_getr (r := 143) dX12_laysSquare_63 fkX12_90 rfl rfl rfl ?_
    refine wa_iload dX12_laysSquare_66 4 rfl ?_
    obtain ⟨hi9, hF⟩ := hF
    refine wb_iald (j := x5.toNatClampNeg) (v := M 143 x5.toNatClampNeg) dX12_laysSquare_68 rfl hi9 rfl rfl ?_
    obtain ⟨hi9, hF⟩ := hF
    refine wb_iald (j := (M 143 x5.toNatClampNeg).toNatClampNeg) (v := M 140 ((M 143 x5.toNatClampNeg).toNatClampNeg)) dX12_laysSquare_69 rfl hi9 rfl rfl ?_
    obtain ⟨hi9, hF⟩ := hF
    refine wb_iast (j := ((35 * x5) + x4).toNatClampNeg) dX12_laysSquare_70 rfl hi9 rfl ?_
    refine wa_iinc (v := x5 + 1) (lv' := [(5, .int (x5 + 1)), (0, .ref 118), (2, .int x2), (3, .int x3), (4, .int x4)]) dX12_laysSquare_71 4 rfl rfl rfl rfl ?_
    refine wa_goto (tgt := 37) dX12_laysSquare_74 rfl ?_
    exact wa_pick [1, 2, 3, 4, 0] rfl hF

theorem eX12_laysSquare {X : a_X} {ad : Nat → Nat} {ca : Nat → ClassId} {d : Nat} {Post : Option Value → a_M → a_P → Prop} {x : Nat} {M : a_M} (x1 : Int32) (x2 : Int32) (x3 : Int32) (h : WA X ad ca LY RX12 cX12_laysSquare 6 none d 0 0 (a_E X ad ca LY Post) 0 [(0, .ref 118), (1, .int x1), (2, .int x2), (3, .int x3)] [] M (PT x)) : Mt X ad ca LY d yX12_laysSquare cX12_laysSquare 6 none [.ref 118, .int x1, .int x2, .int x3] M (PT x) Post := Mt.of (lv := [(0, .ref 118), (1, .int x1), (2, .int x2), (3, .int x3)]) (by decide +kernel) rfl rfl rfl (wa_pick [0, 1, 2, 3] rfl h)

theorem bX12_rootOf_0 {X : a_X} {ad : Nat → Nat} {ca : Nat → ClassId} {d : Nat} {kc ks : Nat} {QF : List Frame → Array Value → State → State → Prop} {x : Nat} {M : a_M}   (hF : WA X ad ca LY RX12 cX12_rootOf 4 (some FieldType.int) (d + 1) kc ks QF 2 [(0, .ref 118), (1, .int 1)] [] M (PT x)) : WA X ad ca LY RX12 cX12_rootOf 4 (some FieldType.int) (d + 1) kc ks QF 0 [(0, .ref 118)] [] M (PT x) := by
  refine wa_iconst (v := 1) dX12_rootOf_0 rfl ?_
  refine wa_istore_n (lv' := [(1, .int 1), (0, .ref 118)]) dX12_rootOf_1 rfl rfl rfl ?_
  exact wa_pick [1, 0] rfl hF

theorem bX12_rootOf_2 {X : a_X} {ad : Nat → Nat} {ca : Nat → ClassId} {d : Nat} {Post : Option Value → a_M → a_P → Prop} {x : Nat} {M : a_M} (x1 : Int32)  (hF : (((M 119 2) ≤ x1 → Post (some (.int (-1))) M (PT x)) ∧ (¬ (M 119 2) ≤ x1 → WA X ad ca LY RX12 cX12_rootOf 4 (some FieldType.int) (d + 1) 0 0 (a_E X ad ca LY Post) 16 [(0, .ref 118), (1, .int x1), (2, .int x1), (3, .int 1)] [] M (PT x)))) : WA X ad ca LY RX12 cX12_rootOf 4 (some FieldType.int) (d + 1) 0 0 (a_E X ad ca LY Post) 2 [(0, .ref 118), (1, .int x1)] [] M (PT x) := by
  refine wa_iload_n dX12_rootOf_2 1 rfl rfl ?_
  refine wa_aload_n dX12_rootOf_3 0 rfl rfl ?_
  refine wa_getr (r := 119) dX12_rootOf_4 fkX12_7 rfl rfl rfl ?_
  refine wa_iconst (v := 2) dX12_rootOf_7 rfl ?_
  refine wb_iald (j := 2) (v := M 119 2) dX12_rootOf_8 rfl (by unfold vp_in; decide) rfl rfl ?_
  refine wa_icmp_ge (tgt := 71) dX12_rootOf_9 rfl (fun hc => ?_) (fun hc => ?_)
  · replace hF := hF.1 hc
    refine wa_iconst (v := (-1)) dX12_rootOf_71 rfl ?_
    exact wa_iret dX12_rootOf_72 rfl rfl hF
  · replace hF := hF.2 hc
    refine wa_iload_n dX12_rootOf_12 1 rfl rfl ?_
    refine wa_istore_n (lv' := [(2, .int x1), (0, .ref 118), (1, .int x1)]) dX12_rootOf_13 rfl rfl rfl ?_
    refine wa_iconst (v := 1) dX12_rootOf_14 rfl ?_
    refine wa_istore_n (lv' := [(3, .int 1), (2, .int x1), (0, .ref 118), (1, .int x1)]) dX12_rootOf_15 rfl rfl rfl ?_
    exact wa_pick [2, 3, 1, 0] rfl hF

theorem bX12_rootOf_16 {X : a_X} {ad : Nat → Nat} {ca : Nat → ClassId} {d : Nat} {kc ks : Nat} {QF : List Frame → Array Value → State → State → Prop} {x : Nat} {M : a_M} (x1 : Int32) (x2 : Int32) (x3 : Int32)  (hF : ((x2 = 1 → WA X ad ca LY RX12 cX12_rootOf 4 (some FieldType.int) (d + 1) kc ks QF 48 [(0, .ref 118), (1, .int x1), (2, .int x2), (3, .int x3)] [] M (PT x)) ∧ (¬ x2 = 1 → (((M 119 0) ≤ x3 → WA X ad ca LY RX12 cX12_rootOf 4 (some FieldType.int) (d + 1) kc ks QF 48 [(0, .ref 118), (1, .int x1), (2, .int x2), (3, .int x3)] [] M (PT x)) ∧ (¬ (M 119 0) ≤ x3 → (¬ (M 119 2) = 0 ∧ WA X ad ca LY RX12 cX12_rootOf 4 (some FieldType.int) (d + 1) kc ks QF 16 [(0, .ref 118), (1, .int x1), (2, .int ((x2 * x1) - (x2 * x1) / (M 119 2) * (M 119 2))), (3, .int (x3 + 1))] [] M (PT x))))))) : WA X ad ca LY RX12 cX12_rootOf 4 (some FieldType.int) (d + 1) kc ks QF 16 [(0, .ref 118), (1, .int x1), (2, .int x2), (3, .int x3)] [] M (PT x) := by
  refine wa_iload_n dX12_rootOf_16 2 rfl rfl ?_
  refine wa_iconst (v := 1) dX12_rootOf_17 rfl ?_
  refine wa_icmp_eq (tgt := 48) dX12_rootOf_18 rfl (fun hc => ?_) (fun hc => ?_)
  · replace hF := hF.1 hc
    exact hF
  · replace hF := hF.2 hc
    refine wa_iload_n dX12_rootOf_21 3 rfl rfl ?_
    refine wa_aload_n dX12_rootOf_22 0 rfl rfl ?_
    refine wa_getr (r := 119) dX12_rootOf_23 fkX12_7 rfl rfl rfl ?_
    refine wa_iconst (v := 0) dX12_rootOf_26 rfl ?_
    refine wb_iald (j := 0) (v := M 119 0) dX12_rootOf_27 rfl (by unfold vp_in; decide) rfl rfl ?_
    refine wa_icmp_ge (tgt := 48) dX12_rootOf_28 rfl (fun hc => ?_) (fun hc => ?_)
    · replace hF := hF.1 hc
      exact hF
    · replace hF := hF.2 hc
      refine wa_iload_n dX12_rootOf_31 2 rfl rfl ?_
      refine wa_iload_n dX12_rootOf_32 1 rfl rfl ?_
      refine wa_imul dX12_rootOf_33 ?_
      refine wa_aload_n dX12_rootOf_34 0 rfl rfl ?_
      refine wa_getr (r := 119) dX12_rootOf_35 fkX12_7 rfl rfl rfl ?_
      refine wa_iconst (v := 2) dX12_rootOf_38 rfl ?_
      refine wb_iald (j := 2) (v := M 119 2) dX12_rootOf_39 rfl (by unfold vp_in; decide) rfl rfl ?_
      obtain ⟨hn9, hF⟩ := hF
      refine wa_irem dX12_rootOf_40 hn9 ?_
      refine wa_istore_n (lv' := [(2, .int ((x2 * x1) - (x2 * x1) / (M 119 2) * (M 119 2))), (0, .ref 118), (1, .int x1), (3, .int x3)]) dX12_rootOf_41 rfl rfl rfl ?_
      refine wa_iinc (v := x3 + 1) (lv' := [(3, .int (x3 + 1)), (2, .int ((x2 * x1) - (x2 * x1) / (M 119 2) * (M 119 2))), (0, .ref 118), (1, .int x1)]) dX12_rootOf_42 3 rfl rfl rfl rfl ?_
      refine wa_goto (tgt := 16) dX12_rootOf_45 rfl ?_
      exact wa_pick [2, 3, 1, 0] rfl hF

theorem bX12_rootOf_48 {X : a_X} {ad : Nat → Nat} {ca : Nat → ClassId} {d : Nat} {Post : Option Value → a_M → a_P → Prop} {x : Nat} {M : a_M} (x1 : Int32) (x2 : Int32) (x3 : Int32)  (hF : ((¬ x2 = 1 → WA X ad ca LY RX12 cX12_rootOf 4 (some FieldType.int) (d + 1) 0 0 (a_E X ad ca LY Post) 65 [(0, .ref 118), (1, .int x1)] [] M (PT x)) ∧ (x2 = 1 → ((¬ x3 = (M 119 0) → WA X ad ca LY RX12 cX12_rootOf 4 (some FieldType.int) (d + 1) 0 0 (a_E X ad ca LY Post) 65 [(0, .ref 118), (1, .int x1)] [] M (PT x)) ∧ (x3 = (M 119 0) → Post (some (.int x1)) M (PT x)))))) : WA X ad ca LY RX12 cX12_rootOf 4 (some FieldType.int) (d + 1) 0 0 (a_E X ad ca LY Post) 48 [(0, .ref 118), (1, .int x1), (2, .int x2), (3, .int x3)] [] M (PT x) := by
  refine wa_iload_n dX12_rootOf_48 2 rfl rfl ?_
  refine wa_iconst (v := 1) dX12_rootOf_49 rfl ?_
  refine wa_icmp_ne (tgt := 65) dX12_rootOf_50 rfl (fun hc => ?_) (fun hc => ?_)
  · replace hF := hF.1 hc
    exact wa_pick [0, 1] rfl hF
  · replace hF := hF.2 hc
    refine wa_iload_n dX12_rootOf_53 3 rfl rfl ?_
    refine wa_aload_n dX12_rootOf_54 0 rfl rfl ?_
    refine wa_getr (r := 119) dX12_rootOf_55 fkX12_7 rfl rfl rfl ?_
    refine wa_iconst (v := 0) dX12_rootOf_58 rfl ?_
    refine wb_iald (j := 0) (v := M 119 0) dX12_rootOf_59 rfl (by unfold vp_in; decide) rfl rfl ?_
    refine wa_icmp_ne (tgt := 65) dX12_rootOf_60 rfl (fun hc => ?_) (fun hc => ?_)
    · replace hF := hF.1 hc
      exact wa_pick [0, 1] rfl hF
    · replace hF := hF.2 hc
      refine wa_iload_n dX12_rootOf_63 1 rfl rfl ?_
      exact wa_iret dX12_rootOf_64 rfl rfl hF

theorem bX12_rootOf_65 {X : a_X} {ad : Nat → Nat} {ca : Nat → ClassId} {d : Nat} {kc ks : Nat} {QF : List Frame → Array Value → State → State → Prop} {x : Nat} {M : a_M} (x1 : Int32)  (hF : WA X ad ca LY RX12 cX12_rootOf 4 (some FieldType.int) (d + 1) kc ks QF 2 [(0, .ref 118), (1, .int (x1 + 1))] [] M (PT x)) : WA X ad ca LY RX12 cX12_rootOf 4 (some FieldType.int) (d + 1) kc ks QF 65 [(0, .ref 118), (1, .int x1)] [] M (PT x) := by
  refine wa_iinc (v := x1 + 1) (lv' := [(1, .int (x1 + 1)), (0, .ref 118)]) dX12_rootOf_65 1 rfl rfl rfl rfl ?_
  refine wa_goto (tgt := 2) dX12_rootOf_68 rfl ?_
  exact wa_pick [1, 0] rfl hF

theorem eX12_rootOf {X : a_X} {ad : Nat → Nat} {ca : Nat → ClassId} {d : Nat} {Post : Option Value → a_M → a_P → Prop} {x : Nat} {M : a_M}  (h : WA X ad ca LY RX12 cX12_rootOf 4 (some FieldType.int) d 0 0 (a_E X ad ca LY Post) 0 [(0, .ref 118)] [] M (PT x)) : Mt X ad ca LY d yX12_rootOf cX12_rootOf 4 (some FieldType.int) [.ref 118] M (PT x) Post := Mt.of (lv := [(0, .ref 118)]) (by decide +kernel) rfl rfl rfl (wa_pick [0] rfl h)

theorem bX12_root_0 {X : a_X} {ad : Nat → Nat} {ca : Nat → ClassId} {d : Nat} {Post : Option Value → a_M → a_P → Prop} {x : Nat} {M : a_M}   (hF : (∃ Q1 : Int32 → a_M → Prop, Mt X ad ca LY d yX12_rootOf cX12_rootOf 4 (some FieldType.int) [.ref 118] M (PT x) (q_i (PT x) Q1) ∧ ∀ v1 M1, Q1 v1 M1 → Post (some (.int v1)) M1 (PT x))) : WA X ad ca LY RX12 cX12_root 1 (some FieldType.int) (d + 1) 0 0 (a_E X ad ca LY Post) 0 [(0, .ref 118)] [] M (PT x) := by
  refine wa_aload_n dX12_root_0 0 rfl rfl ?_
  obtain ⟨Q1, hM9, hF⟩ := hF
  refine wa_callV [] dX12_root_1 (mmX12_rootOf _ _) mlX12_342 mnX12_rootOf mseX12_rootOf rfl rfl rfl rfl (a_dlt d) rfl rfl hM9 ?_
  rintro r9 M1 P9 ⟨v1, rfl, rfl, hq9⟩
  replace hF := hF v1 M1 hq9
  simp only [Option.toList, List.cons_append, List.nil_append]
  exact wa_iret dX12_root_4 rfl rfl hF

theorem eX12_root {X : a_X} {ad : Nat → Nat} {ca : Nat → ClassId} {d : Nat} {Post : Option Value → a_M → a_P → Prop} {x : Nat} {M : a_M}  (h : WA X ad ca LY RX12 cX12_root 1 (some FieldType.int) d 0 0 (a_E X ad ca LY Post) 0 [(0, .ref 118)] [] M (PT x)) : Mt X ad ca LY d yX12_root cX12_root 1 (some FieldType.int) [.ref 118] M (PT x) Post := Mt.of (lv := [(0, .ref 118)]) (by decide +kernel) rfl rfl rfl (wa_pick [0] rfl h)

theorem bX12_roundOf_0 {X : a_X} {ad : Nat → Nat} {ca : Nat → ClassId} {d : Nat} {kc ks : Nat} {QF : List Frame → Array Value → State → State → Prop} {x : Nat} {M : a_M} (x1 : Int32)  (hF : (∃ Q1 : Int32 → a_M → Prop, Mt X ad ca LY d yX12_shifted cX12_shifted 2 (some FieldType.int) [.ref 118, .int x1] M (PT x) (q_i (PT x) Q1) ∧ ∀ v1 M1, Q1 v1 M1 → WA X ad ca LY RX12 cX12_roundOf 4 (some FieldType.int) (d + 1) kc ks QF 8 [(0, .ref 118), (1, .int x1), (2, .int 1), (3, .int v1)] [] M1 (PT x))) : WA X ad ca LY RX12 cX12_roundOf 4 (some FieldType.int) (d + 1) kc ks QF 0 [(0, .ref 118), (1, .int x1)] [] M (PT x) := by
  refine wa_iconst (v := 1) dX12_roundOf_0 rfl ?_
  refine wa_istore_n (lv' := [(2, .int 1), (0, .ref 118), (1, .int x1)]) dX12_roundOf_1 rfl rfl rfl ?_
  refine wa_aload_n dX12_roundOf_2 1 rfl rfl ?_
  refine wa_iload_n dX12_roundOf_3 2 rfl rfl ?_
  obtain ⟨Q1, hM9, hF⟩ := hF
  refine wa_callV [.int x1] dX12_roundOf_4 (mmX12_shifted _ _) mlX12_345 mnX12_shifted mseX12_shifted rfl rfl rfl rfl (a_dlt d) rfl rfl hM9 ?_
  rintro r9 M1 P9 ⟨v1, rfl, rfl, hq9⟩
  replace hF := hF v1 M1 hq9
  simp only [Option.toList, List.cons_append, List.nil_append]
  refine wa_istore_n (lv' := [(3, .int v1), (2, .int 1), (0, .ref 118), (1, .int x1)]) dX12_roundOf_7 rfl rfl rfl ?_
  exact wa_pick [2, 3, 1, 0] rfl hF

theorem bX12_roundOf_8 {X : a_X} {ad : Nat → Nat} {ca : Nat → ClassId} {d : Nat} {Post : Option Value → a_M → a_P → Prop} {x : Nat} {M : a_M} (x1 : Int32) (x2 : Int32) (x3 : Int32)  (hF : ((x3 = x1 → Post (some (.int x2)) M (PT x)) ∧ (¬ x3 = x1 → (∃ Q1 : Int32 → a_M → Prop, Mt X ad ca LY d yX12_shifted cX12_shifted 2 (some FieldType.int) [.ref 118, .int x3] M (PT x) (q_i (PT x) Q1) ∧ ∀ v1 M1, Q1 v1 M1 → WA X ad ca LY RX12 cX12_roundOf 4 (some FieldType.int) (d + 1) 0 0 (a_E X ad ca LY Post) 8 [(0, .ref 118), (1, .int x1), (2, .int (x2 + 1)), (3, .int v1)] [] M1 (PT x))))) : WA X ad ca LY RX12 cX12_roundOf 4 (some FieldType.int) (d + 1) 0 0 (a_E X ad ca LY Post) 8 [(0, .ref 118), (1, .int x1), (2, .int x2), (3, .int x3)] [] M (PT x) := by
  refine wa_iload_n dX12_roundOf_8 3 rfl rfl ?_
  refine wa_iload_n dX12_roundOf_9 1 rfl rfl ?_
  refine wa_icmp_eq (tgt := 25) dX12_roundOf_10 rfl (fun hc => ?_) (fun hc => ?_)
  · replace hF := hF.1 hc
    refine wa_iload_n dX12_roundOf_25 2 rfl rfl ?_
    exact wa_iret dX12_roundOf_26 rfl rfl hF
  · replace hF := hF.2 hc
    refine wa_iinc (v := x2 + 1) (lv' := [(2, .int (x2 + 1)), (0, .ref 118), (1, .int x1), (3, .int x3)]) dX12_roundOf_13 2 rfl rfl rfl rfl ?_
    refine wa_aload_n dX12_roundOf_16 1 rfl rfl ?_
    refine wa_iload_n dX12_roundOf_17 3 rfl rfl ?_
    obtain ⟨Q1, hM9, hF⟩ := hF
    refine wa_callV [.int x3] dX12_roundOf_18 (mmX12_shifted _ _) mlX12_345 mnX12_shifted mseX12_shifted rfl rfl rfl rfl (a_dlt d) rfl rfl hM9 ?_
    rintro r9 M1 P9 ⟨v1, rfl, rfl, hq9⟩
    replace hF := hF v1 M1 hq9
    simp only [Option.toList, List.cons_append, List.nil_append]
    refine wa_istore_n (lv' := [(3, .int v1), (2, .int (x2 + 1)), (0, .ref 118), (1, .int x1)]) dX12_roundOf_21 rfl rfl rfl ?_
    refine wa_goto (tgt := 8) dX12_roundOf_22 rfl ?_
    exact wa_pick [2, 3, 1, 0] rfl hF

theorem eX12_roundOf {X : a_X} {ad : Nat → Nat} {ca : Nat → ClassId} {d : Nat} {Post : Option Value → a_M → a_P → Prop} {x : Nat} {M : a_M} (x1 : Int32) (h : WA X ad ca LY RX12 cX12_roundOf 4 (some FieldType.int) d 0 0 (a_E X ad ca LY Post) 0 [(0, .ref 118), (1, .int x1)] [] M (PT x)) : Mt X ad ca LY d yX12_roundOf cX12_roundOf 4 (some FieldType.int) [.ref 118, .int x1] M (PT x) Post := Mt.of (lv := [(0, .ref 118), (1, .int x1)]) (by decide +kernel) rfl rfl rfl (wa_pick [0, 1] rfl h)

theorem bX12_leastOf_0 {X : a_X} {ad : Nat → Nat} {ca : Nat → ClassId} {d : Nat} {kc ks : Nat} {QF : List Frame → Array Value → State → State → Prop} {x : Nat} {M : a_M} (x1 : Int32)  (hF : (∃ Q1 : Int32 → a_M → Prop, Mt X ad ca LY d yX12_shifted cX12_shifted 2 (some FieldType.int) [.ref 118, .int x1] M (PT x) (q_i (PT x) Q1) ∧ ∀ v1 M1, Q1 v1 M1 → WA X ad ca LY RX12 cX12_leastOf 4 (some FieldType.int) (d + 1) kc ks QF 8 [(0, .ref 118), (1, .int x1), (2, .int x1), (3, .int v1)] [] M1 (PT x))) : WA X ad ca LY RX12 cX12_leastOf 4 (some FieldType.int) (d + 1) kc ks QF 0 [(0, .ref 118), (1, .int x1)] [] M (PT x) := by
  refine wa_iload_n dX12_leastOf_0 1 rfl rfl ?_
  refine wa_istore_n (lv' := [(2, .int x1), (0, .ref 118), (1, .int x1)]) dX12_leastOf_1 rfl rfl rfl ?_
  refine wa_aload_n dX12_leastOf_2 1 rfl rfl ?_
  refine wa_iload_n dX12_leastOf_3 2 rfl rfl ?_
  obtain ⟨Q1, hM9, hF⟩ := hF
  refine wa_callV [.int x1] dX12_leastOf_4 (mmX12_shifted _ _) mlX12_345 mnX12_shifted mseX12_shifted rfl rfl rfl rfl (a_dlt d) rfl rfl hM9 ?_
  rintro r9 M1 P9 ⟨v1, rfl, rfl, hq9⟩
  replace hF := hF v1 M1 hq9
  simp only [Option.toList, List.cons_append, List.nil_append]
  refine wa_istore_n (lv' := [(3, .int v1), (2, .int x1), (0, .ref 118), (1, .int x1)]) dX12_leastOf_7 rfl rfl rfl ?_
  exact wa_pick [2, 3, 1, 0] rfl hF

theorem bX12_leastOf_8 {X : a_X} {ad : Nat → Nat} {ca : Nat → ClassId} {d : Nat} {Post : Option Value → a_M → a_P → Prop} {x : Nat} {M : a_M} (x1 : Int32) (x2 : Int32) (x3 : Int32)  (hF : ((x3 = x1 → Post (some (.int x2)) M (PT x)) ∧ (¬ x3 = x1 → ((x2 ≤ x3 → (∃ Q1 : Int32 → a_M → Prop, Mt X ad ca LY d yX12_shifted cX12_shifted 2 (some FieldType.int) [.ref 118, .int x3] M (PT x) (q_i (PT x) Q1) ∧ ∀ v1 M1, Q1 v1 M1 → WA X ad ca LY RX12 cX12_leastOf 4 (some FieldType.int) (d + 1) 0 0 (a_E X ad ca LY Post) 8 [(0, .ref 118), (1, .int x1), (2, .int x2), (3, .int v1)] [] M1 (PT x))) ∧ (¬ x2 ≤ x3 → (∃ Q2 : Int32 → a_M → Prop, Mt X ad ca LY d yX12_shifted cX12_shifted 2 (some FieldType.int) [.ref 118, .int x3] M (PT x) (q_i (PT x) Q2) ∧ ∀ v2 M2, Q2 v2 M2 → WA X ad ca LY RX12 cX12_leastOf 4 (some FieldType.int) (d + 1) 0 0 (a_E X ad ca LY Post) 8 [(0, .ref 118), (1, .int x1), (2, .int x3), (3, .int v2)] [] M2 (PT x))))))) : WA X ad ca LY RX12 cX12_leastOf 4 (some FieldType.int) (d + 1) 0 0 (a_E X ad ca LY Post) 8 [(0, .ref 118), (1, .int x1), (2, .int x2), (3, .int x3)] [] M (PT x) := by
  refine wa_iload_n dX12_leastOf_8 3 rfl rfl ?_
  refine wa_iload_n dX12_leastOf_9 1 rfl rfl ?_
  refine wa_icmp_eq (tgt := 33) dX12_leastOf_10 rfl (fun hc => ?_) (fun hc => ?_)
  · replace hF := hF.1 hc
    refine wa_iload_n dX12_leastOf_33 2 rfl rfl ?_
    exact wa_iret dX12_leastOf_34 rfl rfl hF
  · replace hF := hF.2 hc
    refine wa_iload_n dX12_leastOf_13 3 rfl rfl ?_
    refine wa_iload_n dX12_leastOf_14 2 rfl rfl ?_
    refine wa_icmp_ge (tgt := 22) dX12_leastOf_15 rfl (fun hc => ?_) (fun hc => ?_)
    · replace hF := hF.1 hc
      refine wa_iload_n dX12_leastOf_22 2 rfl rfl ?_
      refine wa_istore_n (lv' := [(2, .int x2), (0, .ref 118), (1, .int x1), (3, .int x3)]) dX12_leastOf_23 rfl rfl rfl ?_
      refine wa_aload_n dX12_leastOf_24 1 rfl rfl ?_
      refine wa_iload_n dX12_leastOf_25 3 rfl rfl ?_
      obtain ⟨Q1, hM9, hF⟩ := hF
      refine wa_callV [.int x3] dX12_leastOf_26 (mmX12_shifted _ _) mlX12_345 mnX12_shifted mseX12_shifted rfl rfl rfl rfl (a_dlt d) rfl rfl hM9 ?_
      rintro r9 M1 P9 ⟨v1, rfl, rfl, hq9⟩
      replace hF := hF v1 M1 hq9
      simp only [Option.toList, List.cons_append, List.nil_append]
      refine wa_istore_n (lv' := [(3, .int v1), (2, .int x2), (0, .ref 118), (1, .int x1)]) dX12_leastOf_29 rfl rfl rfl ?_
      refine wa_goto (tgt := 8) dX12_leastOf_30 rfl ?_
      exact wa_pick [2, 3, 1, 0] rfl hF
    · replace hF := hF.2 hc
      refine wa_iload_n dX12_leastOf_18 3 rfl rfl ?_
      refine wa_goto (tgt := 23) dX12_leastOf_19 rfl ?_
      refine wa_istore_n (lv' := [(2, .int x3), (0, .ref 118), (1, .int x1), (3, .int x3)]) dX12_leastOf_23 rfl rfl rfl ?_
      refine wa_aload_n dX12_leastOf_24 1 rfl rfl ?_
      refine wa_iload_n dX12_leastOf_25 3 rfl rfl ?_
      obtain ⟨Q2, hM9, hF⟩ := hF
      refine wa_callV [.int x3] dX12_leastOf_26 (mmX12_shifted _ _) mlX12_345 mnX12_shifted mseX12_shifted rfl rfl rfl rfl (a_dlt d) rfl rfl hM9 ?_
      rintro r9 M2 P9 ⟨v2, rfl, rfl, hq9⟩
      replace hF := hF v2 M2 hq9
      simp only [Option.toList, List.cons_append, List.nil_append]
      refine wa_istore_n (lv' := [(3, .int v2), (2, .int x3), (0, .ref 118), (1, .int x1)]) dX12_leastOf_29 rfl rfl rfl ?_
      refine wa_goto (tgt := 8) dX12_leastOf_30 rfl ?_
      exact wa_pick [2, 3, 1, 0] rfl hF

theorem eX12_leastOf {X : a_X} {ad : Nat → Nat} {ca : Nat → ClassId} {d : Nat} {Post : Option Value → a_M → a_P → Prop} {x : Nat} {M : a_M} (x1 : Int32) (h : WA X ad ca LY RX12 cX12_leastOf 4 (some FieldType.int) d 0 0 (a_E X ad ca LY Post) 0 [(0, .ref 118), (1, .int x1)] [] M (PT x)) : Mt X ad ca LY d yX12_leastOf cX12_leastOf 4 (some FieldType.int) [.ref 118, .int x1] M (PT x) Post := Mt.of (lv := [(0, .ref 118), (1, .int x1)]) (by decide +kernel) rfl rfl rfl (wa_pick [0, 1] rfl h)

theorem bX12_isTurn_0 {X : a_X} {ad : Nat → Nat} {ca : Nat → ClassId} {d : Nat} {Post : Option Value → a_M → a_P → Prop} {x : Nat} {M : a_M} (x1 : Int32)  (hF : (∃ Q1 : Int32 → a_M → Prop, Mt X ad ca LY d yX12_in cX12_in 3 (some FieldType.boolean) [.int x1, .int 0, .int ((M 119 0) - 1)] M (PT x) (q_i (PT x) Q1) ∧ ∀ v1 M1, Q1 v1 M1 → ((v1 = 0 → WA X ad ca LY RX12 cX12_isTurn 2 (some FieldType.boolean) (d + 1) 0 0 (a_E X ad ca LY Post) 28 [] [] M1 (PT x)) ∧ (¬ v1 = 0 → (∃ Q2 : Int32 → a_M → Prop, Mt X ad ca LY d yX12_rootOf cX12_rootOf 4 (some FieldType.int) [.ref 118] M1 (PT x) (q_i (PT x) Q2) ∧ ∀ v2 M2, Q2 v2 M2 → ((v2 = (-1) → WA X ad ca LY RX12 cX12_isTurn 2 (some FieldType.boolean) (d + 1) 0 0 (a_E X ad ca LY Post) 28 [] [] M2 (PT x)) ∧ (¬ v2 = (-1) → Post (some (.int 1)) M2 (PT x)))))))) : WA X ad ca LY RX12 cX12_isTurn 2 (some FieldType.boolean) (d + 1) 0 0 (a_E X ad ca LY Post) 0 [(0, .ref 118), (1, .int x1)] [] M (PT x) := by
  refine wa_iload_n dX12_isTurn_0 1 rfl rfl ?_
  refine wa_iconst (v := 0) dX12_isTurn_1 rfl ?_
  refine wa_aload_n dX12_isTurn_2 0 rfl rfl ?_
  refine wa_getr (r := 119) dX12_isTurn_3 fkX12_7 rfl rfl rfl ?_
  refine wa_iconst (v := 0) dX12_isTurn_6 rfl ?_
  refine wb_iald (j := 0) (v := M 119 0) dX12_isTurn_7 rfl (by unfold vp_in; decide) rfl rfl ?_
  refine wa_iconst (v := 1) dX12_isTurn_8 rfl ?_
  refine wa_isub dX12_isTurn_9 ?_
  obtain ⟨Q1, hM9, hF⟩ := hF
  refine wa_callS [.int x1, .int 0, .int ((M 119 0) - 1)] dX12_isTurn_10 (mmX12_in _ _) mlX12_124 mstX12_in rfl (a_dlt d) rfl rfl hM9 ?_
  rintro r9 M1 P9 ⟨v1, rfl, rfl, hq9⟩
  replace hF := hF v1 M1 hq9
  simp only [Option.toList, List.cons_append, List.nil_append]
  refine wa_if_eq (tgt := 28) dX12_isTurn_13 rfl (fun hc => ?_) (fun hc => ?_)
  · replace hF := hF.1 hc
    exact wa_pick [] rfl hF
  · replace hF := hF.2 hc
    refine wa_aload_n dX12_isTurn_16 0 rfl rfl ?_
    obtain ⟨Q2, hM9, hF⟩ := hF
    refine wa_callV [] dX12_isTurn_17 (mmX12_rootOf _ _) mlX12_342 mnX12_rootOf mseX12_rootOf rfl rfl rfl rfl (a_dlt d) rfl rfl hM9 ?_
    rintro r9 M2 P9 ⟨v2, rfl, rfl, hq9⟩
    replace hF := hF v2 M2 hq9
    simp only [Option.toList, List.cons_append, List.nil_append]
    refine wa_iconst (v := (-1)) dX12_isTurn_20 rfl ?_
    refine wa_icmp_eq (tgt := 28) dX12_isTurn_21 rfl (fun hc => ?_) (fun hc => ?_)
    · replace hF := hF.1 hc
      exact wa_pick [] rfl hF
    · replace hF := hF.2 hc
      refine wa_iconst (v := 1) dX12_isTurn_24 rfl ?_
      refine wa_goto (tgt := 29) dX12_isTurn_25 rfl ?_
      exact wa_iret dX12_isTurn_29 rfl rfl hF

theorem bX12_isTurn_28 {X : a_X} {ad : Nat → Nat} {ca : Nat → ClassId} {d : Nat} {Post : Option Value → a_M → a_P → Prop} {x : Nat} {M : a_M}   (hF : Post (some (.int 0)) M (PT x)) : WA X ad ca LY RX12 cX12_isTurn 2 (some FieldType.boolean) (d + 1) 0 0 (a_E X ad ca LY Post) 28 [] [] M (PT x) := by
  refine wa_iconst (v := 0) dX12_isTurn_28 rfl ?_
  exact wa_iret dX12_isTurn_29 rfl rfl hF

theorem eX12_isTurn {X : a_X} {ad : Nat → Nat} {ca : Nat → ClassId} {d : Nat} {Post : Option Value → a_M → a_P → Prop} {x : Nat} {M : a_M} (x1 : Int32) (h : WA X ad ca LY RX12 cX12_isTurn 2 (some FieldType.boolean) d 0 0 (a_E X ad ca LY Post) 0 [(0, .ref 118), (1, .int x1)] [] M (PT x)) : Mt X ad ca LY d yX12_isTurn cX12_isTurn 2 (some FieldType.boolean) [.ref 118, .int x1] M (PT x) Post := Mt.of (lv := [(0, .ref 118), (1, .int x1)]) (by decide +kernel) rfl rfl rfl (wa_pick [0, 1] rfl h)

theorem bX12_laysRounds_0 {X : a_X} {ad : Nat → Nat} {ca : Nat → ClassId} {d : Nat} {kc ks : Nat} {QF : List Frame → Array Value → State → State → Prop} {x : Nat} {M : a_M} (x1 : Int32) (x2 : Int32)  (hF : WA X ad ca LY RX12 cX12_laysRounds 4 none (d + 1) kc ks QF 7 [(0, .ref 118), (1, .int x1), (2, .int x2), (3, .int 0)] [] (ms M 118 44 0) (PT x)) : WA X ad ca LY RX12 cX12_laysRounds 4 none (d + 1) kc ks QF 0 [(0, .ref 118), (1, .int x1), (2, .int x2)] [] M (PT x) := by
  refine wa_aload_n dX12_laysRounds_0 0 rfl rfl ?_
  refine wa_iconst (v := 0) dX12_laysRounds_1 rfl ?_
  refine wb_puti dX12_laysRounds_2 fkX12_333 fmX12_44 rfl rfl ?_
  refine wa_iconst (v := 0) dX12_laysRounds_5 rfl ?_
  refine wa_istore_n (lv' := [(3, .int 0), (0, .ref 118), (1, .int x1), (2, .int x2)]) dX12_laysRounds_6 rfl rfl rfl ?_
  exact wa_pick [1, 2, 3, 0] rfl hF

theorem bX12_laysRounds_7 {X : a_X} {ad : Nat → Nat} {ca : Nat → ClassId} {d : Nat} {Post : Option Value → a_M → a_P → Prop} {x : Nat} {M : a_M} (x1 : Int32) (x2 : Int32) (x3 : Int32)  (hF : (∃ Q1 : Int32 → a_M → Prop, Mt X ad ca LY d yX12_states cX12_states 1 (some FieldType.int) [.ref 118] M (PT x) (q_i (PT x) Q1) ∧ ∀ v1 M1, Q1 v1 M1 → ((v1 ≤ x3 → Post none M1 (PT x)) ∧ (¬ v1 ≤ x3 → (vp_in x3 128 ∧ (∃ Q2 : Int32 → a_M → Prop, Mt X ad ca LY d yX12_count cX12_count 3 (some FieldType.int) [.int x3] (ms M1 144 x3.toNatClampNeg (-1)) (PT x) (q_i (PT x) Q2) ∧ ∀ v2 M2, Q2 v2 M2 → ((¬ v2 = x1 → WA X ad ca LY RX12 cX12_laysRounds 4 none (d + 1) 0 0 (a_E X ad ca LY Post) 86 [(0, .ref 118), (1, .int x1), (2, .int x2), (3, .int x3)] [] M2 (PT x)) ∧ (v2 = x1 → (∃ Q3 : Int32 → a_M → Prop, Mt X ad ca LY d yX12_leastOf cX12_leastOf 4 (some FieldType.int) [.ref 118, .int x3] M2 (PT x) (q_i (PT x) Q3) ∧ ∀ v3 M3, Q3 v3 M3 → ((¬ v3 = x3 → WA X ad ca LY RX12 cX12_laysRounds 4 none (d + 1) 0 0 (a_E X ad ca LY Post) 86 [(0, .ref 118), (1, .int x1), (2, .int x2), (3, .int x3)] [] M3 (PT x)) ∧ (v3 = x3 → (∃ Q4 : Int32 → a_M → Prop, Mt X ad ca LY d yX12_roundOf cX12_roundOf 4 (some FieldType.int) [.ref 118, .int x3] M3 (PT x) (q_i (PT x) Q4) ∧ ∀ v4 M4, Q4 v4 M4 → (¬ (M4 119 0) = 0 ∧ ((¬ ((x2 * v4) - (x2 * v4) / (M4 119 0) * (M4 119 0)) = 0 → WA X ad ca LY RX12 cX12_laysRounds 4 none (d + 1) 0 0 (a_E X ad ca LY Post) 86 [(0, .ref 118), (1, .int x1), (2, .int x2), (3, .int x3)] [] M4 (PT x)) ∧ (((x2 * v4) - (x2 * v4) / (M4 119 0) * (M4 119 0)) = 0 → (vp_in (M4 118 44) 35 ∧ (vp_in x3 128 ∧ WA X ad ca LY RX12 cX12_laysRounds 4 none (d + 1) 0 0 (a_E X ad ca LY Post) 86 [(0, .ref 118), (1, .int x1), (2, .int x2), (3, .int x3)] [] (ms (ms (ms M4 143 ((M4 118 44).toNatClampNeg) x3) 144 x3.toNatClampNeg (M4 118 44)) 118 44 ((M4 118 44) + 1)) (PT x)))))))))))))))))) : WA X ad ca LY RX12 cX12_laysRounds 4 none (d + 1) 0 0 (a_E X ad ca LY Post) 7 [(0, .ref 118), (1, .int x1), (2, .int x2), (3, .int x3)] [] M (PT x) := by
  refine wa_iload_n dX12_laysRounds_7 3 rfl rfl ?_
  refine wa_aload_n dX12_laysRounds_8 0 rfl rfl ?_
  obtain ⟨Q1, hM9, hF⟩ := hF
  refine wa_callV [] dX12_laysRounds_9 (mmX12_states _ _) mlX12_128 mnX12_states mseX12_states rfl rfl rfl rfl (a_dlt d) rfl rfl hM9 ?_
  rintro r9 M1 P9 ⟨v1, rfl, rfl, hq9⟩
  replace hF := hF v1 M1 hq9
  simp only [Option.toList, List.cons_append, List.nil_append]
  refine wa_icmp_ge (tgt := 92) dX12_laysRounds_12 rfl (fun hc => ?_) (fun hc => ?_)
  · replace hF := hF.1 hc
    exact wa_vret dX12_laysRounds_92 rfl hF
  · replace hF := hF.2 hc
    refine wa_aload_n dX12_laysRounds_15 0 rfl rfl ?_
    refine wa_getr (r := 144) dX12_laysRounds_16 fkX12_93 rfl rfl rfl ?_
    refine wa_iload_n dX12_laysRounds_19 3 rfl rfl ?_
    refine wa_iconst (v := (-1)) dX12_laysRounds_20 rfl ?_
    obtain ⟨hi9, hF⟩ := hF
    refine wb_iast (j := x3.toNatClampNeg) dX12_laysRounds_21 rfl hi9 rfl ?_
    refine wa_iload_n dX12_laysRounds_22 3 rfl rfl ?_
    obtain ⟨Q2, hM9, hF⟩ := hF
    refine wa_callS [.int x3] dX12_laysRounds_23 (mmX12_count _ _) mlX12_336 mstX12_count rfl (a_dlt d) rfl rfl hM9 ?_
    rintro r9 M2 P9 ⟨v2, rfl, rfl, hq9⟩
    replace hF := hF v2 M2 hq9
    simp only [Option.toList, List.cons_append, List.nil_append]
    refine wa_iload_n dX12_laysRounds_26 1 rfl rfl ?_
    refine wa_icmp_ne (tgt := 86) dX12_laysRounds_27 rfl (fun hc => ?_) (fun hc => ?_)
    · replace hF := hF.1 hc
      exact hF
    · replace hF := hF.2 hc
      refine wa_aload_n dX12_laysRounds_30 0 rfl rfl ?_
      refine wa_iload_n dX12_laysRounds_31 3 rfl rfl ?_
      obtain ⟨Q3, hM9, hF⟩ := hF
      refine wa_callV [.int x3] dX12_laysRounds_32 (mmX12_leastOf _ _) mlX12_348 mnX12_leastOf mseX12_leastOf rfl rfl rfl rfl (a_dlt d) rfl rfl hM9 ?_
      rintro r9 M3 P9 ⟨v3, rfl, rfl, hq9⟩
      replace hF := hF v3 M3 hq9
      simp only [Option.toList, List.cons_append, List.nil_append]
      refine wa_iload_n dX12_laysRounds_35 3 rfl rfl ?_
      refine wa_icmp_ne (tgt := 86) dX12_laysRounds_36 rfl (fun hc => ?_) (fun hc => ?_)
      · replace hF := hF.1 hc
        exact hF
      · replace hF := hF.2 hc
        refine wa_iload_n dX12_laysRounds_39 2 rfl rfl ?_
        refine wa_aload_n dX12_laysRounds_40 0 rfl rfl ?_
        refine wa_iload_n dX12_laysRounds_41 3 rfl rfl ?_
        obtain ⟨Q4, hM9, hF⟩ := hF
        refine wa_callV [.int x3] dX12_laysRounds_42 (mmX12_roundOf _ _) mlX12_351 mnX12_roundOf mseX12_roundOf rfl rfl rfl rfl (a_dlt d) rfl rfl hM9 ?_
        rintro r9 M4 P9 ⟨v4, rfl, rfl, hq9⟩
        replace hF := hF v4 M4 hq9
        simp only [Option.toList, List.cons_append, List.nil_append]
        refine wa_imul dX12_laysRounds_45 ?_
        refine wa_aload_n dX12_laysRounds_46 0 rfl rfl ?_
        refine wa_getr (r := 119) dX12_laysRounds_47 fkX12_7 rfl rfl rfl ?_
        refine wa_iconst (v := 0) dX12_laysRounds_50 rfl ?_
        refine wb_iald (j := 0) (v := M4 119 0) dX12_laysRounds_51 rfl (by unfold vp_in; decide) rfl rfl ?_
        obtain ⟨hn9, hF⟩ := hF
        refine wa_irem dX12_laysRounds_52 hn9 ?_
        refine wa_if_ne (tgt := 86) dX12_laysRounds_53 rfl (fun hc => ?_) (fun hc => ?_)
        · replace hF := hF.1 hc
          exact hF
        · replace hF := hF.2 hc
          refine wa_aload_n dX12_laysRounds_56 0 rfl rfl ?_
          refine wa_getr (r := 143) dX12_laysRounds_57 fkX12_90 rfl rfl rfl ?_
          refine wa_aload_n dX12_laysRounds_60 0 rfl rfl ?_
          refine wb_geti (v := M4 118 44) dX12_laysRounds_61 fkX12_333 rfl rfl rfl ?_
          refine wa_iload_n dX12_laysRounds_64 3 rfl rfl ?_
          obtain ⟨hi9, hF⟩ := hF
          refine wb_iast (j := (M4 118 44).toNatClampNeg) dX12_laysRounds_65 rfl hi9 rfl ?_
          refine wa_aload_n dX12_laysRounds_66 0 rfl rfl ?_
          refine wa_getr (r := 144) dX12_laysRounds_67 fkX12_93 rfl rfl rfl ?_
          refine wa_iload_n dX12_laysRounds_70 3 rfl rfl ?_
          refine wa_aload_n dX12_laysRounds_71 0 rfl rfl ?_
          refine wb_geti (v := M4 118 44) dX12_laysRounds_72 fkX12_333 rfl rfl ((ms_no M4 143 ((M4 118 44).toNatClampNeg) x3 118 44 (fun h9 => absurd h9.1 (by decide))).trans rfl) ?_
          obtain ⟨hi9, hF⟩ := hF
          refine wb_iast (j := x3.toNatClampNeg) dX12_laysRounds_75 rfl hi9 rfl ?_
          refine wa_aload_n dX12_laysRounds_76 0 rfl rfl ?_
          refine wa_dup dX12_laysRounds_77 rfl ?_
          refine wb_geti (v := M4 118 44) dX12_laysRounds_78 fkX12_333 rfl rfl ((ms_no (ms M4 143 ((M4 118 44).toNatClampNeg) x3) 144 x3.toNatClampNeg (M4 118 44) 118 44 (fun h9 => absurd h9.1 (by decide))).trans ((ms_no M4 143 ((M4 118 44).toNatClampNeg) x3 118 44 (fun h9 => absurd h9.1 (by decide))).trans rfl)) ?_
          refine wa_iconst (v := 1) dX12_laysRounds_81 rfl ?_
          refine wa_iadd dX12_laysRounds_82 ?_
          refine wb_puti dX12_laysRounds_83 fkX12_333 fmX12_44 rfl rfl ?_
          exact hF

theorem bX12_laysRounds_86 {X : a_X} {ad : Nat → Nat} {ca : Nat → ClassId} {d : Nat} {kc ks : Nat} {QF : List Frame → Array Value → State → State → Prop} {x : Nat} {M : a_M} (x1 : Int32) (x2 : Int32) (x3 : Int32)  (hF : WA X ad ca LY RX12 cX12_laysRounds 4 none (d + 1) kc ks QF 7 [(0, .ref 118), (1, .int x1), (2, .int x2), (3, .int (x3 + 1))] [] M (PT x)) : WA X ad ca LY RX12 cX12_laysRounds 4 none (d + 1) kc ks QF 86 [(0, .ref 118), (1, .int x1), (2, .int x2), (3, .int x3)] [] M (PT x) := by
  refine wa_iinc (v := x3 + 1) (lv' := [(3, .int (x3 + 1)), (0, .ref 118), (1, .int x1), (2, .int x2)]) dX12_laysRounds_86 3 rfl rfl rfl rfl ?_
  refine wa_goto (tgt := 7) dX12_laysRounds_89 rfl ?_
  exact wa_pick [1, 2, 3, 0] rfl hF

theorem eX12_laysRounds {X : a_X} {ad : Nat → Nat} {ca : Nat → ClassId} {d : Nat} {Post : Option Value → a_M → a_P → Prop} {x : Nat} {M : a_M} (x1 : Int32) (x2 : Int32) (h : WA X ad ca LY RX12 cX12_laysRounds 4 none d 0 0 (a_E X ad ca LY Post) 0 [(0, .ref 118), (1, .int x1), (2, .int x2)] [] M (PT x)) : Mt X ad ca LY d yX12_laysRounds cX12_laysRounds 4 none [.ref 118, .int x1, .int x2] M (PT x) Post := Mt.of (lv := [(0, .ref 118), (1, .int x1), (2, .int x2)]) (by decide +kernel) rfl rfl rfl (wa_pick [0, 1, 2] rfl h)

theorem bX12_laysTurn_0 {X : a_X} {ad : Nat → Nat} {ca : Nat → ClassId} {d : Nat} {kc ks : Nat} {QF : List Frame → Array Value → State → State → Prop} {x : Nat} {M : a_M} (x1 : Int32) (x2 : Int32)  (hF : (∃ Q1 : a_M → Prop, Mt X ad ca LY d yX12_laysRounds cX12_laysRounds 4 none [.ref 118, .int x1, .int x2] M (PT x) (q_v (PT x) Q1) ∧ ∀ M1, Q1 M1 → (∃ Q2 : Int32 → a_M → Prop, Mt X ad ca LY d yX12_rootOf cX12_rootOf 4 (some FieldType.int) [.ref 118] M1 (PT x) (q_i (PT x) Q2) ∧ ∀ v2 M2, Q2 v2 M2 → (∃ Q3 : Int32 → a_M → Prop, Mt X ad ca LY d yX12_raised cX12_raised 5 (some FieldType.int) [.ref 118, .int v2, .int x2] M2 (PT x) (q_i (PT x) Q3) ∧ ∀ v3 M3, Q3 v3 M3 → WA X ad ca LY RX12 cX12_laysTurn 10 none (d + 1) kc ks QF 19 [(0, .ref 118), (3, .int v3), (4, .int 0)] [] M3 (PT x))))) : WA X ad ca LY RX12 cX12_laysTurn 10 none (d + 1) kc ks QF 0 [(0, .ref 118), (1, .int x1), (2, .int x2)] [] M (PT x) := by
  refine wa_aload_n dX12_laysTurn_0 0 rfl rfl ?_
  refine wa_iload_n dX12_laysTurn_1 1 rfl rfl ?_
  refine wa_iload_n dX12_laysTurn_2 2 rfl rfl ?_
  obtain ⟨Q1, hM9, hF⟩ := hF
  refine wa_callV [.int x1, .int x2] dX12_laysTurn_3 (mmX12_laysRounds _ _) mlX12_354 mnX12_laysRounds mseX12_laysRounds rfl rfl rfl rfl (a_dlt d) rfl rfl hM9 ?_
  rintro r9 M1 P9 ⟨rfl, rfl, hq9⟩
  replace hF := hF M1 hq9
  simp only [Option.toList, List.nil_append]
  refine wa_aload_n dX12_laysTurn_6 0 rfl rfl ?_
  refine wa_aload_n dX12_laysTurn_7 0 rfl rfl ?_
  obtain ⟨Q2, hM9, hF⟩ := hF
  refine wa_callV [] dX12_laysTurn_8 (mmX12_rootOf _ _) mlX12_342 mnX12_rootOf mseX12_rootOf rfl rfl rfl rfl (a_dlt d) rfl rfl hM9 ?_
  rintro r9 M2 P9 ⟨v2, rfl, rfl, hq9⟩
  replace hF := hF v2 M2 hq9
  simp only [Option.toList, List.cons_append, List.nil_append]
  refine wa_iload_n dX12_laysTurn_11 2 rfl rfl ?_
  obtain ⟨Q3, hM9, hF⟩ := hF
  refine wa_callV [.int v2, .int x2] dX12_laysTurn_12 (mmX12_raised _ _) mlX12_357 mnX12_raised mseX12_raised rfl rfl rfl rfl (a_dlt d) rfl rfl hM9 ?_
  rintro r9 M3 P9 ⟨v3, rfl, rfl, hq9⟩
  replace hF := hF v3 M3 hq9
  simp only [Option.toList, List.cons_append, List.nil_append]
  refine wa_istore_n (lv' := [(3, .int v3), (0, .ref 118), (1, .int x1), (2, .int x2)]) dX12_laysTurn_15 rfl rfl rfl ?_
  refine wa_iconst (v := 0) dX12_laysTurn_16 rfl ?_
  refine wa_istore (lv' := [(4, .int 0), (3, .int v3), (0, .ref 118), (1, .int x1), (2, .int x2)]) dX12_laysTurn_17 rfl rfl ?_
  exact wa_pick [2, 1, 0] rfl hF

theorem bX12_laysTurn_19 {X : a_X} {ad : Nat → Nat} {ca : Nat → ClassId} {d : Nat} {kc ks : Nat} {QF : List Frame → Array Value → State → State → Prop} {x : Nat} {M : a_M} (x3 : Int32) (x4 : Int32)  (hF : ((1225 ≤ x4 → WA X ad ca LY RX12 cX12_laysTurn 10 none (d + 1) kc ks QF 44 [(0, .ref 118), (3, .int x3), (4, .int 0)] [] M (PT x)) ∧ (¬ 1225 ≤ x4 → (vp_in x4 1225 ∧ WA X ad ca LY RX12 cX12_laysTurn 10 none (d + 1) kc ks QF 19 [(0, .ref 118), (3, .int x3), (4, .int (x4 + 1))] [] (ms M 145 x4.toNatClampNeg 0) (PT x))))) : WA X ad ca LY RX12 cX12_laysTurn 10 none (d + 1) kc ks QF 19 [(0, .ref 118), (3, .int x3), (4, .int x4)] [] M (PT x) := by
  refine wa_iload dX12_laysTurn_19 2 rfl ?_
  refine wa_sipush (v := 1225) dX12_laysTurn_21 rfl ?_
  refine wa_icmp_ge (tgt := 41) dX12_laysTurn_24 rfl (fun hc => ?_) (fun hc => ?_)
  · replace hF := hF.1 hc
    refine wa_iconst (v := 0) dX12_laysTurn_41 rfl ?_
    refine wa_istore (lv' := [(4, .int 0), (0, .ref 118), (3, .int x3)]) dX12_laysTurn_42 rfl rfl ?_
    exact wa_pick [1, 2, 0] rfl hF
  · replace hF := hF.2 hc
    refine wa_aload_n dX12_laysTurn_27 0 rfl rfl ?_
    refine wa_getr (r := 145) dX12_laysTurn_28 fkX12_96 rfl rfl rfl ?_
    refine wa_iload dX12_laysTurn_31 2 rfl ?_
    refine wa_iconst (v := 0) dX12_laysTurn_33 rfl ?_
    obtain ⟨hi9, hF⟩ := hF
    refine wb_iast (j := x4.toNatClampNeg) dX12_laysTurn_34 rfl hi9 rfl ?_
    refine wa_iinc (v := x4 + 1) (lv' := [(4, .int (x4 + 1)), (0, .ref 118), (3, .int x3)]) dX12_laysTurn_35 2 rfl rfl rfl rfl ?_
    refine wa_goto (tgt := 19) dX12_laysTurn_38 rfl ?_
    exact wa_pick [1, 2, 0] rfl hF

theorem bX12_laysTurn_44 {X : a_X} {ad : Nat → Nat} {ca : Nat → ClassId} {d : Nat} {Post : Option Value → a_M → a_P → Prop} {x : Nat} {M : a_M} (x3 : Int32) (x4 : Int32)  (hF : (((M 118 44) ≤ x4 → Post none M (PT x)) ∧ (¬ (M 118 44) ≤ x4 → (vp_in x4 35 ∧ (∃ Q1 : a_M → Prop, Mt X ad ca LY d yX12_actedIs cX12_actedIs 3 none [.ref 118, .int (M 143 x4.toNatClampNeg)] M (PT x) (q_v (PT x) Q1) ∧ ∀ M1, Q1 M1 → (∃ Q2 : a_M → Prop, Mt X ad ca LY d yX12_sums cX12_sums 1 none [.ref 118] M1 (PT x) (q_v (PT x) Q2) ∧ ∀ M2, Q2 M2 → WA X ad ca LY RX12 cX12_laysTurn 10 none (d + 1) 0 0 (a_E X ad ca LY Post) 71 [(0, .ref 118), (3, .int x3), (4, .int x4), (5, .int 0)] [] M2 (PT x))))))) : WA X ad ca LY RX12 cX12_laysTurn 10 none (d + 1) 0 0 (a_E X ad ca LY Post) 44 [(0, .ref 118), (3, .int x3), (4, .int x4)] [] M (PT x) := by
  refine wa_iload dX12_laysTurn_44 2 rfl ?_
  refine wa_aload_n dX12_laysTurn_46 0 rfl rfl ?_
  refine wb_geti (v := M 118 44) dX12_laysTurn_47 fkX12_333 rfl rfl rfl ?_
  refine wa_icmp_ge (tgt := 242) dX12_laysTurn_50 rfl (fun hc => ?_) (fun hc => ?_)
  · replace hF := hF.1 hc
    exact wa_vret dX12_laysTurn_242 rfl hF
  · replace hF := hF.2 hc
    refine wa_aload_n dX12_laysTurn_53 0 rfl rfl ?_
    refine wa_aload_n dX12_laysTurn_54 0 rfl rfl ?_
    refine wa_getr (r := 143) dX12_laysTurn_55 fkX12_90 rfl rfl rfl ?_
    refine wa_iload dX12_laysTurn_58 2 rfl ?_
    obtain ⟨hi9, hF⟩ := hF
    refine wb_iald (j := x4.toNatClampNeg) (v := M 143 x4.toNatClampNeg) dX12_laysTurn_60 rfl hi9 rfl rfl ?_
    obtain ⟨Q1, hM9, hF⟩ := hF
    refine wa_callV [.int (M 143 x4.toNatClampNeg)] dX12_laysTurn_61 (mmX12_actedIs _ _) mlX12_317 mnX12_actedIs mseX12_actedIs rfl rfl rfl rfl (a_dlt d) rfl rfl hM9 ?_
    rintro r9 M1 P9 ⟨rfl, rfl, hq9⟩
    replace hF := hF M1 hq9
    simp only [Option.toList, List.nil_append]
    refine wa_aload_n dX12_laysTurn_64 0 rfl rfl ?_
    obtain ⟨Q2, hM9, hF⟩ := hF
    refine wa_callV [] dX12_laysTurn_65 (mmX12_sums _ _) mlX12_320 mnX12_sums mseX12_sums rfl rfl rfl rfl (a_dlt d) rfl rfl hM9 ?_
    rintro r9 M2 P9 ⟨rfl, rfl, hq9⟩
    replace hF := hF M2 hq9
    simp only [Option.toList, List.nil_append]
    refine wa_iconst (v := 0) dX12_laysTurn_68 rfl ?_
    refine wa_istore (lv' := [(5, .int 0), (0, .ref 118), (3, .int x3), (4, .int x4)]) dX12_laysTurn_69 rfl rfl ?_
    exact wa_pick [1, 2, 3, 0] rfl hF

theorem bX12_laysTurn_71 {X : a_X} {ad : Nat → Nat} {ca : Nat → ClassId} {d : Nat} {kc ks : Nat} {QF : List Frame → Array Value → State → State → Prop} {x : Nat} {M : a_M} (x3 : Int32) (x4 : Int32) (x5 : Int32)  (hF : (∃ Q1 : Int32 → a_M → Prop, Mt X ad ca LY d yX12_states cX12_states 1 (some FieldType.int) [.ref 118] M (PT x) (q_i (PT x) Q1) ∧ ∀ v1 M1, Q1 v1 M1 → ((v1 ≤ x5 → WA X ad ca LY RX12 cX12_laysTurn 10 none (d + 1) kc ks QF 44 [(0, .ref 118), (3, .int x3), (4, .int (x4 + 1))] [] M1 (PT x)) ∧ (¬ v1 ≤ x5 → (∃ Q2 : Int32 → a_M → Prop, Mt X ad ca LY d yX12_leastOf cX12_leastOf 4 (some FieldType.int) [.ref 118, .int x5] M1 (PT x) (q_i (PT x) Q2) ∧ ∀ v2 M2, Q2 v2 M2 → (vp_in x5 128 ∧ (((M2 140 x5.toNatClampNeg) = 0 → WA X ad ca LY RX12 cX12_laysTurn 10 none (d + 1) kc ks QF 230 [(0, .ref 118), (3, .int x3), (4, .int x4), (5, .int x5)] [] M2 (PT x)) ∧ (¬ (M2 140 x5.toNatClampNeg) = 0 → (vp_in v2 128 ∧ (((M2 144 v2.toNatClampNeg) = (-1) → WA X ad ca LY RX12 cX12_laysTurn 10 none (d + 1) kc ks QF 230 [(0, .ref 118), (3, .int x3), (4, .int x4), (5, .int x5)] [] M2 (PT x)) ∧ (¬ (M2 144 v2.toNatClampNeg) = (-1) → WA X ad ca LY RX12 cX12_laysTurn 10 none (d + 1) kc ks QF 116 [(0, .ref 118), (3, .int x3), (4, .int x4), (5, .int x5), (6, .int v2), (7, .int 0), (8, .int v2)] [] M2 (PT x)))))))))))) : WA X ad ca LY RX12 cX12_laysTurn 10 none (d + 1) kc ks QF 71 [(0, .ref 118), (3, .int x3), (4, .int x4), (5, .int x5)] [] M (PT x) := by
  refine wa_iload dX12_laysTurn_71 3 rfl ?_
  refine wa_aload_n dX12_laysTurn_73 0 rfl rfl ?_
  obtain ⟨Q1, hM9, hF⟩ := hF
  refine wa_callV [] dX12_laysTurn_74 (mmX12_states _ _) mlX12_128 mnX12_states mseX12_states rfl rfl rfl rfl (a_dlt d) rfl rfl hM9 ?_
  rintro r9 M1 P9 ⟨v1, rfl, rfl, hq9⟩
  replace hF := hF v1 M1 hq9
  simp only [Option.toList, List.cons_append, List.nil_append]
  refine wa_icmp_ge (tgt := 236) dX12_laysTurn_77 rfl (fun hc => ?_) (fun hc => ?_)
  · replace hF := hF.1 hc
    refine wa_iinc (v := x4 + 1) (lv' := [(4, .int (x4 + 1)), (0, .ref 118), (3, .int x3), (5, .int x5)]) dX12_laysTurn_236 2 rfl rfl rfl rfl ?_
    refine wa_goto (tgt := 44) dX12_laysTurn_239 rfl ?_
    exact wa_pick [1, 2, 0] rfl hF
  · replace hF := hF.2 hc
    refine wa_aload_n dX12_laysTurn_80 0 rfl rfl ?_
    refine wa_iload dX12_laysTurn_81 3 rfl ?_
    obtain ⟨Q2, hM9, hF⟩ := hF
    refine wa_callV [.int x5] dX12_laysTurn_83 (mmX12_leastOf _ _) mlX12_348 mnX12_leastOf mseX12_leastOf rfl rfl rfl rfl (a_dlt d) rfl rfl hM9 ?_
    rintro r9 M2 P9 ⟨v2, rfl, rfl, hq9⟩
    replace hF := hF v2 M2 hq9
    simp only [Option.toList, List.cons_append, List.nil_append]
    refine wa_istore (lv' := [(6, .int v2), (0, .ref 118), (3, .int x3), (4, .int x4), (5, .int x5)]) dX12_laysTurn_86 rfl rfl ?_
    refine wa_aload_n dX12_laysTurn_88 1 rfl rfl ?_
    refine wa_getr (r := 140) dX12_laysTurn_89 fkX12_81 rfl rfl rfl ?_
    refine wa_iload dX12_laysTurn_92 4 rfl ?_
    obtain ⟨hi9, hF⟩ := hF
    refine wb_iald (j := x5.toNatClampNeg) (v := M2 140 x5.toNatClampNeg) dX12_laysTurn_94 rfl hi9 rfl rfl ?_
    refine wa_if_eq (tgt := 230) dX12_laysTurn_95 rfl (fun hc => ?_) (fun hc => ?_)
    · replace hF := hF.1 hc
      exact wa_pick [1, 2, 3, 4] rfl hF
    · replace hF := hF.2 hc
      refine wa_aload_n dX12_laysTurn_98 1 rfl rfl ?_
      refine wa_getr (r := 144) dX12_laysTurn_99 fkX12_93 rfl rfl rfl ?_
      refine wa_iload dX12_laysTurn_102 0 rfl ?_
      obtain ⟨hi9, hF⟩ := hF
      refine wb_iald (j := v2.toNatClampNeg) (v := M2 144 v2.toNatClampNeg) dX12_laysTurn_104 rfl hi9 rfl rfl ?_
      refine wa_iconst (v := (-1)) dX12_laysTurn_105 rfl ?_
      refine wa_icmp_eq (tgt := 230) dX12_laysTurn_106 rfl (fun hc => ?_) (fun hc => ?_)
      · replace hF := hF.1 hc
        exact wa_pick [1, 2, 3, 4] rfl hF
      · replace hF := hF.2 hc
        refine wa_iconst (v := 0) dX12_laysTurn_109 rfl ?_
        refine wa_istore (lv' := [(7, .int 0), (6, .int v2), (0, .ref 118), (3, .int x3), (4, .int x4), (5, .int x5)]) dX12_laysTurn_110 rfl rfl ?_
        refine wa_iload dX12_laysTurn_112 1 rfl ?_
        refine wa_istore (lv' := [(8, .int v2), (7, .int 0), (6, .int v2), (0, .ref 118), (3, .int x3), (4, .int x4), (5, .int x5)]) dX12_laysTurn_114 rfl rfl ?_
        exact wa_pick [3, 4, 5, 6, 2, 1, 0] rfl hF

theorem bX12_laysTurn_116 {X : a_X} {ad : Nat → Nat} {ca : Nat → ClassId} {d : Nat} {kc ks : Nat} {QF : List Frame → Array Value → State → State → Prop} {x : Nat} {M : a_M} (x3 : Int32) (x4 : Int32) (x5 : Int32) (x6 : Int32) (x7 : Int32) (x8 : Int32)  (hF : ((x8 = x5 → (vp_in x4 35 ∧ (∃ Q1 : Int32 → a_M → Prop, Mt X ad ca LY d yX12_roundOf cX12_roundOf 4 (some FieldType.int) [.ref 118, .int (M 143 x4.toNatClampNeg)] M (PT x) (q_i (PT x) Q1) ∧ ∀ v1 M1, Q1 v1 M1 → (¬ (M1 119 2) = 0 ∧ (∃ Q2 : Int32 → a_M → Prop, Mt X ad ca LY d yX12_roundOf cX12_roundOf 4 (some FieldType.int) [.ref 118, .int x6] M1 (PT x) (q_i (PT x) Q2) ∧ ∀ v2 M2, Q2 v2 M2 → (¬ (M2 119 2) = 0 ∧ (∃ Q3 : Int32 → a_M → Prop, Mt X ad ca LY d yX12_over cX12_over 4 (some FieldType.int) [.ref 118, .int (v1 - v1 / (M1 119 2) * (M1 119 2)), .int (v2 - v2 / (M2 119 2) * (M2 119 2))] M2 (PT x) (q_i (PT x) Q3) ∧ ∀ v3 M3, Q3 v3 M3 → (vp_in x6 128 ∧ (vp_in ((35 * (M3 144 x6.toNatClampNeg)) + x4) 1225 ∧ (vp_in x5 128 ∧ (∃ Q4 : Int32 → a_M → Prop, Mt X ad ca LY d yX12_raised cX12_raised 5 (some FieldType.int) [.ref 118, .int x3, .int x7] M3 (PT x) (q_i (PT x) Q4) ∧ ∀ v4 M4, Q4 v4 M4 → (∃ Q5 : Int32 → a_M → Prop, Mt X ad ca LY d yX12_left cX12_left 4 (some FieldType.int) [.ref 118, .long (((M3 145 (((35 * (M3 144 x6.toNatClampNeg)) + x4).toNatClampNeg)).toInt64) + ((((M3 140 x5.toNatClampNeg).toInt64) * v4.toInt64) * v3.toInt64))] M4 (PT x) (q_i (PT x) Q5) ∧ ∀ v5 M5, Q5 v5 M5 → (vp_in ((35 * (M3 144 x6.toNatClampNeg)) + x4) 1225 ∧ WA X ad ca LY RX12 cX12_laysTurn 10 none (d + 1) kc ks QF 230 [(0, .ref 118), (3, .int x3), (4, .int x4), (5, .int x5)] [] (ms M5 145 (((35 * (M3 144 x6.toNatClampNeg)) + x4).toNatClampNeg) v5) (PT x)))))))))))))) ∧ (¬ x8 = x5 → (∃ Q6 : Int32 → a_M → Prop, Mt X ad ca LY d yX12_shifted cX12_shifted 2 (some FieldType.int) [.ref 118, .int x8] M (PT x) (q_i (PT x) Q6) ∧ ∀ v6 M6, Q6 v6 M6 → WA X ad ca LY RX12 cX12_laysTurn 10 none (d + 1) kc ks QF 116 [(0, .ref 118), (3, .int x3), (4, .int x4), (5, .int x5), (6, .int x6), (7, .int (x7 + 1)), (8, .int v6)] [] M6 (PT x))))) : WA X ad ca LY RX12 cX12_laysTurn 10 none (d + 1) kc ks QF 116 [(0, .ref 118), (3, .int x3), (4, .int x4), (5, .int x5), (6, .int x6), (7, .int x7), (8, .int x8)] [] M (PT x) := by
  refine wa_iload dX12_laysTurn_116 6 rfl ?_
  refine wa_iload dX12_laysTurn_118 3 rfl ?_
  refine wa_icmp_eq (tgt := 137) dX12_laysTurn_120 rfl (fun hc => ?_) (fun hc => ?_)
  · replace hF := hF.1 hc
    refine wa_aload_n dX12_laysTurn_137 0 rfl rfl ?_
    refine wa_aload_n dX12_laysTurn_138 0 rfl rfl ?_
    refine wa_aload_n dX12_laysTurn_139 0 rfl rfl ?_
    refine wa_getr (r := 143) dX12_laysTurn_140 fkX12_90 rfl rfl rfl ?_
    refine wa_iload dX12_laysTurn_143 2 rfl ?_
    obtain ⟨hi9, hF⟩ := hF
    refine wb_iald (j := x4.toNatClampNeg) (v := M 143 x4.toNatClampNeg) dX12_laysTurn_145 rfl hi9 rfl rfl ?_
    obtain ⟨Q1, hM9, hF⟩ := hF
    refine wa_callV [.int (M 143 x4.toNatClampNeg)] dX12_laysTurn_146 (mmX12_roundOf _ _) mlX12_351 mnX12_roundOf mseX12_roundOf rfl rfl rfl rfl (a_dlt d) rfl rfl hM9 ?_
    rintro r9 M1 P9 ⟨v1, rfl, rfl, hq9⟩
    replace hF := hF v1 M1 hq9
    simp only [Option.toList, List.cons_append, List.nil_append]
    refine wa_aload_n dX12_laysTurn_149 0 rfl rfl ?_
    refine wa_getr (r := 119) dX12_laysTurn_150 fkX12_7 rfl rfl rfl ?_
    refine wa_iconst (v := 2) dX12_laysTurn_153 rfl ?_
    refine wb_iald (j := 2) (v := M1 119 2) dX12_laysTurn_154 rfl (by unfold vp_in; decide) rfl rfl ?_
    obtain ⟨hn9, hF⟩ := hF
    refine wa_irem dX12_laysTurn_155 hn9 ?_
    refine wa_aload_n dX12_laysTurn_156 0 rfl rfl ?_
    refine wa_iload dX12_laysTurn_157 4 rfl ?_
    obtain ⟨Q2, hM9, hF⟩ := hF
    refine wa_callV [.int x6] dX12_laysTurn_159 (mmX12_roundOf _ _) mlX12_351 mnX12_roundOf mseX12_roundOf rfl rfl rfl rfl (a_dlt d) rfl rfl hM9 ?_
    rintro r9 M2 P9 ⟨v2, rfl, rfl, hq9⟩
    replace hF := hF v2 M2 hq9
    simp only [Option.toList, List.cons_append, List.nil_append]
    refine wa_aload_n dX12_laysTurn_162 0 rfl rfl ?_
    refine wa_getr (r := 119) dX12_laysTurn_163 fkX12_7 rfl rfl rfl ?_
    refine wa_iconst (v := 2) dX12_laysTurn_166 rfl ?_
    refine wb_iald (j := 2) (v := M2 119 2) dX12_laysTurn_167 rfl (by unfold vp_in; decide) rfl rfl ?_
    obtain ⟨hn9, hF⟩ := hF
    refine wa_irem dX12_laysTurn_168 hn9 ?_
    obtain ⟨Q3, hM9, hF⟩ := hF
    refine wa_callV [.int (v1 - v1 / (M1 119 2) * (M1 119 2)), .int (v2 - v2 / (M2 119 2) * (M2 119 2))] dX12_laysTurn_169 (mmX12_over _ _) mlX12_271 mnX12_over mseX12_over rfl rfl rfl rfl (a_dlt d) rfl rfl hM9 ?_
    rintro r9 M3 P9 ⟨v3, rfl, rfl, hq9⟩
    replace hF := hF v3 M3 hq9
    simp only [Option.toList, List.cons_append, List.nil_append]
    refine wa_istore (lv' := [(8, .int v3), (0, .ref 118), (3, .int x3), (4, .int x4), (5, .int x5), (6, .int x6), (7, .int x7)]) dX12_laysTurn_172 rfl rfl ?_
    refine wa_bipush (v := 35) dX12_laysTurn_174 rfl ?_
    refine wa_aload_n dX12_laysTurn_176 1 rfl rfl ?_
    refine wa_getr (r := 144) dX12_laysTurn_177 fkX12_93 rfl rfl rfl ?_
    refine wa_iload dX12_laysTurn_180 5 rfl ?_
    obtain ⟨hi9, hF⟩ := hF
    refine wb_iald (j := x6.toNatClampNeg) (v := M3 144 x6.toNatClampNeg) dX12_laysTurn_182 rfl hi9 rfl rfl ?_
    refine wa_imul dX12_laysTurn_183 ?_
    refine wa_iload dX12_laysTurn_184 3 rfl ?_
    refine wa_iadd dX12_laysTurn_186 ?_
    refine wa_istore (lv' := [(9, .int ((35 * (M3 144 x6.toNatClampNeg)) + x4)), (8, .int v3), (0, .ref 118), (3, .int x3), (4, .int x4), (5, .int x5), (6, .int x6), (7, .int x7)]) dX12_laysTurn_187 rfl rfl ?_
    refine wa_aload_n dX12_laysTurn_189 2 rfl rfl ?_
    refine wa_getr (r := 145) dX12_laysTurn_190 fkX12_96 rfl rfl rfl ?_
    refine wa_iload dX12_laysTurn_193 0 rfl ?_
    refine wa_aload_n dX12_laysTurn_195 2 rfl rfl ?_
    refine wa_aload_n dX12_laysTurn_196 2 rfl rfl ?_
    refine wa_getr (r := 145) dX12_laysTurn_197 fkX12_96 rfl rfl rfl ?_
    refine wa_iload dX12_laysTurn_200 0 rfl ?_
    obtain ⟨hi9, hF⟩ := hF
    refine wb_iald (j := ((35 * (M3 144 x6.toNatClampNeg)) + x4).toNatClampNeg) (v := M3 145 (((35 * (M3 144 x6.toNatClampNeg)) + x4).toNatClampNeg)) dX12_laysTurn_202 rfl hi9 rfl rfl ?_
    refine wa_i2l dX12_laysTurn_203 ?_
    refine wa_aload_n dX12_laysTurn_204 2 rfl rfl ?_
    refine wa_getr (r := 140) dX12_laysTurn_205 fkX12_81 rfl rfl rfl ?_
    refine wa_iload dX12_laysTurn_208 5 rfl ?_
    obtain ⟨hi9, hF⟩ := hF
    refine wb_iald (j := x5.toNatClampNeg) (v := M3 140 x5.toNatClampNeg) dX12_laysTurn_210 rfl hi9 rfl rfl ?_
    refine wa_i2l dX12_laysTurn_211 ?_
    refine wa_aload_n dX12_laysTurn_212 2 rfl rfl ?_
    refine wa_iload_n dX12_laysTurn_213 3 rfl rfl ?_
    refine wa_iload dX12_laysTurn_214 7 rfl ?_
    obtain ⟨Q4, hM9, hF⟩ := hF
    refine wa_callV [.int x3, .int x7] dX12_laysTurn_216 (mmX12_raised _ _) mlX12_357 mnX12_raised mseX12_raised rfl rfl rfl rfl (a_dlt d) rfl rfl hM9 ?_
    rintro r9 M4 P9 ⟨v4, rfl, rfl, hq9⟩
    replace hF := hF v4 M4 hq9
    simp only [Option.toList, List.cons_append, List.nil_append]
    refine wa_i2l dX12_laysTurn_219 ?_
    refine wa_lmul dX12_laysTurn_220 ?_
    refine wa_iload dX12_laysTurn_221 1 rfl ?_
    refine wa_i2l dX12_laysTurn_223 ?_
    refine wa_lmul dX12_laysTurn_224 ?_
    refine wa_ladd dX12_laysTurn_225 ?_
    obtain ⟨Q5, hM9, hF⟩ := hF
    refine wa_callV [.long (((M3 145 (((35 * (M3 144 x6.toNatClampNeg)) + x4).toNatClampNeg)).toInt64) + ((((M3 140 x5.toNatClampNeg).toInt64) * v4.toInt64) * v3.toInt64))] dX12_laysTurn_226 (mmX12_left _ _) mlX12_360 mnX12_left mseX12_left rfl rfl rfl rfl (a_dlt d) rfl rfl hM9 ?_
    rintro r9 M5 P9 ⟨v5, rfl, rfl, hq9⟩
    replace hF := hF v5 M5 hq9
    simp only [Option.toList, List.cons_append, List.nil_append]
    obtain ⟨hi9, hF⟩ := hF
    refine wb_iast (j := ((35 * (M3 144 x6.toNatClampNeg)) + x4).toNatClampNeg) dX12_laysTurn_229 rfl hi9 rfl ?_
    exact wa_pick [2, 3, 4, 5] rfl hF
  · replace hF := hF.2 hc
    refine wa_iinc (v := x7 + 1) (lv' := [(7, .int (x7 + 1)), (0, .ref 118), (3, .int x3), (4, .int x4), (5, .int x5), (6, .int x6), (8, .int x8)]) dX12_laysTurn_123 5 rfl rfl rfl rfl ?_
    refine wa_aload_n dX12_laysTurn_126 1 rfl rfl ?_
    refine wa_iload dX12_laysTurn_127 6 rfl ?_
    obtain ⟨Q6, hM9, hF⟩ := hF
    refine wa_callV [.int x8] dX12_laysTurn_129 (mmX12_shifted _ _) mlX12_345 mnX12_shifted mseX12_shifted rfl rfl rfl rfl (a_dlt d) rfl rfl hM9 ?_
    rintro r9 M6 P9 ⟨v6, rfl, rfl, hq9⟩
    replace hF := hF v6 M6 hq9
    simp only [Option.toList, List.cons_append, List.nil_append]
    refine wa_istore (lv' := [(8, .int v6), (7, .int (x7 + 1)), (0, .ref 118), (3, .int x3), (4, .int x4), (5, .int x5), (6, .int x6)]) dX12_laysTurn_132 rfl rfl ?_
    refine wa_goto (tgt := 116) dX12_laysTurn_134 rfl ?_
    exact wa_pick [2, 3, 4, 5, 6, 1, 0] rfl hF

theorem bX12_laysTurn_230 {X : a_X} {ad : Nat → Nat} {ca : Nat → ClassId} {d : Nat} {kc ks : Nat} {QF : List Frame → Array Value → State → State → Prop} {x : Nat} {M : a_M} (x3 : Int32) (x4 : Int32) (x5 : Int32)  (hF : WA X ad ca LY RX12 cX12_laysTurn 10 none (d + 1) kc ks QF 71 [(0, .ref 118), (3, .int x3), (4, .int x4), (5, .int (x5 + 1))] [] M (PT x)) : WA X ad ca LY RX12 cX12_laysTurn 10 none (d + 1) kc ks QF 230 [(0, .ref 118), (3, .int x3), (4, .int x4), (5, .int x5)] [] M (PT x) := by
  refine wa_iinc (v := x5 + 1) (lv' := [(5, .int (x5 + 1)), (0, .ref 118), (3, .int x3), (4, .int x4)]) dX12_laysTurn_230 3 rfl rfl rfl rfl ?_
  refine wa_goto (tgt := 71) dX12_laysTurn_233 rfl ?_
  exact wa_pick [1, 2, 3, 0] rfl hF

theorem eX12_laysTurn {X : a_X} {ad : Nat → Nat} {ca : Nat → ClassId} {d : Nat} {Post : Option Value → a_M → a_P → Prop} {x : Nat} {M : a_M} (x1 : Int32) (x2 : Int32) (h : WA X ad ca LY RX12 cX12_laysTurn 10 none d 0 0 (a_E X ad ca LY Post) 0 [(0, .ref 118), (1, .int x1), (2, .int x2)] [] M (PT x)) : Mt X ad ca LY d yX12_laysTurn cX12_laysTurn 10 none [.ref 118, .int x1, .int x2] M (PT x) Post := Mt.of (lv := [(0, .ref 118), (1, .int x1), (2, .int x2)]) (by decide +kernel) rfl rfl rfl (wa_pick [0, 1, 2] rfl h)

theorem bX12_swaps_0 {X : a_X} {ad : Nat → Nat} {ca : Nat → ClassId} {d : Nat} {kc ks : Nat} {QF : List Frame → Array Value → State → State → Prop} {x : Nat} {M : a_M} (x1 : Int32) (x2 : Int32)  (hF : WA X ad ca LY RX12 cX12_swaps 5 none (d + 1) kc ks QF 2 [(0, .ref 118), (1, .int x1), (2, .int x2), (3, .int 0)] [] M (PT x)) : WA X ad ca LY RX12 cX12_swaps 5 none (d + 1) kc ks QF 0 [(0, .ref 118), (1, .int x1), (2, .int x2)] [] M (PT x) := by
  refine wa_iconst (v := 0) dX12_swaps_0 rfl ?_
  refine wa_istore_n (lv' := [(3, .int 0), (0, .ref 118), (1, .int x1), (2, .int x2)]) dX12_swaps_1 rfl rfl rfl ?_
  exact wa_pick [1, 2, 3, 0] rfl hF

theorem bX12_swaps_2 {X : a_X} {ad : Nat → Nat} {ca : Nat → ClassId} {d : Nat} {kc ks : Nat} {QF : List Frame → Array Value → State → State → Prop} {x : Nat} {M : a_M} (x1 : Int32) (x2 : Int32) (x3 : Int32)  (hF : (((M 118 44) ≤ x3 → WA X ad ca LY RX12 cX12_swaps 5 none (d + 1) kc ks QF 66 [(0, .ref 118), (1, .int x1), (2, .int x2), (3, .int 0)] [] M (PT x)) ∧ (¬ (M 118 44) ≤ x3 → (vp_in ((35 * x1) + x3) 1225 ∧ (vp_in ((35 * x2) + x3) 1225 ∧ (vp_in ((35 * x1) + x3) 1225 ∧ (vp_in ((35 * x2) + x3) 1225 ∧ WA X ad ca LY RX12 cX12_swaps 5 none (d + 1) kc ks QF 2 [(0, .ref 118), (1, .int x1), (2, .int x2), (3, .int (x3 + 1))] [] (ms (ms M 145 (((35 * x1) + x3).toNatClampNeg) (M 145 (((35 * x2) + x3).toNatClampNeg))) 145 (((35 * x2) + x3).toNatClampNeg) (M 145 (((35 * x1) + x3).toNatClampNeg))) (PT x)))))))) : WA X ad ca LY RX12 cX12_swaps 5 none (d + 1) kc ks QF 2 [(0, .ref 118), (1, .int x1), (2, .int x2), (3, .int x3)] [] M (PT x) := by
  refine wa_iload_n dX12_swaps_2 3 rfl rfl ?_
  refine wa_aload_n dX12_swaps_3 0 rfl rfl ?_
  refine wb_geti (v := M 118 44) dX12_swaps_4 fkX12_333 rfl rfl rfl ?_
  refine wa_icmp_ge (tgt := 64) dX12_swaps_7 rfl (fun hc => ?_) (fun hc => ?_)
  · replace hF := hF.1 hc
    refine wa_iconst (v := 0) dX12_swaps_64 rfl ?_
    refine wa_istore_n (lv' := [(3, .int 0), (0, .ref 118), (1, .int x1), (2, .int x2)]) dX12_swaps_65 rfl rfl rfl ?_
    exact wa_pick [1, 2, 3, 0] rfl hF
  · replace hF := hF.2 hc
    refine wa_aload_n dX12_swaps_10 0 rfl rfl ?_
    refine wa_getr (r := 145) dX12_swaps_11 fkX12_96 rfl rfl rfl ?_
    refine wa_bipush (v := 35) dX12_swaps_14 rfl ?_
    refine wa_iload_n dX12_swaps_16 1 rfl rfl ?_
    refine wa_imul dX12_swaps_17 ?_
    refine wa_iload_n dX12_swaps_18 3 rfl rfl ?_
    refine wa_iadd dX12_swaps_19 ?_
    obtain ⟨hi9, hF⟩ := hF
    refine wb_iald (j := ((35 * x1) + x3).toNatClampNeg) (v := M 145 (((35 * x1) + x3).toNatClampNeg)) dX12_swaps_20 rfl hi9 rfl rfl ?_
    refine wa_istore (lv' := [(4, .int (M 145 (((35 * x1) + x3).toNatClampNeg))), (0, .ref 118), (1, .int x1), (2, .int x2), (3, .int x3)]) dX12_swaps_21 rfl rfl ?_
    refine wa_aload_n dX12_swaps_23 1 rfl rfl ?_
    refine wa_getr (r := 145) dX12_swaps_24 fkX12_96 rfl rfl rfl ?_
    refine wa_bipush (v := 35) dX12_swaps_27 rfl ?_
    refine wa_iload_n dX12_swaps_29 2 rfl rfl ?_
    refine wa_imul dX12_swaps_30 ?_
    refine wa_iload_n dX12_swaps_31 4 rfl rfl ?_
    refine wa_iadd dX12_swaps_32 ?_
    refine wa_aload_n dX12_swaps_33 1 rfl rfl ?_
    refine wa_getr (r := 145) dX12_swaps_34 fkX12_96 rfl rfl rfl ?_
    refine wa_bipush (v := 35) dX12_swaps_37 rfl ?_
    refine wa_iload_n dX12_swaps_39 3 rfl rfl ?_
    refine wa_imul dX12_swaps_40 ?_
    refine wa_iload_n dX12_swaps_41 4 rfl rfl ?_
    refine wa_iadd dX12_swaps_42 ?_
    obtain ⟨hi9, hF⟩ := hF
    refine wb_iald (j := ((35 * x2) + x3).toNatClampNeg) (v := M 145 (((35 * x2) + x3).toNatClampNeg)) dX12_swaps_43 rfl hi9 rfl rfl ?_
    obtain ⟨hi9, hF⟩ := hF
    refine wb_iast (j := ((35 * x1) + x3).toNatClampNeg) dX12_swaps_44 rfl hi9 rfl ?_
    refine wa_aload_n dX12_swaps_45 1 rfl rfl ?_
    refine wa_getr (r := 145) dX12_swaps_46 fkX12_96 rfl rfl rfl ?_
    refine wa_bipush (v := 35) dX12_swaps_49 rfl ?_
    refine wa_iload_n dX12_swaps_51 3 rfl rfl ?_
    refine wa_imul dX12_swaps_52 ?_
    refine wa_iload_n dX12_swaps_53 4 rfl rfl ?_
    refine wa_iadd dX12_swaps_54 ?_
    refine wa_iload dX12_swaps_55 0 rfl ?_
    obtain ⟨hi9, hF⟩ := hF
    refine wb_iast (j := ((35 * x2) + x3).toNatClampNeg) dX12_swaps_57 rfl hi9 rfl ?_
    refine wa_iinc (v := x3 + 1) (lv' := [(3, .int (x3 + 1)), (4, .int (M 145 (((35 * x1) + x3).toNatClampNeg))), (0, .ref 118), (1, .int x1), (2, .int x2)]) dX12_swaps_58 4 rfl rfl rfl rfl ?_
    refine wa_goto (tgt := 2) dX12_swaps_61 rfl ?_
    exact wa_pick [2, 3, 4, 0] rfl hF

theorem bX12_swaps_66 {X : a_X} {ad : Nat → Nat} {ca : Nat → ClassId} {d : Nat} {Post : Option Value → a_M → a_P → Prop} {x : Nat} {M : a_M} (x1 : Int32) (x2 : Int32) (x3 : Int32)  (hF : (((M 118 44) ≤ x3 → Post none M (PT x)) ∧ (¬ (M 118 44) ≤ x3 → (vp_in ((35 * x3) + x1) 1225 ∧ (vp_in ((35 * x3) + x2) 1225 ∧ (vp_in ((35 * x3) + x1) 1225 ∧ (vp_in ((35 * x3) + x2) 1225 ∧ WA X ad ca LY RX12 cX12_swaps 5 none (d + 1) 0 0 (a_E X ad ca LY Post) 66 [(0, .ref 118), (1, .int x1), (2, .int x2), (3, .int (x3 + 1))] [] (ms (ms M 145 (((35 * x3) + x1).toNatClampNeg) (M 145 (((35 * x3) + x2).toNatClampNeg))) 145 (((35 * x3) + x2).toNatClampNeg) (M 145 (((35 * x3) + x1).toNatClampNeg))) (PT x)))))))) : WA X ad ca LY RX12 cX12_swaps 5 none (d + 1) 0 0 (a_E X ad ca LY Post) 66 [(0, .ref 118), (1, .int x1), (2, .int x2), (3, .int x3)] [] M (PT x) := by
  refine wa_iload_n dX12_swaps_66 3 rfl rfl ?_
  refine wa_aload_n dX12_swaps_67 0 rfl rfl ?_
  refine wb_geti (v := M 118 44) dX12_swaps_68 fkX12_333 rfl rfl rfl ?_
  refine wa_icmp_ge (tgt := 128) dX12_swaps_71 rfl (fun hc => ?_) (fun hc => ?_)
  · replace hF := hF.1 hc
    exact wa_vret dX12_swaps_128 rfl hF
  · replace hF := hF.2 hc
    refine wa_aload_n dX12_swaps_74 0 rfl rfl ?_
    refine wa_getr (r := 145) dX12_swaps_75 fkX12_96 rfl rfl rfl ?_
    refine wa_bipush (v := 35) dX12_swaps_78 rfl ?_
    refine wa_iload_n dX12_swaps_80 3 rfl rfl ?_
    refine wa_imul dX12_swaps_81 ?_
    refine wa_iload_n dX12_swaps_82 1 rfl rfl ?_
    refine wa_iadd dX12_swaps_83 ?_
    obtain ⟨hi9, hF⟩ := hF
    refine wb_iald (j := ((35 * x3) + x1).toNatClampNeg) (v := M 145 (((35 * x3) + x1).toNatClampNeg)) dX12_swaps_84 rfl hi9 rfl rfl ?_
    refine wa_istore (lv' := [(4, .int (M 145 (((35 * x3) + x1).toNatClampNeg))), (0, .ref 118), (1, .int x1), (2, .int x2), (3, .int x3)]) dX12_swaps_85 rfl rfl ?_
    refine wa_aload_n dX12_swaps_87 1 rfl rfl ?_
    refine wa_getr (r := 145) dX12_swaps_88 fkX12_96 rfl rfl rfl ?_
    refine wa_bipush (v := 35) dX12_swaps_91 rfl ?_
    refine wa_iload_n dX12_swaps_93 4 rfl rfl ?_
    refine wa_imul dX12_swaps_94 ?_
    refine wa_iload_n dX12_swaps_95 2 rfl rfl ?_
    refine wa_iadd dX12_swaps_96 ?_
    refine wa_aload_n dX12_swaps_97 1 rfl rfl ?_
    refine wa_getr (r := 145) dX12_swaps_98 fkX12_96 rfl rfl rfl ?_
    refine wa_bipush (v := 35) dX12_swaps_101 rfl ?_
    refine wa_iload_n dX12_swaps_103 4 rfl rfl ?_
    refine wa_imul dX12_swaps_104 ?_
    refine wa_iload_n dX12_swaps_105 3 rfl rfl ?_
    refine wa_iadd dX12_swaps_106 ?_
    obtain ⟨hi9, hF⟩ := hF
    refine wb_iald (j := ((35 * x3) + x2).toNatClampNeg) (v := M 145 (((35 * x3) + x2).toNatClampNeg)) dX12_swaps_107 rfl hi9 rfl rfl ?_
    obtain ⟨hi9, hF⟩ := hF
    refine wb_iast (j := ((35 * x3) + x1).toNatClampNeg) dX12_swaps_108 rfl hi9 rfl ?_
    refine wa_aload_n dX12_swaps_109 1 rfl rfl ?_
    refine wa_getr (r := 145) dX12_swaps_110 fkX12_96 rfl rfl rfl ?_
    refine wa_bipush (v := 35) dX12_swaps_113 rfl ?_
    refine wa_iload_n dX12_swaps_115 4 rfl rfl ?_
    refine wa_imul dX12_swaps_116 ?_
    refine wa_iload_n dX12_swaps_117 3 rfl rfl ?_
    refine wa_iadd dX12_swaps_118 ?_
    refine wa_iload dX12_swaps_119 0 rfl ?_
    obtain ⟨hi9, hF⟩ := hF
    refine wb_iast (j := ((35 * x3) + x2).toNatClampNeg) dX12_swaps_121 rfl hi9 rfl ?_
    refine wa_iinc (v := x3 + 1) (lv' := [(3, .int (x3 + 1)), (4, .int (M 145 (((35 * x3) + x1).toNatClampNeg))), (0, .ref 118), (1, .int x1), (2, .int x2)]) dX12_swaps_122 4 rfl rfl rfl rfl ?_
    refine wa_goto (tgt := 66) dX12_swaps_125 rfl ?_
    exact wa_pick [2, 3, 4, 0] rfl hF

theorem eX12_swaps {X : a_X} {ad : Nat → Nat} {ca : Nat → ClassId} {d : Nat} {Post : Option Value → a_M → a_P → Prop} {x : Nat} {M : a_M} (x1 : Int32) (x2 : Int32) (h : WA X ad ca LY RX12 cX12_swaps 5 none d 0 0 (a_E X ad ca LY Post) 0 [(0, .ref 118), (1, .int x1), (2, .int x2)] [] M (PT x)) : Mt X ad ca LY d yX12_swaps cX12_swaps 5 none [.ref 118, .int x1, .int x2] M (PT x) Post := Mt.of (lv := [(0, .ref 118), (1, .int x1), (2, .int x2)]) (by decide +kernel) rfl rfl rfl (wa_pick [0, 1, 2] rfl h)
