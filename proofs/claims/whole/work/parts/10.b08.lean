theorem bX11_isTrue_0 {X : a_X} {ad : Nat → Nat} {ca : Nat → ClassId} {d : Nat} {Post : Option Value → a_M → a_P → Prop} {x : Nat} {M : a_M} (x1 : Int32) (x2 : Int32)  (hF : ((¬ x2 = (-1) → (∃ Q1 : a_M → Prop, Mt X ad ca LY d yX6_copyFrom cX6_copyFrom 2 none [.ref 41, .ref 45] M (PT x) (q_v (PT x) Q1) ∧ ∀ M1, Q1 M1 → (∃ Q2 : a_M → Prop, Mt X ad ca LY d yX8_look cX8_look 4 none [.ref 23, .ref 41, .int x1, .int (-1)] (ms (ms M1 41 1 1) 41 4 1) (PT x) (q_v (PT x) Q2) ∧ ∀ M2, Q2 M2 → (∃ Q3 : Int32 → a_M → Prop, Mt X ad ca LY d yX8_valueAt cX8_valueAt 4 (some FieldType.int) [.ref 23, .int x2] M2 (PT x) (q_i (PT x) Q3) ∧ ∀ v3 M3, Q3 v3 M3 → ((¬ v3 = 0 → Post (some (.int 0)) M3 (PT x)) ∧ (v3 = 0 → Post (some (.int 1)) M3 (PT x))))))) ∧ (x2 = (-1) → Post (some (.int 0)) M (PT x)))) : WA X ad ca LY RX11 cX11_isTrue 3 (some FieldType.int) (d + 1) 0 0 (a_E X ad ca LY Post) 0 [(0, .ref 0), (1, .int x1), (2, .int x2)] [] M (PT x) := by
  refine wa_iload_n dX11_isTrue_0 2 rfl rfl ?_
  refine wa_iconst (v := (-1)) dX11_isTrue_1 rfl ?_
  refine wa_icmp_ne (tgt := 7) dX11_isTrue_2 rfl (fun hc => ?_) (fun hc => ?_)
  · replace hF := hF.1 hc
    refine wa_aload_n dX11_isTrue_7 0 rfl rfl ?_
    refine wa_getr (r := 41) dX11_isTrue_8 fkX11_76 rfl rfl rfl ?_
    refine wa_aload_n dX11_isTrue_11 0 rfl rfl ?_
    refine wa_getr (r := 44) dX11_isTrue_12 fkX11_101 rfl rfl rfl ?_
    refine wa_getr (r := 45) dX11_isTrue_15 fkX11_108 rfl rfl rfl ?_
    obtain ⟨Q1, hM9, hF⟩ := hF
    refine wa_callV [.ref 45] dX11_isTrue_18 (mmX6_copyFrom _ _) mlX11_364 mnX6_copyFrom mseX6_copyFrom rfl rfl rfl rfl (a_dlt d) rfl rfl hM9 ?_
    rintro r9 M1 P9 ⟨rfl, rfl, hq9⟩
    replace hF := hF M1 hq9
    simp only [Option.toList, List.nil_append]
    refine wa_aload_n dX11_isTrue_21 0 rfl rfl ?_
    refine wa_getr (r := 41) dX11_isTrue_22 fkX11_76 rfl rfl rfl ?_
    refine wa_iconst (v := 1) dX11_isTrue_25 rfl ?_
    refine wb_putz dX11_isTrue_26 fkX11_115 fmX6_1 rfl rfl (Or.inr rfl) ?_
    refine wa_aload_n dX11_isTrue_29 0 rfl rfl ?_
    refine wa_getr (r := 41) dX11_isTrue_30 fkX11_76 rfl rfl rfl ?_
    refine wa_iconst (v := 1) dX11_isTrue_33 rfl ?_
    refine wb_puti dX11_isTrue_34 fkX11_135 fmX6_4 rfl rfl ?_
    refine wa_aload_n dX11_isTrue_37 0 rfl rfl ?_
    refine wa_getr (r := 23) dX11_isTrue_38 fkX11_55 rfl rfl rfl ?_
    refine wa_aload_n dX11_isTrue_41 0 rfl rfl ?_
    refine wa_getr (r := 41) dX11_isTrue_42 fkX11_76 rfl rfl rfl ?_
    refine wa_iload_n dX11_isTrue_45 1 rfl rfl ?_
    refine wa_iconst (v := (-1)) dX11_isTrue_46 rfl ?_
    obtain ⟨Q2, hM9, hF⟩ := hF
    refine wa_callV [.ref 41, .int x1, .int (-1)] dX11_isTrue_47 (mmX8_look _ _) mlX11_230 mnX8_look mseX8_look rfl rfl rfl rfl (a_dlt d) rfl rfl hM9 ?_
    rintro r9 M2 P9 ⟨rfl, rfl, hq9⟩
    replace hF := hF M2 hq9
    simp only [Option.toList, List.nil_append]
    refine wa_aload_n dX11_isTrue_50 0 rfl rfl ?_
    refine wa_getr (r := 23) dX11_isTrue_51 fkX11_55 rfl rfl rfl ?_
    refine wa_iload_n dX11_isTrue_54 2 rfl rfl ?_
    obtain ⟨Q3, hM9, hF⟩ := hF
    refine wa_callV [.int x2] dX11_isTrue_55 (mmX8_valueAt _ _) mlX11_367 mnX8_valueAt mseX8_valueAt rfl rfl rfl rfl (a_dlt d) rfl rfl hM9 ?_
    rintro r9 M3 P9 ⟨v3, rfl, rfl, hq9⟩
    replace hF := hF v3 M3 hq9
    simp only [Option.toList, List.cons_append, List.nil_append]
    refine wa_if_ne (tgt := 65) dX11_isTrue_58 rfl (fun hc => ?_) (fun hc => ?_)
    · replace hF := hF.1 hc
      refine wa_iconst (v := 0) dX11_isTrue_65 rfl ?_
      exact wa_iret dX11_isTrue_66 rfl rfl hF
    · replace hF := hF.2 hc
      refine wa_iconst (v := 1) dX11_isTrue_61 rfl ?_
      refine wa_goto (tgt := 66) dX11_isTrue_62 rfl ?_
      exact wa_iret dX11_isTrue_66 rfl rfl hF
  · replace hF := hF.2 hc
    refine wa_iconst (v := 0) dX11_isTrue_5 rfl ?_
    exact wa_iret dX11_isTrue_6 rfl rfl hF

theorem eX11_isTrue {X : a_X} {ad : Nat → Nat} {ca : Nat → ClassId} {d : Nat} {Post : Option Value → a_M → a_P → Prop} {x : Nat} {M : a_M} (x1 : Int32) (x2 : Int32) (h : WA X ad ca LY RX11 cX11_isTrue 3 (some FieldType.int) d 0 0 (a_E X ad ca LY Post) 0 [(0, .ref 0), (1, .int x1), (2, .int x2)] [] M (PT x)) : Mt X ad ca LY d yX11_isTrue cX11_isTrue 3 (some FieldType.int) [.ref 0, .int x1, .int x2] M (PT x) Post := Mt.of (lv := [(0, .ref 0), (1, .int x1), (2, .int x2)]) (by decide +kernel) rfl rfl rfl (wa_pick [0, 1, 2] rfl h)

theorem bX11_isPrime_0 {X : a_X} {ad : Nat → Nat} {ca : Nat → ClassId} {d : Nat} {kc ks : Nat} {QF : List Frame → Array Value → State → State → Prop} {x : Nat} {M : a_M} (x0 : Int32)  (hF : ((x0 < 5 → WA X ad ca LY RX11 cX11_isPrime 2 (some FieldType.boolean) (d + 1) kc ks QF 11 [] [] M (PT x)) ∧ (¬ x0 < 5 → ((x0 ≤ 97 → WA X ad ca LY RX11 cX11_isPrime 2 (some FieldType.boolean) (d + 1) kc ks QF 15 [(0, .int x0), (1, .int 2)] [] M (PT x)) ∧ (¬ x0 ≤ 97 → WA X ad ca LY RX11 cX11_isPrime 2 (some FieldType.boolean) (d + 1) kc ks QF 11 [] [] M (PT x)))))) : WA X ad ca LY RX11 cX11_isPrime 2 (some FieldType.boolean) (d + 1) kc ks QF 0 [(0, .int x0)] [] M (PT x) := by
  refine wa_iload_n dX11_isPrime_0 0 rfl rfl ?_
  refine wa_iconst (v := 5) dX11_isPrime_1 rfl ?_
  refine wa_icmp_lt (tgt := 11) dX11_isPrime_2 rfl (fun hc => ?_) (fun hc => ?_)
  · replace hF := hF.1 hc
    exact wa_pick [] rfl hF
  · replace hF := hF.2 hc
    refine wa_iload_n dX11_isPrime_5 0 rfl rfl ?_
    refine wa_bipush (v := 97) dX11_isPrime_6 rfl ?_
    refine wa_icmp_le (tgt := 13) dX11_isPrime_8 rfl (fun hc => ?_) (fun hc => ?_)
    · replace hF := hF.1 hc
      refine wa_iconst (v := 2) dX11_isPrime_13 rfl ?_
      refine wa_istore_n (lv' := [(1, .int 2), (0, .int x0)]) dX11_isPrime_14 rfl rfl rfl ?_
      exact wa_pick [1, 0] rfl hF
    · replace hF := hF.2 hc
      exact wa_pick [] rfl hF

theorem bX11_isPrime_11 {X : a_X} {ad : Nat → Nat} {ca : Nat → ClassId} {d : Nat} {Post : Option Value → a_M → a_P → Prop} {x : Nat} {M : a_M}   (hF : Post (some (.int 0)) M (PT x)) : WA X ad ca LY RX11 cX11_isPrime 2 (some FieldType.boolean) (d + 1) 0 0 (a_E X ad ca LY Post) 11 [] [] M (PT x) := by
  refine wa_iconst (v := 0) dX11_isPrime_11 rfl ?_
  exact wa_iret dX11_isPrime_12 rfl rfl hF

theorem bX11_isPrime_15 {X : a_X} {ad : Nat → Nat} {ca : Nat → ClassId} {d : Nat} {Post : Option Value → a_M → a_P → Prop} {x : Nat} {M : a_M} (x0 : Int32) (x1 : Int32)  (hF : ((x0 < (x1 * x1) → Post (some (.int 1)) M (PT x)) ∧ (¬ x0 < (x1 * x1) → (¬ x1 = 0 ∧ ((¬ (x0 - x0 / x1 * x1) = 0 → WA X ad ca LY RX11 cX11_isPrime 2 (some FieldType.boolean) (d + 1) 0 0 (a_E X ad ca LY Post) 15 [(0, .int x0), (1, .int (x1 + 1))] [] M (PT x)) ∧ ((x0 - x0 / x1 * x1) = 0 → Post (some (.int 0)) M (PT x))))))) : WA X ad ca LY RX11 cX11_isPrime 2 (some FieldType.boolean) (d + 1) 0 0 (a_E X ad ca LY Post) 15 [(0, .int x0), (1, .int x1)] [] M (PT x) := by
  refine wa_iload_n dX11_isPrime_15 1 rfl rfl ?_
  refine wa_iload_n dX11_isPrime_16 1 rfl rfl ?_
  refine wa_imul dX11_isPrime_17 ?_
  refine wa_iload_n dX11_isPrime_18 0 rfl rfl ?_
  refine wa_icmp_gt (tgt := 36) dX11_isPrime_19 rfl (fun hc => ?_) (fun hc => ?_)
  · replace hF := hF.1 hc
    refine wa_iconst (v := 1) dX11_isPrime_36 rfl ?_
    exact wa_iret dX11_isPrime_37 rfl rfl hF
  · replace hF := hF.2 hc
    refine wa_iload_n dX11_isPrime_22 0 rfl rfl ?_
    refine wa_iload_n dX11_isPrime_23 1 rfl rfl ?_
    obtain ⟨hn9, hF⟩ := hF
    refine wa_irem dX11_isPrime_24 hn9 ?_
    refine wa_if_ne (tgt := 30) dX11_isPrime_25 rfl (fun hc => ?_) (fun hc => ?_)
    · replace hF := hF.1 hc
      refine wa_iinc (v := x1 + 1) (lv' := [(1, .int (x1 + 1)), (0, .int x0)]) dX11_isPrime_30 1 rfl rfl rfl rfl ?_
      refine wa_goto (tgt := 15) dX11_isPrime_33 rfl ?_
      exact wa_pick [1, 0] rfl hF
    · replace hF := hF.2 hc
      refine wa_iconst (v := 0) dX11_isPrime_28 rfl ?_
      exact wa_iret dX11_isPrime_29 rfl rfl hF

theorem eX11_isPrime {X : a_X} {ad : Nat → Nat} {ca : Nat → ClassId} {d : Nat} {Post : Option Value → a_M → a_P → Prop} {x : Nat} {M : a_M} (x0 : Int32) (h : WA X ad ca LY RX11 cX11_isPrime 2 (some FieldType.boolean) d 0 0 (a_E X ad ca LY Post) 0 [(0, .int x0)] [] M (PT x)) : Mt X ad ca LY d yX11_isPrime cX11_isPrime 2 (some FieldType.boolean) [.int x0] M (PT x) Post := Mt.of (lv := [(0, .int x0)]) (by decide +kernel) rfl rfl rfl (wa_pick [0] rfl h)

theorem bX11_left_0 {X : a_X} {ad : Nat → Nat} {ca : Nat → ClassId} {d : Nat} {Post : Option Value → a_M → a_P → Prop} {x : Nat} {M : a_M} (x0 : Int32) (x1 : Int32)  (hF : ((0 < x1 → (¬ x1 = 0 ∧ ((0 ≤ (x0 - x0 / x1 * x1) → Post (some (.int (x0 - x0 / x1 * x1))) M (PT x)) ∧ (¬ 0 ≤ (x0 - x0 / x1 * x1) → Post (some (.int ((x0 - x0 / x1 * x1) + x1))) M (PT x))))) ∧ (¬ 0 < x1 → Post (some (.int 0)) M (PT x)))) : WA X ad ca LY RX11 cX11_left 3 (some FieldType.int) (d + 1) 0 0 (a_E X ad ca LY Post) 0 [(0, .int x0), (1, .int x1)] [] M (PT x) := by
  refine wa_iload_n dX11_left_0 1 rfl rfl ?_
  refine wa_if_gt (tgt := 6) dX11_left_1 rfl (fun hc => ?_) (fun hc => ?_)
  · replace hF := hF.1 hc
    refine wa_iload_n dX11_left_6 0 rfl rfl ?_
    refine wa_iload_n dX11_left_7 1 rfl rfl ?_
    obtain ⟨hn9, hF⟩ := hF
    refine wa_irem dX11_left_8 hn9 ?_
    refine wa_istore_n (lv' := [(2, .int (x0 - x0 / x1 * x1)), (0, .int x0), (1, .int x1)]) dX11_left_9 rfl rfl rfl ?_
    refine wa_iload_n dX11_left_10 0 rfl rfl ?_
    refine wa_if_ge (tgt := 20) dX11_left_11 rfl (fun hc => ?_) (fun hc => ?_)
    · replace hF := hF.1 hc
      refine wa_iload_n dX11_left_20 0 rfl rfl ?_
      exact wa_iret dX11_left_21 rfl rfl hF
    · replace hF := hF.2 hc
      refine wa_iload_n dX11_left_14 0 rfl rfl ?_
      refine wa_iload_n dX11_left_15 2 rfl rfl ?_
      refine wa_iadd dX11_left_16 ?_
      refine wa_goto (tgt := 21) dX11_left_17 rfl ?_
      exact wa_iret dX11_left_21 rfl rfl hF
  · replace hF := hF.2 hc
    refine wa_iconst (v := 0) dX11_left_4 rfl ?_
    exact wa_iret dX11_left_5 rfl rfl hF

theorem eX11_left {X : a_X} {ad : Nat → Nat} {ca : Nat → ClassId} {d : Nat} {Post : Option Value → a_M → a_P → Prop} {x : Nat} {M : a_M} (x0 : Int32) (x1 : Int32) (h : WA X ad ca LY RX11 cX11_left 3 (some FieldType.int) d 0 0 (a_E X ad ca LY Post) 0 [(0, .int x0), (1, .int x1)] [] M (PT x)) : Mt X ad ca LY d yX11_left cX11_left 3 (some FieldType.int) [.int x0, .int x1] M (PT x) Post := Mt.of (lv := [(0, .int x0), (1, .int x1)]) (by decide +kernel) rfl rfl rfl (wa_pick [0, 1] rfl h)

theorem bX11_raised_0 {X : a_X} {ad : Nat → Nat} {ca : Nat → ClassId} {d : Nat} {Post : Option Value → a_M → a_P → Prop} {x : Nat} {M : a_M} (x0 : Int32) (x1 : Int32) (x2 : Int32)  (hF : ((0 < x2 → (¬ x2 = 0 ∧ WA X ad ca LY RX11 cX11_raised 6 (some FieldType.int) (d + 1) 0 0 (a_E X ad ca LY Post) 16 [(2, .int x2), (3, .int 1), (4, .int (x0 - x0 / x2 * x2)), (5, .int x1)] [] M (PT x))) ∧ (¬ 0 < x2 → Post (some (.int 0)) M (PT x)))) : WA X ad ca LY RX11 cX11_raised 6 (some FieldType.int) (d + 1) 0 0 (a_E X ad ca LY Post) 0 [(0, .int x0), (1, .int x1), (2, .int x2)] [] M (PT x) := by
  refine wa_iload_n dX11_raised_0 2 rfl rfl ?_
  refine wa_if_gt (tgt := 6) dX11_raised_1 rfl (fun hc => ?_) (fun hc => ?_)
  · replace hF := hF.1 hc
    refine wa_iconst (v := 1) dX11_raised_6 rfl ?_
    refine wa_istore_n (lv' := [(3, .int 1), (0, .int x0), (1, .int x1), (2, .int x2)]) dX11_raised_7 rfl rfl rfl ?_
    refine wa_iload_n dX11_raised_8 1 rfl rfl ?_
    refine wa_iload_n dX11_raised_9 3 rfl rfl ?_
    obtain ⟨hn9, hF⟩ := hF
    refine wa_irem dX11_raised_10 hn9 ?_
    refine wa_istore (lv' := [(4, .int (x0 - x0 / x2 * x2)), (3, .int 1), (0, .int x0), (1, .int x1), (2, .int x2)]) dX11_raised_11 rfl rfl ?_
    refine wa_iload_n dX11_raised_13 3 rfl rfl ?_
    refine wa_istore (lv' := [(5, .int x1), (4, .int (x0 - x0 / x2 * x2)), (3, .int 1), (0, .int x0), (1, .int x1), (2, .int x2)]) dX11_raised_14 rfl rfl ?_
    exact wa_pick [5, 2, 1, 0] rfl hF
  · replace hF := hF.2 hc
    refine wa_iconst (v := 0) dX11_raised_4 rfl ?_
    exact wa_iret dX11_raised_5 rfl rfl hF

theorem bX11_raised_16 {X : a_X} {ad : Nat → Nat} {ca : Nat → ClassId} {d : Nat} {Post : Option Value → a_M → a_P → Prop} {x : Nat} {M : a_M} (x2 : Int32) (x3 : Int32) (x4 : Int32) (x5 : Int32)  (hF : ((x5 ≤ 0 → Post (some (.int x3)) M (PT x)) ∧ (¬ x5 ≤ 0 → ((¬ (x5 &&& 1) = 1 → WA X ad ca LY RX11 cX11_raised 6 (some FieldType.int) (d + 1) 0 0 (a_E X ad ca LY Post) 36 [(2, .int x2), (3, .int x3), (4, .int x4), (5, .int x5)] [] M (PT x)) ∧ ((x5 &&& 1) = 1 → (¬ x2 = 0 ∧ WA X ad ca LY RX11 cX11_raised 6 (some FieldType.int) (d + 1) 0 0 (a_E X ad ca LY Post) 36 [(2, .int x2), (3, .int ((x3 * x4) - (x3 * x4) / x2 * x2)), (4, .int x4), (5, .int x5)] [] M (PT x))))))) : WA X ad ca LY RX11 cX11_raised 6 (some FieldType.int) (d + 1) 0 0 (a_E X ad ca LY Post) 16 [(2, .int x2), (3, .int x3), (4, .int x4), (5, .int x5)] [] M (PT x) := by
  refine wa_iload dX11_raised_16 3 rfl ?_
  refine wa_if_le (tgt := 54) dX11_raised_18 rfl (fun hc => ?_) (fun hc => ?_)
  · replace hF := hF.1 hc
    refine wa_iload_n dX11_raised_54 1 rfl rfl ?_
    exact wa_iret dX11_raised_55 rfl rfl hF
  · replace hF := hF.2 hc
    refine wa_iload dX11_raised_21 3 rfl ?_
    refine wa_iconst (v := 1) dX11_raised_23 rfl ?_
    refine wa_iand dX11_raised_24 ?_
    refine wa_iconst (v := 1) dX11_raised_25 rfl ?_
    refine wa_icmp_ne (tgt := 36) dX11_raised_26 rfl (fun hc => ?_) (fun hc => ?_)
    · replace hF := hF.1 hc
      exact hF
    · replace hF := hF.2 hc
      refine wa_iload_n dX11_raised_29 1 rfl rfl ?_
      refine wa_iload dX11_raised_30 2 rfl ?_
      refine wa_imul dX11_raised_32 ?_
      refine wa_iload_n dX11_raised_33 0 rfl rfl ?_
      obtain ⟨hn9, hF⟩ := hF
      refine wa_irem dX11_raised_34 hn9 ?_
      refine wa_istore_n (lv' := [(3, .int ((x3 * x4) - (x3 * x4) / x2 * x2)), (2, .int x2), (4, .int x4), (5, .int x5)]) dX11_raised_35 rfl rfl rfl ?_
      exact wa_pick [1, 0, 2, 3] rfl hF

theorem bX11_raised_36 {X : a_X} {ad : Nat → Nat} {ca : Nat → ClassId} {d : Nat} {kc ks : Nat} {QF : List Frame → Array Value → State → State → Prop} {x : Nat} {M : a_M} (x2 : Int32) (x3 : Int32) (x4 : Int32) (x5 : Int32)  (hF : (¬ x2 = 0 ∧ WA X ad ca LY RX11 cX11_raised 6 (some FieldType.int) (d + 1) kc ks QF 16 [(2, .int x2), (3, .int x3), (4, .int ((x4 * x4) - (x4 * x4) / x2 * x2)), (5, .int (x5 >>> (1 &&& 31)))] [] M (PT x))) : WA X ad ca LY RX11 cX11_raised 6 (some FieldType.int) (d + 1) kc ks QF 36 [(2, .int x2), (3, .int x3), (4, .int x4), (5, .int x5)] [] M (PT x) := by
  refine wa_iload dX11_raised_36 2 rfl ?_
  refine wa_iload dX11_raised_38 2 rfl ?_
  refine wa_imul dX11_raised_40 ?_
  refine wa_iload_n dX11_raised_41 0 rfl rfl ?_
  obtain ⟨hn9, hF⟩ := hF
  refine wa_irem dX11_raised_42 hn9 ?_
  refine wa_istore (lv' := [(4, .int ((x4 * x4) - (x4 * x4) / x2 * x2)), (2, .int x2), (3, .int x3), (5, .int x5)]) dX11_raised_43 rfl rfl ?_
  refine wa_iload dX11_raised_45 3 rfl ?_
  refine wa_iconst (v := 1) dX11_raised_47 rfl ?_
  refine wa_ishr dX11_raised_48 ?_
  refine wa_istore (lv' := [(5, .int (x5 >>> (1 &&& 31))), (4, .int ((x4 * x4) - (x4 * x4) / x2 * x2)), (2, .int x2), (3, .int x3)]) dX11_raised_49 rfl rfl ?_
  refine wa_goto (tgt := 16) dX11_raised_51 rfl ?_
  exact wa_pick [2, 3, 1, 0] rfl hF

theorem eX11_raised {X : a_X} {ad : Nat → Nat} {ca : Nat → ClassId} {d : Nat} {Post : Option Value → a_M → a_P → Prop} {x : Nat} {M : a_M} (x0 : Int32) (x1 : Int32) (x2 : Int32) (h : WA X ad ca LY RX11 cX11_raised 6 (some FieldType.int) d 0 0 (a_E X ad ca LY Post) 0 [(0, .int x0), (1, .int x1), (2, .int x2)] [] M (PT x)) : Mt X ad ca LY d yX11_raised cX11_raised 6 (some FieldType.int) [.int x0, .int x1, .int x2] M (PT x) Post := Mt.of (lv := [(0, .int x0), (1, .int x1), (2, .int x2)]) (by decide +kernel) rfl rfl rfl (wa_pick [0, 1, 2] rfl h)

theorem bX11_over_0 {X : a_X} {ad : Nat → Nat} {ca : Nat → ClassId} {d : Nat} {Post : Option Value → a_M → a_P → Prop} {x : Nat} {M : a_M} (x0 : Int32) (x1 : Int32) (x2 : Int32)  (hF : (∃ Q1 : Int32 → a_M → Prop, Mt X ad ca LY d yX11_raised cX11_raised 6 (some FieldType.int) [.int x1, .int (x2 - 2), .int x2] M (PT x) (q_i (PT x) Q1) ∧ ∀ v1 M1, Q1 v1 M1 → (∃ Q2 : Int32 → a_M → Prop, Mt X ad ca LY d yX11_left cX11_left 3 (some FieldType.int) [.int (x0 * v1), .int x2] M1 (PT x) (q_i (PT x) Q2) ∧ ∀ v2 M2, Q2 v2 M2 → Post (some (.int v2)) M2 (PT x)))) : WA X ad ca LY RX11 cX11_over 3 (some FieldType.int) (d + 1) 0 0 (a_E X ad ca LY Post) 0 [(0, .int x0), (1, .int x1), (2, .int x2)] [] M (PT x) := by
  refine wa_iload_n dX11_over_0 0 rfl rfl ?_
  refine wa_iload_n dX11_over_1 1 rfl rfl ?_
  refine wa_iload_n dX11_over_2 2 rfl rfl ?_
  refine wa_iconst (v := 2) dX11_over_3 rfl ?_
  refine wa_isub dX11_over_4 ?_
  refine wa_iload_n dX11_over_5 2 rfl rfl ?_
  obtain ⟨Q1, hM9, hF⟩ := hF
  refine wa_callS [.int x1, .int (x2 - 2), .int x2] dX11_over_6 (mmX11_raised _ _) mlX11_370 mstX11_raised rfl (a_dlt d) rfl rfl hM9 ?_
  rintro r9 M1 P9 ⟨v1, rfl, rfl, hq9⟩
  replace hF := hF v1 M1 hq9
  simp only [Option.toList, List.cons_append, List.nil_append]
  refine wa_imul dX11_over_9 ?_
  refine wa_iload_n dX11_over_10 2 rfl rfl ?_
  obtain ⟨Q2, hM9, hF⟩ := hF
  refine wa_callS [.int (x0 * v1), .int x2] dX11_over_11 (mmX11_left _ _) mlX11_138 mstX11_left rfl (a_dlt d) rfl rfl hM9 ?_
  rintro r9 M2 P9 ⟨v2, rfl, rfl, hq9⟩
  replace hF := hF v2 M2 hq9
  simp only [Option.toList, List.cons_append, List.nil_append]
  exact wa_iret dX11_over_14 rfl rfl hF

theorem eX11_over {X : a_X} {ad : Nat → Nat} {ca : Nat → ClassId} {d : Nat} {Post : Option Value → a_M → a_P → Prop} {x : Nat} {M : a_M} (x0 : Int32) (x1 : Int32) (x2 : Int32) (h : WA X ad ca LY RX11 cX11_over 3 (some FieldType.int) d 0 0 (a_E X ad ca LY Post) 0 [(0, .int x0), (1, .int x1), (2, .int x2)] [] M (PT x)) : Mt X ad ca LY d yX11_over cX11_over 3 (some FieldType.int) [.int x0, .int x1, .int x2] M (PT x) Post := Mt.of (lv := [(0, .int x0), (1, .int x1), (2, .int x2)]) (by decide +kernel) rfl rfl rfl (wa_pick [0, 1, 2] rfl h)

theorem bX11_clear_0 {X : a_X} {ad : Nat → Nat} {ca : Nat → ClassId} {d : Nat} {kc ks : Nat} {QF : List Frame → Array Value → State → State → Prop} {x : Nat} {M : a_M} (o0 : Nat) (no0 : Nat) (hLo0 : LY[o0]? = some (100, no0)) (hF : WA X ad ca LY RX11 cX11_clear 2 none (d + 1) kc ks QF 2 [(0, .ref o0), (1, .int 0)] [] M (PT x)) : WA X ad ca LY RX11 cX11_clear 2 none (d + 1) kc ks QF 0 [(0, .ref o0)] [] M (PT x) := by
  refine wa_iconst (v := 0) dX11_clear_0 rfl ?_
  refine wa_istore_n (lv' := [(1, .int 0), (0, .ref o0)]) dX11_clear_1 rfl rfl rfl ?_
  exact wa_pick [1, 0] rfl hF

theorem bX11_clear_2 {X : a_X} {ad : Nat → Nat} {ca : Nat → ClassId} {d : Nat} {Post : Option Value → a_M → a_P → Prop} {x : Nat} {M : a_M} (o0 : Nat) (no0 : Nat) (x1 : Int32) (hLo0 : LY[o0]? = some (100, no0)) (hF : (((nI no0) ≤ x1 → Post none M (PT x)) ∧ (¬ (nI no0) ≤ x1 → (vp_in x1 no0 ∧ WA X ad ca LY RX11 cX11_clear 2 none (d + 1) 0 0 (a_E X ad ca LY Post) 2 [(0, .ref o0), (1, .int (x1 + 1))] [] (ms M o0 x1.toNatClampNeg 0) (PT x))))) : WA X ad ca LY RX11 cX11_clear 2 none (d + 1) 0 0 (a_E X ad ca LY Post) 2 [(0, .ref o0), (1, .int x1)] [] M (PT x) := by
  refine wa_iload_n dX11_clear_2 1 rfl rfl ?_
  refine wa_aload_n dX11_clear_3 0 rfl rfl ?_
  refine wa_alen (v := nI no0) dX11_clear_4 hLo0 (by decide) rfl ?_
  refine wa_icmp_ge (tgt := 18) dX11_clear_5 rfl (fun hc => ?_) (fun hc => ?_)
  · replace hF := hF.1 hc
    exact wa_vret dX11_clear_18 rfl hF
  · replace hF := hF.2 hc
    refine wa_aload_n dX11_clear_8 0 rfl rfl ?_
    refine wa_iload_n dX11_clear_9 1 rfl rfl ?_
    refine wa_iconst (v := 0) dX11_clear_10 rfl ?_
    obtain ⟨hi9, hF⟩ := hF
    refine wb_iast (j := x1.toNatClampNeg) dX11_clear_11 hLo0 hi9 rfl ?_
    refine wa_iinc (v := x1 + 1) (lv' := [(1, .int (x1 + 1)), (0, .ref o0)]) dX11_clear_12 1 rfl rfl rfl rfl ?_
    refine wa_goto (tgt := 2) dX11_clear_15 rfl ?_
    exact wa_pick [1, 0] rfl hF

theorem eX11_clear {X : a_X} {ad : Nat → Nat} {ca : Nat → ClassId} {d : Nat} {Post : Option Value → a_M → a_P → Prop} {x : Nat} {M : a_M} (o0 : Nat) (h : WA X ad ca LY RX11 cX11_clear 2 none d 0 0 (a_E X ad ca LY Post) 0 [(0, .ref o0)] [] M (PT x)) : Mt X ad ca LY d yX11_clear cX11_clear 2 none [.ref o0] M (PT x) Post := Mt.of (lv := [(0, .ref o0)]) (by decide +kernel) rfl rfl rfl (wa_pick [0] rfl h)

theorem bX12_in_0 {X : a_X} {ad : Nat → Nat} {ca : Nat → ClassId} {d : Nat} {Post : Option Value → a_M → a_P → Prop} {x : Nat} {M : a_M} (x0 : Int32) (x1 : Int32) (x2 : Int32)  (hF : ((x0 < x1 → WA X ad ca LY RX12 cX12_in 3 (some FieldType.boolean) (d + 1) 0 0 (a_E X ad ca LY Post) 14 [] [] M (PT x)) ∧ (¬ x0 < x1 → ((x2 < x0 → WA X ad ca LY RX12 cX12_in 3 (some FieldType.boolean) (d + 1) 0 0 (a_E X ad ca LY Post) 14 [] [] M (PT x)) ∧ (¬ x2 < x0 → Post (some (.int 1)) M (PT x)))))) : WA X ad ca LY RX12 cX12_in 3 (some FieldType.boolean) (d + 1) 0 0 (a_E X ad ca LY Post) 0 [(0, .int x0), (1, .int x1), (2, .int x2)] [] M (PT x) := by
  refine wa_iload_n dX12_in_0 0 rfl rfl ?_
  refine wa_iload_n dX12_in_1 1 rfl rfl ?_
  refine wa_icmp_lt (tgt := 14) dX12_in_2 rfl (fun hc => ?_) (fun hc => ?_)
  · replace hF := hF.1 hc
    exact wa_pick [] rfl hF
  · replace hF := hF.2 hc
    refine wa_iload_n dX12_in_5 0 rfl rfl ?_
    refine wa_iload_n dX12_in_6 2 rfl rfl ?_
    refine wa_icmp_gt (tgt := 14) dX12_in_7 rfl (fun hc => ?_) (fun hc => ?_)
    · replace hF := hF.1 hc
      exact wa_pick [] rfl hF
    · replace hF := hF.2 hc
      refine wa_iconst (v := 1) dX12_in_10 rfl ?_
      refine wa_goto (tgt := 15) dX12_in_11 rfl ?_
      exact wa_iret dX12_in_15 rfl rfl hF

theorem bX12_in_14 {X : a_X} {ad : Nat → Nat} {ca : Nat → ClassId} {d : Nat} {Post : Option Value → a_M → a_P → Prop} {x : Nat} {M : a_M}   (hF : Post (some (.int 0)) M (PT x)) : WA X ad ca LY RX12 cX12_in 3 (some FieldType.boolean) (d + 1) 0 0 (a_E X ad ca LY Post) 14 [] [] M (PT x) := by
  refine wa_iconst (v := 0) dX12_in_14 rfl ?_
  exact wa_iret dX12_in_15 rfl rfl hF

theorem eX12_in {X : a_X} {ad : Nat → Nat} {ca : Nat → ClassId} {d : Nat} {Post : Option Value → a_M → a_P → Prop} {x : Nat} {M : a_M} (x0 : Int32) (x1 : Int32) (x2 : Int32) (h : WA X ad ca LY RX12 cX12_in 3 (some FieldType.boolean) d 0 0 (a_E X ad ca LY Post) 0 [(0, .int x0), (1, .int x1), (2, .int x2)] [] M (PT x)) : Mt X ad ca LY d yX12_in cX12_in 3 (some FieldType.boolean) [.int x0, .int x1, .int x2] M (PT x) Post := Mt.of (lv := [(0, .int x0), (1, .int x1), (2, .int x2)]) (by decide +kernel) rfl rfl rfl (wa_pick [0, 1, 2] rfl h)

theorem bX12_copies_0 {X : a_X} {ad : Nat → Nat} {ca : Nat → ClassId} {d : Nat} {kc ks : Nat} {QF : List Frame → Array Value → State → State → Prop} {x : Nat} {M : a_M} (x1 : Int32)  (hF : WA X ad ca LY RX12 cX12_copies 3 none (d + 1) kc ks QF 2 [(0, .ref 118), (1, .int x1), (2, .int 0)] [] M (PT x)) : WA X ad ca LY RX12 cX12_copies 3 none (d + 1) kc ks QF 0 [(0, .ref 118), (1, .int x1)] [] M (PT x) := by
  refine wa_iconst (v := 0) dX12_copies_0 rfl ?_
  refine wa_istore_n (lv' := [(2, .int 0), (0, .ref 118), (1, .int x1)]) dX12_copies_1 rfl rfl rfl ?_
  exact wa_pick [1, 2, 0] rfl hF

theorem bX12_copies_2 {X : a_X} {ad : Nat → Nat} {ca : Nat → ClassId} {d : Nat} {Post : Option Value → a_M → a_P → Prop} {x : Nat} {M : a_M} (x1 : Int32) (x2 : Int32)  (hF : ((2698 ≤ x2 → Post none M (PT x)) ∧ (¬ 2698 ≤ x2 → ((x1 = 0 → (vp_in x2 2698 ∧ (vp_in x2 2698 ∧ WA X ad ca LY RX12 cX12_copies 3 none (d + 1) 0 0 (a_E X ad ca LY Post) 40 [(0, .ref 118), (1, .int x1), (2, .int x2)] [] (ms M 119 x2.toNatClampNeg (M 120 x2.toNatClampNeg)) (PT x)))) ∧ (¬ x1 = 0 → (vp_in x2 2698 ∧ (vp_in x2 2698 ∧ WA X ad ca LY RX12 cX12_copies 3 none (d + 1) 0 0 (a_E X ad ca LY Post) 40 [(0, .ref 118), (1, .int x1), (2, .int x2)] [] (ms M 120 x2.toNatClampNeg (M 119 x2.toNatClampNeg)) (PT x)))))))) : WA X ad ca LY RX12 cX12_copies 3 none (d + 1) 0 0 (a_E X ad ca LY Post) 2 [(0, .ref 118), (1, .int x1), (2, .int x2)] [] M (PT x) := by
  refine wa_iload_n dX12_copies_2 2 rfl rfl ?_
  refine wa_sipush (v := 2698) dX12_copies_3 rfl ?_
  refine wa_icmp_ge (tgt := 46) dX12_copies_6 rfl (fun hc => ?_) (fun hc => ?_)
  · replace hF := hF.1 hc
    exact wa_vret dX12_copies_46 rfl hF
  · replace hF := hF.2 hc
    refine wa_iload_n dX12_copies_9 1 rfl rfl ?_
    refine wa_if_eq (tgt := 28) dX12_copies_10 rfl (fun hc => ?_) (fun hc => ?_)
    · replace hF := hF.1 hc
      refine wa_aload_n dX12_copies_28 0 rfl rfl ?_
      refine wa_getr (r := 119) dX12_copies_29 fkX12_7 rfl rfl rfl ?_
      refine wa_iload_n dX12_copies_32 2 rfl rfl ?_
      refine wa_aload_n dX12_copies_33 0 rfl rfl ?_
      refine wa_getr (r := 120) dX12_copies_34 fkX12_13 rfl rfl rfl ?_
      refine wa_iload_n dX12_copies_37 2 rfl rfl ?_
      obtain ⟨hi9, hF⟩ := hF
      refine wb_iald (j := x2.toNatClampNeg) (v := M 120 x2.toNatClampNeg) dX12_copies_38 rfl hi9 rfl rfl ?_
      obtain ⟨hi9, hF⟩ := hF
      refine wb_iast (j := x2.toNatClampNeg) dX12_copies_39 rfl hi9 rfl ?_
      exact hF
    · replace hF := hF.2 hc
      refine wa_aload_n dX12_copies_13 0 rfl rfl ?_
      refine wa_getr (r := 120) dX12_copies_14 fkX12_13 rfl rfl rfl ?_
      refine wa_iload_n dX12_copies_17 2 rfl rfl ?_
      refine wa_aload_n dX12_copies_18 0 rfl rfl ?_
      refine wa_getr (r := 119) dX12_copies_19 fkX12_7 rfl rfl rfl ?_
      refine wa_iload_n dX12_copies_22 2 rfl rfl ?_
      obtain ⟨hi9, hF⟩ := hF
      refine wb_iald (j := x2.toNatClampNeg) (v := M 119 x2.toNatClampNeg) dX12_copies_23 rfl hi9 rfl rfl ?_
      obtain ⟨hi9, hF⟩ := hF
      refine wb_iast (j := x2.toNatClampNeg) dX12_copies_24 rfl hi9 rfl ?_
      refine wa_goto (tgt := 40) dX12_copies_25 rfl ?_
      exact hF

theorem bX12_copies_40 {X : a_X} {ad : Nat → Nat} {ca : Nat → ClassId} {d : Nat} {kc ks : Nat} {QF : List Frame → Array Value → State → State → Prop} {x : Nat} {M : a_M} (x1 : Int32) (x2 : Int32)  (hF : WA X ad ca LY RX12 cX12_copies 3 none (d + 1) kc ks QF 2 [(0, .ref 118), (1, .int x1), (2, .int (x2 + 1))] [] M (PT x)) : WA X ad ca LY RX12 cX12_copies 3 none (d + 1) kc ks QF 40 [(0, .ref 118), (1, .int x1), (2, .int x2)] [] M (PT x) := by
  refine wa_iinc (v := x2 + 1) (lv' := [(2, .int (x2 + 1)), (0, .ref 118), (1, .int x1)]) dX12_copies_40 2 rfl rfl rfl rfl ?_
  refine wa_goto (tgt := 2) dX12_copies_43 rfl ?_
  exact wa_pick [1, 2, 0] rfl hF

theorem eX12_copies {X : a_X} {ad : Nat → Nat} {ca : Nat → ClassId} {d : Nat} {Post : Option Value → a_M → a_P → Prop} {x : Nat} {M : a_M} (x1 : Int32) (h : WA X ad ca LY RX12 cX12_copies 3 none d 0 0 (a_E X ad ca LY Post) 0 [(0, .ref 118), (1, .int x1)] [] M (PT x)) : Mt X ad ca LY d yX12_copies cX12_copies 3 none [.ref 118, .int x1] M (PT x) Post := Mt.of (lv := [(0, .ref 118), (1, .int x1)]) (by decide +kernel) rfl rfl rfl (wa_pick [0, 1] rfl h)

theorem bX12_left_0 {X : a_X} {ad : Nat → Nat} {ca : Nat → ClassId} {d : Nat} {Post : Option Value → a_M → a_P → Prop} {x : Nat} {M : a_M} (x1 : Int64)  (hF : (¬ ((M 119 2).toInt64) = 0 ∧ ((0 ≤ ((x1 - x1 / ((M 119 2).toInt64) * ((M 119 2).toInt64)).toInt32) → Post (some (.int ((x1 - x1 / ((M 119 2).toInt64) * ((M 119 2).toInt64)).toInt32))) M (PT x)) ∧ (¬ 0 ≤ ((x1 - x1 / ((M 119 2).toInt64) * ((M 119 2).toInt64)).toInt32) → Post (some (.int (((x1 - x1 / ((M 119 2).toInt64) * ((M 119 2).toInt64)).toInt32) + (M 119 2)))) M (PT x))))) : WA X ad ca LY RX12 cX12_left 4 (some FieldType.int) (d + 1) 0 0 (a_E X ad ca LY Post) 0 [(0, .ref 118), (1, .long x1)] [] M (PT x) := by
  refine wa_lload_n dX12_left_0 1 rfl rfl ?_
  refine wa_aload_n dX12_left_1 0 rfl rfl ?_
  refine wa_getr (r := 119) dX12_left_2 fkX12_7 rfl rfl rfl ?_
  refine wa_iconst (v := 2) dX12_left_5 rfl ?_
  refine wb_iald (j := 2) (v := M 119 2) dX12_left_6 rfl (by unfold vp_in; decide) rfl rfl ?_
  refine wa_i2l dX12_left_7 ?_
  obtain ⟨hn9, hF⟩ := hF
  refine wa_lrem dX12_left_8 hn9 ?_
  refine wa_l2i dX12_left_9 ?_
  refine wa_istore_n (lv' := [(3, .int ((x1 - x1 / ((M 119 2).toInt64) * ((M 119 2).toInt64)).toInt32)), (0, .ref 118), (1, .long x1)]) dX12_left_10 rfl rfl rfl ?_
  refine wa_iload_n dX12_left_11 0 rfl rfl ?_
  refine wa_if_ge (tgt := 26) dX12_left_12 rfl (fun hc => ?_) (fun hc => ?_)
  · replace hF := hF.1 hc
    refine wa_iload_n dX12_left_26 0 rfl rfl ?_
    exact wa_iret dX12_left_27 rfl rfl hF
  · replace hF := hF.2 hc
    refine wa_iload_n dX12_left_15 0 rfl rfl ?_
    refine wa_aload_n dX12_left_16 1 rfl rfl ?_
    refine wa_getr (r := 119) dX12_left_17 fkX12_7 rfl rfl rfl ?_
    refine wa_iconst (v := 2) dX12_left_20 rfl ?_
    refine wb_iald (j := 2) (v := M 119 2) dX12_left_21 rfl (by unfold vp_in; decide) rfl rfl ?_
    refine wa_iadd dX12_left_22 ?_
    refine wa_goto (tgt := 27) dX12_left_23 rfl ?_
    exact wa_iret dX12_left_27 rfl rfl hF

theorem eX12_left {X : a_X} {ad : Nat → Nat} {ca : Nat → ClassId} {d : Nat} {Post : Option Value → a_M → a_P → Prop} {x : Nat} {M : a_M} (x1 : Int64) (h : WA X ad ca LY RX12 cX12_left 4 (some FieldType.int) d 0 0 (a_E X ad ca LY Post) 0 [(0, .ref 118), (1, .long x1)] [] M (PT x)) : Mt X ad ca LY d yX12_left cX12_left 4 (some FieldType.int) [.ref 118, .long x1] M (PT x) Post := Mt.of (lv := [(0, .ref 118), (1, .long x1)]) (by decide +kernel) rfl rfl rfl (wa_pick [0, 1] rfl h)

theorem bX12_over_0 {X : a_X} {ad : Nat → Nat} {ca : Nat → ClassId} {d : Nat} {kc ks : Nat} {QF : List Frame → Array Value → State → State → Prop} {x : Nat} {M : a_M} (x1 : Int32) (x2 : Int32)  (hF : ((x2 = 0 → WA X ad ca LY RX12 cX12_over 4 (some FieldType.int) (d + 1) kc ks QF 26 [(3, .int 0)] [] M (PT x)) ∧ (¬ x2 = 0 → WA X ad ca LY RX12 cX12_over 4 (some FieldType.int) (d + 1) kc ks QF 6 [(0, .ref 118), (1, .int x1), (2, .int x2), (3, .int 0)] [] M (PT x)))) : WA X ad ca LY RX12 cX12_over 4 (some FieldType.int) (d + 1) kc ks QF 0 [(0, .ref 118), (1, .int x1), (2, .int x2)] [] M (PT x) := by
  refine wa_iconst (v := 0) dX12_over_0 rfl ?_
  refine wa_istore_n (lv' := [(3, .int 0), (0, .ref 118), (1, .int x1), (2, .int x2)]) dX12_over_1 rfl rfl rfl ?_
  refine wa_iload_n dX12_over_2 3 rfl rfl ?_
  refine wa_if_eq (tgt := 26) dX12_over_3 rfl (fun hc => ?_) (fun hc => ?_)
  · replace hF := hF.1 hc
    exact wa_pick [0] rfl hF
  · replace hF := hF.2 hc
    exact wa_pick [1, 2, 3, 0] rfl hF

theorem bX12_over_6 {X : a_X} {ad : Nat → Nat} {ca : Nat → ClassId} {d : Nat} {kc ks : Nat} {QF : List Frame → Array Value → State → State → Prop} {x : Nat} {M : a_M} (x1 : Int32) (x2 : Int32) (x3 : Int32)  (hF : (¬ (M 119 2) = 0 ∧ ((((x3 * x2) - (x3 * x2) / (M 119 2) * (M 119 2)) = x1 → WA X ad ca LY RX12 cX12_over 4 (some FieldType.int) (d + 1) kc ks QF 26 [(3, .int x3)] [] M (PT x)) ∧ (¬ ((x3 * x2) - (x3 * x2) / (M 119 2) * (M 119 2)) = x1 → WA X ad ca LY RX12 cX12_over 4 (some FieldType.int) (d + 1) kc ks QF 6 [(0, .ref 118), (1, .int x1), (2, .int x2), (3, .int (x3 + 1))] [] M (PT x))))) : WA X ad ca LY RX12 cX12_over 4 (some FieldType.int) (d + 1) kc ks QF 6 [(0, .ref 118), (1, .int x1), (2, .int x2), (3, .int x3)] [] M (PT x) := by
  refine wa_iload_n dX12_over_6 3 rfl rfl ?_
  refine wa_iload_n dX12_over_7 2 rfl rfl ?_
  refine wa_imul dX12_over_8 ?_
  refine wa_aload_n dX12_over_9 0 rfl rfl ?_
  refine wa_getr (r := 119) dX12_over_10 fkX12_7 rfl rfl rfl ?_
  refine wa_iconst (v := 2) dX12_over_13 rfl ?_
  refine wb_iald (j := 2) (v := M 119 2) dX12_over_14 rfl (by unfold vp_in; decide) rfl rfl ?_
  obtain ⟨hn9, hF⟩ := hF
  refine wa_irem dX12_over_15 hn9 ?_
  refine wa_iload_n dX12_over_16 1 rfl rfl ?_
  refine wa_icmp_eq (tgt := 26) dX12_over_17 rfl (fun hc => ?_) (fun hc => ?_)
  · replace hF := hF.1 hc
    exact wa_pick [3] rfl hF
  · replace hF := hF.2 hc
    refine wa_iinc (v := x3 + 1) (lv' := [(3, .int (x3 + 1)), (0, .ref 118), (1, .int x1), (2, .int x2)]) dX12_over_20 3 rfl rfl rfl rfl ?_
    refine wa_goto (tgt := 6) dX12_over_23 rfl ?_
    exact wa_pick [1, 2, 3, 0] rfl hF

theorem bX12_over_26 {X : a_X} {ad : Nat → Nat} {ca : Nat → ClassId} {d : Nat} {Post : Option Value → a_M → a_P → Prop} {x : Nat} {M : a_M} (x3 : Int32)  (hF : Post (some (.int x3)) M (PT x)) : WA X ad ca LY RX12 cX12_over 4 (some FieldType.int) (d + 1) 0 0 (a_E X ad ca LY Post) 26 [(3, .int x3)] [] M (PT x) := by
  refine wa_iload_n dX12_over_26 0 rfl rfl ?_
  exact wa_iret dX12_over_27 rfl rfl hF

theorem eX12_over {X : a_X} {ad : Nat → Nat} {ca : Nat → ClassId} {d : Nat} {Post : Option Value → a_M → a_P → Prop} {x : Nat} {M : a_M} (x1 : Int32) (x2 : Int32) (h : WA X ad ca LY RX12 cX12_over 4 (some FieldType.int) d 0 0 (a_E X ad ca LY Post) 0 [(0, .ref 118), (1, .int x1), (2, .int x2)] [] M (PT x)) : Mt X ad ca LY d yX12_over cX12_over 4 (some FieldType.int) [.ref 118, .int x1, .int x2] M (PT x) Post := Mt.of (lv := [(0, .ref 118), (1, .int x1), (2, .int x2)]) (by decide +kernel) rfl rfl rfl (wa_pick [0, 1, 2] rfl h)

theorem bX12_raised_0 {X : a_X} {ad : Nat → Nat} {ca : Nat → ClassId} {d : Nat} {kc ks : Nat} {QF : List Frame → Array Value → State → State → Prop} {x : Nat} {M : a_M} (x1 : Int32) (x2 : Int32)  (hF : WA X ad ca LY RX12 cX12_raised 5 (some FieldType.int) (d + 1) kc ks QF 5 [(0, .ref 118), (1, .int x1), (2, .int x2), (3, .int 1), (4, .int 0)] [] M (PT x)) : WA X ad ca LY RX12 cX12_raised 5 (some FieldType.int) (d + 1) kc ks QF 0 [(0, .ref 118), (1, .int x1), (2, .int x2)] [] M (PT x) := by
  refine wa_iconst (v := 1) dX12_raised_0 rfl ?_
  refine wa_istore_n (lv' := [(3, .int 1), (0, .ref 118), (1, .int x1), (2, .int x2)]) dX12_raised_1 rfl rfl rfl ?_
  refine wa_iconst (v := 0) dX12_raised_2 rfl ?_
  refine wa_istore (lv' := [(4, .int 0), (3, .int 1), (0, .ref 118), (1, .int x1), (2, .int x2)]) dX12_raised_3 rfl rfl ?_
  exact wa_pick [2, 3, 4, 1, 0] rfl hF

theorem bX12_raised_5 {X : a_X} {ad : Nat → Nat} {ca : Nat → ClassId} {d : Nat} {Post : Option Value → a_M → a_P → Prop} {x : Nat} {M : a_M} (x1 : Int32) (x2 : Int32) (x3 : Int32) (x4 : Int32)  (hF : ((x2 ≤ x4 → Post (some (.int x3)) M (PT x)) ∧ (¬ x2 ≤ x4 → (¬ (M 119 2) = 0 ∧ WA X ad ca LY RX12 cX12_raised 5 (some FieldType.int) (d + 1) 0 0 (a_E X ad ca LY Post) 5 [(0, .ref 118), (1, .int x1), (2, .int x2), (3, .int ((x3 * x1) - (x3 * x1) / (M 119 2) * (M 119 2))), (4, .int (x4 + 1))] [] M (PT x))))) : WA X ad ca LY RX12 cX12_raised 5 (some FieldType.int) (d + 1) 0 0 (a_E X ad ca LY Post) 5 [(0, .ref 118), (1, .int x1), (2, .int x2), (3, .int x3), (4, .int x4)] [] M (PT x) := by
  refine wa_iload dX12_raised_5 4 rfl ?_
  refine wa_iload_n dX12_raised_7 2 rfl rfl ?_
  refine wa_icmp_ge (tgt := 28) dX12_raised_8 rfl (fun hc => ?_) (fun hc => ?_)
  · replace hF := hF.1 hc
    refine wa_iload_n dX12_raised_28 3 rfl rfl ?_
    exact wa_iret dX12_raised_29 rfl rfl hF
  · replace hF := hF.2 hc
    refine wa_iload_n dX12_raised_11 3 rfl rfl ?_
    refine wa_iload_n dX12_raised_12 1 rfl rfl ?_
    refine wa_imul dX12_raised_13 ?_
    refine wa_aload_n dX12_raised_14 0 rfl rfl ?_
    refine wa_getr (r := 119) dX12_raised_15 fkX12_7 rfl rfl rfl ?_
    refine wa_iconst (v := 2) dX12_raised_18 rfl ?_
    refine wb_iald (j := 2) (v := M 119 2) dX12_raised_19 rfl (by unfold vp_in; decide) rfl rfl ?_
    obtain ⟨hn9, hF⟩ := hF
    refine wa_irem dX12_raised_20 hn9 ?_
    refine wa_istore_n (lv' := [(3, .int ((x3 * x1) - (x3 * x1) / (M 119 2) * (M 119 2))), (0, .ref 118), (1, .int x1), (2, .int x2), (4, .int x4)]) dX12_raised_21 rfl rfl rfl ?_
    refine wa_iinc (v := x4 + 1) (lv' := [(4, .int (x4 + 1)), (3, .int ((x3 * x1) - (x3 * x1) / (M 119 2) * (M 119 2))), (0, .ref 118), (1, .int x1), (2, .int x2)]) dX12_raised_22 4 rfl rfl rfl rfl ?_
    refine wa_goto (tgt := 5) dX12_raised_25 rfl ?_
    exact wa_pick [2, 3, 4, 1, 0] rfl hF

theorem eX12_raised {X : a_X} {ad : Nat → Nat} {ca : Nat → ClassId} {d : Nat} {Post : Option Value → a_M → a_P → Prop} {x : Nat} {M : a_M} (x1 : Int32) (x2 : Int32) (h : WA X ad ca LY RX12 cX12_raised 5 (some FieldType.int) d 0 0 (a_E X ad ca LY Post) 0 [(0, .ref 118), (1, .int x1), (2, .int x2)] [] M (PT x)) : Mt X ad ca LY d yX12_raised cX12_raised 5 (some FieldType.int) [.ref 118, .int x1, .int x2] M (PT x) Post := Mt.of (lv := [(0, .ref 118), (1, .int x1), (2, .int x2)]) (by decide +kernel) rfl rfl rfl (wa_pick [0, 1, 2] rfl h)

theorem bX12_isNumber_0 {X : a_X} {ad : Nat → Nat} {ca : Nat → ClassId} {d : Nat} {Post : Option Value → a_M → a_P → Prop} {x : Nat} {M : a_M} (x1 : Int32)  (hF : (∃ Q1 : Int32 → a_M → Prop, Mt X ad ca LY d yX12_in cX12_in 3 (some FieldType.boolean) [.int x1, .int 0, .int ((M 119 2) - 1)] M (PT x) (q_i (PT x) Q1) ∧ ∀ v1 M1, Q1 v1 M1 → ((v1 = 0 ∨ v1 = 1) ∧ Post (some (.int v1)) M1 (PT x)))) : WA X ad ca LY RX12 cX12_isNumber 2 (some FieldType.boolean) (d + 1) 0 0 (a_E X ad ca LY Post) 0 [(0, .ref 118), (1, .int x1)] [] M (PT x) := by
  refine wa_iload_n dX12_isNumber_0 1 rfl rfl ?_
  refine wa_iconst (v := 0) dX12_isNumber_1 rfl ?_
  refine wa_aload_n dX12_isNumber_2 0 rfl rfl ?_
  refine wa_getr (r := 119) dX12_isNumber_3 fkX12_7 rfl rfl rfl ?_
  refine wa_iconst (v := 2) dX12_isNumber_6 rfl ?_
  refine wb_iald (j := 2) (v := M 119 2) dX12_isNumber_7 rfl (by unfold vp_in; decide) rfl rfl ?_
  refine wa_iconst (v := 1) dX12_isNumber_8 rfl ?_
  refine wa_isub dX12_isNumber_9 ?_
  obtain ⟨Q1, hM9, hF⟩ := hF
  refine wa_callS [.int x1, .int 0, .int ((M 119 2) - 1)] dX12_isNumber_10 (mmX12_in _ _) mlX12_124 mstX12_in rfl (a_dlt d) rfl rfl hM9 ?_
  rintro r9 M1 P9 ⟨v1, rfl, rfl, hq9⟩
  replace hF := hF v1 M1 hq9
  simp only [Option.toList, List.cons_append, List.nil_append]
  exact wa_iret dX12_isNumber_13 rfl (a_bn hF.1) hF.2

theorem eX12_isNumber {X : a_X} {ad : Nat → Nat} {ca : Nat → ClassId} {d : Nat} {Post : Option Value → a_M → a_P → Prop} {x : Nat} {M : a_M} (x1 : Int32) (h : WA X ad ca LY RX12 cX12_isNumber 2 (some FieldType.boolean) d 0 0 (a_E X ad ca LY Post) 0 [(0, .ref 118), (1, .int x1)] [] M (PT x)) : Mt X ad ca LY d yX12_isNumber cX12_isNumber 2 (some FieldType.boolean) [.ref 118, .int x1] M (PT x) Post := Mt.of (lv := [(0, .ref 118), (1, .int x1)]) (by decide +kernel) rfl rfl rfl (wa_pick [0, 1] rfl h)

theorem bX12_states_0 {X : a_X} {ad : Nat → Nat} {ca : Nat → ClassId} {d : Nat} {Post : Option Value → a_M → a_P → Prop} {x : Nat} {M : a_M}   (hF : Post (some (.int ((1 : Int32) <<< ((M 119 0) &&& 31)))) M (PT x)) : WA X ad ca LY RX12 cX12_states 1 (some FieldType.int) (d + 1) 0 0 (a_E X ad ca LY Post) 0 [(0, .ref 118)] [] M (PT x) := by
  refine wa_iconst (v := 1) dX12_states_0 rfl ?_
  refine wa_aload_n dX12_states_1 0 rfl rfl ?_
  refine wa_getr (r := 119) dX12_states_2 fkX12_7 rfl rfl rfl ?_
  refine wa_iconst (v := 0) dX12_states_5 rfl ?_
  refine wb_iald (j := 0) (v := M 119 0) dX12_states_6 rfl (by unfold vp_in; decide) rfl rfl ?_
  refine wa_ishl dX12_states_7 ?_
  exact wa_iret dX12_states_8 rfl rfl hF

theorem eX12_states {X : a_X} {ad : Nat → Nat} {ca : Nat → ClassId} {d : Nat} {Post : Option Value → a_M → a_P → Prop} {x : Nat} {M : a_M}  (h : WA X ad ca LY RX12 cX12_states 1 (some FieldType.int) d 0 0 (a_E X ad ca LY Post) 0 [(0, .ref 118)] [] M (PT x)) : Mt X ad ca LY d yX12_states cX12_states 1 (some FieldType.int) [.ref 118] M (PT x) Post := Mt.of (lv := [(0, .ref 118)]) (by decide +kernel) rfl rfl rfl (wa_pick [0] rfl h)

theorem bX12_isState_0 {X : a_X} {ad : Nat → Nat} {ca : Nat → ClassId} {d : Nat} {Post : Option Value → a_M → a_P → Prop} {x : Nat} {M : a_M} (x1 : Int32)  (hF : (∃ Q1 : Int32 → a_M → Prop, Mt X ad ca LY d yX12_states cX12_states 1 (some FieldType.int) [.ref 118] M (PT x) (q_i (PT x) Q1) ∧ ∀ v1 M1, Q1 v1 M1 → (∃ Q2 : Int32 → a_M → Prop, Mt X ad ca LY d yX12_in cX12_in 3 (some FieldType.boolean) [.int x1, .int 0, .int (v1 - 1)] M1 (PT x) (q_i (PT x) Q2) ∧ ∀ v2 M2, Q2 v2 M2 → ((v2 = 0 ∨ v2 = 1) ∧ Post (some (.int v2)) M2 (PT x))))) : WA X ad ca LY RX12 cX12_isState 2 (some FieldType.boolean) (d + 1) 0 0 (a_E X ad ca LY Post) 0 [(0, .ref 118), (1, .int x1)] [] M (PT x) := by
  refine wa_iload_n dX12_isState_0 1 rfl rfl ?_
  refine wa_iconst (v := 0) dX12_isState_1 rfl ?_
  refine wa_aload_n dX12_isState_2 0 rfl rfl ?_
  obtain ⟨Q1, hM9, hF⟩ := hF
  refine wa_callV [] dX12_isState_3 (mmX12_states _ _) mlX12_128 mnX12_states mseX12_states rfl rfl rfl rfl (a_dlt d) rfl rfl hM9 ?_
  rintro r9 M1 P9 ⟨v1, rfl, rfl, hq9⟩
  replace hF := hF v1 M1 hq9
  simp only [Option.toList, List.cons_append, List.nil_append]
  refine wa_iconst (v := 1) dX12_isState_6 rfl ?_
  refine wa_isub dX12_isState_7 ?_
  obtain ⟨Q2, hM9, hF⟩ := hF
  refine wa_callS [.int x1, .int 0, .int (v1 - 1)] dX12_isState_8 (mmX12_in _ _) mlX12_124 mstX12_in rfl (a_dlt d) rfl rfl hM9 ?_
  rintro r9 M2 P9 ⟨v2, rfl, rfl, hq9⟩
  replace hF := hF v2 M2 hq9
  simp only [Option.toList, List.cons_append, List.nil_append]
  exact wa_iret dX12_isState_11 rfl (a_bn hF.1) hF.2

theorem eX12_isState {X : a_X} {ad : Nat → Nat} {ca : Nat → ClassId} {d : Nat} {Post : Option Value → a_M → a_P → Prop} {x : Nat} {M : a_M} (x1 : Int32) (h : WA X ad ca LY RX12 cX12_isState 2 (some FieldType.boolean) d 0 0 (a_E X ad ca LY Post) 0 [(0, .ref 118), (1, .int x1)] [] M (PT x)) : Mt X ad ca LY d yX12_isState cX12_isState 2 (some FieldType.boolean) [.ref 118, .int x1] M (PT x) Post := Mt.of (lv := [(0, .ref 118), (1, .int x1)]) (by decide +kernel) rfl rfl rfl (wa_pick [0, 1] rfl h)

theorem bX12_forgets_0 {X : a_X} {ad : Nat → Nat} {ca : Nat → ClassId} {d : Nat} {Post : Option Value → a_M → a_P → Prop} {x : Nat} {M : a_M}   (hF : Post none (ms (ms M 119 7 0) 119 8 0) (PT x)) : WA X ad ca LY RX12 cX12_forgets 1 none (d + 1) 0 0 (a_E X ad ca LY Post) 0 [(0, .ref 118)] [] M (PT x) := by
  refine wa_aload_n dX12_forgets_0 0 rfl rfl ?_
  refine wa_getr (r := 119) dX12_forgets_1 fkX12_7 rfl rfl rfl ?_
  refine wa_bipush (v := 7) dX12_forgets_4 rfl ?_
  refine wa_iconst (v := 0) dX12_forgets_6 rfl ?_
  refine wb_iast (j := 7) dX12_forgets_7 rfl (by unfold vp_in; decide) rfl ?_
  refine wa_aload_n dX12_forgets_8 0 rfl rfl ?_
  refine wa_getr (r := 119) dX12_forgets_9 fkX12_7 rfl rfl rfl ?_
  refine wa_bipush (v := 8) dX12_forgets_12 rfl ?_
  refine wa_iconst (v := 0) dX12_forgets_14 rfl ?_
  refine wb_iast (j := 8) dX12_forgets_15 rfl (by unfold vp_in; decide) rfl ?_
  exact wa_vret dX12_forgets_16 rfl hF

theorem eX12_forgets {X : a_X} {ad : Nat → Nat} {ca : Nat → ClassId} {d : Nat} {Post : Option Value → a_M → a_P → Prop} {x : Nat} {M : a_M}  (h : WA X ad ca LY RX12 cX12_forgets 1 none d 0 0 (a_E X ad ca LY Post) 0 [(0, .ref 118)] [] M (PT x)) : Mt X ad ca LY d yX12_forgets cX12_forgets 1 none [.ref 118] M (PT x) Post := Mt.of (lv := [(0, .ref 118)]) (by decide +kernel) rfl rfl rfl (wa_pick [0] rfl h)

theorem bX12_chain_0 {X : a_X} {ad : Nat → Nat} {ca : Nat → ClassId} {d : Nat} {Post : Option Value → a_M → a_P → Prop} {x : Nat} {M : a_M} (x1 : Int32) (x2 : Int32)  (hF : (∃ Q1 : Int32 → a_M → Prop, Mt X ad ca LY d yX12_in cX12_in 3 (some FieldType.boolean) [.int x1, .int 2, .int 7] M (PT x) (q_i (PT x) Q1) ∧ ∀ v1 M1, Q1 v1 M1 → ((¬ v1 = 0 → ((x2 = 0 → (∃ Q2 : a_M → Prop, Mt X ad ca LY d yX12_forgets cX12_forgets 1 none [.ref 118] (ms (ms M1 119 0 x1) 119 1 0) (PT x) (q_v (PT x) Q2) ∧ ∀ M2, Q2 M2 → WA X ad ca LY RX12 cX12_chain 4 (some FieldType.boolean) (d + 1) 0 0 (a_E X ad ca LY Post) 40 [(0, .ref 118), (3, .int 0)] [] M2 (PT x))) ∧ (¬ x2 = 0 → (∃ Q3 : a_M → Prop, Mt X ad ca LY d yX12_forgets cX12_forgets 1 none [.ref 118] (ms (ms M1 119 0 x1) 119 1 1) (PT x) (q_v (PT x) Q3) ∧ ∀ M3, Q3 M3 → WA X ad ca LY RX12 cX12_chain 4 (some FieldType.boolean) (d + 1) 0 0 (a_E X ad ca LY Post) 40 [(0, .ref 118), (3, .int 0)] [] M3 (PT x))))) ∧ (v1 = 0 → Post (some (.int 0)) M1 (PT x))))) : WA X ad ca LY RX12 cX12_chain 4 (some FieldType.boolean) (d + 1) 0 0 (a_E X ad ca LY Post) 0 [(0, .ref 118), (1, .int x1), (2, .int x2)] [] M (PT x) := by
  refine wa_iload_n dX12_chain_0 1 rfl rfl ?_
  refine wa_iconst (v := 2) dX12_chain_1 rfl ?_
  refine wa_bipush (v := 7) dX12_chain_2 rfl ?_
  obtain ⟨Q1, hM9, hF⟩ := hF
  refine wa_callS [.int x1, .int 2, .int 7] dX12_chain_4 (mmX12_in _ _) mlX12_124 mstX12_in rfl (a_dlt d) rfl rfl hM9 ?_
  rintro r9 M1 P9 ⟨v1, rfl, rfl, hq9⟩
  replace hF := hF v1 M1 hq9
  simp only [Option.toList, List.cons_append, List.nil_append]
  refine wa_if_ne (tgt := 12) dX12_chain_7 rfl (fun hc => ?_) (fun hc => ?_)
  · replace hF := hF.1 hc
    refine wa_aload_n dX12_chain_12 0 rfl rfl ?_
    refine wa_getr (r := 119) dX12_chain_13 fkX12_7 rfl rfl rfl ?_
    refine wa_iconst (v := 0) dX12_chain_16 rfl ?_
    refine wa_iload_n dX12_chain_17 1 rfl rfl ?_
    refine wb_iast (j := 0) dX12_chain_18 rfl (by unfold vp_in; decide) rfl ?_
    refine wa_aload_n dX12_chain_19 0 rfl rfl ?_
    refine wa_getr (r := 119) dX12_chain_20 fkX12_7 rfl rfl rfl ?_
    refine wa_iconst (v := 1) dX12_chain_23 rfl ?_
    refine wa_iload_n dX12_chain_24 2 rfl rfl ?_
    refine wa_if_eq (tgt := 32) dX12_chain_25 rfl (fun hc => ?_) (fun hc => ?_)
    · replace hF := hF.1 hc
      refine wa_iconst (v := 0) dX12_chain_32 rfl ?_
      refine wb_iast (j := 1) dX12_chain_33 rfl (by unfold vp_in; decide) rfl ?_
      refine wa_aload_n dX12_chain_34 0 rfl rfl ?_
      obtain ⟨Q2, hM9, hF⟩ := hF
      refine wa_callV [] dX12_chain_35 (mmX12_forgets _ _) mlX12_132 mnX12_forgets mseX12_forgets rfl rfl rfl rfl (a_dlt d) rfl rfl hM9 ?_
      rintro r9 M2 P9 ⟨rfl, rfl, hq9⟩
      replace hF := hF M2 hq9
      simp only [Option.toList, List.nil_append]
      refine wa_iconst (v := 0) dX12_chain_38 rfl ?_
      refine wa_istore_n (lv' := [(3, .int 0), (0, .ref 118), (1, .int x1), (2, .int x2)]) dX12_chain_39 rfl rfl rfl ?_
      exact wa_pick [1, 0] rfl hF
    · replace hF := hF.2 hc
      refine wa_iconst (v := 1) dX12_chain_28 rfl ?_
      refine wa_goto (tgt := 33) dX12_chain_29 rfl ?_
      refine wb_iast (j := 1) dX12_chain_33 rfl (by unfold vp_in; decide) rfl ?_
      refine wa_aload_n dX12_chain_34 0 rfl rfl ?_
      obtain ⟨Q3, hM9, hF⟩ := hF
      refine wa_callV [] dX12_chain_35 (mmX12_forgets _ _) mlX12_132 mnX12_forgets mseX12_forgets rfl rfl rfl rfl (a_dlt d) rfl rfl hM9 ?_
      rintro r9 M3 P9 ⟨rfl, rfl, hq9⟩
      replace hF := hF M3 hq9
      simp only [Option.toList, List.nil_append]
      refine wa_iconst (v := 0) dX12_chain_38 rfl ?_
      refine wa_istore_n (lv' := [(3, .int 0), (0, .ref 118), (1, .int x1), (2, .int x2)]) dX12_chain_39 rfl rfl rfl ?_
      exact wa_pick [1, 0] rfl hF
  · replace hF := hF.2 hc
    refine wa_iconst (v := 0) dX12_chain_10 rfl ?_
    exact wa_iret dX12_chain_11 rfl rfl hF

theorem bX12_chain_40 {X : a_X} {ad : Nat → Nat} {ca : Nat → ClassId} {d : Nat} {Post : Option Value → a_M → a_P → Prop} {x : Nat} {M : a_M} (x3 : Int32)  (hF : ((128 ≤ x3 → Post (some (.int 1)) M (PT x)) ∧ (¬ 128 ≤ x3 → (vp_in (10 + x3) 2698 ∧ WA X ad ca LY RX12 cX12_chain 4 (some FieldType.boolean) (d + 1) 0 0 (a_E X ad ca LY Post) 40 [(0, .ref 118), (3, .int (x3 + 1))] [] (ms M 119 ((10 + x3).toNatClampNeg) 0) (PT x))))) : WA X ad ca LY RX12 cX12_chain 4 (some FieldType.boolean) (d + 1) 0 0 (a_E X ad ca LY Post) 40 [(0, .ref 118), (3, .int x3)] [] M (PT x) := by
  refine wa_iload_n dX12_chain_40 1 rfl rfl ?_
  refine wa_sipush (v := 128) dX12_chain_41 rfl ?_
  refine wa_icmp_ge (tgt := 63) dX12_chain_44 rfl (fun hc => ?_) (fun hc => ?_)
  · replace hF := hF.1 hc
    refine wa_iconst (v := 1) dX12_chain_63 rfl ?_
    exact wa_iret dX12_chain_64 rfl rfl hF
  · replace hF := hF.2 hc
    refine wa_aload_n dX12_chain_47 0 rfl rfl ?_
    refine wa_getr (r := 119) dX12_chain_48 fkX12_7 rfl rfl rfl ?_
    refine wa_bipush (v := 10) dX12_chain_51 rfl ?_
    refine wa_iload_n dX12_chain_53 1 rfl rfl ?_
    refine wa_iadd dX12_chain_54 ?_
    refine wa_iconst (v := 0) dX12_chain_55 rfl ?_
    obtain ⟨hi9, hF⟩ := hF
    refine wb_iast (j := (10 + x3).toNatClampNeg) dX12_chain_56 rfl hi9 rfl ?_
    refine wa_iinc (v := x3 + 1) (lv' := [(3, .int (x3 + 1)), (0, .ref 118)]) dX12_chain_57 1 rfl rfl rfl rfl ?_
    refine wa_goto (tgt := 40) dX12_chain_60 rfl ?_
    exact wa_pick [1, 0] rfl hF

theorem eX12_chain {X : a_X} {ad : Nat → Nat} {ca : Nat → ClassId} {d : Nat} {Post : Option Value → a_M → a_P → Prop} {x : Nat} {M : a_M} (x1 : Int32) (x2 : Int32) (h : WA X ad ca LY RX12 cX12_chain 4 (some FieldType.boolean) d 0 0 (a_E X ad ca LY Post) 0 [(0, .ref 118), (1, .int x1), (2, .int x2)] [] M (PT x)) : Mt X ad ca LY d yX12_chain cX12_chain 4 (some FieldType.boolean) [.ref 118, .int x1, .int x2] M (PT x) Post := Mt.of (lv := [(0, .ref 118), (1, .int x1), (2, .int x2)]) (by decide +kernel) rfl rfl rfl (wa_pick [0, 1, 2] rfl h)

theorem bX12_prime_0 {X : a_X} {ad : Nat → Nat} {ca : Nat → ClassId} {d : Nat} {kc ks : Nat} {QF : List Frame → Array Value → State → State → Prop} {x : Nat} {M : a_M} (x1 : Int32)  (hF : (∃ Q1 : Int32 → a_M → Prop, Mt X ad ca LY d yX12_in cX12_in 3 (some FieldType.boolean) [.int x1, .int 5, .int 97] M (PT x) (q_i (PT x) Q1) ∧ ∀ v1 M1, Q1 v1 M1 → WA X ad ca LY RX12 cX12_prime 4 (some FieldType.boolean) (d + 1) kc ks QF 10 [(0, .ref 118), (1, .int x1), (2, .int v1), (3, .int 2)] [] M1 (PT x))) : WA X ad ca LY RX12 cX12_prime 4 (some FieldType.boolean) (d + 1) kc ks QF 0 [(0, .ref 118), (1, .int x1)] [] M (PT x) := by
  refine wa_iload_n dX12_prime_0 1 rfl rfl ?_
  refine wa_iconst (v := 5) dX12_prime_1 rfl ?_
  refine wa_bipush (v := 97) dX12_prime_2 rfl ?_
  obtain ⟨Q1, hM9, hF⟩ := hF
  refine wa_callS [.int x1, .int 5, .int 97] dX12_prime_4 (mmX12_in _ _) mlX12_124 mstX12_in rfl (a_dlt d) rfl rfl hM9 ?_
  rintro r9 M1 P9 ⟨v1, rfl, rfl, hq9⟩
  replace hF := hF v1 M1 hq9
  simp only [Option.toList, List.cons_append, List.nil_append]
  refine wa_istore_n (lv' := [(2, .int v1), (0, .ref 118), (1, .int x1)]) dX12_prime_7 rfl rfl rfl ?_
  refine wa_iconst (v := 2) dX12_prime_8 rfl ?_
  refine wa_istore_n (lv' := [(3, .int 2), (2, .int v1), (0, .ref 118), (1, .int x1)]) dX12_prime_9 rfl rfl rfl ?_
  exact wa_pick [2, 3, 1, 0] rfl hF

theorem bX12_prime_10 {X : a_X} {ad : Nat → Nat} {ca : Nat → ClassId} {d : Nat} {kc ks : Nat} {QF : List Frame → Array Value → State → State → Prop} {x : Nat} {M : a_M} (x1 : Int32) (x2 : Int32) (x3 : Int32)  (hF : ((x1 ≤ x3 → WA X ad ca LY RX12 cX12_prime 4 (some FieldType.boolean) (d + 1) kc ks QF 37 [(0, .ref 118), (1, .int x1), (2, .int x2)] [] M (PT x)) ∧ (¬ x1 ≤ x3 → ((x2 = 0 → WA X ad ca LY RX12 cX12_prime 4 (some FieldType.boolean) (d + 1) kc ks QF 37 [(0, .ref 118), (1, .int x1), (2, .int x2)] [] M (PT x)) ∧ (¬ x2 = 0 → (¬ x3 = 0 ∧ (((x1 - x1 / x3 * x3) = 0 → WA X ad ca LY RX12 cX12_prime 4 (some FieldType.boolean) (d + 1) kc ks QF 10 [(0, .ref 118), (1, .int x1), (2, .int 0), (3, .int (x3 + 1))] [] M (PT x)) ∧ (¬ (x1 - x1 / x3 * x3) = 0 → WA X ad ca LY RX12 cX12_prime 4 (some FieldType.boolean) (d + 1) kc ks QF 10 [(0, .ref 118), (1, .int x1), (2, .int 1), (3, .int (x3 + 1))] [] M (PT x))))))))) : WA X ad ca LY RX12 cX12_prime 4 (some FieldType.boolean) (d + 1) kc ks QF 10 [(0, .ref 118), (1, .int x1), (2, .int x2), (3, .int x3)] [] M (PT x) := by
  refine wa_iload_n dX12_prime_10 3 rfl rfl ?_
  refine wa_iload_n dX12_prime_11 1 rfl rfl ?_
  refine wa_icmp_ge (tgt := 37) dX12_prime_12 rfl (fun hc => ?_) (fun hc => ?_)
  · replace hF := hF.1 hc
    exact wa_pick [0, 1, 2] rfl hF
  · replace hF := hF.2 hc
    refine wa_iload_n dX12_prime_15 2 rfl rfl ?_
    refine wa_if_eq (tgt := 37) dX12_prime_16 rfl (fun hc => ?_) (fun hc => ?_)
    · replace hF := hF.1 hc
      exact wa_pick [0, 1, 2] rfl hF
    · replace hF := hF.2 hc
      refine wa_iload_n dX12_prime_19 1 rfl rfl ?_
      refine wa_iload_n dX12_prime_20 3 rfl rfl ?_
      obtain ⟨hn9, hF⟩ := hF
      refine wa_irem dX12_prime_21 hn9 ?_
      refine wa_if_eq (tgt := 29) dX12_prime_22 rfl (fun hc => ?_) (fun hc => ?_)
      · replace hF := hF.1 hc
        refine wa_iconst (v := 0) dX12_prime_29 rfl ?_
        refine wa_istore_n (lv' := [(2, .int 0), (0, .ref 118), (1, .int x1), (3, .int x3)]) dX12_prime_30 rfl rfl rfl ?_
        refine wa_iinc (v := x3 + 1) (lv' := [(3, .int (x3 + 1)), (2, .int 0), (0, .ref 118), (1, .int x1)]) dX12_prime_31 3 rfl rfl rfl rfl ?_
        refine wa_goto (tgt := 10) dX12_prime_34 rfl ?_
        exact wa_pick [2, 3, 1, 0] rfl hF
      · replace hF := hF.2 hc
        refine wa_iconst (v := 1) dX12_prime_25 rfl ?_
        refine wa_goto (tgt := 30) dX12_prime_26 rfl ?_
        refine wa_istore_n (lv' := [(2, .int 1), (0, .ref 118), (1, .int x1), (3, .int x3)]) dX12_prime_30 rfl rfl rfl ?_
        refine wa_iinc (v := x3 + 1) (lv' := [(3, .int (x3 + 1)), (2, .int 1), (0, .ref 118), (1, .int x1)]) dX12_prime_31 3 rfl rfl rfl rfl ?_
        refine wa_goto (tgt := 10) dX12_prime_34 rfl ?_
        exact wa_pick [2, 3, 1, 0] rfl hF

theorem bX12_prime_37 {X : a_X} {ad : Nat → Nat} {ca : Nat → ClassId} {d : Nat} {Post : Option Value → a_M → a_P → Prop} {x : Nat} {M : a_M} (x1 : Int32) (x2 : Int32)  (hF : ((¬ x2 = 0 → (¬ x1 = 0 ∧ ((¬ ((M 119 3) - (M 119 3) / x1 * x1) = 0 → (¬ x1 = 0 ∧ (¬ x1 = 0 ∧ WA X ad ca LY RX12 cX12_prime 4 (some FieldType.boolean) (d + 1) 0 0 (a_E X ad ca LY Post) 96 [(0, .ref 118), (1, .int x1), (3, .int 10)] [] (ms (ms (ms M 119 2 x1) 119 3 ((M 119 3) - (M 119 3) / x1 * x1)) 119 4 ((M 119 4) - (M 119 4) / x1 * x1)) (PT x)))) ∧ (((M 119 3) - (M 119 3) / x1 * x1) = 0 → (¬ x1 = 0 ∧ WA X ad ca LY RX12 cX12_prime 4 (some FieldType.boolean) (d + 1) 0 0 (a_E X ad ca LY Post) 96 [(0, .ref 118), (1, .int x1), (3, .int 10)] [] (ms (ms (ms M 119 2 x1) 119 3 1) 119 4 ((M 119 4) - (M 119 4) / x1 * x1)) (PT x)))))) ∧ (x2 = 0 → Post (some (.int 0)) M (PT x)))) : WA X ad ca LY RX12 cX12_prime 4 (some FieldType.boolean) (d + 1) 0 0 (a_E X ad ca LY Post) 37 [(0, .ref 118), (1, .int x1), (2, .int x2)] [] M (PT x) := by
  refine wa_iload_n dX12_prime_37 2 rfl rfl ?_
  refine wa_if_ne (tgt := 43) dX12_prime_38 rfl (fun hc => ?_) (fun hc => ?_)
  · replace hF := hF.1 hc
    refine wa_aload_n dX12_prime_43 0 rfl rfl ?_
    refine wa_getr (r := 119) dX12_prime_44 fkX12_7 rfl rfl rfl ?_
    refine wa_iconst (v := 2) dX12_prime_47 rfl ?_
    refine wa_iload_n dX12_prime_48 1 rfl rfl ?_
    refine wb_iast (j := 2) dX12_prime_49 rfl (by unfold vp_in; decide) rfl ?_
    refine wa_aload_n dX12_prime_50 0 rfl rfl ?_
    refine wa_getr (r := 119) dX12_prime_51 fkX12_7 rfl rfl rfl ?_
    refine wa_iconst (v := 3) dX12_prime_54 rfl ?_
    refine wa_aload_n dX12_prime_55 0 rfl rfl ?_
    refine wa_getr (r := 119) dX12_prime_56 fkX12_7 rfl rfl rfl ?_
    refine wa_iconst (v := 3) dX12_prime_59 rfl ?_
    refine wb_iald (j := 3) (v := M 119 3) dX12_prime_60 rfl (by unfold vp_in; decide) rfl ((ms_no M 119 2 x1 119 3 (fun h9 => absurd h9.2 (by decide))).trans rfl) ?_
    refine wa_iload_n dX12_prime_61 1 rfl rfl ?_
    obtain ⟨hn9, hF⟩ := hF
    refine wa_irem dX12_prime_62 hn9 ?_
    refine wa_if_ne (tgt := 70) dX12_prime_63 rfl (fun hc => ?_) (fun hc => ?_)
    · replace hF := hF.1 hc
      refine wa_aload_n dX12_prime_70 0 rfl rfl ?_
      refine wa_getr (r := 119) dX12_prime_71 fkX12_7 rfl rfl rfl ?_
      refine wa_iconst (v := 3) dX12_prime_74 rfl ?_
      refine wb_iald (j := 3) (v := M 119 3) dX12_prime_75 rfl (by unfold vp_in; decide) rfl ((ms_no M 119 2 x1 119 3 (fun h9 => absurd h9.2 (by decide))).trans rfl) ?_
      refine wa_iload_n dX12_prime_76 1 rfl rfl ?_
      obtain ⟨hn9, hF⟩ := hF
      refine wa_irem dX12_prime_77 hn9 ?_
      refine wb_iast (j := 3) dX12_prime_78 rfl (by unfold vp_in; decide) rfl ?_
      refine wa_aload_n dX12_prime_79 0 rfl rfl ?_
      refine wa_getr (r := 119) dX12_prime_80 fkX12_7 rfl rfl rfl ?_
      refine wa_iconst (v := 4) dX12_prime_83 rfl ?_
      refine wa_aload_n dX12_prime_84 0 rfl rfl ?_
      refine wa_getr (r := 119) dX12_prime_85 fkX12_7 rfl rfl rfl ?_
      refine wa_iconst (v := 4) dX12_prime_88 rfl ?_
      refine wb_iald (j := 4) (v := M 119 4) dX12_prime_89 rfl (by unfold vp_in; decide) rfl ((ms_no (ms M 119 2 x1) 119 3 ((M 119 3) - (M 119 3) / x1 * x1) 119 4 (fun h9 => absurd h9.2 (by decide))).trans ((ms_no M 119 2 x1 119 4 (fun h9 => absurd h9.2 (by decide))).trans rfl)) ?_
      refine wa_iload_n dX12_prime_90 1 rfl rfl ?_
      obtain ⟨hn9, hF⟩ := hF
      refine wa_irem dX12_prime_91 hn9 ?_
      refine wb_iast (j := 4) dX12_prime_92 rfl (by unfold vp_in; decide) rfl ?_
      refine wa_bipush (v := 10) dX12_prime_93 rfl ?_
      refine wa_istore_n (lv' := [(3, .int 10), (0, .ref 118), (1, .int x1), (2, .int x2)]) dX12_prime_95 rfl rfl rfl ?_
      exact wa_pick [1, 2, 0] rfl hF
    · replace hF := hF.2 hc
      refine wa_iconst (v := 1) dX12_prime_66 rfl ?_
      refine wa_goto (tgt := 78) dX12_prime_67 rfl ?_
      refine wb_iast (j := 3) dX12_prime_78 rfl (by unfold vp_in; decide) rfl ?_
      refine wa_aload_n dX12_prime_79 0 rfl rfl ?_
      refine wa_getr (r := 119) dX12_prime_80 fkX12_7 rfl rfl rfl ?_
      refine wa_iconst (v := 4) dX12_prime_83 rfl ?_
      refine wa_aload_n dX12_prime_84 0 rfl rfl ?_
      refine wa_getr (r := 119) dX12_prime_85 fkX12_7 rfl rfl rfl ?_
      refine wa_iconst (v := 4) dX12_prime_88 rfl ?_
      refine wb_iald (j := 4) (v := M 119 4) dX12_prime_89 rfl (by unfold vp_in; decide) rfl ((ms_no (ms M 119 2 x1) 119 3 1 119 4 (fun h9 => absurd h9.2 (by decide))).trans ((ms_no M 119 2 x1 119 4 (fun h9 => absurd h9.2 (by decide))).trans rfl)) ?_
      refine wa_iload_n dX12_prime_90 1 rfl rfl ?_
      obtain ⟨hn9, hF⟩ := hF
      refine wa_irem dX12_prime_91 hn9 ?_
      refine wb_iast (j := 4) dX12_prime_92 rfl (by unfold vp_in; decide) rfl ?_
      refine wa_bipush (v := 10) dX12_prime_93 rfl ?_
      refine wa_istore_n (lv' := [(3, .int 10), (0, .ref 118), (1, .int x1), (2, .int x2)]) dX12_prime_95 rfl rfl rfl ?_
      exact wa_pick [1, 2, 0] rfl hF
  · replace hF := hF.2 hc
    refine wa_iconst (v := 0) dX12_prime_41 rfl ?_
    exact wa_iret dX12_prime_42 rfl rfl hF

theorem bX12_prime_96 {X : a_X} {ad : Nat → Nat} {ca : Nat → ClassId} {d : Nat} {Post : Option Value → a_M → a_P → Prop} {x : Nat} {M : a_M} (x1 : Int32) (x3 : Int32)  (hF : ((2698 ≤ x3 → Post (some (.int 1)) M (PT x)) ∧ (¬ 2698 ≤ x3 → (vp_in x3 2698 ∧ (¬ x1 = 0 ∧ (vp_in x3 2698 ∧ WA X ad ca LY RX12 cX12_prime 4 (some FieldType.boolean) (d + 1) 0 0 (a_E X ad ca LY Post) 96 [(0, .ref 118), (1, .int x1), (3, .int (x3 + 1))] [] (ms M 119 x3.toNatClampNeg ((M 119 x3.toNatClampNeg) - (M 119 x3.toNatClampNeg) / x1 * x1)) (PT x))))))) : WA X ad ca LY RX12 cX12_prime 4 (some FieldType.boolean) (d + 1) 0 0 (a_E X ad ca LY Post) 96 [(0, .ref 118), (1, .int x1), (3, .int x3)] [] M (PT x) := by
  refine wa_iload_n dX12_prime_96 2 rfl rfl ?_
  refine wa_sipush (v := 2698) dX12_prime_97 rfl ?_
  refine wa_icmp_ge (tgt := 123) dX12_prime_100 rfl (fun hc => ?_) (fun hc => ?_)
  · replace hF := hF.1 hc
    refine wa_iconst (v := 1) dX12_prime_123 rfl ?_
    exact wa_iret dX12_prime_124 rfl rfl hF
  · replace hF := hF.2 hc
    refine wa_aload_n dX12_prime_103 0 rfl rfl ?_
    refine wa_getr (r := 119) dX12_prime_104 fkX12_7 rfl rfl rfl ?_
    refine wa_iload_n dX12_prime_107 2 rfl rfl ?_
    refine wa_aload_n dX12_prime_108 0 rfl rfl ?_
    refine wa_getr (r := 119) dX12_prime_109 fkX12_7 rfl rfl rfl ?_
    refine wa_iload_n dX12_prime_112 2 rfl rfl ?_
    obtain ⟨hi9, hF⟩ := hF
    refine wb_iald (j := x3.toNatClampNeg) (v := M 119 x3.toNatClampNeg) dX12_prime_113 rfl hi9 rfl rfl ?_
    refine wa_iload_n dX12_prime_114 1 rfl rfl ?_
    obtain ⟨hn9, hF⟩ := hF
    refine wa_irem dX12_prime_115 hn9 ?_
    obtain ⟨hi9, hF⟩ := hF
    refine wb_iast (j := x3.toNatClampNeg) dX12_prime_116 rfl hi9 rfl ?_
    refine wa_iinc (v := x3 + 1) (lv' := [(3, .int (x3 + 1)), (0, .ref 118), (1, .int x1)]) dX12_prime_117 2 rfl rfl rfl rfl ?_
    refine wa_goto (tgt := 96) dX12_prime_120 rfl ?_
    exact wa_pick [1, 2, 0] rfl hF

theorem eX12_prime {X : a_X} {ad : Nat → Nat} {ca : Nat → ClassId} {d : Nat} {Post : Option Value → a_M → a_P → Prop} {x : Nat} {M : a_M} (x1 : Int32) (h : WA X ad ca LY RX12 cX12_prime 4 (some FieldType.boolean) d 0 0 (a_E X ad ca LY Post) 0 [(0, .ref 118), (1, .int x1)] [] M (PT x)) : Mt X ad ca LY d yX12_prime cX12_prime 4 (some FieldType.boolean) [.ref 118, .int x1] M (PT x) Post := Mt.of (lv := [(0, .ref 118), (1, .int x1)]) (by decide +kernel) rfl rfl rfl (wa_pick [0, 1] rfl h)

theorem bX12_numbers_0 {X : a_X} {ad : Nat → Nat} {ca : Nat → ClassId} {d : Nat} {Post : Option Value → a_M → a_P → Prop} {x : Nat} {M : a_M} (x1 : Int32) (x2 : Int32)  (hF : (∃ Q1 : Int32 → a_M → Prop, Mt X ad ca LY d yX12_in cX12_in 3 (some FieldType.boolean) [.int x1, .int 1, .int ((M 119 2) - 1)] M (PT x) (q_i (PT x) Q1) ∧ ∀ v1 M1, Q1 v1 M1 → ((v1 = 0 → WA X ad ca LY RX12 cX12_numbers 3 (some FieldType.boolean) (d + 1) 0 0 (a_E X ad ca LY Post) 24 [] [] M1 (PT x)) ∧ (¬ v1 = 0 → (∃ Q2 : Int32 → a_M → Prop, Mt X ad ca LY d yX12_isNumber cX12_isNumber 2 (some FieldType.boolean) [.ref 118, .int x2] M1 (PT x) (q_i (PT x) Q2) ∧ ∀ v2 M2, Q2 v2 M2 → ((¬ v2 = 0 → Post (some (.int 1)) (ms (ms M2 119 3 x1) 119 4 x2) (PT x)) ∧ (v2 = 0 → WA X ad ca LY RX12 cX12_numbers 3 (some FieldType.boolean) (d + 1) 0 0 (a_E X ad ca LY Post) 24 [] [] M2 (PT x)))))))) : WA X ad ca LY RX12 cX12_numbers 3 (some FieldType.boolean) (d + 1) 0 0 (a_E X ad ca LY Post) 0 [(0, .ref 118), (1, .int x1), (2, .int x2)] [] M (PT x) := by
  refine wa_iload_n dX12_numbers_0 1 rfl rfl ?_
  refine wa_iconst (v := 1) dX12_numbers_1 rfl ?_
  refine wa_aload_n dX12_numbers_2 0 rfl rfl ?_
  refine wa_getr (r := 119) dX12_numbers_3 fkX12_7 rfl rfl rfl ?_
  refine wa_iconst (v := 2) dX12_numbers_6 rfl ?_
  refine wb_iald (j := 2) (v := M 119 2) dX12_numbers_7 rfl (by unfold vp_in; decide) rfl rfl ?_
  refine wa_iconst (v := 1) dX12_numbers_8 rfl ?_
  refine wa_isub dX12_numbers_9 ?_
  obtain ⟨Q1, hM9, hF⟩ := hF
  refine wa_callS [.int x1, .int 1, .int ((M 119 2) - 1)] dX12_numbers_10 (mmX12_in _ _) mlX12_124 mstX12_in rfl (a_dlt d) rfl rfl hM9 ?_
  rintro r9 M1 P9 ⟨v1, rfl, rfl, hq9⟩
  replace hF := hF v1 M1 hq9
  simp only [Option.toList, List.cons_append, List.nil_append]
  refine wa_if_eq (tgt := 24) dX12_numbers_13 rfl (fun hc => ?_) (fun hc => ?_)
  · replace hF := hF.1 hc
    exact wa_pick [] rfl hF
  · replace hF := hF.2 hc
    refine wa_aload_n dX12_numbers_16 0 rfl rfl ?_
    refine wa_iload_n dX12_numbers_17 2 rfl rfl ?_
    obtain ⟨Q2, hM9, hF⟩ := hF
    refine wa_callV [.int x2] dX12_numbers_18 (mmX12_isNumber _ _) mlX12_135 mnX12_isNumber mseX12_isNumber rfl rfl rfl rfl (a_dlt d) rfl rfl hM9 ?_
    rintro r9 M2 P9 ⟨v2, rfl, rfl, hq9⟩
    replace hF := hF v2 M2 hq9
    simp only [Option.toList, List.cons_append, List.nil_append]
    refine wa_if_ne (tgt := 26) dX12_numbers_21 rfl (fun hc => ?_) (fun hc => ?_)
    · replace hF := hF.1 hc
      refine wa_aload_n dX12_numbers_26 0 rfl rfl ?_
      refine wa_getr (r := 119) dX12_numbers_27 fkX12_7 rfl rfl rfl ?_
      refine wa_iconst (v := 3) dX12_numbers_30 rfl ?_
      refine wa_iload_n dX12_numbers_31 1 rfl rfl ?_
      refine wb_iast (j := 3) dX12_numbers_32 rfl (by unfold vp_in; decide) rfl ?_
      refine wa_aload_n dX12_numbers_33 0 rfl rfl ?_
      refine wa_getr (r := 119) dX12_numbers_34 fkX12_7 rfl rfl rfl ?_
      refine wa_iconst (v := 4) dX12_numbers_37 rfl ?_
      refine wa_iload_n dX12_numbers_38 2 rfl rfl ?_
      refine wb_iast (j := 4) dX12_numbers_39 rfl (by unfold vp_in; decide) rfl ?_
      refine wa_iconst (v := 1) dX12_numbers_40 rfl ?_
      exact wa_iret dX12_numbers_41 rfl rfl hF
    · replace hF := hF.2 hc
      exact wa_pick [] rfl hF

theorem bX12_numbers_24 {X : a_X} {ad : Nat → Nat} {ca : Nat → ClassId} {d : Nat} {Post : Option Value → a_M → a_P → Prop} {x : Nat} {M : a_M}   (hF : Post (some (.int 0)) M (PT x)) : WA X ad ca LY RX12 cX12_numbers 3 (some FieldType.boolean) (d + 1) 0 0 (a_E X ad ca LY Post) 24 [] [] M (PT x) := by
  refine wa_iconst (v := 0) dX12_numbers_24 rfl ?_
  exact wa_iret dX12_numbers_25 rfl rfl hF

theorem eX12_numbers {X : a_X} {ad : Nat → Nat} {ca : Nat → ClassId} {d : Nat} {Post : Option Value → a_M → a_P → Prop} {x : Nat} {M : a_M} (x1 : Int32) (x2 : Int32) (h : WA X ad ca LY RX12 cX12_numbers 3 (some FieldType.boolean) d 0 0 (a_E X ad ca LY Post) 0 [(0, .ref 118), (1, .int x1), (2, .int x2)] [] M (PT x)) : Mt X ad ca LY d yX12_numbers cX12_numbers 3 (some FieldType.boolean) [.ref 118, .int x1, .int x2] M (PT x) Post := Mt.of (lv := [(0, .ref 118), (1, .int x1), (2, .int x2)]) (by decide +kernel) rfl rfl rfl (wa_pick [0, 1, 2] rfl h)

theorem bX12_put_0 {X : a_X} {ad : Nat → Nat} {ca : Nat → ClassId} {d : Nat} {kc ks : Nat} {QF : List Frame → Array Value → State → State → Prop} {x : Nat} {M : a_M} (x1 : Int32)  (hF : WA X ad ca LY RX12 cX12_put 3 none (d + 1) kc ks QF 3 [(0, .ref 118), (1, .int x1), (2, .int 24)] [] M (PT x)) : WA X ad ca LY RX12 cX12_put 3 none (d + 1) kc ks QF 0 [(0, .ref 118), (1, .int x1)] [] M (PT x) := by
  refine wa_bipush (v := 24) dX12_put_0 rfl ?_
  refine wa_istore_n (lv' := [(2, .int 24), (0, .ref 118), (1, .int x1)]) dX12_put_2 rfl rfl rfl ?_
  exact wa_pick [1, 2, 0] rfl hF

theorem bX12_put_3 {X : a_X} {ad : Nat → Nat} {ca : Nat → ClassId} {d : Nat} {Post : Option Value → a_M → a_P → Prop} {x : Nat} {M : a_M} (x1 : Int32) (x2 : Int32)  (hF : ((x2 < 0 → Post none M (PT x)) ∧ (¬ x2 < 0 → (vp_in (M 118 3) 300 ∧ WA X ad ca LY RX12 cX12_put 3 none (d + 1) 0 0 (a_E X ad ca LY Post) 3 [(0, .ref 118), (1, .int x1), (2, .int (x2 - 8))] [] (ms (ms M 121 ((M 118 3).toNatClampNeg) (((x1 >>> (x2 &&& 31)).toInt8.toInt32).toInt8.toInt32)) 118 3 ((M 118 3) + 1)) (PT x))))) : WA X ad ca LY RX12 cX12_put 3 none (d + 1) 0 0 (a_E X ad ca LY Post) 3 [(0, .ref 118), (1, .int x1), (2, .int x2)] [] M (PT x) := by
  refine wa_iload_n dX12_put_3 2 rfl rfl ?_
  refine wa_if_lt (tgt := 38) dX12_put_4 rfl (fun hc => ?_) (fun hc => ?_)
  · replace hF := hF.1 hc
    exact wa_vret dX12_put_38 rfl hF
  · replace hF := hF.2 hc
    refine wa_aload_n dX12_put_7 0 rfl rfl ?_
    refine wa_getr (r := 121) dX12_put_8 fkX12_16 rfl rfl rfl ?_
    refine wa_aload_n dX12_put_11 0 rfl rfl ?_
    refine wb_geti (v := M 118 3) dX12_put_12 fkX12_139 rfl rfl rfl ?_
    refine wa_iload_n dX12_put_15 1 rfl rfl ?_
    refine wa_iload_n dX12_put_16 2 rfl rfl ?_
    refine wa_ishr dX12_put_17 ?_
    refine wa_i2b dX12_put_18 ?_
    obtain ⟨hi9, hF⟩ := hF
    refine wb_bast (j := (M 118 3).toNatClampNeg) dX12_put_19 rfl hi9 rfl ?_
    refine wa_aload_n dX12_put_20 0 rfl rfl ?_
    refine wa_dup dX12_put_21 rfl ?_
    refine wb_geti (v := M 118 3) dX12_put_22 fkX12_139 rfl rfl ((ms_no M 121 ((M 118 3).toNatClampNeg) (((x1 >>> (x2 &&& 31)).toInt8.toInt32).toInt8.toInt32) 118 3 (fun h9 => absurd h9.1 (by decide))).trans rfl) ?_
    refine wa_iconst (v := 1) dX12_put_25 rfl ?_
    refine wa_iadd dX12_put_26 ?_
    refine wb_puti dX12_put_27 fkX12_139 fmX12_3 rfl rfl ?_
    refine wa_iload_n dX12_put_30 2 rfl rfl ?_
    refine wa_bipush (v := 8) dX12_put_31 rfl ?_
    refine wa_isub dX12_put_33 ?_
    refine wa_istore_n (lv' := [(2, .int (x2 - 8)), (0, .ref 118), (1, .int x1)]) dX12_put_34 rfl rfl rfl ?_
    refine wa_goto (tgt := 3) dX12_put_35 rfl ?_
    exact wa_pick [1, 2, 0] rfl hF

theorem eX12_put {X : a_X} {ad : Nat → Nat} {ca : Nat → ClassId} {d : Nat} {Post : Option Value → a_M → a_P → Prop} {x : Nat} {M : a_M} (x1 : Int32) (h : WA X ad ca LY RX12 cX12_put 3 none d 0 0 (a_E X ad ca LY Post) 0 [(0, .ref 118), (1, .int x1)] [] M (PT x)) : Mt X ad ca LY d yX12_put cX12_put 3 none [.ref 118, .int x1] M (PT x) Post := Mt.of (lv := [(0, .ref 118), (1, .int x1)]) (by decide +kernel) rfl rfl rfl (wa_pick [0, 1] rfl h)

theorem bX12_feed_0 {X : a_X} {ad : Nat → Nat} {ca : Nat → ClassId} {d : Nat} {Post : Option Value → a_M → a_P → Prop} {x : Nat} {M : a_M} (x1 : Int32) (x2 : Int32) (x3 : Int32) (x4 : Int32) (x5 : Int32)  (hF : ((((M 118 3) + 20) ≤ 300 → (∃ Q1 : a_M → Prop, Mt X ad ca LY d yX12_put cX12_put 3 none [.ref 118, .int x1] M (PT x) (q_v (PT x) Q1) ∧ ∀ M1, Q1 M1 → (∃ Q2 : a_M → Prop, Mt X ad ca LY d yX12_put cX12_put 3 none [.ref 118, .int x2] M1 (PT x) (q_v (PT x) Q2) ∧ ∀ M2, Q2 M2 → (∃ Q3 : a_M → Prop, Mt X ad ca LY d yX12_put cX12_put 3 none [.ref 118, .int x3] M2 (PT x) (q_v (PT x) Q3) ∧ ∀ M3, Q3 M3 → (∃ Q4 : a_M → Prop, Mt X ad ca LY d yX12_put cX12_put 3 none [.ref 118, .int x4] M3 (PT x) (q_v (PT x) Q4) ∧ ∀ M4, Q4 M4 → (∃ Q5 : a_M → Prop, Mt X ad ca LY d yX12_put cX12_put 3 none [.ref 118, .int x5] M4 (PT x) (q_v (PT x) Q5) ∧ ∀ M5, Q5 M5 → Post (some (.int (M5 118 3))) M5 (PT x))))))) ∧ (¬ ((M 118 3) + 20) ≤ 300 → Post (some (.int (-1))) M (PT x)))) : WA X ad ca LY RX12 cX12_feed 6 (some FieldType.int) (d + 1) 0 0 (a_E X ad ca LY Post) 0 [(0, .ref 118), (1, .int x1), (2, .int x2), (3, .int x3), (4, .int x4), (5, .int x5)] [] M (PT x) := by
  refine wa_aload_n dX12_feed_0 0 rfl rfl ?_
  refine wb_geti (v := M 118 3) dX12_feed_1 fkX12_139 rfl rfl rfl ?_
  refine wa_bipush (v := 20) dX12_feed_4 rfl ?_
  refine wa_iadd dX12_feed_6 ?_
  refine wa_sipush (v := 300) dX12_feed_7 rfl ?_
  refine wa_icmp_le (tgt := 15) dX12_feed_10 rfl (fun hc => ?_) (fun hc => ?_)
  · replace hF := hF.1 hc
    refine wa_aload_n dX12_feed_15 0 rfl rfl ?_
    refine wa_iload_n dX12_feed_16 1 rfl rfl ?_
    obtain ⟨Q1, hM9, hF⟩ := hF
    refine wa_callV [.int x1] dX12_feed_17 (mmX12_put _ _) mlX12_142 mnX12_put mseX12_put rfl rfl rfl rfl (a_dlt d) rfl rfl hM9 ?_
    rintro r9 M1 P9 ⟨rfl, rfl, hq9⟩
    replace hF := hF M1 hq9
    simp only [Option.toList, List.nil_append]
    refine wa_aload_n dX12_feed_20 0 rfl rfl ?_
    refine wa_iload_n dX12_feed_21 2 rfl rfl ?_
    obtain ⟨Q2, hM9, hF⟩ := hF
    refine wa_callV [.int x2] dX12_feed_22 (mmX12_put _ _) mlX12_142 mnX12_put mseX12_put rfl rfl rfl rfl (a_dlt d) rfl rfl hM9 ?_
    rintro r9 M2 P9 ⟨rfl, rfl, hq9⟩
    replace hF := hF M2 hq9
    simp only [Option.toList, List.nil_append]
    refine wa_aload_n dX12_feed_25 0 rfl rfl ?_
    refine wa_iload_n dX12_feed_26 3 rfl rfl ?_
    obtain ⟨Q3, hM9, hF⟩ := hF
    refine wa_callV [.int x3] dX12_feed_27 (mmX12_put _ _) mlX12_142 mnX12_put mseX12_put rfl rfl rfl rfl (a_dlt d) rfl rfl hM9 ?_
    rintro r9 M3 P9 ⟨rfl, rfl, hq9⟩
    replace hF := hF M3 hq9
    simp only [Option.toList, List.nil_append]
    refine wa_aload_n dX12_feed_30 0 rfl rfl ?_
    refine wa_iload dX12_feed_31 4 rfl ?_
    obtain ⟨Q4, hM9, hF⟩ := hF
    refine wa_callV [.int x4] dX12_feed_33 (mmX12_put _ _) mlX12_142 mnX12_put mseX12_put rfl rfl rfl rfl (a_dlt d) rfl rfl hM9 ?_
    rintro r9 M4 P9 ⟨rfl, rfl, hq9⟩
    replace hF := hF M4 hq9
    simp only [Option.toList, List.nil_append]
    refine wa_aload_n dX12_feed_36 0 rfl rfl ?_
    refine wa_iload dX12_feed_37 5 rfl ?_
    obtain ⟨Q5, hM9, hF⟩ := hF
    refine wa_callV [.int x5] dX12_feed_39 (mmX12_put _ _) mlX12_142 mnX12_put mseX12_put rfl rfl rfl rfl (a_dlt d) rfl rfl hM9 ?_
    rintro r9 M5 P9 ⟨rfl, rfl, hq9⟩
    replace hF := hF M5 hq9
    simp only [Option.toList, List.nil_append]
    refine wa_aload_n dX12_feed_42 0 rfl rfl ?_
    refine wb_geti (v := M5 118 3) dX12_feed_43 fkX12_139 rfl rfl rfl ?_
    exact wa_iret dX12_feed_46 rfl rfl hF
  · replace hF := hF.2 hc
    refine wa_iconst (v := (-1)) dX12_feed_13 rfl ?_
    exact wa_iret dX12_feed_14 rfl rfl hF

theorem eX12_feed {X : a_X} {ad : Nat → Nat} {ca : Nat → ClassId} {d : Nat} {Post : Option Value → a_M → a_P → Prop} {x : Nat} {M : a_M} (x1 : Int32) (x2 : Int32) (x3 : Int32) (x4 : Int32) (x5 : Int32) (h : WA X ad ca LY RX12 cX12_feed 6 (some FieldType.int) d 0 0 (a_E X ad ca LY Post) 0 [(0, .ref 118), (1, .int x1), (2, .int x2), (3, .int x3), (4, .int x4), (5, .int x5)] [] M (PT x)) : Mt X ad ca LY d yX12_feed cX12_feed 6 (some FieldType.int) [.ref 118, .int x1, .int x2, .int x3, .int x4, .int x5] M (PT x) Post := Mt.of (lv := [(0, .ref 118), (1, .int x1), (2, .int x2), (3, .int x3), (4, .int x4), (5, .int x5)]) (by decide +kernel) rfl rfl rfl (wa_pick [0, 1, 2, 3, 4, 5] rfl h)

theorem bX12_end_0 {X : a_X} {ad : Nat → Nat} {ca : Nat → ClassId} {d : Nat} {Post : Option Value → a_M → a_P → Prop} {x : Nat} {M : a_M} (x1 : Int32)  (hF : (∃ Q1 : Int32 → a_M → Prop, Mt X ad ca LY d yX12_in cX12_in 3 (some FieldType.boolean) [.int x1, .int 0, .int (M 118 3)] M (PT x) (q_i (PT x) Q1) ∧ ∀ v1 M1, Q1 v1 M1 → ((¬ v1 = 0 → Post (some (.int x1)) (ms M1 118 3 x1) (PT x)) ∧ (v1 = 0 → Post (some (.int (-1))) M1 (PT x))))) : WA X ad ca LY RX12 cX12_end 2 (some FieldType.int) (d + 1) 0 0 (a_E X ad ca LY Post) 0 [(0, .ref 118), (1, .int x1)] [] M (PT x) := by
  refine wa_iload_n dX12_end_0 1 rfl rfl ?_
  refine wa_iconst (v := 0) dX12_end_1 rfl ?_
  refine wa_aload_n dX12_end_2 0 rfl rfl ?_
  refine wb_geti (v := M 118 3) dX12_end_3 fkX12_139 rfl rfl rfl ?_
  obtain ⟨Q1, hM9, hF⟩ := hF
  refine wa_callS [.int x1, .int 0, .int (M 118 3)] dX12_end_6 (mmX12_in _ _) mlX12_124 mstX12_in rfl (a_dlt d) rfl rfl hM9 ?_
  rintro r9 M1 P9 ⟨v1, rfl, rfl, hq9⟩
  replace hF := hF v1 M1 hq9
  simp only [Option.toList, List.cons_append, List.nil_append]
  refine wa_if_ne (tgt := 14) dX12_end_9 rfl (fun hc => ?_) (fun hc => ?_)
  · replace hF := hF.1 hc
    refine wa_aload_n dX12_end_14 0 rfl rfl ?_
    refine wa_iload_n dX12_end_15 1 rfl rfl ?_
    refine wb_puti dX12_end_16 fkX12_139 fmX12_3 rfl rfl ?_
    refine wa_iload_n dX12_end_19 1 rfl rfl ?_
    exact wa_iret dX12_end_20 rfl rfl hF
  · replace hF := hF.2 hc
    refine wa_iconst (v := (-1)) dX12_end_12 rfl ?_
    exact wa_iret dX12_end_13 rfl rfl hF

theorem eX12_end {X : a_X} {ad : Nat → Nat} {ca : Nat → ClassId} {d : Nat} {Post : Option Value → a_M → a_P → Prop} {x : Nat} {M : a_M} (x1 : Int32) (h : WA X ad ca LY RX12 cX12_end 2 (some FieldType.int) d 0 0 (a_E X ad ca LY Post) 0 [(0, .ref 118), (1, .int x1)] [] M (PT x)) : Mt X ad ca LY d yX12_end cX12_end 2 (some FieldType.int) [.ref 118, .int x1] M (PT x) Post := Mt.of (lv := [(0, .ref 118), (1, .int x1)]) (by decide +kernel) rfl rfl rfl (wa_pick [0, 1] rfl h)

theorem bX12_isLetter_0 {X : a_X} {ad : Nat → Nat} {ca : Nat → ClassId} {d : Nat} {Post : Option Value → a_M → a_P → Prop} {x : Nat} {M : a_M} (x0 : Int32)  (hF : (∃ Q1 : Int32 → a_M → Prop, Mt X ad ca LY d yX12_in cX12_in 3 (some FieldType.boolean) [.int x0, .int 97, .int 122] M (PT x) (q_i (PT x) Q1) ∧ ∀ v1 M1, Q1 v1 M1 → ((¬ v1 = 0 → WA X ad ca LY RX12 cX12_isLetter 1 (some FieldType.boolean) (d + 1) 0 0 (a_E X ad ca LY Post) 22 [] [] M1 (PT x)) ∧ (v1 = 0 → (∃ Q2 : Int32 → a_M → Prop, Mt X ad ca LY d yX12_in cX12_in 3 (some FieldType.boolean) [.int x0, .int 65, .int 90] M1 (PT x) (q_i (PT x) Q2) ∧ ∀ v2 M2, Q2 v2 M2 → ((v2 = 0 → Post (some (.int 0)) M2 (PT x)) ∧ (¬ v2 = 0 → WA X ad ca LY RX12 cX12_isLetter 1 (some FieldType.boolean) (d + 1) 0 0 (a_E X ad ca LY Post) 22 [] [] M2 (PT x)))))))) : WA X ad ca LY RX12 cX12_isLetter 1 (some FieldType.boolean) (d + 1) 0 0 (a_E X ad ca LY Post) 0 [(0, .int x0)] [] M (PT x) := by
  refine wa_iload_n dX12_isLetter_0 0 rfl rfl ?_
  refine wa_bipush (v := 97) dX12_isLetter_1 rfl ?_
  refine wa_bipush (v := 122) dX12_isLetter_3 rfl ?_
  obtain ⟨Q1, hM9, hF⟩ := hF
  refine wa_callS [.int x0, .int 97, .int 122] dX12_isLetter_5 (mmX12_in _ _) mlX12_124 mstX12_in rfl (a_dlt d) rfl rfl hM9 ?_
  rintro r9 M1 P9 ⟨v1, rfl, rfl, hq9⟩
  replace hF := hF v1 M1 hq9
  simp only [Option.toList, List.cons_append, List.nil_append]
  refine wa_if_ne (tgt := 22) dX12_isLetter_8 rfl (fun hc => ?_) (fun hc => ?_)
  · replace hF := hF.1 hc
    exact wa_pick [] rfl hF
  · replace hF := hF.2 hc
    refine wa_iload_n dX12_isLetter_11 0 rfl rfl ?_
    refine wa_bipush (v := 65) dX12_isLetter_12 rfl ?_
    refine wa_bipush (v := 90) dX12_isLetter_14 rfl ?_
    obtain ⟨Q2, hM9, hF⟩ := hF
    refine wa_callS [.int x0, .int 65, .int 90] dX12_isLetter_16 (mmX12_in _ _) mlX12_124 mstX12_in rfl (a_dlt d) rfl rfl hM9 ?_
    rintro r9 M2 P9 ⟨v2, rfl, rfl, hq9⟩
    replace hF := hF v2 M2 hq9
    simp only [Option.toList, List.cons_append, List.nil_append]
    refine wa_if_eq (tgt := 26) dX12_isLetter_19 rfl (fun hc => ?_) (fun hc => ?_)
    · replace hF := hF.1 hc
      refine wa_iconst (v := 0) dX12_isLetter_26 rfl ?_
      exact wa_iret dX12_isLetter_27 rfl rfl hF
    · replace hF := hF.2 hc
      exact wa_pick [] rfl hF

theorem bX12_isLetter_22 {X : a_X} {ad : Nat → Nat} {ca : Nat → ClassId} {d : Nat} {Post : Option Value → a_M → a_P → Prop} {x : Nat} {M : a_M}   (hF : Post (some (.int 1)) M (PT x)) : WA X ad ca LY RX12 cX12_isLetter 1 (some FieldType.boolean) (d + 1) 0 0 (a_E X ad ca LY Post) 22 [] [] M (PT x) := by
  refine wa_iconst (v := 1) dX12_isLetter_22 rfl ?_
  refine wa_goto (tgt := 27) dX12_isLetter_23 rfl ?_
  exact wa_iret dX12_isLetter_27 rfl rfl hF

theorem eX12_isLetter {X : a_X} {ad : Nat → Nat} {ca : Nat → ClassId} {d : Nat} {Post : Option Value → a_M → a_P → Prop} {x : Nat} {M : a_M} (x0 : Int32) (h : WA X ad ca LY RX12 cX12_isLetter 1 (some FieldType.boolean) d 0 0 (a_E X ad ca LY Post) 0 [(0, .int x0)] [] M (PT x)) : Mt X ad ca LY d yX12_isLetter cX12_isLetter 1 (some FieldType.boolean) [.int x0] M (PT x) Post := Mt.of (lv := [(0, .int x0)]) (by decide +kernel) rfl rfl rfl (wa_pick [0] rfl h)

theorem bX12_wordOf_0 {X : a_X} {ad : Nat → Nat} {ca : Nat → ClassId} {d : Nat} {Post : Option Value → a_M → a_P → Prop} {x : Nat} {M : a_M} (x0 : Int64)  (hF : ((¬ (lg_cmp x0 33) = 0 → ((¬ (lg_cmp x0 34) = 0 → ((¬ (lg_cmp x0 35) = 0 → ((¬ (lg_cmp x0 866294196) = 0 → ((¬ (lg_cmp x0 10144368) = 0 → ((¬ (lg_cmp x0 212333) = 0 → ((¬ (lg_cmp x0 881208101) = 0 → ((¬ (lg_cmp x0 53) = 0 → ((¬ (lg_cmp x0 154913) = 0 → ((¬ (lg_cmp x0 36) = 0 → Post (some (.int (-1))) M (PT x)) ∧ ((lg_cmp x0 36) = 0 → Post (some (.int 9)) M (PT x)))) ∧ ((lg_cmp x0 154913) = 0 → Post (some (.int 8)) M (PT x)))) ∧ ((lg_cmp x0 53) = 0 → Post (some (.int 7)) M (PT x)))) ∧ ((lg_cmp x0 881208101) = 0 → Post (some (.int 6)) M (PT x)))) ∧ ((lg_cmp x0 212333) = 0 → Post (some (.int 5)) M (PT x)))) ∧ ((lg_cmp x0 10144368) = 0 → Post (some (.int 4)) M (PT x)))) ∧ ((lg_cmp x0 866294196) = 0 → Post (some (.int 3)) M (PT x)))) ∧ ((lg_cmp x0 35) = 0 → Post (some (.int 2)) M (PT x)))) ∧ ((lg_cmp x0 34) = 0 → Post (some (.int 1)) M (PT x)))) ∧ ((lg_cmp x0 33) = 0 → Post (some (.int 0)) M (PT x)))) : WA X ad ca LY RX12 cX12_wordOf 2 (some FieldType.int) (d + 1) 0 0 (a_E X ad ca LY Post) 0 [(0, .long x0)] [] M (PT x) := by
  refine wa_lload_n dX12_wordOf_0 0 rfl rfl ?_
  refine wa_ldc2 dX12_wordOf_1 klX12_146 ?_
  refine wa_lcmp dX12_wordOf_4 ?_
  refine wa_if_ne (tgt := 10) dX12_wordOf_5 rfl (fun hc => ?_) (fun hc => ?_)
  · replace hF := hF.1 hc
    refine wa_lload_n dX12_wordOf_10 0 rfl rfl ?_
    refine wa_ldc2 dX12_wordOf_11 klX12_148 ?_
    refine wa_lcmp dX12_wordOf_14 ?_
    refine wa_if_ne (tgt := 20) dX12_wordOf_15 rfl (fun hc => ?_) (fun hc => ?_)
    · replace hF := hF.1 hc
      refine wa_lload_n dX12_wordOf_20 0 rfl rfl ?_
      refine wa_ldc2 dX12_wordOf_21 klX12_150 ?_
      refine wa_lcmp dX12_wordOf_24 ?_
      refine wa_if_ne (tgt := 30) dX12_wordOf_25 rfl (fun hc => ?_) (fun hc => ?_)
      · replace hF := hF.1 hc
        refine wa_lload_n dX12_wordOf_30 0 rfl rfl ?_
        refine wa_ldc2 dX12_wordOf_31 klX12_152 ?_
        refine wa_lcmp dX12_wordOf_34 ?_
        refine wa_if_ne (tgt := 40) dX12_wordOf_35 rfl (fun hc => ?_) (fun hc => ?_)
        · replace hF := hF.1 hc
          refine wa_lload_n dX12_wordOf_40 0 rfl rfl ?_
          refine wa_ldc2 dX12_wordOf_41 klX12_154 ?_
          refine wa_lcmp dX12_wordOf_44 ?_
          refine wa_if_ne (tgt := 50) dX12_wordOf_45 rfl (fun hc => ?_) (fun hc => ?_)
          · replace hF := hF.1 hc
            refine wa_lload_n dX12_wordOf_50 0 rfl rfl ?_
            refine wa_ldc2 dX12_wordOf_51 klX12_156 ?_
            refine wa_lcmp dX12_wordOf_54 ?_
            refine wa_if_ne (tgt := 60) dX12_wordOf_55 rfl (fun hc => ?_) (fun hc => ?_)
            · replace hF := hF.1 hc
              refine wa_lload_n dX12_wordOf_60 0 rfl rfl ?_
              refine wa_ldc2 dX12_wordOf_61 klX12_158 ?_
              refine wa_lcmp dX12_wordOf_64 ?_
              refine wa_if_ne (tgt := 71) dX12_wordOf_65 rfl (fun hc => ?_) (fun hc => ?_)
              · replace hF := hF.1 hc
                refine wa_lload_n dX12_wordOf_71 0 rfl rfl ?_
                refine wa_ldc2 dX12_wordOf_72 klX12_160 ?_
                refine wa_lcmp dX12_wordOf_75 ?_
                refine wa_if_ne (tgt := 82) dX12_wordOf_76 rfl (fun hc => ?_) (fun hc => ?_)
                · replace hF := hF.1 hc
                  refine wa_lload_n dX12_wordOf_82 0 rfl rfl ?_
                  refine wa_ldc2 dX12_wordOf_83 klX12_162 ?_
                  refine wa_lcmp dX12_wordOf_86 ?_
                  refine wa_if_ne (tgt := 93) dX12_wordOf_87 rfl (fun hc => ?_) (fun hc => ?_)
                  · replace hF := hF.1 hc
                    refine wa_lload_n dX12_wordOf_93 0 rfl rfl ?_
                    refine wa_ldc2 dX12_wordOf_94 klX12_164 ?_
                    refine wa_lcmp dX12_wordOf_97 ?_
                    refine wa_if_ne (tgt := 104) dX12_wordOf_98 rfl (fun hc => ?_) (fun hc => ?_)
                    · replace hF := hF.1 hc
                      refine wa_iconst (v := (-1)) dX12_wordOf_104 rfl ?_
                      exact wa_iret dX12_wordOf_105 rfl rfl hF
                    · replace hF := hF.2 hc
                      refine wa_bipush (v := 9) dX12_wordOf_101 rfl ?_
                      exact wa_iret dX12_wordOf_103 rfl rfl hF
                  · replace hF := hF.2 hc
                    refine wa_bipush (v := 8) dX12_wordOf_90 rfl ?_
                    exact wa_iret dX12_wordOf_92 rfl rfl hF
                · replace hF := hF.2 hc
                  refine wa_bipush (v := 7) dX12_wordOf_79 rfl ?_
                  exact wa_iret dX12_wordOf_81 rfl rfl hF
              · replace hF := hF.2 hc
                refine wa_bipush (v := 6) dX12_wordOf_68 rfl ?_
                exact wa_iret dX12_wordOf_70 rfl rfl hF
            · replace hF := hF.2 hc
              refine wa_iconst (v := 5) dX12_wordOf_58 rfl ?_
              exact wa_iret dX12_wordOf_59 rfl rfl hF
          · replace hF := hF.2 hc
            refine wa_iconst (v := 4) dX12_wordOf_48 rfl ?_
            exact wa_iret dX12_wordOf_49 rfl rfl hF
        · replace hF := hF.2 hc
          refine wa_iconst (v := 3) dX12_wordOf_38 rfl ?_
          exact wa_iret dX12_wordOf_39 rfl rfl hF
      · replace hF := hF.2 hc
        refine wa_iconst (v := 2) dX12_wordOf_28 rfl ?_
        exact wa_iret dX12_wordOf_29 rfl rfl hF
    · replace hF := hF.2 hc
      refine wa_iconst (v := 1) dX12_wordOf_18 rfl ?_
      exact wa_iret dX12_wordOf_19 rfl rfl hF
  · replace hF := hF.2 hc
    refine wa_iconst (v := 0) dX12_wordOf_8 rfl ?_
    exact wa_iret dX12_wordOf_9 rfl rfl hF

theorem eX12_wordOf {X : a_X} {ad : Nat → Nat} {ca : Nat → ClassId} {d : Nat} {Post : Option Value → a_M → a_P → Prop} {x : Nat} {M : a_M} (x0 : Int64) (h : WA X ad ca LY RX12 cX12_wordOf 2 (some FieldType.int) d 0 0 (a_E X ad ca LY Post) 0 [(0, .long x0)] [] M (PT x)) : Mt X ad ca LY d yX12_wordOf cX12_wordOf 2 (some FieldType.int) [.long x0] M (PT x) Post := Mt.of (lv := [(0, .long x0)]) (by decide +kernel) rfl rfl rfl (wa_pick [0] rfl h)
