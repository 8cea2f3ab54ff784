theorem bX6_bonds_0 {X : a_X} {ad : Nat → Nat} {ca : Nat → ClassId} {d : Nat} {Post : Option Value → a_M → a_P → Prop} {x : Nat} {M : a_M} (o0 : Nat) (hLo0 : LY[o0]? = some (6, 5)) (hF : (((M o0 1) = 0 → Post (some (.int ((M o0 0) - 1))) M (PT x)) ∧ (¬ (M o0 1) = 0 → Post (some (.int (M o0 0))) M (PT x)))) : WA X ad ca LY RX6 cX6_bonds 1 (some FieldType.int) (d + 1) 0 0 (a_E X ad ca LY Post) 0 [(0, .ref o0)] [] M (PT x) := by
  refine wa_aload_n dX6_bonds_0 0 rfl rfl ?_
  refine wb_geti (v := M o0 1) dX6_bonds_1 fkX6_15 rfl hLo0 rfl ?_
  refine wa_if_eq (tgt := 14) dX6_bonds_4 rfl (fun hc => ?_) (fun hc => ?_)
  · replace hF := hF.1 hc
    refine wa_aload_n dX6_bonds_14 0 rfl rfl ?_
    refine wb_geti (v := M o0 0) dX6_bonds_15 fkX6_9 rfl hLo0 rfl ?_
    refine wa_iconst (v := 1) dX6_bonds_18 rfl ?_
    refine wa_isub dX6_bonds_19 ?_
    exact wa_iret dX6_bonds_20 rfl rfl hF
  · replace hF := hF.2 hc
    refine wa_aload_n dX6_bonds_7 0 rfl rfl ?_
    refine wb_geti (v := M o0 0) dX6_bonds_8 fkX6_9 rfl hLo0 rfl ?_
    refine wa_goto (tgt := 20) dX6_bonds_11 rfl ?_
    exact wa_iret dX6_bonds_20 rfl rfl hF

theorem eX6_bonds {X : a_X} {ad : Nat → Nat} {ca : Nat → ClassId} {d : Nat} {Post : Option Value → a_M → a_P → Prop} {x : Nat} {M : a_M} (o0 : Nat) (h : WA X ad ca LY RX6 cX6_bonds 1 (some FieldType.int) d 0 0 (a_E X ad ca LY Post) 0 [(0, .ref o0)] [] M (PT x)) : Mt X ad ca LY d yX6_bonds cX6_bonds 1 (some FieldType.int) [.ref o0] M (PT x) Post := Mt.of (lv := [(0, .ref o0)]) (by decide +kernel) rfl rfl rfl (wa_pick [0] rfl h)

theorem bX6_bond_0 {X : a_X} {ad : Nat → Nat} {ca : Nat → ClassId} {d : Nat} {Post : Option Value → a_M → a_P → Prop} {x : Nat} {M : a_M} (o0 : Nat) (x1 : Int32) (hLo0 : LY[o0]? = some (6, 5)) (hF : ((¬ (x1 + 1) = (M o0 0) → Post (some (.int (((1 : Int32) <<< (x1 &&& 31)) ||| ((1 : Int32) <<< ((x1 + 1) &&& 31))))) M (PT x)) ∧ ((x1 + 1) = (M o0 0) → Post (some (.int (((1 : Int32) <<< (x1 &&& 31)) ||| ((1 : Int32) <<< (0 &&& 31))))) M (PT x)))) : WA X ad ca LY RX6 cX6_bond 2 (some FieldType.int) (d + 1) 0 0 (a_E X ad ca LY Post) 0 [(0, .ref o0), (1, .int x1)] [] M (PT x) := by
  refine wa_iconst (v := 1) dX6_bond_0 rfl ?_
  refine wa_iload_n dX6_bond_1 1 rfl rfl ?_
  refine wa_ishl dX6_bond_2 ?_
  refine wa_iconst (v := 1) dX6_bond_3 rfl ?_
  refine wa_iload_n dX6_bond_4 1 rfl rfl ?_
  refine wa_iconst (v := 1) dX6_bond_5 rfl ?_
  refine wa_iadd dX6_bond_6 ?_
  refine wa_aload_n dX6_bond_7 0 rfl rfl ?_
  refine wb_geti (v := M o0 0) dX6_bond_8 fkX6_9 rfl hLo0 rfl ?_
  refine wa_icmp_ne (tgt := 18) dX6_bond_11 rfl (fun hc => ?_) (fun hc => ?_)
  · replace hF := hF.1 hc
    refine wa_iload_n dX6_bond_18 1 rfl rfl ?_
    refine wa_iconst (v := 1) dX6_bond_19 rfl ?_
    refine wa_iadd dX6_bond_20 ?_
    refine wa_ishl dX6_bond_21 ?_
    refine wa_ior dX6_bond_22 ?_
    exact wa_iret dX6_bond_23 rfl rfl hF
  · replace hF := hF.2 hc
    refine wa_iconst (v := 0) dX6_bond_14 rfl ?_
    refine wa_goto (tgt := 21) dX6_bond_15 rfl ?_
    refine wa_ishl dX6_bond_21 ?_
    refine wa_ior dX6_bond_22 ?_
    exact wa_iret dX6_bond_23 rfl rfl hF

theorem eX6_bond {X : a_X} {ad : Nat → Nat} {ca : Nat → ClassId} {d : Nat} {Post : Option Value → a_M → a_P → Prop} {x : Nat} {M : a_M} (o0 : Nat) (x1 : Int32) (h : WA X ad ca LY RX6 cX6_bond 2 (some FieldType.int) d 0 0 (a_E X ad ca LY Post) 0 [(0, .ref o0), (1, .int x1)] [] M (PT x)) : Mt X ad ca LY d yX6_bond cX6_bond 2 (some FieldType.int) [.ref o0, .int x1] M (PT x) Post := Mt.of (lv := [(0, .ref o0), (1, .int x1)]) (by decide +kernel) rfl rfl rfl (wa_pick [0, 1] rfl h)

theorem bX6_areAlike_0 {X : a_X} {ad : Nat → Nat} {ca : Nat → ClassId} {d : Nat} {Post : Option Value → a_M → a_P → Prop} {x : Nat} {M : a_M} (x0 : Int32) (x1 : Int32)  (hF : (((x0 &&& x1) = 0 → WA X ad ca LY RX6 cX6_areAlike 3 (some FieldType.boolean) (d + 1) 0 0 (a_E X ad ca LY Post) 13 [] [] M (PT x)) ∧ (¬ (x0 &&& x1) = 0 → ((¬ (x0 &&& x1) = x1 → Post (some (.int 0)) M (PT x)) ∧ ((x0 &&& x1) = x1 → WA X ad ca LY RX6 cX6_areAlike 3 (some FieldType.boolean) (d + 1) 0 0 (a_E X ad ca LY Post) 13 [] [] M (PT x)))))) : WA X ad ca LY RX6 cX6_areAlike 3 (some FieldType.boolean) (d + 1) 0 0 (a_E X ad ca LY Post) 0 [(0, .int x0), (1, .int x1)] [] M (PT x) := by
  refine wa_iload_n dX6_areAlike_0 0 rfl rfl ?_
  refine wa_iload_n dX6_areAlike_1 1 rfl rfl ?_
  refine wa_iand dX6_areAlike_2 ?_
  refine wa_istore_n (lv' := [(2, .int (x0 &&& x1)), (0, .int x0), (1, .int x1)]) dX6_areAlike_3 rfl rfl rfl ?_
  refine wa_iload_n dX6_areAlike_4 0 rfl rfl ?_
  refine wa_if_eq (tgt := 13) dX6_areAlike_5 rfl (fun hc => ?_) (fun hc => ?_)
  · replace hF := hF.1 hc
    exact wa_pick [] rfl hF
  · replace hF := hF.2 hc
    refine wa_iload_n dX6_areAlike_8 0 rfl rfl ?_
    refine wa_iload_n dX6_areAlike_9 2 rfl rfl ?_
    refine wa_icmp_ne (tgt := 17) dX6_areAlike_10 rfl (fun hc => ?_) (fun hc => ?_)
    · replace hF := hF.1 hc
      refine wa_iconst (v := 0) dX6_areAlike_17 rfl ?_
      exact wa_iret dX6_areAlike_18 rfl rfl hF
    · replace hF := hF.2 hc
      exact wa_pick [] rfl hF

theorem bX6_areAlike_13 {X : a_X} {ad : Nat → Nat} {ca : Nat → ClassId} {d : Nat} {Post : Option Value → a_M → a_P → Prop} {x : Nat} {M : a_M}   (hF : Post (some (.int 1)) M (PT x)) : WA X ad ca LY RX6 cX6_areAlike 3 (some FieldType.boolean) (d + 1) 0 0 (a_E X ad ca LY Post) 13 [] [] M (PT x) := by
  refine wa_iconst (v := 1) dX6_areAlike_13 rfl ?_
  refine wa_goto (tgt := 18) dX6_areAlike_14 rfl ?_
  exact wa_iret dX6_areAlike_18 rfl rfl hF

theorem eX6_areAlike {X : a_X} {ad : Nat → Nat} {ca : Nat → ClassId} {d : Nat} {Post : Option Value → a_M → a_P → Prop} {x : Nat} {M : a_M} (x0 : Int32) (x1 : Int32) (h : WA X ad ca LY RX6 cX6_areAlike 3 (some FieldType.boolean) d 0 0 (a_E X ad ca LY Post) 0 [(0, .int x0), (1, .int x1)] [] M (PT x)) : Mt X ad ca LY d yX6_areAlike cX6_areAlike 3 (some FieldType.boolean) [.int x0, .int x1] M (PT x) Post := Mt.of (lv := [(0, .int x0), (1, .int x1)]) (by decide +kernel) rfl rfl rfl (wa_pick [0, 1] rfl h)

theorem bX6_shifted_0 {X : a_X} {ad : Nat → Nat} {ca : Nat → ClassId} {d : Nat} {Post : Option Value → a_M → a_P → Prop} {x : Nat} {M : a_M} (o0 : Nat) (x1 : Int32) (hLo0 : LY[o0]? = some (6, 5)) (hF : (∃ Q1 : Int32 → a_M → Prop, Mt X ad ca LY d yX6_states cX6_states 1 (some FieldType.int) [.ref o0] M (PT x) (q_i (PT x) Q1) ∧ ∀ v1 M1, Q1 v1 M1 → Post (some (.int (((x1 <<< (1 &&& 31)) ||| (x1 >>> (((M o0 0) - 1) &&& 31))) &&& (v1 - 1)))) M1 (PT x))) : WA X ad ca LY RX6 cX6_shifted 2 (some FieldType.int) (d + 1) 0 0 (a_E X ad ca LY Post) 0 [(0, .ref o0), (1, .int x1)] [] M (PT x) := by
  refine wa_iload_n dX6_shifted_0 1 rfl rfl ?_
  refine wa_iconst (v := 1) dX6_shifted_1 rfl ?_
  refine wa_ishl dX6_shifted_2 ?_
  refine wa_iload_n dX6_shifted_3 1 rfl rfl ?_
  refine wa_aload_n dX6_shifted_4 0 rfl rfl ?_
  refine wb_geti (v := M o0 0) dX6_shifted_5 fkX6_9 rfl hLo0 rfl ?_
  refine wa_iconst (v := 1) dX6_shifted_8 rfl ?_
  refine wa_isub dX6_shifted_9 ?_
  refine wa_ishr dX6_shifted_10 ?_
  refine wa_ior dX6_shifted_11 ?_
  refine wa_aload_n dX6_shifted_12 0 rfl rfl ?_
  obtain ⟨Q1, hM9, hF⟩ := hF
  refine wa_callV [] dX6_shifted_13 (mmX6_states _ _) mlX6_28 mnX6_states mseX6_states hLo0 rfl rfl rfl (a_dlt d) rfl rfl hM9 ?_
  rintro r9 M1 P9 ⟨v1, rfl, rfl, hq9⟩
  replace hF := hF v1 M1 hq9
  simp only [Option.toList, List.cons_append, List.nil_append]
  refine wa_iconst (v := 1) dX6_shifted_16 rfl ?_
  refine wa_isub dX6_shifted_17 ?_
  refine wa_iand dX6_shifted_18 ?_
  exact wa_iret dX6_shifted_19 rfl rfl hF

theorem eX6_shifted {X : a_X} {ad : Nat → Nat} {ca : Nat → ClassId} {d : Nat} {Post : Option Value → a_M → a_P → Prop} {x : Nat} {M : a_M} (o0 : Nat) (x1 : Int32) (h : WA X ad ca LY RX6 cX6_shifted 2 (some FieldType.int) d 0 0 (a_E X ad ca LY Post) 0 [(0, .ref o0), (1, .int x1)] [] M (PT x)) : Mt X ad ca LY d yX6_shifted cX6_shifted 2 (some FieldType.int) [.ref o0, .int x1] M (PT x) Post := Mt.of (lv := [(0, .ref o0), (1, .int x1)]) (by decide +kernel) rfl rfl rfl (wa_pick [0, 1] rfl h)

theorem bX6_sumBetween_0 {X : a_X} {ad : Nat → Nat} {ca : Nat → ClassId} {d : Nat} {kc ks : Nat} {QF : List Frame → Array Value → State → State → Prop} {x : Nat} {M : a_M} (o0 : Nat) (x1 : Int32) (x2 : Int32) (hLo0 : LY[o0]? = some (6, 5)) (hF : WA X ad ca LY RX6 cX6_sumBetween 7 (some FieldType.int) (d + 1) kc ks QF 5 [(0, .ref o0), (1, .int x1), (2, .int x2), (3, .int 0), (4, .int 0)] [] M (PT x)) : WA X ad ca LY RX6 cX6_sumBetween 7 (some FieldType.int) (d + 1) kc ks QF 0 [(0, .ref o0), (1, .int x1), (2, .int x2)] [] M (PT x) := by
  refine wa_iconst (v := 0) dX6_sumBetween_0 rfl ?_
  refine wa_istore_n (lv' := [(3, .int 0), (0, .ref o0), (1, .int x1), (2, .int x2)]) dX6_sumBetween_1 rfl rfl rfl ?_
  refine wa_iconst (v := 0) dX6_sumBetween_2 rfl ?_
  refine wa_istore (lv' := [(4, .int 0), (3, .int 0), (0, .ref o0), (1, .int x1), (2, .int x2)]) dX6_sumBetween_3 rfl rfl ?_
  exact wa_pick [2, 3, 4, 1, 0] rfl hF

theorem bX6_sumBetween_5 {X : a_X} {ad : Nat → Nat} {ca : Nat → ClassId} {d : Nat} {Post : Option Value → a_M → a_P → Prop} {x : Nat} {M : a_M} (o0 : Nat) (x1 : Int32) (x2 : Int32) (x3 : Int32) (x4 : Int32) (hLo0 : LY[o0]? = some (6, 5)) (hF : (∃ Q1 : Int32 → a_M → Prop, Mt X ad ca LY d yX6_bonds cX6_bonds 1 (some FieldType.int) [.ref o0] M (PT x) (q_i (PT x) Q1) ∧ ∀ v1 M1, Q1 v1 M1 → ((v1 ≤ x4 → (∃ Q2 : Int32 → a_M → Prop, Mt X ad ca LY d yX11_left cX11_left 3 (some FieldType.int) [.int x3, .int (M1 o0 2)] M1 (PT x) (q_i (PT x) Q2) ∧ ∀ v2 M2, Q2 v2 M2 → Post (some (.int v2)) M2 (PT x))) ∧ (¬ v1 ≤ x4 → (∃ Q3 : Int32 → a_M → Prop, Mt X ad ca LY d yX6_bond cX6_bond 2 (some FieldType.int) [.ref o0, .int x4] M1 (PT x) (q_i (PT x) Q3) ∧ ∀ v3 M3, Q3 v3 M3 → (∃ Q4 : Int32 → a_M → Prop, Mt X ad ca LY d yX6_areAlike cX6_areAlike 3 (some FieldType.boolean) [.int x1, .int v3] M3 (PT x) (q_i (PT x) Q4) ∧ ∀ v4 M4, Q4 v4 M4 → ((v4 = 0 → WA X ad ca LY RX6 cX6_sumBetween 7 (some FieldType.int) (d + 1) 0 0 (a_E X ad ca LY Post) 50 [(0, .ref o0), (1, .int x1), (2, .int x2), (3, .int x3), (4, .int x4), (5, .int v3), (6, .int v4)] [] M4 (PT x)) ∧ (¬ v4 = 0 → ((¬ x1 = x2 → WA X ad ca LY RX6 cX6_sumBetween 7 (some FieldType.int) (d + 1) 0 0 (a_E X ad ca LY Post) 50 [(0, .ref o0), (1, .int x1), (2, .int x2), (3, .int x3), (4, .int x4), (5, .int v3), (6, .int v4)] [] M4 (PT x)) ∧ (x1 = x2 → WA X ad ca LY RX6 cX6_sumBetween 7 (some FieldType.int) (d + 1) 0 0 (a_E X ad ca LY Post) 66 [(0, .ref o0), (1, .int x1), (2, .int x2), (3, .int (x3 + (M4 o0 4))), (4, .int x4)] [] M4 (PT x))))))))))) : WA X ad ca LY RX6 cX6_sumBetween 7 (some FieldType.int) (d + 1) 0 0 (a_E X ad ca LY Post) 5 [(0, .ref o0), (1, .int x1), (2, .int x2), (3, .int x3), (4, .int x4)] [] M (PT x) := by
  refine wa_iload dX6_sumBetween_5 4 rfl ?_
  refine wa_aload_n dX6_sumBetween_7 0 rfl rfl ?_
  obtain ⟨Q1, hM9, hF⟩ := hF
  refine wa_callV [] dX6_sumBetween_8 (mmX6_bonds _ _) mlX6_32 mnX6_bonds mseX6_bonds hLo0 rfl rfl rfl (a_dlt d) rfl rfl hM9 ?_
  rintro r9 M1 P9 ⟨v1, rfl, rfl, hq9⟩
  replace hF := hF v1 M1 hq9
  simp only [Option.toList, List.cons_append, List.nil_append]
  refine wa_icmp_ge (tgt := 72) dX6_sumBetween_11 rfl (fun hc => ?_) (fun hc => ?_)
  · replace hF := hF.1 hc
    refine wa_iload_n dX6_sumBetween_72 3 rfl rfl ?_
    refine wa_aload_n dX6_sumBetween_73 0 rfl rfl ?_
    refine wb_geti (v := M1 o0 2) dX6_sumBetween_74 fkX6_19 rfl hLo0 rfl ?_
    obtain ⟨Q2, hM9, hF⟩ := hF
    refine wa_callSN [.int x3, .int (M1 o0 2)] dX6_sumBetween_77 (mmX11_left _ _) mkX6_43 mstX11_left rfl (a_dlt d) rfl rfl hM9 ?_
    rintro r9 M2 P9 ⟨v2, rfl, rfl, hq9⟩
    replace hF := hF v2 M2 hq9
    simp only [Option.toList, List.cons_append, List.nil_append]
    exact wa_iret dX6_sumBetween_80 rfl rfl hF
  · replace hF := hF.2 hc
    refine wa_aload_n dX6_sumBetween_14 0 rfl rfl ?_
    refine wa_iload dX6_sumBetween_15 4 rfl ?_
    obtain ⟨Q3, hM9, hF⟩ := hF
    refine wa_callV [.int x4] dX6_sumBetween_17 (mmX6_bond _ _) mlX6_35 mnX6_bond mseX6_bond hLo0 rfl rfl rfl (a_dlt d) rfl rfl hM9 ?_
    rintro r9 M3 P9 ⟨v3, rfl, rfl, hq9⟩
    replace hF := hF v3 M3 hq9
    simp only [Option.toList, List.cons_append, List.nil_append]
    refine wa_istore (lv' := [(5, .int v3), (0, .ref o0), (1, .int x1), (2, .int x2), (3, .int x3), (4, .int x4)]) dX6_sumBetween_20 rfl rfl ?_
    refine wa_iload_n dX6_sumBetween_22 2 rfl rfl ?_
    refine wa_iload dX6_sumBetween_23 0 rfl ?_
    obtain ⟨Q4, hM9, hF⟩ := hF
    refine wa_callS [.int x1, .int v3] dX6_sumBetween_25 (mmX6_areAlike _ _) mlX6_39 mstX6_areAlike rfl (a_dlt d) rfl rfl hM9 ?_
    rintro r9 M4 P9 ⟨v4, rfl, rfl, hq9⟩
    replace hF := hF v4 M4 hq9
    simp only [Option.toList, List.cons_append, List.nil_append]
    refine wa_istore (lv' := [(6, .int v4), (5, .int v3), (0, .ref o0), (1, .int x1), (2, .int x2), (3, .int x3), (4, .int x4)]) dX6_sumBetween_28 rfl rfl ?_
    refine wa_iload dX6_sumBetween_30 0 rfl ?_
    refine wa_if_eq (tgt := 50) dX6_sumBetween_32 rfl (fun hc => ?_) (fun hc => ?_)
    · replace hF := hF.1 hc
      exact wa_pick [2, 3, 4, 5, 6, 1, 0] rfl hF
    · replace hF := hF.2 hc
      refine wa_iload_n dX6_sumBetween_35 3 rfl rfl ?_
      refine wa_iload_n dX6_sumBetween_36 4 rfl rfl ?_
      refine wa_icmp_ne (tgt := 50) dX6_sumBetween_37 rfl (fun hc => ?_) (fun hc => ?_)
      · replace hF := hF.1 hc
        exact wa_pick [2, 3, 4, 5, 6, 1, 0] rfl hF
      · replace hF := hF.2 hc
        refine wa_iload_n dX6_sumBetween_40 5 rfl rfl ?_
        refine wa_aload_n dX6_sumBetween_41 2 rfl rfl ?_
        refine wb_geti (v := M4 o0 4) dX6_sumBetween_42 fkX6_25 rfl hLo0 rfl ?_
        refine wa_iadd dX6_sumBetween_45 ?_
        refine wa_istore_n (lv' := [(3, .int (x3 + (M4 o0 4))), (6, .int v4), (5, .int v3), (0, .ref o0), (1, .int x1), (2, .int x2), (4, .int x4)]) dX6_sumBetween_46 rfl rfl rfl ?_
        refine wa_goto (tgt := 66) dX6_sumBetween_47 rfl ?_
        exact wa_pick [3, 4, 5, 0, 6] rfl hF

theorem bX6_sumBetween_50 {X : a_X} {ad : Nat → Nat} {ca : Nat → ClassId} {d : Nat} {kc ks : Nat} {QF : List Frame → Array Value → State → State → Prop} {x : Nat} {M : a_M} (o0 : Nat) (x1 : Int32) (x2 : Int32) (x3 : Int32) (x4 : Int32) (x5 : Int32) (x6 : Int32) (hLo0 : LY[o0]? = some (6, 5)) (hF : ((¬ x6 = 0 → WA X ad ca LY RX6 cX6_sumBetween 7 (some FieldType.int) (d + 1) kc ks QF 66 [(0, .ref o0), (1, .int x1), (2, .int x2), (3, .int x3), (4, .int x4)] [] M (PT x)) ∧ (x6 = 0 → ((¬ (x1 ^^^ x5) = x2 → WA X ad ca LY RX6 cX6_sumBetween 7 (some FieldType.int) (d + 1) kc ks QF 66 [(0, .ref o0), (1, .int x1), (2, .int x2), (3, .int x3), (4, .int x4)] [] M (PT x)) ∧ ((x1 ^^^ x5) = x2 → WA X ad ca LY RX6 cX6_sumBetween 7 (some FieldType.int) (d + 1) kc ks QF 66 [(0, .ref o0), (1, .int x1), (2, .int x2), (3, .int (x3 + 1)), (4, .int x4)] [] M (PT x)))))) : WA X ad ca LY RX6 cX6_sumBetween 7 (some FieldType.int) (d + 1) kc ks QF 50 [(0, .ref o0), (1, .int x1), (2, .int x2), (3, .int x3), (4, .int x4), (5, .int x5), (6, .int x6)] [] M (PT x) := by
  refine wa_iload dX6_sumBetween_50 6 rfl ?_
  refine wa_if_ne (tgt := 66) dX6_sumBetween_52 rfl (fun hc => ?_) (fun hc => ?_)
  · replace hF := hF.1 hc
    exact wa_pick [0, 1, 2, 3, 4] rfl hF
  · replace hF := hF.2 hc
    refine wa_iload_n dX6_sumBetween_55 1 rfl rfl ?_
    refine wa_iload dX6_sumBetween_56 5 rfl ?_
    refine wa_ixor dX6_sumBetween_58 ?_
    refine wa_iload_n dX6_sumBetween_59 2 rfl rfl ?_
    refine wa_icmp_ne (tgt := 66) dX6_sumBetween_60 rfl (fun hc => ?_) (fun hc => ?_)
    · replace hF := hF.1 hc
      exact wa_pick [0, 1, 2, 3, 4] rfl hF
    · replace hF := hF.2 hc
      refine wa_iinc (v := x3 + 1) (lv' := [(3, .int (x3 + 1)), (0, .ref o0), (1, .int x1), (2, .int x2), (4, .int x4), (5, .int x5), (6, .int x6)]) dX6_sumBetween_63 3 rfl rfl rfl rfl ?_
      exact wa_pick [1, 2, 3, 0, 4] rfl hF

theorem bX6_sumBetween_66 {X : a_X} {ad : Nat → Nat} {ca : Nat → ClassId} {d : Nat} {kc ks : Nat} {QF : List Frame → Array Value → State → State → Prop} {x : Nat} {M : a_M} (o0 : Nat) (x1 : Int32) (x2 : Int32) (x3 : Int32) (x4 : Int32) (hLo0 : LY[o0]? = some (6, 5)) (hF : WA X ad ca LY RX6 cX6_sumBetween 7 (some FieldType.int) (d + 1) kc ks QF 5 [(0, .ref o0), (1, .int x1), (2, .int x2), (3, .int x3), (4, .int (x4 + 1))] [] M (PT x)) : WA X ad ca LY RX6 cX6_sumBetween 7 (some FieldType.int) (d + 1) kc ks QF 66 [(0, .ref o0), (1, .int x1), (2, .int x2), (3, .int x3), (4, .int x4)] [] M (PT x) := by
  refine wa_iinc (v := x4 + 1) (lv' := [(4, .int (x4 + 1)), (0, .ref o0), (1, .int x1), (2, .int x2), (3, .int x3)]) dX6_sumBetween_66 4 rfl rfl rfl rfl ?_
  refine wa_goto (tgt := 5) dX6_sumBetween_69 rfl ?_
  exact wa_pick [1, 2, 3, 4, 0] rfl hF

theorem eX6_sumBetween {X : a_X} {ad : Nat → Nat} {ca : Nat → ClassId} {d : Nat} {Post : Option Value → a_M → a_P → Prop} {x : Nat} {M : a_M} (o0 : Nat) (x1 : Int32) (x2 : Int32) (h : WA X ad ca LY RX6 cX6_sumBetween 7 (some FieldType.int) d 0 0 (a_E X ad ca LY Post) 0 [(0, .ref o0), (1, .int x1), (2, .int x2)] [] M (PT x)) : Mt X ad ca LY d yX6_sumBetween cX6_sumBetween 7 (some FieldType.int) [.ref o0, .int x1, .int x2] M (PT x) Post := Mt.of (lv := [(0, .ref o0), (1, .int x1), (2, .int x2)]) (by decide +kernel) rfl rfl rfl (wa_pick [0, 1, 2] rfl h)

theorem bX6_sumOver_0 {X : a_X} {ad : Nat → Nat} {ca : Nat → ClassId} {d : Nat} {kc ks : Nat} {QF : List Frame → Array Value → State → State → Prop} {x : Nat} {M : a_M} (o0 : Nat) (o1 : Nat) (no1 : Nat) (o2 : Nat) (no2 : Nat) (hLo0 : LY[o0]? = some (6, 5)) (hLo1 : LY[o1]? = some (100, no1)) (hLo2 : LY[o2]? = some (100, no2)) (hF : (∃ Q1 : a_M → Prop, Mt X ad ca LY d yX11_clear cX11_clear 2 none [.ref o2] M (PT x) (q_v (PT x) Q1) ∧ ∀ M1, Q1 M1 → WA X ad ca LY RX6 cX6_sumOver 4 none (d + 1) kc ks QF 6 [(0, .ref o0), (1, .ref o1), (2, .ref o2), (3, .int 0)] [] M1 (PT x))) : WA X ad ca LY RX6 cX6_sumOver 4 none (d + 1) kc ks QF 0 [(0, .ref o0), (1, .ref o1), (2, .ref o2)] [] M (PT x) := by
  refine wa_aload_n dX6_sumOver_0 2 rfl rfl ?_
  obtain ⟨Q1, hM9, hF⟩ := hF
  refine wa_callSN [.ref o2] dX6_sumOver_1 (mmX11_clear _ _) mkX6_47 mstX11_clear rfl (a_dlt d) rfl rfl hM9 ?_
  rintro r9 M1 P9 ⟨rfl, rfl, hq9⟩
  replace hF := hF M1 hq9
  simp only [Option.toList, List.nil_append]
  refine wa_iconst (v := 0) dX6_sumOver_4 rfl ?_
  refine wa_istore_n (lv' := [(3, .int 0), (0, .ref o0), (1, .ref o1), (2, .ref o2)]) dX6_sumOver_5 rfl rfl rfl ?_
  exact wa_pick [1, 2, 3, 0] rfl hF

theorem bX6_sumOver_6 {X : a_X} {ad : Nat → Nat} {ca : Nat → ClassId} {d : Nat} {kc ks : Nat} {QF : List Frame → Array Value → State → State → Prop} {x : Nat} {M : a_M} (o0 : Nat) (o1 : Nat) (no1 : Nat) (o2 : Nat) (no2 : Nat) (x3 : Int32) (hLo0 : LY[o0]? = some (6, 5)) (hLo1 : LY[o1]? = some (100, no1)) (hLo2 : LY[o2]? = some (100, no2)) (hF : (∃ Q1 : Int32 → a_M → Prop, Mt X ad ca LY d yX6_states cX6_states 1 (some FieldType.int) [.ref o0] M (PT x) (q_i (PT x) Q1) ∧ ∀ v1 M1, Q1 v1 M1 → ((v1 ≤ x3 → WA X ad ca LY RX6 cX6_sumOver 4 none (d + 1) kc ks QF 37 [(0, .ref o0), (2, .ref o2), (3, .int 0)] [] M1 (PT x)) ∧ (¬ v1 ≤ x3 → (vp_in x3 no1 ∧ (((M1 o1 x3.toNatClampNeg) = 0 → WA X ad ca LY RX6 cX6_sumOver 4 none (d + 1) kc ks QF 29 [(0, .ref o0), (1, .ref o1), (2, .ref o2), (3, .int x3)] [] M1 (PT x)) ∧ (¬ (M1 o1 x3.toNatClampNeg) = 0 → (vp_in x3 no1 ∧ (∃ Q2 : a_M → Prop, Mt X ad ca LY d yX6_addSumOf cX6_addSumOf 6 none [.ref o0, .int x3, .int (M1 o1 x3.toNatClampNeg), .ref o2] M1 (PT x) (q_v (PT x) Q2) ∧ ∀ M2, Q2 M2 → WA X ad ca LY RX6 cX6_sumOver 4 none (d + 1) kc ks QF 29 [(0, .ref o0), (1, .ref o1), (2, .ref o2), (3, .int x3)] [] M2 (PT x)))))))))) : WA X ad ca LY RX6 cX6_sumOver 4 none (d + 1) kc ks QF 6 [(0, .ref o0), (1, .ref o1), (2, .ref o2), (3, .int x3)] [] M (PT x) := by
  refine wa_iload_n dX6_sumOver_6 3 rfl rfl ?_
  refine wa_aload_n dX6_sumOver_7 0 rfl rfl ?_
  obtain ⟨Q1, hM9, hF⟩ := hF
  refine wa_callV [] dX6_sumOver_8 (mmX6_states _ _) mlX6_28 mnX6_states mseX6_states hLo0 rfl rfl rfl (a_dlt d) rfl rfl hM9 ?_
  rintro r9 M1 P9 ⟨v1, rfl, rfl, hq9⟩
  replace hF := hF v1 M1 hq9
  simp only [Option.toList, List.cons_append, List.nil_append]
  refine wa_icmp_ge (tgt := 35) dX6_sumOver_11 rfl (fun hc => ?_) (fun hc => ?_)
  · replace hF := hF.1 hc
    refine wa_iconst (v := 0) dX6_sumOver_35 rfl ?_
    refine wa_istore_n (lv' := [(3, .int 0), (0, .ref o0), (1, .ref o1), (2, .ref o2)]) dX6_sumOver_36 rfl rfl rfl ?_
    exact wa_pick [1, 3, 0] rfl hF
  · replace hF := hF.2 hc
    refine wa_aload_n dX6_sumOver_14 1 rfl rfl ?_
    refine wa_iload_n dX6_sumOver_15 3 rfl rfl ?_
    obtain ⟨hi9, hF⟩ := hF
    refine wb_iald (j := x3.toNatClampNeg) (v := M1 o1 x3.toNatClampNeg) dX6_sumOver_16 hLo1 hi9 rfl rfl ?_
    refine wa_if_eq (tgt := 29) dX6_sumOver_17 rfl (fun hc => ?_) (fun hc => ?_)
    · replace hF := hF.1 hc
      exact hF
    · replace hF := hF.2 hc
      refine wa_aload_n dX6_sumOver_20 0 rfl rfl ?_
      refine wa_iload_n dX6_sumOver_21 3 rfl rfl ?_
      refine wa_aload_n dX6_sumOver_22 1 rfl rfl ?_
      refine wa_iload_n dX6_sumOver_23 3 rfl rfl ?_
      obtain ⟨hi9, hF⟩ := hF
      refine wb_iald (j := x3.toNatClampNeg) (v := M1 o1 x3.toNatClampNeg) dX6_sumOver_24 hLo1 hi9 rfl rfl ?_
      refine wa_aload_n dX6_sumOver_25 2 rfl rfl ?_
      obtain ⟨Q2, hM9, hF⟩ := hF
      refine wa_callV [.int x3, .int (M1 o1 x3.toNatClampNeg), .ref o2] dX6_sumOver_26 (mmX6_addSumOf _ _) mlX6_51 mnX6_addSumOf mseX6_addSumOf hLo0 rfl rfl rfl (a_dlt d) rfl rfl hM9 ?_
      rintro r9 M2 P9 ⟨rfl, rfl, hq9⟩
      replace hF := hF M2 hq9
      simp only [Option.toList, List.nil_append]
      exact hF

theorem bX6_sumOver_29 {X : a_X} {ad : Nat → Nat} {ca : Nat → ClassId} {d : Nat} {kc ks : Nat} {QF : List Frame → Array Value → State → State → Prop} {x : Nat} {M : a_M} (o0 : Nat) (o1 : Nat) (no1 : Nat) (o2 : Nat) (no2 : Nat) (x3 : Int32) (hLo0 : LY[o0]? = some (6, 5)) (hLo1 : LY[o1]? = some (100, no1)) (hLo2 : LY[o2]? = some (100, no2)) (hF : WA X ad ca LY RX6 cX6_sumOver 4 none (d + 1) kc ks QF 6 [(0, .ref o0), (1, .ref o1), (2, .ref o2), (3, .int (x3 + 1))] [] M (PT x)) : WA X ad ca LY RX6 cX6_sumOver 4 none (d + 1) kc ks QF 29 [(0, .ref o0), (1, .ref o1), (2, .ref o2), (3, .int x3)] [] M (PT x) := by
  refine wa_iinc (v := x3 + 1) (lv' := [(3, .int (x3 + 1)), (0, .ref o0), (1, .ref o1), (2, .ref o2)]) dX6_sumOver_29 3 rfl rfl rfl rfl ?_
  refine wa_goto (tgt := 6) dX6_sumOver_32 rfl ?_
  exact wa_pick [1, 2, 3, 0] rfl hF

theorem bX6_sumOver_37 {X : a_X} {ad : Nat → Nat} {ca : Nat → ClassId} {d : Nat} {Post : Option Value → a_M → a_P → Prop} {x : Nat} {M : a_M} (o0 : Nat) (o2 : Nat) (no2 : Nat) (x3 : Int32) (hLo0 : LY[o0]? = some (6, 5)) (hLo2 : LY[o2]? = some (100, no2)) (hF : (∃ Q1 : Int32 → a_M → Prop, Mt X ad ca LY d yX6_states cX6_states 1 (some FieldType.int) [.ref o0] M (PT x) (q_i (PT x) Q1) ∧ ∀ v1 M1, Q1 v1 M1 → ((v1 ≤ x3 → Post none M1 (PT x)) ∧ (¬ v1 ≤ x3 → (vp_in x3 no2 ∧ (∃ Q2 : Int32 → a_M → Prop, Mt X ad ca LY d yX11_left cX11_left 3 (some FieldType.int) [.int (M1 o2 x3.toNatClampNeg), .int (M1 o0 2)] M1 (PT x) (q_i (PT x) Q2) ∧ ∀ v2 M2, Q2 v2 M2 → (vp_in x3 no2 ∧ WA X ad ca LY RX6 cX6_sumOver 4 none (d + 1) 0 0 (a_E X ad ca LY Post) 37 [(0, .ref o0), (2, .ref o2), (3, .int (x3 + 1))] [] (ms M2 o2 x3.toNatClampNeg v2) (PT x)))))))) : WA X ad ca LY RX6 cX6_sumOver 4 none (d + 1) 0 0 (a_E X ad ca LY Post) 37 [(0, .ref o0), (2, .ref o2), (3, .int x3)] [] M (PT x) := by
  refine wa_iload_n dX6_sumOver_37 2 rfl rfl ?_
  refine wa_aload_n dX6_sumOver_38 0 rfl rfl ?_
  obtain ⟨Q1, hM9, hF⟩ := hF
  refine wa_callV [] dX6_sumOver_39 (mmX6_states _ _) mlX6_28 mnX6_states mseX6_states hLo0 rfl rfl rfl (a_dlt d) rfl rfl hM9 ?_
  rintro r9 M1 P9 ⟨v1, rfl, rfl, hq9⟩
  replace hF := hF v1 M1 hq9
  simp only [Option.toList, List.cons_append, List.nil_append]
  refine wa_icmp_ge (tgt := 64) dX6_sumOver_42 rfl (fun hc => ?_) (fun hc => ?_)
  · replace hF := hF.1 hc
    exact wa_vret dX6_sumOver_64 rfl hF
  · replace hF := hF.2 hc
    refine wa_aload_n dX6_sumOver_45 1 rfl rfl ?_
    refine wa_iload_n dX6_sumOver_46 2 rfl rfl ?_
    refine wa_aload_n dX6_sumOver_47 1 rfl rfl ?_
    refine wa_iload_n dX6_sumOver_48 2 rfl rfl ?_
    obtain ⟨hi9, hF⟩ := hF
    refine wb_iald (j := x3.toNatClampNeg) (v := M1 o2 x3.toNatClampNeg) dX6_sumOver_49 hLo2 hi9 rfl rfl ?_
    refine wa_aload_n dX6_sumOver_50 0 rfl rfl ?_
    refine wb_geti (v := M1 o0 2) dX6_sumOver_51 fkX6_19 rfl hLo0 rfl ?_
    obtain ⟨Q2, hM9, hF⟩ := hF
    refine wa_callSN [.int (M1 o2 x3.toNatClampNeg), .int (M1 o0 2)] dX6_sumOver_54 (mmX11_left _ _) mkX6_43 mstX11_left rfl (a_dlt d) rfl rfl hM9 ?_
    rintro r9 M2 P9 ⟨v2, rfl, rfl, hq9⟩
    replace hF := hF v2 M2 hq9
    simp only [Option.toList, List.cons_append, List.nil_append]
    obtain ⟨hi9, hF⟩ := hF
    refine wb_iast (j := x3.toNatClampNeg) dX6_sumOver_57 hLo2 hi9 rfl ?_
    refine wa_iinc (v := x3 + 1) (lv' := [(3, .int (x3 + 1)), (0, .ref o0), (2, .ref o2)]) dX6_sumOver_58 2 rfl rfl rfl rfl ?_
    refine wa_goto (tgt := 37) dX6_sumOver_61 rfl ?_
    exact wa_pick [1, 2, 0] rfl hF

theorem eX6_sumOver {X : a_X} {ad : Nat → Nat} {ca : Nat → ClassId} {d : Nat} {Post : Option Value → a_M → a_P → Prop} {x : Nat} {M : a_M} (o0 : Nat) (o1 : Nat) (o2 : Nat) (h : WA X ad ca LY RX6 cX6_sumOver 4 none d 0 0 (a_E X ad ca LY Post) 0 [(0, .ref o0), (1, .ref o1), (2, .ref o2)] [] M (PT x)) : Mt X ad ca LY d yX6_sumOver cX6_sumOver 4 none [.ref o0, .ref o1, .ref o2] M (PT x) Post := Mt.of (lv := [(0, .ref o0), (1, .ref o1), (2, .ref o2)]) (by decide +kernel) rfl rfl rfl (wa_pick [0, 1, 2] rfl h)

theorem bX6_addSumOf_0 {X : a_X} {ad : Nat → Nat} {ca : Nat → ClassId} {d : Nat} {kc ks : Nat} {QF : List Frame → Array Value → State → State → Prop} {x : Nat} {M : a_M} (o0 : Nat) (x1 : Int32) (x2 : Int32) (o3 : Nat) (no3 : Nat) (hLo0 : LY[o0]? = some (6, 5)) (hLo3 : LY[o3]? = some (100, no3)) (hF : WA X ad ca LY RX6 cX6_addSumOf 6 none (d + 1) kc ks QF 3 [(0, .ref o0), (1, .int x1), (2, .int x2), (3, .ref o3), (4, .int 0)] [] M (PT x)) : WA X ad ca LY RX6 cX6_addSumOf 6 none (d + 1) kc ks QF 0 [(0, .ref o0), (1, .int x1), (2, .int x2), (3, .ref o3)] [] M (PT x) := by
  refine wa_iconst (v := 0) dX6_addSumOf_0 rfl ?_
  refine wa_istore (lv' := [(4, .int 0), (0, .ref o0), (1, .int x1), (2, .int x2), (3, .ref o3)]) dX6_addSumOf_1 rfl rfl ?_
  exact wa_pick [1, 2, 3, 4, 0] rfl hF

theorem bX6_addSumOf_3 {X : a_X} {ad : Nat → Nat} {ca : Nat → ClassId} {d : Nat} {Post : Option Value → a_M → a_P → Prop} {x : Nat} {M : a_M} (o0 : Nat) (x1 : Int32) (x2 : Int32) (o3 : Nat) (no3 : Nat) (x4 : Int32) (hLo0 : LY[o0]? = some (6, 5)) (hLo3 : LY[o3]? = some (100, no3)) (hF : (∃ Q1 : Int32 → a_M → Prop, Mt X ad ca LY d yX6_bonds cX6_bonds 1 (some FieldType.int) [.ref o0] M (PT x) (q_i (PT x) Q1) ∧ ∀ v1 M1, Q1 v1 M1 → ((v1 ≤ x4 → Post none M1 (PT x)) ∧ (¬ v1 ≤ x4 → (∃ Q2 : Int32 → a_M → Prop, Mt X ad ca LY d yX6_bond cX6_bond 2 (some FieldType.int) [.ref o0, .int x4] M1 (PT x) (q_i (PT x) Q2) ∧ ∀ v2 M2, Q2 v2 M2 → (∃ Q3 : Int32 → a_M → Prop, Mt X ad ca LY d yX6_areAlike cX6_areAlike 3 (some FieldType.boolean) [.int x1, .int v2] M2 (PT x) (q_i (PT x) Q3) ∧ ∀ v3 M3, Q3 v3 M3 → ((v3 = 0 → (vp_in (x1 ^^^ v2) no3 ∧ (vp_in (x1 ^^^ v2) no3 ∧ WA X ad ca LY RX6 cX6_addSumOf 6 none (d + 1) 0 0 (a_E X ad ca LY Post) 54 [(0, .ref o0), (1, .int x1), (2, .int x2), (3, .ref o3), (4, .int x4)] [] (ms M3 o3 ((x1 ^^^ v2).toNatClampNeg) ((M3 o3 ((x1 ^^^ v2).toNatClampNeg)) + x2)) (PT x)))) ∧ (¬ v3 = 0 → (vp_in x1 no3 ∧ (vp_in x1 no3 ∧ WA X ad ca LY RX6 cX6_addSumOf 6 none (d + 1) 0 0 (a_E X ad ca LY Post) 54 [(0, .ref o0), (1, .int x1), (2, .int x2), (3, .ref o3), (4, .int x4)] [] (ms M3 o3 x1.toNatClampNeg ((M3 o3 x1.toNatClampNeg) + ((M3 o0 4) * x2))) (PT x))))))))))) : WA X ad ca LY RX6 cX6_addSumOf 6 none (d + 1) 0 0 (a_E X ad ca LY Post) 3 [(0, .ref o0), (1, .int x1), (2, .int x2), (3, .ref o3), (4, .int x4)] [] M (PT x) := by
  refine wa_iload dX6_addSumOf_3 4 rfl ?_
  refine wa_aload_n dX6_addSumOf_5 0 rfl rfl ?_
  obtain ⟨Q1, hM9, hF⟩ := hF
  refine wa_callV [] dX6_addSumOf_6 (mmX6_bonds _ _) mlX6_32 mnX6_bonds mseX6_bonds hLo0 rfl rfl rfl (a_dlt d) rfl rfl hM9 ?_
  rintro r9 M1 P9 ⟨v1, rfl, rfl, hq9⟩
  replace hF := hF v1 M1 hq9
  simp only [Option.toList, List.cons_append, List.nil_append]
  refine wa_icmp_ge (tgt := 60) dX6_addSumOf_9 rfl (fun hc => ?_) (fun hc => ?_)
  · replace hF := hF.1 hc
    exact wa_vret dX6_addSumOf_60 rfl hF
  · replace hF := hF.2 hc
    refine wa_aload_n dX6_addSumOf_12 0 rfl rfl ?_
    refine wa_iload dX6_addSumOf_13 4 rfl ?_
    obtain ⟨Q2, hM9, hF⟩ := hF
    refine wa_callV [.int x4] dX6_addSumOf_15 (mmX6_bond _ _) mlX6_35 mnX6_bond mseX6_bond hLo0 rfl rfl rfl (a_dlt d) rfl rfl hM9 ?_
    rintro r9 M2 P9 ⟨v2, rfl, rfl, hq9⟩
    replace hF := hF v2 M2 hq9
    simp only [Option.toList, List.cons_append, List.nil_append]
    refine wa_istore (lv' := [(5, .int v2), (0, .ref o0), (1, .int x1), (2, .int x2), (3, .ref o3), (4, .int x4)]) dX6_addSumOf_18 rfl rfl ?_
    refine wa_iload_n dX6_addSumOf_20 2 rfl rfl ?_
    refine wa_iload dX6_addSumOf_21 0 rfl ?_
    obtain ⟨Q3, hM9, hF⟩ := hF
    refine wa_callS [.int x1, .int v2] dX6_addSumOf_23 (mmX6_areAlike _ _) mlX6_39 mstX6_areAlike rfl (a_dlt d) rfl rfl hM9 ?_
    rintro r9 M3 P9 ⟨v3, rfl, rfl, hq9⟩
    replace hF := hF v3 M3 hq9
    simp only [Option.toList, List.cons_append, List.nil_append]
    refine wa_if_eq (tgt := 44) dX6_addSumOf_26 rfl (fun hc => ?_) (fun hc => ?_)
    · replace hF := hF.1 hc
      refine wa_aload_n dX6_addSumOf_44 4 rfl rfl ?_
      refine wa_iload_n dX6_addSumOf_45 2 rfl rfl ?_
      refine wa_iload dX6_addSumOf_46 0 rfl ?_
      refine wa_ixor dX6_addSumOf_48 ?_
      refine wa_dup2 dX6_addSumOf_49 rfl rfl ?_
      obtain ⟨hi9, hF⟩ := hF
      refine wb_iald (j := (x1 ^^^ v2).toNatClampNeg) (v := M3 o3 ((x1 ^^^ v2).toNatClampNeg)) dX6_addSumOf_50 hLo3 hi9 rfl rfl ?_
      refine wa_iload_n dX6_addSumOf_51 3 rfl rfl ?_
      refine wa_iadd dX6_addSumOf_52 ?_
      obtain ⟨hi9, hF⟩ := hF
      refine wb_iast (j := (x1 ^^^ v2).toNatClampNeg) dX6_addSumOf_53 hLo3 hi9 rfl ?_
      exact wa_pick [1, 2, 3, 4, 5] rfl hF
    · replace hF := hF.2 hc
      refine wa_aload_n dX6_addSumOf_29 4 rfl rfl ?_
      refine wa_iload_n dX6_addSumOf_30 2 rfl rfl ?_
      refine wa_dup2 dX6_addSumOf_31 rfl rfl ?_
      obtain ⟨hi9, hF⟩ := hF
      refine wb_iald (j := x1.toNatClampNeg) (v := M3 o3 x1.toNatClampNeg) dX6_addSumOf_32 hLo3 hi9 rfl rfl ?_
      refine wa_aload_n dX6_addSumOf_33 1 rfl rfl ?_
      refine wb_geti (v := M3 o0 4) dX6_addSumOf_34 fkX6_25 rfl hLo0 rfl ?_
      refine wa_iload_n dX6_addSumOf_37 3 rfl rfl ?_
      refine wa_imul dX6_addSumOf_38 ?_
      refine wa_iadd dX6_addSumOf_39 ?_
      obtain ⟨hi9, hF⟩ := hF
      refine wb_iast (j := x1.toNatClampNeg) dX6_addSumOf_40 hLo3 hi9 rfl ?_
      refine wa_goto (tgt := 54) dX6_addSumOf_41 rfl ?_
      exact wa_pick [1, 2, 3, 4, 5] rfl hF

theorem bX6_addSumOf_54 {X : a_X} {ad : Nat → Nat} {ca : Nat → ClassId} {d : Nat} {kc ks : Nat} {QF : List Frame → Array Value → State → State → Prop} {x : Nat} {M : a_M} (o0 : Nat) (x1 : Int32) (x2 : Int32) (o3 : Nat) (no3 : Nat) (x4 : Int32) (hLo0 : LY[o0]? = some (6, 5)) (hLo3 : LY[o3]? = some (100, no3)) (hF : WA X ad ca LY RX6 cX6_addSumOf 6 none (d + 1) kc ks QF 3 [(0, .ref o0), (1, .int x1), (2, .int x2), (3, .ref o3), (4, .int (x4 + 1))] [] M (PT x)) : WA X ad ca LY RX6 cX6_addSumOf 6 none (d + 1) kc ks QF 54 [(0, .ref o0), (1, .int x1), (2, .int x2), (3, .ref o3), (4, .int x4)] [] M (PT x) := by
  refine wa_iinc (v := x4 + 1) (lv' := [(4, .int (x4 + 1)), (0, .ref o0), (1, .int x1), (2, .int x2), (3, .ref o3)]) dX6_addSumOf_54 4 rfl rfl rfl rfl ?_
  refine wa_goto (tgt := 3) dX6_addSumOf_57 rfl ?_
  exact wa_pick [1, 2, 3, 4, 0] rfl hF

theorem eX6_addSumOf {X : a_X} {ad : Nat → Nat} {ca : Nat → ClassId} {d : Nat} {Post : Option Value → a_M → a_P → Prop} {x : Nat} {M : a_M} (o0 : Nat) (x1 : Int32) (x2 : Int32) (o3 : Nat) (h : WA X ad ca LY RX6 cX6_addSumOf 6 none d 0 0 (a_E X ad ca LY Post) 0 [(0, .ref o0), (1, .int x1), (2, .int x2), (3, .ref o3)] [] M (PT x)) : Mt X ad ca LY d yX6_addSumOf cX6_addSumOf 6 none [.ref o0, .int x1, .int x2, .ref o3] M (PT x) Post := Mt.of (lv := [(0, .ref o0), (1, .int x1), (2, .int x2), (3, .ref o3)]) (by decide +kernel) rfl rfl rfl (wa_pick [0, 1, 2, 3] rfl h)

theorem bX6_shiftOver_0 {X : a_X} {ad : Nat → Nat} {ca : Nat → ClassId} {d : Nat} {kc ks : Nat} {QF : List Frame → Array Value → State → State → Prop} {x : Nat} {M : a_M} (o0 : Nat) (o1 : Nat) (no1 : Nat) (o2 : Nat) (no2 : Nat) (hLo0 : LY[o0]? = some (6, 5)) (hLo1 : LY[o1]? = some (100, no1)) (hLo2 : LY[o2]? = some (100, no2)) (hF : WA X ad ca LY RX6 cX6_shiftOver 4 none (d + 1) kc ks QF 2 [(0, .ref o0), (1, .ref o1), (2, .ref o2), (3, .int 0)] [] M (PT x)) : WA X ad ca LY RX6 cX6_shiftOver 4 none (d + 1) kc ks QF 0 [(0, .ref o0), (1, .ref o1), (2, .ref o2)] [] M (PT x) := by
  refine wa_iconst (v := 0) dX6_shiftOver_0 rfl ?_
  refine wa_istore_n (lv' := [(3, .int 0), (0, .ref o0), (1, .ref o1), (2, .ref o2)]) dX6_shiftOver_1 rfl rfl rfl ?_
  exact wa_pick [1, 2, 3, 0] rfl hF

theorem bX6_shiftOver_2 {X : a_X} {ad : Nat → Nat} {ca : Nat → ClassId} {d : Nat} {Post : Option Value → a_M → a_P → Prop} {x : Nat} {M : a_M} (o0 : Nat) (o1 : Nat) (no1 : Nat) (o2 : Nat) (no2 : Nat) (x3 : Int32) (hLo0 : LY[o0]? = some (6, 5)) (hLo1 : LY[o1]? = some (100, no1)) (hLo2 : LY[o2]? = some (100, no2)) (hF : (∃ Q1 : Int32 → a_M → Prop, Mt X ad ca LY d yX6_states cX6_states 1 (some FieldType.int) [.ref o0] M (PT x) (q_i (PT x) Q1) ∧ ∀ v1 M1, Q1 v1 M1 → ((v1 ≤ x3 → Post none M1 (PT x)) ∧ (¬ v1 ≤ x3 → (∃ Q2 : Int32 → a_M → Prop, Mt X ad ca LY d yX6_shifted cX6_shifted 2 (some FieldType.int) [.ref o0, .int x3] M1 (PT x) (q_i (PT x) Q2) ∧ ∀ v2 M2, Q2 v2 M2 → (vp_in x3 no1 ∧ (vp_in v2 no2 ∧ WA X ad ca LY RX6 cX6_shiftOver 4 none (d + 1) 0 0 (a_E X ad ca LY Post) 2 [(0, .ref o0), (1, .ref o1), (2, .ref o2), (3, .int (x3 + 1))] [] (ms M2 o2 v2.toNatClampNeg (M2 o1 x3.toNatClampNeg)) (PT x)))))))) : WA X ad ca LY RX6 cX6_shiftOver 4 none (d + 1) 0 0 (a_E X ad ca LY Post) 2 [(0, .ref o0), (1, .ref o1), (2, .ref o2), (3, .int x3)] [] M (PT x) := by
  refine wa_iload_n dX6_shiftOver_2 3 rfl rfl ?_
  refine wa_aload_n dX6_shiftOver_3 0 rfl rfl ?_
  obtain ⟨Q1, hM9, hF⟩ := hF
  refine wa_callV [] dX6_shiftOver_4 (mmX6_states _ _) mlX6_28 mnX6_states mseX6_states hLo0 rfl rfl rfl (a_dlt d) rfl rfl hM9 ?_
  rintro r9 M1 P9 ⟨v1, rfl, rfl, hq9⟩
  replace hF := hF v1 M1 hq9
  simp only [Option.toList, List.cons_append, List.nil_append]
  refine wa_icmp_ge (tgt := 26) dX6_shiftOver_7 rfl (fun hc => ?_) (fun hc => ?_)
  · replace hF := hF.1 hc
    exact wa_vret dX6_shiftOver_26 rfl hF
  · replace hF := hF.2 hc
    refine wa_aload_n dX6_shiftOver_10 2 rfl rfl ?_
    refine wa_aload_n dX6_shiftOver_11 0 rfl rfl ?_
    refine wa_iload_n dX6_shiftOver_12 3 rfl rfl ?_
    obtain ⟨Q2, hM9, hF⟩ := hF
    refine wa_callV [.int x3] dX6_shiftOver_13 (mmX6_shifted _ _) mlX6_55 mnX6_shifted mseX6_shifted hLo0 rfl rfl rfl (a_dlt d) rfl rfl hM9 ?_
    rintro r9 M2 P9 ⟨v2, rfl, rfl, hq9⟩
    replace hF := hF v2 M2 hq9
    simp only [Option.toList, List.cons_append, List.nil_append]
    refine wa_aload_n dX6_shiftOver_16 1 rfl rfl ?_
    refine wa_iload_n dX6_shiftOver_17 3 rfl rfl ?_
    obtain ⟨hi9, hF⟩ := hF
    refine wb_iald (j := x3.toNatClampNeg) (v := M2 o1 x3.toNatClampNeg) dX6_shiftOver_18 hLo1 hi9 rfl rfl ?_
    obtain ⟨hi9, hF⟩ := hF
    refine wb_iast (j := v2.toNatClampNeg) dX6_shiftOver_19 hLo2 hi9 rfl ?_
    refine wa_iinc (v := x3 + 1) (lv' := [(3, .int (x3 + 1)), (0, .ref o0), (1, .ref o1), (2, .ref o2)]) dX6_shiftOver_20 3 rfl rfl rfl rfl ?_
    refine wa_goto (tgt := 2) dX6_shiftOver_23 rfl ?_
    exact wa_pick [1, 2, 3, 0] rfl hF

theorem eX6_shiftOver {X : a_X} {ad : Nat → Nat} {ca : Nat → ClassId} {d : Nat} {Post : Option Value → a_M → a_P → Prop} {x : Nat} {M : a_M} (o0 : Nat) (o1 : Nat) (o2 : Nat) (h : WA X ad ca LY RX6 cX6_shiftOver 4 none d 0 0 (a_E X ad ca LY Post) 0 [(0, .ref o0), (1, .ref o1), (2, .ref o2)] [] M (PT x)) : Mt X ad ca LY d yX6_shiftOver cX6_shiftOver 4 none [.ref o0, .ref o1, .ref o2] M (PT x) Post := Mt.of (lv := [(0, .ref o0), (1, .ref o1), (2, .ref o2)]) (by decide +kernel) rfl rfl rfl (wa_pick [0, 1, 2] rfl h)

theorem bX6_turnOver_0 {X : a_X} {ad : Nat → Nat} {ca : Nat → ClassId} {d : Nat} {kc ks : Nat} {QF : List Frame → Array Value → State → State → Prop} {x : Nat} {M : a_M} (o0 : Nat) (x1 : Int32) (o2 : Nat) (no2 : Nat) (o3 : Nat) (no3 : Nat) (hLo0 : LY[o0]? = some (6, 5)) (hLo2 : LY[o2]? = some (100, no2)) (hLo3 : LY[o3]? = some (100, no3)) (hF : WA X ad ca LY RX6 cX6_turnOver 5 none (d + 1) kc ks QF 3 [(0, .ref o0), (1, .int x1), (2, .ref o2), (3, .ref o3), (4, .int 0)] [] M (PT x)) : WA X ad ca LY RX6 cX6_turnOver 5 none (d + 1) kc ks QF 0 [(0, .ref o0), (1, .int x1), (2, .ref o2), (3, .ref o3)] [] M (PT x) := by
  refine wa_iconst (v := 0) dX6_turnOver_0 rfl ?_
  refine wa_istore (lv' := [(4, .int 0), (0, .ref o0), (1, .int x1), (2, .ref o2), (3, .ref o3)]) dX6_turnOver_1 rfl rfl ?_
  exact wa_pick [1, 2, 3, 4, 0] rfl hF

theorem bX6_turnOver_3 {X : a_X} {ad : Nat → Nat} {ca : Nat → ClassId} {d : Nat} {Post : Option Value → a_M → a_P → Prop} {x : Nat} {M : a_M} (o0 : Nat) (x1 : Int32) (o2 : Nat) (no2 : Nat) (o3 : Nat) (no3 : Nat) (x4 : Int32) (hLo0 : LY[o0]? = some (6, 5)) (hLo2 : LY[o2]? = some (100, no2)) (hLo3 : LY[o3]? = some (100, no3)) (hF : (∃ Q1 : Int32 → a_M → Prop, Mt X ad ca LY d yX6_states cX6_states 1 (some FieldType.int) [.ref o0] M (PT x) (q_i (PT x) Q1) ∧ ∀ v1 M1, Q1 v1 M1 → ((v1 ≤ x4 → Post none M1 (PT x)) ∧ (¬ v1 ≤ x4 → (vp_in x4 no2 ∧ (vp_in (x4 ^^^ ((1 : Int32) <<< (x1 &&& 31))) no3 ∧ WA X ad ca LY RX6 cX6_turnOver 5 none (d + 1) 0 0 (a_E X ad ca LY Post) 3 [(0, .ref o0), (1, .int x1), (2, .ref o2), (3, .ref o3), (4, .int (x4 + 1))] [] (ms M1 o3 ((x4 ^^^ ((1 : Int32) <<< (x1 &&& 31))).toNatClampNeg) (M1 o2 x4.toNatClampNeg)) (PT x))))))) : WA X ad ca LY RX6 cX6_turnOver 5 none (d + 1) 0 0 (a_E X ad ca LY Post) 3 [(0, .ref o0), (1, .int x1), (2, .ref o2), (3, .ref o3), (4, .int x4)] [] M (PT x) := by
  refine wa_iload dX6_turnOver_3 4 rfl ?_
  refine wa_aload_n dX6_turnOver_5 0 rfl rfl ?_
  obtain ⟨Q1, hM9, hF⟩ := hF
  refine wa_callV [] dX6_turnOver_6 (mmX6_states _ _) mlX6_28 mnX6_states mseX6_states hLo0 rfl rfl rfl (a_dlt d) rfl rfl hM9 ?_
  rintro r9 M1 P9 ⟨v1, rfl, rfl, hq9⟩
  replace hF := hF v1 M1 hq9
  simp only [Option.toList, List.cons_append, List.nil_append]
  refine wa_icmp_ge (tgt := 30) dX6_turnOver_9 rfl (fun hc => ?_) (fun hc => ?_)
  · replace hF := hF.1 hc
    exact wa_vret dX6_turnOver_30 rfl hF
  · replace hF := hF.2 hc
    refine wa_aload_n dX6_turnOver_12 3 rfl rfl ?_
    refine wa_iload dX6_turnOver_13 4 rfl ?_
    refine wa_iconst (v := 1) dX6_turnOver_15 rfl ?_
    refine wa_iload_n dX6_turnOver_16 1 rfl rfl ?_
    refine wa_ishl dX6_turnOver_17 ?_
    refine wa_ixor dX6_turnOver_18 ?_
    refine wa_aload_n dX6_turnOver_19 2 rfl rfl ?_
    refine wa_iload dX6_turnOver_20 4 rfl ?_
    obtain ⟨hi9, hF⟩ := hF
    refine wb_iald (j := x4.toNatClampNeg) (v := M1 o2 x4.toNatClampNeg) dX6_turnOver_22 hLo2 hi9 rfl rfl ?_
    obtain ⟨hi9, hF⟩ := hF
    refine wb_iast (j := (x4 ^^^ ((1 : Int32) <<< (x1 &&& 31))).toNatClampNeg) dX6_turnOver_23 hLo3 hi9 rfl ?_
    refine wa_iinc (v := x4 + 1) (lv' := [(4, .int (x4 + 1)), (0, .ref o0), (1, .int x1), (2, .ref o2), (3, .ref o3)]) dX6_turnOver_24 4 rfl rfl rfl rfl ?_
    refine wa_goto (tgt := 3) dX6_turnOver_27 rfl ?_
    exact wa_pick [1, 2, 3, 4, 0] rfl hF

theorem eX6_turnOver {X : a_X} {ad : Nat → Nat} {ca : Nat → ClassId} {d : Nat} {Post : Option Value → a_M → a_P → Prop} {x : Nat} {M : a_M} (o0 : Nat) (x1 : Int32) (o2 : Nat) (o3 : Nat) (h : WA X ad ca LY RX6 cX6_turnOver 5 none d 0 0 (a_E X ad ca LY Post) 0 [(0, .ref o0), (1, .int x1), (2, .ref o2), (3, .ref o3)] [] M (PT x)) : Mt X ad ca LY d yX6_turnOver cX6_turnOver 5 none [.ref o0, .int x1, .ref o2, .ref o3] M (PT x) Post := Mt.of (lv := [(0, .ref o0), (1, .int x1), (2, .ref o2), (3, .ref o3)]) (by decide +kernel) rfl rfl rfl (wa_pick [0, 1, 2, 3] rfl h)

theorem bX6_alikeAt_0 {X : a_X} {ad : Nat → Nat} {ca : Nat → ClassId} {d : Nat} {kc ks : Nat} {QF : List Frame → Array Value → State → State → Prop} {x : Nat} {M : a_M} (o0 : Nat) (x1 : Int32) (x2 : Int32) (hLo0 : LY[o0]? = some (6, 5)) (hF : WA X ad ca LY RX6 cX6_alikeAt 6 (some FieldType.int) (d + 1) kc ks QF 5 [(0, .ref o0), (1, .int x1), (2, .int x2), (3, .int 0), (4, .int 0)] [] M (PT x)) : WA X ad ca LY RX6 cX6_alikeAt 6 (some FieldType.int) (d + 1) kc ks QF 0 [(0, .ref o0), (1, .int x1), (2, .int x2)] [] M (PT x) := by
  refine wa_iconst (v := 0) dX6_alikeAt_0 rfl ?_
  refine wa_istore_n (lv' := [(3, .int 0), (0, .ref o0), (1, .int x1), (2, .int x2)]) dX6_alikeAt_1 rfl rfl rfl ?_
  refine wa_iconst (v := 0) dX6_alikeAt_2 rfl ?_
  refine wa_istore (lv' := [(4, .int 0), (3, .int 0), (0, .ref o0), (1, .int x1), (2, .int x2)]) dX6_alikeAt_3 rfl rfl ?_
  exact wa_pick [2, 3, 4, 1, 0] rfl hF

theorem bX6_alikeAt_5 {X : a_X} {ad : Nat → Nat} {ca : Nat → ClassId} {d : Nat} {Post : Option Value → a_M → a_P → Prop} {x : Nat} {M : a_M} (o0 : Nat) (x1 : Int32) (x2 : Int32) (x3 : Int32) (x4 : Int32) (hLo0 : LY[o0]? = some (6, 5)) (hF : (((M o0 0) ≤ x4 → Post (some (.int x3)) M (PT x)) ∧ (¬ (M o0 0) ≤ x4 → (((M o0 0) ≤ (x4 + x2) → ((¬ ((x1 >>> (x4 &&& 31)) &&& 1) = ((x1 >>> (((x4 + x2) - (M o0 0)) &&& 31)) &&& 1) → WA X ad ca LY RX6 cX6_alikeAt 6 (some FieldType.int) (d + 1) 0 0 (a_E X ad ca LY Post) 61 [(0, .ref o0), (1, .int x1), (2, .int x2), (3, .int x3), (4, .int x4)] [] M (PT x)) ∧ (((x1 >>> (x4 &&& 31)) &&& 1) = ((x1 >>> (((x4 + x2) - (M o0 0)) &&& 31)) &&& 1) → WA X ad ca LY RX6 cX6_alikeAt 6 (some FieldType.int) (d + 1) 0 0 (a_E X ad ca LY Post) 61 [(0, .ref o0), (1, .int x1), (2, .int x2), (3, .int (x3 + 1)), (4, .int x4)] [] M (PT x)))) ∧ (¬ (M o0 0) ≤ (x4 + x2) → ((¬ ((x1 >>> (x4 &&& 31)) &&& 1) = ((x1 >>> ((x4 + x2) &&& 31)) &&& 1) → WA X ad ca LY RX6 cX6_alikeAt 6 (some FieldType.int) (d + 1) 0 0 (a_E X ad ca LY Post) 61 [(0, .ref o0), (1, .int x1), (2, .int x2), (3, .int x3), (4, .int x4)] [] M (PT x)) ∧ (((x1 >>> (x4 &&& 31)) &&& 1) = ((x1 >>> ((x4 + x2) &&& 31)) &&& 1) → WA X ad ca LY RX6 cX6_alikeAt 6 (some FieldType.int) (d + 1) 0 0 (a_E X ad ca LY Post) 61 [(0, .ref o0), (1, .int x1), (2, .int x2), (3, .int (x3 + 1)), (4, .int x4)] [] M (PT x)))))))) : WA X ad ca LY RX6 cX6_alikeAt 6 (some FieldType.int) (d + 1) 0 0 (a_E X ad ca LY Post) 5 [(0, .ref o0), (1, .int x1), (2, .int x2), (3, .int x3), (4, .int x4)] [] M (PT x) := by
  refine wa_iload dX6_alikeAt_5 4 rfl ?_
  refine wa_aload_n dX6_alikeAt_7 0 rfl rfl ?_
  refine wb_geti (v := M o0 0) dX6_alikeAt_8 fkX6_9 rfl hLo0 rfl ?_
  refine wa_icmp_ge (tgt := 67) dX6_alikeAt_11 rfl (fun hc => ?_) (fun hc => ?_)
  · replace hF := hF.1 hc
    refine wa_iload_n dX6_alikeAt_67 3 rfl rfl ?_
    exact wa_iret dX6_alikeAt_68 rfl rfl hF
  · replace hF := hF.2 hc
    refine wa_iload dX6_alikeAt_14 4 rfl ?_
    refine wa_iload_n dX6_alikeAt_16 2 rfl rfl ?_
    refine wa_iadd dX6_alikeAt_17 ?_
    refine wa_aload_n dX6_alikeAt_18 0 rfl rfl ?_
    refine wb_geti (v := M o0 0) dX6_alikeAt_19 fkX6_9 rfl hLo0 rfl ?_
    refine wa_icmp_ge (tgt := 32) dX6_alikeAt_22 rfl (fun hc => ?_) (fun hc => ?_)
    · replace hF := hF.1 hc
      refine wa_iload dX6_alikeAt_32 4 rfl ?_
      refine wa_iload_n dX6_alikeAt_34 2 rfl rfl ?_
      refine wa_iadd dX6_alikeAt_35 ?_
      refine wa_aload_n dX6_alikeAt_36 0 rfl rfl ?_
      refine wb_geti (v := M o0 0) dX6_alikeAt_37 fkX6_9 rfl hLo0 rfl ?_
      refine wa_isub dX6_alikeAt_40 ?_
      refine wa_istore (lv' := [(5, .int ((x4 + x2) - (M o0 0))), (0, .ref o0), (1, .int x1), (2, .int x2), (3, .int x3), (4, .int x4)]) dX6_alikeAt_41 rfl rfl ?_
      refine wa_iload_n dX6_alikeAt_43 2 rfl rfl ?_
      refine wa_iload dX6_alikeAt_44 5 rfl ?_
      refine wa_ishr dX6_alikeAt_46 ?_
      refine wa_iconst (v := 1) dX6_alikeAt_47 rfl ?_
      refine wa_iand dX6_alikeAt_48 ?_
      refine wa_iload_n dX6_alikeAt_49 2 rfl rfl ?_
      refine wa_iload dX6_alikeAt_50 0 rfl ?_
      refine wa_ishr dX6_alikeAt_52 ?_
      refine wa_iconst (v := 1) dX6_alikeAt_53 rfl ?_
      refine wa_iand dX6_alikeAt_54 ?_
      refine wa_icmp_ne (tgt := 61) dX6_alikeAt_55 rfl (fun hc => ?_) (fun hc => ?_)
      · replace hF := hF.1 hc
        exact wa_pick [1, 2, 3, 4, 5] rfl hF
      · replace hF := hF.2 hc
        refine wa_iinc (v := x3 + 1) (lv' := [(3, .int (x3 + 1)), (5, .int ((x4 + x2) - (M o0 0))), (0, .ref o0), (1, .int x1), (2, .int x2), (4, .int x4)]) dX6_alikeAt_58 4 rfl rfl rfl rfl ?_
        exact wa_pick [2, 3, 4, 0, 5] rfl hF
    · replace hF := hF.2 hc
      refine wa_iload dX6_alikeAt_25 4 rfl ?_
      refine wa_iload_n dX6_alikeAt_27 2 rfl rfl ?_
      refine wa_iadd dX6_alikeAt_28 ?_
      refine wa_goto (tgt := 41) dX6_alikeAt_29 rfl ?_
      refine wa_istore (lv' := [(5, .int (x4 + x2)), (0, .ref o0), (1, .int x1), (2, .int x2), (3, .int x3), (4, .int x4)]) dX6_alikeAt_41 rfl rfl ?_
      refine wa_iload_n dX6_alikeAt_43 2 rfl rfl ?_
      refine wa_iload dX6_alikeAt_44 5 rfl ?_
      refine wa_ishr dX6_alikeAt_46 ?_
      refine wa_iconst (v := 1) dX6_alikeAt_47 rfl ?_
      refine wa_iand dX6_alikeAt_48 ?_
      refine wa_iload_n dX6_alikeAt_49 2 rfl rfl ?_
      refine wa_iload dX6_alikeAt_50 0 rfl ?_
      refine wa_ishr dX6_alikeAt_52 ?_
      refine wa_iconst (v := 1) dX6_alikeAt_53 rfl ?_
      refine wa_iand dX6_alikeAt_54 ?_
      refine wa_icmp_ne (tgt := 61) dX6_alikeAt_55 rfl (fun hc => ?_) (fun hc => ?_)
      · replace hF := hF.1 hc
        exact wa_pick [1, 2, 3, 4, 5] rfl hF
      · replace hF := hF.2 hc
        refine wa_iinc (v := x3 + 1) (lv' := [(3, .int (x3 + 1)), (5, .int (x4 + x2)), (0, .ref o0), (1, .int x1), (2, .int x2), (4, .int x4)]) dX6_alikeAt_58 4 rfl rfl rfl rfl ?_
        exact wa_pick [2, 3, 4, 0, 5] rfl hF

theorem bX6_alikeAt_61 {X : a_X} {ad : Nat → Nat} {ca : Nat → ClassId} {d : Nat} {kc ks : Nat} {QF : List Frame → Array Value → State → State → Prop} {x : Nat} {M : a_M} (o0 : Nat) (x1 : Int32) (x2 : Int32) (x3 : Int32) (x4 : Int32) (hLo0 : LY[o0]? = some (6, 5)) (hF : WA X ad ca LY RX6 cX6_alikeAt 6 (some FieldType.int) (d + 1) kc ks QF 5 [(0, .ref o0), (1, .int x1), (2, .int x2), (3, .int x3), (4, .int (x4 + 1))] [] M (PT x)) : WA X ad ca LY RX6 cX6_alikeAt 6 (some FieldType.int) (d + 1) kc ks QF 61 [(0, .ref o0), (1, .int x1), (2, .int x2), (3, .int x3), (4, .int x4)] [] M (PT x) := by
  refine wa_iinc (v := x4 + 1) (lv' := [(4, .int (x4 + 1)), (0, .ref o0), (1, .int x1), (2, .int x2), (3, .int x3)]) dX6_alikeAt_61 4 rfl rfl rfl rfl ?_
  refine wa_goto (tgt := 5) dX6_alikeAt_64 rfl ?_
  exact wa_pick [1, 2, 3, 4, 0] rfl hF

theorem eX6_alikeAt {X : a_X} {ad : Nat → Nat} {ca : Nat → ClassId} {d : Nat} {Post : Option Value → a_M → a_P → Prop} {x : Nat} {M : a_M} (o0 : Nat) (x1 : Int32) (x2 : Int32) (h : WA X ad ca LY RX6 cX6_alikeAt 6 (some FieldType.int) d 0 0 (a_E X ad ca LY Post) 0 [(0, .ref o0), (1, .int x1), (2, .int x2)] [] M (PT x)) : Mt X ad ca LY d yX6_alikeAt cX6_alikeAt 6 (some FieldType.int) [.ref o0, .int x1, .int x2] M (PT x) Post := Mt.of (lv := [(0, .ref o0), (1, .int x1), (2, .int x2)]) (by decide +kernel) rfl rfl rfl (wa_pick [0, 1, 2] rfl h)

theorem bX6_leastRoot_0 {X : a_X} {ad : Nat → Nat} {ca : Nat → ClassId} {d : Nat} {kc ks : Nat} {QF : List Frame → Array Value → State → State → Prop} {x : Nat} {M : a_M} (o0 : Nat) (hLo0 : LY[o0]? = some (6, 5)) (hF : WA X ad ca LY RX6 cX6_leastRoot 2 (some FieldType.int) (d + 1) kc ks QF 2 [(0, .ref o0), (1, .int 1)] [] M (PT x)) : WA X ad ca LY RX6 cX6_leastRoot 2 (some FieldType.int) (d + 1) kc ks QF 0 [(0, .ref o0)] [] M (PT x) := by
  refine wa_iconst (v := 1) dX6_leastRoot_0 rfl ?_
  refine wa_istore_n (lv' := [(1, .int 1), (0, .ref o0)]) dX6_leastRoot_1 rfl rfl rfl ?_
  exact wa_pick [1, 0] rfl hF

theorem bX6_leastRoot_2 {X : a_X} {ad : Nat → Nat} {ca : Nat → ClassId} {d : Nat} {Post : Option Value → a_M → a_P → Prop} {x : Nat} {M : a_M} (o0 : Nat) (x1 : Int32) (hLo0 : LY[o0]? = some (6, 5)) (hF : (((M o0 2) ≤ x1 → Post (some (.int (-1))) M (PT x)) ∧ (¬ (M o0 2) ≤ x1 → (∃ Q1 : Int32 → a_M → Prop, Mt X ad ca LY d yX6_isRoot cX6_isRoot 4 (some FieldType.boolean) [.ref o0, .int x1] M (PT x) (q_i (PT x) Q1) ∧ ∀ v1 M1, Q1 v1 M1 → ((v1 = 0 → WA X ad ca LY RX6 cX6_leastRoot 2 (some FieldType.int) (d + 1) 0 0 (a_E X ad ca LY Post) 2 [(0, .ref o0), (1, .int (x1 + 1))] [] M1 (PT x)) ∧ (¬ v1 = 0 → Post (some (.int x1)) M1 (PT x))))))) : WA X ad ca LY RX6 cX6_leastRoot 2 (some FieldType.int) (d + 1) 0 0 (a_E X ad ca LY Post) 2 [(0, .ref o0), (1, .int x1)] [] M (PT x) := by
  refine wa_iload_n dX6_leastRoot_2 1 rfl rfl ?_
  refine wa_aload_n dX6_leastRoot_3 0 rfl rfl ?_
  refine wb_geti (v := M o0 2) dX6_leastRoot_4 fkX6_19 rfl hLo0 rfl ?_
  refine wa_icmp_ge (tgt := 26) dX6_leastRoot_7 rfl (fun hc => ?_) (fun hc => ?_)
  · replace hF := hF.1 hc
    refine wa_iconst (v := (-1)) dX6_leastRoot_26 rfl ?_
    exact wa_iret dX6_leastRoot_27 rfl rfl hF
  · replace hF := hF.2 hc
    refine wa_aload_n dX6_leastRoot_10 0 rfl rfl ?_
    refine wa_iload_n dX6_leastRoot_11 1 rfl rfl ?_
    obtain ⟨Q1, hM9, hF⟩ := hF
    refine wa_callV [.int x1] dX6_leastRoot_12 (mmX6_isRoot _ _) mlX6_58 mnX6_isRoot mseX6_isRoot hLo0 rfl rfl rfl (a_dlt d) rfl rfl hM9 ?_
    rintro r9 M1 P9 ⟨v1, rfl, rfl, hq9⟩
    replace hF := hF v1 M1 hq9
    simp only [Option.toList, List.cons_append, List.nil_append]
    refine wa_if_eq (tgt := 20) dX6_leastRoot_15 rfl (fun hc => ?_) (fun hc => ?_)
    · replace hF := hF.1 hc
      refine wa_iinc (v := x1 + 1) (lv' := [(1, .int (x1 + 1)), (0, .ref o0)]) dX6_leastRoot_20 1 rfl rfl rfl rfl ?_
      refine wa_goto (tgt := 2) dX6_leastRoot_23 rfl ?_
      exact wa_pick [1, 0] rfl hF
    · replace hF := hF.2 hc
      refine wa_iload_n dX6_leastRoot_18 1 rfl rfl ?_
      exact wa_iret dX6_leastRoot_19 rfl rfl hF

theorem eX6_leastRoot {X : a_X} {ad : Nat → Nat} {ca : Nat → ClassId} {d : Nat} {Post : Option Value → a_M → a_P → Prop} {x : Nat} {M : a_M} (o0 : Nat) (h : WA X ad ca LY RX6 cX6_leastRoot 2 (some FieldType.int) d 0 0 (a_E X ad ca LY Post) 0 [(0, .ref o0)] [] M (PT x)) : Mt X ad ca LY d yX6_leastRoot cX6_leastRoot 2 (some FieldType.int) [.ref o0] M (PT x) Post := Mt.of (lv := [(0, .ref o0)]) (by decide +kernel) rfl rfl rfl (wa_pick [0] rfl h)

theorem bX6_isRoot_0 {X : a_X} {ad : Nat → Nat} {ca : Nat → ClassId} {d : Nat} {kc ks : Nat} {QF : List Frame → Array Value → State → State → Prop} {x : Nat} {M : a_M} (o0 : Nat) (x1 : Int32) (hLo0 : LY[o0]? = some (6, 5)) (hF : WA X ad ca LY RX6 cX6_isRoot 4 (some FieldType.boolean) (d + 1) kc ks QF 4 [(0, .ref o0), (1, .int x1), (2, .int 1), (3, .int 1)] [] M (PT x)) : WA X ad ca LY RX6 cX6_isRoot 4 (some FieldType.boolean) (d + 1) kc ks QF 0 [(0, .ref o0), (1, .int x1)] [] M (PT x) := by
  refine wa_iconst (v := 1) dX6_isRoot_0 rfl ?_
  refine wa_istore_n (lv' := [(2, .int 1), (0, .ref o0), (1, .int x1)]) dX6_isRoot_1 rfl rfl rfl ?_
  refine wa_iconst (v := 1) dX6_isRoot_2 rfl ?_
  refine wa_istore_n (lv' := [(3, .int 1), (2, .int 1), (0, .ref o0), (1, .int x1)]) dX6_isRoot_3 rfl rfl rfl ?_
  exact wa_pick [2, 3, 1, 0] rfl hF

theorem bX6_isRoot_4 {X : a_X} {ad : Nat → Nat} {ca : Nat → ClassId} {d : Nat} {Post : Option Value → a_M → a_P → Prop} {x : Nat} {M : a_M} (o0 : Nat) (x1 : Int32) (x2 : Int32) (x3 : Int32) (hLo0 : LY[o0]? = some (6, 5)) (hF : (((M o0 0) ≤ x3 → (∃ Q1 : Int32 → a_M → Prop, Mt X ad ca LY d yX11_left cX11_left 3 (some FieldType.int) [.int (x2 * x1), .int (M o0 2)] M (PT x) (q_i (PT x) Q1) ∧ ∀ v1 M1, Q1 v1 M1 → ((¬ v1 = 1 → Post (some (.int 0)) M1 (PT x)) ∧ (v1 = 1 → Post (some (.int 1)) M1 (PT x))))) ∧ (¬ (M o0 0) ≤ x3 → (∃ Q2 : Int32 → a_M → Prop, Mt X ad ca LY d yX11_left cX11_left 3 (some FieldType.int) [.int (x2 * x1), .int (M o0 2)] M (PT x) (q_i (PT x) Q2) ∧ ∀ v2 M2, Q2 v2 M2 → ((¬ v2 = 1 → WA X ad ca LY RX6 cX6_isRoot 4 (some FieldType.boolean) (d + 1) 0 0 (a_E X ad ca LY Post) 4 [(0, .ref o0), (1, .int x1), (2, .int v2), (3, .int (x3 + 1))] [] M2 (PT x)) ∧ (v2 = 1 → Post (some (.int 0)) M2 (PT x))))))) : WA X ad ca LY RX6 cX6_isRoot 4 (some FieldType.boolean) (d + 1) 0 0 (a_E X ad ca LY Post) 4 [(0, .ref o0), (1, .int x1), (2, .int x2), (3, .int x3)] [] M (PT x) := by
  refine wa_iload_n dX6_isRoot_4 3 rfl rfl ?_
  refine wa_aload_n dX6_isRoot_5 0 rfl rfl ?_
  refine wb_geti (v := M o0 0) dX6_isRoot_6 fkX6_9 rfl hLo0 rfl ?_
  refine wa_icmp_ge (tgt := 36) dX6_isRoot_9 rfl (fun hc => ?_) (fun hc => ?_)
  · replace hF := hF.1 hc
    refine wa_iload_n dX6_isRoot_36 2 rfl rfl ?_
    refine wa_iload_n dX6_isRoot_37 1 rfl rfl ?_
    refine wa_imul dX6_isRoot_38 ?_
    refine wa_aload_n dX6_isRoot_39 0 rfl rfl ?_
    refine wb_geti (v := M o0 2) dX6_isRoot_40 fkX6_19 rfl hLo0 rfl ?_
    obtain ⟨Q1, hM9, hF⟩ := hF
    refine wa_callSN [.int (x2 * x1), .int (M o0 2)] dX6_isRoot_43 (mmX11_left _ _) mkX6_43 mstX11_left rfl (a_dlt d) rfl rfl hM9 ?_
    rintro r9 M1 P9 ⟨v1, rfl, rfl, hq9⟩
    replace hF := hF v1 M1 hq9
    simp only [Option.toList, List.cons_append, List.nil_append]
    refine wa_iconst (v := 1) dX6_isRoot_46 rfl ?_
    refine wa_icmp_ne (tgt := 54) dX6_isRoot_47 rfl (fun hc => ?_) (fun hc => ?_)
    · replace hF := hF.1 hc
      refine wa_iconst (v := 0) dX6_isRoot_54 rfl ?_
      exact wa_iret dX6_isRoot_55 rfl rfl hF
    · replace hF := hF.2 hc
      refine wa_iconst (v := 1) dX6_isRoot_50 rfl ?_
      refine wa_goto (tgt := 55) dX6_isRoot_51 rfl ?_
      exact wa_iret dX6_isRoot_55 rfl rfl hF
  · replace hF := hF.2 hc
    refine wa_iload_n dX6_isRoot_12 2 rfl rfl ?_
    refine wa_iload_n dX6_isRoot_13 1 rfl rfl ?_
    refine wa_imul dX6_isRoot_14 ?_
    refine wa_aload_n dX6_isRoot_15 0 rfl rfl ?_
    refine wb_geti (v := M o0 2) dX6_isRoot_16 fkX6_19 rfl hLo0 rfl ?_
    obtain ⟨Q2, hM9, hF⟩ := hF
    refine wa_callSN [.int (x2 * x1), .int (M o0 2)] dX6_isRoot_19 (mmX11_left _ _) mkX6_43 mstX11_left rfl (a_dlt d) rfl rfl hM9 ?_
    rintro r9 M2 P9 ⟨v2, rfl, rfl, hq9⟩
    replace hF := hF v2 M2 hq9
    simp only [Option.toList, List.cons_append, List.nil_append]
    refine wa_istore_n (lv' := [(2, .int v2), (0, .ref o0), (1, .int x1), (3, .int x3)]) dX6_isRoot_22 rfl rfl rfl ?_
    refine wa_iload_n dX6_isRoot_23 0 rfl rfl ?_
    refine wa_iconst (v := 1) dX6_isRoot_24 rfl ?_
    refine wa_icmp_ne (tgt := 30) dX6_isRoot_25 rfl (fun hc => ?_) (fun hc => ?_)
    · replace hF := hF.1 hc
      refine wa_iinc (v := x3 + 1) (lv' := [(3, .int (x3 + 1)), (2, .int v2), (0, .ref o0), (1, .int x1)]) dX6_isRoot_30 3 rfl rfl rfl rfl ?_
      refine wa_goto (tgt := 4) dX6_isRoot_33 rfl ?_
      exact wa_pick [2, 3, 1, 0] rfl hF
    · replace hF := hF.2 hc
      refine wa_iconst (v := 0) dX6_isRoot_28 rfl ?_
      exact wa_iret dX6_isRoot_29 rfl rfl hF

theorem eX6_isRoot {X : a_X} {ad : Nat → Nat} {ca : Nat → ClassId} {d : Nat} {Post : Option Value → a_M → a_P → Prop} {x : Nat} {M : a_M} (o0 : Nat) (x1 : Int32) (h : WA X ad ca LY RX6 cX6_isRoot 4 (some FieldType.boolean) d 0 0 (a_E X ad ca LY Post) 0 [(0, .ref o0), (1, .int x1)] [] M (PT x)) : Mt X ad ca LY d yX6_isRoot cX6_isRoot 4 (some FieldType.boolean) [.ref o0, .int x1] M (PT x) Post := Mt.of (lv := [(0, .ref o0), (1, .int x1)]) (by decide +kernel) rfl rfl rfl (wa_pick [0, 1] rfl h)

theorem bX7_restart_0 {X : a_X} {ad : Nat → Nat} {ca : Nat → ClassId} {d : Nat} {kc ks : Nat} {QF : List Frame → Array Value → State → State → Prop} {x : Nat} {M : a_M} (o0 : Nat) (x1 : Int32) (ro0_2 : Nat) (nro0_2 : Nat) (hLo0 : LY[o0]? = some (7, 7)) (hLro0_2 : LY[ro0_2]? = some (100, nro0_2)) (hpro0_2 : PT x o0 2 = ro0_2 + 1) (hF : (vp_in 0 nro0_2 ∧ WA X ad ca LY RX7 cX7_restart 3 none (d + 1) kc ks QF 14 [(0, .ref o0), (1, .int x1), (2, .int 0)] [] (ms (ms M o0 0 0) ro0_2 0 0) (PT x))) : WA X ad ca LY RX7 cX7_restart 3 none (d + 1) kc ks QF 0 [(0, .ref o0), (1, .int x1)] [] M (PT x) := by
  refine wa_aload_n dX7_restart_0 0 rfl rfl ?_
  refine wa_iconst (v := 0) dX7_restart_1 rfl ?_
  refine wb_puti dX7_restart_2 fkX7_9 fmX7_0 rfl hLo0 ?_
  refine wa_aload_n dX7_restart_5 0 rfl rfl ?_
  refine wa_getr (r := ro0_2) dX7_restart_6 fkX7_19 rfl hLo0 hpro0_2 ?_
  refine wa_iconst (v := 0) dX7_restart_9 rfl ?_
  refine wa_iconst (v := 0) dX7_restart_10 rfl ?_
  obtain ⟨hi9, hF⟩ := hF
  refine wb_iast (j := 0) dX7_restart_11 hLro0_2 hi9 rfl ?_
  refine wa_iconst (v := 0) dX7_restart_12 rfl ?_
  refine wa_istore_n (lv' := [(2, .int 0), (0, .ref o0), (1, .int x1)]) dX7_restart_13 rfl rfl rfl ?_
  exact wa_pick [1, 2, 0] rfl hF

theorem bX7_restart_14 {X : a_X} {ad : Nat → Nat} {ca : Nat → ClassId} {d : Nat} {Post : Option Value → a_M → a_P → Prop} {x : Nat} {M : a_M} (o0 : Nat) (x1 : Int32) (x2 : Int32) (ro0_4 : Nat) (nro0_4 : Nat) (hLo0 : LY[o0]? = some (7, 7)) (hLro0_4 : LY[ro0_4]? = some (100, nro0_4)) (hpro0_4 : PT x o0 4 = ro0_4 + 1) (hF : (((nI nro0_4) ≤ x2 → Post none (ms M o0 6 x1) (PT x)) ∧ (¬ (nI nro0_4) ≤ x2 → (vp_in x2 nro0_4 ∧ WA X ad ca LY RX7 cX7_restart 3 none (d + 1) 0 0 (a_E X ad ca LY Post) 14 [(0, .ref o0), (1, .int x1), (2, .int (x2 + 1))] [] (ms M ro0_4 x2.toNatClampNeg (-1)) (PT x))))) : WA X ad ca LY RX7 cX7_restart 3 none (d + 1) 0 0 (a_E X ad ca LY Post) 14 [(0, .ref o0), (1, .int x1), (2, .int x2)] [] M (PT x) := by
  refine wa_iload_n dX7_restart_14 2 rfl rfl ?_
  refine wa_aload_n dX7_restart_15 0 rfl rfl ?_
  refine wa_getr (r := ro0_4) dX7_restart_16 fkX7_27 rfl hLo0 hpro0_4 ?_
  refine wa_alen (v := nI nro0_4) dX7_restart_19 hLro0_4 (by decide) rfl ?_
  refine wa_icmp_ge (tgt := 36) dX7_restart_20 rfl (fun hc => ?_) (fun hc => ?_)
  · replace hF := hF.1 hc
    refine wa_aload_n dX7_restart_36 0 rfl rfl ?_
    refine wa_iload_n dX7_restart_37 1 rfl rfl ?_
    refine wb_puti dX7_restart_38 fkX7_33 fmX7_6 rfl hLo0 ?_
    exact wa_vret dX7_restart_41 rfl hF
  · replace hF := hF.2 hc
    refine wa_aload_n dX7_restart_23 0 rfl rfl ?_
    refine wa_getr (r := ro0_4) dX7_restart_24 fkX7_27 rfl hLo0 hpro0_4 ?_
    refine wa_iload_n dX7_restart_27 2 rfl rfl ?_
    refine wa_iconst (v := (-1)) dX7_restart_28 rfl ?_
    obtain ⟨hi9, hF⟩ := hF
    refine wb_iast (j := x2.toNatClampNeg) dX7_restart_29 hLro0_4 hi9 rfl ?_
    refine wa_iinc (v := x2 + 1) (lv' := [(2, .int (x2 + 1)), (0, .ref o0), (1, .int x1)]) dX7_restart_30 2 rfl rfl rfl rfl ?_
    refine wa_goto (tgt := 14) dX7_restart_33 rfl ?_
    exact wa_pick [1, 2, 0] rfl hF

theorem eX7_restart {X : a_X} {ad : Nat → Nat} {ca : Nat → ClassId} {d : Nat} {Post : Option Value → a_M → a_P → Prop} {x : Nat} {M : a_M} (o0 : Nat) (x1 : Int32) (h : WA X ad ca LY RX7 cX7_restart 3 none d 0 0 (a_E X ad ca LY Post) 0 [(0, .ref o0), (1, .int x1)] [] M (PT x)) : Mt X ad ca LY d yX7_restart cX7_restart 3 none [.ref o0, .int x1] M (PT x) Post := Mt.of (lv := [(0, .ref o0), (1, .int x1)]) (by decide +kernel) rfl rfl rfl (wa_pick [0, 1] rfl h)

theorem bX7_hasWeight_0 {X : a_X} {ad : Nat → Nat} {ca : Nat → ClassId} {d : Nat} {Post : Option Value → a_M → a_P → Prop} {x : Nat} {M : a_M} (o0 : Nat) (x1 : Int32) (ro0_4 : Nat) (nro0_4 : Nat) (hLo0 : LY[o0]? = some (7, 7)) (hLro0_4 : LY[ro0_4]? = some (100, nro0_4)) (hpro0_4 : PT x o0 4 = ro0_4 + 1) (hF : ((x1 < 0 → WA X ad ca LY RX7 cX7_hasWeight 2 (some FieldType.boolean) (d + 1) 0 0 (a_E X ad ca LY Post) 27 [] [] M (PT x)) ∧ (¬ x1 < 0 → (((nI nro0_4) ≤ x1 → WA X ad ca LY RX7 cX7_hasWeight 2 (some FieldType.boolean) (d + 1) 0 0 (a_E X ad ca LY Post) 27 [] [] M (PT x)) ∧ (¬ (nI nro0_4) ≤ x1 → (vp_in x1 nro0_4 ∧ (((M ro0_4 x1.toNatClampNeg) = (-1) → WA X ad ca LY RX7 cX7_hasWeight 2 (some FieldType.boolean) (d + 1) 0 0 (a_E X ad ca LY Post) 27 [] [] M (PT x)) ∧ (¬ (M ro0_4 x1.toNatClampNeg) = (-1) → Post (some (.int 1)) M (PT x))))))))) : WA X ad ca LY RX7 cX7_hasWeight 2 (some FieldType.boolean) (d + 1) 0 0 (a_E X ad ca LY Post) 0 [(0, .ref o0), (1, .int x1)] [] M (PT x) := by
  refine wa_iload_n dX7_hasWeight_0 1 rfl rfl ?_
  refine wa_if_lt (tgt := 27) dX7_hasWeight_1 rfl (fun hc => ?_) (fun hc => ?_)
  · replace hF := hF.1 hc
    exact wa_pick [] rfl hF
  · replace hF := hF.2 hc
    refine wa_iload_n dX7_hasWeight_4 1 rfl rfl ?_
    refine wa_aload_n dX7_hasWeight_5 0 rfl rfl ?_
    refine wa_getr (r := ro0_4) dX7_hasWeight_6 fkX7_27 rfl hLo0 hpro0_4 ?_
    refine wa_alen (v := nI nro0_4) dX7_hasWeight_9 hLro0_4 (by decide) rfl ?_
    refine wa_icmp_ge (tgt := 27) dX7_hasWeight_10 rfl (fun hc => ?_) (fun hc => ?_)
    · replace hF := hF.1 hc
      exact wa_pick [] rfl hF
    · replace hF := hF.2 hc
      refine wa_aload_n dX7_hasWeight_13 0 rfl rfl ?_
      refine wa_getr (r := ro0_4) dX7_hasWeight_14 fkX7_27 rfl hLo0 hpro0_4 ?_
      refine wa_iload_n dX7_hasWeight_17 1 rfl rfl ?_
      obtain ⟨hi9, hF⟩ := hF
      refine wb_iald (j := x1.toNatClampNeg) (v := M ro0_4 x1.toNatClampNeg) dX7_hasWeight_18 hLro0_4 hi9 rfl rfl ?_
      refine wa_iconst (v := (-1)) dX7_hasWeight_19 rfl ?_
      refine wa_icmp_eq (tgt := 27) dX7_hasWeight_20 rfl (fun hc => ?_) (fun hc => ?_)
      · replace hF := hF.1 hc
        exact wa_pick [] rfl hF
      · replace hF := hF.2 hc
        refine wa_iconst (v := 1) dX7_hasWeight_23 rfl ?_
        refine wa_goto (tgt := 28) dX7_hasWeight_24 rfl ?_
        exact wa_iret dX7_hasWeight_28 rfl rfl hF

theorem bX7_hasWeight_27 {X : a_X} {ad : Nat → Nat} {ca : Nat → ClassId} {d : Nat} {Post : Option Value → a_M → a_P → Prop} {x : Nat} {M : a_M}   (hF : Post (some (.int 0)) M (PT x)) : WA X ad ca LY RX7 cX7_hasWeight 2 (some FieldType.boolean) (d + 1) 0 0 (a_E X ad ca LY Post) 27 [] [] M (PT x) := by
  refine wa_iconst (v := 0) dX7_hasWeight_27 rfl ?_
  exact wa_iret dX7_hasWeight_28 rfl rfl hF

theorem eX7_hasWeight {X : a_X} {ad : Nat → Nat} {ca : Nat → ClassId} {d : Nat} {Post : Option Value → a_M → a_P → Prop} {x : Nat} {M : a_M} (o0 : Nat) (x1 : Int32) (h : WA X ad ca LY RX7 cX7_hasWeight 2 (some FieldType.boolean) d 0 0 (a_E X ad ca LY Post) 0 [(0, .ref o0), (1, .int x1)] [] M (PT x)) : Mt X ad ca LY d yX7_hasWeight cX7_hasWeight 2 (some FieldType.boolean) [.ref o0, .int x1] M (PT x) Post := Mt.of (lv := [(0, .ref o0), (1, .int x1)]) (by decide +kernel) rfl rfl rfl (wa_pick [0, 1] rfl h)

theorem bX7_open_0 {X : a_X} {ad : Nat → Nat} {ca : Nat → ClassId} {d : Nat} {Post : Option Value → a_M → a_P → Prop} {x : Nat} {M : a_M} (o0 : Nat) (x1 : Int32) (ro0_1 : Nat) (nro0_1 : Nat) (ro0_4 : Nat) (nro0_4 : Nat) (hLo0 : LY[o0]? = some (7, 7)) (hLro0_1 : LY[ro0_1]? = some (100, nro0_1)) (hpro0_1 : PT x o0 1 = ro0_1 + 1) (hLro0_4 : LY[ro0_4]? = some (100, nro0_4)) (hpro0_4 : PT x o0 4 = ro0_4 + 1) (hF : ((30 ≤ (M o0 0) → Post none M (PT x)) ∧ (¬ 30 ≤ (M o0 0) → (vp_in (M o0 0) nro0_1 ∧ ((x1 < 0 → WA X ad ca LY RX7 cX7_open 2 none (d + 1) 0 0 (a_E X ad ca LY Post) 42 [(0, .ref o0)] [] (ms M ro0_1 ((M o0 0).toNatClampNeg) x1) (PT x)) ∧ (¬ x1 < 0 → (((nI nro0_4) ≤ x1 → WA X ad ca LY RX7 cX7_open 2 none (d + 1) 0 0 (a_E X ad ca LY Post) 42 [(0, .ref o0)] [] (ms M ro0_1 ((M o0 0).toNatClampNeg) x1) (PT x)) ∧ (¬ (nI nro0_4) ≤ x1 → (vp_in x1 nro0_4 ∧ WA X ad ca LY RX7 cX7_open 2 none (d + 1) 0 0 (a_E X ad ca LY Post) 42 [(0, .ref o0)] [] (ms (ms M ro0_1 ((M o0 0).toNatClampNeg) x1) ro0_4 x1.toNatClampNeg ((ms M ro0_1 ((M o0 0).toNatClampNeg) x1) o0 0)) (PT x)))))))))) : WA X ad ca LY RX7 cX7_open 2 none (d + 1) 0 0 (a_E X ad ca LY Post) 0 [(0, .ref o0), (1, .int x1)] [] M (PT x) := by
  refine wa_aload_n dX7_open_0 0 rfl rfl ?_
  refine wb_geti (v := M o0 0) dX7_open_1 fkX7_9 rfl hLo0 rfl ?_
  refine wa_bipush (v := 30) dX7_open_4 rfl ?_
  refine wa_icmp_ge (tgt := 72) dX7_open_6 rfl (fun hc => ?_) (fun hc => ?_)
  · replace hF := hF.1 hc
    exact wa_vret dX7_open_72 rfl hF
  · replace hF := hF.2 hc
    refine wa_aload_n dX7_open_9 0 rfl rfl ?_
    refine wa_getr (r := ro0_1) dX7_open_10 fkX7_15 rfl hLo0 hpro0_1 ?_
    refine wa_aload_n dX7_open_13 0 rfl rfl ?_
    refine wb_geti (v := M o0 0) dX7_open_14 fkX7_9 rfl hLo0 rfl ?_
    refine wa_iload_n dX7_open_17 1 rfl rfl ?_
    obtain ⟨hi9, hF⟩ := hF
    refine wb_iast (j := (M o0 0).toNatClampNeg) dX7_open_18 hLro0_1 hi9 rfl ?_
    refine wa_iload_n dX7_open_19 1 rfl rfl ?_
    refine wa_if_lt (tgt := 42) dX7_open_20 rfl (fun hc => ?_) (fun hc => ?_)
    · replace hF := hF.1 hc
      exact wa_pick [0] rfl hF
    · replace hF := hF.2 hc
      refine wa_iload_n dX7_open_23 1 rfl rfl ?_
      refine wa_aload_n dX7_open_24 0 rfl rfl ?_
      refine wa_getr (r := ro0_4) dX7_open_25 fkX7_27 rfl hLo0 hpro0_4 ?_
      refine wa_alen (v := nI nro0_4) dX7_open_28 hLro0_4 (by decide) rfl ?_
      refine wa_icmp_ge (tgt := 42) dX7_open_29 rfl (fun hc => ?_) (fun hc => ?_)
      · replace hF := hF.1 hc
        exact wa_pick [0] rfl hF
      · replace hF := hF.2 hc
        refine wa_aload_n dX7_open_32 0 rfl rfl ?_
        refine wa_getr (r := ro0_4) dX7_open_33 fkX7_27 rfl hLo0 hpro0_4 ?_
        refine wa_iload_n dX7_open_36 1 rfl rfl ?_
        refine wa_aload_n dX7_open_37 0 rfl rfl ?_
        refine wb_geti (v := (ms M ro0_1 ((M o0 0).toNatClampNeg) x1) o0 0) dX7_open_38 fkX7_9 rfl hLo0 rfl ?_
        obtain ⟨hi9, hF⟩ := hF
        refine wb_iast (j := x1.toNatClampNeg) dX7_open_41 hLro0_4 hi9 rfl ?_
        exact wa_pick [0] rfl hF

theorem bX7_open_42 {X : a_X} {ad : Nat → Nat} {ca : Nat → ClassId} {d : Nat} {Post : Option Value → a_M → a_P → Prop} {x : Nat} {M : a_M} (o0 : Nat) (ro0_2 : Nat) (nro0_2 : Nat) (hLo0 : LY[o0]? = some (7, 7)) (hLro0_2 : LY[ro0_2]? = some (100, nro0_2)) (hpro0_2 : PT x o0 2 = ro0_2 + 1) (hF : (vp_in (((M o0 0) + 1) - 1) nro0_2 ∧ (vp_in ((M o0 0) + 1) nro0_2 ∧ Post none (ms (ms M o0 0 ((M o0 0) + 1)) ro0_2 (((M o0 0) + 1).toNatClampNeg) ((ms M o0 0 ((M o0 0) + 1)) ro0_2 ((((M o0 0) + 1) - 1).toNatClampNeg))) (PT x)))) : WA X ad ca LY RX7 cX7_open 2 none (d + 1) 0 0 (a_E X ad ca LY Post) 42 [(0, .ref o0)] [] M (PT x) := by
  refine wa_aload_n dX7_open_42 0 rfl rfl ?_
  refine wa_dup dX7_open_43 rfl ?_
  refine wb_geti (v := M o0 0) dX7_open_44 fkX7_9 rfl hLo0 rfl ?_
  refine wa_iconst (v := 1) dX7_open_47 rfl ?_
  refine wa_iadd dX7_open_48 ?_
  refine wb_puti dX7_open_49 fkX7_9 fmX7_0 rfl hLo0 ?_
  refine wa_aload_n dX7_open_52 0 rfl rfl ?_
  refine wa_getr (r := ro0_2) dX7_open_53 fkX7_19 rfl hLo0 hpro0_2 ?_
  refine wa_aload_n dX7_open_56 0 rfl rfl ?_
  refine wb_geti (v := ((M o0 0) + 1)) dX7_open_57 fkX7_9 rfl hLo0 (ms_is M o0 0 ((M o0 0) + 1)) ?_
  refine wa_aload_n dX7_open_60 0 rfl rfl ?_
  refine wa_getr (r := ro0_2) dX7_open_61 fkX7_19 rfl hLo0 hpro0_2 ?_
  refine wa_aload_n dX7_open_64 0 rfl rfl ?_
  refine wb_geti (v := ((M o0 0) + 1)) dX7_open_65 fkX7_9 rfl hLo0 (ms_is M o0 0 ((M o0 0) + 1)) ?_
  refine wa_iconst (v := 1) dX7_open_68 rfl ?_
  refine wa_isub dX7_open_69 ?_
  obtain ⟨hi9, hF⟩ := hF
  refine wb_iald (j := (((M o0 0) + 1) - 1).toNatClampNeg) (v := (ms M o0 0 ((M o0 0) + 1)) ro0_2 ((((M o0 0) + 1) - 1).toNatClampNeg)) dX7_open_70 hLro0_2 hi9 rfl rfl ?_
  obtain ⟨hi9, hF⟩ := hF
  refine wb_iast (j := ((M o0 0) + 1).toNatClampNeg) dX7_open_71 hLro0_2 hi9 rfl ?_
  exact wa_vret dX7_open_72 rfl hF

theorem eX7_open {X : a_X} {ad : Nat → Nat} {ca : Nat → ClassId} {d : Nat} {Post : Option Value → a_M → a_P → Prop} {x : Nat} {M : a_M} (o0 : Nat) (x1 : Int32) (h : WA X ad ca LY RX7 cX7_open 2 none d 0 0 (a_E X ad ca LY Post) 0 [(0, .ref o0), (1, .int x1)] [] M (PT x)) : Mt X ad ca LY d yX7_open cX7_open 2 none [.ref o0, .int x1] M (PT x) Post := Mt.of (lv := [(0, .ref o0), (1, .int x1)]) (by decide +kernel) rfl rfl rfl (wa_pick [0, 1] rfl h)

theorem bX7_add_0 {X : a_X} {ad : Nat → Nat} {ca : Nat → ClassId} {d : Nat} {Post : Option Value → a_M → a_P → Prop} {x : Nat} {M : a_M} (o0 : Nat) (x1 : Int32) (ro0_2 : Nat) (nro0_2 : Nat) (ro0_3 : Nat) (nro0_3 : Nat) (hLo0 : LY[o0]? = some (7, 7)) (hLro0_2 : LY[ro0_2]? = some (100, nro0_2)) (hpro0_2 : PT x o0 2 = ro0_2 + 1) (hLro0_3 : LY[ro0_3]? = some (100, nro0_3)) (hpro0_3 : PT x o0 3 = ro0_3 + 1) (hF : (vp_in (M o0 0) nro0_2 ∧ (((nI nro0_3) ≤ (M ro0_2 ((M o0 0).toNatClampNeg)) → Post none M (PT x)) ∧ (¬ (nI nro0_3) ≤ (M ro0_2 ((M o0 0).toNatClampNeg)) → (vp_in (M ro0_2 ((M o0 0).toNatClampNeg)) nro0_3 ∧ (vp_in ((ms M ro0_3 ((M ro0_2 ((M o0 0).toNatClampNeg)).toNatClampNeg) x1) o0 0) nro0_2 ∧ Post none (ms (ms M ro0_3 ((M ro0_2 ((M o0 0).toNatClampNeg)).toNatClampNeg) x1) ro0_2 (((ms M ro0_3 ((M ro0_2 ((M o0 0).toNatClampNeg)).toNatClampNeg) x1) o0 0).toNatClampNeg) ((M ro0_2 ((M o0 0).toNatClampNeg)) + 1)) (PT x))))))) : WA X ad ca LY RX7 cX7_add 3 none (d + 1) 0 0 (a_E X ad ca LY Post) 0 [(0, .ref o0), (1, .int x1)] [] M (PT x) := by
  refine wa_aload_n dX7_add_0 0 rfl rfl ?_
  refine wa_getr (r := ro0_2) dX7_add_1 fkX7_19 rfl hLo0 hpro0_2 ?_
  refine wa_aload_n dX7_add_4 0 rfl rfl ?_
  refine wb_geti (v := M o0 0) dX7_add_5 fkX7_9 rfl hLo0 rfl ?_
  obtain ⟨hi9, hF⟩ := hF
  refine wb_iald (j := (M o0 0).toNatClampNeg) (v := M ro0_2 ((M o0 0).toNatClampNeg)) dX7_add_8 hLro0_2 hi9 rfl rfl ?_
  refine wa_istore_n (lv' := [(2, .int (M ro0_2 ((M o0 0).toNatClampNeg))), (0, .ref o0), (1, .int x1)]) dX7_add_9 rfl rfl rfl ?_
  refine wa_iload_n dX7_add_10 0 rfl rfl ?_
  refine wa_aload_n dX7_add_11 1 rfl rfl ?_
  refine wa_getr (r := ro0_3) dX7_add_12 fkX7_24 rfl hLo0 hpro0_3 ?_
  refine wa_alen (v := nI nro0_3) dX7_add_15 hLro0_3 (by decide) rfl ?_
  refine wa_icmp_ge (tgt := 38) dX7_add_16 rfl (fun hc => ?_) (fun hc => ?_)
  · replace hF := hF.1 hc
    exact wa_vret dX7_add_38 rfl hF
  · replace hF := hF.2 hc
    refine wa_aload_n dX7_add_19 1 rfl rfl ?_
    refine wa_getr (r := ro0_3) dX7_add_20 fkX7_24 rfl hLo0 hpro0_3 ?_
    refine wa_iload_n dX7_add_23 0 rfl rfl ?_
    refine wa_iload_n dX7_add_24 2 rfl rfl ?_
    obtain ⟨hi9, hF⟩ := hF
    refine wb_iast (j := (M ro0_2 ((M o0 0).toNatClampNeg)).toNatClampNeg) dX7_add_25 hLro0_3 hi9 rfl ?_
    refine wa_aload_n dX7_add_26 1 rfl rfl ?_
    refine wa_getr (r := ro0_2) dX7_add_27 fkX7_19 rfl hLo0 hpro0_2 ?_
    refine wa_aload_n dX7_add_30 1 rfl rfl ?_
    refine wb_geti (v := (ms M ro0_3 ((M ro0_2 ((M o0 0).toNatClampNeg)).toNatClampNeg) x1) o0 0) dX7_add_31 fkX7_9 rfl hLo0 rfl ?_
    refine wa_iload_n dX7_add_34 0 rfl rfl ?_
    refine wa_iconst (v := 1) dX7_add_35 rfl ?_
    refine wa_iadd dX7_add_36 ?_
    obtain ⟨hi9, hF⟩ := hF
    refine wb_iast (j := ((ms M ro0_3 ((M ro0_2 ((M o0 0).toNatClampNeg)).toNatClampNeg) x1) o0 0).toNatClampNeg) dX7_add_37 hLro0_2 hi9 rfl ?_
    exact wa_vret dX7_add_38 rfl hF

theorem eX7_add {X : a_X} {ad : Nat → Nat} {ca : Nat → ClassId} {d : Nat} {Post : Option Value → a_M → a_P → Prop} {x : Nat} {M : a_M} (o0 : Nat) (x1 : Int32) (h : WA X ad ca LY RX7 cX7_add 3 none d 0 0 (a_E X ad ca LY Post) 0 [(0, .ref o0), (1, .int x1)] [] M (PT x)) : Mt X ad ca LY d yX7_add cX7_add 3 none [.ref o0, .int x1] M (PT x) Post := Mt.of (lv := [(0, .ref o0), (1, .int x1)]) (by decide +kernel) rfl rfl rfl (wa_pick [0, 1] rfl h)

theorem bX7_kindOf_0 {X : a_X} {ad : Nat → Nat} {ca : Nat → ClassId} {d : Nat} {Post : Option Value → a_M → a_P → Prop} {x : Nat} {M : a_M} (o0 : Nat) (x1 : Int32) (ro0_1 : Nat) (nro0_1 : Nat) (hLo0 : LY[o0]? = some (7, 7)) (hLro0_1 : LY[ro0_1]? = some (100, nro0_1)) (hpro0_1 : PT x o0 1 = ro0_1 + 1) (hF : ((x1 < 0 → WA X ad ca LY RX7 cX7_kindOf 2 (some FieldType.int) (d + 1) 0 0 (a_E X ad ca LY Post) 21 [] [] M (PT x)) ∧ (¬ x1 < 0 → (((M o0 0) ≤ x1 → WA X ad ca LY RX7 cX7_kindOf 2 (some FieldType.int) (d + 1) 0 0 (a_E X ad ca LY Post) 21 [] [] M (PT x)) ∧ (¬ (M o0 0) ≤ x1 → (vp_in x1 nro0_1 ∧ Post (some (.int (M ro0_1 x1.toNatClampNeg))) M (PT x))))))) : WA X ad ca LY RX7 cX7_kindOf 2 (some FieldType.int) (d + 1) 0 0 (a_E X ad ca LY Post) 0 [(0, .ref o0), (1, .int x1)] [] M (PT x) := by
  refine wa_iload_n dX7_kindOf_0 1 rfl rfl ?_
  refine wa_if_lt (tgt := 21) dX7_kindOf_1 rfl (fun hc => ?_) (fun hc => ?_)
  · replace hF := hF.1 hc
    exact wa_pick [] rfl hF
  · replace hF := hF.2 hc
    refine wa_iload_n dX7_kindOf_4 1 rfl rfl ?_
    refine wa_aload_n dX7_kindOf_5 0 rfl rfl ?_
    refine wb_geti (v := M o0 0) dX7_kindOf_6 fkX7_9 rfl hLo0 rfl ?_
    refine wa_icmp_ge (tgt := 21) dX7_kindOf_9 rfl (fun hc => ?_) (fun hc => ?_)
    · replace hF := hF.1 hc
      exact wa_pick [] rfl hF
    · replace hF := hF.2 hc
      refine wa_aload_n dX7_kindOf_12 0 rfl rfl ?_
      refine wa_getr (r := ro0_1) dX7_kindOf_13 fkX7_15 rfl hLo0 hpro0_1 ?_
      refine wa_iload_n dX7_kindOf_16 1 rfl rfl ?_
      obtain ⟨hi9, hF⟩ := hF
      refine wb_iald (j := x1.toNatClampNeg) (v := M ro0_1 x1.toNatClampNeg) dX7_kindOf_17 hLro0_1 hi9 rfl rfl ?_
      refine wa_goto (tgt := 22) dX7_kindOf_18 rfl ?_
      exact wa_iret dX7_kindOf_22 rfl rfl hF

theorem bX7_kindOf_21 {X : a_X} {ad : Nat → Nat} {ca : Nat → ClassId} {d : Nat} {Post : Option Value → a_M → a_P → Prop} {x : Nat} {M : a_M}   (hF : Post (some (.int (-1))) M (PT x)) : WA X ad ca LY RX7 cX7_kindOf 2 (some FieldType.int) (d + 1) 0 0 (a_E X ad ca LY Post) 21 [] [] M (PT x) := by
  refine wa_iconst (v := (-1)) dX7_kindOf_21 rfl ?_
  exact wa_iret dX7_kindOf_22 rfl rfl hF

theorem eX7_kindOf {X : a_X} {ad : Nat → Nat} {ca : Nat → ClassId} {d : Nat} {Post : Option Value → a_M → a_P → Prop} {x : Nat} {M : a_M} (o0 : Nat) (x1 : Int32) (h : WA X ad ca LY RX7 cX7_kindOf 2 (some FieldType.int) d 0 0 (a_E X ad ca LY Post) 0 [(0, .ref o0), (1, .int x1)] [] M (PT x)) : Mt X ad ca LY d yX7_kindOf cX7_kindOf 2 (some FieldType.int) [.ref o0, .int x1] M (PT x) Post := Mt.of (lv := [(0, .ref o0), (1, .int x1)]) (by decide +kernel) rfl rfl rfl (wa_pick [0, 1] rfl h)

theorem bX7_argument_0 {X : a_X} {ad : Nat → Nat} {ca : Nat → ClassId} {d : Nat} {Post : Option Value → a_M → a_P → Prop} {x : Nat} {M : a_M} (o0 : Nat) (x1 : Int32) (o2 : Nat) (ro0_3 : Nat) (nro0_3 : Nat) (ro0_2 : Nat) (nro0_2 : Nat) (hLo0 : LY[o0]? = some (7, 7)) (hLo2 : LY[o2]? = some (6, 5)) (hLro0_3 : LY[ro0_3]? = some (100, nro0_3)) (hpro0_3 : PT x o0 3 = ro0_3 + 1) (hLro0_2 : LY[ro0_2]? = some (100, nro0_2)) (hpro0_2 : PT x o0 2 = ro0_2 + 1) (hF : (∃ Q1 : Int32 → a_M → Prop, Mt X ad ca LY d yX7_kindOf cX7_kindOf 2 (some FieldType.int) [.ref o0, .int x1] M (PT x) (q_i (PT x) Q1) ∧ ∀ v1 M1, Q1 v1 M1 → ((¬ v1 = 4 → ((¬ v1 = 6 → Post (some (.int 0)) M1 (PT x)) ∧ (v1 = 6 → (∃ Q2 : Int32 → a_M → Prop, Mt X ad ca LY d yX7_reckoned cX7_reckoned 7 (some FieldType.int) [.ref o0, .int x1, .int 0, .ref o2] M1 (PT x) (q_i (PT x) Q2) ∧ ∀ v2 M2, Q2 v2 M2 → Post (some (.int v2)) M2 (PT x))))) ∧ (v1 = 4 → (vp_in x1 nro0_2 ∧ (vp_in (M1 ro0_2 x1.toNatClampNeg) nro0_3 ∧ Post (some (.int (M1 ro0_3 ((M1 ro0_2 x1.toNatClampNeg).toNatClampNeg)))) M1 (PT x))))))) : WA X ad ca LY RX7 cX7_argument 4 (some FieldType.int) (d + 1) 0 0 (a_E X ad ca LY Post) 0 [(0, .ref o0), (1, .int x1), (2, .ref o2)] [] M (PT x) := by
  refine wa_aload_n dX7_argument_0 0 rfl rfl ?_
  refine wa_iload_n dX7_argument_1 1 rfl rfl ?_
  obtain ⟨Q1, hM9, hF⟩ := hF
  refine wa_callV [.int x1] dX7_argument_2 (mmX7_kindOf _ _) mlX7_36 mnX7_kindOf mseX7_kindOf hLo0 rfl rfl rfl (a_dlt d) rfl rfl hM9 ?_
  rintro r9 M1 P9 ⟨v1, rfl, rfl, hq9⟩
  replace hF := hF v1 M1 hq9
  simp only [Option.toList, List.cons_append, List.nil_append]
  refine wa_istore_n (lv' := [(3, .int v1), (0, .ref o0), (1, .int x1), (2, .ref o2)]) dX7_argument_5 rfl rfl rfl ?_
  refine wa_iload_n dX7_argument_6 0 rfl rfl ?_
  refine wa_iconst (v := 4) dX7_argument_7 rfl ?_
  refine wa_icmp_ne (tgt := 23) dX7_argument_8 rfl (fun hc => ?_) (fun hc => ?_)
  · replace hF := hF.1 hc
    refine wa_iload_n dX7_argument_23 0 rfl rfl ?_
    refine wa_bipush (v := 6) dX7_argument_24 rfl ?_
    refine wa_icmp_ne (tgt := 39) dX7_argument_26 rfl (fun hc => ?_) (fun hc => ?_)
    · replace hF := hF.1 hc
      refine wa_iconst (v := 0) dX7_argument_39 rfl ?_
      exact wa_iret dX7_argument_40 rfl rfl hF
    · replace hF := hF.2 hc
      refine wa_aload_n dX7_argument_29 1 rfl rfl ?_
      refine wa_iload_n dX7_argument_30 2 rfl rfl ?_
      refine wa_iconst (v := 0) dX7_argument_31 rfl ?_
      refine wa_aload_n dX7_argument_32 3 rfl rfl ?_
      obtain ⟨Q2, hM9, hF⟩ := hF
      refine wa_callV [.int x1, .int 0, .ref o2] dX7_argument_33 (mmX7_reckoned _ _) mlX7_40 mnX7_reckoned mseX7_reckoned hLo0 rfl rfl rfl (a_dlt d) rfl rfl hM9 ?_
      rintro r9 M2 P9 ⟨v2, rfl, rfl, hq9⟩
      replace hF := hF v2 M2 hq9
      simp only [Option.toList, List.cons_append, List.nil_append]
      refine wa_goto (tgt := 40) dX7_argument_36 rfl ?_
      exact wa_iret dX7_argument_40 rfl rfl hF
  · replace hF := hF.2 hc
    refine wa_aload_n dX7_argument_11 1 rfl rfl ?_
    refine wa_getr (r := ro0_3) dX7_argument_12 fkX7_24 rfl hLo0 hpro0_3 ?_
    refine wa_aload_n dX7_argument_15 1 rfl rfl ?_
    refine wa_getr (r := ro0_2) dX7_argument_16 fkX7_19 rfl hLo0 hpro0_2 ?_
    refine wa_iload_n dX7_argument_19 2 rfl rfl ?_
    obtain ⟨hi9, hF⟩ := hF
    refine wb_iald (j := x1.toNatClampNeg) (v := M1 ro0_2 x1.toNatClampNeg) dX7_argument_20 hLro0_2 hi9 rfl rfl ?_
    obtain ⟨hi9, hF⟩ := hF
    refine wb_iald (j := (M1 ro0_2 x1.toNatClampNeg).toNatClampNeg) (v := M1 ro0_3 ((M1 ro0_2 x1.toNatClampNeg).toNatClampNeg)) dX7_argument_21 hLro0_3 hi9 rfl rfl ?_
    exact wa_iret dX7_argument_22 rfl rfl hF

theorem eX7_argument {X : a_X} {ad : Nat → Nat} {ca : Nat → ClassId} {d : Nat} {Post : Option Value → a_M → a_P → Prop} {x : Nat} {M : a_M} (o0 : Nat) (x1 : Int32) (o2 : Nat) (h : WA X ad ca LY RX7 cX7_argument 4 (some FieldType.int) d 0 0 (a_E X ad ca LY Post) 0 [(0, .ref o0), (1, .int x1), (2, .ref o2)] [] M (PT x)) : Mt X ad ca LY d yX7_argument cX7_argument 4 (some FieldType.int) [.ref o0, .int x1, .ref o2] M (PT x) Post := Mt.of (lv := [(0, .ref o0), (1, .int x1), (2, .ref o2)]) (by decide +kernel) rfl rfl rfl (wa_pick [0, 1, 2] rfl h)

theorem bX7_worth_0 {X : a_X} {ad : Nat → Nat} {ca : Nat → ClassId} {d : Nat} {Post : Option Value → a_M → a_P → Prop} {x : Nat} {M : a_M} (o0 : Nat) (x1 : Int32) (x2 : Int32) (o3 : Nat) (ro0_4 : Nat) (nro0_4 : Nat) (hLo0 : LY[o0]? = some (7, 7)) (hLo3 : LY[o3]? = some (6, 5)) (hLro0_4 : LY[ro0_4]? = some (100, nro0_4)) (hpro0_4 : PT x o0 4 = ro0_4 + 1) (hF : (∃ Q1 : Int32 → a_M → Prop, Mt X ad ca LY d yX7_hasWeight cX7_hasWeight 2 (some FieldType.boolean) [.ref o0, .int x1] M (PT x) (q_i (PT x) Q1) ∧ ∀ v1 M1, Q1 v1 M1 → ((v1 = 0 → ((¬ x1 = 0 → ((¬ x1 = 1 → (∃ Q2 : Int32 → a_M → Prop, Mt X ad ca LY d yX11_left cX11_left 3 (some FieldType.int) [.int (M1 o3 3), .int (M1 o3 2)] M1 (PT x) (q_i (PT x) Q2) ∧ ∀ v2 M2, Q2 v2 M2 → Post (some (.int v2)) M2 (PT x))) ∧ (x1 = 1 → (∃ Q3 : Int32 → a_M → Prop, Mt X ad ca LY d yX11_left cX11_left 3 (some FieldType.int) [.int x2, .int (M1 o3 2)] M1 (PT x) (q_i (PT x) Q3) ∧ ∀ v3 M3, Q3 v3 M3 → Post (some (.int v3)) M3 (PT x))))) ∧ (x1 = 0 → (∃ Q4 : Int32 → a_M → Prop, Mt X ad ca LY d yX11_left cX11_left 3 (some FieldType.int) [.int (x2 + (M1 o3 3)), .int (M1 o3 2)] M1 (PT x) (q_i (PT x) Q4) ∧ ∀ v4 M4, Q4 v4 M4 → Post (some (.int v4)) M4 (PT x))))) ∧ (¬ v1 = 0 → (vp_in x1 nro0_4 ∧ (∃ Q5 : Int32 → a_M → Prop, Mt X ad ca LY d yX7_reckoned cX7_reckoned 7 (some FieldType.int) [.ref o0, .int (M1 ro0_4 x1.toNatClampNeg), .int x2, .ref o3] M1 (PT x) (q_i (PT x) Q5) ∧ ∀ v5 M5, Q5 v5 M5 → Post (some (.int v5)) M5 (PT x))))))) : WA X ad ca LY RX7 cX7_worth 4 (some FieldType.int) (d + 1) 0 0 (a_E X ad ca LY Post) 0 [(0, .ref o0), (1, .int x1), (2, .int x2), (3, .ref o3)] [] M (PT x) := by
  refine wa_aload_n dX7_worth_0 0 rfl rfl ?_
  refine wa_iload_n dX7_worth_1 1 rfl rfl ?_
  obtain ⟨Q1, hM9, hF⟩ := hF
  refine wa_callV [.int x1] dX7_worth_2 (mmX7_hasWeight _ _) mlX7_44 mnX7_hasWeight mseX7_hasWeight hLo0 rfl rfl rfl (a_dlt d) rfl rfl hM9 ?_
  rintro r9 M1 P9 ⟨v1, rfl, rfl, hq9⟩
  replace hF := hF v1 M1 hq9
  simp only [Option.toList, List.cons_append, List.nil_append]
  refine wa_if_eq (tgt := 21) dX7_worth_5 rfl (fun hc => ?_) (fun hc => ?_)
  · replace hF := hF.1 hc
    refine wa_iload_n dX7_worth_21 1 rfl rfl ?_
    refine wa_if_ne (tgt := 34) dX7_worth_22 rfl (fun hc => ?_) (fun hc => ?_)
    · replace hF := hF.1 hc
      refine wa_iload_n dX7_worth_34 1 rfl rfl ?_
      refine wa_iconst (v := 1) dX7_worth_35 rfl ?_
      refine wa_icmp_ne (tgt := 43) dX7_worth_36 rfl (fun hc => ?_) (fun hc => ?_)
      · replace hF := hF.1 hc
        refine wa_aload_n dX7_worth_43 3 rfl rfl ?_
        refine wb_geti (v := M1 o3 3) dX7_worth_44 fkX7_48 rfl hLo3 rfl ?_
        refine wa_aload_n dX7_worth_47 3 rfl rfl ?_
        refine wb_geti (v := M1 o3 2) dX7_worth_48 fkX7_53 rfl hLo3 rfl ?_
        obtain ⟨Q2, hM9, hF⟩ := hF
        refine wa_callSN [.int (M1 o3 3), .int (M1 o3 2)] dX7_worth_51 (mmX11_left _ _) mkX7_56 mstX11_left rfl (a_dlt d) rfl rfl hM9 ?_
        rintro r9 M2 P9 ⟨v2, rfl, rfl, hq9⟩
        replace hF := hF v2 M2 hq9
        simp only [Option.toList, List.cons_append, List.nil_append]
        exact wa_iret dX7_worth_54 rfl rfl hF
      · replace hF := hF.2 hc
        refine wa_iload_n dX7_worth_39 2 rfl rfl ?_
        refine wa_goto (tgt := 47) dX7_worth_40 rfl ?_
        refine wa_aload_n dX7_worth_47 3 rfl rfl ?_
        refine wb_geti (v := M1 o3 2) dX7_worth_48 fkX7_53 rfl hLo3 rfl ?_
        obtain ⟨Q3, hM9, hF⟩ := hF
        refine wa_callSN [.int x2, .int (M1 o3 2)] dX7_worth_51 (mmX11_left _ _) mkX7_56 mstX11_left rfl (a_dlt d) rfl rfl hM9 ?_
        rintro r9 M3 P9 ⟨v3, rfl, rfl, hq9⟩
        replace hF := hF v3 M3 hq9
        simp only [Option.toList, List.cons_append, List.nil_append]
        exact wa_iret dX7_worth_54 rfl rfl hF
    · replace hF := hF.2 hc
      refine wa_iload_n dX7_worth_25 2 rfl rfl ?_
      refine wa_aload_n dX7_worth_26 3 rfl rfl ?_
      refine wb_geti (v := M1 o3 3) dX7_worth_27 fkX7_48 rfl hLo3 rfl ?_
      refine wa_iadd dX7_worth_30 ?_
      refine wa_goto (tgt := 47) dX7_worth_31 rfl ?_
      refine wa_aload_n dX7_worth_47 3 rfl rfl ?_
      refine wb_geti (v := M1 o3 2) dX7_worth_48 fkX7_53 rfl hLo3 rfl ?_
      obtain ⟨Q4, hM9, hF⟩ := hF
      refine wa_callSN [.int (x2 + (M1 o3 3)), .int (M1 o3 2)] dX7_worth_51 (mmX11_left _ _) mkX7_56 mstX11_left rfl (a_dlt d) rfl rfl hM9 ?_
      rintro r9 M4 P9 ⟨v4, rfl, rfl, hq9⟩
      replace hF := hF v4 M4 hq9
      simp only [Option.toList, List.cons_append, List.nil_append]
      exact wa_iret dX7_worth_54 rfl rfl hF
  · replace hF := hF.2 hc
    refine wa_aload_n dX7_worth_8 0 rfl rfl ?_
    refine wa_aload_n dX7_worth_9 0 rfl rfl ?_
    refine wa_getr (r := ro0_4) dX7_worth_10 fkX7_27 rfl hLo0 hpro0_4 ?_
    refine wa_iload_n dX7_worth_13 1 rfl rfl ?_
    obtain ⟨hi9, hF⟩ := hF
    refine wb_iald (j := x1.toNatClampNeg) (v := M1 ro0_4 x1.toNatClampNeg) dX7_worth_14 hLro0_4 hi9 rfl rfl ?_
    refine wa_iload_n dX7_worth_15 2 rfl rfl ?_
    refine wa_aload_n dX7_worth_16 3 rfl rfl ?_
    obtain ⟨Q5, hM9, hF⟩ := hF
    refine wa_callV [.int (M1 ro0_4 x1.toNatClampNeg), .int x2, .ref o3] dX7_worth_17 (mmX7_reckoned _ _) mlX7_40 mnX7_reckoned mseX7_reckoned hLo0 rfl rfl rfl (a_dlt d) rfl rfl hM9 ?_
    rintro r9 M5 P9 ⟨v5, rfl, rfl, hq9⟩
    replace hF := hF v5 M5 hq9
    simp only [Option.toList, List.cons_append, List.nil_append]
    exact wa_iret dX7_worth_20 rfl rfl hF

theorem eX7_worth {X : a_X} {ad : Nat → Nat} {ca : Nat → ClassId} {d : Nat} {Post : Option Value → a_M → a_P → Prop} {x : Nat} {M : a_M} (o0 : Nat) (x1 : Int32) (x2 : Int32) (o3 : Nat) (h : WA X ad ca LY RX7 cX7_worth 4 (some FieldType.int) d 0 0 (a_E X ad ca LY Post) 0 [(0, .ref o0), (1, .int x1), (2, .int x2), (3, .ref o3)] [] M (PT x)) : Mt X ad ca LY d yX7_worth cX7_worth 4 (some FieldType.int) [.ref o0, .int x1, .int x2, .ref o3] M (PT x) Post := Mt.of (lv := [(0, .ref o0), (1, .int x1), (2, .int x2), (3, .ref o3)]) (by decide +kernel) rfl rfl rfl (wa_pick [0, 1, 2, 3] rfl h)

theorem bX7_reckoned_0 {X : a_X} {ad : Nat → Nat} {ca : Nat → ClassId} {d : Nat} {kc ks : Nat} {QF : List Frame → Array Value → State → State → Prop} {x : Nat} {M : a_M} (o0 : Nat) (x1 : Int32) (x2 : Int32) (o3 : Nat) (ro0_2 : Nat) (nro0_2 : Nat) (hLo0 : LY[o0]? = some (7, 7)) (hLo3 : LY[o3]? = some (6, 5)) (hLro0_2 : LY[ro0_2]? = some (100, nro0_2)) (hpro0_2 : PT x o0 2 = ro0_2 + 1) (hF : (vp_in x1 nro0_2 ∧ WA X ad ca LY RX7 cX7_reckoned 7 (some FieldType.int) (d + 1) kc ks QF 11 [(0, .ref o0), (1, .int x1), (2, .int x2), (3, .ref o3), (4, .int 0), (5, .int (M ro0_2 x1.toNatClampNeg))] [] M (PT x))) : WA X ad ca LY RX7 cX7_reckoned 7 (some FieldType.int) (d + 1) kc ks QF 0 [(0, .ref o0), (1, .int x1), (2, .int x2), (3, .ref o3)] [] M (PT x) := by
  refine wa_iconst (v := 0) dX7_reckoned_0 rfl ?_
  refine wa_istore (lv' := [(4, .int 0), (0, .ref o0), (1, .int x1), (2, .int x2), (3, .ref o3)]) dX7_reckoned_1 rfl rfl ?_
  refine wa_aload_n dX7_reckoned_3 1 rfl rfl ?_
  refine wa_getr (r := ro0_2) dX7_reckoned_4 fkX7_19 rfl hLo0 hpro0_2 ?_
  refine wa_iload_n dX7_reckoned_7 2 rfl rfl ?_
  obtain ⟨hi9, hF⟩ := hF
  refine wb_iald (j := x1.toNatClampNeg) (v := M ro0_2 x1.toNatClampNeg) dX7_reckoned_8 hLro0_2 hi9 rfl rfl ?_
  refine wa_istore (lv' := [(5, .int (M ro0_2 x1.toNatClampNeg)), (4, .int 0), (0, .ref o0), (1, .int x1), (2, .int x2), (3, .ref o3)]) dX7_reckoned_9 rfl rfl ?_
  exact wa_pick [2, 3, 4, 5, 1, 0] rfl hF

theorem bX7_reckoned_11 {X : a_X} {ad : Nat → Nat} {ca : Nat → ClassId} {d : Nat} {Post : Option Value → a_M → a_P → Prop} {x : Nat} {M : a_M} (o0 : Nat) (x1 : Int32) (x2 : Int32) (o3 : Nat) (x4 : Int32) (x5 : Int32) (ro0_2 : Nat) (nro0_2 : Nat) (ro0_5 : Nat) (nro0_5 : Nat) (ro0_3 : Nat) (nro0_3 : Nat) (hLo0 : LY[o0]? = some (7, 7)) (hLo3 : LY[o3]? = some (6, 5)) (hLro0_2 : LY[ro0_2]? = some (100, nro0_2)) (hpro0_2 : PT x o0 2 = ro0_2 + 1) (hLro0_5 : LY[ro0_5]? = some (100, nro0_5)) (hpro0_5 : PT x o0 5 = ro0_5 + 1) (hLro0_3 : LY[ro0_3]? = some (100, nro0_3)) (hpro0_3 : PT x o0 3 = ro0_3 + 1) (hF : (vp_in (x1 + 1) nro0_2 ∧ (((M ro0_2 ((x1 + 1).toNatClampNeg)) ≤ x5 → ((x4 ≤ 0 → Post (some (.int 0)) M (PT x)) ∧ (¬ x4 ≤ 0 → (vp_in (x4 - 1) nro0_5 ∧ Post (some (.int (M ro0_5 ((x4 - 1).toNatClampNeg)))) M (PT x))))) ∧ (¬ (M ro0_2 ((x1 + 1).toNatClampNeg)) ≤ x5 → (vp_in x5 nro0_3 ∧ (((M ro0_3 x5.toNatClampNeg) < (-3) → ((¬ (M ro0_3 x5.toNatClampNeg) = (-4) → ((x4 ≤ 1 → WA X ad ca LY RX7 cX7_reckoned 7 (some FieldType.int) (d + 1) 0 0 (a_E X ad ca LY Post) 171 [(0, .ref o0), (1, .int x1), (2, .int x2), (3, .ref o3), (4, .int x4), (5, .int x5)] [] M (PT x)) ∧ (¬ x4 ≤ 1 → (vp_in ((x4 + (-1)) - 1) nro0_5 ∧ (vp_in (x4 + (-1)) nro0_5 ∧ (∃ Q1 : Int32 → a_M → Prop, Mt X ad ca LY d yX7_joined cX7_joined 4 (some FieldType.int) [.int (M ro0_3 x5.toNatClampNeg), .int (M ro0_5 (((x4 + (-1)) - 1).toNatClampNeg)), .int (M ro0_5 ((x4 + (-1)).toNatClampNeg)), .int (M o3 2)] M (PT x) (q_i (PT x) Q1) ∧ ∀ v1 M1, Q1 v1 M1 → (vp_in ((x4 + (-1)) - 1) nro0_5 ∧ WA X ad ca LY RX7 cX7_reckoned 7 (some FieldType.int) (d + 1) 0 0 (a_E X ad ca LY Post) 171 [(0, .ref o0), (1, .int x1), (2, .int x2), (3, .ref o3), (4, .int (x4 + (-1))), (5, .int x5)] [] (ms M1 ro0_5 (((x4 + (-1)) - 1).toNatClampNeg) v1) (PT x)))))))) ∧ ((M ro0_3 x5.toNatClampNeg) = (-4) → ((x4 ≤ 0 → WA X ad ca LY RX7 cX7_reckoned 7 (some FieldType.int) (d + 1) 0 0 (a_E X ad ca LY Post) 171 [(0, .ref o0), (1, .int x1), (2, .int x2), (3, .ref o3), (4, .int x4), (5, .int x5)] [] M (PT x)) ∧ (¬ x4 ≤ 0 → (vp_in (x4 - 1) nro0_5 ∧ (∃ Q2 : Int32 → a_M → Prop, Mt X ad ca LY d yX11_left cX11_left 3 (some FieldType.int) [.int (-(M ro0_5 ((x4 - 1).toNatClampNeg))), .int (M o3 2)] M (PT x) (q_i (PT x) Q2) ∧ ∀ v2 M2, Q2 v2 M2 → (vp_in (x4 - 1) nro0_5 ∧ WA X ad ca LY RX7 cX7_reckoned 7 (some FieldType.int) (d + 1) 0 0 (a_E X ad ca LY Post) 171 [(0, .ref o0), (1, .int x1), (2, .int x2), (3, .ref o3), (4, .int x4), (5, .int x5)] [] (ms M2 ro0_5 ((x4 - 1).toNatClampNeg) v2) (PT x))))))))) ∧ (¬ (M ro0_3 x5.toNatClampNeg) < (-3) → (((nI nro0_5) ≤ x4 → WA X ad ca LY RX7 cX7_reckoned 7 (some FieldType.int) (d + 1) 0 0 (a_E X ad ca LY Post) 171 [(0, .ref o0), (1, .int x1), (2, .int x2), (3, .ref o3), (4, .int x4), (5, .int x5)] [] M (PT x)) ∧ (¬ (nI nro0_5) ≤ x4 → (((M ro0_3 x5.toNatClampNeg) < 0 → (∃ Q3 : Int32 → a_M → Prop, Mt X ad ca LY d yX7_named cX7_named 3 (some FieldType.int) [.int (M ro0_3 x5.toNatClampNeg), .int x2, .ref o3] M (PT x) (q_i (PT x) Q3) ∧ ∀ v3 M3, Q3 v3 M3 → (∃ Q4 : Int32 → a_M → Prop, Mt X ad ca LY d yX11_left cX11_left 3 (some FieldType.int) [.int v3, .int (M3 o3 2)] M3 (PT x) (q_i (PT x) Q4) ∧ ∀ v4 M4, Q4 v4 M4 → (vp_in x4 nro0_5 ∧ WA X ad ca LY RX7 cX7_reckoned 7 (some FieldType.int) (d + 1) 0 0 (a_E X ad ca LY Post) 171 [(0, .ref o0), (1, .int x1), (2, .int x2), (3, .ref o3), (4, .int (x4 + 1)), (5, .int x5)] [] (ms M4 ro0_5 x4.toNatClampNeg v4) (PT x))))) ∧ (¬ (M ro0_3 x5.toNatClampNeg) < 0 → (∃ Q5 : Int32 → a_M → Prop, Mt X ad ca LY d yX11_left cX11_left 3 (some FieldType.int) [.int (M ro0_3 x5.toNatClampNeg), .int (M o3 2)] M (PT x) (q_i (PT x) Q5) ∧ ∀ v5 M5, Q5 v5 M5 → (vp_in x4 nro0_5 ∧ WA X ad ca LY RX7 cX7_reckoned 7 (some FieldType.int) (d + 1) 0 0 (a_E X ad ca LY Post) 171 [(0, .ref o0), (1, .int x1), (2, .int x2), (3, .ref o3), (4, .int (x4 + 1)), (5, .int x5)] [] (ms M5 ro0_5 x4.toNatClampNeg v5) (PT x)))))))))))))) : WA X ad ca LY RX7 cX7_reckoned 7 (some FieldType.int) (d + 1) 0 0 (a_E X ad ca LY Post) 11 [(0, .ref o0), (1, .int x1), (2, .int x2), (3, .ref o3), (4, .int x4), (5, .int x5)] [] M (PT x) := by
  refine wa_iload dX7_reckoned_11 5 rfl ?_
  refine wa_aload_n dX7_reckoned_13 0 rfl rfl ?_
  refine wa_getr (r := ro0_2) dX7_reckoned_14 fkX7_19 rfl hLo0 hpro0_2 ?_
  refine wa_iload_n dX7_reckoned_17 1 rfl rfl ?_
  refine wa_iconst (v := 1) dX7_reckoned_18 rfl ?_
  refine wa_iadd dX7_reckoned_19 ?_
  obtain ⟨hi9, hF⟩ := hF
  refine wb_iald (j := (x1 + 1).toNatClampNeg) (v := M ro0_2 ((x1 + 1).toNatClampNeg)) dX7_reckoned_20 hLro0_2 hi9 rfl rfl ?_
  refine wa_icmp_ge (tgt := 177) dX7_reckoned_21 rfl (fun hc => ?_) (fun hc => ?_)
  · replace hF := hF.1 hc
    refine wa_iload dX7_reckoned_177 4 rfl ?_
    refine wa_if_le (tgt := 194) dX7_reckoned_179 rfl (fun hc => ?_) (fun hc => ?_)
    · replace hF := hF.1 hc
      refine wa_iconst (v := 0) dX7_reckoned_194 rfl ?_
      exact wa_iret dX7_reckoned_195 rfl rfl hF
    · replace hF := hF.2 hc
      refine wa_aload_n dX7_reckoned_182 0 rfl rfl ?_
      refine wa_getr (r := ro0_5) dX7_reckoned_183 fkX7_30 rfl hLo0 hpro0_5 ?_
      refine wa_iload dX7_reckoned_186 4 rfl ?_
      refine wa_iconst (v := 1) dX7_reckoned_188 rfl ?_
      refine wa_isub dX7_reckoned_189 ?_
      obtain ⟨hi9, hF⟩ := hF
      refine wb_iald (j := (x4 - 1).toNatClampNeg) (v := M ro0_5 ((x4 - 1).toNatClampNeg)) dX7_reckoned_190 hLro0_5 hi9 rfl rfl ?_
      refine wa_goto (tgt := 195) dX7_reckoned_191 rfl ?_
      exact wa_iret dX7_reckoned_195 rfl rfl hF
  · replace hF := hF.2 hc
    refine wa_aload_n dX7_reckoned_24 0 rfl rfl ?_
    refine wa_getr (r := ro0_3) dX7_reckoned_25 fkX7_24 rfl hLo0 hpro0_3 ?_
    refine wa_iload dX7_reckoned_28 5 rfl ?_
    obtain ⟨hi9, hF⟩ := hF
    refine wb_iald (j := x5.toNatClampNeg) (v := M ro0_3 x5.toNatClampNeg) dX7_reckoned_30 hLro0_3 hi9 rfl rfl ?_
    refine wa_istore (lv' := [(6, .int (M ro0_3 x5.toNatClampNeg)), (0, .ref o0), (1, .int x1), (2, .int x2), (3, .ref o3), (4, .int x4), (5, .int x5)]) dX7_reckoned_31 rfl rfl ?_
    refine wa_iload dX7_reckoned_33 0 rfl ?_
    refine wa_bipush (v := (-3)) dX7_reckoned_35 rfl ?_
    refine wa_icmp_lt (tgt := 87) dX7_reckoned_37 rfl (fun hc => ?_) (fun hc => ?_)
    · replace hF := hF.1 hc
      refine wa_iload dX7_reckoned_87 0 rfl ?_
      refine wa_bipush (v := (-4)) dX7_reckoned_89 rfl ?_
      refine wa_icmp_ne (tgt := 128) dX7_reckoned_91 rfl (fun hc => ?_) (fun hc => ?_)
      · replace hF := hF.1 hc
        refine wa_iload dX7_reckoned_128 5 rfl ?_
        refine wa_iconst (v := 1) dX7_reckoned_130 rfl ?_
        refine wa_icmp_le (tgt := 171) dX7_reckoned_131 rfl (fun hc => ?_) (fun hc => ?_)
        · replace hF := hF.1 hc
          exact wa_pick [1, 2, 3, 4, 5, 6] rfl hF
        · replace hF := hF.2 hc
          refine wa_iinc (v := x4 + (-1)) (lv' := [(4, .int (x4 + (-1))), (6, .int (M ro0_3 x5.toNatClampNeg)), (0, .ref o0), (1, .int x1), (2, .int x2), (3, .ref o3), (5, .int x5)]) dX7_reckoned_134 5 rfl rfl rfl rfl ?_
          refine wa_aload_n dX7_reckoned_137 2 rfl rfl ?_
          refine wa_getr (r := ro0_5) dX7_reckoned_138 fkX7_30 rfl hLo0 hpro0_5 ?_
          refine wa_iload dX7_reckoned_141 0 rfl ?_
          refine wa_iconst (v := 1) dX7_reckoned_143 rfl ?_
          refine wa_isub dX7_reckoned_144 ?_
          refine wa_iload dX7_reckoned_145 1 rfl ?_
          refine wa_aload_n dX7_reckoned_147 2 rfl rfl ?_
          refine wa_getr (r := ro0_5) dX7_reckoned_148 fkX7_30 rfl hLo0 hpro0_5 ?_
          refine wa_iload dX7_reckoned_151 0 rfl ?_
          refine wa_iconst (v := 1) dX7_reckoned_153 rfl ?_
          refine wa_isub dX7_reckoned_154 ?_
          obtain ⟨hi9, hF⟩ := hF
          refine wb_iald (j := ((x4 + (-1)) - 1).toNatClampNeg) (v := M ro0_5 (((x4 + (-1)) - 1).toNatClampNeg)) dX7_reckoned_155 hLro0_5 hi9 rfl rfl ?_
          refine wa_aload_n dX7_reckoned_156 2 rfl rfl ?_
          refine wa_getr (r := ro0_5) dX7_reckoned_157 fkX7_30 rfl hLo0 hpro0_5 ?_
          refine wa_iload dX7_reckoned_160 0 rfl ?_
          obtain ⟨hi9, hF⟩ := hF
          refine wb_iald (j := (x4 + (-1)).toNatClampNeg) (v := M ro0_5 ((x4 + (-1)).toNatClampNeg)) dX7_reckoned_162 hLro0_5 hi9 rfl rfl ?_
          refine wa_aload_n dX7_reckoned_163 5 rfl rfl ?_
          refine wb_geti (v := M o3 2) dX7_reckoned_164 fkX7_53 rfl hLo3 rfl ?_
          obtain ⟨Q1, hM9, hF⟩ := hF
          refine wa_callS [.int (M ro0_3 x5.toNatClampNeg), .int (M ro0_5 (((x4 + (-1)) - 1).toNatClampNeg)), .int (M ro0_5 ((x4 + (-1)).toNatClampNeg)), .int (M o3 2)] dX7_reckoned_167 (mmX7_joined _ _) mlX7_63 mstX7_joined rfl (a_dlt d) rfl rfl hM9 ?_
          rintro r9 M1 P9 ⟨v1, rfl, rfl, hq9⟩
          replace hF := hF v1 M1 hq9
          simp only [Option.toList, List.cons_append, List.nil_append]
          obtain ⟨hi9, hF⟩ := hF
          refine wb_iast (j := ((x4 + (-1)) - 1).toNatClampNeg) dX7_reckoned_170 hLro0_5 hi9 rfl ?_
          exact wa_pick [2, 3, 4, 5, 0, 6] rfl hF
      · replace hF := hF.2 hc
        refine wa_iload dX7_reckoned_94 5 rfl ?_
        refine wa_if_le (tgt := 171) dX7_reckoned_96 rfl (fun hc => ?_) (fun hc => ?_)
        · replace hF := hF.1 hc
          exact wa_pick [1, 2, 3, 4, 5, 6] rfl hF
        · replace hF := hF.2 hc
          refine wa_aload_n dX7_reckoned_99 1 rfl rfl ?_
          refine wa_getr (r := ro0_5) dX7_reckoned_100 fkX7_30 rfl hLo0 hpro0_5 ?_
          refine wa_iload dX7_reckoned_103 5 rfl ?_
          refine wa_iconst (v := 1) dX7_reckoned_105 rfl ?_
          refine wa_isub dX7_reckoned_106 ?_
          refine wa_aload_n dX7_reckoned_107 1 rfl rfl ?_
          refine wa_getr (r := ro0_5) dX7_reckoned_108 fkX7_30 rfl hLo0 hpro0_5 ?_
          refine wa_iload dX7_reckoned_111 5 rfl ?_
          refine wa_iconst (v := 1) dX7_reckoned_113 rfl ?_
          refine wa_isub dX7_reckoned_114 ?_
          obtain ⟨hi9, hF⟩ := hF
          refine wb_iald (j := (x4 - 1).toNatClampNeg) (v := M ro0_5 ((x4 - 1).toNatClampNeg)) dX7_reckoned_115 hLro0_5 hi9 rfl rfl ?_
          refine wa_ineg dX7_reckoned_116 ?_
          refine wa_aload_n dX7_reckoned_117 4 rfl rfl ?_
          refine wb_geti (v := M o3 2) dX7_reckoned_118 fkX7_53 rfl hLo3 rfl ?_
          obtain ⟨Q2, hM9, hF⟩ := hF
          refine wa_callSN [.int (-(M ro0_5 ((x4 - 1).toNatClampNeg))), .int (M o3 2)] dX7_reckoned_121 (mmX11_left _ _) mkX7_56 mstX11_left rfl (a_dlt d) rfl rfl hM9 ?_
          rintro r9 M2 P9 ⟨v2, rfl, rfl, hq9⟩
          replace hF := hF v2 M2 hq9
          simp only [Option.toList, List.cons_append, List.nil_append]
          obtain ⟨hi9, hF⟩ := hF
          refine wb_iast (j := (x4 - 1).toNatClampNeg) dX7_reckoned_124 hLro0_5 hi9 rfl ?_
          refine wa_goto (tgt := 171) dX7_reckoned_125 rfl ?_
          exact wa_pick [1, 2, 3, 4, 5, 6] rfl hF
    · replace hF := hF.2 hc
      refine wa_iload dX7_reckoned_40 5 rfl ?_
      refine wa_aload_n dX7_reckoned_42 1 rfl rfl ?_
      refine wa_getr (r := ro0_5) dX7_reckoned_43 fkX7_30 rfl hLo0 hpro0_5 ?_
      refine wa_alen (v := nI nro0_5) dX7_reckoned_46 hLro0_5 (by decide) rfl ?_
      refine wa_icmp_ge (tgt := 171) dX7_reckoned_47 rfl (fun hc => ?_) (fun hc => ?_)
      · replace hF := hF.1 hc
        exact wa_pick [1, 2, 3, 4, 5, 6] rfl hF
      · replace hF := hF.2 hc
        refine wa_aload_n dX7_reckoned_50 1 rfl rfl ?_
        refine wa_getr (r := ro0_5) dX7_reckoned_51 fkX7_30 rfl hLo0 hpro0_5 ?_
        refine wa_iload dX7_reckoned_54 5 rfl ?_
        refine wa_iload dX7_reckoned_56 0 rfl ?_
        refine wa_if_lt (tgt := 66) dX7_reckoned_58 rfl (fun hc => ?_) (fun hc => ?_)
        · replace hF := hF.1 hc
          refine wa_iload dX7_reckoned_66 0 rfl ?_
          refine wa_iload_n dX7_reckoned_68 3 rfl rfl ?_
          refine wa_aload_n dX7_reckoned_69 4 rfl rfl ?_
          obtain ⟨Q3, hM9, hF⟩ := hF
          refine wa_callS [.int (M ro0_3 x5.toNatClampNeg), .int x2, .ref o3] dX7_reckoned_70 (mmX7_named _ _) mlX7_60 mstX7_named rfl (a_dlt d) rfl rfl hM9 ?_
          rintro r9 M3 P9 ⟨v3, rfl, rfl, hq9⟩
          replace hF := hF v3 M3 hq9
          simp only [Option.toList, List.cons_append, List.nil_append]
          refine wa_aload_n dX7_reckoned_73 4 rfl rfl ?_
          refine wb_geti (v := M3 o3 2) dX7_reckoned_74 fkX7_53 rfl hLo3 rfl ?_
          obtain ⟨Q4, hM9, hF⟩ := hF
          refine wa_callSN [.int v3, .int (M3 o3 2)] dX7_reckoned_77 (mmX11_left _ _) mkX7_56 mstX11_left rfl (a_dlt d) rfl rfl hM9 ?_
          rintro r9 M4 P9 ⟨v4, rfl, rfl, hq9⟩
          replace hF := hF v4 M4 hq9
          simp only [Option.toList, List.cons_append, List.nil_append]
          obtain ⟨hi9, hF⟩ := hF
          refine wb_iast (j := x4.toNatClampNeg) dX7_reckoned_80 hLro0_5 hi9 rfl ?_
          refine wa_iinc (v := x4 + 1) (lv' := [(4, .int (x4 + 1)), (6, .int (M ro0_3 x5.toNatClampNeg)), (0, .ref o0), (1, .int x1), (2, .int x2), (3, .ref o3), (5, .int x5)]) dX7_reckoned_81 5 rfl rfl rfl rfl ?_
          refine wa_goto (tgt := 171) dX7_reckoned_84 rfl ?_
          exact wa_pick [2, 3, 4, 5, 0, 6] rfl hF
        · replace hF := hF.2 hc
          refine wa_iload dX7_reckoned_61 0 rfl ?_
          refine wa_goto (tgt := 73) dX7_reckoned_63 rfl ?_
          refine wa_aload_n dX7_reckoned_73 4 rfl rfl ?_
          refine wb_geti (v := M o3 2) dX7_reckoned_74 fkX7_53 rfl hLo3 rfl ?_
          obtain ⟨Q5, hM9, hF⟩ := hF
          refine wa_callSN [.int (M ro0_3 x5.toNatClampNeg), .int (M o3 2)] dX7_reckoned_77 (mmX11_left _ _) mkX7_56 mstX11_left rfl (a_dlt d) rfl rfl hM9 ?_
          rintro r9 M5 P9 ⟨v5, rfl, rfl, hq9⟩
          replace hF := hF v5 M5 hq9
          simp only [Option.toList, List.cons_append, List.nil_append]
          obtain ⟨hi9, hF⟩ := hF
          refine wb_iast (j := x4.toNatClampNeg) dX7_reckoned_80 hLro0_5 hi9 rfl ?_
          refine wa_iinc (v := x4 + 1) (lv' := [(4, .int (x4 + 1)), (6, .int (M ro0_3 x5.toNatClampNeg)), (0, .ref o0), (1, .int x1), (2, .int x2), (3, .ref o3), (5, .int x5)]) dX7_reckoned_81 5 rfl rfl rfl rfl ?_
          refine wa_goto (tgt := 171) dX7_reckoned_84 rfl ?_
          exact wa_pick [2, 3, 4, 5, 0, 6] rfl hF

theorem bX7_reckoned_171 {X : a_X} {ad : Nat → Nat} {ca : Nat → ClassId} {d : Nat} {kc ks : Nat} {QF : List Frame → Array Value → State → State → Prop} {x : Nat} {M : a_M} (o0 : Nat) (x1 : Int32) (x2 : Int32) (o3 : Nat) (x4 : Int32) (x5 : Int32) (hLo0 : LY[o0]? = some (7, 7)) (hLo3 : LY[o3]? = some (6, 5)) (hF : WA X ad ca LY RX7 cX7_reckoned 7 (some FieldType.int) (d + 1) kc ks QF 11 [(0, .ref o0), (1, .int x1), (2, .int x2), (3, .ref o3), (4, .int x4), (5, .int (x5 + 1))] [] M (PT x)) : WA X ad ca LY RX7 cX7_reckoned 7 (some FieldType.int) (d + 1) kc ks QF 171 [(0, .ref o0), (1, .int x1), (2, .int x2), (3, .ref o3), (4, .int x4), (5, .int x5)] [] M (PT x) := by
  refine wa_iinc (v := x5 + 1) (lv' := [(5, .int (x5 + 1)), (0, .ref o0), (1, .int x1), (2, .int x2), (3, .ref o3), (4, .int x4)]) dX7_reckoned_171 5 rfl rfl rfl rfl ?_
  refine wa_goto (tgt := 11) dX7_reckoned_174 rfl ?_
  exact wa_pick [1, 2, 3, 4, 5, 0] rfl hF

theorem eX7_reckoned {X : a_X} {ad : Nat → Nat} {ca : Nat → ClassId} {d : Nat} {Post : Option Value → a_M → a_P → Prop} {x : Nat} {M : a_M} (o0 : Nat) (x1 : Int32) (x2 : Int32) (o3 : Nat) (h : WA X ad ca LY RX7 cX7_reckoned 7 (some FieldType.int) d 0 0 (a_E X ad ca LY Post) 0 [(0, .ref o0), (1, .int x1), (2, .int x2), (3, .ref o3)] [] M (PT x)) : Mt X ad ca LY d yX7_reckoned cX7_reckoned 7 (some FieldType.int) [.ref o0, .int x1, .int x2, .ref o3] M (PT x) Post := Mt.of (lv := [(0, .ref o0), (1, .int x1), (2, .int x2), (3, .ref o3)]) (by decide +kernel) rfl rfl rfl (wa_pick [0, 1, 2, 3] rfl h)

theorem bX7_named_0 {X : a_X} {ad : Nat → Nat} {ca : Nat → ClassId} {d : Nat} {Post : Option Value → a_M → a_P → Prop} {x : Nat} {M : a_M} (x0 : Int32) (x1 : Int32) (o2 : Nat) (hLo2 : LY[o2]? = some (6, 5)) (hF : ((¬ x0 = (-1) → ((¬ x0 = (-2) → Post (some (.int (M o2 4))) M (PT x)) ∧ (x0 = (-2) → Post (some (.int (M o2 3))) M (PT x)))) ∧ (x0 = (-1) → Post (some (.int x1)) M (PT x)))) : WA X ad ca LY RX7 cX7_named 3 (some FieldType.int) (d + 1) 0 0 (a_E X ad ca LY Post) 0 [(0, .int x0), (1, .int x1), (2, .ref o2)] [] M (PT x) := by
  refine wa_iload_n dX7_named_0 0 rfl rfl ?_
  refine wa_iconst (v := (-1)) dX7_named_1 rfl ?_
  refine wa_icmp_ne (tgt := 9) dX7_named_2 rfl (fun hc => ?_) (fun hc => ?_)
  · replace hF := hF.1 hc
    refine wa_iload_n dX7_named_9 0 rfl rfl ?_
    refine wa_bipush (v := (-2)) dX7_named_10 rfl ?_
    refine wa_icmp_ne (tgt := 22) dX7_named_12 rfl (fun hc => ?_) (fun hc => ?_)
    · replace hF := hF.1 hc
      refine wa_aload_n dX7_named_22 2 rfl rfl ?_
      refine wb_geti (v := M o2 4) dX7_named_23 fkX7_67 rfl hLo2 rfl ?_
      exact wa_iret dX7_named_26 rfl rfl hF
    · replace hF := hF.2 hc
      refine wa_aload_n dX7_named_15 2 rfl rfl ?_
      refine wb_geti (v := M o2 3) dX7_named_16 fkX7_48 rfl hLo2 rfl ?_
      refine wa_goto (tgt := 26) dX7_named_19 rfl ?_
      exact wa_iret dX7_named_26 rfl rfl hF
  · replace hF := hF.2 hc
    refine wa_iload_n dX7_named_5 1 rfl rfl ?_
    refine wa_goto (tgt := 26) dX7_named_6 rfl ?_
    exact wa_iret dX7_named_26 rfl rfl hF

theorem eX7_named {X : a_X} {ad : Nat → Nat} {ca : Nat → ClassId} {d : Nat} {Post : Option Value → a_M → a_P → Prop} {x : Nat} {M : a_M} (x0 : Int32) (x1 : Int32) (o2 : Nat) (h : WA X ad ca LY RX7 cX7_named 3 (some FieldType.int) d 0 0 (a_E X ad ca LY Post) 0 [(0, .int x0), (1, .int x1), (2, .ref o2)] [] M (PT x)) : Mt X ad ca LY d yX7_named cX7_named 3 (some FieldType.int) [.int x0, .int x1, .ref o2] M (PT x) Post := Mt.of (lv := [(0, .int x0), (1, .int x1), (2, .ref o2)]) (by decide +kernel) rfl rfl rfl (wa_pick [0, 1, 2] rfl h)

theorem bX7_joined_0 {X : a_X} {ad : Nat → Nat} {ca : Nat → ClassId} {d : Nat} {Post : Option Value → a_M → a_P → Prop} {x : Nat} {M : a_M} (x0 : Int32) (x1 : Int32) (x2 : Int32) (x3 : Int32)  (hF : ((x0 = (-7) → (∃ Q1 : Int32 → a_M → Prop, Mt X ad ca LY d yX11_left cX11_left 3 (some FieldType.int) [.int (x1 * x2), .int x3] M (PT x) (q_i (PT x) Q1) ∧ ∀ v1 M1, Q1 v1 M1 → Post (some (.int v1)) M1 (PT x))) ∧ (x0 = (-6) → (∃ Q2 : Int32 → a_M → Prop, Mt X ad ca LY d yX11_left cX11_left 3 (some FieldType.int) [.int (x1 - x2), .int x3] M (PT x) (q_i (PT x) Q2) ∧ ∀ v2 M2, Q2 v2 M2 → Post (some (.int v2)) M2 (PT x))) ∧ (x0 = (-5) → (∃ Q3 : Int32 → a_M → Prop, Mt X ad ca LY d yX11_left cX11_left 3 (some FieldType.int) [.int (x1 + x2), .int x3] M (PT x) (q_i (PT x) Q3) ∧ ∀ v3 M3, Q3 v3 M3 → Post (some (.int v3)) M3 (PT x))) ∧ ((x0).toInt < (-7) ∨ (-5) < (x0).toInt → (∃ Q4 : Int32 → a_M → Prop, Mt X ad ca LY d yX11_raised cX11_raised 6 (some FieldType.int) [.int x2, .int (x3 - 2), .int x3] M (PT x) (q_i (PT x) Q4) ∧ ∀ v4 M4, Q4 v4 M4 → (∃ Q5 : Int32 → a_M → Prop, Mt X ad ca LY d yX11_left cX11_left 3 (some FieldType.int) [.int (x1 * v4), .int x3] M4 (PT x) (q_i (PT x) Q5) ∧ ∀ v5 M5, Q5 v5 M5 → Post (some (.int v5)) M5 (PT x)))))) : WA X ad ca LY RX7 cX7_joined 4 (some FieldType.int) (d + 1) 0 0 (a_E X ad ca LY Post) 0 [(0, .int x0), (1, .int x1), (2, .int x2), (3, .int x3)] [] M (PT x) := by
  refine wa_iload_n dX7_joined_0 0 rfl rfl ?_
  by_cases hk0 : x0 = (-7)
  · replace hF := hF.1 hk0
    rw [hk0]
    refine wa_tableIn (off := 43) (tgt := 44) dX7_joined_1 (by decide) (by decide) rfl rfl ?_
    refine wa_iload_n dX7_joined_44 1 rfl rfl ?_
    refine wa_iload_n dX7_joined_45 2 rfl rfl ?_
    refine wa_imul dX7_joined_46 ?_
    refine wa_iload_n dX7_joined_47 3 rfl rfl ?_
    obtain ⟨Q1, hM9, hF⟩ := hF
    refine wa_callSN [.int (x1 * x2), .int x3] dX7_joined_48 (mmX11_left _ _) mkX7_56 mstX11_left rfl (a_dlt d) rfl rfl hM9 ?_
    rintro r9 M1 P9 ⟨v1, rfl, rfl, hq9⟩
    replace hF := hF v1 M1 hq9
    simp only [Option.toList, List.cons_append, List.nil_append]
    exact wa_iret dX7_joined_51 rfl rfl hF
  replace hF := hF.2
  by_cases hk1 : x0 = (-6)
  · replace hF := hF.1 hk1
    rw [hk1]
    refine wa_tableIn (off := 35) (tgt := 36) dX7_joined_1 (by decide) (by decide) rfl rfl ?_
    refine wa_iload_n dX7_joined_36 1 rfl rfl ?_
    refine wa_iload_n dX7_joined_37 2 rfl rfl ?_
    refine wa_isub dX7_joined_38 ?_
    refine wa_iload_n dX7_joined_39 3 rfl rfl ?_
    obtain ⟨Q2, hM9, hF⟩ := hF
    refine wa_callSN [.int (x1 - x2), .int x3] dX7_joined_40 (mmX11_left _ _) mkX7_56 mstX11_left rfl (a_dlt d) rfl rfl hM9 ?_
    rintro r9 M2 P9 ⟨v2, rfl, rfl, hq9⟩
    replace hF := hF v2 M2 hq9
    simp only [Option.toList, List.cons_append, List.nil_append]
    exact wa_iret dX7_joined_43 rfl rfl hF
  replace hF := hF.2
  by_cases hk2 : x0 = (-5)
  · replace hF := hF.1 hk2
    rw [hk2]
    refine wa_tableIn (off := 27) (tgt := 28) dX7_joined_1 (by decide) (by decide) rfl rfl ?_
    refine wa_iload_n dX7_joined_28 1 rfl rfl ?_
    refine wa_iload_n dX7_joined_29 2 rfl rfl ?_
    refine wa_iadd dX7_joined_30 ?_
    refine wa_iload_n dX7_joined_31 3 rfl rfl ?_
    obtain ⟨Q3, hM9, hF⟩ := hF
    refine wa_callSN [.int (x1 + x2), .int x3] dX7_joined_32 (mmX11_left _ _) mkX7_56 mstX11_left rfl (a_dlt d) rfl rfl hM9 ?_
    rintro r9 M3 P9 ⟨v3, rfl, rfl, hq9⟩
    replace hF := hF v3 M3 hq9
    simp only [Option.toList, List.cons_append, List.nil_append]
    exact wa_iret dX7_joined_35 rfl rfl hF
  replace hF := hF.2
  have ht0 : (x0).toInt ≠ (-7) := a_ti hk0
  have ht1 : (x0).toInt ≠ (-6) := a_ti hk1
  have ht2 : (x0).toInt ≠ (-5) := a_ti hk2
  have hd9 : (x0).toInt < (-7) ∨ (-5) < (x0).toInt := by omega
  replace hF := hF hd9
  refine wa_tableOut (tgt := 52) dX7_joined_1 hd9 rfl ?_
  refine wa_iload_n dX7_joined_52 1 rfl rfl ?_
  refine wa_iload_n dX7_joined_53 2 rfl rfl ?_
  refine wa_iload_n dX7_joined_54 3 rfl rfl ?_
  refine wa_iconst (v := 2) dX7_joined_55 rfl ?_
  refine wa_isub dX7_joined_56 ?_
  refine wa_iload_n dX7_joined_57 3 rfl rfl ?_
  obtain ⟨Q4, hM9, hF⟩ := hF
  refine wa_callSN [.int x2, .int (x3 - 2), .int x3] dX7_joined_58 (mmX11_raised _ _) mkX7_70 mstX11_raised rfl (a_dlt d) rfl rfl hM9 ?_
  rintro r9 M4 P9 ⟨v4, rfl, rfl, hq9⟩
  replace hF := hF v4 M4 hq9
  simp only [Option.toList, List.cons_append, List.nil_append]
  refine wa_imul dX7_joined_61 ?_
  refine wa_iload_n dX7_joined_62 3 rfl rfl ?_
  obtain ⟨Q5, hM9, hF⟩ := hF
  refine wa_callSN [.int (x1 * v4), .int x3] dX7_joined_63 (mmX11_left _ _) mkX7_56 mstX11_left rfl (a_dlt d) rfl rfl hM9 ?_
  rintro r9 M5 P9 ⟨v5, rfl, rfl, hq9⟩
  replace hF := hF v5 M5 hq9
  simp only [Option.toList, List.cons_append, List.nil_append]
  exact wa_iret dX7_joined_66 rfl rfl hF

theorem eX7_joined {X : a_X} {ad : Nat → Nat} {ca : Nat → ClassId} {d : Nat} {Post : Option Value → a_M → a_P → Prop} {x : Nat} {M : a_M} (x0 : Int32) (x1 : Int32) (x2 : Int32) (x3 : Int32) (h : WA X ad ca LY RX7 cX7_joined 4 (some FieldType.int) d 0 0 (a_E X ad ca LY Post) 0 [(0, .int x0), (1, .int x1), (2, .int x2), (3, .int x3)] [] M (PT x)) : Mt X ad ca LY d yX7_joined cX7_joined 4 (some FieldType.int) [.int x0, .int x1, .int x2, .int x3] M (PT x) Post := Mt.of (lv := [(0, .int x0), (1, .int x1), (2, .int x2), (3, .int x3)]) (by decide +kernel) rfl rfl rfl (wa_pick [0, 1, 2, 3] rfl h)
