theorem bX3_find_0 {X : a_X} {ad : Nat → Nat} {ca : Nat → ClassId} {d : Nat} {kc ks : Nat} {QF : List Frame → Array Value → State → State → Prop} {x : Nat} {M : a_M} (o1 : Nat) (x2 : Int32) (x3 : Int32) (hLo1 : LY[o1]? = some (6, 5)) (hF : (∃ Q1 : a_M → Prop, Mt X ad ca LY d yX3_countRows cX3_countRows 4 none [.ref 33, .ref o1, .int x2] M (PT x) (q_v (PT x) Q1) ∧ ∀ M1, Q1 M1 → WA X ad ca LY RX3 cX3_find 7 (some FieldType.boolean) (d + 1) kc ks QF 12 [(0, .ref 33), (2, .int x2), (4, .int x3), (5, .int 0)] [] M1 (PT x))) : WA X ad ca LY RX3 cX3_find 7 (some FieldType.boolean) (d + 1) kc ks QF 0 [(0, .ref 33), (1, .ref o1), (2, .int x2), (3, .int x3)] [] M (PT x) := by
  refine wa_aload_n dX3_find_0 0 rfl rfl ?_
  refine wa_aload_n dX3_find_1 1 rfl rfl ?_
  refine wa_iload_n dX3_find_2 2 rfl rfl ?_
  obtain ⟨Q1, hM9, hF⟩ := hF
  refine wa_callV [.ref o1, .int x2] dX3_find_3 (mmX3_countRows _ _) mlX3_41 mnX3_countRows mseX3_countRows rfl rfl rfl rfl (a_dlt d) rfl rfl hM9 ?_
  rintro r9 M1 P9 ⟨rfl, rfl, hq9⟩
  replace hF := hF M1 hq9
  simp only [Option.toList, List.nil_append]
  refine wa_iload_n dX3_find_6 3 rfl rfl ?_
  refine wa_istore (lv' := [(4, .int x3), (0, .ref 33), (1, .ref o1), (2, .int x2), (3, .int x3)]) dX3_find_7 rfl rfl ?_
  refine wa_iconst (v := 0) dX3_find_9 rfl ?_
  refine wa_istore (lv' := [(5, .int 0), (4, .int x3), (0, .ref 33), (1, .ref o1), (2, .int x2), (3, .int x3)]) dX3_find_10 rfl rfl ?_
  exact wa_pick [2, 4, 1, 0] rfl hF

theorem bX3_find_12 {X : a_X} {ad : Nat → Nat} {ca : Nat → ClassId} {d : Nat} {Post : Option Value → a_M → a_P → Prop} {x : Nat} {M : a_M} (x2 : Int32) (x4 : Int32) (x5 : Int32)  (hF : (∃ Q1 : Int32 → a_M → Prop, Mt X ad ca LY d yX3_rowsFor cX3_rowsFor 2 (some FieldType.int) [.ref 33, .int x2] M (PT x) (q_i (PT x) Q1) ∧ ∀ v1 M1, Q1 v1 M1 → ((v1 ≤ x5 → Post (some (.int 0)) M1 (PT x)) ∧ (¬ v1 ≤ x5 → (∃ Q2 : Int32 → a_M → Prop, Mt X ad ca LY d yX3_countAt cX3_countAt 3 (some FieldType.int) [.ref 33, .int x5, .int x2] M1 (PT x) (q_i (PT x) Q2) ∧ ∀ v2 M2, Q2 v2 M2 → ((v2 ≤ x4 → WA X ad ca LY RX3 cX3_find 7 (some FieldType.boolean) (d + 1) 0 0 (a_E X ad ca LY Post) 12 [(0, .ref 33), (2, .int x2), (4, .int (x4 - v2)), (5, .int (x5 + 1))] [] M2 (PT x)) ∧ (¬ v2 ≤ x4 → (∃ Q3 : Int32 → a_M → Prop, Mt X ad ca LY d yX3_pick cX3_pick 6 (some FieldType.boolean) [.ref 33, .int x5, .int x2, .int x4] M2 (PT x) (q_i (PT x) Q3) ∧ ∀ v3 M3, Q3 v3 M3 → ((v3 = 0 ∨ v3 = 1) ∧ Post (some (.int v3)) M3 (PT x)))))))))) : WA X ad ca LY RX3 cX3_find 7 (some FieldType.boolean) (d + 1) 0 0 (a_E X ad ca LY Post) 12 [(0, .ref 33), (2, .int x2), (4, .int x4), (5, .int x5)] [] M (PT x) := by
  refine wa_iload dX3_find_12 3 rfl ?_
  refine wa_aload_n dX3_find_14 0 rfl rfl ?_
  refine wa_iload_n dX3_find_15 1 rfl rfl ?_
  obtain ⟨Q1, hM9, hF⟩ := hF
  refine wa_callV [.int x2] dX3_find_16 (mmX3_rowsFor _ _) mlX3_45 mnX3_rowsFor mseX3_rowsFor rfl rfl rfl rfl (a_dlt d) rfl rfl hM9 ?_
  rintro r9 M1 P9 ⟨v1, rfl, rfl, hq9⟩
  replace hF := hF v1 M1 hq9
  simp only [Option.toList, List.cons_append, List.nil_append]
  refine wa_icmp_ge (tgt := 61) dX3_find_19 rfl (fun hc => ?_) (fun hc => ?_)
  · replace hF := hF.1 hc
    refine wa_iconst (v := 0) dX3_find_61 rfl ?_
    exact wa_iret dX3_find_62 rfl rfl hF
  · replace hF := hF.2 hc
    refine wa_aload_n dX3_find_22 0 rfl rfl ?_
    refine wa_iload dX3_find_23 3 rfl ?_
    refine wa_iload_n dX3_find_25 1 rfl rfl ?_
    obtain ⟨Q2, hM9, hF⟩ := hF
    refine wa_callV [.int x5, .int x2] dX3_find_26 (mmX3_countAt _ _) mlX3_49 mnX3_countAt mseX3_countAt rfl rfl rfl rfl (a_dlt d) rfl rfl hM9 ?_
    rintro r9 M2 P9 ⟨v2, rfl, rfl, hq9⟩
    replace hF := hF v2 M2 hq9
    simp only [Option.toList, List.cons_append, List.nil_append]
    refine wa_istore (lv' := [(6, .int v2), (0, .ref 33), (2, .int x2), (4, .int x4), (5, .int x5)]) dX3_find_29 rfl rfl ?_
    refine wa_iload dX3_find_31 3 rfl ?_
    refine wa_iload dX3_find_33 0 rfl ?_
    refine wa_icmp_ge (tgt := 48) dX3_find_35 rfl (fun hc => ?_) (fun hc => ?_)
    · replace hF := hF.1 hc
      refine wa_iload dX3_find_48 3 rfl ?_
      refine wa_iload dX3_find_50 0 rfl ?_
      refine wa_isub dX3_find_52 ?_
      refine wa_istore (lv' := [(4, .int (x4 - v2)), (6, .int v2), (0, .ref 33), (2, .int x2), (5, .int x5)]) dX3_find_53 rfl rfl ?_
      refine wa_iinc (v := x5 + 1) (lv' := [(5, .int (x5 + 1)), (4, .int (x4 - v2)), (6, .int v2), (0, .ref 33), (2, .int x2)]) dX3_find_55 4 rfl rfl rfl rfl ?_
      refine wa_goto (tgt := 12) dX3_find_58 rfl ?_
      exact wa_pick [3, 4, 1, 0] rfl hF
    · replace hF := hF.2 hc
      refine wa_aload_n dX3_find_38 1 rfl rfl ?_
      refine wa_iload dX3_find_39 4 rfl ?_
      refine wa_iload_n dX3_find_41 2 rfl rfl ?_
      refine wa_iload dX3_find_42 3 rfl ?_
      obtain ⟨Q3, hM9, hF⟩ := hF
      refine wa_callV [.int x5, .int x2, .int x4] dX3_find_44 (mmX3_pick _ _) mlX3_53 mnX3_pick mseX3_pick rfl rfl rfl rfl (a_dlt d) rfl rfl hM9 ?_
      rintro r9 M3 P9 ⟨v3, rfl, rfl, hq9⟩
      replace hF := hF v3 M3 hq9
      simp only [Option.toList, List.cons_append, List.nil_append]
      exact wa_iret dX3_find_47 rfl (a_bn hF.1) hF.2

theorem eX3_find {X : a_X} {ad : Nat → Nat} {ca : Nat → ClassId} {d : Nat} {Post : Option Value → a_M → a_P → Prop} {x : Nat} {M : a_M} (o1 : Nat) (x2 : Int32) (x3 : Int32) (h : WA X ad ca LY RX3 cX3_find 7 (some FieldType.boolean) d 0 0 (a_E X ad ca LY Post) 0 [(0, .ref 33), (1, .ref o1), (2, .int x2), (3, .int x3)] [] M (PT x)) : Mt X ad ca LY d yX3_find cX3_find 7 (some FieldType.boolean) [.ref 33, .ref o1, .int x2, .int x3] M (PT x) Post := Mt.of (lv := [(0, .ref 33), (1, .ref o1), (2, .int x2), (3, .int x3)]) (by decide +kernel) rfl rfl rfl (wa_pick [0, 1, 2, 3] rfl h)

theorem bX3_energy_0 {X : a_X} {ad : Nat → Nat} {ca : Nat → ClassId} {d : Nat} {Post : Option Value → a_M → a_P → Prop} {x : Nat} {M : a_M} (o1 : Nat) (hLo1 : LY[o1]? = some (6, 5)) (hF : ((¬ (M 40 0) = 0 → (∃ Q1 : Int32 → a_M → Prop, Mt X ad ca LY d yX11_over cX11_over 3 (some FieldType.int) [.int ((M o1 3) * (M 40 1)), .int (M 40 0), .int (M o1 2)] M (PT x) (q_i (PT x) Q1) ∧ ∀ v1 M1, Q1 v1 M1 → Post (some (.int v1)) M1 (PT x))) ∧ ((M 40 0) = 0 → Post (some (.int (-1))) M (PT x)))) : WA X ad ca LY RX3 cX3_energy 2 (some FieldType.int) (d + 1) 0 0 (a_E X ad ca LY Post) 0 [(0, .ref 33), (1, .ref o1)] [] M (PT x) := by
  refine wa_aload_n dX3_energy_0 0 rfl rfl ?_
  refine wa_getr (r := 40) dX3_energy_1 fkX3_38 rfl rfl rfl ?_
  refine wa_iconst (v := 0) dX3_energy_4 rfl ?_
  refine wb_iald (j := 0) (v := M 40 0) dX3_energy_5 rfl (by unfold vp_in; decide) rfl rfl ?_
  refine wa_if_ne (tgt := 13) dX3_energy_6 rfl (fun hc => ?_) (fun hc => ?_)
  · replace hF := hF.1 hc
    refine wa_aload_n dX3_energy_13 1 rfl rfl ?_
    refine wb_geti (v := M o1 3) dX3_energy_14 fkX3_57 rfl hLo1 rfl ?_
    refine wa_aload_n dX3_energy_17 0 rfl rfl ?_
    refine wa_getr (r := 40) dX3_energy_18 fkX3_38 rfl rfl rfl ?_
    refine wa_iconst (v := 1) dX3_energy_21 rfl ?_
    refine wb_iald (j := 1) (v := M 40 1) dX3_energy_22 rfl (by unfold vp_in; decide) rfl rfl ?_
    refine wa_imul dX3_energy_23 ?_
    refine wa_aload_n dX3_energy_24 0 rfl rfl ?_
    refine wa_getr (r := 40) dX3_energy_25 fkX3_38 rfl rfl rfl ?_
    refine wa_iconst (v := 0) dX3_energy_28 rfl ?_
    refine wb_iald (j := 0) (v := M 40 0) dX3_energy_29 rfl (by unfold vp_in; decide) rfl rfl ?_
    refine wa_aload_n dX3_energy_30 1 rfl rfl ?_
    refine wb_geti (v := M o1 2) dX3_energy_31 fkX3_61 rfl hLo1 rfl ?_
    obtain ⟨Q1, hM9, hF⟩ := hF
    refine wa_callSN [.int ((M o1 3) * (M 40 1)), .int (M 40 0), .int (M o1 2)] dX3_energy_34 (mmX11_over _ _) mkX3_64 mstX11_over rfl (a_dlt d) rfl rfl hM9 ?_
    rintro r9 M1 P9 ⟨v1, rfl, rfl, hq9⟩
    replace hF := hF v1 M1 hq9
    simp only [Option.toList, List.cons_append, List.nil_append]
    exact wa_iret dX3_energy_37 rfl rfl hF
  · replace hF := hF.2 hc
    refine wa_iconst (v := (-1)) dX3_energy_9 rfl ?_
    refine wa_goto (tgt := 37) dX3_energy_10 rfl ?_
    exact wa_iret dX3_energy_37 rfl rfl hF

theorem eX3_energy {X : a_X} {ad : Nat → Nat} {ca : Nat → ClassId} {d : Nat} {Post : Option Value → a_M → a_P → Prop} {x : Nat} {M : a_M} (o1 : Nat) (h : WA X ad ca LY RX3 cX3_energy 2 (some FieldType.int) d 0 0 (a_E X ad ca LY Post) 0 [(0, .ref 33), (1, .ref o1)] [] M (PT x)) : Mt X ad ca LY d yX3_energy cX3_energy 2 (some FieldType.int) [.ref 33, .ref o1] M (PT x) Post := Mt.of (lv := [(0, .ref 33), (1, .ref o1)]) (by decide +kernel) rfl rfl rfl (wa_pick [0, 1] rfl h)

theorem bX3_move_0 {X : a_X} {ad : Nat → Nat} {ca : Nat → ClassId} {d : Nat} {Post : Option Value → a_M → a_P → Prop} {x : Nat} {M : a_M} (o1 : Nat) (hLo1 : LY[o1]? = some (6, 5)) (hF : ((¬ (M 40 0) = 0 → (∃ Q1 : Int32 → a_M → Prop, Mt X ad ca LY d yX11_raised cX11_raised 6 (some FieldType.int) [.int (M o1 3), .int (M o1 0), .int (M o1 2)] M (PT x) (q_i (PT x) Q1) ∧ ∀ v1 M1, Q1 v1 M1 → (∃ Q2 : Int32 → a_M → Prop, Mt X ad ca LY d yX11_over cX11_over 3 (some FieldType.int) [.int (M 40 0), .int v1, .int (M1 o1 2)] M1 (PT x) (q_i (PT x) Q2) ∧ ∀ v2 M2, Q2 v2 M2 → Post (some (.int v2)) M2 (PT x)))) ∧ ((M 40 0) = 0 → Post (some (.int (-1))) M (PT x)))) : WA X ad ca LY RX3 cX3_move 2 (some FieldType.int) (d + 1) 0 0 (a_E X ad ca LY Post) 0 [(0, .ref 33), (1, .ref o1)] [] M (PT x) := by
  refine wa_aload_n dX3_move_0 0 rfl rfl ?_
  refine wa_getr (r := 40) dX3_move_1 fkX3_38 rfl rfl rfl ?_
  refine wa_iconst (v := 0) dX3_move_4 rfl ?_
  refine wb_iald (j := 0) (v := M 40 0) dX3_move_5 rfl (by unfold vp_in; decide) rfl rfl ?_
  refine wa_if_ne (tgt := 13) dX3_move_6 rfl (fun hc => ?_) (fun hc => ?_)
  · replace hF := hF.1 hc
    refine wa_aload_n dX3_move_13 0 rfl rfl ?_
    refine wa_getr (r := 40) dX3_move_14 fkX3_38 rfl rfl rfl ?_
    refine wa_iconst (v := 0) dX3_move_17 rfl ?_
    refine wb_iald (j := 0) (v := M 40 0) dX3_move_18 rfl (by unfold vp_in; decide) rfl rfl ?_
    refine wa_aload_n dX3_move_19 1 rfl rfl ?_
    refine wb_geti (v := M o1 3) dX3_move_20 fkX3_57 rfl hLo1 rfl ?_
    refine wa_aload_n dX3_move_23 1 rfl rfl ?_
    refine wb_geti (v := M o1 0) dX3_move_24 fkX3_68 rfl hLo1 rfl ?_
    refine wa_aload_n dX3_move_27 1 rfl rfl ?_
    refine wb_geti (v := M o1 2) dX3_move_28 fkX3_61 rfl hLo1 rfl ?_
    obtain ⟨Q1, hM9, hF⟩ := hF
    refine wa_callSN [.int (M o1 3), .int (M o1 0), .int (M o1 2)] dX3_move_31 (mmX11_raised _ _) mkX3_71 mstX11_raised rfl (a_dlt d) rfl rfl hM9 ?_
    rintro r9 M1 P9 ⟨v1, rfl, rfl, hq9⟩
    replace hF := hF v1 M1 hq9
    simp only [Option.toList, List.cons_append, List.nil_append]
    refine wa_aload_n dX3_move_34 1 rfl rfl ?_
    refine wb_geti (v := M1 o1 2) dX3_move_35 fkX3_61 rfl hLo1 rfl ?_
    obtain ⟨Q2, hM9, hF⟩ := hF
    refine wa_callSN [.int (M 40 0), .int v1, .int (M1 o1 2)] dX3_move_38 (mmX11_over _ _) mkX3_64 mstX11_over rfl (a_dlt d) rfl rfl hM9 ?_
    rintro r9 M2 P9 ⟨v2, rfl, rfl, hq9⟩
    replace hF := hF v2 M2 hq9
    simp only [Option.toList, List.cons_append, List.nil_append]
    exact wa_iret dX3_move_41 rfl rfl hF
  · replace hF := hF.2 hc
    refine wa_iconst (v := (-1)) dX3_move_9 rfl ?_
    refine wa_goto (tgt := 41) dX3_move_10 rfl ?_
    exact wa_iret dX3_move_41 rfl rfl hF

theorem eX3_move {X : a_X} {ad : Nat → Nat} {ca : Nat → ClassId} {d : Nat} {Post : Option Value → a_M → a_P → Prop} {x : Nat} {M : a_M} (o1 : Nat) (h : WA X ad ca LY RX3 cX3_move 2 (some FieldType.int) d 0 0 (a_E X ad ca LY Post) 0 [(0, .ref 33), (1, .ref o1)] [] M (PT x)) : Mt X ad ca LY d yX3_move cX3_move 2 (some FieldType.int) [.ref 33, .ref o1] M (PT x) Post := Mt.of (lv := [(0, .ref 33), (1, .ref o1)]) (by decide +kernel) rfl rfl rfl (wa_pick [0, 1] rfl h)

theorem bX3_rowsFor_0 {X : a_X} {ad : Nat → Nat} {ca : Nat → ClassId} {d : Nat} {Post : Option Value → a_M → a_P → Prop} {x : Nat} {M : a_M} (x1 : Int32)  (hF : ((¬ x1 = 2 → Post (some (.int 1)) M (PT x)) ∧ (x1 = 2 → (∃ Q1 : Int32 → a_M → Prop, Mt X ad ca LY d yJ9_min_7cf53 cJ9_min_7cf53 2 (some FieldType.int) [.int (M 34 2), .int 97] M (PT x) (q_i (PT x) Q1) ∧ ∀ v1 M1, Q1 v1 M1 → Post (some (.int v1)) M1 (PT x))))) : WA X ad ca LY RX3 cX3_rowsFor 2 (some FieldType.int) (d + 1) 0 0 (a_E X ad ca LY Post) 0 [(0, .ref 33), (1, .int x1)] [] M (PT x) := by
  refine wa_iload_n dX3_rowsFor_0 1 rfl rfl ?_
  refine wa_iconst (v := 2) dX3_rowsFor_1 rfl ?_
  refine wa_icmp_ne (tgt := 20) dX3_rowsFor_2 rfl (fun hc => ?_) (fun hc => ?_)
  · replace hF := hF.1 hc
    refine wa_iconst (v := 1) dX3_rowsFor_20 rfl ?_
    exact wa_iret dX3_rowsFor_21 rfl rfl hF
  · replace hF := hF.2 hc
    refine wa_aload_n dX3_rowsFor_5 0 rfl rfl ?_
    refine wa_getr (r := 34) dX3_rowsFor_6 fkX3_12 rfl rfl rfl ?_
    refine wb_geti (v := M 34 2) dX3_rowsFor_9 fkX3_61 rfl rfl rfl ?_
    refine wa_bipush (v := 97) dX3_rowsFor_12 rfl ?_
    obtain ⟨Q1, hM9, hF⟩ := hF
    refine wa_callS [.int (M 34 2), .int 97] dX3_rowsFor_14 (mmJ9_min_7cf53 _ _) mlX3_74 mstJ9_min_7cf53 rfl (a_dlt d) rfl rfl hM9 ?_
    rintro r9 M1 P9 ⟨v1, rfl, rfl, hq9⟩
    replace hF := hF v1 M1 hq9
    simp only [Option.toList, List.cons_append, List.nil_append]
    refine wa_goto (tgt := 21) dX3_rowsFor_17 rfl ?_
    exact wa_iret dX3_rowsFor_21 rfl rfl hF

theorem eX3_rowsFor {X : a_X} {ad : Nat → Nat} {ca : Nat → ClassId} {d : Nat} {Post : Option Value → a_M → a_P → Prop} {x : Nat} {M : a_M} (x1 : Int32) (h : WA X ad ca LY RX3 cX3_rowsFor 2 (some FieldType.int) d 0 0 (a_E X ad ca LY Post) 0 [(0, .ref 33), (1, .int x1)] [] M (PT x)) : Mt X ad ca LY d yX3_rowsFor cX3_rowsFor 2 (some FieldType.int) [.ref 33, .int x1] M (PT x) Post := Mt.of (lv := [(0, .ref 33), (1, .int x1)]) (by decide +kernel) rfl rfl rfl (wa_pick [0, 1] rfl h)

theorem bX3_lastsFor_0 {X : a_X} {ad : Nat → Nat} {ca : Nat → ClassId} {d : Nat} {Post : Option Value → a_M → a_P → Prop} {x : Nat} {M : a_M} (x1 : Int32)  (hF : ((¬ x1 = 0 → Post (some (.int (M 34 2))) M (PT x)) ∧ (x1 = 0 → Post (some (.int 1)) M (PT x)))) : WA X ad ca LY RX3 cX3_lastsFor 2 (some FieldType.int) (d + 1) 0 0 (a_E X ad ca LY Post) 0 [(0, .ref 33), (1, .int x1)] [] M (PT x) := by
  refine wa_iload_n dX3_lastsFor_0 1 rfl rfl ?_
  refine wa_if_ne (tgt := 8) dX3_lastsFor_1 rfl (fun hc => ?_) (fun hc => ?_)
  · replace hF := hF.1 hc
    refine wa_aload_n dX3_lastsFor_8 0 rfl rfl ?_
    refine wa_getr (r := 34) dX3_lastsFor_9 fkX3_12 rfl rfl rfl ?_
    refine wb_geti (v := M 34 2) dX3_lastsFor_12 fkX3_61 rfl rfl rfl ?_
    exact wa_iret dX3_lastsFor_15 rfl rfl hF
  · replace hF := hF.2 hc
    refine wa_iconst (v := 1) dX3_lastsFor_4 rfl ?_
    refine wa_goto (tgt := 15) dX3_lastsFor_5 rfl ?_
    exact wa_iret dX3_lastsFor_15 rfl rfl hF

theorem eX3_lastsFor {X : a_X} {ad : Nat → Nat} {ca : Nat → ClassId} {d : Nat} {Post : Option Value → a_M → a_P → Prop} {x : Nat} {M : a_M} (x1 : Int32) (h : WA X ad ca LY RX3 cX3_lastsFor 2 (some FieldType.int) d 0 0 (a_E X ad ca LY Post) 0 [(0, .ref 33), (1, .int x1)] [] M (PT x)) : Mt X ad ca LY d yX3_lastsFor cX3_lastsFor 2 (some FieldType.int) [.ref 33, .int x1] M (PT x) Post := Mt.of (lv := [(0, .ref 33), (1, .int x1)]) (by decide +kernel) rfl rfl rfl (wa_pick [0, 1] rfl h)

theorem bX3_countRows_0 {X : a_X} {ad : Nat → Nat} {ca : Nat → ClassId} {d : Nat} {kc ks : Nat} {QF : List Frame → Array Value → State → State → Prop} {x : Nat} {M : a_M} (o1 : Nat) (x2 : Int32) (hLo1 : LY[o1]? = some (6, 5)) (hF : (∃ Q1 : Int32 → a_M → Prop, Mt X ad ca LY d yX6_isLike cX6_isLike 2 (some FieldType.boolean) [.ref 34, .ref o1] M (PT x) (q_i (PT x) Q1) ∧ ∀ v1 M1, Q1 v1 M1 → ((¬ v1 = 0 → WA X ad ca LY RX3 cX3_countRows 4 none (d + 1) kc ks QF 24 [(0, .ref 33), (2, .int x2)] [] M1 (PT x)) ∧ (v1 = 0 → (∃ Q2 : a_M → Prop, Mt X ad ca LY d yX6_copyFrom cX6_copyFrom 2 none [.ref 34, .ref o1] (ms M1 33 1 0) (PT x) (q_v (PT x) Q2) ∧ ∀ M2, Q2 M2 → WA X ad ca LY RX3 cX3_countRows 4 none (d + 1) kc ks QF 24 [(0, .ref 33), (2, .int x2)] [] M2 (PT x)))))) : WA X ad ca LY RX3 cX3_countRows 4 none (d + 1) kc ks QF 0 [(0, .ref 33), (1, .ref o1), (2, .int x2)] [] M (PT x) := by
  refine wa_aload_n dX3_countRows_0 0 rfl rfl ?_
  refine wa_getr (r := 34) dX3_countRows_1 fkX3_12 rfl rfl rfl ?_
  refine wa_aload_n dX3_countRows_4 1 rfl rfl ?_
  obtain ⟨Q1, hM9, hF⟩ := hF
  refine wa_callV [.ref o1] dX3_countRows_5 (mmX6_isLike _ _) mlX3_79 mnX6_isLike mseX6_isLike rfl rfl rfl rfl (a_dlt d) rfl rfl hM9 ?_
  rintro r9 M1 P9 ⟨v1, rfl, rfl, hq9⟩
  replace hF := hF v1 M1 hq9
  simp only [Option.toList, List.cons_append, List.nil_append]
  refine wa_if_ne (tgt := 24) dX3_countRows_8 rfl (fun hc => ?_) (fun hc => ?_)
  · replace hF := hF.1 hc
    exact wa_pick [0, 2] rfl hF
  · replace hF := hF.2 hc
    refine wa_aload_n dX3_countRows_11 0 rfl rfl ?_
    refine wa_iconst (v := 0) dX3_countRows_12 rfl ?_
    refine wb_putz dX3_countRows_13 fkX3_18 fmX3_1 rfl rfl (Or.inl rfl) ?_
    refine wa_aload_n dX3_countRows_16 0 rfl rfl ?_
    refine wa_getr (r := 34) dX3_countRows_17 fkX3_12 rfl rfl rfl ?_
    refine wa_aload_n dX3_countRows_20 1 rfl rfl ?_
    obtain ⟨Q2, hM9, hF⟩ := hF
    refine wa_callV [.ref o1] dX3_countRows_21 (mmX6_copyFrom _ _) mlX3_83 mnX6_copyFrom mseX6_copyFrom rfl rfl rfl rfl (a_dlt d) rfl rfl hM9 ?_
    rintro r9 M2 P9 ⟨rfl, rfl, hq9⟩
    replace hF := hF M2 hq9
    simp only [Option.toList, List.nil_append]
    exact wa_pick [0, 2] rfl hF

theorem bX3_countRows_24 {X : a_X} {ad : Nat → Nat} {ca : Nat → ClassId} {d : Nat} {Post : Option Value → a_M → a_P → Prop} {x : Nat} {M : a_M} (x2 : Int32)  (hF : (∃ Q1 : a_M → Prop, Mt X ad ca LY d yX3_fillBase cX3_fillBase 3 none [.ref 33] M (PT x) (q_v (PT x) Q1) ∧ ∀ M1, Q1 M1 → ((¬ x2 = 2 → Post none M1 (PT x)) ∧ (x2 = 2 → ((¬ (M1 33 1) = 0 → Post none M1 (PT x)) ∧ ((M1 33 1) = 0 → WA X ad ca LY RX3 cX3_countRows 4 none (d + 1) 0 0 (a_E X ad ca LY Post) 42 [(0, .ref 33), (2, .int x2), (3, .int 0)] [] M1 (PT x))))))) : WA X ad ca LY RX3 cX3_countRows 4 none (d + 1) 0 0 (a_E X ad ca LY Post) 24 [(0, .ref 33), (2, .int x2)] [] M (PT x) := by
  refine wa_aload_n dX3_countRows_24 0 rfl rfl ?_
  obtain ⟨Q1, hM9, hF⟩ := hF
  refine wa_callV [] dX3_countRows_25 (mmX3_fillBase _ _) mlX3_87 mnX3_fillBase mseX3_fillBase rfl rfl rfl rfl (a_dlt d) rfl rfl hM9 ?_
  rintro r9 M1 P9 ⟨rfl, rfl, hq9⟩
  replace hF := hF M1 hq9
  simp only [Option.toList, List.nil_append]
  refine wa_iload_n dX3_countRows_28 1 rfl rfl ?_
  refine wa_iconst (v := 2) dX3_countRows_29 rfl ?_
  refine wa_icmp_ne (tgt := 74) dX3_countRows_30 rfl (fun hc => ?_) (fun hc => ?_)
  · replace hF := hF.1 hc
    exact wa_vret dX3_countRows_74 rfl hF
  · replace hF := hF.2 hc
    refine wa_aload_n dX3_countRows_33 0 rfl rfl ?_
    refine wb_geti (v := M1 33 1) dX3_countRows_34 fkX3_18 rfl rfl rfl ?_
    refine wa_if_ne (tgt := 74) dX3_countRows_37 rfl (fun hc => ?_) (fun hc => ?_)
    · replace hF := hF.1 hc
      exact wa_vret dX3_countRows_74 rfl hF
    · replace hF := hF.2 hc
      refine wa_iconst (v := 0) dX3_countRows_40 rfl ?_
      refine wa_istore_n (lv' := [(3, .int 0), (0, .ref 33), (2, .int x2)]) dX3_countRows_41 rfl rfl rfl ?_
      exact wa_pick [1, 2, 0] rfl hF

theorem bX3_countRows_42 {X : a_X} {ad : Nat → Nat} {ca : Nat → ClassId} {d : Nat} {Post : Option Value → a_M → a_P → Prop} {x : Nat} {M : a_M} (x2 : Int32) (x3 : Int32)  (hF : (∃ Q1 : Int32 → a_M → Prop, Mt X ad ca LY d yX3_rowsFor cX3_rowsFor 2 (some FieldType.int) [.ref 33, .int x2] M (PT x) (q_i (PT x) Q1) ∧ ∀ v1 M1, Q1 v1 M1 → ((v1 ≤ x3 → Post none (ms M1 33 1 1) (PT x)) ∧ (¬ v1 ≤ x3 → (∃ Q2 : Int32 → a_M → Prop, Mt X ad ca LY d yX3_countRow cX3_countRow 5 (some FieldType.int) [.ref 33, .int x3, .int x2] M1 (PT x) (q_i (PT x) Q2) ∧ ∀ v2 M2, Q2 v2 M2 → (vp_in x3 97 ∧ WA X ad ca LY RX3 cX3_countRows 4 none (d + 1) 0 0 (a_E X ad ca LY Post) 42 [(0, .ref 33), (2, .int x2), (3, .int (x3 + 1))] [] (ms M2 35 x3.toNatClampNeg v2) (PT x))))))) : WA X ad ca LY RX3 cX3_countRows 4 none (d + 1) 0 0 (a_E X ad ca LY Post) 42 [(0, .ref 33), (2, .int x2), (3, .int x3)] [] M (PT x) := by
  refine wa_iload_n dX3_countRows_42 2 rfl rfl ?_
  refine wa_aload_n dX3_countRows_43 0 rfl rfl ?_
  refine wa_iload_n dX3_countRows_44 1 rfl rfl ?_
  obtain ⟨Q1, hM9, hF⟩ := hF
  refine wa_callV [.int x2] dX3_countRows_45 (mmX3_rowsFor _ _) mlX3_45 mnX3_rowsFor mseX3_rowsFor rfl rfl rfl rfl (a_dlt d) rfl rfl hM9 ?_
  rintro r9 M1 P9 ⟨v1, rfl, rfl, hq9⟩
  replace hF := hF v1 M1 hq9
  simp only [Option.toList, List.cons_append, List.nil_append]
  refine wa_icmp_ge (tgt := 69) dX3_countRows_48 rfl (fun hc => ?_) (fun hc => ?_)
  · replace hF := hF.1 hc
    refine wa_aload_n dX3_countRows_69 0 rfl rfl ?_
    refine wa_iconst (v := 1) dX3_countRows_70 rfl ?_
    refine wb_putz dX3_countRows_71 fkX3_18 fmX3_1 rfl rfl (Or.inr rfl) ?_
    exact wa_vret dX3_countRows_74 rfl hF
  · replace hF := hF.2 hc
    refine wa_aload_n dX3_countRows_51 0 rfl rfl ?_
    refine wa_getr (r := 35) dX3_countRows_52 fkX3_22 rfl rfl rfl ?_
    refine wa_iload_n dX3_countRows_55 2 rfl rfl ?_
    refine wa_aload_n dX3_countRows_56 0 rfl rfl ?_
    refine wa_iload_n dX3_countRows_57 2 rfl rfl ?_
    refine wa_iload_n dX3_countRows_58 1 rfl rfl ?_
    obtain ⟨Q2, hM9, hF⟩ := hF
    refine wa_callV [.int x3, .int x2] dX3_countRows_59 (mmX3_countRow _ _) mlX3_90 mnX3_countRow mseX3_countRow rfl rfl rfl rfl (a_dlt d) rfl rfl hM9 ?_
    rintro r9 M2 P9 ⟨v2, rfl, rfl, hq9⟩
    replace hF := hF v2 M2 hq9
    simp only [Option.toList, List.cons_append, List.nil_append]
    obtain ⟨hi9, hF⟩ := hF
    refine wb_iast (j := x3.toNatClampNeg) dX3_countRows_62 rfl hi9 rfl ?_
    refine wa_iinc (v := x3 + 1) (lv' := [(3, .int (x3 + 1)), (0, .ref 33), (2, .int x2)]) dX3_countRows_63 2 rfl rfl rfl rfl ?_
    refine wa_goto (tgt := 42) dX3_countRows_66 rfl ?_
    exact wa_pick [1, 2, 0] rfl hF

theorem eX3_countRows {X : a_X} {ad : Nat → Nat} {ca : Nat → ClassId} {d : Nat} {Post : Option Value → a_M → a_P → Prop} {x : Nat} {M : a_M} (o1 : Nat) (x2 : Int32) (h : WA X ad ca LY RX3 cX3_countRows 4 none d 0 0 (a_E X ad ca LY Post) 0 [(0, .ref 33), (1, .ref o1), (2, .int x2)] [] M (PT x)) : Mt X ad ca LY d yX3_countRows cX3_countRows 4 none [.ref 33, .ref o1, .int x2] M (PT x) Post := Mt.of (lv := [(0, .ref 33), (1, .ref o1), (2, .int x2)]) (by decide +kernel) rfl rfl rfl (wa_pick [0, 1, 2] rfl h)

theorem bX3_countAt_0 {X : a_X} {ad : Nat → Nat} {ca : Nat → ClassId} {d : Nat} {Post : Option Value → a_M → a_P → Prop} {x : Nat} {M : a_M} (x1 : Int32) (x2 : Int32)  (hF : ((¬ x2 = 2 → WA X ad ca LY RX3 cX3_countAt 3 (some FieldType.int) (d + 1) 0 0 (a_E X ad ca LY Post) 23 [(0, .ref 33), (1, .int x1), (2, .int x2)] [] M (PT x)) ∧ (x2 = 2 → ((97 ≤ x1 → WA X ad ca LY RX3 cX3_countAt 3 (some FieldType.int) (d + 1) 0 0 (a_E X ad ca LY Post) 23 [(0, .ref 33), (1, .int x1), (2, .int x2)] [] M (PT x)) ∧ (¬ 97 ≤ x1 → (vp_in x1 97 ∧ Post (some (.int (M 35 x1.toNatClampNeg))) M (PT x))))))) : WA X ad ca LY RX3 cX3_countAt 3 (some FieldType.int) (d + 1) 0 0 (a_E X ad ca LY Post) 0 [(0, .ref 33), (1, .int x1), (2, .int x2)] [] M (PT x) := by
  refine wa_iload_n dX3_countAt_0 2 rfl rfl ?_
  refine wa_iconst (v := 2) dX3_countAt_1 rfl ?_
  refine wa_icmp_ne (tgt := 23) dX3_countAt_2 rfl (fun hc => ?_) (fun hc => ?_)
  · replace hF := hF.1 hc
    exact hF
  · replace hF := hF.2 hc
    refine wa_iload_n dX3_countAt_5 1 rfl rfl ?_
    refine wa_aload_n dX3_countAt_6 0 rfl rfl ?_
    refine wa_getr (r := 35) dX3_countAt_7 fkX3_22 rfl rfl rfl ?_
    refine wa_alen (v := 97) dX3_countAt_10 rfl (by decide) rfl ?_
    refine wa_icmp_ge (tgt := 23) dX3_countAt_11 rfl (fun hc => ?_) (fun hc => ?_)
    · replace hF := hF.1 hc
      exact hF
    · replace hF := hF.2 hc
      refine wa_aload_n dX3_countAt_14 0 rfl rfl ?_
      refine wa_getr (r := 35) dX3_countAt_15 fkX3_22 rfl rfl rfl ?_
      refine wa_iload_n dX3_countAt_18 1 rfl rfl ?_
      obtain ⟨hi9, hF⟩ := hF
      refine wb_iald (j := x1.toNatClampNeg) (v := M 35 x1.toNatClampNeg) dX3_countAt_19 rfl hi9 rfl rfl ?_
      refine wa_goto (tgt := 29) dX3_countAt_20 rfl ?_
      exact wa_iret dX3_countAt_29 rfl rfl hF

theorem bX3_countAt_23 {X : a_X} {ad : Nat → Nat} {ca : Nat → ClassId} {d : Nat} {Post : Option Value → a_M → a_P → Prop} {x : Nat} {M : a_M} (x1 : Int32) (x2 : Int32)  (hF : (∃ Q1 : Int32 → a_M → Prop, Mt X ad ca LY d yX3_countRow cX3_countRow 5 (some FieldType.int) [.ref 33, .int x1, .int x2] M (PT x) (q_i (PT x) Q1) ∧ ∀ v1 M1, Q1 v1 M1 → Post (some (.int v1)) M1 (PT x))) : WA X ad ca LY RX3 cX3_countAt 3 (some FieldType.int) (d + 1) 0 0 (a_E X ad ca LY Post) 23 [(0, .ref 33), (1, .int x1), (2, .int x2)] [] M (PT x) := by
  refine wa_aload_n dX3_countAt_23 0 rfl rfl ?_
  refine wa_iload_n dX3_countAt_24 1 rfl rfl ?_
  refine wa_iload_n dX3_countAt_25 2 rfl rfl ?_
  obtain ⟨Q1, hM9, hF⟩ := hF
  refine wa_callV [.int x1, .int x2] dX3_countAt_26 (mmX3_countRow _ _) mlX3_90 mnX3_countRow mseX3_countRow rfl rfl rfl rfl (a_dlt d) rfl rfl hM9 ?_
  rintro r9 M1 P9 ⟨v1, rfl, rfl, hq9⟩
  replace hF := hF v1 M1 hq9
  simp only [Option.toList, List.cons_append, List.nil_append]
  exact wa_iret dX3_countAt_29 rfl rfl hF

theorem eX3_countAt {X : a_X} {ad : Nat → Nat} {ca : Nat → ClassId} {d : Nat} {Post : Option Value → a_M → a_P → Prop} {x : Nat} {M : a_M} (x1 : Int32) (x2 : Int32) (h : WA X ad ca LY RX3 cX3_countAt 3 (some FieldType.int) d 0 0 (a_E X ad ca LY Post) 0 [(0, .ref 33), (1, .int x1), (2, .int x2)] [] M (PT x)) : Mt X ad ca LY d yX3_countAt cX3_countAt 3 (some FieldType.int) [.ref 33, .int x1, .int x2] M (PT x) Post := Mt.of (lv := [(0, .ref 33), (1, .int x1), (2, .int x2)]) (by decide +kernel) rfl rfl rfl (wa_pick [0, 1, 2] rfl h)

theorem bX3_countRow_0 {X : a_X} {ad : Nat → Nat} {ca : Nat → ClassId} {d : Nat} {kc ks : Nat} {QF : List Frame → Array Value → State → State → Prop} {x : Nat} {M : a_M} (x1 : Int32) (x2 : Int32)  (hF : (∃ Q1 : a_M → Prop, Mt X ad ca LY d yX3_openRow cX3_openRow 7 none [.ref 33, .int x1, .int x2] M (PT x) (q_v (PT x) Q1) ∧ ∀ M1, Q1 M1 → WA X ad ca LY RX3 cX3_countRow 5 (some FieldType.int) (d + 1) kc ks QF 11 [(0, .ref 33), (1, .int x1), (2, .int x2), (3, .int 0), (4, .int 0)] [] M1 (PT x))) : WA X ad ca LY RX3 cX3_countRow 5 (some FieldType.int) (d + 1) kc ks QF 0 [(0, .ref 33), (1, .int x1), (2, .int x2)] [] M (PT x) := by
  refine wa_aload_n dX3_countRow_0 0 rfl rfl ?_
  refine wa_iload_n dX3_countRow_1 1 rfl rfl ?_
  refine wa_iload_n dX3_countRow_2 2 rfl rfl ?_
  obtain ⟨Q1, hM9, hF⟩ := hF
  refine wa_callV [.int x1, .int x2] dX3_countRow_3 (mmX3_openRow _ _) mlX3_93 mnX3_openRow mseX3_openRow rfl rfl rfl rfl (a_dlt d) rfl rfl hM9 ?_
  rintro r9 M1 P9 ⟨rfl, rfl, hq9⟩
  replace hF := hF M1 hq9
  simp only [Option.toList, List.nil_append]
  refine wa_iconst (v := 0) dX3_countRow_6 rfl ?_
  refine wa_istore_n (lv' := [(3, .int 0), (0, .ref 33), (1, .int x1), (2, .int x2)]) dX3_countRow_7 rfl rfl rfl ?_
  refine wa_iconst (v := 0) dX3_countRow_8 rfl ?_
  refine wa_istore (lv' := [(4, .int 0), (3, .int 0), (0, .ref 33), (1, .int x1), (2, .int x2)]) dX3_countRow_9 rfl rfl ?_
  exact wa_pick [2, 3, 4, 1, 0] rfl hF

theorem bX3_countRow_11 {X : a_X} {ad : Nat → Nat} {ca : Nat → ClassId} {d : Nat} {Post : Option Value → a_M → a_P → Prop} {x : Nat} {M : a_M} (x1 : Int32) (x2 : Int32) (x3 : Int32) (x4 : Int32)  (hF : (∃ Q1 : Int32 → a_M → Prop, Mt X ad ca LY d yX3_lastsFor cX3_lastsFor 2 (some FieldType.int) [.ref 33, .int x2] M (PT x) (q_i (PT x) Q1) ∧ ∀ v1 M1, Q1 v1 M1 → ((v1 ≤ x4 → Post (some (.int x3)) M1 (PT x)) ∧ (¬ v1 ≤ x4 → (∃ Q2 : Int32 → a_M → Prop, Mt X ad ca LY d yX3_divides cX3_divides 10 (some FieldType.boolean) [.ref 33, .int x1, .int x4, .int x2] M1 (PT x) (q_i (PT x) Q2) ∧ ∀ v2 M2, Q2 v2 M2 → ((v2 = 0 → WA X ad ca LY RX3 cX3_countRow 5 (some FieldType.int) (d + 1) 0 0 (a_E X ad ca LY Post) 35 [(0, .ref 33), (1, .int x1), (2, .int x2), (3, .int x3), (4, .int x4)] [] M2 (PT x)) ∧ (¬ v2 = 0 → WA X ad ca LY RX3 cX3_countRow 5 (some FieldType.int) (d + 1) 0 0 (a_E X ad ca LY Post) 35 [(0, .ref 33), (1, .int x1), (2, .int x2), (3, .int (x3 + 1)), (4, .int x4)] [] M2 (PT x)))))))) : WA X ad ca LY RX3 cX3_countRow 5 (some FieldType.int) (d + 1) 0 0 (a_E X ad ca LY Post) 11 [(0, .ref 33), (1, .int x1), (2, .int x2), (3, .int x3), (4, .int x4)] [] M (PT x) := by
  refine wa_iload dX3_countRow_11 4 rfl ?_
  refine wa_aload_n dX3_countRow_13 0 rfl rfl ?_
  refine wa_iload_n dX3_countRow_14 2 rfl rfl ?_
  obtain ⟨Q1, hM9, hF⟩ := hF
  refine wa_callV [.int x2] dX3_countRow_15 (mmX3_lastsFor _ _) mlX3_97 mnX3_lastsFor mseX3_lastsFor rfl rfl rfl rfl (a_dlt d) rfl rfl hM9 ?_
  rintro r9 M1 P9 ⟨v1, rfl, rfl, hq9⟩
  replace hF := hF v1 M1 hq9
  simp only [Option.toList, List.cons_append, List.nil_append]
  refine wa_icmp_ge (tgt := 41) dX3_countRow_18 rfl (fun hc => ?_) (fun hc => ?_)
  · replace hF := hF.1 hc
    refine wa_iload_n dX3_countRow_41 3 rfl rfl ?_
    exact wa_iret dX3_countRow_42 rfl rfl hF
  · replace hF := hF.2 hc
    refine wa_aload_n dX3_countRow_21 0 rfl rfl ?_
    refine wa_iload_n dX3_countRow_22 1 rfl rfl ?_
    refine wa_iload dX3_countRow_23 4 rfl ?_
    refine wa_iload_n dX3_countRow_25 2 rfl rfl ?_
    obtain ⟨Q2, hM9, hF⟩ := hF
    refine wa_callV [.int x1, .int x4, .int x2] dX3_countRow_26 (mmX3_divides _ _) mlX3_100 mnX3_divides mseX3_divides rfl rfl rfl rfl (a_dlt d) rfl rfl hM9 ?_
    rintro r9 M2 P9 ⟨v2, rfl, rfl, hq9⟩
    replace hF := hF v2 M2 hq9
    simp only [Option.toList, List.cons_append, List.nil_append]
    refine wa_if_eq (tgt := 35) dX3_countRow_29 rfl (fun hc => ?_) (fun hc => ?_)
    · replace hF := hF.1 hc
      exact hF
    · replace hF := hF.2 hc
      refine wa_iinc (v := x3 + 1) (lv' := [(3, .int (x3 + 1)), (0, .ref 33), (1, .int x1), (2, .int x2), (4, .int x4)]) dX3_countRow_32 3 rfl rfl rfl rfl ?_
      exact wa_pick [1, 2, 3, 0, 4] rfl hF

theorem bX3_countRow_35 {X : a_X} {ad : Nat → Nat} {ca : Nat → ClassId} {d : Nat} {kc ks : Nat} {QF : List Frame → Array Value → State → State → Prop} {x : Nat} {M : a_M} (x1 : Int32) (x2 : Int32) (x3 : Int32) (x4 : Int32)  (hF : WA X ad ca LY RX3 cX3_countRow 5 (some FieldType.int) (d + 1) kc ks QF 11 [(0, .ref 33), (1, .int x1), (2, .int x2), (3, .int x3), (4, .int (x4 + 1))] [] M (PT x)) : WA X ad ca LY RX3 cX3_countRow 5 (some FieldType.int) (d + 1) kc ks QF 35 [(0, .ref 33), (1, .int x1), (2, .int x2), (3, .int x3), (4, .int x4)] [] M (PT x) := by
  refine wa_iinc (v := x4 + 1) (lv' := [(4, .int (x4 + 1)), (0, .ref 33), (1, .int x1), (2, .int x2), (3, .int x3)]) dX3_countRow_35 4 rfl rfl rfl rfl ?_
  refine wa_goto (tgt := 11) dX3_countRow_38 rfl ?_
  exact wa_pick [1, 2, 3, 4, 0] rfl hF

theorem eX3_countRow {X : a_X} {ad : Nat → Nat} {ca : Nat → ClassId} {d : Nat} {Post : Option Value → a_M → a_P → Prop} {x : Nat} {M : a_M} (x1 : Int32) (x2 : Int32) (h : WA X ad ca LY RX3 cX3_countRow 5 (some FieldType.int) d 0 0 (a_E X ad ca LY Post) 0 [(0, .ref 33), (1, .int x1), (2, .int x2)] [] M (PT x)) : Mt X ad ca LY d yX3_countRow cX3_countRow 5 (some FieldType.int) [.ref 33, .int x1, .int x2] M (PT x) Post := Mt.of (lv := [(0, .ref 33), (1, .int x1), (2, .int x2)]) (by decide +kernel) rfl rfl rfl (wa_pick [0, 1, 2] rfl h)

theorem bX3_pick_0 {X : a_X} {ad : Nat → Nat} {ca : Nat → ClassId} {d : Nat} {kc ks : Nat} {QF : List Frame → Array Value → State → State → Prop} {x : Nat} {M : a_M} (x1 : Int32) (x2 : Int32) (x3 : Int32)  (hF : (∃ Q1 : a_M → Prop, Mt X ad ca LY d yX3_openRow cX3_openRow 7 none [.ref 33, .int x1, .int x2] M (PT x) (q_v (PT x) Q1) ∧ ∀ M1, Q1 M1 → WA X ad ca LY RX3 cX3_pick 6 (some FieldType.boolean) (d + 1) kc ks QF 12 [(0, .ref 33), (1, .int x1), (2, .int x2), (4, .int x3), (5, .int 0)] [] M1 (PT x))) : WA X ad ca LY RX3 cX3_pick 6 (some FieldType.boolean) (d + 1) kc ks QF 0 [(0, .ref 33), (1, .int x1), (2, .int x2), (3, .int x3)] [] M (PT x) := by
  refine wa_aload_n dX3_pick_0 0 rfl rfl ?_
  refine wa_iload_n dX3_pick_1 1 rfl rfl ?_
  refine wa_iload_n dX3_pick_2 2 rfl rfl ?_
  obtain ⟨Q1, hM9, hF⟩ := hF
  refine wa_callV [.int x1, .int x2] dX3_pick_3 (mmX3_openRow _ _) mlX3_93 mnX3_openRow mseX3_openRow rfl rfl rfl rfl (a_dlt d) rfl rfl hM9 ?_
  rintro r9 M1 P9 ⟨rfl, rfl, hq9⟩
  replace hF := hF M1 hq9
  simp only [Option.toList, List.nil_append]
  refine wa_iload_n dX3_pick_6 3 rfl rfl ?_
  refine wa_istore (lv' := [(4, .int x3), (0, .ref 33), (1, .int x1), (2, .int x2), (3, .int x3)]) dX3_pick_7 rfl rfl ?_
  refine wa_iconst (v := 0) dX3_pick_9 rfl ?_
  refine wa_istore (lv' := [(5, .int 0), (4, .int x3), (0, .ref 33), (1, .int x1), (2, .int x2), (3, .int x3)]) dX3_pick_10 rfl rfl ?_
  exact wa_pick [2, 3, 4, 1, 0] rfl hF

theorem bX3_pick_12 {X : a_X} {ad : Nat → Nat} {ca : Nat → ClassId} {d : Nat} {Post : Option Value → a_M → a_P → Prop} {x : Nat} {M : a_M} (x1 : Int32) (x2 : Int32) (x4 : Int32) (x5 : Int32)  (hF : (∃ Q1 : Int32 → a_M → Prop, Mt X ad ca LY d yX3_lastsFor cX3_lastsFor 2 (some FieldType.int) [.ref 33, .int x2] M (PT x) (q_i (PT x) Q1) ∧ ∀ v1 M1, Q1 v1 M1 → ((v1 ≤ x5 → Post (some (.int 0)) M1 (PT x)) ∧ (¬ v1 ≤ x5 → (∃ Q2 : Int32 → a_M → Prop, Mt X ad ca LY d yX3_divides cX3_divides 10 (some FieldType.boolean) [.ref 33, .int x1, .int x5, .int x2] M1 (PT x) (q_i (PT x) Q2) ∧ ∀ v2 M2, Q2 v2 M2 → ((v2 = 0 → WA X ad ca LY RX3 cX3_pick 6 (some FieldType.boolean) (d + 1) 0 0 (a_E X ad ca LY Post) 51 [(0, .ref 33), (1, .int x1), (2, .int x2), (4, .int x4), (5, .int x5)] [] M2 (PT x)) ∧ (¬ v2 = 0 → ((¬ x4 = 0 → WA X ad ca LY RX3 cX3_pick 6 (some FieldType.boolean) (d + 1) 0 0 (a_E X ad ca LY Post) 51 [(0, .ref 33), (1, .int x1), (2, .int x2), (4, .int (x4 + (-1))), (5, .int x5)] [] M2 (PT x)) ∧ (x4 = 0 → (∃ Q3 : a_M → Prop, Mt X ad ca LY d yX3_tell cX3_tell 5 none [.ref 33, .int x1, .int x5, .int x2] M2 (PT x) (q_v (PT x) Q3) ∧ ∀ M3, Q3 M3 → Post (some (.int 1)) M3 (PT x))))))))))) : WA X ad ca LY RX3 cX3_pick 6 (some FieldType.boolean) (d + 1) 0 0 (a_E X ad ca LY Post) 12 [(0, .ref 33), (1, .int x1), (2, .int x2), (4, .int x4), (5, .int x5)] [] M (PT x) := by
  refine wa_iload dX3_pick_12 4 rfl ?_
  refine wa_aload_n dX3_pick_14 0 rfl rfl ?_
  refine wa_iload_n dX3_pick_15 2 rfl rfl ?_
  obtain ⟨Q1, hM9, hF⟩ := hF
  refine wa_callV [.int x2] dX3_pick_16 (mmX3_lastsFor _ _) mlX3_97 mnX3_lastsFor mseX3_lastsFor rfl rfl rfl rfl (a_dlt d) rfl rfl hM9 ?_
  rintro r9 M1 P9 ⟨v1, rfl, rfl, hq9⟩
  replace hF := hF v1 M1 hq9
  simp only [Option.toList, List.cons_append, List.nil_append]
  refine wa_icmp_ge (tgt := 57) dX3_pick_19 rfl (fun hc => ?_) (fun hc => ?_)
  · replace hF := hF.1 hc
    refine wa_iconst (v := 0) dX3_pick_57 rfl ?_
    exact wa_iret dX3_pick_58 rfl rfl hF
  · replace hF := hF.2 hc
    refine wa_aload_n dX3_pick_22 0 rfl rfl ?_
    refine wa_iload_n dX3_pick_23 1 rfl rfl ?_
    refine wa_iload dX3_pick_24 4 rfl ?_
    refine wa_iload_n dX3_pick_26 2 rfl rfl ?_
    obtain ⟨Q2, hM9, hF⟩ := hF
    refine wa_callV [.int x1, .int x5, .int x2] dX3_pick_27 (mmX3_divides _ _) mlX3_100 mnX3_divides mseX3_divides rfl rfl rfl rfl (a_dlt d) rfl rfl hM9 ?_
    rintro r9 M2 P9 ⟨v2, rfl, rfl, hq9⟩
    replace hF := hF v2 M2 hq9
    simp only [Option.toList, List.cons_append, List.nil_append]
    refine wa_if_eq (tgt := 51) dX3_pick_30 rfl (fun hc => ?_) (fun hc => ?_)
    · replace hF := hF.1 hc
      exact hF
    · replace hF := hF.2 hc
      refine wa_iload dX3_pick_33 3 rfl ?_
      refine wa_if_ne (tgt := 48) dX3_pick_35 rfl (fun hc => ?_) (fun hc => ?_)
      · replace hF := hF.1 hc
        refine wa_iinc (v := x4 + (-1)) (lv' := [(4, .int (x4 + (-1))), (0, .ref 33), (1, .int x1), (2, .int x2), (5, .int x5)]) dX3_pick_48 3 rfl rfl rfl rfl ?_
        exact wa_pick [1, 2, 3, 0, 4] rfl hF
      · replace hF := hF.2 hc
        refine wa_aload_n dX3_pick_38 0 rfl rfl ?_
        refine wa_iload_n dX3_pick_39 1 rfl rfl ?_
        refine wa_iload dX3_pick_40 4 rfl ?_
        refine wa_iload_n dX3_pick_42 2 rfl rfl ?_
        obtain ⟨Q3, hM9, hF⟩ := hF
        refine wa_callV [.int x1, .int x5, .int x2] dX3_pick_43 (mmX3_tell _ _) mlX3_103 mnX3_tell mseX3_tell rfl rfl rfl rfl (a_dlt d) rfl rfl hM9 ?_
        rintro r9 M3 P9 ⟨rfl, rfl, hq9⟩
        replace hF := hF M3 hq9
        simp only [Option.toList, List.nil_append]
        refine wa_iconst (v := 1) dX3_pick_46 rfl ?_
        exact wa_iret dX3_pick_47 rfl rfl hF

theorem bX3_pick_51 {X : a_X} {ad : Nat → Nat} {ca : Nat → ClassId} {d : Nat} {kc ks : Nat} {QF : List Frame → Array Value → State → State → Prop} {x : Nat} {M : a_M} (x1 : Int32) (x2 : Int32) (x4 : Int32) (x5 : Int32)  (hF : WA X ad ca LY RX3 cX3_pick 6 (some FieldType.boolean) (d + 1) kc ks QF 12 [(0, .ref 33), (1, .int x1), (2, .int x2), (4, .int x4), (5, .int (x5 + 1))] [] M (PT x)) : WA X ad ca LY RX3 cX3_pick 6 (some FieldType.boolean) (d + 1) kc ks QF 51 [(0, .ref 33), (1, .int x1), (2, .int x2), (4, .int x4), (5, .int x5)] [] M (PT x) := by
  refine wa_iinc (v := x5 + 1) (lv' := [(5, .int (x5 + 1)), (0, .ref 33), (1, .int x1), (2, .int x2), (4, .int x4)]) dX3_pick_51 4 rfl rfl rfl rfl ?_
  refine wa_goto (tgt := 12) dX3_pick_54 rfl ?_
  exact wa_pick [1, 2, 3, 4, 0] rfl hF

theorem eX3_pick {X : a_X} {ad : Nat → Nat} {ca : Nat → ClassId} {d : Nat} {Post : Option Value → a_M → a_P → Prop} {x : Nat} {M : a_M} (x1 : Int32) (x2 : Int32) (x3 : Int32) (h : WA X ad ca LY RX3 cX3_pick 6 (some FieldType.boolean) d 0 0 (a_E X ad ca LY Post) 0 [(0, .ref 33), (1, .int x1), (2, .int x2), (3, .int x3)] [] M (PT x)) : Mt X ad ca LY d yX3_pick cX3_pick 6 (some FieldType.boolean) [.ref 33, .int x1, .int x2, .int x3] M (PT x) Post := Mt.of (lv := [(0, .ref 33), (1, .int x1), (2, .int x2), (3, .int x3)]) (by decide +kernel) rfl rfl rfl (wa_pick [0, 1, 2, 3] rfl h)

theorem bX3_tell_0 {X : a_X} {ad : Nat → Nat} {ca : Nat → ClassId} {d : Nat} {kc ks : Nat} {QF : List Frame → Array Value → State → State → Prop} {x : Nat} {M : a_M} (x1 : Int32) (x2 : Int32) (x3 : Int32)  (hF : (vp_in x3 3 ∧ WA X ad ca LY RX3 cX3_tell 5 none (d + 1) kc ks QF 24 [(0, .ref 33), (3, .int x3), (4, .int 0)] [] (ms (ms (ms M 39 1 x1) 39 0 x2) 39 x3.toNatClampNeg 1) (PT x))) : WA X ad ca LY RX3 cX3_tell 5 none (d + 1) kc ks QF 0 [(0, .ref 33), (1, .int x1), (2, .int x2), (3, .int x3)] [] M (PT x) := by
  refine wa_aload_n dX3_tell_0 0 rfl rfl ?_
  refine wa_getr (r := 39) dX3_tell_1 fkX3_35 rfl rfl rfl ?_
  refine wa_iconst (v := 1) dX3_tell_4 rfl ?_
  refine wa_iload_n dX3_tell_5 1 rfl rfl ?_
  refine wb_iast (j := 1) dX3_tell_6 rfl (by unfold vp_in; decide) rfl ?_
  refine wa_aload_n dX3_tell_7 0 rfl rfl ?_
  refine wa_getr (r := 39) dX3_tell_8 fkX3_35 rfl rfl rfl ?_
  refine wa_iconst (v := 0) dX3_tell_11 rfl ?_
  refine wa_iload_n dX3_tell_12 2 rfl rfl ?_
  refine wb_iast (j := 0) dX3_tell_13 rfl (by unfold vp_in; decide) rfl ?_
  refine wa_aload_n dX3_tell_14 0 rfl rfl ?_
  refine wa_getr (r := 39) dX3_tell_15 fkX3_35 rfl rfl rfl ?_
  refine wa_iload_n dX3_tell_18 3 rfl rfl ?_
  refine wa_iconst (v := 1) dX3_tell_19 rfl ?_
  obtain ⟨hi9, hF⟩ := hF
  refine wb_iast (j := x3.toNatClampNeg) dX3_tell_20 rfl hi9 rfl ?_
  refine wa_iconst (v := 0) dX3_tell_21 rfl ?_
  refine wa_istore (lv' := [(4, .int 0), (0, .ref 33), (1, .int x1), (2, .int x2), (3, .int x3)]) dX3_tell_22 rfl rfl ?_
  exact wa_pick [1, 4, 0] rfl hF

theorem bX3_tell_24 {X : a_X} {ad : Nat → Nat} {ca : Nat → ClassId} {d : Nat} {Post : Option Value → a_M → a_P → Prop} {x : Nat} {M : a_M} (x3 : Int32) (x4 : Int32)  (hF : (((M 34 0) < x4 → Post none M (PT x)) ∧ (¬ (M 34 0) < x4 → (vp_in x4 8 ∧ ((¬ x4 = (M 34 0) → (vp_in (x4 + x3) 11 ∧ (∃ Q1 : Int32 → a_M → Prop, Mt X ad ca LY d yX11_left cX11_left 3 (some FieldType.int) [.int (((M 36 x4.toNatClampNeg) + 0) + (M 38 ((x4 + x3).toNatClampNeg))), .int (M 34 2)] M (PT x) (q_i (PT x) Q1) ∧ ∀ v1 M1, Q1 v1 M1 → (vp_in x4 8 ∧ WA X ad ca LY RX3 cX3_tell 5 none (d + 1) 0 0 (a_E X ad ca LY Post) 24 [(0, .ref 33), (3, .int x3), (4, .int (x4 + 1))] [] (ms M1 40 x4.toNatClampNeg v1) (PT x))))) ∧ (x4 = (M 34 0) → (vp_in (x4 + x3) 11 ∧ (∃ Q2 : Int32 → a_M → Prop, Mt X ad ca LY d yX11_left cX11_left 3 (some FieldType.int) [.int (((M 36 x4.toNatClampNeg) + 1) + (M 38 ((x4 + x3).toNatClampNeg))), .int (M 34 2)] M (PT x) (q_i (PT x) Q2) ∧ ∀ v2 M2, Q2 v2 M2 → (vp_in x4 8 ∧ WA X ad ca LY RX3 cX3_tell 5 none (d + 1) 0 0 (a_E X ad ca LY Post) 24 [(0, .ref 33), (3, .int x3), (4, .int (x4 + 1))] [] (ms M2 40 x4.toNatClampNeg v2) (PT x)))))))))) : WA X ad ca LY RX3 cX3_tell 5 none (d + 1) 0 0 (a_E X ad ca LY Post) 24 [(0, .ref 33), (3, .int x3), (4, .int x4)] [] M (PT x) := by
  refine wa_iload dX3_tell_24 2 rfl ?_
  refine wa_aload_n dX3_tell_26 0 rfl rfl ?_
  refine wa_getr (r := 34) dX3_tell_27 fkX3_12 rfl rfl rfl ?_
  refine wb_geti (v := M 34 0) dX3_tell_30 fkX3_68 rfl rfl rfl ?_
  refine wa_icmp_gt (tgt := 94) dX3_tell_33 rfl (fun hc => ?_) (fun hc => ?_)
  · replace hF := hF.1 hc
    exact wa_vret dX3_tell_94 rfl hF
  · replace hF := hF.2 hc
    refine wa_aload_n dX3_tell_36 0 rfl rfl ?_
    refine wa_getr (r := 40) dX3_tell_37 fkX3_38 rfl rfl rfl ?_
    refine wa_iload dX3_tell_40 2 rfl ?_
    refine wa_aload_n dX3_tell_42 0 rfl rfl ?_
    refine wa_getr (r := 36) dX3_tell_43 fkX3_26 rfl rfl rfl ?_
    refine wa_iload dX3_tell_46 2 rfl ?_
    obtain ⟨hi9, hF⟩ := hF
    refine wb_iald (j := x4.toNatClampNeg) (v := M 36 x4.toNatClampNeg) dX3_tell_48 rfl hi9 rfl rfl ?_
    refine wa_iload dX3_tell_49 2 rfl ?_
    refine wa_aload_n dX3_tell_51 0 rfl rfl ?_
    refine wa_getr (r := 34) dX3_tell_52 fkX3_12 rfl rfl rfl ?_
    refine wb_geti (v := M 34 0) dX3_tell_55 fkX3_68 rfl rfl rfl ?_
    refine wa_icmp_ne (tgt := 65) dX3_tell_58 rfl (fun hc => ?_) (fun hc => ?_)
    · replace hF := hF.1 hc
      refine wa_iconst (v := 0) dX3_tell_65 rfl ?_
      refine wa_iadd dX3_tell_66 ?_
      refine wa_aload_n dX3_tell_67 0 rfl rfl ?_
      refine wa_getr (r := 38) dX3_tell_68 fkX3_32 rfl rfl rfl ?_
      refine wa_iload dX3_tell_71 2 rfl ?_
      refine wa_iload_n dX3_tell_73 1 rfl rfl ?_
      refine wa_iadd dX3_tell_74 ?_
      obtain ⟨hi9, hF⟩ := hF
      refine wb_iald (j := (x4 + x3).toNatClampNeg) (v := M 38 ((x4 + x3).toNatClampNeg)) dX3_tell_75 rfl hi9 rfl rfl ?_
      refine wa_iadd dX3_tell_76 ?_
      refine wa_aload_n dX3_tell_77 0 rfl rfl ?_
      refine wa_getr (r := 34) dX3_tell_78 fkX3_12 rfl rfl rfl ?_
      refine wb_geti (v := M 34 2) dX3_tell_81 fkX3_61 rfl rfl rfl ?_
      obtain ⟨Q1, hM9, hF⟩ := hF
      refine wa_callSN [.int (((M 36 x4.toNatClampNeg) + 0) + (M 38 ((x4 + x3).toNatClampNeg))), .int (M 34 2)] dX3_tell_84 (mmX11_left _ _) mkX3_107 mstX11_left rfl (a_dlt d) rfl rfl hM9 ?_
      rintro r9 M1 P9 ⟨v1, rfl, rfl, hq9⟩
      replace hF := hF v1 M1 hq9
      simp only [Option.toList, List.cons_append, List.nil_append]
      obtain ⟨hi9, hF⟩ := hF
      refine wb_iast (j := x4.toNatClampNeg) dX3_tell_87 rfl hi9 rfl ?_
      refine wa_iinc (v := x4 + 1) (lv' := [(4, .int (x4 + 1)), (0, .ref 33), (3, .int x3)]) dX3_tell_88 2 rfl rfl rfl rfl ?_
      refine wa_goto (tgt := 24) dX3_tell_91 rfl ?_
      exact wa_pick [1, 2, 0] rfl hF
    · replace hF := hF.2 hc
      refine wa_iconst (v := 1) dX3_tell_61 rfl ?_
      refine wa_goto (tgt := 66) dX3_tell_62 rfl ?_
      refine wa_iadd dX3_tell_66 ?_
      refine wa_aload_n dX3_tell_67 0 rfl rfl ?_
      refine wa_getr (r := 38) dX3_tell_68 fkX3_32 rfl rfl rfl ?_
      refine wa_iload dX3_tell_71 2 rfl ?_
      refine wa_iload_n dX3_tell_73 1 rfl rfl ?_
      refine wa_iadd dX3_tell_74 ?_
      obtain ⟨hi9, hF⟩ := hF
      refine wb_iald (j := (x4 + x3).toNatClampNeg) (v := M 38 ((x4 + x3).toNatClampNeg)) dX3_tell_75 rfl hi9 rfl rfl ?_
      refine wa_iadd dX3_tell_76 ?_
      refine wa_aload_n dX3_tell_77 0 rfl rfl ?_
      refine wa_getr (r := 34) dX3_tell_78 fkX3_12 rfl rfl rfl ?_
      refine wb_geti (v := M 34 2) dX3_tell_81 fkX3_61 rfl rfl rfl ?_
      obtain ⟨Q2, hM9, hF⟩ := hF
      refine wa_callSN [.int (((M 36 x4.toNatClampNeg) + 1) + (M 38 ((x4 + x3).toNatClampNeg))), .int (M 34 2)] dX3_tell_84 (mmX11_left _ _) mkX3_107 mstX11_left rfl (a_dlt d) rfl rfl hM9 ?_
      rintro r9 M2 P9 ⟨v2, rfl, rfl, hq9⟩
      replace hF := hF v2 M2 hq9
      simp only [Option.toList, List.cons_append, List.nil_append]
      obtain ⟨hi9, hF⟩ := hF
      refine wb_iast (j := x4.toNatClampNeg) dX3_tell_87 rfl hi9 rfl ?_
      refine wa_iinc (v := x4 + 1) (lv' := [(4, .int (x4 + 1)), (0, .ref 33), (3, .int x3)]) dX3_tell_88 2 rfl rfl rfl rfl ?_
      refine wa_goto (tgt := 24) dX3_tell_91 rfl ?_
      exact wa_pick [1, 2, 0] rfl hF

theorem eX3_tell {X : a_X} {ad : Nat → Nat} {ca : Nat → ClassId} {d : Nat} {Post : Option Value → a_M → a_P → Prop} {x : Nat} {M : a_M} (x1 : Int32) (x2 : Int32) (x3 : Int32) (h : WA X ad ca LY RX3 cX3_tell 5 none d 0 0 (a_E X ad ca LY Post) 0 [(0, .ref 33), (1, .int x1), (2, .int x2), (3, .int x3)] [] M (PT x)) : Mt X ad ca LY d yX3_tell cX3_tell 5 none [.ref 33, .int x1, .int x2, .int x3] M (PT x) Post := Mt.of (lv := [(0, .ref 33), (1, .int x1), (2, .int x2), (3, .int x3)]) (by decide +kernel) rfl rfl rfl (wa_pick [0, 1, 2, 3] rfl h)

theorem bX3_fillBase_0 {X : a_X} {ad : Nat → Nat} {ca : Nat → ClassId} {d : Nat} {kc ks : Nat} {QF : List Frame → Array Value → State → State → Prop} {x : Nat} {M : a_M}   (hF : (∃ Q1 : a_M → Prop, Mt X ad ca LY d yX11_clear cX11_clear 2 none [.ref 36] M (PT x) (q_v (PT x) Q1) ∧ ∀ M1, Q1 M1 → WA X ad ca LY RX3 cX3_fillBase 3 none (d + 1) kc ks QF 16 [(0, .ref 33), (1, .int 0)] [] (ms M1 36 0 1) (PT x))) : WA X ad ca LY RX3 cX3_fillBase 3 none (d + 1) kc ks QF 0 [(0, .ref 33)] [] M (PT x) := by
  refine wa_aload_n dX3_fillBase_0 0 rfl rfl ?_
  refine wa_getr (r := 36) dX3_fillBase_1 fkX3_26 rfl rfl rfl ?_
  obtain ⟨Q1, hM9, hF⟩ := hF
  refine wa_callSN [.ref 36] dX3_fillBase_4 (mmX11_clear _ _) mkX3_110 mstX11_clear rfl (a_dlt d) rfl rfl hM9 ?_
  rintro r9 M1 P9 ⟨rfl, rfl, hq9⟩
  replace hF := hF M1 hq9
  simp only [Option.toList, List.nil_append]
  refine wa_aload_n dX3_fillBase_7 0 rfl rfl ?_
  refine wa_getr (r := 36) dX3_fillBase_8 fkX3_26 rfl rfl rfl ?_
  refine wa_iconst (v := 0) dX3_fillBase_11 rfl ?_
  refine wa_iconst (v := 1) dX3_fillBase_12 rfl ?_
  refine wb_iast (j := 0) dX3_fillBase_13 rfl (by unfold vp_in; decide) rfl ?_
  refine wa_iconst (v := 0) dX3_fillBase_14 rfl ?_
  refine wa_istore_n (lv' := [(1, .int 0), (0, .ref 33)]) dX3_fillBase_15 rfl rfl rfl ?_
  exact wa_pick [1, 0] rfl hF

theorem bX3_fillBase_16 {X : a_X} {ad : Nat → Nat} {ca : Nat → ClassId} {d : Nat} {Post : Option Value → a_M → a_P → Prop} {x : Nat} {M : a_M} (x1 : Int32)  (hF : (((M 34 0) ≤ x1 → Post none M (PT x)) ∧ (¬ (M 34 0) ≤ x1 → WA X ad ca LY RX3 cX3_fillBase 3 none (d + 1) 0 0 (a_E X ad ca LY Post) 31 [(0, .ref 33), (1, .int x1), (2, .int (x1 + 1))] [] M (PT x)))) : WA X ad ca LY RX3 cX3_fillBase 3 none (d + 1) 0 0 (a_E X ad ca LY Post) 16 [(0, .ref 33), (1, .int x1)] [] M (PT x) := by
  refine wa_iload_n dX3_fillBase_16 1 rfl rfl ?_
  refine wa_aload_n dX3_fillBase_17 0 rfl rfl ?_
  refine wa_getr (r := 34) dX3_fillBase_18 fkX3_12 rfl rfl rfl ?_
  refine wb_geti (v := M 34 0) dX3_fillBase_21 fkX3_68 rfl rfl rfl ?_
  refine wa_icmp_ge (tgt := 116) dX3_fillBase_24 rfl (fun hc => ?_) (fun hc => ?_)
  · replace hF := hF.1 hc
    exact wa_vret dX3_fillBase_116 rfl hF
  · replace hF := hF.2 hc
    refine wa_iload_n dX3_fillBase_27 1 rfl rfl ?_
    refine wa_iconst (v := 1) dX3_fillBase_28 rfl ?_
    refine wa_iadd dX3_fillBase_29 ?_
    refine wa_istore_n (lv' := [(2, .int (x1 + 1)), (0, .ref 33), (1, .int x1)]) dX3_fillBase_30 rfl rfl rfl ?_
    exact wa_pick [1, 2, 0] rfl hF

theorem bX3_fillBase_31 {X : a_X} {ad : Nat → Nat} {ca : Nat → ClassId} {d : Nat} {kc ks : Nat} {QF : List Frame → Array Value → State → State → Prop} {x : Nat} {M : a_M} (x1 : Int32) (x2 : Int32)  (hF : ((x2 ≤ 0 → (∃ Q1 : Int32 → a_M → Prop, Mt X ad ca LY d yX11_left cX11_left 3 (some FieldType.int) [.int ((M 36 0) * (M 34 3)), .int (M 34 2)] M (PT x) (q_i (PT x) Q1) ∧ ∀ v1 M1, Q1 v1 M1 → WA X ad ca LY RX3 cX3_fillBase 3 none (d + 1) kc ks QF 16 [(0, .ref 33), (1, .int (x1 + 1))] [] (ms M1 36 0 v1) (PT x))) ∧ (¬ x2 ≤ 0 → (vp_in x2 8 ∧ (vp_in (x2 - 1) 8 ∧ (∃ Q2 : Int32 → a_M → Prop, Mt X ad ca LY d yX11_left cX11_left 3 (some FieldType.int) [.int (((M 36 x2.toNatClampNeg) * (M 34 3)) + (M 36 ((x2 - 1).toNatClampNeg))), .int (M 34 2)] M (PT x) (q_i (PT x) Q2) ∧ ∀ v2 M2, Q2 v2 M2 → (vp_in x2 8 ∧ WA X ad ca LY RX3 cX3_fillBase 3 none (d + 1) kc ks QF 31 [(0, .ref 33), (1, .int x1), (2, .int (x2 + (-1)))] [] (ms M2 36 x2.toNatClampNeg v2) (PT x)))))))) : WA X ad ca LY RX3 cX3_fillBase 3 none (d + 1) kc ks QF 31 [(0, .ref 33), (1, .int x1), (2, .int x2)] [] M (PT x) := by
  refine wa_iload_n dX3_fillBase_31 2 rfl rfl ?_
  refine wa_if_le (tgt := 80) dX3_fillBase_32 rfl (fun hc => ?_) (fun hc => ?_)
  · replace hF := hF.1 hc
    refine wa_aload_n dX3_fillBase_80 0 rfl rfl ?_
    refine wa_getr (r := 36) dX3_fillBase_81 fkX3_26 rfl rfl rfl ?_
    refine wa_iconst (v := 0) dX3_fillBase_84 rfl ?_
    refine wa_aload_n dX3_fillBase_85 0 rfl rfl ?_
    refine wa_getr (r := 36) dX3_fillBase_86 fkX3_26 rfl rfl rfl ?_
    refine wa_iconst (v := 0) dX3_fillBase_89 rfl ?_
    refine wb_iald (j := 0) (v := M 36 0) dX3_fillBase_90 rfl (by unfold vp_in; decide) rfl rfl ?_
    refine wa_aload_n dX3_fillBase_91 0 rfl rfl ?_
    refine wa_getr (r := 34) dX3_fillBase_92 fkX3_12 rfl rfl rfl ?_
    refine wb_geti (v := M 34 3) dX3_fillBase_95 fkX3_57 rfl rfl rfl ?_
    refine wa_imul dX3_fillBase_98 ?_
    refine wa_aload_n dX3_fillBase_99 0 rfl rfl ?_
    refine wa_getr (r := 34) dX3_fillBase_100 fkX3_12 rfl rfl rfl ?_
    refine wb_geti (v := M 34 2) dX3_fillBase_103 fkX3_61 rfl rfl rfl ?_
    obtain ⟨Q1, hM9, hF⟩ := hF
    refine wa_callSN [.int ((M 36 0) * (M 34 3)), .int (M 34 2)] dX3_fillBase_106 (mmX11_left _ _) mkX3_107 mstX11_left rfl (a_dlt d) rfl rfl hM9 ?_
    rintro r9 M1 P9 ⟨v1, rfl, rfl, hq9⟩
    replace hF := hF v1 M1 hq9
    simp only [Option.toList, List.cons_append, List.nil_append]
    refine wb_iast (j := 0) dX3_fillBase_109 rfl (by unfold vp_in; decide) rfl ?_
    refine wa_iinc (v := x1 + 1) (lv' := [(1, .int (x1 + 1)), (0, .ref 33), (2, .int x2)]) dX3_fillBase_110 1 rfl rfl rfl rfl ?_
    refine wa_goto (tgt := 16) dX3_fillBase_113 rfl ?_
    exact wa_pick [1, 0] rfl hF
  · replace hF := hF.2 hc
    refine wa_aload_n dX3_fillBase_35 0 rfl rfl ?_
    refine wa_getr (r := 36) dX3_fillBase_36 fkX3_26 rfl rfl rfl ?_
    refine wa_iload_n dX3_fillBase_39 2 rfl rfl ?_
    refine wa_aload_n dX3_fillBase_40 0 rfl rfl ?_
    refine wa_getr (r := 36) dX3_fillBase_41 fkX3_26 rfl rfl rfl ?_
    refine wa_iload_n dX3_fillBase_44 2 rfl rfl ?_
    obtain ⟨hi9, hF⟩ := hF
    refine wb_iald (j := x2.toNatClampNeg) (v := M 36 x2.toNatClampNeg) dX3_fillBase_45 rfl hi9 rfl rfl ?_
    refine wa_aload_n dX3_fillBase_46 0 rfl rfl ?_
    refine wa_getr (r := 34) dX3_fillBase_47 fkX3_12 rfl rfl rfl ?_
    refine wb_geti (v := M 34 3) dX3_fillBase_50 fkX3_57 rfl rfl rfl ?_
    refine wa_imul dX3_fillBase_53 ?_
    refine wa_aload_n dX3_fillBase_54 0 rfl rfl ?_
    refine wa_getr (r := 36) dX3_fillBase_55 fkX3_26 rfl rfl rfl ?_
    refine wa_iload_n dX3_fillBase_58 2 rfl rfl ?_
    refine wa_iconst (v := 1) dX3_fillBase_59 rfl ?_
    refine wa_isub dX3_fillBase_60 ?_
    obtain ⟨hi9, hF⟩ := hF
    refine wb_iald (j := (x2 - 1).toNatClampNeg) (v := M 36 ((x2 - 1).toNatClampNeg)) dX3_fillBase_61 rfl hi9 rfl rfl ?_
    refine wa_iadd dX3_fillBase_62 ?_
    refine wa_aload_n dX3_fillBase_63 0 rfl rfl ?_
    refine wa_getr (r := 34) dX3_fillBase_64 fkX3_12 rfl rfl rfl ?_
    refine wb_geti (v := M 34 2) dX3_fillBase_67 fkX3_61 rfl rfl rfl ?_
    obtain ⟨Q2, hM9, hF⟩ := hF
    refine wa_callSN [.int (((M 36 x2.toNatClampNeg) * (M 34 3)) + (M 36 ((x2 - 1).toNatClampNeg))), .int (M 34 2)] dX3_fillBase_70 (mmX11_left _ _) mkX3_107 mstX11_left rfl (a_dlt d) rfl rfl hM9 ?_
    rintro r9 M2 P9 ⟨v2, rfl, rfl, hq9⟩
    replace hF := hF v2 M2 hq9
    simp only [Option.toList, List.cons_append, List.nil_append]
    obtain ⟨hi9, hF⟩ := hF
    refine wb_iast (j := x2.toNatClampNeg) dX3_fillBase_73 rfl hi9 rfl ?_
    refine wa_iinc (v := x2 + (-1)) (lv' := [(2, .int (x2 + (-1))), (0, .ref 33), (1, .int x1)]) dX3_fillBase_74 2 rfl rfl rfl rfl ?_
    refine wa_goto (tgt := 31) dX3_fillBase_77 rfl ?_
    exact wa_pick [1, 2, 0] rfl hF

theorem eX3_fillBase {X : a_X} {ad : Nat → Nat} {ca : Nat → ClassId} {d : Nat} {Post : Option Value → a_M → a_P → Prop} {x : Nat} {M : a_M}  (h : WA X ad ca LY RX3 cX3_fillBase 3 none d 0 0 (a_E X ad ca LY Post) 0 [(0, .ref 33)] [] M (PT x)) : Mt X ad ca LY d yX3_fillBase cX3_fillBase 3 none [.ref 33] M (PT x) Post := Mt.of (lv := [(0, .ref 33)]) (by decide +kernel) rfl rfl rfl (wa_pick [0] rfl h)

theorem bX3_openRow_0 {X : a_X} {ad : Nat → Nat} {ca : Nat → ClassId} {d : Nat} {kc ks : Nat} {QF : List Frame → Array Value → State → State → Prop} {x : Nat} {M : a_M} (x1 : Int32) (x2 : Int32)  (hF : ((¬ x2 = 2 → (∃ Q1 : Int32 → a_M → Prop, Mt X ad ca LY d yX11_left cX11_left 3 (some FieldType.int) [.int ((M 34 3) * x2), .int (M 34 2)] M (PT x) (q_i (PT x) Q1) ∧ ∀ v1 M1, Q1 v1 M1 → ((¬ x2 = 2 → ((¬ x2 = 2 → (∃ Q2 : a_M → Prop, Mt X ad ca LY d yX11_clear cX11_clear 2 none [.ref 37] M1 (PT x) (q_v (PT x) Q2) ∧ ∀ M2, Q2 M2 → (∃ Q3 : a_M → Prop, Mt X ad ca LY d yX11_clear cX11_clear 2 none [.ref 38] M2 (PT x) (q_v (PT x) Q3) ∧ ∀ M3, Q3 M3 → WA X ad ca LY RX3 cX3_openRow 7 none (d + 1) kc ks QF 112 [(0, .ref 33), (3, .int v1), (4, .int 0), (5, .int 0), (6, .int 0)] [] M3 (PT x)))) ∧ (x2 = 2 → (∃ Q4 : Int32 → a_M → Prop, Mt X ad ca LY d yX11_left cX11_left 3 (some FieldType.int) [.int ((M1 34 3) * (M1 34 3)), .int (M1 34 2)] M1 (PT x) (q_i (PT x) Q4) ∧ ∀ v4 M4, Q4 v4 M4 → (∃ Q5 : a_M → Prop, Mt X ad ca LY d yX11_clear cX11_clear 2 none [.ref 37] M4 (PT x) (q_v (PT x) Q5) ∧ ∀ M5, Q5 M5 → (∃ Q6 : a_M → Prop, Mt X ad ca LY d yX11_clear cX11_clear 2 none [.ref 38] M5 (PT x) (q_v (PT x) Q6) ∧ ∀ M6, Q6 M6 → WA X ad ca LY RX3 cX3_openRow 7 none (d + 1) kc ks QF 112 [(0, .ref 33), (3, .int v1), (4, .int 0), (5, .int v4), (6, .int 0)] [] M6 (PT x))))))) ∧ (x2 = 2 → (∃ Q7 : Int32 → a_M → Prop, Mt X ad ca LY d yX11_left cX11_left 3 (some FieldType.int) [.int (2 * (M1 34 3)), .int (M1 34 2)] M1 (PT x) (q_i (PT x) Q7) ∧ ∀ v7 M7, Q7 v7 M7 → ((¬ x2 = 2 → (∃ Q8 : a_M → Prop, Mt X ad ca LY d yX11_clear cX11_clear 2 none [.ref 37] M7 (PT x) (q_v (PT x) Q8) ∧ ∀ M8, Q8 M8 → (∃ Q9 : a_M → Prop, Mt X ad ca LY d yX11_clear cX11_clear 2 none [.ref 38] M8 (PT x) (q_v (PT x) Q9) ∧ ∀ M9, Q9 M9 → WA X ad ca LY RX3 cX3_openRow 7 none (d + 1) kc ks QF 112 [(0, .ref 33), (3, .int v1), (4, .int v7), (5, .int 0), (6, .int 0)] [] M9 (PT x)))) ∧ (x2 = 2 → (∃ Q10 : Int32 → a_M → Prop, Mt X ad ca LY d yX11_left cX11_left 3 (some FieldType.int) [.int ((M7 34 3) * (M7 34 3)), .int (M7 34 2)] M7 (PT x) (q_i (PT x) Q10) ∧ ∀ v10 M10, Q10 v10 M10 → (∃ Q11 : a_M → Prop, Mt X ad ca LY d yX11_clear cX11_clear 2 none [.ref 37] M10 (PT x) (q_v (PT x) Q11) ∧ ∀ M11, Q11 M11 → (∃ Q12 : a_M → Prop, Mt X ad ca LY d yX11_clear cX11_clear 2 none [.ref 38] M11 (PT x) (q_v (PT x) Q12) ∧ ∀ M12, Q12 M12 → WA X ad ca LY RX3 cX3_openRow 7 none (d + 1) kc ks QF 112 [(0, .ref 33), (3, .int v1), (4, .int v7), (5, .int v10), (6, .int 0)] [] M12 (PT x))))))))))) ∧ (x2 = 2 → (∃ Q13 : Int32 → a_M → Prop, Mt X ad ca LY d yX11_left cX11_left 3 (some FieldType.int) [.int ((M 34 3) * x1), .int (M 34 2)] M (PT x) (q_i (PT x) Q13) ∧ ∀ v13 M13, Q13 v13 M13 → ((¬ x2 = 2 → ((¬ x2 = 2 → (∃ Q14 : a_M → Prop, Mt X ad ca LY d yX11_clear cX11_clear 2 none [.ref 37] M13 (PT x) (q_v (PT x) Q14) ∧ ∀ M14, Q14 M14 → (∃ Q15 : a_M → Prop, Mt X ad ca LY d yX11_clear cX11_clear 2 none [.ref 38] M14 (PT x) (q_v (PT x) Q15) ∧ ∀ M15, Q15 M15 → WA X ad ca LY RX3 cX3_openRow 7 none (d + 1) kc ks QF 112 [(0, .ref 33), (3, .int v13), (4, .int 0), (5, .int 0), (6, .int 0)] [] M15 (PT x)))) ∧ (x2 = 2 → (∃ Q16 : Int32 → a_M → Prop, Mt X ad ca LY d yX11_left cX11_left 3 (some FieldType.int) [.int ((M13 34 3) * (M13 34 3)), .int (M13 34 2)] M13 (PT x) (q_i (PT x) Q16) ∧ ∀ v16 M16, Q16 v16 M16 → (∃ Q17 : a_M → Prop, Mt X ad ca LY d yX11_clear cX11_clear 2 none [.ref 37] M16 (PT x) (q_v (PT x) Q17) ∧ ∀ M17, Q17 M17 → (∃ Q18 : a_M → Prop, Mt X ad ca LY d yX11_clear cX11_clear 2 none [.ref 38] M17 (PT x) (q_v (PT x) Q18) ∧ ∀ M18, Q18 M18 → WA X ad ca LY RX3 cX3_openRow 7 none (d + 1) kc ks QF 112 [(0, .ref 33), (3, .int v13), (4, .int 0), (5, .int v16), (6, .int 0)] [] M18 (PT x))))))) ∧ (x2 = 2 → (∃ Q19 : Int32 → a_M → Prop, Mt X ad ca LY d yX11_left cX11_left 3 (some FieldType.int) [.int (2 * (M13 34 3)), .int (M13 34 2)] M13 (PT x) (q_i (PT x) Q19) ∧ ∀ v19 M19, Q19 v19 M19 → ((¬ x2 = 2 → (∃ Q20 : a_M → Prop, Mt X ad ca LY d yX11_clear cX11_clear 2 none [.ref 37] M19 (PT x) (q_v (PT x) Q20) ∧ ∀ M20, Q20 M20 → (∃ Q21 : a_M → Prop, Mt X ad ca LY d yX11_clear cX11_clear 2 none [.ref 38] M20 (PT x) (q_v (PT x) Q21) ∧ ∀ M21, Q21 M21 → WA X ad ca LY RX3 cX3_openRow 7 none (d + 1) kc ks QF 112 [(0, .ref 33), (3, .int v13), (4, .int v19), (5, .int 0), (6, .int 0)] [] M21 (PT x)))) ∧ (x2 = 2 → (∃ Q22 : Int32 → a_M → Prop, Mt X ad ca LY d yX11_left cX11_left 3 (some FieldType.int) [.int ((M19 34 3) * (M19 34 3)), .int (M19 34 2)] M19 (PT x) (q_i (PT x) Q22) ∧ ∀ v22 M22, Q22 v22 M22 → (∃ Q23 : a_M → Prop, Mt X ad ca LY d yX11_clear cX11_clear 2 none [.ref 37] M22 (PT x) (q_v (PT x) Q23) ∧ ∀ M23, Q23 M23 → (∃ Q24 : a_M → Prop, Mt X ad ca LY d yX11_clear cX11_clear 2 none [.ref 38] M23 (PT x) (q_v (PT x) Q24) ∧ ∀ M24, Q24 M24 → WA X ad ca LY RX3 cX3_openRow 7 none (d + 1) kc ks QF 112 [(0, .ref 33), (3, .int v13), (4, .int v19), (5, .int v22), (6, .int 0)] [] M24 (PT x))))))))))))) : WA X ad ca LY RX3 cX3_openRow 7 none (d + 1) kc ks QF 0 [(0, .ref 33), (1, .int x1), (2, .int x2)] [] M (PT x) := by
  refine wa_aload_n dX3_openRow_0 0 rfl rfl ?_
  refine wa_getr (r := 34) dX3_openRow_1 fkX3_12 rfl rfl rfl ?_
  refine wb_geti (v := M 34 3) dX3_openRow_4 fkX3_57 rfl rfl rfl ?_
  refine wa_iload_n dX3_openRow_7 2 rfl rfl ?_
  refine wa_iconst (v := 2) dX3_openRow_8 rfl ?_
  refine wa_icmp_ne (tgt := 16) dX3_openRow_9 rfl (fun hc => ?_) (fun hc => ?_)
  · replace hF := hF.1 hc
    refine wa_iload_n dX3_openRow_16 2 rfl rfl ?_
    refine wa_imul dX3_openRow_17 ?_
    refine wa_aload_n dX3_openRow_18 0 rfl rfl ?_
    refine wa_getr (r := 34) dX3_openRow_19 fkX3_12 rfl rfl rfl ?_
    refine wb_geti (v := M 34 2) dX3_openRow_22 fkX3_61 rfl rfl rfl ?_
    obtain ⟨Q1, hM9, hF⟩ := hF
    refine wa_callSN [.int ((M 34 3) * x2), .int (M 34 2)] dX3_openRow_25 (mmX11_left _ _) mkX3_107 mstX11_left rfl (a_dlt d) rfl rfl hM9 ?_
    rintro r9 M1 P9 ⟨v1, rfl, rfl, hq9⟩
    replace hF := hF v1 M1 hq9
    simp only [Option.toList, List.cons_append, List.nil_append]
    refine wa_istore_n (lv' := [(3, .int v1), (0, .ref 33), (1, .int x1), (2, .int x2)]) dX3_openRow_28 rfl rfl rfl ?_
    refine wa_iload_n dX3_openRow_29 3 rfl rfl ?_
    refine wa_iconst (v := 2) dX3_openRow_30 rfl ?_
    refine wa_icmp_ne (tgt := 56) dX3_openRow_31 rfl (fun hc => ?_) (fun hc => ?_)
    · replace hF := hF.1 hc
      refine wa_iconst (v := 0) dX3_openRow_56 rfl ?_
      refine wa_istore (lv' := [(4, .int 0), (3, .int v1), (0, .ref 33), (1, .int x1), (2, .int x2)]) dX3_openRow_57 rfl rfl ?_
      refine wa_iload_n dX3_openRow_59 4 rfl rfl ?_
      refine wa_iconst (v := 2) dX3_openRow_60 rfl ?_
      refine wa_icmp_ne (tgt := 92) dX3_openRow_61 rfl (fun hc => ?_) (fun hc => ?_)
      · replace hF := hF.1 hc
        refine wa_iconst (v := 0) dX3_openRow_92 rfl ?_
        refine wa_istore (lv' := [(5, .int 0), (4, .int 0), (3, .int v1), (0, .ref 33), (1, .int x1), (2, .int x2)]) dX3_openRow_93 rfl rfl ?_
        refine wa_aload_n dX3_openRow_95 3 rfl rfl ?_
        refine wa_getr (r := 37) dX3_openRow_96 fkX3_29 rfl rfl rfl ?_
        obtain ⟨Q2, hM9, hF⟩ := hF
        refine wa_callSN [.ref 37] dX3_openRow_99 (mmX11_clear _ _) mkX3_110 mstX11_clear rfl (a_dlt d) rfl rfl hM9 ?_
        rintro r9 M2 P9 ⟨rfl, rfl, hq9⟩
        replace hF := hF M2 hq9
        simp only [Option.toList, List.nil_append]
        refine wa_aload_n dX3_openRow_102 3 rfl rfl ?_
        refine wa_getr (r := 38) dX3_openRow_103 fkX3_32 rfl rfl rfl ?_
        obtain ⟨Q3, hM9, hF⟩ := hF
        refine wa_callSN [.ref 38] dX3_openRow_106 (mmX11_clear _ _) mkX3_110 mstX11_clear rfl (a_dlt d) rfl rfl hM9 ?_
        rintro r9 M3 P9 ⟨rfl, rfl, hq9⟩
        replace hF := hF M3 hq9
        simp only [Option.toList, List.nil_append]
        refine wa_iconst (v := 0) dX3_openRow_109 rfl ?_
        refine wa_istore (lv' := [(6, .int 0), (5, .int 0), (4, .int 0), (3, .int v1), (0, .ref 33), (1, .int x1), (2, .int x2)]) dX3_openRow_110 rfl rfl ?_
        exact wa_pick [4, 3, 2, 1, 0] rfl hF
      · replace hF := hF.2 hc
        refine wa_aload_n dX3_openRow_64 2 rfl rfl ?_
        refine wa_getr (r := 34) dX3_openRow_65 fkX3_12 rfl rfl rfl ?_
        refine wb_geti (v := M1 34 3) dX3_openRow_68 fkX3_57 rfl rfl rfl ?_
        refine wa_aload_n dX3_openRow_71 2 rfl rfl ?_
        refine wa_getr (r := 34) dX3_openRow_72 fkX3_12 rfl rfl rfl ?_
        refine wb_geti (v := M1 34 3) dX3_openRow_75 fkX3_57 rfl rfl rfl ?_
        refine wa_imul dX3_openRow_78 ?_
        refine wa_aload_n dX3_openRow_79 2 rfl rfl ?_
        refine wa_getr (r := 34) dX3_openRow_80 fkX3_12 rfl rfl rfl ?_
        refine wb_geti (v := M1 34 2) dX3_openRow_83 fkX3_61 rfl rfl rfl ?_
        obtain ⟨Q4, hM9, hF⟩ := hF
        refine wa_callSN [.int ((M1 34 3) * (M1 34 3)), .int (M1 34 2)] dX3_openRow_86 (mmX11_left _ _) mkX3_107 mstX11_left rfl (a_dlt d) rfl rfl hM9 ?_
        rintro r9 M4 P9 ⟨v4, rfl, rfl, hq9⟩
        replace hF := hF v4 M4 hq9
        simp only [Option.toList, List.cons_append, List.nil_append]
        refine wa_goto (tgt := 93) dX3_openRow_89 rfl ?_
        refine wa_istore (lv' := [(5, .int v4), (4, .int 0), (3, .int v1), (0, .ref 33), (1, .int x1), (2, .int x2)]) dX3_openRow_93 rfl rfl ?_
        refine wa_aload_n dX3_openRow_95 3 rfl rfl ?_
        refine wa_getr (r := 37) dX3_openRow_96 fkX3_29 rfl rfl rfl ?_
        obtain ⟨Q5, hM9, hF⟩ := hF
        refine wa_callSN [.ref 37] dX3_openRow_99 (mmX11_clear _ _) mkX3_110 mstX11_clear rfl (a_dlt d) rfl rfl hM9 ?_
        rintro r9 M5 P9 ⟨rfl, rfl, hq9⟩
        replace hF := hF M5 hq9
        simp only [Option.toList, List.nil_append]
        refine wa_aload_n dX3_openRow_102 3 rfl rfl ?_
        refine wa_getr (r := 38) dX3_openRow_103 fkX3_32 rfl rfl rfl ?_
        obtain ⟨Q6, hM9, hF⟩ := hF
        refine wa_callSN [.ref 38] dX3_openRow_106 (mmX11_clear _ _) mkX3_110 mstX11_clear rfl (a_dlt d) rfl rfl hM9 ?_
        rintro r9 M6 P9 ⟨rfl, rfl, hq9⟩
        replace hF := hF M6 hq9
        simp only [Option.toList, List.nil_append]
        refine wa_iconst (v := 0) dX3_openRow_109 rfl ?_
        refine wa_istore (lv' := [(6, .int 0), (5, .int v4), (4, .int 0), (3, .int v1), (0, .ref 33), (1, .int x1), (2, .int x2)]) dX3_openRow_110 rfl rfl ?_
        exact wa_pick [4, 3, 2, 1, 0] rfl hF
    · replace hF := hF.2 hc
      refine wa_iconst (v := 2) dX3_openRow_34 rfl ?_
      refine wa_aload_n dX3_openRow_35 1 rfl rfl ?_
      refine wa_getr (r := 34) dX3_openRow_36 fkX3_12 rfl rfl rfl ?_
      refine wb_geti (v := M1 34 3) dX3_openRow_39 fkX3_57 rfl rfl rfl ?_
      refine wa_imul dX3_openRow_42 ?_
      refine wa_aload_n dX3_openRow_43 1 rfl rfl ?_
      refine wa_getr (r := 34) dX3_openRow_44 fkX3_12 rfl rfl rfl ?_
      refine wb_geti (v := M1 34 2) dX3_openRow_47 fkX3_61 rfl rfl rfl ?_
      obtain ⟨Q7, hM9, hF⟩ := hF
      refine wa_callSN [.int (2 * (M1 34 3)), .int (M1 34 2)] dX3_openRow_50 (mmX11_left _ _) mkX3_107 mstX11_left rfl (a_dlt d) rfl rfl hM9 ?_
      rintro r9 M7 P9 ⟨v7, rfl, rfl, hq9⟩
      replace hF := hF v7 M7 hq9
      simp only [Option.toList, List.cons_append, List.nil_append]
      refine wa_goto (tgt := 57) dX3_openRow_53 rfl ?_
      refine wa_istore (lv' := [(4, .int v7), (3, .int v1), (0, .ref 33), (1, .int x1), (2, .int x2)]) dX3_openRow_57 rfl rfl ?_
      refine wa_iload_n dX3_openRow_59 4 rfl rfl ?_
      refine wa_iconst (v := 2) dX3_openRow_60 rfl ?_
      refine wa_icmp_ne (tgt := 92) dX3_openRow_61 rfl (fun hc => ?_) (fun hc => ?_)
      · replace hF := hF.1 hc
        refine wa_iconst (v := 0) dX3_openRow_92 rfl ?_
        refine wa_istore (lv' := [(5, .int 0), (4, .int v7), (3, .int v1), (0, .ref 33), (1, .int x1), (2, .int x2)]) dX3_openRow_93 rfl rfl ?_
        refine wa_aload_n dX3_openRow_95 3 rfl rfl ?_
        refine wa_getr (r := 37) dX3_openRow_96 fkX3_29 rfl rfl rfl ?_
        obtain ⟨Q8, hM9, hF⟩ := hF
        refine wa_callSN [.ref 37] dX3_openRow_99 (mmX11_clear _ _) mkX3_110 mstX11_clear rfl (a_dlt d) rfl rfl hM9 ?_
        rintro r9 M8 P9 ⟨rfl, rfl, hq9⟩
        replace hF := hF M8 hq9
        simp only [Option.toList, List.nil_append]
        refine wa_aload_n dX3_openRow_102 3 rfl rfl ?_
        refine wa_getr (r := 38) dX3_openRow_103 fkX3_32 rfl rfl rfl ?_
        obtain ⟨Q9, hM9, hF⟩ := hF
        refine wa_callSN [.ref 38] dX3_openRow_106 (mmX11_clear _ _) mkX3_110 mstX11_clear rfl (a_dlt d) rfl rfl hM9 ?_
        rintro r9 M9 P9 ⟨rfl, rfl, hq9⟩
        replace hF := hF M9 hq9
        simp only [Option.toList, List.nil_append]
        refine wa_iconst (v := 0) dX3_openRow_109 rfl ?_
        refine wa_istore (lv' := [(6, .int 0), (5, .int 0), (4, .int v7), (3, .int v1), (0, .ref 33), (1, .int x1), (2, .int x2)]) dX3_openRow_110 rfl rfl ?_
        exact wa_pick [4, 3, 2, 1, 0] rfl hF
      · replace hF := hF.2 hc
        refine wa_aload_n dX3_openRow_64 2 rfl rfl ?_
        refine wa_getr (r := 34) dX3_openRow_65 fkX3_12 rfl rfl rfl ?_
        refine wb_geti (v := M7 34 3) dX3_openRow_68 fkX3_57 rfl rfl rfl ?_
        refine wa_aload_n dX3_openRow_71 2 rfl rfl ?_
        refine wa_getr (r := 34) dX3_openRow_72 fkX3_12 rfl rfl rfl ?_
        refine wb_geti (v := M7 34 3) dX3_openRow_75 fkX3_57 rfl rfl rfl ?_
        refine wa_imul dX3_openRow_78 ?_
        refine wa_aload_n dX3_openRow_79 2 rfl rfl ?_
        refine wa_getr (r := 34) dX3_openRow_80 fkX3_12 rfl rfl rfl ?_
        refine wb_geti (v := M7 34 2) dX3_openRow_83 fkX3_61 rfl rfl rfl ?_
        obtain ⟨Q10, hM9, hF⟩ := hF
        refine wa_callSN [.int ((M7 34 3) * (M7 34 3)), .int (M7 34 2)] dX3_openRow_86 (mmX11_left _ _) mkX3_107 mstX11_left rfl (a_dlt d) rfl rfl hM9 ?_
        rintro r9 M10 P9 ⟨v10, rfl, rfl, hq9⟩
        replace hF := hF v10 M10 hq9
        simp only [Option.toList, List.cons_append, List.nil_append]
        refine wa_goto (tgt := 93) dX3_openRow_89 rfl ?_
        refine wa_istore (lv' := [(5, .int v10), (4, .int v7), (3, .int v1), (0, .ref 33), (1, .int x1), (2, .int x2)]) dX3_openRow_93 rfl rfl ?_
        refine wa_aload_n dX3_openRow_95 3 rfl rfl ?_
        refine wa_getr (r := 37) dX3_openRow_96 fkX3_29 rfl rfl rfl ?_
        obtain ⟨Q11, hM9, hF⟩ := hF
        refine wa_callSN [.ref 37] dX3_openRow_99 (mmX11_clear _ _) mkX3_110 mstX11_clear rfl (a_dlt d) rfl rfl hM9 ?_
        rintro r9 M11 P9 ⟨rfl, rfl, hq9⟩
        replace hF := hF M11 hq9
        simp only [Option.toList, List.nil_append]
        refine wa_aload_n dX3_openRow_102 3 rfl rfl ?_
        refine wa_getr (r := 38) dX3_openRow_103 fkX3_32 rfl rfl rfl ?_
        obtain ⟨Q12, hM9, hF⟩ := hF
        refine wa_callSN [.ref 38] dX3_openRow_106 (mmX11_clear _ _) mkX3_110 mstX11_clear rfl (a_dlt d) rfl rfl hM9 ?_
        rintro r9 M12 P9 ⟨rfl, rfl, hq9⟩
        replace hF := hF M12 hq9
        simp only [Option.toList, List.nil_append]
        refine wa_iconst (v := 0) dX3_openRow_109 rfl ?_
        refine wa_istore (lv' := [(6, .int 0), (5, .int v10), (4, .int v7), (3, .int v1), (0, .ref 33), (1, .int x1), (2, .int x2)]) dX3_openRow_110 rfl rfl ?_
        exact wa_pick [4, 3, 2, 1, 0] rfl hF
  · replace hF := hF.2 hc
    refine wa_iload_n dX3_openRow_12 1 rfl rfl ?_
    refine wa_goto (tgt := 17) dX3_openRow_13 rfl ?_
    refine wa_imul dX3_openRow_17 ?_
    refine wa_aload_n dX3_openRow_18 0 rfl rfl ?_
    refine wa_getr (r := 34) dX3_openRow_19 fkX3_12 rfl rfl rfl ?_
    refine wb_geti (v := M 34 2) dX3_openRow_22 fkX3_61 rfl rfl rfl ?_
    obtain ⟨Q13, hM9, hF⟩ := hF
    refine wa_callSN [.int ((M 34 3) * x1), .int (M 34 2)] dX3_openRow_25 (mmX11_left _ _) mkX3_107 mstX11_left rfl (a_dlt d) rfl rfl hM9 ?_
    rintro r9 M13 P9 ⟨v13, rfl, rfl, hq9⟩
    replace hF := hF v13 M13 hq9
    simp only [Option.toList, List.cons_append, List.nil_append]
    refine wa_istore_n (lv' := [(3, .int v13), (0, .ref 33), (1, .int x1), (2, .int x2)]) dX3_openRow_28 rfl rfl rfl ?_
    refine wa_iload_n dX3_openRow_29 3 rfl rfl ?_
    refine wa_iconst (v := 2) dX3_openRow_30 rfl ?_
    refine wa_icmp_ne (tgt := 56) dX3_openRow_31 rfl (fun hc => ?_) (fun hc => ?_)
    · replace hF := hF.1 hc
      refine wa_iconst (v := 0) dX3_openRow_56 rfl ?_
      refine wa_istore (lv' := [(4, .int 0), (3, .int v13), (0, .ref 33), (1, .int x1), (2, .int x2)]) dX3_openRow_57 rfl rfl ?_
      refine wa_iload_n dX3_openRow_59 4 rfl rfl ?_
      refine wa_iconst (v := 2) dX3_openRow_60 rfl ?_
      refine wa_icmp_ne (tgt := 92) dX3_openRow_61 rfl (fun hc => ?_) (fun hc => ?_)
      · replace hF := hF.1 hc
        refine wa_iconst (v := 0) dX3_openRow_92 rfl ?_
        refine wa_istore (lv' := [(5, .int 0), (4, .int 0), (3, .int v13), (0, .ref 33), (1, .int x1), (2, .int x2)]) dX3_openRow_93 rfl rfl ?_
        refine wa_aload_n dX3_openRow_95 3 rfl rfl ?_
        refine wa_getr (r := 37) dX3_openRow_96 fkX3_29 rfl rfl rfl ?_
        obtain ⟨Q14, hM9, hF⟩ := hF
        refine wa_callSN [.ref 37] dX3_openRow_99 (mmX11_clear _ _) mkX3_110 mstX11_clear rfl (a_dlt d) rfl rfl hM9 ?_
        rintro r9 M14 P9 ⟨rfl, rfl, hq9⟩
        replace hF := hF M14 hq9
        simp only [Option.toList, List.nil_append]
        refine wa_aload_n dX3_openRow_102 3 rfl rfl ?_
        refine wa_getr (r := 38) dX3_openRow_103 fkX3_32 rfl rfl rfl ?_
        obtain ⟨Q15, hM9, hF⟩ := hF
        refine wa_callSN [.ref 38] dX3_openRow_106 (mmX11_clear _ _) mkX3_110 mstX11_clear rfl (a_dlt d) rfl rfl hM9 ?_
        rintro r9 M15 P9 ⟨rfl, rfl, hq9⟩
        replace hF := hF M15 hq9
        simp only [Option.toList, List.nil_append]
        refine wa_iconst (v := 0) dX3_openRow_109 rfl ?_
        refine wa_istore (lv' := [(6, .int 0), (5, .int 0), (4, .int 0), (3, .int v13), (0, .ref 33), (1, .int x1), (2, .int x2)]) dX3_openRow_110 rfl rfl ?_
        exact wa_pick [4, 3, 2, 1, 0] rfl hF
      · replace hF := hF.2 hc
        refine wa_aload_n dX3_openRow_64 2 rfl rfl ?_
        refine wa_getr (r := 34) dX3_openRow_65 fkX3_12 rfl rfl rfl ?_
        refine wb_geti (v := M13 34 3) dX3_openRow_68 fkX3_57 rfl rfl rfl ?_
        refine wa_aload_n dX3_openRow_71 2 rfl rfl ?_
        refine wa_getr (r := 34) dX3_openRow_72 fkX3_12 rfl rfl rfl ?_
        refine wb_geti (v := M13 34 3) dX3_openRow_75 fkX3_57 rfl rfl rfl ?_
        refine wa_imul dX3_openRow_78 ?_
        refine wa_aload_n dX3_openRow_79 2 rfl rfl ?_
        refine wa_getr (r := 34) dX3_openRow_80 fkX3_12 rfl rfl rfl ?_
        refine wb_geti (v := M13 34 2) dX3_openRow_83 fkX3_61 rfl rfl rfl ?_
        obtain ⟨Q16, hM9, hF⟩ := hF
        refine wa_callSN [.int ((M13 34 3) * (M13 34 3)), .int (M13 34 2)] dX3_openRow_86 (mmX11_left _ _) mkX3_107 mstX11_left rfl (a_dlt d) rfl rfl hM9 ?_
        rintro r9 M16 P9 ⟨v16, rfl, rfl, hq9⟩
        replace hF := hF v16 M16 hq9
        simp only [Option.toList, List.cons_append, List.nil_append]
        refine wa_goto (tgt := 93) dX3_openRow_89 rfl ?_
        refine wa_istore (lv' := [(5, .int v16), (4, .int 0), (3, .int v13), (0, .ref 33), (1, .int x1), (2, .int x2)]) dX3_openRow_93 rfl rfl ?_
        refine wa_aload_n dX3_openRow_95 3 rfl rfl ?_
        refine wa_getr (r := 37) dX3_openRow_96 fkX3_29 rfl rfl rfl ?_
        obtain ⟨Q17, hM9, hF⟩ := hF
        refine wa_callSN [.ref 37] dX3_openRow_99 (mmX11_clear _ _) mkX3_110 mstX11_clear rfl (a_dlt d) rfl rfl hM9 ?_
        rintro r9 M17 P9 ⟨rfl, rfl, hq9⟩
        replace hF := hF M17 hq9
        simp only [Option.toList, List.nil_append]
        refine wa_aload_n dX3_openRow_102 3 rfl rfl ?_
        refine wa_getr (r := 38) dX3_openRow_103 fkX3_32 rfl rfl rfl ?_
        obtain ⟨Q18, hM9, hF⟩ := hF
        refine wa_callSN [.ref 38] dX3_openRow_106 (mmX11_clear _ _) mkX3_110 mstX11_clear rfl (a_dlt d) rfl rfl hM9 ?_
        rintro r9 M18 P9 ⟨rfl, rfl, hq9⟩
        replace hF := hF M18 hq9
        simp only [Option.toList, List.nil_append]
        refine wa_iconst (v := 0) dX3_openRow_109 rfl ?_
        refine wa_istore (lv' := [(6, .int 0), (5, .int v16), (4, .int 0), (3, .int v13), (0, .ref 33), (1, .int x1), (2, .int x2)]) dX3_openRow_110 rfl rfl ?_
        exact wa_pick [4, 3, 2, 1, 0] rfl hF
    · replace hF := hF.2 hc
      refine wa_iconst (v := 2) dX3_openRow_34 rfl ?_
      refine wa_aload_n dX3_openRow_35 1 rfl rfl ?_
      refine wa_getr (r := 34) dX3_openRow_36 fkX3_12 rfl rfl rfl ?_
      refine wb_geti (v := M13 34 3) dX3_openRow_39 fkX3_57 rfl rfl rfl ?_
      refine wa_imul dX3_openRow_42 ?_
      refine wa_aload_n dX3_openRow_43 1 rfl rfl ?_
      refine wa_getr (r := 34) dX3_openRow_44 fkX3_12 rfl rfl rfl ?_
      refine wb_geti (v := M13 34 2) dX3_openRow_47 fkX3_61 rfl rfl rfl ?_
      obtain ⟨Q19, hM9, hF⟩ := hF
      refine wa_callSN [.int (2 * (M13 34 3)), .int (M13 34 2)] dX3_openRow_50 (mmX11_left _ _) mkX3_107 mstX11_left rfl (a_dlt d) rfl rfl hM9 ?_
      rintro r9 M19 P9 ⟨v19, rfl, rfl, hq9⟩
      replace hF := hF v19 M19 hq9
      simp only [Option.toList, List.cons_append, List.nil_append]
      refine wa_goto (tgt := 57) dX3_openRow_53 rfl ?_
      refine wa_istore (lv' := [(4, .int v19), (3, .int v13), (0, .ref 33), (1, .int x1), (2, .int x2)]) dX3_openRow_57 rfl rfl ?_
      refine wa_iload_n dX3_openRow_59 4 rfl rfl ?_
      refine wa_iconst (v := 2) dX3_openRow_60 rfl ?_
      refine wa_icmp_ne (tgt := 92) dX3_openRow_61 rfl (fun hc => ?_) (fun hc => ?_)
      · replace hF := hF.1 hc
        refine wa_iconst (v := 0) dX3_openRow_92 rfl ?_
        refine wa_istore (lv' := [(5, .int 0), (4, .int v19), (3, .int v13), (0, .ref 33), (1, .int x1), (2, .int x2)]) dX3_openRow_93 rfl rfl ?_
        refine wa_aload_n dX3_openRow_95 3 rfl rfl ?_
        refine wa_getr (r := 37) dX3_openRow_96 fkX3_29 rfl rfl rfl ?_
        obtain ⟨Q20, hM9, hF⟩ := hF
        refine wa_callSN [.ref 37] dX3_openRow_99 (mmX11_clear _ _) mkX3_110 mstX11_clear rfl (a_dlt d) rfl rfl hM9 ?_
        rintro r9 M20 P9 ⟨rfl, rfl, hq9⟩
        replace hF := hF M20 hq9
        simp only [Option.toList, List.nil_append]
        refine wa_aload_n dX3_openRow_102 3 rfl rfl ?_
        refine wa_getr (r := 38) dX3_openRow_103 fkX3_32 rfl rfl rfl ?_
        obtain ⟨Q21, hM9, hF⟩ := hF
        refine wa_callSN [.ref 38] dX3_openRow_106 (mmX11_clear _ _) mkX3_110 mstX11_clear rfl (a_dlt d) rfl rfl hM9 ?_
        rintro r9 M21 P9 ⟨rfl, rfl, hq9⟩
        replace hF := hF M21 hq9
        simp only [Option.toList, List.nil_append]
        refine wa_iconst (v := 0) dX3_openRow_109 rfl ?_
        refine wa_istore (lv' := [(6, .int 0), (5, .int 0), (4, .int v19), (3, .int v13), (0, .ref 33), (1, .int x1), (2, .int x2)]) dX3_openRow_110 rfl rfl ?_
        exact wa_pick [4, 3, 2, 1, 0] rfl hF
      · replace hF := hF.2 hc
        refine wa_aload_n dX3_openRow_64 2 rfl rfl ?_
        refine wa_getr (r := 34) dX3_openRow_65 fkX3_12 rfl rfl rfl ?_
        refine wb_geti (v := M19 34 3) dX3_openRow_68 fkX3_57 rfl rfl rfl ?_
        refine wa_aload_n dX3_openRow_71 2 rfl rfl ?_
        refine wa_getr (r := 34) dX3_openRow_72 fkX3_12 rfl rfl rfl ?_
        refine wb_geti (v := M19 34 3) dX3_openRow_75 fkX3_57 rfl rfl rfl ?_
        refine wa_imul dX3_openRow_78 ?_
        refine wa_aload_n dX3_openRow_79 2 rfl rfl ?_
        refine wa_getr (r := 34) dX3_openRow_80 fkX3_12 rfl rfl rfl ?_
        refine wb_geti (v := M19 34 2) dX3_openRow_83 fkX3_61 rfl rfl rfl ?_
        obtain ⟨Q22, hM9, hF⟩ := hF
        refine wa_callSN [.int ((M19 34 3) * (M19 34 3)), .int (M19 34 2)] dX3_openRow_86 (mmX11_left _ _) mkX3_107 mstX11_left rfl (a_dlt d) rfl rfl hM9 ?_
        rintro r9 M22 P9 ⟨v22, rfl, rfl, hq9⟩
        replace hF := hF v22 M22 hq9
        simp only [Option.toList, List.cons_append, List.nil_append]
        refine wa_goto (tgt := 93) dX3_openRow_89 rfl ?_
        refine wa_istore (lv' := [(5, .int v22), (4, .int v19), (3, .int v13), (0, .ref 33), (1, .int x1), (2, .int x2)]) dX3_openRow_93 rfl rfl ?_
        refine wa_aload_n dX3_openRow_95 3 rfl rfl ?_
        refine wa_getr (r := 37) dX3_openRow_96 fkX3_29 rfl rfl rfl ?_
        obtain ⟨Q23, hM9, hF⟩ := hF
        refine wa_callSN [.ref 37] dX3_openRow_99 (mmX11_clear _ _) mkX3_110 mstX11_clear rfl (a_dlt d) rfl rfl hM9 ?_
        rintro r9 M23 P9 ⟨rfl, rfl, hq9⟩
        replace hF := hF M23 hq9
        simp only [Option.toList, List.nil_append]
        refine wa_aload_n dX3_openRow_102 3 rfl rfl ?_
        refine wa_getr (r := 38) dX3_openRow_103 fkX3_32 rfl rfl rfl ?_
        obtain ⟨Q24, hM9, hF⟩ := hF
        refine wa_callSN [.ref 38] dX3_openRow_106 (mmX11_clear _ _) mkX3_110 mstX11_clear rfl (a_dlt d) rfl rfl hM9 ?_
        rintro r9 M24 P9 ⟨rfl, rfl, hq9⟩
        replace hF := hF M24 hq9
        simp only [Option.toList, List.nil_append]
        refine wa_iconst (v := 0) dX3_openRow_109 rfl ?_
        refine wa_istore (lv' := [(6, .int 0), (5, .int v22), (4, .int v19), (3, .int v13), (0, .ref 33), (1, .int x1), (2, .int x2)]) dX3_openRow_110 rfl rfl ?_
        exact wa_pick [4, 3, 2, 1, 0] rfl hF

theorem bX3_openRow_112 {X : a_X} {ad : Nat → Nat} {ca : Nat → ClassId} {d : Nat} {kc ks : Nat} {QF : List Frame → Array Value → State → State → Prop} {x : Nat} {M : a_M} (x3 : Int32) (x4 : Int32) (x5 : Int32) (x6 : Int32)  (hF : (((M 34 0) < x6 → (vp_in (M 34 0) 11 ∧ (vp_in (M 34 0) 11 ∧ (vp_in ((M 34 0) + 1) 11 ∧ (vp_in ((M 34 0) + 1) 11 ∧ WA X ad ca LY RX3 cX3_openRow 7 none (d + 1) kc ks QF 215 [(0, .ref 33), (6, .int 0)] [] (ms (ms M 37 ((M 34 0).toNatClampNeg) ((M 37 ((M 34 0).toNatClampNeg)) + (x5 + x3))) 37 (((M 34 0) + 1).toNatClampNeg) (((ms M 37 ((M 34 0).toNatClampNeg) ((M 37 ((M 34 0).toNatClampNeg)) + (x5 + x3))) 37 (((M 34 0) + 1).toNatClampNeg)) + x4)) (PT x)))))) ∧ (¬ (M 34 0) < x6 → (vp_in x6 11 ∧ (vp_in x6 8 ∧ (vp_in x6 11 ∧ (vp_in (x6 + 1) 11 ∧ (vp_in x6 8 ∧ (vp_in (x6 + 1) 11 ∧ WA X ad ca LY RX3 cX3_openRow 7 none (d + 1) kc ks QF 112 [(0, .ref 33), (3, .int x3), (4, .int x4), (5, .int x5), (6, .int (x6 + 1))] [] (ms (ms M 37 x6.toNatClampNeg ((M 37 x6.toNatClampNeg) + ((M 36 x6.toNatClampNeg) * (x5 - x3)))) 37 ((x6 + 1).toNatClampNeg) (((ms M 37 x6.toNatClampNeg ((M 37 x6.toNatClampNeg) + ((M 36 x6.toNatClampNeg) * (x5 - x3)))) 37 ((x6 + 1).toNatClampNeg)) - ((M 36 x6.toNatClampNeg) * x4))) (PT x)))))))))) : WA X ad ca LY RX3 cX3_openRow 7 none (d + 1) kc ks QF 112 [(0, .ref 33), (3, .int x3), (4, .int x4), (5, .int x5), (6, .int x6)] [] M (PT x) := by
  refine wa_iload dX3_openRow_112 4 rfl ?_
  refine wa_aload_n dX3_openRow_114 0 rfl rfl ?_
  refine wa_getr (r := 34) dX3_openRow_115 fkX3_12 rfl rfl rfl ?_
  refine wb_geti (v := M 34 0) dX3_openRow_118 fkX3_68 rfl rfl rfl ?_
  refine wa_icmp_gt (tgt := 174) dX3_openRow_121 rfl (fun hc => ?_) (fun hc => ?_)
  · replace hF := hF.1 hc
    refine wa_aload_n dX3_openRow_174 0 rfl rfl ?_
    refine wa_getr (r := 37) dX3_openRow_175 fkX3_29 rfl rfl rfl ?_
    refine wa_aload_n dX3_openRow_178 0 rfl rfl ?_
    refine wa_getr (r := 34) dX3_openRow_179 fkX3_12 rfl rfl rfl ?_
    refine wb_geti (v := M 34 0) dX3_openRow_182 fkX3_68 rfl rfl rfl ?_
    refine wa_dup2 dX3_openRow_185 rfl rfl ?_
    obtain ⟨hi9, hF⟩ := hF
    refine wb_iald (j := (M 34 0).toNatClampNeg) (v := M 37 ((M 34 0).toNatClampNeg)) dX3_openRow_186 rfl hi9 rfl rfl ?_
    refine wa_iload dX3_openRow_187 3 rfl ?_
    refine wa_iload_n dX3_openRow_189 1 rfl rfl ?_
    refine wa_iadd dX3_openRow_190 ?_
    refine wa_iadd dX3_openRow_191 ?_
    obtain ⟨hi9, hF⟩ := hF
    refine wb_iast (j := (M 34 0).toNatClampNeg) dX3_openRow_192 rfl hi9 rfl ?_
    refine wa_aload_n dX3_openRow_193 0 rfl rfl ?_
    refine wa_getr (r := 37) dX3_openRow_194 fkX3_29 rfl rfl rfl ?_
    refine wa_aload_n dX3_openRow_197 0 rfl rfl ?_
    refine wa_getr (r := 34) dX3_openRow_198 fkX3_12 rfl rfl rfl ?_
    refine wb_geti (v := M 34 0) dX3_openRow_201 fkX3_68 rfl rfl ((ms_no M 37 ((M 34 0).toNatClampNeg) ((M 37 ((M 34 0).toNatClampNeg)) + (x5 + x3)) 34 0 (fun h9 => absurd h9.1 (by decide))).trans rfl) ?_
    refine wa_iconst (v := 1) dX3_openRow_204 rfl ?_
    refine wa_iadd dX3_openRow_205 ?_
    refine wa_dup2 dX3_openRow_206 rfl rfl ?_
    obtain ⟨hi9, hF⟩ := hF
    refine wb_iald (j := ((M 34 0) + 1).toNatClampNeg) (v := (ms M 37 ((M 34 0).toNatClampNeg) ((M 37 ((M 34 0).toNatClampNeg)) + (x5 + x3))) 37 (((M 34 0) + 1).toNatClampNeg)) dX3_openRow_207 rfl hi9 rfl rfl ?_
    refine wa_iload dX3_openRow_208 2 rfl ?_
    refine wa_iadd dX3_openRow_210 ?_
    obtain ⟨hi9, hF⟩ := hF
    refine wb_iast (j := ((M 34 0) + 1).toNatClampNeg) dX3_openRow_211 rfl hi9 rfl ?_
    refine wa_iconst (v := 0) dX3_openRow_212 rfl ?_
    refine wa_istore (lv' := [(6, .int 0), (0, .ref 33), (3, .int x3), (4, .int x4), (5, .int x5)]) dX3_openRow_213 rfl rfl ?_
    exact wa_pick [1, 0] rfl hF
  · replace hF := hF.2 hc
    refine wa_aload_n dX3_openRow_124 0 rfl rfl ?_
    refine wa_getr (r := 37) dX3_openRow_125 fkX3_29 rfl rfl rfl ?_
    refine wa_iload dX3_openRow_128 4 rfl ?_
    refine wa_dup2 dX3_openRow_130 rfl rfl ?_
    obtain ⟨hi9, hF⟩ := hF
    refine wb_iald (j := x6.toNatClampNeg) (v := M 37 x6.toNatClampNeg) dX3_openRow_131 rfl hi9 rfl rfl ?_
    refine wa_aload_n dX3_openRow_132 0 rfl rfl ?_
    refine wa_getr (r := 36) dX3_openRow_133 fkX3_26 rfl rfl rfl ?_
    refine wa_iload dX3_openRow_136 4 rfl ?_
    obtain ⟨hi9, hF⟩ := hF
    refine wb_iald (j := x6.toNatClampNeg) (v := M 36 x6.toNatClampNeg) dX3_openRow_138 rfl hi9 rfl rfl ?_
    refine wa_iload dX3_openRow_139 3 rfl ?_
    refine wa_iload_n dX3_openRow_141 1 rfl rfl ?_
    refine wa_isub dX3_openRow_142 ?_
    refine wa_imul dX3_openRow_143 ?_
    refine wa_iadd dX3_openRow_144 ?_
    obtain ⟨hi9, hF⟩ := hF
    refine wb_iast (j := x6.toNatClampNeg) dX3_openRow_145 rfl hi9 rfl ?_
    refine wa_aload_n dX3_openRow_146 0 rfl rfl ?_
    refine wa_getr (r := 37) dX3_openRow_147 fkX3_29 rfl rfl rfl ?_
    refine wa_iload dX3_openRow_150 4 rfl ?_
    refine wa_iconst (v := 1) dX3_openRow_152 rfl ?_
    refine wa_iadd dX3_openRow_153 ?_
    refine wa_dup2 dX3_openRow_154 rfl rfl ?_
    obtain ⟨hi9, hF⟩ := hF
    refine wb_iald (j := (x6 + 1).toNatClampNeg) (v := (ms M 37 x6.toNatClampNeg ((M 37 x6.toNatClampNeg) + ((M 36 x6.toNatClampNeg) * (x5 - x3)))) 37 ((x6 + 1).toNatClampNeg)) dX3_openRow_155 rfl hi9 rfl rfl ?_
    refine wa_aload_n dX3_openRow_156 0 rfl rfl ?_
    refine wa_getr (r := 36) dX3_openRow_157 fkX3_26 rfl rfl rfl ?_
    refine wa_iload dX3_openRow_160 4 rfl ?_
    obtain ⟨hi9, hF⟩ := hF
    refine wb_iald (j := x6.toNatClampNeg) (v := M 36 x6.toNatClampNeg) dX3_openRow_162 rfl hi9 rfl ((ms_no M 37 x6.toNatClampNeg ((M 37 x6.toNatClampNeg) + ((M 36 x6.toNatClampNeg) * (x5 - x3))) 36 x6.toNatClampNeg (fun h9 => absurd h9.1 (by decide))).trans rfl) ?_
    refine wa_iload dX3_openRow_163 2 rfl ?_
    refine wa_imul dX3_openRow_165 ?_
    refine wa_isub dX3_openRow_166 ?_
    obtain ⟨hi9, hF⟩ := hF
    refine wb_iast (j := (x6 + 1).toNatClampNeg) dX3_openRow_167 rfl hi9 rfl ?_
    refine wa_iinc (v := x6 + 1) (lv' := [(6, .int (x6 + 1)), (0, .ref 33), (3, .int x3), (4, .int x4), (5, .int x5)]) dX3_openRow_168 4 rfl rfl rfl rfl ?_
    refine wa_goto (tgt := 112) dX3_openRow_171 rfl ?_
    exact wa_pick [1, 2, 3, 4, 0] rfl hF

theorem bX3_openRow_215 {X : a_X} {ad : Nat → Nat} {ca : Nat → ClassId} {d : Nat} {Post : Option Value → a_M → a_P → Prop} {x : Nat} {M : a_M} (x6 : Int32)  (hF : ((((M 34 0) + 1) < x6 → Post none M (PT x)) ∧ (¬ ((M 34 0) + 1) < x6 → (vp_in x6 11 ∧ (∃ Q1 : Int32 → a_M → Prop, Mt X ad ca LY d yX11_left cX11_left 3 (some FieldType.int) [.int (M 37 x6.toNatClampNeg), .int (M 34 2)] M (PT x) (q_i (PT x) Q1) ∧ ∀ v1 M1, Q1 v1 M1 → (vp_in x6 11 ∧ WA X ad ca LY RX3 cX3_openRow 7 none (d + 1) 0 0 (a_E X ad ca LY Post) 215 [(0, .ref 33), (6, .int (x6 + 1))] [] (ms M1 37 x6.toNatClampNeg v1) (PT x))))))) : WA X ad ca LY RX3 cX3_openRow 7 none (d + 1) 0 0 (a_E X ad ca LY Post) 215 [(0, .ref 33), (6, .int x6)] [] M (PT x) := by
  refine wa_iload dX3_openRow_215 1 rfl ?_
  refine wa_aload_n dX3_openRow_217 0 rfl rfl ?_
  refine wa_getr (r := 34) dX3_openRow_218 fkX3_12 rfl rfl rfl ?_
  refine wb_geti (v := M 34 0) dX3_openRow_221 fkX3_68 rfl rfl rfl ?_
  refine wa_iconst (v := 1) dX3_openRow_224 rfl ?_
  refine wa_iadd dX3_openRow_225 ?_
  refine wa_icmp_gt (tgt := 259) dX3_openRow_226 rfl (fun hc => ?_) (fun hc => ?_)
  · replace hF := hF.1 hc
    exact wa_vret dX3_openRow_259 rfl hF
  · replace hF := hF.2 hc
    refine wa_aload_n dX3_openRow_229 0 rfl rfl ?_
    refine wa_getr (r := 37) dX3_openRow_230 fkX3_29 rfl rfl rfl ?_
    refine wa_iload dX3_openRow_233 1 rfl ?_
    refine wa_aload_n dX3_openRow_235 0 rfl rfl ?_
    refine wa_getr (r := 37) dX3_openRow_236 fkX3_29 rfl rfl rfl ?_
    refine wa_iload dX3_openRow_239 1 rfl ?_
    obtain ⟨hi9, hF⟩ := hF
    refine wb_iald (j := x6.toNatClampNeg) (v := M 37 x6.toNatClampNeg) dX3_openRow_241 rfl hi9 rfl rfl ?_
    refine wa_aload_n dX3_openRow_242 0 rfl rfl ?_
    refine wa_getr (r := 34) dX3_openRow_243 fkX3_12 rfl rfl rfl ?_
    refine wb_geti (v := M 34 2) dX3_openRow_246 fkX3_61 rfl rfl rfl ?_
    obtain ⟨Q1, hM9, hF⟩ := hF
    refine wa_callSN [.int (M 37 x6.toNatClampNeg), .int (M 34 2)] dX3_openRow_249 (mmX11_left _ _) mkX3_107 mstX11_left rfl (a_dlt d) rfl rfl hM9 ?_
    rintro r9 M1 P9 ⟨v1, rfl, rfl, hq9⟩
    replace hF := hF v1 M1 hq9
    simp only [Option.toList, List.cons_append, List.nil_append]
    obtain ⟨hi9, hF⟩ := hF
    refine wb_iast (j := x6.toNatClampNeg) dX3_openRow_252 rfl hi9 rfl ?_
    refine wa_iinc (v := x6 + 1) (lv' := [(6, .int (x6 + 1)), (0, .ref 33)]) dX3_openRow_253 1 rfl rfl rfl rfl ?_
    refine wa_goto (tgt := 215) dX3_openRow_256 rfl ?_
    exact wa_pick [1, 0] rfl hF

theorem eX3_openRow {X : a_X} {ad : Nat → Nat} {ca : Nat → ClassId} {d : Nat} {Post : Option Value → a_M → a_P → Prop} {x : Nat} {M : a_M} (x1 : Int32) (x2 : Int32) (h : WA X ad ca LY RX3 cX3_openRow 7 none d 0 0 (a_E X ad ca LY Post) 0 [(0, .ref 33), (1, .int x1), (2, .int x2)] [] M (PT x)) : Mt X ad ca LY d yX3_openRow cX3_openRow 7 none [.ref 33, .int x1, .int x2] M (PT x) Post := Mt.of (lv := [(0, .ref 33), (1, .int x1), (2, .int x2)]) (by decide +kernel) rfl rfl rfl (wa_pick [0, 1, 2] rfl h)

theorem bX3_divides_0 {X : a_X} {ad : Nat → Nat} {ca : Nat → ClassId} {d : Nat} {kc ks : Nat} {QF : List Frame → Array Value → State → State → Prop} {x : Nat} {M : a_M} (x1 : Int32) (x2 : Int32) (x3 : Int32)  (hF : ((¬ x3 = 2 → ((¬ x3 = 1 → ((¬ x3 = 2 → WA X ad ca LY RX3 cX3_divides 10 (some FieldType.boolean) (d + 1) kc ks QF 50 [(0, .ref 33), (3, .int x3), (4, .int 0), (5, .int 0), (6, .int 0), (7, .int 0), (8, .int ((M 34 0) + 1))] [] M (PT x)) ∧ (x3 = 2 → WA X ad ca LY RX3 cX3_divides 10 (some FieldType.boolean) (d + 1) kc ks QF 50 [(0, .ref 33), (3, .int x3), (4, .int 0), (5, .int x2), (6, .int 0), (7, .int 0), (8, .int ((M 34 0) + 1))] [] M (PT x)))) ∧ (x3 = 1 → ((¬ x3 = 2 → WA X ad ca LY RX3 cX3_divides 10 (some FieldType.boolean) (d + 1) kc ks QF 50 [(0, .ref 33), (3, .int x3), (4, .int x2), (5, .int 0), (6, .int 0), (7, .int 0), (8, .int ((M 34 0) + 1))] [] M (PT x)) ∧ (x3 = 2 → WA X ad ca LY RX3 cX3_divides 10 (some FieldType.boolean) (d + 1) kc ks QF 50 [(0, .ref 33), (3, .int x3), (4, .int x2), (5, .int x2), (6, .int 0), (7, .int 0), (8, .int ((M 34 0) + 1))] [] M (PT x)))))) ∧ (x3 = 2 → ((¬ x3 = 2 → WA X ad ca LY RX3 cX3_divides 10 (some FieldType.boolean) (d + 1) kc ks QF 50 [(0, .ref 33), (3, .int x3), (4, .int x1), (5, .int 0), (6, .int 0), (7, .int 0), (8, .int ((M 34 0) + 1))] [] M (PT x)) ∧ (x3 = 2 → WA X ad ca LY RX3 cX3_divides 10 (some FieldType.boolean) (d + 1) kc ks QF 50 [(0, .ref 33), (3, .int x3), (4, .int x1), (5, .int x2), (6, .int 0), (7, .int 0), (8, .int ((M 34 0) + 1))] [] M (PT x)))))) : WA X ad ca LY RX3 cX3_divides 10 (some FieldType.boolean) (d + 1) kc ks QF 0 [(0, .ref 33), (1, .int x1), (2, .int x2), (3, .int x3)] [] M (PT x) := by
  refine wa_iload_n dX3_divides_0 3 rfl rfl ?_
  refine wa_iconst (v := 2) dX3_divides_1 rfl ?_
  refine wa_icmp_ne (tgt := 9) dX3_divides_2 rfl (fun hc => ?_) (fun hc => ?_)
  · replace hF := hF.1 hc
    refine wa_iload_n dX3_divides_9 3 rfl rfl ?_
    refine wa_iconst (v := 1) dX3_divides_10 rfl ?_
    refine wa_icmp_ne (tgt := 18) dX3_divides_11 rfl (fun hc => ?_) (fun hc => ?_)
    · replace hF := hF.1 hc
      refine wa_iconst (v := 0) dX3_divides_18 rfl ?_
      refine wa_istore (lv' := [(4, .int 0), (0, .ref 33), (1, .int x1), (2, .int x2), (3, .int x3)]) dX3_divides_19 rfl rfl ?_
      refine wa_iload_n dX3_divides_21 4 rfl rfl ?_
      refine wa_iconst (v := 2) dX3_divides_22 rfl ?_
      refine wa_icmp_ne (tgt := 30) dX3_divides_23 rfl (fun hc => ?_) (fun hc => ?_)
      · replace hF := hF.1 hc
        refine wa_iconst (v := 0) dX3_divides_30 rfl ?_
        refine wa_istore (lv' := [(5, .int 0), (4, .int 0), (0, .ref 33), (1, .int x1), (2, .int x2), (3, .int x3)]) dX3_divides_31 rfl rfl ?_
        refine wa_iconst (v := 0) dX3_divides_33 rfl ?_
        refine wa_istore (lv' := [(6, .int 0), (5, .int 0), (4, .int 0), (0, .ref 33), (1, .int x1), (2, .int x2), (3, .int x3)]) dX3_divides_34 rfl rfl ?_
        refine wa_iconst (v := 0) dX3_divides_36 rfl ?_
        refine wa_istore (lv' := [(7, .int 0), (6, .int 0), (5, .int 0), (4, .int 0), (0, .ref 33), (1, .int x1), (2, .int x2), (3, .int x3)]) dX3_divides_37 rfl rfl ?_
        refine wa_aload_n dX3_divides_39 4 rfl rfl ?_
        refine wa_getr (r := 34) dX3_divides_40 fkX3_12 rfl rfl rfl ?_
        refine wb_geti (v := M 34 0) dX3_divides_43 fkX3_68 rfl rfl rfl ?_
        refine wa_iconst (v := 1) dX3_divides_46 rfl ?_
        refine wa_iadd dX3_divides_47 ?_
        refine wa_istore (lv' := [(8, .int ((M 34 0) + 1)), (7, .int 0), (6, .int 0), (5, .int 0), (4, .int 0), (0, .ref 33), (1, .int x1), (2, .int x2), (3, .int x3)]) dX3_divides_48 rfl rfl ?_
        exact wa_pick [5, 8, 4, 3, 2, 1, 0] rfl hF
      · replace hF := hF.2 hc
        refine wa_iload_n dX3_divides_26 3 rfl rfl ?_
        refine wa_goto (tgt := 31) dX3_divides_27 rfl ?_
        refine wa_istore (lv' := [(5, .int x2), (4, .int 0), (0, .ref 33), (1, .int x1), (2, .int x2), (3, .int x3)]) dX3_divides_31 rfl rfl ?_
        refine wa_iconst (v := 0) dX3_divides_33 rfl ?_
        refine wa_istore (lv' := [(6, .int 0), (5, .int x2), (4, .int 0), (0, .ref 33), (1, .int x1), (2, .int x2), (3, .int x3)]) dX3_divides_34 rfl rfl ?_
        refine wa_iconst (v := 0) dX3_divides_36 rfl ?_
        refine wa_istore (lv' := [(7, .int 0), (6, .int 0), (5, .int x2), (4, .int 0), (0, .ref 33), (1, .int x1), (2, .int x2), (3, .int x3)]) dX3_divides_37 rfl rfl ?_
        refine wa_aload_n dX3_divides_39 4 rfl rfl ?_
        refine wa_getr (r := 34) dX3_divides_40 fkX3_12 rfl rfl rfl ?_
        refine wb_geti (v := M 34 0) dX3_divides_43 fkX3_68 rfl rfl rfl ?_
        refine wa_iconst (v := 1) dX3_divides_46 rfl ?_
        refine wa_iadd dX3_divides_47 ?_
        refine wa_istore (lv' := [(8, .int ((M 34 0) + 1)), (7, .int 0), (6, .int 0), (5, .int x2), (4, .int 0), (0, .ref 33), (1, .int x1), (2, .int x2), (3, .int x3)]) dX3_divides_48 rfl rfl ?_
        exact wa_pick [5, 8, 4, 3, 2, 1, 0] rfl hF
    · replace hF := hF.2 hc
      refine wa_iload_n dX3_divides_14 2 rfl rfl ?_
      refine wa_goto (tgt := 19) dX3_divides_15 rfl ?_
      refine wa_istore (lv' := [(4, .int x2), (0, .ref 33), (1, .int x1), (2, .int x2), (3, .int x3)]) dX3_divides_19 rfl rfl ?_
      refine wa_iload_n dX3_divides_21 4 rfl rfl ?_
      refine wa_iconst (v := 2) dX3_divides_22 rfl ?_
      refine wa_icmp_ne (tgt := 30) dX3_divides_23 rfl (fun hc => ?_) (fun hc => ?_)
      · replace hF := hF.1 hc
        refine wa_iconst (v := 0) dX3_divides_30 rfl ?_
        refine wa_istore (lv' := [(5, .int 0), (4, .int x2), (0, .ref 33), (1, .int x1), (2, .int x2), (3, .int x3)]) dX3_divides_31 rfl rfl ?_
        refine wa_iconst (v := 0) dX3_divides_33 rfl ?_
        refine wa_istore (lv' := [(6, .int 0), (5, .int 0), (4, .int x2), (0, .ref 33), (1, .int x1), (2, .int x2), (3, .int x3)]) dX3_divides_34 rfl rfl ?_
        refine wa_iconst (v := 0) dX3_divides_36 rfl ?_
        refine wa_istore (lv' := [(7, .int 0), (6, .int 0), (5, .int 0), (4, .int x2), (0, .ref 33), (1, .int x1), (2, .int x2), (3, .int x3)]) dX3_divides_37 rfl rfl ?_
        refine wa_aload_n dX3_divides_39 4 rfl rfl ?_
        refine wa_getr (r := 34) dX3_divides_40 fkX3_12 rfl rfl rfl ?_
        refine wb_geti (v := M 34 0) dX3_divides_43 fkX3_68 rfl rfl rfl ?_
        refine wa_iconst (v := 1) dX3_divides_46 rfl ?_
        refine wa_iadd dX3_divides_47 ?_
        refine wa_istore (lv' := [(8, .int ((M 34 0) + 1)), (7, .int 0), (6, .int 0), (5, .int 0), (4, .int x2), (0, .ref 33), (1, .int x1), (2, .int x2), (3, .int x3)]) dX3_divides_48 rfl rfl ?_
        exact wa_pick [5, 8, 4, 3, 2, 1, 0] rfl hF
      · replace hF := hF.2 hc
        refine wa_iload_n dX3_divides_26 3 rfl rfl ?_
        refine wa_goto (tgt := 31) dX3_divides_27 rfl ?_
        refine wa_istore (lv' := [(5, .int x2), (4, .int x2), (0, .ref 33), (1, .int x1), (2, .int x2), (3, .int x3)]) dX3_divides_31 rfl rfl ?_
        refine wa_iconst (v := 0) dX3_divides_33 rfl ?_
        refine wa_istore (lv' := [(6, .int 0), (5, .int x2), (4, .int x2), (0, .ref 33), (1, .int x1), (2, .int x2), (3, .int x3)]) dX3_divides_34 rfl rfl ?_
        refine wa_iconst (v := 0) dX3_divides_36 rfl ?_
        refine wa_istore (lv' := [(7, .int 0), (6, .int 0), (5, .int x2), (4, .int x2), (0, .ref 33), (1, .int x1), (2, .int x2), (3, .int x3)]) dX3_divides_37 rfl rfl ?_
        refine wa_aload_n dX3_divides_39 4 rfl rfl ?_
        refine wa_getr (r := 34) dX3_divides_40 fkX3_12 rfl rfl rfl ?_
        refine wb_geti (v := M 34 0) dX3_divides_43 fkX3_68 rfl rfl rfl ?_
        refine wa_iconst (v := 1) dX3_divides_46 rfl ?_
        refine wa_iadd dX3_divides_47 ?_
        refine wa_istore (lv' := [(8, .int ((M 34 0) + 1)), (7, .int 0), (6, .int 0), (5, .int x2), (4, .int x2), (0, .ref 33), (1, .int x1), (2, .int x2), (3, .int x3)]) dX3_divides_48 rfl rfl ?_
        exact wa_pick [5, 8, 4, 3, 2, 1, 0] rfl hF
  · replace hF := hF.2 hc
    refine wa_iload_n dX3_divides_5 1 rfl rfl ?_
    refine wa_goto (tgt := 19) dX3_divides_6 rfl ?_
    refine wa_istore (lv' := [(4, .int x1), (0, .ref 33), (1, .int x1), (2, .int x2), (3, .int x3)]) dX3_divides_19 rfl rfl ?_
    refine wa_iload_n dX3_divides_21 4 rfl rfl ?_
    refine wa_iconst (v := 2) dX3_divides_22 rfl ?_
    refine wa_icmp_ne (tgt := 30) dX3_divides_23 rfl (fun hc => ?_) (fun hc => ?_)
    · replace hF := hF.1 hc
      refine wa_iconst (v := 0) dX3_divides_30 rfl ?_
      refine wa_istore (lv' := [(5, .int 0), (4, .int x1), (0, .ref 33), (1, .int x1), (2, .int x2), (3, .int x3)]) dX3_divides_31 rfl rfl ?_
      refine wa_iconst (v := 0) dX3_divides_33 rfl ?_
      refine wa_istore (lv' := [(6, .int 0), (5, .int 0), (4, .int x1), (0, .ref 33), (1, .int x1), (2, .int x2), (3, .int x3)]) dX3_divides_34 rfl rfl ?_
      refine wa_iconst (v := 0) dX3_divides_36 rfl ?_
      refine wa_istore (lv' := [(7, .int 0), (6, .int 0), (5, .int 0), (4, .int x1), (0, .ref 33), (1, .int x1), (2, .int x2), (3, .int x3)]) dX3_divides_37 rfl rfl ?_
      refine wa_aload_n dX3_divides_39 4 rfl rfl ?_
      refine wa_getr (r := 34) dX3_divides_40 fkX3_12 rfl rfl rfl ?_
      refine wb_geti (v := M 34 0) dX3_divides_43 fkX3_68 rfl rfl rfl ?_
      refine wa_iconst (v := 1) dX3_divides_46 rfl ?_
      refine wa_iadd dX3_divides_47 ?_
      refine wa_istore (lv' := [(8, .int ((M 34 0) + 1)), (7, .int 0), (6, .int 0), (5, .int 0), (4, .int x1), (0, .ref 33), (1, .int x1), (2, .int x2), (3, .int x3)]) dX3_divides_48 rfl rfl ?_
      exact wa_pick [5, 8, 4, 3, 2, 1, 0] rfl hF
    · replace hF := hF.2 hc
      refine wa_iload_n dX3_divides_26 3 rfl rfl ?_
      refine wa_goto (tgt := 31) dX3_divides_27 rfl ?_
      refine wa_istore (lv' := [(5, .int x2), (4, .int x1), (0, .ref 33), (1, .int x1), (2, .int x2), (3, .int x3)]) dX3_divides_31 rfl rfl ?_
      refine wa_iconst (v := 0) dX3_divides_33 rfl ?_
      refine wa_istore (lv' := [(6, .int 0), (5, .int x2), (4, .int x1), (0, .ref 33), (1, .int x1), (2, .int x2), (3, .int x3)]) dX3_divides_34 rfl rfl ?_
      refine wa_iconst (v := 0) dX3_divides_36 rfl ?_
      refine wa_istore (lv' := [(7, .int 0), (6, .int 0), (5, .int x2), (4, .int x1), (0, .ref 33), (1, .int x1), (2, .int x2), (3, .int x3)]) dX3_divides_37 rfl rfl ?_
      refine wa_aload_n dX3_divides_39 4 rfl rfl ?_
      refine wa_getr (r := 34) dX3_divides_40 fkX3_12 rfl rfl rfl ?_
      refine wb_geti (v := M 34 0) dX3_divides_43 fkX3_68 rfl rfl rfl ?_
      refine wa_iconst (v := 1) dX3_divides_46 rfl ?_
      refine wa_iadd dX3_divides_47 ?_
      refine wa_istore (lv' := [(8, .int ((M 34 0) + 1)), (7, .int 0), (6, .int 0), (5, .int x2), (4, .int x1), (0, .ref 33), (1, .int x1), (2, .int x2), (3, .int x3)]) dX3_divides_48 rfl rfl ?_
      exact wa_pick [5, 8, 4, 3, 2, 1, 0] rfl hF

theorem bX3_divides_50 {X : a_X} {ad : Nat → Nat} {ca : Nat → ClassId} {d : Nat} {Post : Option Value → a_M → a_P → Prop} {x : Nat} {M : a_M} (x3 : Int32) (x4 : Int32) (x5 : Int32) (x6 : Int32) (x7 : Int32) (x8 : Int32)  (hF : ((x8 < 0 → Post (some (.int 1)) M (PT x)) ∧ (¬ x8 < 0 → (vp_in x8 11 ∧ (∃ Q1 : Int32 → a_M → Prop, Mt X ad ca LY d yX11_left cX11_left 3 (some FieldType.int) [.int (((M 37 x8.toNatClampNeg) - (x4 * x6)) - (x5 * x7)), .int (M 34 2)] M (PT x) (q_i (PT x) Q1) ∧ ∀ v1 M1, Q1 v1 M1 → ((x3 ≤ x8 → WA X ad ca LY RX3 cX3_divides 10 (some FieldType.boolean) (d + 1) 0 0 (a_E X ad ca LY Post) 99 [(0, .ref 33), (3, .int x3), (4, .int x4), (5, .int x5), (6, .int x6), (8, .int x8), (9, .int v1)] [] M1 (PT x)) ∧ (¬ x3 ≤ x8 → ((v1 = 0 → WA X ad ca LY RX3 cX3_divides 10 (some FieldType.boolean) (d + 1) 0 0 (a_E X ad ca LY Post) 99 [(0, .ref 33), (3, .int x3), (4, .int x4), (5, .int x5), (6, .int x6), (8, .int x8), (9, .int v1)] [] M1 (PT x)) ∧ (¬ v1 = 0 → Post (some (.int 0)) M1 (PT x)))))))))) : WA X ad ca LY RX3 cX3_divides 10 (some FieldType.boolean) (d + 1) 0 0 (a_E X ad ca LY Post) 50 [(0, .ref 33), (3, .int x3), (4, .int x4), (5, .int x5), (6, .int x6), (7, .int x7), (8, .int x8)] [] M (PT x) := by
  refine wa_iload dX3_divides_50 6 rfl ?_
  refine wa_if_lt (tgt := 122) dX3_divides_52 rfl (fun hc => ?_) (fun hc => ?_)
  · replace hF := hF.1 hc
    refine wa_iconst (v := 1) dX3_divides_122 rfl ?_
    exact wa_iret dX3_divides_123 rfl rfl hF
  · replace hF := hF.2 hc
    refine wa_aload_n dX3_divides_55 0 rfl rfl ?_
    refine wa_getr (r := 37) dX3_divides_56 fkX3_29 rfl rfl rfl ?_
    refine wa_iload dX3_divides_59 6 rfl ?_
    obtain ⟨hi9, hF⟩ := hF
    refine wb_iald (j := x8.toNatClampNeg) (v := M 37 x8.toNatClampNeg) dX3_divides_61 rfl hi9 rfl rfl ?_
    refine wa_iload dX3_divides_62 2 rfl ?_
    refine wa_iload dX3_divides_64 4 rfl ?_
    refine wa_imul dX3_divides_66 ?_
    refine wa_isub dX3_divides_67 ?_
    refine wa_iload dX3_divides_68 3 rfl ?_
    refine wa_iload dX3_divides_70 5 rfl ?_
    refine wa_imul dX3_divides_72 ?_
    refine wa_isub dX3_divides_73 ?_
    refine wa_aload_n dX3_divides_74 0 rfl rfl ?_
    refine wa_getr (r := 34) dX3_divides_75 fkX3_12 rfl rfl rfl ?_
    refine wb_geti (v := M 34 2) dX3_divides_78 fkX3_61 rfl rfl rfl ?_
    obtain ⟨Q1, hM9, hF⟩ := hF
    refine wa_callSN [.int (((M 37 x8.toNatClampNeg) - (x4 * x6)) - (x5 * x7)), .int (M 34 2)] dX3_divides_81 (mmX11_left _ _) mkX3_107 mstX11_left rfl (a_dlt d) rfl rfl hM9 ?_
    rintro r9 M1 P9 ⟨v1, rfl, rfl, hq9⟩
    replace hF := hF v1 M1 hq9
    simp only [Option.toList, List.cons_append, List.nil_append]
    refine wa_istore (lv' := [(9, .int v1), (0, .ref 33), (3, .int x3), (4, .int x4), (5, .int x5), (6, .int x6), (7, .int x7), (8, .int x8)]) dX3_divides_84 rfl rfl ?_
    refine wa_iload dX3_divides_86 7 rfl ?_
    refine wa_iload_n dX3_divides_88 2 rfl rfl ?_
    refine wa_icmp_ge (tgt := 99) dX3_divides_89 rfl (fun hc => ?_) (fun hc => ?_)
    · replace hF := hF.1 hc
      exact wa_pick [1, 2, 3, 4, 5, 7, 0] rfl hF
    · replace hF := hF.2 hc
      refine wa_iload dX3_divides_92 0 rfl ?_
      refine wa_if_eq (tgt := 99) dX3_divides_94 rfl (fun hc => ?_) (fun hc => ?_)
      · replace hF := hF.1 hc
        exact wa_pick [1, 2, 3, 4, 5, 7, 0] rfl hF
      · replace hF := hF.2 hc
        refine wa_iconst (v := 0) dX3_divides_97 rfl ?_
        exact wa_iret dX3_divides_98 rfl rfl hF

theorem bX3_divides_99 {X : a_X} {ad : Nat → Nat} {ca : Nat → ClassId} {d : Nat} {kc ks : Nat} {QF : List Frame → Array Value → State → State → Prop} {x : Nat} {M : a_M} (x3 : Int32) (x4 : Int32) (x5 : Int32) (x6 : Int32) (x8 : Int32) (x9 : Int32)  (hF : (vp_in x8 11 ∧ WA X ad ca LY RX3 cX3_divides 10 (some FieldType.boolean) (d + 1) kc ks QF 50 [(0, .ref 33), (3, .int x3), (4, .int x4), (5, .int x5), (6, .int x9), (7, .int x6), (8, .int (x8 + (-1)))] [] (ms M 38 x8.toNatClampNeg x9) (PT x))) : WA X ad ca LY RX3 cX3_divides 10 (some FieldType.boolean) (d + 1) kc ks QF 99 [(0, .ref 33), (3, .int x3), (4, .int x4), (5, .int x5), (6, .int x6), (8, .int x8), (9, .int x9)] [] M (PT x) := by
  refine wa_aload_n dX3_divides_99 0 rfl rfl ?_
  refine wa_getr (r := 38) dX3_divides_100 fkX3_32 rfl rfl rfl ?_
  refine wa_iload dX3_divides_103 5 rfl ?_
  refine wa_iload dX3_divides_105 6 rfl ?_
  obtain ⟨hi9, hF⟩ := hF
  refine wb_iast (j := x8.toNatClampNeg) dX3_divides_107 rfl hi9 rfl ?_
  refine wa_iload dX3_divides_108 4 rfl ?_
  refine wa_istore (lv' := [(7, .int x6), (0, .ref 33), (3, .int x3), (4, .int x4), (5, .int x5), (6, .int x6), (8, .int x8), (9, .int x9)]) dX3_divides_110 rfl rfl ?_
  refine wa_iload dX3_divides_112 7 rfl ?_
  refine wa_istore (lv' := [(6, .int x9), (7, .int x6), (0, .ref 33), (3, .int x3), (4, .int x4), (5, .int x5), (8, .int x8), (9, .int x9)]) dX3_divides_114 rfl rfl ?_
  refine wa_iinc (v := x8 + (-1)) (lv' := [(8, .int (x8 + (-1))), (6, .int x9), (7, .int x6), (0, .ref 33), (3, .int x3), (4, .int x4), (5, .int x5), (9, .int x9)]) dX3_divides_116 6 rfl rfl rfl rfl ?_
  refine wa_goto (tgt := 50) dX3_divides_119 rfl ?_
  exact wa_pick [3, 4, 5, 6, 1, 2, 0] rfl hF

theorem eX3_divides {X : a_X} {ad : Nat → Nat} {ca : Nat → ClassId} {d : Nat} {Post : Option Value → a_M → a_P → Prop} {x : Nat} {M : a_M} (x1 : Int32) (x2 : Int32) (x3 : Int32) (h : WA X ad ca LY RX3 cX3_divides 10 (some FieldType.boolean) d 0 0 (a_E X ad ca LY Post) 0 [(0, .ref 33), (1, .int x1), (2, .int x2), (3, .int x3)] [] M (PT x)) : Mt X ad ca LY d yX3_divides cX3_divides 10 (some FieldType.boolean) [.ref 33, .int x1, .int x2, .int x3] M (PT x) Post := Mt.of (lv := [(0, .ref 33), (1, .int x1), (2, .int x2), (3, .int x3)]) (by decide +kernel) rfl rfl rfl (wa_pick [0, 1, 2, 3] rfl h)
