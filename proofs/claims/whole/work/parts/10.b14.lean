theorem bX12_moves_0 {X : a_X} {ad : Nat → Nat} {ca : Nat → ClassId} {d : Nat} {kc ks : Nat} {QF : List Frame → Array Value → State → State → Prop} {x : Nat} {M : a_M} (x1 : Int32) (x2 : Int32)  (hF : WA X ad ca LY RX12 cX12_moves 5 none (d + 1) kc ks QF 2 [(0, .ref 118), (1, .int x1), (2, .int x2), (3, .int 0)] [] M (PT x)) : WA X ad ca LY RX12 cX12_moves 5 none (d + 1) kc ks QF 0 [(0, .ref 118), (1, .int x1), (2, .int x2)] [] M (PT x) := by
  refine wa_iconst (v := 0) dX12_moves_0 rfl ?_
  refine wa_istore_n (lv' := [(3, .int 0), (0, .ref 118), (1, .int x1), (2, .int x2)]) dX12_moves_1 rfl rfl rfl ?_
  exact wa_pick [1, 2, 3, 0] rfl hF

theorem bX12_moves_2 {X : a_X} {ad : Nat → Nat} {ca : Nat → ClassId} {d : Nat} {kc ks : Nat} {QF : List Frame → Array Value → State → State → Prop} {x : Nat} {M : a_M} (x1 : Int32) (x2 : Int32) (x3 : Int32)  (hF : ((3 ≤ x3 → WA X ad ca LY RX12 cX12_moves 5 none (d + 1) kc ks QF 22 [(0, .ref 118), (2, .int x2), (3, .int x1)] [] M (PT x)) ∧ (¬ 3 ≤ x3 → (vp_in x3 3 ∧ WA X ad ca LY RX12 cX12_moves 5 none (d + 1) kc ks QF 2 [(0, .ref 118), (1, .int x1), (2, .int x2), (3, .int (x3 + 1))] [] (ms M 151 x3.toNatClampNeg 0) (PT x))))) : WA X ad ca LY RX12 cX12_moves 5 none (d + 1) kc ks QF 2 [(0, .ref 118), (1, .int x1), (2, .int x2), (3, .int x3)] [] M (PT x) := by
  refine wa_iload_n dX12_moves_2 3 rfl rfl ?_
  refine wa_iconst (v := 3) dX12_moves_3 rfl ?_
  refine wa_icmp_ge (tgt := 20) dX12_moves_4 rfl (fun hc => ?_) (fun hc => ?_)
  · replace hF := hF.1 hc
    refine wa_iload_n dX12_moves_20 1 rfl rfl ?_
    refine wa_istore_n (lv' := [(3, .int x1), (0, .ref 118), (1, .int x1), (2, .int x2)]) dX12_moves_21 rfl rfl rfl ?_
    exact wa_pick [1, 3, 0] rfl hF
  · replace hF := hF.2 hc
    refine wa_aload_n dX12_moves_7 0 rfl rfl ?_
    refine wa_getr (r := 151) dX12_moves_8 fkX12_114 rfl rfl rfl ?_
    refine wa_iload_n dX12_moves_11 3 rfl rfl ?_
    refine wa_iconst (v := 0) dX12_moves_12 rfl ?_
    obtain ⟨hi9, hF⟩ := hF
    refine wb_iast (j := x3.toNatClampNeg) dX12_moves_13 rfl hi9 rfl ?_
    refine wa_iinc (v := x3 + 1) (lv' := [(3, .int (x3 + 1)), (0, .ref 118), (1, .int x1), (2, .int x2)]) dX12_moves_14 3 rfl rfl rfl rfl ?_
    refine wa_goto (tgt := 2) dX12_moves_17 rfl ?_
    exact wa_pick [1, 2, 3, 0] rfl hF

theorem bX12_moves_22 {X : a_X} {ad : Nat → Nat} {ca : Nat → ClassId} {d : Nat} {Post : Option Value → a_M → a_P → Prop} {x : Nat} {M : a_M} (x2 : Int32) (x3 : Int32)  (hF : ((x3 < 0 → Post none M (PT x)) ∧ (¬ x3 < 0 → WA X ad ca LY RX12 cX12_moves 5 none (d + 1) 0 0 (a_E X ad ca LY Post) 29 [(0, .ref 118), (2, .int x2), (3, .int x3), (4, .int 2)] [] M (PT x)))) : WA X ad ca LY RX12 cX12_moves 5 none (d + 1) 0 0 (a_E X ad ca LY Post) 22 [(0, .ref 118), (2, .int x2), (3, .int x3)] [] M (PT x) := by
  refine wa_iload_n dX12_moves_22 2 rfl rfl ?_
  refine wa_if_lt (tgt := 114) dX12_moves_23 rfl (fun hc => ?_) (fun hc => ?_)
  · replace hF := hF.1 hc
    exact wa_vret dX12_moves_114 rfl hF
  · replace hF := hF.2 hc
    refine wa_iconst (v := 2) dX12_moves_26 rfl ?_
    refine wa_istore (lv' := [(4, .int 2), (0, .ref 118), (2, .int x2), (3, .int x3)]) dX12_moves_27 rfl rfl ?_
    exact wa_pick [1, 2, 3, 0] rfl hF

theorem bX12_moves_29 {X : a_X} {ad : Nat → Nat} {ca : Nat → ClassId} {d : Nat} {kc ks : Nat} {QF : List Frame → Array Value → State → State → Prop} {x : Nat} {M : a_M} (x2 : Int32) (x3 : Int32) (x4 : Int32)  (hF : ((x4 < 0 → (vp_in x3 3 ∧ (¬ (M 119 2) = 0 ∧ WA X ad ca LY RX12 cX12_moves 5 none (d + 1) kc ks QF 22 [(0, .ref 118), (2, .int x2), (3, .int (x3 + (-1)))] [] (ms M 151 0 (((M 151 0) + (M 148 x3.toNatClampNeg)) - ((M 151 0) + (M 148 x3.toNatClampNeg)) / (M 119 2) * (M 119 2))) (PT x)))) ∧ (¬ x4 < 0 → (vp_in x4 3 ∧ ((x4 ≤ 0 → (¬ (M 119 2) = 0 ∧ (vp_in x4 3 ∧ WA X ad ca LY RX12 cX12_moves 5 none (d + 1) kc ks QF 29 [(0, .ref 118), (2, .int x2), (3, .int x3), (4, .int (x4 + (-1)))] [] (ms M 151 x4.toNatClampNeg ((((M 151 x4.toNatClampNeg) * x2) + 0) - (((M 151 x4.toNatClampNeg) * x2) + 0) / (M 119 2) * (M 119 2))) (PT x)))) ∧ (¬ x4 ≤ 0 → (vp_in (x4 - 1) 3 ∧ (¬ (M 119 2) = 0 ∧ (vp_in x4 3 ∧ WA X ad ca LY RX12 cX12_moves 5 none (d + 1) kc ks QF 29 [(0, .ref 118), (2, .int x2), (3, .int x3), (4, .int (x4 + (-1)))] [] (ms M 151 x4.toNatClampNeg ((((M 151 x4.toNatClampNeg) * x2) + (M 151 ((x4 - 1).toNatClampNeg))) - (((M 151 x4.toNatClampNeg) * x2) + (M 151 ((x4 - 1).toNatClampNeg))) / (M 119 2) * (M 119 2))) (PT x)))))))))) : WA X ad ca LY RX12 cX12_moves 5 none (d + 1) kc ks QF 29 [(0, .ref 118), (2, .int x2), (3, .int x3), (4, .int x4)] [] M (PT x) := by
  refine wa_iload dX12_moves_29 3 rfl ?_
  refine wa_if_lt (tgt := 82) dX12_moves_31 rfl (fun hc => ?_) (fun hc => ?_)
  · replace hF := hF.1 hc
    refine wa_aload_n dX12_moves_82 0 rfl rfl ?_
    refine wa_getr (r := 151) dX12_moves_83 fkX12_114 rfl rfl rfl ?_
    refine wa_iconst (v := 0) dX12_moves_86 rfl ?_
    refine wa_aload_n dX12_moves_87 0 rfl rfl ?_
    refine wa_getr (r := 151) dX12_moves_88 fkX12_114 rfl rfl rfl ?_
    refine wa_iconst (v := 0) dX12_moves_91 rfl ?_
    refine wb_iald (j := 0) (v := M 151 0) dX12_moves_92 rfl (by unfold vp_in; decide) rfl rfl ?_
    refine wa_aload_n dX12_moves_93 0 rfl rfl ?_
    refine wa_getr (r := 148) dX12_moves_94 fkX12_105 rfl rfl rfl ?_
    refine wa_iload_n dX12_moves_97 2 rfl rfl ?_
    obtain ⟨hi9, hF⟩ := hF
    refine wb_iald (j := x3.toNatClampNeg) (v := M 148 x3.toNatClampNeg) dX12_moves_98 rfl hi9 rfl rfl ?_
    refine wa_iadd dX12_moves_99 ?_
    refine wa_aload_n dX12_moves_100 0 rfl rfl ?_
    refine wa_getr (r := 119) dX12_moves_101 fkX12_7 rfl rfl rfl ?_
    refine wa_iconst (v := 2) dX12_moves_104 rfl ?_
    refine wb_iald (j := 2) (v := M 119 2) dX12_moves_105 rfl (by unfold vp_in; decide) rfl rfl ?_
    obtain ⟨hn9, hF⟩ := hF
    refine wa_irem dX12_moves_106 hn9 ?_
    refine wb_iast (j := 0) dX12_moves_107 rfl (by unfold vp_in; decide) rfl ?_
    refine wa_iinc (v := x3 + (-1)) (lv' := [(3, .int (x3 + (-1))), (0, .ref 118), (2, .int x2), (4, .int x4)]) dX12_moves_108 2 rfl rfl rfl rfl ?_
    refine wa_goto (tgt := 22) dX12_moves_111 rfl ?_
    exact wa_pick [1, 2, 0] rfl hF
  · replace hF := hF.2 hc
    refine wa_aload_n dX12_moves_34 0 rfl rfl ?_
    refine wa_getr (r := 151) dX12_moves_35 fkX12_114 rfl rfl rfl ?_
    refine wa_iload dX12_moves_38 3 rfl ?_
    refine wa_aload_n dX12_moves_40 0 rfl rfl ?_
    refine wa_getr (r := 151) dX12_moves_41 fkX12_114 rfl rfl rfl ?_
    refine wa_iload dX12_moves_44 3 rfl ?_
    obtain ⟨hi9, hF⟩ := hF
    refine wb_iald (j := x4.toNatClampNeg) (v := M 151 x4.toNatClampNeg) dX12_moves_46 rfl hi9 rfl rfl ?_
    refine wa_iload_n dX12_moves_47 1 rfl rfl ?_
    refine wa_imul dX12_moves_48 ?_
    refine wa_iload dX12_moves_49 3 rfl ?_
    refine wa_if_le (tgt := 66) dX12_moves_51 rfl (fun hc => ?_) (fun hc => ?_)
    · replace hF := hF.1 hc
      refine wa_iconst (v := 0) dX12_moves_66 rfl ?_
      refine wa_iadd dX12_moves_67 ?_
      refine wa_aload_n dX12_moves_68 0 rfl rfl ?_
      refine wa_getr (r := 119) dX12_moves_69 fkX12_7 rfl rfl rfl ?_
      refine wa_iconst (v := 2) dX12_moves_72 rfl ?_
      refine wb_iald (j := 2) (v := M 119 2) dX12_moves_73 rfl (by unfold vp_in; decide) rfl rfl ?_
      obtain ⟨hn9, hF⟩ := hF
      refine wa_irem dX12_moves_74 hn9 ?_
      obtain ⟨hi9, hF⟩ := hF
      refine wb_iast (j := x4.toNatClampNeg) dX12_moves_75 rfl hi9 rfl ?_
      refine wa_iinc (v := x4 + (-1)) (lv' := [(4, .int (x4 + (-1))), (0, .ref 118), (2, .int x2), (3, .int x3)]) dX12_moves_76 3 rfl rfl rfl rfl ?_
      refine wa_goto (tgt := 29) dX12_moves_79 rfl ?_
      exact wa_pick [1, 2, 3, 0] rfl hF
    · replace hF := hF.2 hc
      refine wa_aload_n dX12_moves_54 0 rfl rfl ?_
      refine wa_getr (r := 151) dX12_moves_55 fkX12_114 rfl rfl rfl ?_
      refine wa_iload dX12_moves_58 3 rfl ?_
      refine wa_iconst (v := 1) dX12_moves_60 rfl ?_
      refine wa_isub dX12_moves_61 ?_
      obtain ⟨hi9, hF⟩ := hF
      refine wb_iald (j := (x4 - 1).toNatClampNeg) (v := M 151 ((x4 - 1).toNatClampNeg)) dX12_moves_62 rfl hi9 rfl rfl ?_
      refine wa_goto (tgt := 67) dX12_moves_63 rfl ?_
      refine wa_iadd dX12_moves_67 ?_
      refine wa_aload_n dX12_moves_68 0 rfl rfl ?_
      refine wa_getr (r := 119) dX12_moves_69 fkX12_7 rfl rfl rfl ?_
      refine wa_iconst (v := 2) dX12_moves_72 rfl ?_
      refine wb_iald (j := 2) (v := M 119 2) dX12_moves_73 rfl (by unfold vp_in; decide) rfl rfl ?_
      obtain ⟨hn9, hF⟩ := hF
      refine wa_irem dX12_moves_74 hn9 ?_
      obtain ⟨hi9, hF⟩ := hF
      refine wb_iast (j := x4.toNatClampNeg) dX12_moves_75 rfl hi9 rfl ?_
      refine wa_iinc (v := x4 + (-1)) (lv' := [(4, .int (x4 + (-1))), (0, .ref 118), (2, .int x2), (3, .int x3)]) dX12_moves_76 3 rfl rfl rfl rfl ?_
      refine wa_goto (tgt := 29) dX12_moves_79 rfl ?_
      exact wa_pick [1, 2, 3, 0] rfl hF

theorem eX12_moves {X : a_X} {ad : Nat → Nat} {ca : Nat → ClassId} {d : Nat} {Post : Option Value → a_M → a_P → Prop} {x : Nat} {M : a_M} (x1 : Int32) (x2 : Int32) (h : WA X ad ca LY RX12 cX12_moves 5 none d 0 0 (a_E X ad ca LY Post) 0 [(0, .ref 118), (1, .int x1), (2, .int x2)] [] M (PT x)) : Mt X ad ca LY d yX12_moves cX12_moves 5 none [.ref 118, .int x1, .int x2] M (PT x) Post := Mt.of (lv := [(0, .ref 118), (1, .int x1), (2, .int x2)]) (by decide +kernel) rfl rfl rfl (wa_pick [0, 1, 2] rfl h)

theorem bX12_laysPower_0 {X : a_X} {ad : Nat → Nat} {ca : Nat → ClassId} {d : Nat} {kc ks : Nat} {QF : List Frame → Array Value → State → State → Prop} {x : Nat} {M : a_M} (x1 : Int32)  (hF : WA X ad ca LY RX12 cX12_laysPower 4 none (d + 1) kc ks QF 2 [(0, .ref 118), (1, .int x1), (2, .int 0)] [] M (PT x)) : WA X ad ca LY RX12 cX12_laysPower 4 none (d + 1) kc ks QF 0 [(0, .ref 118), (1, .int x1)] [] M (PT x) := by
  refine wa_iconst (v := 0) dX12_laysPower_0 rfl ?_
  refine wa_istore_n (lv' := [(2, .int 0), (0, .ref 118), (1, .int x1)]) dX12_laysPower_1 rfl rfl rfl ?_
  exact wa_pick [1, 2, 0] rfl hF

theorem bX12_laysPower_2 {X : a_X} {ad : Nat → Nat} {ca : Nat → ClassId} {d : Nat} {kc ks : Nat} {QF : List Frame → Array Value → State → State → Prop} {x : Nat} {M : a_M} (x1 : Int32) (x2 : Int32)  (hF : ((8 ≤ x2 → WA X ad ca LY RX12 cX12_laysPower 4 none (d + 1) kc ks QF 31 [(0, .ref 118), (1, .int x1), (2, .int 0)] [] M (PT x)) ∧ (¬ 8 ≤ x2 → ((¬ x2 = 0 → (vp_in x2 8 ∧ WA X ad ca LY RX12 cX12_laysPower 4 none (d + 1) kc ks QF 2 [(0, .ref 118), (1, .int x1), (2, .int (x2 + 1))] [] (ms M 152 x2.toNatClampNeg 0) (PT x))) ∧ (x2 = 0 → (vp_in x2 8 ∧ WA X ad ca LY RX12 cX12_laysPower 4 none (d + 1) kc ks QF 2 [(0, .ref 118), (1, .int x1), (2, .int (x2 + 1))] [] (ms M 152 x2.toNatClampNeg 1) (PT x))))))) : WA X ad ca LY RX12 cX12_laysPower 4 none (d + 1) kc ks QF 2 [(0, .ref 118), (1, .int x1), (2, .int x2)] [] M (PT x) := by
  refine wa_iload_n dX12_laysPower_2 2 rfl rfl ?_
  refine wa_bipush (v := 8) dX12_laysPower_3 rfl ?_
  refine wa_icmp_ge (tgt := 29) dX12_laysPower_5 rfl (fun hc => ?_) (fun hc => ?_)
  · replace hF := hF.1 hc
    refine wa_iconst (v := 0) dX12_laysPower_29 rfl ?_
    refine wa_istore_n (lv' := [(2, .int 0), (0, .ref 118), (1, .int x1)]) dX12_laysPower_30 rfl rfl rfl ?_
    exact wa_pick [1, 2, 0] rfl hF
  · replace hF := hF.2 hc
    refine wa_aload_n dX12_laysPower_8 0 rfl rfl ?_
    refine wa_getr (r := 152) dX12_laysPower_9 fkX12_117 rfl rfl rfl ?_
    refine wa_iload_n dX12_laysPower_12 2 rfl rfl ?_
    refine wa_iload_n dX12_laysPower_13 2 rfl rfl ?_
    refine wa_if_ne (tgt := 21) dX12_laysPower_14 rfl (fun hc => ?_) (fun hc => ?_)
    · replace hF := hF.1 hc
      refine wa_iconst (v := 0) dX12_laysPower_21 rfl ?_
      obtain ⟨hi9, hF⟩ := hF
      refine wb_iast (j := x2.toNatClampNeg) dX12_laysPower_22 rfl hi9 rfl ?_
      refine wa_iinc (v := x2 + 1) (lv' := [(2, .int (x2 + 1)), (0, .ref 118), (1, .int x1)]) dX12_laysPower_23 2 rfl rfl rfl rfl ?_
      refine wa_goto (tgt := 2) dX12_laysPower_26 rfl ?_
      exact wa_pick [1, 2, 0] rfl hF
    · replace hF := hF.2 hc
      refine wa_iconst (v := 1) dX12_laysPower_17 rfl ?_
      refine wa_goto (tgt := 22) dX12_laysPower_18 rfl ?_
      obtain ⟨hi9, hF⟩ := hF
      refine wb_iast (j := x2.toNatClampNeg) dX12_laysPower_22 rfl hi9 rfl ?_
      refine wa_iinc (v := x2 + 1) (lv' := [(2, .int (x2 + 1)), (0, .ref 118), (1, .int x1)]) dX12_laysPower_23 2 rfl rfl rfl rfl ?_
      refine wa_goto (tgt := 2) dX12_laysPower_26 rfl ?_
      exact wa_pick [1, 2, 0] rfl hF

theorem bX12_laysPower_31 {X : a_X} {ad : Nat → Nat} {ca : Nat → ClassId} {d : Nat} {Post : Option Value → a_M → a_P → Prop} {x : Nat} {M : a_M} (x1 : Int32) (x2 : Int32)  (hF : (((M 119 0) ≤ x2 → Post none M (PT x)) ∧ (¬ (M 119 0) ≤ x2 → WA X ad ca LY RX12 cX12_laysPower 4 none (d + 1) 0 0 (a_E X ad ca LY Post) 44 [(0, .ref 118), (1, .int x1), (2, .int x2), (3, .int 7)] [] M (PT x)))) : WA X ad ca LY RX12 cX12_laysPower 4 none (d + 1) 0 0 (a_E X ad ca LY Post) 31 [(0, .ref 118), (1, .int x1), (2, .int x2)] [] M (PT x) := by
  refine wa_iload_n dX12_laysPower_31 2 rfl rfl ?_
  refine wa_aload_n dX12_laysPower_32 0 rfl rfl ?_
  refine wa_getr (r := 119) dX12_laysPower_33 fkX12_7 rfl rfl rfl ?_
  refine wa_iconst (v := 0) dX12_laysPower_36 rfl ?_
  refine wb_iald (j := 0) (v := M 119 0) dX12_laysPower_37 rfl (by unfold vp_in; decide) rfl rfl ?_
  refine wa_icmp_ge (tgt := 98) dX12_laysPower_38 rfl (fun hc => ?_) (fun hc => ?_)
  · replace hF := hF.1 hc
    exact wa_vret dX12_laysPower_98 rfl hF
  · replace hF := hF.2 hc
    refine wa_bipush (v := 7) dX12_laysPower_41 rfl ?_
    refine wa_istore_n (lv' := [(3, .int 7), (0, .ref 118), (1, .int x1), (2, .int x2)]) dX12_laysPower_43 rfl rfl rfl ?_
    exact wa_pick [1, 2, 3, 0] rfl hF

theorem bX12_laysPower_44 {X : a_X} {ad : Nat → Nat} {ca : Nat → ClassId} {d : Nat} {kc ks : Nat} {QF : List Frame → Array Value → State → State → Prop} {x : Nat} {M : a_M} (x1 : Int32) (x2 : Int32) (x3 : Int32)  (hF : ((x3 < 0 → WA X ad ca LY RX12 cX12_laysPower 4 none (d + 1) kc ks QF 31 [(0, .ref 118), (1, .int x1), (2, .int (x2 + 1))] [] M (PT x)) ∧ (¬ x3 < 0 → (vp_in x3 8 ∧ ((x3 ≤ 0 → (¬ (M 119 2) = 0 ∧ (vp_in x3 8 ∧ WA X ad ca LY RX12 cX12_laysPower 4 none (d + 1) kc ks QF 44 [(0, .ref 118), (1, .int x1), (2, .int x2), (3, .int (x3 + (-1)))] [] (ms M 152 x3.toNatClampNeg ((((M 152 x3.toNatClampNeg) * x1) + 0) - (((M 152 x3.toNatClampNeg) * x1) + 0) / (M 119 2) * (M 119 2))) (PT x)))) ∧ (¬ x3 ≤ 0 → (vp_in (x3 - 1) 8 ∧ (¬ (M 119 2) = 0 ∧ (vp_in x3 8 ∧ WA X ad ca LY RX12 cX12_laysPower 4 none (d + 1) kc ks QF 44 [(0, .ref 118), (1, .int x1), (2, .int x2), (3, .int (x3 + (-1)))] [] (ms M 152 x3.toNatClampNeg ((((M 152 x3.toNatClampNeg) * x1) + (M 152 ((x3 - 1).toNatClampNeg))) - (((M 152 x3.toNatClampNeg) * x1) + (M 152 ((x3 - 1).toNatClampNeg))) / (M 119 2) * (M 119 2))) (PT x)))))))))) : WA X ad ca LY RX12 cX12_laysPower 4 none (d + 1) kc ks QF 44 [(0, .ref 118), (1, .int x1), (2, .int x2), (3, .int x3)] [] M (PT x) := by
  refine wa_iload_n dX12_laysPower_44 3 rfl rfl ?_
  refine wa_if_lt (tgt := 92) dX12_laysPower_45 rfl (fun hc => ?_) (fun hc => ?_)
  · replace hF := hF.1 hc
    refine wa_iinc (v := x2 + 1) (lv' := [(2, .int (x2 + 1)), (0, .ref 118), (1, .int x1), (3, .int x3)]) dX12_laysPower_92 2 rfl rfl rfl rfl ?_
    refine wa_goto (tgt := 31) dX12_laysPower_95 rfl ?_
    exact wa_pick [1, 2, 0] rfl hF
  · replace hF := hF.2 hc
    refine wa_aload_n dX12_laysPower_48 0 rfl rfl ?_
    refine wa_getr (r := 152) dX12_laysPower_49 fkX12_117 rfl rfl rfl ?_
    refine wa_iload_n dX12_laysPower_52 3 rfl rfl ?_
    refine wa_aload_n dX12_laysPower_53 0 rfl rfl ?_
    refine wa_getr (r := 152) dX12_laysPower_54 fkX12_117 rfl rfl rfl ?_
    refine wa_iload_n dX12_laysPower_57 3 rfl rfl ?_
    obtain ⟨hi9, hF⟩ := hF
    refine wb_iald (j := x3.toNatClampNeg) (v := M 152 x3.toNatClampNeg) dX12_laysPower_58 rfl hi9 rfl rfl ?_
    refine wa_iload_n dX12_laysPower_59 1 rfl rfl ?_
    refine wa_imul dX12_laysPower_60 ?_
    refine wa_iload_n dX12_laysPower_61 3 rfl rfl ?_
    refine wa_if_le (tgt := 76) dX12_laysPower_62 rfl (fun hc => ?_) (fun hc => ?_)
    · replace hF := hF.1 hc
      refine wa_iconst (v := 0) dX12_laysPower_76 rfl ?_
      refine wa_iadd dX12_laysPower_77 ?_
      refine wa_aload_n dX12_laysPower_78 0 rfl rfl ?_
      refine wa_getr (r := 119) dX12_laysPower_79 fkX12_7 rfl rfl rfl ?_
      refine wa_iconst (v := 2) dX12_laysPower_82 rfl ?_
      refine wb_iald (j := 2) (v := M 119 2) dX12_laysPower_83 rfl (by unfold vp_in; decide) rfl rfl ?_
      obtain ⟨hn9, hF⟩ := hF
      refine wa_irem dX12_laysPower_84 hn9 ?_
      obtain ⟨hi9, hF⟩ := hF
      refine wb_iast (j := x3.toNatClampNeg) dX12_laysPower_85 rfl hi9 rfl ?_
      refine wa_iinc (v := x3 + (-1)) (lv' := [(3, .int (x3 + (-1))), (0, .ref 118), (1, .int x1), (2, .int x2)]) dX12_laysPower_86 3 rfl rfl rfl rfl ?_
      refine wa_goto (tgt := 44) dX12_laysPower_89 rfl ?_
      exact wa_pick [1, 2, 3, 0] rfl hF
    · replace hF := hF.2 hc
      refine wa_aload_n dX12_laysPower_65 0 rfl rfl ?_
      refine wa_getr (r := 152) dX12_laysPower_66 fkX12_117 rfl rfl rfl ?_
      refine wa_iload_n dX12_laysPower_69 3 rfl rfl ?_
      refine wa_iconst (v := 1) dX12_laysPower_70 rfl ?_
      refine wa_isub dX12_laysPower_71 ?_
      obtain ⟨hi9, hF⟩ := hF
      refine wb_iald (j := (x3 - 1).toNatClampNeg) (v := M 152 ((x3 - 1).toNatClampNeg)) dX12_laysPower_72 rfl hi9 rfl rfl ?_
      refine wa_goto (tgt := 77) dX12_laysPower_73 rfl ?_
      refine wa_iadd dX12_laysPower_77 ?_
      refine wa_aload_n dX12_laysPower_78 0 rfl rfl ?_
      refine wa_getr (r := 119) dX12_laysPower_79 fkX12_7 rfl rfl rfl ?_
      refine wa_iconst (v := 2) dX12_laysPower_82 rfl ?_
      refine wb_iald (j := 2) (v := M 119 2) dX12_laysPower_83 rfl (by unfold vp_in; decide) rfl rfl ?_
      obtain ⟨hn9, hF⟩ := hF
      refine wa_irem dX12_laysPower_84 hn9 ?_
      obtain ⟨hi9, hF⟩ := hF
      refine wb_iast (j := x3.toNatClampNeg) dX12_laysPower_85 rfl hi9 rfl ?_
      refine wa_iinc (v := x3 + (-1)) (lv' := [(3, .int (x3 + (-1))), (0, .ref 118), (1, .int x1), (2, .int x2)]) dX12_laysPower_86 3 rfl rfl rfl rfl ?_
      refine wa_goto (tgt := 44) dX12_laysPower_89 rfl ?_
      exact wa_pick [1, 2, 3, 0] rfl hF

theorem eX12_laysPower {X : a_X} {ad : Nat → Nat} {ca : Nat → ClassId} {d : Nat} {Post : Option Value → a_M → a_P → Prop} {x : Nat} {M : a_M} (x1 : Int32) (h : WA X ad ca LY RX12 cX12_laysPower 4 none d 0 0 (a_E X ad ca LY Post) 0 [(0, .ref 118), (1, .int x1)] [] M (PT x)) : Mt X ad ca LY d yX12_laysPower cX12_laysPower 4 none [.ref 118, .int x1] M (PT x) Post := Mt.of (lv := [(0, .ref 118), (1, .int x1)]) (by decide +kernel) rfl rfl rfl (wa_pick [0, 1] rfl h)

theorem bX12_addsPower_0 {X : a_X} {ad : Nat → Nat} {ca : Nat → ClassId} {d : Nat} {kc ks : Nat} {QF : List Frame → Array Value → State → State → Prop} {x : Nat} {M : a_M}   (hF : WA X ad ca LY RX12 cX12_addsPower 3 none (d + 1) kc ks QF 2 [(0, .ref 118), (1, .int 0)] [] M (PT x)) : WA X ad ca LY RX12 cX12_addsPower 3 none (d + 1) kc ks QF 0 [(0, .ref 118)] [] M (PT x) := by
  refine wa_iconst (v := 0) dX12_addsPower_0 rfl ?_
  refine wa_istore_n (lv' := [(1, .int 0), (0, .ref 118)]) dX12_addsPower_1 rfl rfl rfl ?_
  exact wa_pick [1, 0] rfl hF

theorem bX12_addsPower_2 {X : a_X} {ad : Nat → Nat} {ca : Nat → ClassId} {d : Nat} {Post : Option Value → a_M → a_P → Prop} {x : Nat} {M : a_M} (x1 : Int32)  (hF : ((8 ≤ x1 → Post none M (PT x)) ∧ (¬ 8 ≤ x1 → WA X ad ca LY RX12 cX12_addsPower 3 none (d + 1) 0 0 (a_E X ad ca LY Post) 10 [(0, .ref 118), (1, .int x1), (2, .int 0)] [] M (PT x)))) : WA X ad ca LY RX12 cX12_addsPower 3 none (d + 1) 0 0 (a_E X ad ca LY Post) 2 [(0, .ref 118), (1, .int x1)] [] M (PT x) := by
  refine wa_iload_n dX12_addsPower_2 1 rfl rfl ?_
  refine wa_bipush (v := 8) dX12_addsPower_3 rfl ?_
  refine wa_icmp_ge (tgt := 64) dX12_addsPower_5 rfl (fun hc => ?_) (fun hc => ?_)
  · replace hF := hF.1 hc
    exact wa_vret dX12_addsPower_64 rfl hF
  · replace hF := hF.2 hc
    refine wa_iconst (v := 0) dX12_addsPower_8 rfl ?_
    refine wa_istore_n (lv' := [(2, .int 0), (0, .ref 118), (1, .int x1)]) dX12_addsPower_9 rfl rfl rfl ?_
    exact wa_pick [1, 2, 0] rfl hF

theorem bX12_addsPower_10 {X : a_X} {ad : Nat → Nat} {ca : Nat → ClassId} {d : Nat} {kc ks : Nat} {QF : List Frame → Array Value → State → State → Prop} {x : Nat} {M : a_M} (x1 : Int32) (x2 : Int32)  (hF : ((3 ≤ x2 → WA X ad ca LY RX12 cX12_addsPower 3 none (d + 1) kc ks QF 2 [(0, .ref 118), (1, .int (x1 + 1))] [] M (PT x)) ∧ (¬ 3 ≤ x2 → (vp_in (x1 + x2) 12 ∧ (vp_in x1 8 ∧ (vp_in x2 3 ∧ (¬ (M 119 2) = 0 ∧ (vp_in (x1 + x2) 12 ∧ WA X ad ca LY RX12 cX12_addsPower 3 none (d + 1) kc ks QF 10 [(0, .ref 118), (1, .int x1), (2, .int (x2 + 1))] [] (ms M 149 ((x1 + x2).toNatClampNeg) (((M 149 ((x1 + x2).toNatClampNeg)) + ((M 152 x1.toNatClampNeg) * (M 151 x2.toNatClampNeg))) - ((M 149 ((x1 + x2).toNatClampNeg)) + ((M 152 x1.toNatClampNeg) * (M 151 x2.toNatClampNeg))) / (M 119 2) * (M 119 2))) (PT x))))))))) : WA X ad ca LY RX12 cX12_addsPower 3 none (d + 1) kc ks QF 10 [(0, .ref 118), (1, .int x1), (2, .int x2)] [] M (PT x) := by
  refine wa_iload_n dX12_addsPower_10 2 rfl rfl ?_
  refine wa_iconst (v := 3) dX12_addsPower_11 rfl ?_
  refine wa_icmp_ge (tgt := 58) dX12_addsPower_12 rfl (fun hc => ?_) (fun hc => ?_)
  · replace hF := hF.1 hc
    refine wa_iinc (v := x1 + 1) (lv' := [(1, .int (x1 + 1)), (0, .ref 118), (2, .int x2)]) dX12_addsPower_58 1 rfl rfl rfl rfl ?_
    refine wa_goto (tgt := 2) dX12_addsPower_61 rfl ?_
    exact wa_pick [1, 0] rfl hF
  · replace hF := hF.2 hc
    refine wa_aload_n dX12_addsPower_15 0 rfl rfl ?_
    refine wa_getr (r := 149) dX12_addsPower_16 fkX12_108 rfl rfl rfl ?_
    refine wa_iload_n dX12_addsPower_19 1 rfl rfl ?_
    refine wa_iload_n dX12_addsPower_20 2 rfl rfl ?_
    refine wa_iadd dX12_addsPower_21 ?_
    refine wa_aload_n dX12_addsPower_22 0 rfl rfl ?_
    refine wa_getr (r := 149) dX12_addsPower_23 fkX12_108 rfl rfl rfl ?_
    refine wa_iload_n dX12_addsPower_26 1 rfl rfl ?_
    refine wa_iload_n dX12_addsPower_27 2 rfl rfl ?_
    refine wa_iadd dX12_addsPower_28 ?_
    obtain ⟨hi9, hF⟩ := hF
    refine wb_iald (j := (x1 + x2).toNatClampNeg) (v := M 149 ((x1 + x2).toNatClampNeg)) dX12_addsPower_29 rfl hi9 rfl rfl ?_
    refine wa_aload_n dX12_addsPower_30 0 rfl rfl ?_
    refine wa_getr (r := 152) dX12_addsPower_31 fkX12_117 rfl rfl rfl ?_
    refine wa_iload_n dX12_addsPower_34 1 rfl rfl ?_
    obtain ⟨hi9, hF⟩ := hF
    refine wb_iald (j := x1.toNatClampNeg) (v := M 152 x1.toNatClampNeg) dX12_addsPower_35 rfl hi9 rfl rfl ?_
    refine wa_aload_n dX12_addsPower_36 0 rfl rfl ?_
    refine wa_getr (r := 151) dX12_addsPower_37 fkX12_114 rfl rfl rfl ?_
    refine wa_iload_n dX12_addsPower_40 2 rfl rfl ?_
    obtain ⟨hi9, hF⟩ := hF
    refine wb_iald (j := x2.toNatClampNeg) (v := M 151 x2.toNatClampNeg) dX12_addsPower_41 rfl hi9 rfl rfl ?_
    refine wa_imul dX12_addsPower_42 ?_
    refine wa_iadd dX12_addsPower_43 ?_
    refine wa_aload_n dX12_addsPower_44 0 rfl rfl ?_
    refine wa_getr (r := 119) dX12_addsPower_45 fkX12_7 rfl rfl rfl ?_
    refine wa_iconst (v := 2) dX12_addsPower_48 rfl ?_
    refine wb_iald (j := 2) (v := M 119 2) dX12_addsPower_49 rfl (by unfold vp_in; decide) rfl rfl ?_
    obtain ⟨hn9, hF⟩ := hF
    refine wa_irem dX12_addsPower_50 hn9 ?_
    obtain ⟨hi9, hF⟩ := hF
    refine wb_iast (j := (x1 + x2).toNatClampNeg) dX12_addsPower_51 rfl hi9 rfl ?_
    refine wa_iinc (v := x2 + 1) (lv' := [(2, .int (x2 + 1)), (0, .ref 118), (1, .int x1)]) dX12_addsPower_52 2 rfl rfl rfl rfl ?_
    refine wa_goto (tgt := 10) dX12_addsPower_55 rfl ?_
    exact wa_pick [1, 2, 0] rfl hF

theorem eX12_addsPower {X : a_X} {ad : Nat → Nat} {ca : Nat → ClassId} {d : Nat} {Post : Option Value → a_M → a_P → Prop} {x : Nat} {M : a_M}  (h : WA X ad ca LY RX12 cX12_addsPower 3 none d 0 0 (a_E X ad ca LY Post) 0 [(0, .ref 118)] [] M (PT x)) : Mt X ad ca LY d yX12_addsPower cX12_addsPower 3 none [.ref 118] M (PT x) Post := Mt.of (lv := [(0, .ref 118)]) (by decide +kernel) rfl rfl rfl (wa_pick [0] rfl h)

theorem bX12_isPair_0 {X : a_X} {ad : Nat → Nat} {ca : Nat → ClassId} {d : Nat} {kc ks : Nat} {QF : List Frame → Array Value → State → State → Prop} {x : Nat} {M : a_M} (x1 : Int32)  (hF : WA X ad ca LY RX12 cX12_isPair 5 (some FieldType.boolean) (d + 1) kc ks QF 2 [(0, .ref 118), (1, .int x1), (2, .int 0)] [] M (PT x)) : WA X ad ca LY RX12 cX12_isPair 5 (some FieldType.boolean) (d + 1) kc ks QF 0 [(0, .ref 118), (1, .int x1)] [] M (PT x) := by
  refine wa_iconst (v := 0) dX12_isPair_0 rfl ?_
  refine wa_istore_n (lv' := [(2, .int 0), (0, .ref 118), (1, .int x1)]) dX12_isPair_1 rfl rfl rfl ?_
  exact wa_pick [1, 2, 0] rfl hF

theorem bX12_isPair_2 {X : a_X} {ad : Nat → Nat} {ca : Nat → ClassId} {d : Nat} {kc ks : Nat} {QF : List Frame → Array Value → State → State → Prop} {x : Nat} {M : a_M} (x1 : Int32) (x2 : Int32)  (hF : ((12 ≤ x2 → (¬ (M 119 2) = 0 ∧ (∃ Q1 : a_M → Prop, Mt X ad ca LY d yX12_moves cX12_moves 5 none [.ref 118, .int x1, .int (((M 119 2) - (M 119 3)) - ((M 119 2) - (M 119 3)) / (M 119 2) * (M 119 2))] M (PT x) (q_v (PT x) Q1) ∧ ∀ M1, Q1 M1 → (∃ Q2 : a_M → Prop, Mt X ad ca LY d yX12_laysPower cX12_laysPower 4 none [.ref 118, .int (M1 119 3)] M1 (PT x) (q_v (PT x) Q2) ∧ ∀ M2, Q2 M2 → (∃ Q3 : a_M → Prop, Mt X ad ca LY d yX12_addsPower cX12_addsPower 3 none [.ref 118] M2 (PT x) (q_v (PT x) Q3) ∧ ∀ M3, Q3 M3 → (∃ Q4 : a_M → Prop, Mt X ad ca LY d yX12_moves cX12_moves 5 none [.ref 118, .int x1, .int (M3 119 3)] M3 (PT x) (q_v (PT x) Q4) ∧ ∀ M4, Q4 M4 → (∃ Q5 : a_M → Prop, Mt X ad ca LY d yX12_laysPower cX12_laysPower 4 none [.ref 118, .int 0] M4 (PT x) (q_v (PT x) Q5) ∧ ∀ M5, Q5 M5 → (∃ Q6 : a_M → Prop, Mt X ad ca LY d yX12_addsPower cX12_addsPower 3 none [.ref 118] M5 (PT x) (q_v (PT x) Q6) ∧ ∀ M6, Q6 M6 → WA X ad ca LY RX12 cX12_isPair 5 (some FieldType.boolean) (d + 1) kc ks QF 82 [(0, .ref 118), (1, .int x1), (2, .int 0)] [] M6 (PT x))))))))) ∧ (¬ 12 ≤ x2 → (vp_in x2 12 ∧ WA X ad ca LY RX12 cX12_isPair 5 (some FieldType.boolean) (d + 1) kc ks QF 2 [(0, .ref 118), (1, .int x1), (2, .int (x2 + 1))] [] (ms M 149 x2.toNatClampNeg 0) (PT x))))) : WA X ad ca LY RX12 cX12_isPair 5 (some FieldType.boolean) (d + 1) kc ks QF 2 [(0, .ref 118), (1, .int x1), (2, .int x2)] [] M (PT x) := by
  refine wa_iload_n dX12_isPair_2 2 rfl rfl ?_
  refine wa_bipush (v := 12) dX12_isPair_3 rfl ?_
  refine wa_icmp_ge (tgt := 21) dX12_isPair_5 rfl (fun hc => ?_) (fun hc => ?_)
  · replace hF := hF.1 hc
    refine wa_aload_n dX12_isPair_21 0 rfl rfl ?_
    refine wa_iload_n dX12_isPair_22 1 rfl rfl ?_
    refine wa_aload_n dX12_isPair_23 0 rfl rfl ?_
    refine wa_getr (r := 119) dX12_isPair_24 fkX12_7 rfl rfl rfl ?_
    refine wa_iconst (v := 2) dX12_isPair_27 rfl ?_
    refine wb_iald (j := 2) (v := M 119 2) dX12_isPair_28 rfl (by unfold vp_in; decide) rfl rfl ?_
    refine wa_aload_n dX12_isPair_29 0 rfl rfl ?_
    refine wa_getr (r := 119) dX12_isPair_30 fkX12_7 rfl rfl rfl ?_
    refine wa_iconst (v := 3) dX12_isPair_33 rfl ?_
    refine wb_iald (j := 3) (v := M 119 3) dX12_isPair_34 rfl (by unfold vp_in; decide) rfl rfl ?_
    refine wa_isub dX12_isPair_35 ?_
    refine wa_aload_n dX12_isPair_36 0 rfl rfl ?_
    refine wa_getr (r := 119) dX12_isPair_37 fkX12_7 rfl rfl rfl ?_
    refine wa_iconst (v := 2) dX12_isPair_40 rfl ?_
    refine wb_iald (j := 2) (v := M 119 2) dX12_isPair_41 rfl (by unfold vp_in; decide) rfl rfl ?_
    obtain ⟨hn9, hF⟩ := hF
    refine wa_irem dX12_isPair_42 hn9 ?_
    obtain ⟨Q1, hM9, hF⟩ := hF
    refine wa_callV [.int x1, .int (((M 119 2) - (M 119 3)) - ((M 119 2) - (M 119 3)) / (M 119 2) * (M 119 2))] dX12_isPair_43 (mmX12_moves _ _) mlX12_393 mnX12_moves mseX12_moves rfl rfl rfl rfl (a_dlt d) rfl rfl hM9 ?_
    rintro r9 M1 P9 ⟨rfl, rfl, hq9⟩
    replace hF := hF M1 hq9
    simp only [Option.toList, List.nil_append]
    refine wa_aload_n dX12_isPair_46 0 rfl rfl ?_
    refine wa_aload_n dX12_isPair_47 0 rfl rfl ?_
    refine wa_getr (r := 119) dX12_isPair_48 fkX12_7 rfl rfl rfl ?_
    refine wa_iconst (v := 3) dX12_isPair_51 rfl ?_
    refine wb_iald (j := 3) (v := M1 119 3) dX12_isPair_52 rfl (by unfold vp_in; decide) rfl rfl ?_
    obtain ⟨Q2, hM9, hF⟩ := hF
    refine wa_callV [.int (M1 119 3)] dX12_isPair_53 (mmX12_laysPower _ _) mlX12_396 mnX12_laysPower mseX12_laysPower rfl rfl rfl rfl (a_dlt d) rfl rfl hM9 ?_
    rintro r9 M2 P9 ⟨rfl, rfl, hq9⟩
    replace hF := hF M2 hq9
    simp only [Option.toList, List.nil_append]
    refine wa_aload_n dX12_isPair_56 0 rfl rfl ?_
    obtain ⟨Q3, hM9, hF⟩ := hF
    refine wa_callV [] dX12_isPair_57 (mmX12_addsPower _ _) mlX12_399 mnX12_addsPower mseX12_addsPower rfl rfl rfl rfl (a_dlt d) rfl rfl hM9 ?_
    rintro r9 M3 P9 ⟨rfl, rfl, hq9⟩
    replace hF := hF M3 hq9
    simp only [Option.toList, List.nil_append]
    refine wa_aload_n dX12_isPair_60 0 rfl rfl ?_
    refine wa_iload_n dX12_isPair_61 1 rfl rfl ?_
    refine wa_aload_n dX12_isPair_62 0 rfl rfl ?_
    refine wa_getr (r := 119) dX12_isPair_63 fkX12_7 rfl rfl rfl ?_
    refine wa_iconst (v := 3) dX12_isPair_66 rfl ?_
    refine wb_iald (j := 3) (v := M3 119 3) dX12_isPair_67 rfl (by unfold vp_in; decide) rfl rfl ?_
    obtain ⟨Q4, hM9, hF⟩ := hF
    refine wa_callV [.int x1, .int (M3 119 3)] dX12_isPair_68 (mmX12_moves _ _) mlX12_393 mnX12_moves mseX12_moves rfl rfl rfl rfl (a_dlt d) rfl rfl hM9 ?_
    rintro r9 M4 P9 ⟨rfl, rfl, hq9⟩
    replace hF := hF M4 hq9
    simp only [Option.toList, List.nil_append]
    refine wa_aload_n dX12_isPair_71 0 rfl rfl ?_
    refine wa_iconst (v := 0) dX12_isPair_72 rfl ?_
    obtain ⟨Q5, hM9, hF⟩ := hF
    refine wa_callV [.int 0] dX12_isPair_73 (mmX12_laysPower _ _) mlX12_396 mnX12_laysPower mseX12_laysPower rfl rfl rfl rfl (a_dlt d) rfl rfl hM9 ?_
    rintro r9 M5 P9 ⟨rfl, rfl, hq9⟩
    replace hF := hF M5 hq9
    simp only [Option.toList, List.nil_append]
    refine wa_aload_n dX12_isPair_76 0 rfl rfl ?_
    obtain ⟨Q6, hM9, hF⟩ := hF
    refine wa_callV [] dX12_isPair_77 (mmX12_addsPower _ _) mlX12_399 mnX12_addsPower mseX12_addsPower rfl rfl rfl rfl (a_dlt d) rfl rfl hM9 ?_
    rintro r9 M6 P9 ⟨rfl, rfl, hq9⟩
    replace hF := hF M6 hq9
    simp only [Option.toList, List.nil_append]
    refine wa_iconst (v := 0) dX12_isPair_80 rfl ?_
    refine wa_istore_n (lv' := [(2, .int 0), (0, .ref 118), (1, .int x1)]) dX12_isPair_81 rfl rfl rfl ?_
    exact wa_pick [1, 2, 0] rfl hF
  · replace hF := hF.2 hc
    refine wa_aload_n dX12_isPair_8 0 rfl rfl ?_
    refine wa_getr (r := 149) dX12_isPair_9 fkX12_108 rfl rfl rfl ?_
    refine wa_iload_n dX12_isPair_12 2 rfl rfl ?_
    refine wa_iconst (v := 0) dX12_isPair_13 rfl ?_
    obtain ⟨hi9, hF⟩ := hF
    refine wb_iast (j := x2.toNatClampNeg) dX12_isPair_14 rfl hi9 rfl ?_
    refine wa_iinc (v := x2 + 1) (lv' := [(2, .int (x2 + 1)), (0, .ref 118), (1, .int x1)]) dX12_isPair_15 2 rfl rfl rfl rfl ?_
    refine wa_goto (tgt := 2) dX12_isPair_18 rfl ?_
    exact wa_pick [1, 2, 0] rfl hF

theorem bX12_isPair_82 {X : a_X} {ad : Nat → Nat} {ca : Nat → ClassId} {d : Nat} {kc ks : Nat} {QF : List Frame → Array Value → State → State → Prop} {x : Nat} {M : a_M} (x1 : Int32) (x2 : Int32)  (hF : ((8 ≤ x2 → WA X ad ca LY RX12 cX12_isPair 5 (some FieldType.boolean) (d + 1) kc ks QF 108 [(0, .ref 118), (1, .int x1), (2, .int (M 119 0))] [] M (PT x)) ∧ (¬ 8 ≤ x2 → (vp_in x2 8 ∧ WA X ad ca LY RX12 cX12_isPair 5 (some FieldType.boolean) (d + 1) kc ks QF 82 [(0, .ref 118), (1, .int x1), (2, .int (x2 + 1))] [] (ms M 150 x2.toNatClampNeg 0) (PT x))))) : WA X ad ca LY RX12 cX12_isPair 5 (some FieldType.boolean) (d + 1) kc ks QF 82 [(0, .ref 118), (1, .int x1), (2, .int x2)] [] M (PT x) := by
  refine wa_iload_n dX12_isPair_82 2 rfl rfl ?_
  refine wa_bipush (v := 8) dX12_isPair_83 rfl ?_
  refine wa_icmp_ge (tgt := 101) dX12_isPair_85 rfl (fun hc => ?_) (fun hc => ?_)
  · replace hF := hF.1 hc
    refine wa_aload_n dX12_isPair_101 0 rfl rfl ?_
    refine wa_getr (r := 119) dX12_isPair_102 fkX12_7 rfl rfl rfl ?_
    refine wa_iconst (v := 0) dX12_isPair_105 rfl ?_
    refine wb_iald (j := 0) (v := M 119 0) dX12_isPair_106 rfl (by unfold vp_in; decide) rfl rfl ?_
    refine wa_istore_n (lv' := [(2, .int (M 119 0)), (0, .ref 118), (1, .int x1)]) dX12_isPair_107 rfl rfl rfl ?_
    exact wa_pick [1, 2, 0] rfl hF
  · replace hF := hF.2 hc
    refine wa_aload_n dX12_isPair_88 0 rfl rfl ?_
    refine wa_getr (r := 150) dX12_isPair_89 fkX12_111 rfl rfl rfl ?_
    refine wa_iload_n dX12_isPair_92 2 rfl rfl ?_
    refine wa_iconst (v := 0) dX12_isPair_93 rfl ?_
    obtain ⟨hi9, hF⟩ := hF
    refine wb_iast (j := x2.toNatClampNeg) dX12_isPair_94 rfl hi9 rfl ?_
    refine wa_iinc (v := x2 + 1) (lv' := [(2, .int (x2 + 1)), (0, .ref 118), (1, .int x1)]) dX12_isPair_95 2 rfl rfl rfl rfl ?_
    refine wa_goto (tgt := 82) dX12_isPair_98 rfl ?_
    exact wa_pick [1, 2, 0] rfl hF

theorem bX12_isPair_108 {X : a_X} {ad : Nat → Nat} {ca : Nat → ClassId} {d : Nat} {kc ks : Nat} {QF : List Frame → Array Value → State → State → Prop} {x : Nat} {M : a_M} (x1 : Int32) (x2 : Int32)  (hF : ((x2 < 0 → WA X ad ca LY RX12 cX12_isPair 5 (some FieldType.boolean) (d + 1) kc ks QF 188 [(0, .ref 118), (1, .int x1), (2, .int 1), (3, .int 0)] [] M (PT x)) ∧ (¬ x2 < 0 → (vp_in (x2 + x1) 12 ∧ (vp_in x2 8 ∧ WA X ad ca LY RX12 cX12_isPair 5 (some FieldType.boolean) (d + 1) kc ks QF 131 [(0, .ref 118), (1, .int x1), (2, .int x2), (3, .int (M 149 ((x2 + x1).toNatClampNeg))), (4, .int 0)] [] (ms M 150 x2.toNatClampNeg (M 149 ((x2 + x1).toNatClampNeg))) (PT x)))))) : WA X ad ca LY RX12 cX12_isPair 5 (some FieldType.boolean) (d + 1) kc ks QF 108 [(0, .ref 118), (1, .int x1), (2, .int x2)] [] M (PT x) := by
  refine wa_iload_n dX12_isPair_108 2 rfl rfl ?_
  refine wa_if_lt (tgt := 184) dX12_isPair_109 rfl (fun hc => ?_) (fun hc => ?_)
  · replace hF := hF.1 hc
    refine wa_iconst (v := 1) dX12_isPair_184 rfl ?_
    refine wa_istore_n (lv' := [(2, .int 1), (0, .ref 118), (1, .int x1)]) dX12_isPair_185 rfl rfl rfl ?_
    refine wa_iconst (v := 0) dX12_isPair_186 rfl ?_
    refine wa_istore_n (lv' := [(3, .int 0), (2, .int 1), (0, .ref 118), (1, .int x1)]) dX12_isPair_187 rfl rfl rfl ?_
    exact wa_pick [2, 3, 1, 0] rfl hF
  · replace hF := hF.2 hc
    refine wa_aload_n dX12_isPair_112 0 rfl rfl ?_
    refine wa_getr (r := 149) dX12_isPair_113 fkX12_108 rfl rfl rfl ?_
    refine wa_iload_n dX12_isPair_116 2 rfl rfl ?_
    refine wa_iload_n dX12_isPair_117 1 rfl rfl ?_
    refine wa_iadd dX12_isPair_118 ?_
    obtain ⟨hi9, hF⟩ := hF
    refine wb_iald (j := (x2 + x1).toNatClampNeg) (v := M 149 ((x2 + x1).toNatClampNeg)) dX12_isPair_119 rfl hi9 rfl rfl ?_
    refine wa_istore_n (lv' := [(3, .int (M 149 ((x2 + x1).toNatClampNeg))), (0, .ref 118), (1, .int x1), (2, .int x2)]) dX12_isPair_120 rfl rfl rfl ?_
    refine wa_aload_n dX12_isPair_121 1 rfl rfl ?_
    refine wa_getr (r := 150) dX12_isPair_122 fkX12_111 rfl rfl rfl ?_
    refine wa_iload_n dX12_isPair_125 3 rfl rfl ?_
    refine wa_iload_n dX12_isPair_126 0 rfl rfl ?_
    obtain ⟨hi9, hF⟩ := hF
    refine wb_iast (j := x2.toNatClampNeg) dX12_isPair_127 rfl hi9 rfl ?_
    refine wa_iconst (v := 0) dX12_isPair_128 rfl ?_
    refine wa_istore (lv' := [(4, .int 0), (3, .int (M 149 ((x2 + x1).toNatClampNeg))), (0, .ref 118), (1, .int x1), (2, .int x2)]) dX12_isPair_129 rfl rfl ?_
    exact wa_pick [2, 3, 4, 1, 0] rfl hF

theorem bX12_isPair_131 {X : a_X} {ad : Nat → Nat} {ca : Nat → ClassId} {d : Nat} {kc ks : Nat} {QF : List Frame → Array Value → State → State → Prop} {x : Nat} {M : a_M} (x1 : Int32) (x2 : Int32) (x3 : Int32) (x4 : Int32)  (hF : ((x1 < x4 → WA X ad ca LY RX12 cX12_isPair 5 (some FieldType.boolean) (d + 1) kc ks QF 108 [(0, .ref 118), (1, .int x1), (2, .int (x2 + (-1)))] [] M (PT x)) ∧ (¬ x1 < x4 → (vp_in (x2 + x4) 12 ∧ (vp_in x4 3 ∧ (∃ Q1 : Int32 → a_M → Prop, Mt X ad ca LY d yX12_left cX12_left 4 (some FieldType.int) [.ref 118, .long (((M 149 ((x2 + x4).toNatClampNeg)).toInt64) - (x3.toInt64 * ((M 148 x4.toNatClampNeg).toInt64)))] M (PT x) (q_i (PT x) Q1) ∧ ∀ v1 M1, Q1 v1 M1 → (vp_in (x2 + x4) 12 ∧ WA X ad ca LY RX12 cX12_isPair 5 (some FieldType.boolean) (d + 1) kc ks QF 131 [(0, .ref 118), (1, .int x1), (2, .int x2), (3, .int x3), (4, .int (x4 + 1))] [] (ms M1 149 ((x2 + x4).toNatClampNeg) v1) (PT x)))))))) : WA X ad ca LY RX12 cX12_isPair 5 (some FieldType.boolean) (d + 1) kc ks QF 131 [(0, .ref 118), (1, .int x1), (2, .int x2), (3, .int x3), (4, .int x4)] [] M (PT x) := by
  refine wa_iload dX12_isPair_131 4 rfl ?_
  refine wa_iload_n dX12_isPair_133 1 rfl rfl ?_
  refine wa_icmp_gt (tgt := 178) dX12_isPair_134 rfl (fun hc => ?_) (fun hc => ?_)
  · replace hF := hF.1 hc
    refine wa_iinc (v := x2 + (-1)) (lv' := [(2, .int (x2 + (-1))), (0, .ref 118), (1, .int x1), (3, .int x3), (4, .int x4)]) dX12_isPair_178 2 rfl rfl rfl rfl ?_
    refine wa_goto (tgt := 108) dX12_isPair_181 rfl ?_
    exact wa_pick [1, 2, 0] rfl hF
  · replace hF := hF.2 hc
    refine wa_aload_n dX12_isPair_137 0 rfl rfl ?_
    refine wa_getr (r := 149) dX12_isPair_138 fkX12_108 rfl rfl rfl ?_
    refine wa_iload_n dX12_isPair_141 2 rfl rfl ?_
    refine wa_iload dX12_isPair_142 4 rfl ?_
    refine wa_iadd dX12_isPair_144 ?_
    refine wa_aload_n dX12_isPair_145 0 rfl rfl ?_
    refine wa_aload_n dX12_isPair_146 0 rfl rfl ?_
    refine wa_getr (r := 149) dX12_isPair_147 fkX12_108 rfl rfl rfl ?_
    refine wa_iload_n dX12_isPair_150 2 rfl rfl ?_
    refine wa_iload dX12_isPair_151 4 rfl ?_
    refine wa_iadd dX12_isPair_153 ?_
    obtain ⟨hi9, hF⟩ := hF
    refine wb_iald (j := (x2 + x4).toNatClampNeg) (v := M 149 ((x2 + x4).toNatClampNeg)) dX12_isPair_154 rfl hi9 rfl rfl ?_
    refine wa_i2l dX12_isPair_155 ?_
    refine wa_iload_n dX12_isPair_156 3 rfl rfl ?_
    refine wa_i2l dX12_isPair_157 ?_
    refine wa_aload_n dX12_isPair_158 0 rfl rfl ?_
    refine wa_getr (r := 148) dX12_isPair_159 fkX12_105 rfl rfl rfl ?_
    refine wa_iload dX12_isPair_162 4 rfl ?_
    obtain ⟨hi9, hF⟩ := hF
    refine wb_iald (j := x4.toNatClampNeg) (v := M 148 x4.toNatClampNeg) dX12_isPair_164 rfl hi9 rfl rfl ?_
    refine wa_i2l dX12_isPair_165 ?_
    refine wa_lmul dX12_isPair_166 ?_
    refine wa_lsub dX12_isPair_167 ?_
    obtain ⟨Q1, hM9, hF⟩ := hF
    refine wa_callV [.long (((M 149 ((x2 + x4).toNatClampNeg)).toInt64) - (x3.toInt64 * ((M 148 x4.toNatClampNeg).toInt64)))] dX12_isPair_168 (mmX12_left _ _) mlX12_360 mnX12_left mseX12_left rfl rfl rfl rfl (a_dlt d) rfl rfl hM9 ?_
    rintro r9 M1 P9 ⟨v1, rfl, rfl, hq9⟩
    replace hF := hF v1 M1 hq9
    simp only [Option.toList, List.cons_append, List.nil_append]
    obtain ⟨hi9, hF⟩ := hF
    refine wb_iast (j := (x2 + x4).toNatClampNeg) dX12_isPair_171 rfl hi9 rfl ?_
    refine wa_iinc (v := x4 + 1) (lv' := [(4, .int (x4 + 1)), (0, .ref 118), (1, .int x1), (2, .int x2), (3, .int x3)]) dX12_isPair_172 4 rfl rfl rfl rfl ?_
    refine wa_goto (tgt := 131) dX12_isPair_175 rfl ?_
    exact wa_pick [1, 2, 3, 4, 0] rfl hF

theorem bX12_isPair_188 {X : a_X} {ad : Nat → Nat} {ca : Nat → ClassId} {d : Nat} {Post : Option Value → a_M → a_P → Prop} {x : Nat} {M : a_M} (x1 : Int32) (x2 : Int32) (x3 : Int32)  (hF : ((x1 ≤ x3 → ((x2 = 0 ∨ x2 = 1) ∧ Post (some (.int x2)) M (PT x))) ∧ (¬ x1 ≤ x3 → ((x2 = 0 → WA X ad ca LY RX12 cX12_isPair 5 (some FieldType.boolean) (d + 1) 0 0 (a_E X ad ca LY Post) 210 [(0, .ref 118), (1, .int x1), (3, .int x3)] [] M (PT x)) ∧ (¬ x2 = 0 → (vp_in x3 12 ∧ ((¬ (M 149 x3.toNatClampNeg) = 0 → WA X ad ca LY RX12 cX12_isPair 5 (some FieldType.boolean) (d + 1) 0 0 (a_E X ad ca LY Post) 210 [(0, .ref 118), (1, .int x1), (3, .int x3)] [] M (PT x)) ∧ ((M 149 x3.toNatClampNeg) = 0 → WA X ad ca LY RX12 cX12_isPair 5 (some FieldType.boolean) (d + 1) 0 0 (a_E X ad ca LY Post) 188 [(0, .ref 118), (1, .int x1), (2, .int 1), (3, .int (x3 + 1))] [] M (PT x))))))))) : WA X ad ca LY RX12 cX12_isPair 5 (some FieldType.boolean) (d + 1) 0 0 (a_E X ad ca LY Post) 188 [(0, .ref 118), (1, .int x1), (2, .int x2), (3, .int x3)] [] M (PT x) := by
  refine wa_iload_n dX12_isPair_188 3 rfl rfl ?_
  refine wa_iload_n dX12_isPair_189 1 rfl rfl ?_
  refine wa_icmp_ge (tgt := 218) dX12_isPair_190 rfl (fun hc => ?_) (fun hc => ?_)
  · replace hF := hF.1 hc
    refine wa_iload_n dX12_isPair_218 2 rfl rfl ?_
    exact wa_iret dX12_isPair_219 rfl (a_bn hF.1) hF.2
  · replace hF := hF.2 hc
    refine wa_iload_n dX12_isPair_193 2 rfl rfl ?_
    refine wa_if_eq (tgt := 210) dX12_isPair_194 rfl (fun hc => ?_) (fun hc => ?_)
    · replace hF := hF.1 hc
      exact wa_pick [0, 1, 3] rfl hF
    · replace hF := hF.2 hc
      refine wa_aload_n dX12_isPair_197 0 rfl rfl ?_
      refine wa_getr (r := 149) dX12_isPair_198 fkX12_108 rfl rfl rfl ?_
      refine wa_iload_n dX12_isPair_201 3 rfl rfl ?_
      obtain ⟨hi9, hF⟩ := hF
      refine wb_iald (j := x3.toNatClampNeg) (v := M 149 x3.toNatClampNeg) dX12_isPair_202 rfl hi9 rfl rfl ?_
      refine wa_if_ne (tgt := 210) dX12_isPair_203 rfl (fun hc => ?_) (fun hc => ?_)
      · replace hF := hF.1 hc
        exact wa_pick [0, 1, 3] rfl hF
      · replace hF := hF.2 hc
        refine wa_iconst (v := 1) dX12_isPair_206 rfl ?_
        refine wa_goto (tgt := 211) dX12_isPair_207 rfl ?_
        refine wa_istore_n (lv' := [(2, .int 1), (0, .ref 118), (1, .int x1), (3, .int x3)]) dX12_isPair_211 rfl rfl rfl ?_
        refine wa_iinc (v := x3 + 1) (lv' := [(3, .int (x3 + 1)), (2, .int 1), (0, .ref 118), (1, .int x1)]) dX12_isPair_212 3 rfl rfl rfl rfl ?_
        refine wa_goto (tgt := 188) dX12_isPair_215 rfl ?_
        exact wa_pick [2, 3, 1, 0] rfl hF

theorem bX12_isPair_210 {X : a_X} {ad : Nat → Nat} {ca : Nat → ClassId} {d : Nat} {kc ks : Nat} {QF : List Frame → Array Value → State → State → Prop} {x : Nat} {M : a_M} (x1 : Int32) (x3 : Int32)  (hF : WA X ad ca LY RX12 cX12_isPair 5 (some FieldType.boolean) (d + 1) kc ks QF 188 [(0, .ref 118), (1, .int x1), (2, .int 0), (3, .int (x3 + 1))] [] M (PT x)) : WA X ad ca LY RX12 cX12_isPair 5 (some FieldType.boolean) (d + 1) kc ks QF 210 [(0, .ref 118), (1, .int x1), (3, .int x3)] [] M (PT x) := by
  refine wa_iconst (v := 0) dX12_isPair_210 rfl ?_
  refine wa_istore_n (lv' := [(2, .int 0), (0, .ref 118), (1, .int x1), (3, .int x3)]) dX12_isPair_211 rfl rfl rfl ?_
  refine wa_iinc (v := x3 + 1) (lv' := [(3, .int (x3 + 1)), (2, .int 0), (0, .ref 118), (1, .int x1)]) dX12_isPair_212 3 rfl rfl rfl rfl ?_
  refine wa_goto (tgt := 188) dX12_isPair_215 rfl ?_
  exact wa_pick [2, 3, 1, 0] rfl hF

theorem eX12_isPair {X : a_X} {ad : Nat → Nat} {ca : Nat → ClassId} {d : Nat} {Post : Option Value → a_M → a_P → Prop} {x : Nat} {M : a_M} (x1 : Int32) (h : WA X ad ca LY RX12 cX12_isPair 5 (some FieldType.boolean) d 0 0 (a_E X ad ca LY Post) 0 [(0, .ref 118), (1, .int x1)] [] M (PT x)) : Mt X ad ca LY d yX12_isPair cX12_isPair 5 (some FieldType.boolean) [.ref 118, .int x1] M (PT x) Post := Mt.of (lv := [(0, .ref 118), (1, .int x1)]) (by decide +kernel) rfl rfl rfl (wa_pick [0, 1] rfl h)

theorem bX12_laysPair_0 {X : a_X} {ad : Nat → Nat} {ca : Nat → ClassId} {d : Nat} {kc ks : Nat} {QF : List Frame → Array Value → State → State → Prop} {x : Nat} {M : a_M} (x1 : Int32) (x2 : Int32)  (hF : ((¬ x1 = 0 → ((¬ x1 = 1 → WA X ad ca LY RX12 cX12_laysPair 5 (some FieldType.boolean) (d + 1) kc ks QF 44 [(0, .ref 118), (1, .int x1), (2, .int x2), (3, .int ((M 119 2) * (M 119 2))), (4, .int 0)] [] (ms M 118 55 0) (PT x)) ∧ (x1 = 1 → WA X ad ca LY RX12 cX12_laysPair 5 (some FieldType.boolean) (d + 1) kc ks QF 44 [(0, .ref 118), (1, .int x1), (2, .int x2), (3, .int (M 119 2)), (4, .int 0)] [] (ms M 118 55 0) (PT x)))) ∧ (x1 = 0 → WA X ad ca LY RX12 cX12_laysPair 5 (some FieldType.boolean) (d + 1) kc ks QF 44 [(0, .ref 118), (1, .int x1), (2, .int x2), (3, .int 1), (4, .int 0)] [] (ms M 118 55 0) (PT x)))) : WA X ad ca LY RX12 cX12_laysPair 5 (some FieldType.boolean) (d + 1) kc ks QF 0 [(0, .ref 118), (1, .int x1), (2, .int x2)] [] M (PT x) := by
  refine wa_aload_n dX12_laysPair_0 0 rfl rfl ?_
  refine wa_iconst (v := 0) dX12_laysPair_1 rfl ?_
  refine wb_puti dX12_laysPair_2 fkX12_402 fmX12_55 rfl rfl ?_
  refine wa_iload_n dX12_laysPair_5 1 rfl rfl ?_
  refine wa_if_ne (tgt := 13) dX12_laysPair_6 rfl (fun hc => ?_) (fun hc => ?_)
  · replace hF := hF.1 hc
    refine wa_iload_n dX12_laysPair_13 1 rfl rfl ?_
    refine wa_iconst (v := 1) dX12_laysPair_14 rfl ?_
    refine wa_icmp_ne (tgt := 27) dX12_laysPair_15 rfl (fun hc => ?_) (fun hc => ?_)
    · replace hF := hF.1 hc
      refine wa_aload_n dX12_laysPair_27 0 rfl rfl ?_
      refine wa_getr (r := 119) dX12_laysPair_28 fkX12_7 rfl rfl rfl ?_
      refine wa_iconst (v := 2) dX12_laysPair_31 rfl ?_
      refine wb_iald (j := 2) (v := M 119 2) dX12_laysPair_32 rfl (by unfold vp_in; decide) rfl ((ms_no M 118 55 0 119 2 (fun h9 => absurd h9.1 (by decide))).trans rfl) ?_
      refine wa_aload_n dX12_laysPair_33 0 rfl rfl ?_
      refine wa_getr (r := 119) dX12_laysPair_34 fkX12_7 rfl rfl rfl ?_
      refine wa_iconst (v := 2) dX12_laysPair_37 rfl ?_
      refine wb_iald (j := 2) (v := M 119 2) dX12_laysPair_38 rfl (by unfold vp_in; decide) rfl ((ms_no M 118 55 0 119 2 (fun h9 => absurd h9.1 (by decide))).trans rfl) ?_
      refine wa_imul dX12_laysPair_39 ?_
      refine wa_istore_n (lv' := [(3, .int ((M 119 2) * (M 119 2))), (0, .ref 118), (1, .int x1), (2, .int x2)]) dX12_laysPair_40 rfl rfl rfl ?_
      refine wa_iconst (v := 0) dX12_laysPair_41 rfl ?_
      refine wa_istore (lv' := [(4, .int 0), (3, .int ((M 119 2) * (M 119 2))), (0, .ref 118), (1, .int x1), (2, .int x2)]) dX12_laysPair_42 rfl rfl ?_
      exact wa_pick [2, 3, 4, 1, 0] rfl hF
    · replace hF := hF.2 hc
      refine wa_aload_n dX12_laysPair_18 0 rfl rfl ?_
      refine wa_getr (r := 119) dX12_laysPair_19 fkX12_7 rfl rfl rfl ?_
      refine wa_iconst (v := 2) dX12_laysPair_22 rfl ?_
      refine wb_iald (j := 2) (v := M 119 2) dX12_laysPair_23 rfl (by unfold vp_in; decide) rfl ((ms_no M 118 55 0 119 2 (fun h9 => absurd h9.1 (by decide))).trans rfl) ?_
      refine wa_goto (tgt := 40) dX12_laysPair_24 rfl ?_
      refine wa_istore_n (lv' := [(3, .int (M 119 2)), (0, .ref 118), (1, .int x1), (2, .int x2)]) dX12_laysPair_40 rfl rfl rfl ?_
      refine wa_iconst (v := 0) dX12_laysPair_41 rfl ?_
      refine wa_istore (lv' := [(4, .int 0), (3, .int (M 119 2)), (0, .ref 118), (1, .int x1), (2, .int x2)]) dX12_laysPair_42 rfl rfl ?_
      exact wa_pick [2, 3, 4, 1, 0] rfl hF
  · replace hF := hF.2 hc
    refine wa_iconst (v := 1) dX12_laysPair_9 rfl ?_
    refine wa_goto (tgt := 40) dX12_laysPair_10 rfl ?_
    refine wa_istore_n (lv' := [(3, .int 1), (0, .ref 118), (1, .int x1), (2, .int x2)]) dX12_laysPair_40 rfl rfl rfl ?_
    refine wa_iconst (v := 0) dX12_laysPair_41 rfl ?_
    refine wa_istore (lv' := [(4, .int 0), (3, .int 1), (0, .ref 118), (1, .int x1), (2, .int x2)]) dX12_laysPair_42 rfl rfl ?_
    exact wa_pick [2, 3, 4, 1, 0] rfl hF

theorem bX12_laysPair_44 {X : a_X} {ad : Nat → Nat} {ca : Nat → ClassId} {d : Nat} {Post : Option Value → a_M → a_P → Prop} {x : Nat} {M : a_M} (x1 : Int32) (x2 : Int32) (x3 : Int32) (x4 : Int32)  (hF : ((x3 ≤ x4 → Post (some (.int 0)) M (PT x)) ∧ (¬ x3 ≤ x4 → ((¬ x1 = 1 → ((¬ x1 = 2 → ((¬ x1 = 2 → ((¬ x1 = 1 → ((¬ x1 = 2 → (∃ Q1 : Int32 → a_M → Prop, Mt X ad ca LY d yX12_isPair cX12_isPair 5 (some FieldType.boolean) [.ref 118, .int x1] (ms (ms (ms M 148 0 1) 148 1 0) 148 2 0) (PT x) (q_i (PT x) Q1) ∧ ∀ v1 M1, Q1 v1 M1 → ((v1 = 0 → WA X ad ca LY RX12 cX12_laysPair 5 (some FieldType.boolean) (d + 1) 0 0 (a_E X ad ca LY Post) 161 [(0, .ref 118), (1, .int x1), (2, .int x2), (3, .int x3), (4, .int x4)] [] M1 (PT x)) ∧ (¬ v1 = 0 → ((¬ (M1 118 55) = x2 → WA X ad ca LY RX12 cX12_laysPair 5 (some FieldType.boolean) (d + 1) 0 0 (a_E X ad ca LY Post) 161 [(0, .ref 118), (1, .int x1), (2, .int x2), (3, .int x3), (4, .int x4)] [] (ms M1 118 55 ((M1 118 55) + 1)) (PT x)) ∧ ((M1 118 55) = x2 → Post (some (.int 1)) M1 (PT x))))))) ∧ (x1 = 2 → (∃ Q2 : Int32 → a_M → Prop, Mt X ad ca LY d yX12_isPair cX12_isPair 5 (some FieldType.boolean) [.ref 118, .int x1] (ms (ms (ms M 148 0 1) 148 1 0) 148 2 1) (PT x) (q_i (PT x) Q2) ∧ ∀ v2 M2, Q2 v2 M2 → ((v2 = 0 → WA X ad ca LY RX12 cX12_laysPair 5 (some FieldType.boolean) (d + 1) 0 0 (a_E X ad ca LY Post) 161 [(0, .ref 118), (1, .int x1), (2, .int x2), (3, .int x3), (4, .int x4)] [] M2 (PT x)) ∧ (¬ v2 = 0 → ((¬ (M2 118 55) = x2 → WA X ad ca LY RX12 cX12_laysPair 5 (some FieldType.boolean) (d + 1) 0 0 (a_E X ad ca LY Post) 161 [(0, .ref 118), (1, .int x1), (2, .int x2), (3, .int x3), (4, .int x4)] [] (ms M2 118 55 ((M2 118 55) + 1)) (PT x)) ∧ ((M2 118 55) = x2 → Post (some (.int 1)) M2 (PT x))))))))) ∧ (x1 = 1 → ((¬ x1 = 2 → (∃ Q3 : Int32 → a_M → Prop, Mt X ad ca LY d yX12_isPair cX12_isPair 5 (some FieldType.boolean) [.ref 118, .int x1] (ms (ms (ms M 148 0 1) 148 1 1) 148 2 0) (PT x) (q_i (PT x) Q3) ∧ ∀ v3 M3, Q3 v3 M3 → ((v3 = 0 → WA X ad ca LY RX12 cX12_laysPair 5 (some FieldType.boolean) (d + 1) 0 0 (a_E X ad ca LY Post) 161 [(0, .ref 118), (1, .int x1), (2, .int x2), (3, .int x3), (4, .int x4)] [] M3 (PT x)) ∧ (¬ v3 = 0 → ((¬ (M3 118 55) = x2 → WA X ad ca LY RX12 cX12_laysPair 5 (some FieldType.boolean) (d + 1) 0 0 (a_E X ad ca LY Post) 161 [(0, .ref 118), (1, .int x1), (2, .int x2), (3, .int x3), (4, .int x4)] [] (ms M3 118 55 ((M3 118 55) + 1)) (PT x)) ∧ ((M3 118 55) = x2 → Post (some (.int 1)) M3 (PT x))))))) ∧ (x1 = 2 → (∃ Q4 : Int32 → a_M → Prop, Mt X ad ca LY d yX12_isPair cX12_isPair 5 (some FieldType.boolean) [.ref 118, .int x1] (ms (ms (ms M 148 0 1) 148 1 1) 148 2 1) (PT x) (q_i (PT x) Q4) ∧ ∀ v4 M4, Q4 v4 M4 → ((v4 = 0 → WA X ad ca LY RX12 cX12_laysPair 5 (some FieldType.boolean) (d + 1) 0 0 (a_E X ad ca LY Post) 161 [(0, .ref 118), (1, .int x1), (2, .int x2), (3, .int x3), (4, .int x4)] [] M4 (PT x)) ∧ (¬ v4 = 0 → ((¬ (M4 118 55) = x2 → WA X ad ca LY RX12 cX12_laysPair 5 (some FieldType.boolean) (d + 1) 0 0 (a_E X ad ca LY Post) 161 [(0, .ref 118), (1, .int x1), (2, .int x2), (3, .int x3), (4, .int x4)] [] (ms M4 118 55 ((M4 118 55) + 1)) (PT x)) ∧ ((M4 118 55) = x2 → Post (some (.int 1)) M4 (PT x))))))))))) ∧ (x1 = 2 → (¬ (M 119 2) = 0 ∧ ((¬ x1 = 2 → (∃ Q5 : Int32 → a_M → Prop, Mt X ad ca LY d yX12_isPair cX12_isPair 5 (some FieldType.boolean) [.ref 118, .int x1] (ms (ms (ms M 148 0 1) 148 1 (x4 / (M 119 2))) 148 2 0) (PT x) (q_i (PT x) Q5) ∧ ∀ v5 M5, Q5 v5 M5 → ((v5 = 0 → WA X ad ca LY RX12 cX12_laysPair 5 (some FieldType.boolean) (d + 1) 0 0 (a_E X ad ca LY Post) 161 [(0, .ref 118), (1, .int x1), (2, .int x2), (3, .int x3), (4, .int x4)] [] M5 (PT x)) ∧ (¬ v5 = 0 → ((¬ (M5 118 55) = x2 → WA X ad ca LY RX12 cX12_laysPair 5 (some FieldType.boolean) (d + 1) 0 0 (a_E X ad ca LY Post) 161 [(0, .ref 118), (1, .int x1), (2, .int x2), (3, .int x3), (4, .int x4)] [] (ms M5 118 55 ((M5 118 55) + 1)) (PT x)) ∧ ((M5 118 55) = x2 → Post (some (.int 1)) M5 (PT x))))))) ∧ (x1 = 2 → (∃ Q6 : Int32 → a_M → Prop, Mt X ad ca LY d yX12_isPair cX12_isPair 5 (some FieldType.boolean) [.ref 118, .int x1] (ms (ms (ms M 148 0 1) 148 1 (x4 / (M 119 2))) 148 2 1) (PT x) (q_i (PT x) Q6) ∧ ∀ v6 M6, Q6 v6 M6 → ((v6 = 0 → WA X ad ca LY RX12 cX12_laysPair 5 (some FieldType.boolean) (d + 1) 0 0 (a_E X ad ca LY Post) 161 [(0, .ref 118), (1, .int x1), (2, .int x2), (3, .int x3), (4, .int x4)] [] M6 (PT x)) ∧ (¬ v6 = 0 → ((¬ (M6 118 55) = x2 → WA X ad ca LY RX12 cX12_laysPair 5 (some FieldType.boolean) (d + 1) 0 0 (a_E X ad ca LY Post) 161 [(0, .ref 118), (1, .int x1), (2, .int x2), (3, .int x3), (4, .int x4)] [] (ms M6 118 55 ((M6 118 55) + 1)) (PT x)) ∧ ((M6 118 55) = x2 → Post (some (.int 1)) M6 (PT x)))))))))))) ∧ (x1 = 2 → (¬ (M 119 2) = 0 ∧ ((¬ x1 = 2 → ((¬ x1 = 1 → ((¬ x1 = 2 → (∃ Q7 : Int32 → a_M → Prop, Mt X ad ca LY d yX12_isPair cX12_isPair 5 (some FieldType.boolean) [.ref 118, .int x1] (ms (ms (ms M 148 0 (x4 - x4 / (M 119 2) * (M 119 2))) 148 1 0) 148 2 0) (PT x) (q_i (PT x) Q7) ∧ ∀ v7 M7, Q7 v7 M7 → ((v7 = 0 → WA X ad ca LY RX12 cX12_laysPair 5 (some FieldType.boolean) (d + 1) 0 0 (a_E X ad ca LY Post) 161 [(0, .ref 118), (1, .int x1), (2, .int x2), (3, .int x3), (4, .int x4)] [] M7 (PT x)) ∧ (¬ v7 = 0 → ((¬ (M7 118 55) = x2 → WA X ad ca LY RX12 cX12_laysPair 5 (some FieldType.boolean) (d + 1) 0 0 (a_E X ad ca LY Post) 161 [(0, .ref 118), (1, .int x1), (2, .int x2), (3, .int x3), (4, .int x4)] [] (ms M7 118 55 ((M7 118 55) + 1)) (PT x)) ∧ ((M7 118 55) = x2 → Post (some (.int 1)) M7 (PT x))))))) ∧ (x1 = 2 → (∃ Q8 : Int32 → a_M → Prop, Mt X ad ca LY d yX12_isPair cX12_isPair 5 (some FieldType.boolean) [.ref 118, .int x1] (ms (ms (ms M 148 0 (x4 - x4 / (M 119 2) * (M 119 2))) 148 1 0) 148 2 1) (PT x) (q_i (PT x) Q8) ∧ ∀ v8 M8, Q8 v8 M8 → ((v8 = 0 → WA X ad ca LY RX12 cX12_laysPair 5 (some FieldType.boolean) (d + 1) 0 0 (a_E X ad ca LY Post) 161 [(0, .ref 118), (1, .int x1), (2, .int x2), (3, .int x3), (4, .int x4)] [] M8 (PT x)) ∧ (¬ v8 = 0 → ((¬ (M8 118 55) = x2 → WA X ad ca LY RX12 cX12_laysPair 5 (some FieldType.boolean) (d + 1) 0 0 (a_E X ad ca LY Post) 161 [(0, .ref 118), (1, .int x1), (2, .int x2), (3, .int x3), (4, .int x4)] [] (ms M8 118 55 ((M8 118 55) + 1)) (PT x)) ∧ ((M8 118 55) = x2 → Post (some (.int 1)) M8 (PT x))))))))) ∧ (x1 = 1 → ((¬ x1 = 2 → (∃ Q9 : Int32 → a_M → Prop, Mt X ad ca LY d yX12_isPair cX12_isPair 5 (some FieldType.boolean) [.ref 118, .int x1] (ms (ms (ms M 148 0 (x4 - x4 / (M 119 2) * (M 119 2))) 148 1 1) 148 2 0) (PT x) (q_i (PT x) Q9) ∧ ∀ v9 M9, Q9 v9 M9 → ((v9 = 0 → WA X ad ca LY RX12 cX12_laysPair 5 (some FieldType.boolean) (d + 1) 0 0 (a_E X ad ca LY Post) 161 [(0, .ref 118), (1, .int x1), (2, .int x2), (3, .int x3), (4, .int x4)] [] M9 (PT x)) ∧ (¬ v9 = 0 → ((¬ (M9 118 55) = x2 → WA X ad ca LY RX12 cX12_laysPair 5 (some FieldType.boolean) (d + 1) 0 0 (a_E X ad ca LY Post) 161 [(0, .ref 118), (1, .int x1), (2, .int x2), (3, .int x3), (4, .int x4)] [] (ms M9 118 55 ((M9 118 55) + 1)) (PT x)) ∧ ((M9 118 55) = x2 → Post (some (.int 1)) M9 (PT x))))))) ∧ (x1 = 2 → (∃ Q10 : Int32 → a_M → Prop, Mt X ad ca LY d yX12_isPair cX12_isPair 5 (some FieldType.boolean) [.ref 118, .int x1] (ms (ms (ms M 148 0 (x4 - x4 / (M 119 2) * (M 119 2))) 148 1 1) 148 2 1) (PT x) (q_i (PT x) Q10) ∧ ∀ v10 M10, Q10 v10 M10 → ((v10 = 0 → WA X ad ca LY RX12 cX12_laysPair 5 (some FieldType.boolean) (d + 1) 0 0 (a_E X ad ca LY Post) 161 [(0, .ref 118), (1, .int x1), (2, .int x2), (3, .int x3), (4, .int x4)] [] M10 (PT x)) ∧ (¬ v10 = 0 → ((¬ (M10 118 55) = x2 → WA X ad ca LY RX12 cX12_laysPair 5 (some FieldType.boolean) (d + 1) 0 0 (a_E X ad ca LY Post) 161 [(0, .ref 118), (1, .int x1), (2, .int x2), (3, .int x3), (4, .int x4)] [] (ms M10 118 55 ((M10 118 55) + 1)) (PT x)) ∧ ((M10 118 55) = x2 → Post (some (.int 1)) M10 (PT x))))))))))) ∧ (x1 = 2 → (¬ (M 119 2) = 0 ∧ ((¬ x1 = 2 → (∃ Q11 : Int32 → a_M → Prop, Mt X ad ca LY d yX12_isPair cX12_isPair 5 (some FieldType.boolean) [.ref 118, .int x1] (ms (ms (ms M 148 0 (x4 - x4 / (M 119 2) * (M 119 2))) 148 1 (x4 / (M 119 2))) 148 2 0) (PT x) (q_i (PT x) Q11) ∧ ∀ v11 M11, Q11 v11 M11 → ((v11 = 0 → WA X ad ca LY RX12 cX12_laysPair 5 (some FieldType.boolean) (d + 1) 0 0 (a_E X ad ca LY Post) 161 [(0, .ref 118), (1, .int x1), (2, .int x2), (3, .int x3), (4, .int x4)] [] M11 (PT x)) ∧ (¬ v11 = 0 → ((¬ (M11 118 55) = x2 → WA X ad ca LY RX12 cX12_laysPair 5 (some FieldType.boolean) (d + 1) 0 0 (a_E X ad ca LY Post) 161 [(0, .ref 118), (1, .int x1), (2, .int x2), (3, .int x3), (4, .int x4)] [] (ms M11 118 55 ((M11 118 55) + 1)) (PT x)) ∧ ((M11 118 55) = x2 → Post (some (.int 1)) M11 (PT x))))))) ∧ (x1 = 2 → (∃ Q12 : Int32 → a_M → Prop, Mt X ad ca LY d yX12_isPair cX12_isPair 5 (some FieldType.boolean) [.ref 118, .int x1] (ms (ms (ms M 148 0 (x4 - x4 / (M 119 2) * (M 119 2))) 148 1 (x4 / (M 119 2))) 148 2 1) (PT x) (q_i (PT x) Q12) ∧ ∀ v12 M12, Q12 v12 M12 → ((v12 = 0 → WA X ad ca LY RX12 cX12_laysPair 5 (some FieldType.boolean) (d + 1) 0 0 (a_E X ad ca LY Post) 161 [(0, .ref 118), (1, .int x1), (2, .int x2), (3, .int x3), (4, .int x4)] [] M12 (PT x)) ∧ (¬ v12 = 0 → ((¬ (M12 118 55) = x2 → WA X ad ca LY RX12 cX12_laysPair 5 (some FieldType.boolean) (d + 1) 0 0 (a_E X ad ca LY Post) 161 [(0, .ref 118), (1, .int x1), (2, .int x2), (3, .int x3), (4, .int x4)] [] (ms M12 118 55 ((M12 118 55) + 1)) (PT x)) ∧ ((M12 118 55) = x2 → Post (some (.int 1)) M12 (PT x))))))))))))))) ∧ (x1 = 1 → ((¬ x1 = 2 → ((¬ x1 = 1 → ((¬ x1 = 2 → (∃ Q13 : Int32 → a_M → Prop, Mt X ad ca LY d yX12_isPair cX12_isPair 5 (some FieldType.boolean) [.ref 118, .int x1] (ms (ms (ms M 148 0 x4) 148 1 0) 148 2 0) (PT x) (q_i (PT x) Q13) ∧ ∀ v13 M13, Q13 v13 M13 → ((v13 = 0 → WA X ad ca LY RX12 cX12_laysPair 5 (some FieldType.boolean) (d + 1) 0 0 (a_E X ad ca LY Post) 161 [(0, .ref 118), (1, .int x1), (2, .int x2), (3, .int x3), (4, .int x4)] [] M13 (PT x)) ∧ (¬ v13 = 0 → ((¬ (M13 118 55) = x2 → WA X ad ca LY RX12 cX12_laysPair 5 (some FieldType.boolean) (d + 1) 0 0 (a_E X ad ca LY Post) 161 [(0, .ref 118), (1, .int x1), (2, .int x2), (3, .int x3), (4, .int x4)] [] (ms M13 118 55 ((M13 118 55) + 1)) (PT x)) ∧ ((M13 118 55) = x2 → Post (some (.int 1)) M13 (PT x))))))) ∧ (x1 = 2 → (∃ Q14 : Int32 → a_M → Prop, Mt X ad ca LY d yX12_isPair cX12_isPair 5 (some FieldType.boolean) [.ref 118, .int x1] (ms (ms (ms M 148 0 x4) 148 1 0) 148 2 1) (PT x) (q_i (PT x) Q14) ∧ ∀ v14 M14, Q14 v14 M14 → ((v14 = 0 → WA X ad ca LY RX12 cX12_laysPair 5 (some FieldType.boolean) (d + 1) 0 0 (a_E X ad ca LY Post) 161 [(0, .ref 118), (1, .int x1), (2, .int x2), (3, .int x3), (4, .int x4)] [] M14 (PT x)) ∧ (¬ v14 = 0 → ((¬ (M14 118 55) = x2 → WA X ad ca LY RX12 cX12_laysPair 5 (some FieldType.boolean) (d + 1) 0 0 (a_E X ad ca LY Post) 161 [(0, .ref 118), (1, .int x1), (2, .int x2), (3, .int x3), (4, .int x4)] [] (ms M14 118 55 ((M14 118 55) + 1)) (PT x)) ∧ ((M14 118 55) = x2 → Post (some (.int 1)) M14 (PT x))))))))) ∧ (x1 = 1 → ((¬ x1 = 2 → (∃ Q15 : Int32 → a_M → Prop, Mt X ad ca LY d yX12_isPair cX12_isPair 5 (some FieldType.boolean) [.ref 118, .int x1] (ms (ms (ms M 148 0 x4) 148 1 1) 148 2 0) (PT x) (q_i (PT x) Q15) ∧ ∀ v15 M15, Q15 v15 M15 → ((v15 = 0 → WA X ad ca LY RX12 cX12_laysPair 5 (some FieldType.boolean) (d + 1) 0 0 (a_E X ad ca LY Post) 161 [(0, .ref 118), (1, .int x1), (2, .int x2), (3, .int x3), (4, .int x4)] [] M15 (PT x)) ∧ (¬ v15 = 0 → ((¬ (M15 118 55) = x2 → WA X ad ca LY RX12 cX12_laysPair 5 (some FieldType.boolean) (d + 1) 0 0 (a_E X ad ca LY Post) 161 [(0, .ref 118), (1, .int x1), (2, .int x2), (3, .int x3), (4, .int x4)] [] (ms M15 118 55 ((M15 118 55) + 1)) (PT x)) ∧ ((M15 118 55) = x2 → Post (some (.int 1)) M15 (PT x))))))) ∧ (x1 = 2 → (∃ Q16 : Int32 → a_M → Prop, Mt X ad ca LY d yX12_isPair cX12_isPair 5 (some FieldType.boolean) [.ref 118, .int x1] (ms (ms (ms M 148 0 x4) 148 1 1) 148 2 1) (PT x) (q_i (PT x) Q16) ∧ ∀ v16 M16, Q16 v16 M16 → ((v16 = 0 → WA X ad ca LY RX12 cX12_laysPair 5 (some FieldType.boolean) (d + 1) 0 0 (a_E X ad ca LY Post) 161 [(0, .ref 118), (1, .int x1), (2, .int x2), (3, .int x3), (4, .int x4)] [] M16 (PT x)) ∧ (¬ v16 = 0 → ((¬ (M16 118 55) = x2 → WA X ad ca LY RX12 cX12_laysPair 5 (some FieldType.boolean) (d + 1) 0 0 (a_E X ad ca LY Post) 161 [(0, .ref 118), (1, .int x1), (2, .int x2), (3, .int x3), (4, .int x4)] [] (ms M16 118 55 ((M16 118 55) + 1)) (PT x)) ∧ ((M16 118 55) = x2 → Post (some (.int 1)) M16 (PT x))))))))))) ∧ (x1 = 2 → (¬ (M 119 2) = 0 ∧ ((¬ x1 = 2 → (∃ Q17 : Int32 → a_M → Prop, Mt X ad ca LY d yX12_isPair cX12_isPair 5 (some FieldType.boolean) [.ref 118, .int x1] (ms (ms (ms M 148 0 x4) 148 1 (x4 / (M 119 2))) 148 2 0) (PT x) (q_i (PT x) Q17) ∧ ∀ v17 M17, Q17 v17 M17 → ((v17 = 0 → WA X ad ca LY RX12 cX12_laysPair 5 (some FieldType.boolean) (d + 1) 0 0 (a_E X ad ca LY Post) 161 [(0, .ref 118), (1, .int x1), (2, .int x2), (3, .int x3), (4, .int x4)] [] M17 (PT x)) ∧ (¬ v17 = 0 → ((¬ (M17 118 55) = x2 → WA X ad ca LY RX12 cX12_laysPair 5 (some FieldType.boolean) (d + 1) 0 0 (a_E X ad ca LY Post) 161 [(0, .ref 118), (1, .int x1), (2, .int x2), (3, .int x3), (4, .int x4)] [] (ms M17 118 55 ((M17 118 55) + 1)) (PT x)) ∧ ((M17 118 55) = x2 → Post (some (.int 1)) M17 (PT x))))))) ∧ (x1 = 2 → (∃ Q18 : Int32 → a_M → Prop, Mt X ad ca LY d yX12_isPair cX12_isPair 5 (some FieldType.boolean) [.ref 118, .int x1] (ms (ms (ms M 148 0 x4) 148 1 (x4 / (M 119 2))) 148 2 1) (PT x) (q_i (PT x) Q18) ∧ ∀ v18 M18, Q18 v18 M18 → ((v18 = 0 → WA X ad ca LY RX12 cX12_laysPair 5 (some FieldType.boolean) (d + 1) 0 0 (a_E X ad ca LY Post) 161 [(0, .ref 118), (1, .int x1), (2, .int x2), (3, .int x3), (4, .int x4)] [] M18 (PT x)) ∧ (¬ v18 = 0 → ((¬ (M18 118 55) = x2 → WA X ad ca LY RX12 cX12_laysPair 5 (some FieldType.boolean) (d + 1) 0 0 (a_E X ad ca LY Post) 161 [(0, .ref 118), (1, .int x1), (2, .int x2), (3, .int x3), (4, .int x4)] [] (ms M18 118 55 ((M18 118 55) + 1)) (PT x)) ∧ ((M18 118 55) = x2 → Post (some (.int 1)) M18 (PT x)))))))))))))))) : WA X ad ca LY RX12 cX12_laysPair 5 (some FieldType.boolean) (d + 1) 0 0 (a_E X ad ca LY Post) 44 [(0, .ref 118), (1, .int x1), (2, .int x2), (3, .int x3), (4, .int x4)] [] M (PT x) := by
  refine wa_iload dX12_laysPair_44 4 rfl ?_
  refine wa_iload_n dX12_laysPair_46 3 rfl rfl ?_
  refine wa_icmp_ge (tgt := 167) dX12_laysPair_47 rfl (fun hc => ?_) (fun hc => ?_)
  · replace hF := hF.1 hc
    refine wa_iconst (v := 0) dX12_laysPair_167 rfl ?_
    exact wa_iret dX12_laysPair_168 rfl rfl hF
  · replace hF := hF.2 hc
    refine wa_aload_n dX12_laysPair_50 0 rfl rfl ?_
    refine wa_getr (r := 148) dX12_laysPair_51 fkX12_105 rfl rfl rfl ?_
    refine wa_iconst (v := 0) dX12_laysPair_54 rfl ?_
    refine wa_iload_n dX12_laysPair_55 1 rfl rfl ?_
    refine wa_iconst (v := 1) dX12_laysPair_56 rfl ?_
    refine wa_icmp_ne (tgt := 65) dX12_laysPair_57 rfl (fun hc => ?_) (fun hc => ?_)
    · replace hF := hF.1 hc
      refine wa_iload_n dX12_laysPair_65 1 rfl rfl ?_
      refine wa_iconst (v := 2) dX12_laysPair_66 rfl ?_
      refine wa_icmp_ne (tgt := 82) dX12_laysPair_67 rfl (fun hc => ?_) (fun hc => ?_)
      · replace hF := hF.1 hc
        refine wa_iconst (v := 1) dX12_laysPair_82 rfl ?_
        refine wb_iast (j := 0) dX12_laysPair_83 rfl (by unfold vp_in; decide) rfl ?_
        refine wa_aload_n dX12_laysPair_84 0 rfl rfl ?_
        refine wa_getr (r := 148) dX12_laysPair_85 fkX12_105 rfl rfl rfl ?_
        refine wa_iconst (v := 1) dX12_laysPair_88 rfl ?_
        refine wa_iload_n dX12_laysPair_89 1 rfl rfl ?_
        refine wa_iconst (v := 2) dX12_laysPair_90 rfl ?_
        refine wa_icmp_ne (tgt := 106) dX12_laysPair_91 rfl (fun hc => ?_) (fun hc => ?_)
        · replace hF := hF.1 hc
          refine wa_iload_n dX12_laysPair_106 1 rfl rfl ?_
          refine wa_iconst (v := 1) dX12_laysPair_107 rfl ?_
          refine wa_icmp_ne (tgt := 115) dX12_laysPair_108 rfl (fun hc => ?_) (fun hc => ?_)
          · replace hF := hF.1 hc
            refine wa_iconst (v := 0) dX12_laysPair_115 rfl ?_
            refine wb_iast (j := 1) dX12_laysPair_116 rfl (by unfold vp_in; decide) rfl ?_
            refine wa_aload_n dX12_laysPair_117 0 rfl rfl ?_
            refine wa_getr (r := 148) dX12_laysPair_118 fkX12_105 rfl rfl rfl ?_
            refine wa_iconst (v := 2) dX12_laysPair_121 rfl ?_
            refine wa_iload_n dX12_laysPair_122 1 rfl rfl ?_
            refine wa_iconst (v := 2) dX12_laysPair_123 rfl ?_
            refine wa_icmp_ne (tgt := 131) dX12_laysPair_124 rfl (fun hc => ?_) (fun hc => ?_)
            · replace hF := hF.1 hc
              refine wa_iconst (v := 0) dX12_laysPair_131 rfl ?_
              refine wb_iast (j := 2) dX12_laysPair_132 rfl (by unfold vp_in; decide) rfl ?_
              refine wa_aload_n dX12_laysPair_133 0 rfl rfl ?_
              refine wa_iload_n dX12_laysPair_134 1 rfl rfl ?_
              obtain ⟨Q1, hM9, hF⟩ := hF
              refine wa_callV [.int x1] dX12_laysPair_135 (mmX12_isPair _ _) mlX12_405 mnX12_isPair mseX12_isPair rfl rfl rfl rfl (a_dlt d) rfl rfl hM9 ?_
              rintro r9 M1 P9 ⟨v1, rfl, rfl, hq9⟩
              replace hF := hF v1 M1 hq9
              simp only [Option.toList, List.cons_append, List.nil_append]
              refine wa_if_eq (tgt := 161) dX12_laysPair_138 rfl (fun hc => ?_) (fun hc => ?_)
              · replace hF := hF.1 hc
                exact hF
              · replace hF := hF.2 hc
                refine wa_aload_n dX12_laysPair_141 0 rfl rfl ?_
                refine wb_geti (v := M1 118 55) dX12_laysPair_142 fkX12_402 rfl rfl rfl ?_
                refine wa_iload_n dX12_laysPair_145 2 rfl rfl ?_
                refine wa_icmp_ne (tgt := 151) dX12_laysPair_146 rfl (fun hc => ?_) (fun hc => ?_)
                · replace hF := hF.1 hc
                  refine wa_aload_n dX12_laysPair_151 0 rfl rfl ?_
                  refine wa_dup dX12_laysPair_152 rfl ?_
                  refine wb_geti (v := M1 118 55) dX12_laysPair_153 fkX12_402 rfl rfl rfl ?_
                  refine wa_iconst (v := 1) dX12_laysPair_156 rfl ?_
                  refine wa_iadd dX12_laysPair_157 ?_
                  refine wb_puti dX12_laysPair_158 fkX12_402 fmX12_55 rfl rfl ?_
                  exact hF
                · replace hF := hF.2 hc
                  refine wa_iconst (v := 1) dX12_laysPair_149 rfl ?_
                  exact wa_iret dX12_laysPair_150 rfl rfl hF
            · replace hF := hF.2 hc
              refine wa_iconst (v := 1) dX12_laysPair_127 rfl ?_
              refine wa_goto (tgt := 132) dX12_laysPair_128 rfl ?_
              refine wb_iast (j := 2) dX12_laysPair_132 rfl (by unfold vp_in; decide) rfl ?_
              refine wa_aload_n dX12_laysPair_133 0 rfl rfl ?_
              refine wa_iload_n dX12_laysPair_134 1 rfl rfl ?_
              obtain ⟨Q2, hM9, hF⟩ := hF
              refine wa_callV [.int x1] dX12_laysPair_135 (mmX12_isPair _ _) mlX12_405 mnX12_isPair mseX12_isPair rfl rfl rfl rfl (a_dlt d) rfl rfl hM9 ?_
              rintro r9 M2 P9 ⟨v2, rfl, rfl, hq9⟩
              replace hF := hF v2 M2 hq9
              simp only [Option.toList, List.cons_append, List.nil_append]
              refine wa_if_eq (tgt := 161) dX12_laysPair_138 rfl (fun hc => ?_) (fun hc => ?_)
              · replace hF := hF.1 hc
                exact hF
              · replace hF := hF.2 hc
                refine wa_aload_n dX12_laysPair_141 0 rfl rfl ?_
                refine wb_geti (v := M2 118 55) dX12_laysPair_142 fkX12_402 rfl rfl rfl ?_
                refine wa_iload_n dX12_laysPair_145 2 rfl rfl ?_
                refine wa_icmp_ne (tgt := 151) dX12_laysPair_146 rfl (fun hc => ?_) (fun hc => ?_)
                · replace hF := hF.1 hc
                  refine wa_aload_n dX12_laysPair_151 0 rfl rfl ?_
                  refine wa_dup dX12_laysPair_152 rfl ?_
                  refine wb_geti (v := M2 118 55) dX12_laysPair_153 fkX12_402 rfl rfl rfl ?_
                  refine wa_iconst (v := 1) dX12_laysPair_156 rfl ?_
                  refine wa_iadd dX12_laysPair_157 ?_
                  refine wb_puti dX12_laysPair_158 fkX12_402 fmX12_55 rfl rfl ?_
                  exact hF
                · replace hF := hF.2 hc
                  refine wa_iconst (v := 1) dX12_laysPair_149 rfl ?_
                  exact wa_iret dX12_laysPair_150 rfl rfl hF
          · replace hF := hF.2 hc
            refine wa_iconst (v := 1) dX12_laysPair_111 rfl ?_
            refine wa_goto (tgt := 116) dX12_laysPair_112 rfl ?_
            refine wb_iast (j := 1) dX12_laysPair_116 rfl (by unfold vp_in; decide) rfl ?_
            refine wa_aload_n dX12_laysPair_117 0 rfl rfl ?_
            refine wa_getr (r := 148) dX12_laysPair_118 fkX12_105 rfl rfl rfl ?_
            refine wa_iconst (v := 2) dX12_laysPair_121 rfl ?_
            refine wa_iload_n dX12_laysPair_122 1 rfl rfl ?_
            refine wa_iconst (v := 2) dX12_laysPair_123 rfl ?_
            refine wa_icmp_ne (tgt := 131) dX12_laysPair_124 rfl (fun hc => ?_) (fun hc => ?_)
            · replace hF := hF.1 hc
              refine wa_iconst (v := 0) dX12_laysPair_131 rfl ?_
              refine wb_iast (j := 2) dX12_laysPair_132 rfl (by unfold vp_in; decide) rfl ?_
              refine wa_aload_n dX12_laysPair_133 0 rfl rfl ?_
              refine wa_iload_n dX12_laysPair_134 1 rfl rfl ?_
              obtain ⟨Q3, hM9, hF⟩ := hF
              refine wa_callV [.int x1] dX12_laysPair_135 (mmX12_isPair _ _) mlX12_405 mnX12_isPair mseX12_isPair rfl rfl rfl rfl (a_dlt d) rfl rfl hM9 ?_
              rintro r9 M3 P9 ⟨v3, rfl, rfl, hq9⟩
              replace hF := hF v3 M3 hq9
              simp only [Option.toList, List.cons_append, List.nil_append]
              refine wa_if_eq (tgt := 161) dX12_laysPair_138 rfl (fun hc => ?_) (fun hc => ?_)
              · replace hF := hF.1 hc
                exact hF
              · replace hF := hF.2 hc
                refine wa_aload_n dX12_laysPair_141 0 rfl rfl ?_
                refine wb_geti (v := M3 118 55) dX12_laysPair_142 fkX12_402 rfl rfl rfl ?_
                refine wa_iload_n dX12_laysPair_145 2 rfl rfl ?_
                refine wa_icmp_ne (tgt := 151) dX12_laysPair_146 rfl (fun hc => ?_) (fun hc => ?_)
                · replace hF := hF.1 hc
                  refine wa_aload_n dX12_laysPair_151 0 rfl rfl ?_
                  refine wa_dup dX12_laysPair_152 rfl ?_
                  refine wb_geti (v := M3 118 55) dX12_laysPair_153 fkX12_402 rfl rfl rfl ?_
                  refine wa_iconst (v := 1) dX12_laysPair_156 rfl ?_
                  refine wa_iadd dX12_laysPair_157 ?_
                  refine wb_puti dX12_laysPair_158 fkX12_402 fmX12_55 rfl rfl ?_
                  exact hF
                · replace hF := hF.2 hc
                  refine wa_iconst (v := 1) dX12_laysPair_149 rfl ?_
                  exact wa_iret dX12_laysPair_150 rfl rfl hF
            · replace hF := hF.2 hc
              refine wa_iconst (v := 1) dX12_laysPair_127 rfl ?_
              refine wa_goto (tgt := 132) dX12_laysPair_128 rfl ?_
              refine wb_iast (j := 2) dX12_laysPair_132 rfl (by unfold vp_in; decide) rfl ?_
              refine wa_aload_n dX12_laysPair_133 0 rfl rfl ?_
              refine wa_iload_n dX12_laysPair_134 1 rfl rfl ?_
              obtain ⟨Q4, hM9, hF⟩ := hF
              refine wa_callV [.int x1] dX12_laysPair_135 (mmX12_isPair _ _) mlX12_405 mnX12_isPair mseX12_isPair rfl rfl rfl rfl (a_dlt d) rfl rfl hM9 ?_
              rintro r9 M4 P9 ⟨v4, rfl, rfl, hq9⟩
              replace hF := hF v4 M4 hq9
              simp only [Option.toList, List.cons_append, List.nil_append]
              refine wa_if_eq (tgt := 161) dX12_laysPair_138 rfl (fun hc => ?_) (fun hc => ?_)
              · replace hF := hF.1 hc
                exact hF
              · replace hF := hF.2 hc
                refine wa_aload_n dX12_laysPair_141 0 rfl rfl ?_
                refine wb_geti (v := M4 118 55) dX12_laysPair_142 fkX12_402 rfl rfl rfl ?_
                refine wa_iload_n dX12_laysPair_145 2 rfl rfl ?_
                refine wa_icmp_ne (tgt := 151) dX12_laysPair_146 rfl (fun hc => ?_) (fun hc => ?_)
                · replace hF := hF.1 hc
                  refine wa_aload_n dX12_laysPair_151 0 rfl rfl ?_
                  refine wa_dup dX12_laysPair_152 rfl ?_
                  refine wb_geti (v := M4 118 55) dX12_laysPair_153 fkX12_402 rfl rfl rfl ?_
                  refine wa_iconst (v := 1) dX12_laysPair_156 rfl ?_
                  refine wa_iadd dX12_laysPair_157 ?_
                  refine wb_puti dX12_laysPair_158 fkX12_402 fmX12_55 rfl rfl ?_
                  exact hF
                · replace hF := hF.2 hc
                  refine wa_iconst (v := 1) dX12_laysPair_149 rfl ?_
                  exact wa_iret dX12_laysPair_150 rfl rfl hF
        · replace hF := hF.2 hc
          refine wa_iload dX12_laysPair_94 4 rfl ?_
          refine wa_aload_n dX12_laysPair_96 0 rfl rfl ?_
          refine wa_getr (r := 119) dX12_laysPair_97 fkX12_7 rfl rfl rfl ?_
          refine wa_iconst (v := 2) dX12_laysPair_100 rfl ?_
          refine wb_iald (j := 2) (v := M 119 2) dX12_laysPair_101 rfl (by unfold vp_in; decide) rfl ((ms_no M 148 0 1 119 2 (fun h9 => absurd h9.1 (by decide))).trans rfl) ?_
          obtain ⟨hn9, hF⟩ := hF
          refine wa_idiv dX12_laysPair_102 hn9 ?_
          refine wa_goto (tgt := 116) dX12_laysPair_103 rfl ?_
          refine wb_iast (j := 1) dX12_laysPair_116 rfl (by unfold vp_in; decide) rfl ?_
          refine wa_aload_n dX12_laysPair_117 0 rfl rfl ?_
          refine wa_getr (r := 148) dX12_laysPair_118 fkX12_105 rfl rfl rfl ?_
          refine wa_iconst (v := 2) dX12_laysPair_121 rfl ?_
          refine wa_iload_n dX12_laysPair_122 1 rfl rfl ?_
          refine wa_iconst (v := 2) dX12_laysPair_123 rfl ?_
          refine wa_icmp_ne (tgt := 131) dX12_laysPair_124 rfl (fun hc => ?_) (fun hc => ?_)
          · replace hF := hF.1 hc
            refine wa_iconst (v := 0) dX12_laysPair_131 rfl ?_
            refine wb_iast (j := 2) dX12_laysPair_132 rfl (by unfold vp_in; decide) rfl ?_
            refine wa_aload_n dX12_laysPair_133 0 rfl rfl ?_
            refine wa_iload_n dX12_laysPair_134 1 rfl rfl ?_
            obtain ⟨Q5, hM9, hF⟩ := hF
            refine wa_callV [.int x1] dX12_laysPair_135 (mmX12_isPair _ _) mlX12_405 mnX12_isPair mseX12_isPair rfl rfl rfl rfl (a_dlt d) rfl rfl hM9 ?_
            rintro r9 M5 P9 ⟨v5, rfl, rfl, hq9⟩
            replace hF := hF v5 M5 hq9
            simp only [Option.toList, List.cons_append, List.nil_append]
            refine wa_if_eq (tgt := 161) dX12_laysPair_138 rfl (fun hc => ?_) (fun hc => ?_)
            · replace hF := hF.1 hc
              exact hF
            · replace hF := hF.2 hc
              refine wa_aload_n dX12_laysPair_141 0 rfl rfl ?_
              refine wb_geti (v := M5 118 55) dX12_laysPair_142 fkX12_402 rfl rfl rfl ?_
              refine wa_iload_n dX12_laysPair_145 2 rfl rfl ?_
              refine wa_icmp_ne (tgt := 151) dX12_laysPair_146 rfl (fun hc => ?_) (fun hc => ?_)
              · replace hF := hF.1 hc
                refine wa_aload_n dX12_laysPair_151 0 rfl rfl ?_
                refine wa_dup dX12_laysPair_152 rfl ?_
                refine wb_geti (v := M5 118 55) dX12_laysPair_153 fkX12_402 rfl rfl rfl ?_
                refine wa_iconst (v := 1) dX12_laysPair_156 rfl ?_
                refine wa_iadd dX12_laysPair_157 ?_
                refine wb_puti dX12_laysPair_158 fkX12_402 fmX12_55 rfl rfl ?_
                exact hF
              · replace hF := hF.2 hc
                refine wa_iconst (v := 1) dX12_laysPair_149 rfl ?_
                exact wa_iret dX12_laysPair_150 rfl rfl hF
          · replace hF := hF.2 hc
            refine wa_iconst (v := 1) dX12_laysPair_127 rfl ?_
            refine wa_goto (tgt := 132) dX12_laysPair_128 rfl ?_
            refine wb_iast (j := 2) dX12_laysPair_132 rfl (by unfold vp_in; decide) rfl ?_
            refine wa_aload_n dX12_laysPair_133 0 rfl rfl ?_
            refine wa_iload_n dX12_laysPair_134 1 rfl rfl ?_
            obtain ⟨Q6, hM9, hF⟩ := hF
            refine wa_callV [.int x1] dX12_laysPair_135 (mmX12_isPair _ _) mlX12_405 mnX12_isPair mseX12_isPair rfl rfl rfl rfl (a_dlt d) rfl rfl hM9 ?_
            rintro r9 M6 P9 ⟨v6, rfl, rfl, hq9⟩
            replace hF := hF v6 M6 hq9
            simp only [Option.toList, List.cons_append, List.nil_append]
            refine wa_if_eq (tgt := 161) dX12_laysPair_138 rfl (fun hc => ?_) (fun hc => ?_)
            · replace hF := hF.1 hc
              exact hF
            · replace hF := hF.2 hc
              refine wa_aload_n dX12_laysPair_141 0 rfl rfl ?_
              refine wb_geti (v := M6 118 55) dX12_laysPair_142 fkX12_402 rfl rfl rfl ?_
              refine wa_iload_n dX12_laysPair_145 2 rfl rfl ?_
              refine wa_icmp_ne (tgt := 151) dX12_laysPair_146 rfl (fun hc => ?_) (fun hc => ?_)
              · replace hF := hF.1 hc
                refine wa_aload_n dX12_laysPair_151 0 rfl rfl ?_
                refine wa_dup dX12_laysPair_152 rfl ?_
                refine wb_geti (v := M6 118 55) dX12_laysPair_153 fkX12_402 rfl rfl rfl ?_
                refine wa_iconst (v := 1) dX12_laysPair_156 rfl ?_
                refine wa_iadd dX12_laysPair_157 ?_
                refine wb_puti dX12_laysPair_158 fkX12_402 fmX12_55 rfl rfl ?_
                exact hF
              · replace hF := hF.2 hc
                refine wa_iconst (v := 1) dX12_laysPair_149 rfl ?_
                exact wa_iret dX12_laysPair_150 rfl rfl hF
      · replace hF := hF.2 hc
        refine wa_iload dX12_laysPair_70 4 rfl ?_
        refine wa_aload_n dX12_laysPair_72 0 rfl rfl ?_
        refine wa_getr (r := 119) dX12_laysPair_73 fkX12_7 rfl rfl rfl ?_
        refine wa_iconst (v := 2) dX12_laysPair_76 rfl ?_
        refine wb_iald (j := 2) (v := M 119 2) dX12_laysPair_77 rfl (by unfold vp_in; decide) rfl rfl ?_
        obtain ⟨hn9, hF⟩ := hF
        refine wa_irem dX12_laysPair_78 hn9 ?_
        refine wa_goto (tgt := 83) dX12_laysPair_79 rfl ?_
        refine wb_iast (j := 0) dX12_laysPair_83 rfl (by unfold vp_in; decide) rfl ?_
        refine wa_aload_n dX12_laysPair_84 0 rfl rfl ?_
        refine wa_getr (r := 148) dX12_laysPair_85 fkX12_105 rfl rfl rfl ?_
        refine wa_iconst (v := 1) dX12_laysPair_88 rfl ?_
        refine wa_iload_n dX12_laysPair_89 1 rfl rfl ?_
        refine wa_iconst (v := 2) dX12_laysPair_90 rfl ?_
        refine wa_icmp_ne (tgt := 106) dX12_laysPair_91 rfl (fun hc => ?_) (fun hc => ?_)
        · replace hF := hF.1 hc
          refine wa_iload_n dX12_laysPair_106 1 rfl rfl ?_
          refine wa_iconst (v := 1) dX12_laysPair_107 rfl ?_
          refine wa_icmp_ne (tgt := 115) dX12_laysPair_108 rfl (fun hc => ?_) (fun hc => ?_)
          · replace hF := hF.1 hc
            refine wa_iconst (v := 0) dX12_laysPair_115 rfl ?_
            refine wb_iast (j := 1) dX12_laysPair_116 rfl (by unfold vp_in; decide) rfl ?_
            refine wa_aload_n dX12_laysPair_117 0 rfl rfl ?_
            refine wa_getr (r := 148) dX12_laysPair_118 fkX12_105 rfl rfl rfl ?_
            refine wa_iconst (v := 2) dX12_laysPair_121 rfl ?_
            refine wa_iload_n dX12_laysPair_122 1 rfl rfl ?_
            refine wa_iconst (v := 2) dX12_laysPair_123 rfl ?_
            refine wa_icmp_ne (tgt := 131) dX12_laysPair_124 rfl (fun hc => ?_) (fun hc => ?_)
            · replace hF := hF.1 hc
              refine wa_iconst (v := 0) dX12_laysPair_131 rfl ?_
              refine wb_iast (j := 2) dX12_laysPair_132 rfl (by unfold vp_in; decide) rfl ?_
              refine wa_aload_n dX12_laysPair_133 0 rfl rfl ?_
              refine wa_iload_n dX12_laysPair_134 1 rfl rfl ?_
              obtain ⟨Q7, hM9, hF⟩ := hF
              refine wa_callV [.int x1] dX12_laysPair_135 (mmX12_isPair _ _) mlX12_405 mnX12_isPair mseX12_isPair rfl rfl rfl rfl (a_dlt d) rfl rfl hM9 ?_
              rintro r9 M7 P9 ⟨v7, rfl, rfl, hq9⟩
              replace hF := hF v7 M7 hq9
              simp only [Option.toList, List.cons_append, List.nil_append]
              refine wa_if_eq (tgt := 161) dX12_laysPair_138 rfl (fun hc => ?_) (fun hc => ?_)
              · replace hF := hF.1 hc
                exact hF
              · replace hF := hF.2 hc
                refine wa_aload_n dX12_laysPair_141 0 rfl rfl ?_
                refine wb_geti (v := M7 118 55) dX12_laysPair_142 fkX12_402 rfl rfl rfl ?_
                refine wa_iload_n dX12_laysPair_145 2 rfl rfl ?_
                refine wa_icmp_ne (tgt := 151) dX12_laysPair_146 rfl (fun hc => ?_) (fun hc => ?_)
                · replace hF := hF.1 hc
                  refine wa_aload_n dX12_laysPair_151 0 rfl rfl ?_
                  refine wa_dup dX12_laysPair_152 rfl ?_
                  refine wb_geti (v := M7 118 55) dX12_laysPair_153 fkX12_402 rfl rfl rfl ?_
                  refine wa_iconst (v := 1) dX12_laysPair_156 rfl ?_
                  refine wa_iadd dX12_laysPair_157 ?_
                  refine wb_puti dX12_laysPair_158 fkX12_402 fmX12_55 rfl rfl ?_
                  exact hF
                · replace hF := hF.2 hc
                  refine wa_iconst (v := 1) dX12_laysPair_149 rfl ?_
                  exact wa_iret dX12_laysPair_150 rfl rfl hF
            · replace hF := hF.2 hc
              refine wa_iconst (v := 1) dX12_laysPair_127 rfl ?_
              refine wa_goto (tgt := 132) dX12_laysPair_128 rfl ?_
              refine wb_iast (j := 2) dX12_laysPair_132 rfl (by unfold vp_in; decide) rfl ?_
              refine wa_aload_n dX12_laysPair_133 0 rfl rfl ?_
              refine wa_iload_n dX12_laysPair_134 1 rfl rfl ?_
              obtain ⟨Q8, hM9, hF⟩ := hF
              refine wa_callV [.int x1] dX12_laysPair_135 (mmX12_isPair _ _) mlX12_405 mnX12_isPair mseX12_isPair rfl rfl rfl rfl (a_dlt d) rfl rfl hM9 ?_
              rintro r9 M8 P9 ⟨v8, rfl, rfl, hq9⟩
              replace hF := hF v8 M8 hq9
              simp only [Option.toList, List.cons_append, List.nil_append]
              refine wa_if_eq (tgt := 161) dX12_laysPair_138 rfl (fun hc => ?_) (fun hc => ?_)
              · replace hF := hF.1 hc
                exact hF
              · replace hF := hF.2 hc
                refine wa_aload_n dX12_laysPair_141 0 rfl rfl ?_
                refine wb_geti (v := M8 118 55) dX12_laysPair_142 fkX12_402 rfl rfl rfl ?_
                refine wa_iload_n dX12_laysPair_145 2 rfl rfl ?_
                refine wa_icmp_ne (tgt := 151) dX12_laysPair_146 rfl (fun hc => ?_) (fun hc => ?_)
                · replace hF := hF.1 hc
                  refine wa_aload_n dX12_laysPair_151 0 rfl rfl ?_
                  refine wa_dup dX12_laysPair_152 rfl ?_
                  refine wb_geti (v := M8 118 55) dX12_laysPair_153 fkX12_402 rfl rfl rfl ?_
                  refine wa_iconst (v := 1) dX12_laysPair_156 rfl ?_
                  refine wa_iadd dX12_laysPair_157 ?_
                  refine wb_puti dX12_laysPair_158 fkX12_402 fmX12_55 rfl rfl ?_
                  exact hF
                · replace hF := hF.2 hc
                  refine wa_iconst (v := 1) dX12_laysPair_149 rfl ?_
                  exact wa_iret dX12_laysPair_150 rfl rfl hF
          · replace hF := hF.2 hc
            refine wa_iconst (v := 1) dX12_laysPair_111 rfl ?_
            refine wa_goto (tgt := 116) dX12_laysPair_112 rfl ?_
            refine wb_iast (j := 1) dX12_laysPair_116 rfl (by unfold vp_in; decide) rfl ?_
            refine wa_aload_n dX12_laysPair_117 0 rfl rfl ?_
            refine wa_getr (r := 148) dX12_laysPair_118 fkX12_105 rfl rfl rfl ?_
            refine wa_iconst (v := 2) dX12_laysPair_121 rfl ?_
            refine wa_iload_n dX12_laysPair_122 1 rfl rfl ?_
            refine wa_iconst (v := 2) dX12_laysPair_123 rfl ?_
            refine wa_icmp_ne (tgt := 131) dX12_laysPair_124 rfl (fun hc => ?_) (fun hc => ?_)
            · replace hF := hF.1 hc
              refine wa_iconst (v := 0) dX12_laysPair_131 rfl ?_
              refine wb_iast (j := 2) dX12_laysPair_132 rfl (by unfold vp_in; decide) rfl ?_
              refine wa_aload_n dX12_laysPair_133 0 rfl rfl ?_
              refine wa_iload_n dX12_laysPair_134 1 rfl rfl ?_
              obtain ⟨Q9, hM9, hF⟩ := hF
              refine wa_callV [.int x1] dX12_laysPair_135 (mmX12_isPair _ _) mlX12_405 mnX12_isPair mseX12_isPair rfl rfl rfl rfl (a_dlt d) rfl rfl hM9 ?_
              rintro r9 M9 P9 ⟨v9, rfl, rfl, hq9⟩
              replace hF := hF v9 M9 hq9
              simp only [Option.toList, List.cons_append, List.nil_append]
              refine wa_if_eq (tgt := 161) dX12_laysPair_138 rfl (fun hc => ?_) (fun hc => ?_)
              · replace hF := hF.1 hc
                exact hF
              · replace hF := hF.2 hc
                refine wa_aload_n dX12_laysPair_141 0 rfl rfl ?_
                refine wb_geti (v := M9 118 55) dX12_laysPair_142 fkX12_402 rfl rfl rfl ?_
                refine wa_iload_n dX12_laysPair_145 2 rfl rfl ?_
                refine wa_icmp_ne (tgt := 151) dX12_laysPair_146 rfl (fun hc => ?_) (fun hc => ?_)
                · replace hF := hF.1 hc
                  refine wa_aload_n dX12_laysPair_151 0 rfl rfl ?_
                  refine wa_dup dX12_laysPair_152 rfl ?_
                  refine wb_geti (v := M9 118 55) dX12_laysPair_153 fkX12_402 rfl rfl rfl ?_
                  refine wa_iconst (v := 1) dX12_laysPair_156 rfl ?_
                  refine wa_iadd dX12_laysPair_157 ?_
                  refine wb_puti dX12_laysPair_158 fkX12_402 fmX12_55 rfl rfl ?_
                  exact hF
                · replace hF := hF.2 hc
                  refine wa_iconst (v := 1) dX12_laysPair_149 rfl ?_
                  exact wa_iret dX12_laysPair_150 rfl rfl hF
            · replace hF := hF.2 hc
              refine wa_iconst (v := 1) dX12_laysPair_127 rfl ?_
              refine wa_goto (tgt := 132) dX12_laysPair_128 rfl ?_
              refine wb_iast (j := 2) dX12_laysPair_132 rfl (by unfold vp_in; decide) rfl ?_
              refine wa_aload_n dX12_laysPair_133 0 rfl rfl ?_
              refine wa_iload_n dX12_laysPair_134 1 rfl rfl ?_
              obtain ⟨Q10, hM9, hF⟩ := hF
              refine wa_callV [.int x1] dX12_laysPair_135 (mmX12_isPair _ _) mlX12_405 mnX12_isPair mseX12_isPair rfl rfl rfl rfl (a_dlt d) rfl rfl hM9 ?_
              rintro r9 M10 P9 ⟨v10, rfl, rfl, hq9⟩
              replace hF := hF v10 M10 hq9
              simp only [Option.toList, List.cons_append, List.nil_append]
              refine wa_if_eq (tgt := 161) dX12_laysPair_138 rfl (fun hc => ?_) (fun hc => ?_)
              · replace hF := hF.1 hc
                exact hF
              · replace hF := hF.2 hc
                refine wa_aload_n dX12_laysPair_141 0 rfl rfl ?_
                refine wb_geti (v := M10 118 55) dX12_laysPair_142 fkX12_402 rfl rfl rfl ?_
                refine wa_iload_n dX12_laysPair_145 2 rfl rfl ?_
                refine wa_icmp_ne (tgt := 151) dX12_laysPair_146 rfl (fun hc => ?_) (fun hc => ?_)
                · replace hF := hF.1 hc
                  refine wa_aload_n dX12_laysPair_151 0 rfl rfl ?_
                  refine wa_dup dX12_laysPair_152 rfl ?_
                  refine wb_geti (v := M10 118 55) dX12_laysPair_153 fkX12_402 rfl rfl rfl ?_
                  refine wa_iconst (v := 1) dX12_laysPair_156 rfl ?_
                  refine wa_iadd dX12_laysPair_157 ?_
                  refine wb_puti dX12_laysPair_158 fkX12_402 fmX12_55 rfl rfl ?_
                  exact hF
                · replace hF := hF.2 hc
                  refine wa_iconst (v := 1) dX12_laysPair_149 rfl ?_
                  exact wa_iret dX12_laysPair_150 rfl rfl hF
        · replace hF := hF.2 hc
          refine wa_iload dX12_laysPair_94 4 rfl ?_
          refine wa_aload_n dX12_laysPair_96 0 rfl rfl ?_
          refine wa_getr (r := 119) dX12_laysPair_97 fkX12_7 rfl rfl rfl ?_
          refine wa_iconst (v := 2) dX12_laysPair_100 rfl ?_
          refine wb_iald (j := 2) (v := M 119 2) dX12_laysPair_101 rfl (by unfold vp_in; decide) rfl ((ms_no M 148 0 (x4 - x4 / (M 119 2) * (M 119 2)) 119 2 (fun h9 => absurd h9.1 (by decide))).trans rfl) ?_
          obtain ⟨hn9, hF⟩ := hF
          refine wa_idiv dX12_laysPair_102 hn9 ?_
          refine wa_goto (tgt := 116) dX12_laysPair_103 rfl ?_
          refine wb_iast (j := 1) dX12_laysPair_116 rfl (by unfold vp_in; decide) rfl ?_
          refine wa_aload_n dX12_laysPair_117 0 rfl rfl ?_
          refine wa_getr (r := 148) dX12_laysPair_118 fkX12_105 rfl rfl rfl ?_
          refine wa_iconst (v := 2) dX12_laysPair_121 rfl ?_
          refine wa_iload_n dX12_laysPair_122 1 rfl rfl ?_
          refine wa_iconst (v := 2) dX12_laysPair_123 rfl ?_
          refine wa_icmp_ne (tgt := 131) dX12_laysPair_124 rfl (fun hc => ?_) (fun hc => ?_)
          · replace hF := hF.1 hc
            refine wa_iconst (v := 0) dX12_laysPair_131 rfl ?_
            refine wb_iast (j := 2) dX12_laysPair_132 rfl (by unfold vp_in; decide) rfl ?_
            refine wa_aload_n dX12_laysPair_133 0 rfl rfl ?_
            refine wa_iload_n dX12_laysPair_134 1 rfl rfl ?_
            obtain ⟨Q11, hM9, hF⟩ := hF
            refine wa_callV [.int x1] dX12_laysPair_135 (mmX12_isPair _ _) mlX12_405 mnX12_isPair mseX12_isPair rfl rfl rfl rfl (a_dlt d) rfl rfl hM9 ?_
            rintro r9 M11 P9 ⟨v11, rfl, rfl, hq9⟩
            replace hF := hF v11 M11 hq9
            simp only [Option.toList, List.cons_append, List.nil_append]
            refine wa_if_eq (tgt := 161) dX12_laysPair_138 rfl (fun hc => ?_) (fun hc => ?_)
            · replace hF := hF.1 hc
              exact hF
            · replace hF := hF.2 hc
              refine wa_aload_n dX12_laysPair_141 0 rfl rfl ?_
              refine wb_geti (v := M11 118 55) dX12_laysPair_142 fkX12_402 rfl rfl rfl ?_
              refine wa_iload_n dX12_laysPair_145 2 rfl rfl ?_
              refine wa_icmp_ne (tgt := 151) dX12_laysPair_146 rfl (fun hc => ?_) (fun hc => ?_)
              · replace hF := hF.1 hc
                refine wa_aload_n dX12_laysPair_151 0 rfl rfl ?_
                refine wa_dup dX12_laysPair_152 rfl ?_
                refine wb_geti (v := M11 118 55) dX12_laysPair_153 fkX12_402 rfl rfl rfl ?_
                refine wa_iconst (v := 1) dX12_laysPair_156 rfl ?_
                refine wa_iadd dX12_laysPair_157 ?_
                refine wb_puti dX12_laysPair_158 fkX12_402 fmX12_55 rfl rfl ?_
                exact hF
              · replace hF := hF.2 hc
                refine wa_iconst (v := 1) dX12_laysPair_149 rfl ?_
                exact wa_iret dX12_laysPair_150 rfl rfl hF
          · replace hF := hF.2 hc
            refine wa_iconst (v := 1) dX12_laysPair_127 rfl ?_
            refine wa_goto (tgt := 132) dX12_laysPair_128 rfl ?_
            refine wb_iast (j := 2) dX12_laysPair_132 rfl (by unfold vp_in; decide) rfl ?_
            refine wa_aload_n dX12_laysPair_133 0 rfl rfl ?_
            refine wa_iload_n dX12_laysPair_134 1 rfl rfl ?_
            obtain ⟨Q12, hM9, hF⟩ := hF
            refine wa_callV [.int x1] dX12_laysPair_135 (mmX12_isPair _ _) mlX12_405 mnX12_isPair mseX12_isPair rfl rfl rfl rfl (a_dlt d) rfl rfl hM9 ?_
            rintro r9 M12 P9 ⟨v12, rfl, rfl, hq9⟩
            replace hF := hF v12 M12 hq9
            simp only [Option.toList, List.cons_append, List.nil_append]
            refine wa_if_eq (tgt := 161) dX12_laysPair_138 rfl (fun hc => ?_) (fun hc => ?_)
            · replace hF := hF.1 hc
              exact hF
            · replace hF := hF.2 hc
              refine wa_aload_n dX12_laysPair_141 0 rfl rfl ?_
              refine wb_geti (v := M12 118 55) dX12_laysPair_142 fkX12_402 rfl rfl rfl ?_
              refine wa_iload_n dX12_laysPair_145 2 rfl rfl ?_
              refine wa_icmp_ne (tgt := 151) dX12_laysPair_146 rfl (fun hc => ?_) (fun hc => ?_)
              · replace hF := hF.1 hc
                refine wa_aload_n dX12_laysPair_151 0 rfl rfl ?_
                refine wa_dup dX12_laysPair_152 rfl ?_
                refine wb_geti (v := M12 118 55) dX12_laysPair_153 fkX12_402 rfl rfl rfl ?_
                refine wa_iconst (v := 1) dX12_laysPair_156 rfl ?_
                refine wa_iadd dX12_laysPair_157 ?_
                refine wb_puti dX12_laysPair_158 fkX12_402 fmX12_55 rfl rfl ?_
                exact hF
              · replace hF := hF.2 hc
                refine wa_iconst (v := 1) dX12_laysPair_149 rfl ?_
                exact wa_iret dX12_laysPair_150 rfl rfl hF
    · replace hF := hF.2 hc
      refine wa_iload dX12_laysPair_60 4 rfl ?_
      refine wa_goto (tgt := 83) dX12_laysPair_62 rfl ?_
      refine wb_iast (j := 0) dX12_laysPair_83 rfl (by unfold vp_in; decide) rfl ?_
      refine wa_aload_n dX12_laysPair_84 0 rfl rfl ?_
      refine wa_getr (r := 148) dX12_laysPair_85 fkX12_105 rfl rfl rfl ?_
      refine wa_iconst (v := 1) dX12_laysPair_88 rfl ?_
      refine wa_iload_n dX12_laysPair_89 1 rfl rfl ?_
      refine wa_iconst (v := 2) dX12_laysPair_90 rfl ?_
      refine wa_icmp_ne (tgt := 106) dX12_laysPair_91 rfl (fun hc => ?_) (fun hc => ?_)
      · replace hF := hF.1 hc
        refine wa_iload_n dX12_laysPair_106 1 rfl rfl ?_
        refine wa_iconst (v := 1) dX12_laysPair_107 rfl ?_
        refine wa_icmp_ne (tgt := 115) dX12_laysPair_108 rfl (fun hc => ?_) (fun hc => ?_)
        · replace hF := hF.1 hc
          refine wa_iconst (v := 0) dX12_laysPair_115 rfl ?_
          refine wb_iast (j := 1) dX12_laysPair_116 rfl (by unfold vp_in; decide) rfl ?_
          refine wa_aload_n dX12_laysPair_117 0 rfl rfl ?_
          refine wa_getr (r := 148) dX12_laysPair_118 fkX12_105 rfl rfl rfl ?_
          refine wa_iconst (v := 2) dX12_laysPair_121 rfl ?_
          refine wa_iload_n dX12_laysPair_122 1 rfl rfl ?_
          refine wa_iconst (v := 2) dX12_laysPair_123 rfl ?_
          refine wa_icmp_ne (tgt := 131) dX12_laysPair_124 rfl (fun hc => ?_) (fun hc => ?_)
          · replace hF := hF.1 hc
            refine wa_iconst (v := 0) dX12_laysPair_131 rfl ?_
            refine wb_iast (j := 2) dX12_laysPair_132 rfl (by unfold vp_in; decide) rfl ?_
            refine wa_aload_n dX12_laysPair_133 0 rfl rfl ?_
            refine wa_iload_n dX12_laysPair_134 1 rfl rfl ?_
            obtain ⟨Q13, hM9, hF⟩ := hF
            refine wa_callV [.int x1] dX12_laysPair_135 (mmX12_isPair _ _) mlX12_405 mnX12_isPair mseX12_isPair rfl rfl rfl rfl (a_dlt d) rfl rfl hM9 ?_
            rintro r9 M13 P9 ⟨v13, rfl, rfl, hq9⟩
            replace hF := hF v13 M13 hq9
            simp only [Option.toList, List.cons_append, List.nil_append]
            refine wa_if_eq (tgt := 161) dX12_laysPair_138 rfl (fun hc => ?_) (fun hc => ?_)
            · replace hF := hF.1 hc
              exact hF
            · replace hF := hF.2 hc
              refine wa_aload_n dX12_laysPair_141 0 rfl rfl ?_
              refine wb_geti (v := M13 118 55) dX12_laysPair_142 fkX12_402 rfl rfl rfl ?_
              refine wa_iload_n dX12_laysPair_145 2 rfl rfl ?_
              refine wa_icmp_ne (tgt := 151) dX12_laysPair_146 rfl (fun hc => ?_) (fun hc => ?_)
              · replace hF := hF.1 hc
                refine wa_aload_n dX12_laysPair_151 0 rfl rfl ?_
                refine wa_dup dX12_laysPair_152 rfl ?_
                refine wb_geti (v := M13 118 55) dX12_laysPair_153 fkX12_402 rfl rfl rfl ?_
                refine wa_iconst (v := 1) dX12_laysPair_156 rfl ?_
                refine wa_iadd dX12_laysPair_157 ?_
                refine wb_puti dX12_laysPair_158 fkX12_402 fmX12_55 rfl rfl ?_
                exact hF
              · replace hF := hF.2 hc
                refine wa_iconst (v := 1) dX12_laysPair_149 rfl ?_
                exact wa_iret dX12_laysPair_150 rfl rfl hF
          · replace hF := hF.2 hc
            refine wa_iconst (v := 1) dX12_laysPair_127 rfl ?_
            refine wa_goto (tgt := 132) dX12_laysPair_128 rfl ?_
            refine wb_iast (j := 2) dX12_laysPair_132 rfl (by unfold vp_in; decide) rfl ?_
            refine wa_aload_n dX12_laysPair_133 0 rfl rfl ?_
            refine wa_iload_n dX12_laysPair_134 1 rfl rfl ?_
            obtain ⟨Q14, hM9, hF⟩ := hF
            refine wa_callV [.int x1] dX12_laysPair_135 (mmX12_isPair _ _) mlX12_405 mnX12_isPair mseX12_isPair rfl rfl rfl rfl (a_dlt d) rfl rfl hM9 ?_
            rintro r9 M14 P9 ⟨v14, rfl, rfl, hq9⟩
            replace hF := hF v14 M14 hq9
            simp only [Option.toList, List.cons_append, List.nil_append]
            refine wa_if_eq (tgt := 161) dX12_laysPair_138 rfl (fun hc => ?_) (fun hc => ?_)
            · replace hF := hF.1 hc
              exact hF
            · replace hF := hF.2 hc
              refine wa_aload_n dX12_laysPair_141 0 rfl rfl ?_
              refine wb_geti (v := M14 118 55) dX12_laysPair_142 fkX12_402 rfl rfl rfl ?_
              refine wa_iload_n dX12_laysPair_145 2 rfl rfl ?_
              refine wa_icmp_ne (tgt := 151) dX12_laysPair_146 rfl (fun hc => ?_) (fun hc => ?_)
              · replace hF := hF.1 hc
                refine wa_aload_n dX12_laysPair_151 0 rfl rfl ?_
                refine wa_dup dX12_laysPair_152 rfl ?_
                refine wb_geti (v := M14 118 55) dX12_laysPair_153 fkX12_402 rfl rfl rfl ?_
                refine wa_iconst (v := 1) dX12_laysPair_156 rfl ?_
                refine wa_iadd dX12_laysPair_157 ?_
                refine wb_puti dX12_laysPair_158 fkX12_402 fmX12_55 rfl rfl ?_
                exact hF
              · replace hF := hF.2 hc
                refine wa_iconst (v := 1) dX12_laysPair_149 rfl ?_
                exact wa_iret dX12_laysPair_150 rfl rfl hF
        · replace hF := hF.2 hc
          refine wa_iconst (v := 1) dX12_laysPair_111 rfl ?_
          refine wa_goto (tgt := 116) dX12_laysPair_112 rfl ?_
          refine wb_iast (j := 1) dX12_laysPair_116 rfl (by unfold vp_in; decide) rfl ?_
          refine wa_aload_n dX12_laysPair_117 0 rfl rfl ?_
          refine wa_getr (r := 148) dX12_laysPair_118 fkX12_105 rfl rfl rfl ?_
          refine wa_iconst (v := 2) dX12_laysPair_121 rfl ?_
          refine wa_iload_n dX12_laysPair_122 1 rfl rfl ?_
          refine wa_iconst (v := 2) dX12_laysPair_123 rfl ?_
          refine wa_icmp_ne (tgt := 131) dX12_laysPair_124 rfl (fun hc => ?_) (fun hc => ?_)
          · replace hF := hF.1 hc
            refine wa_iconst (v := 0) dX12_laysPair_131 rfl ?_
            refine wb_iast (j := 2) dX12_laysPair_132 rfl (by unfold vp_in; decide) rfl ?_
            refine wa_aload_n dX12_laysPair_133 0 rfl rfl ?_
            refine wa_iload_n dX12_laysPair_134 1 rfl rfl ?_
            obtain ⟨Q15, hM9, hF⟩ := hF
            refine wa_callV [.int x1] dX12_laysPair_135 (mmX12_isPair _ _) mlX12_405 mnX12_isPair mseX12_isPair rfl rfl rfl rfl (a_dlt d) rfl rfl hM9 ?_
            rintro r9 M15 P9 ⟨v15, rfl, rfl, hq9⟩
            replace hF := hF v15 M15 hq9
            simp only [Option.toList, List.cons_append, List.nil_append]
            refine wa_if_eq (tgt := 161) dX12_laysPair_138 rfl (fun hc => ?_) (fun hc => ?_)
            · replace hF := hF.1 hc
              exact hF
            · replace hF := hF.2 hc
              refine wa_aload_n dX12_laysPair_141 0 rfl rfl ?_
              refine wb_geti (v := M15 118 55) dX12_laysPair_142 fkX12_402 rfl rfl rfl ?_
              refine wa_iload_n dX12_laysPair_145 2 rfl rfl ?_
              refine wa_icmp_ne (tgt := 151) dX12_laysPair_146 rfl (fun hc => ?_) (fun hc => ?_)
              · replace hF := hF.1 hc
                refine wa_aload_n dX12_laysPair_151 0 rfl rfl ?_
                refine wa_dup dX12_laysPair_152 rfl ?_
                refine wb_geti (v := M15 118 55) dX12_laysPair_153 fkX12_402 rfl rfl rfl ?_
                refine wa_iconst (v := 1) dX12_laysPair_156 rfl ?_
                refine wa_iadd dX12_laysPair_157 ?_
                refine wb_puti dX12_laysPair_158 fkX12_402 fmX12_55 rfl rfl ?_
                exact hF
              · replace hF := hF.2 hc
                refine wa_iconst (v := 1) dX12_laysPair_149 rfl ?_
                exact wa_iret dX12_laysPair_150 rfl rfl hF
          · replace hF := hF.2 hc
            refine wa_iconst (v := 1) dX12_laysPair_127 rfl ?_
            refine wa_goto (tgt := 132) dX12_laysPair_128 rfl ?_
            refine wb_iast (j := 2) dX12_laysPair_132 rfl (by unfold vp_in; decide) rfl ?_
            refine wa_aload_n dX12_laysPair_133 0 rfl rfl ?_
            refine wa_iload_n dX12_laysPair_134 1 rfl rfl ?_
            obtain ⟨Q16, hM9, hF⟩ := hF
            refine wa_callV [.int x1] dX12_laysPair_135 (mmX12_isPair _ _) mlX12_405 mnX12_isPair mseX12_isPair rfl rfl rfl rfl (a_dlt d) rfl rfl hM9 ?_
            rintro r9 M16 P9 ⟨v16, rfl, rfl, hq9⟩
            replace hF := hF v16 M16 hq9
            simp only [Option.toList, List.cons_append, List.nil_append]
            refine wa_if_eq (tgt := 161) dX12_laysPair_138 rfl (fun hc => ?_) (fun hc => ?_)
            · replace hF := hF.1 hc
              exact hF
            · replace hF := hF.2 hc
              refine wa_aload_n dX12_laysPair_141 0 rfl rfl ?_
              refine wb_geti (v := M16 118 55) dX12_laysPair_142 fkX12_402 rfl rfl rfl ?_
              refine wa_iload_n dX12_laysPair_145 2 rfl rfl ?_
              refine wa_icmp_ne (tgt := 151) dX12_laysPair_146 rfl (fun hc => ?_) (fun hc => ?_)
              · replace hF := hF.1 hc
                refine wa_aload_n dX12_laysPair_151 0 rfl rfl ?_
                refine wa_dup dX12_laysPair_152 rfl ?_
                refine wb_geti (v := M16 118 55) dX12_laysPair_153 fkX12_402 rfl rfl rfl ?_
                refine wa_iconst (v := 1) dX12_laysPair_156 rfl ?_
                refine wa_iadd dX12_laysPair_157 ?_
                refine wb_puti dX12_laysPair_158 fkX12_402 fmX12_55 rfl rfl ?_
                exact hF
              · replace hF := hF.2 hc
                refine wa_iconst (v := 1) dX12_laysPair_149 rfl ?_
                exact wa_iret dX12_laysPair_150 rfl rfl hF
      · replace hF := hF.2 hc
        refine wa_iload dX12_laysPair_94 4 rfl ?_
        refine wa_aload_n dX12_laysPair_96 0 rfl rfl ?_
        refine wa_getr (r := 119) dX12_laysPair_97 fkX12_7 rfl rfl rfl ?_
        refine wa_iconst (v := 2) dX12_laysPair_100 rfl ?_
        refine wb_iald (j := 2) (v := M 119 2) dX12_laysPair_101 rfl (by unfold vp_in; decide) rfl ((ms_no M 148 0 x4 119 2 (fun h9 => absurd h9.1 (by decide))).trans rfl) ?_
        obtain ⟨hn9, hF⟩ := hF
        refine wa_idiv dX12_laysPair_102 hn9 ?_
        refine wa_goto (tgt := 116) dX12_laysPair_103 rfl ?_
        refine wb_iast (j := 1) dX12_laysPair_116 rfl (by unfold vp_in; decide) rfl ?_
        refine wa_aload_n dX12_laysPair_117 0 rfl rfl ?_
        refine wa_getr (r := 148) dX12_laysPair_118 fkX12_105 rfl rfl rfl ?_
        refine wa_iconst (v := 2) dX12_laysPair_121 rfl ?_
        refine wa_iload_n dX12_laysPair_122 1 rfl rfl ?_
        refine wa_iconst (v := 2) dX12_laysPair_123 rfl ?_
        refine wa_icmp_ne (tgt := 131) dX12_laysPair_124 rfl (fun hc => ?_) (fun hc => ?_)
        · replace hF := hF.1 hc
          refine wa_iconst (v := 0) dX12_laysPair_131 rfl ?_
          refine wb_iast (j := 2) dX12_laysPair_132 rfl (by unfold vp_in; decide) rfl ?_
          refine wa_aload_n dX12_laysPair_133 0 rfl rfl ?_
          refine wa_iload_n dX12_laysPair_134 1 rfl rfl ?_
          obtain ⟨Q17, hM9, hF⟩ := hF
          refine wa_callV [.int x1] dX12_laysPair_135 (mmX12_isPair _ _) mlX12_405 mnX12_isPair mseX12_isPair rfl rfl rfl rfl (a_dlt d) rfl rfl hM9 ?_
          rintro r9 M17 P9 ⟨v17, rfl, rfl, hq9⟩
          replace hF := hF v17 M17 hq9
          simp only [Option.toList, List.cons_append, List.nil_append]
          refine wa_if_eq (tgt := 161) dX12_laysPair_138 rfl (fun hc => ?_) (fun hc => ?_)
          · replace hF := hF.1 hc
            exact hF
          · replace hF := hF.2 hc
            refine wa_aload_n dX12_laysPair_141 0 rfl rfl ?_
            refine wb_geti (v := M17 118 55) dX12_laysPair_142 fkX12_402 rfl rfl rfl ?_
            refine wa_iload_n dX12_laysPair_145 2 rfl rfl ?_
            refine wa_icmp_ne (tgt := 151) dX12_laysPair_146 rfl (fun hc => ?_) (fun hc => ?_)
            · replace hF := hF.1 hc
              refine wa_aload_n dX12_laysPair_151 0 rfl rfl ?_
              refine wa_dup dX12_laysPair_152 rfl ?_
              refine wb_geti (v := M17 118 55) dX12_laysPair_153 fkX12_402 rfl rfl rfl ?_
              refine wa_iconst (v := 1) dX12_laysPair_156 rfl ?_
              refine wa_iadd dX12_laysPair_157 ?_
              refine wb_puti dX12_laysPair_158 fkX12_402 fmX12_55 rfl rfl ?_
              exact hF
            · replace hF := hF.2 hc
              refine wa_iconst (v := 1) dX12_laysPair_149 rfl ?_
              exact wa_iret dX12_laysPair_150 rfl rfl hF
        · replace hF := hF.2 hc
          refine wa_iconst (v := 1) dX12_laysPair_127 rfl ?_
          refine wa_goto (tgt := 132) dX12_laysPair_128 rfl ?_
          refine wb_iast (j := 2) dX12_laysPair_132 rfl (by unfold vp_in; decide) rfl ?_
          refine wa_aload_n dX12_laysPair_133 0 rfl rfl ?_
          refine wa_iload_n dX12_laysPair_134 1 rfl rfl ?_
          obtain ⟨Q18, hM9, hF⟩ := hF
          refine wa_callV [.int x1] dX12_laysPair_135 (mmX12_isPair _ _) mlX12_405 mnX12_isPair mseX12_isPair rfl rfl rfl rfl (a_dlt d) rfl rfl hM9 ?_
          rintro r9 M18 P9 ⟨v18, rfl, rfl, hq9⟩
          replace hF := hF v18 M18 hq9
          simp only [Option.toList, List.cons_append, List.nil_append]
          refine wa_if_eq (tgt := 161) dX12_laysPair_138 rfl (fun hc => ?_) (fun hc => ?_)
          · replace hF := hF.1 hc
            exact hF
          · replace hF := hF.2 hc
            refine wa_aload_n dX12_laysPair_141 0 rfl rfl ?_
            refine wb_geti (v := M18 118 55) dX12_laysPair_142 fkX12_402 rfl rfl rfl ?_
            refine wa_iload_n dX12_laysPair_145 2 rfl rfl ?_
            refine wa_icmp_ne (tgt := 151) dX12_laysPair_146 rfl (fun hc => ?_) (fun hc => ?_)
            · replace hF := hF.1 hc
              refine wa_aload_n dX12_laysPair_151 0 rfl rfl ?_
              refine wa_dup dX12_laysPair_152 rfl ?_
              refine wb_geti (v := M18 118 55) dX12_laysPair_153 fkX12_402 rfl rfl rfl ?_
              refine wa_iconst (v := 1) dX12_laysPair_156 rfl ?_
              refine wa_iadd dX12_laysPair_157 ?_
              refine wb_puti dX12_laysPair_158 fkX12_402 fmX12_55 rfl rfl ?_
              exact hF
            · replace hF := hF.2 hc
              refine wa_iconst (v := 1) dX12_laysPair_149 rfl ?_
              exact wa_iret dX12_laysPair_150 rfl rfl hF

theorem bX12_laysPair_161 {X : a_X} {ad : Nat → Nat} {ca : Nat → ClassId} {d : Nat} {kc ks : Nat} {QF : List Frame → Array Value → State → State → Prop} {x : Nat} {M : a_M} (x1 : Int32) (x2 : Int32) (x3 : Int32) (x4 : Int32)  (hF : WA X ad ca LY RX12 cX12_laysPair 5 (some FieldType.boolean) (d + 1) kc ks QF 44 [(0, .ref 118), (1, .int x1), (2, .int x2), (3, .int x3), (4, .int (x4 + 1))] [] M (PT x)) : WA X ad ca LY RX12 cX12_laysPair 5 (some FieldType.boolean) (d + 1) kc ks QF 161 [(0, .ref 118), (1, .int x1), (2, .int x2), (3, .int x3), (4, .int x4)] [] M (PT x) := by
  refine wa_iinc (v := x4 + 1) (lv' := [(4, .int (x4 + 1)), (0, .ref 118), (1, .int x1), (2, .int x2), (3, .int x3)]) dX12_laysPair_161 4 rfl rfl rfl rfl ?_
  refine wa_goto (tgt := 44) dX12_laysPair_164 rfl ?_
  exact wa_pick [1, 2, 3, 4, 0] rfl hF

theorem eX12_laysPair {X : a_X} {ad : Nat → Nat} {ca : Nat → ClassId} {d : Nat} {Post : Option Value → a_M → a_P → Prop} {x : Nat} {M : a_M} (x1 : Int32) (x2 : Int32) (h : WA X ad ca LY RX12 cX12_laysPair 5 (some FieldType.boolean) d 0 0 (a_E X ad ca LY Post) 0 [(0, .ref 118), (1, .int x1), (2, .int x2)] [] M (PT x)) : Mt X ad ca LY d yX12_laysPair cX12_laysPair 5 (some FieldType.boolean) [.ref 118, .int x1, .int x2] M (PT x) Post := Mt.of (lv := [(0, .ref 118), (1, .int x1), (2, .int x2)]) (by decide +kernel) rfl rfl rfl (wa_pick [0, 1, 2] rfl h)
