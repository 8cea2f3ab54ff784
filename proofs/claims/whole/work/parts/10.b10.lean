theorem bX12_clause_0 {X : a_X} {ad : Nat → Nat} {ca : Nat → ClassId} {d : Nat} {kc ks : Nat} {QF : List Frame → Array Value → State → State → Prop} {x : Nat} {M : a_M}   (hF : ((¬ (M 118 15) = 1 → WA X ad ca LY RX12 cX12_clause 1 none (d + 1) kc ks QF 17 [(0, .ref 118)] [] M (PT x)) ∧ ((M 118 15) = 1 → (((M 118 16) ≤ 6 → ((2 < (M 118 16) → WA X ad ca LY RX12 cX12_clause 1 none (d + 1) kc ks QF 58 [(0, .ref 118)] [] (ms M 118 27 (M 118 16)) (PT x)) ∧ (¬ 2 < (M 118 16) → (∃ Q1 : Int32 → a_M → Prop, Mt X ad ca LY d yX12_wasTold cX12_wasTold 4 (some FieldType.boolean) [.ref 118, .int (M 118 16)] (ms M 118 27 (M 118 16)) (PT x) (q_i (PT x) Q1) ∧ ∀ v1 M1, Q1 v1 M1 → ((v1 = 0 → WA X ad ca LY RX12 cX12_clause 1 none (d + 1) kc ks QF 58 [(0, .ref 118)] [] M1 (PT x)) ∧ (¬ v1 = 0 → (∃ Q2 : a_M → Prop, Mt X ad ca LY d yX12_errs cX12_errs 2 none [.ref 118, .int 4] M1 (PT x) (q_v (PT x) Q2) ∧ ∀ M2, Q2 M2 → WA X ad ca LY RX12 cX12_clause 1 none (d + 1) kc ks QF 73 [(0, .ref 118)] [] M2 (PT x)))))))) ∧ (¬ (M 118 16) ≤ 6 → WA X ad ca LY RX12 cX12_clause 1 none (d + 1) kc ks QF 17 [(0, .ref 118)] [] M (PT x)))))) : WA X ad ca LY RX12 cX12_clause 1 none (d + 1) kc ks QF 0 [(0, .ref 118)] [] M (PT x) := by
  refine wa_aload_n dX12_clause_0 0 rfl rfl ?_
  refine wb_geti (v := M 118 15) dX12_clause_1 fkX12_175 rfl rfl rfl ?_
  refine wa_iconst (v := 1) dX12_clause_4 rfl ?_
  refine wa_icmp_ne (tgt := 17) dX12_clause_5 rfl (fun hc => ?_) (fun hc => ?_)
  · replace hF := hF.1 hc
    exact hF
  · replace hF := hF.2 hc
    refine wa_aload_n dX12_clause_8 0 rfl rfl ?_
    refine wb_geti (v := M 118 16) dX12_clause_9 fkX12_187 rfl rfl rfl ?_
    refine wa_bipush (v := 6) dX12_clause_12 rfl ?_
    refine wa_icmp_le (tgt := 23) dX12_clause_14 rfl (fun hc => ?_) (fun hc => ?_)
    · replace hF := hF.1 hc
      refine wa_aload_n dX12_clause_23 0 rfl rfl ?_
      refine wa_aload_n dX12_clause_24 0 rfl rfl ?_
      refine wb_geti (v := M 118 16) dX12_clause_25 fkX12_187 rfl rfl rfl ?_
      refine wb_puti dX12_clause_28 fkX12_231 fmX12_27 rfl rfl ?_
      refine wa_aload_n dX12_clause_31 0 rfl rfl ?_
      refine wb_geti (v := (M 118 16)) dX12_clause_32 fkX12_231 rfl rfl (ms_is M 118 27 (M 118 16)) ?_
      refine wa_iconst (v := 2) dX12_clause_35 rfl ?_
      refine wa_icmp_gt (tgt := 58) dX12_clause_36 rfl (fun hc => ?_) (fun hc => ?_)
      · replace hF := hF.1 hc
        exact hF
      · replace hF := hF.2 hc
        refine wa_aload_n dX12_clause_39 0 rfl rfl ?_
        refine wa_aload_n dX12_clause_40 0 rfl rfl ?_
        refine wb_geti (v := (M 118 16)) dX12_clause_41 fkX12_231 rfl rfl (ms_is M 118 27 (M 118 16)) ?_
        obtain ⟨Q1, hM9, hF⟩ := hF
        refine wa_callV [.int (M 118 16)] dX12_clause_44 (mmX12_wasTold _ _) mlX12_255 mnX12_wasTold mseX12_wasTold rfl rfl rfl rfl (a_dlt d) rfl rfl hM9 ?_
        rintro r9 M1 P9 ⟨v1, rfl, rfl, hq9⟩
        replace hF := hF v1 M1 hq9
        simp only [Option.toList, List.cons_append, List.nil_append]
        refine wa_if_eq (tgt := 58) dX12_clause_47 rfl (fun hc => ?_) (fun hc => ?_)
        · replace hF := hF.1 hc
          exact hF
        · replace hF := hF.2 hc
          refine wa_aload_n dX12_clause_50 0 rfl rfl ?_
          refine wa_iconst (v := 4) dX12_clause_51 rfl ?_
          obtain ⟨Q2, hM9, hF⟩ := hF
          refine wa_callV [.int 4] dX12_clause_52 (mmX12_errs _ _) mlX12_206 mnX12_errs mseX12_errs rfl rfl rfl rfl (a_dlt d) rfl rfl hM9 ?_
          rintro r9 M2 P9 ⟨rfl, rfl, hq9⟩
          replace hF := hF M2 hq9
          simp only [Option.toList, List.nil_append]
          refine wa_goto (tgt := 73) dX12_clause_55 rfl ?_
          exact hF
    · replace hF := hF.2 hc
      exact hF

theorem bX12_clause_17 {X : a_X} {ad : Nat → Nat} {ca : Nat → ClassId} {d : Nat} {Post : Option Value → a_M → a_P → Prop} {x : Nat} {M : a_M}   (hF : (∃ Q1 : a_M → Prop, Mt X ad ca LY d yX12_errs cX12_errs 2 none [.ref 118, .int 1] M (PT x) (q_v (PT x) Q1) ∧ ∀ M1, Q1 M1 → Post none M1 (PT x))) : WA X ad ca LY RX12 cX12_clause 1 none (d + 1) 0 0 (a_E X ad ca LY Post) 17 [(0, .ref 118)] [] M (PT x) := by
  refine wa_aload_n dX12_clause_17 0 rfl rfl ?_
  refine wa_iconst (v := 1) dX12_clause_18 rfl ?_
  obtain ⟨Q1, hM9, hF⟩ := hF
  refine wa_callV [.int 1] dX12_clause_19 (mmX12_errs _ _) mlX12_206 mnX12_errs mseX12_errs rfl rfl rfl rfl (a_dlt d) rfl rfl hM9 ?_
  rintro r9 M1 P9 ⟨rfl, rfl, hq9⟩
  replace hF := hF M1 hq9
  simp only [Option.toList, List.nil_append]
  exact wa_vret dX12_clause_22 rfl hF

theorem bX12_clause_58 {X : a_X} {ad : Nat → Nat} {ca : Nat → ClassId} {d : Nat} {kc ks : Nat} {QF : List Frame → Array Value → State → State → Prop} {x : Nat} {M : a_M}   (hF : ((¬ (M 118 26) = 30 → WA X ad ca LY RX12 cX12_clause 1 none (d + 1) kc ks QF 73 [(0, .ref 118)] [] M (PT x)) ∧ ((M 118 26) = 30 → (∃ Q1 : a_M → Prop, Mt X ad ca LY d yX12_errs cX12_errs 2 none [.ref 118, .int 6] M (PT x) (q_v (PT x) Q1) ∧ ∀ M1, Q1 M1 → WA X ad ca LY RX12 cX12_clause 1 none (d + 1) kc ks QF 73 [(0, .ref 118)] [] M1 (PT x))))) : WA X ad ca LY RX12 cX12_clause 1 none (d + 1) kc ks QF 58 [(0, .ref 118)] [] M (PT x) := by
  refine wa_aload_n dX12_clause_58 0 rfl rfl ?_
  refine wb_geti (v := M 118 26) dX12_clause_59 fkX12_252 rfl rfl rfl ?_
  refine wa_bipush (v := 30) dX12_clause_62 rfl ?_
  refine wa_icmp_ne (tgt := 73) dX12_clause_64 rfl (fun hc => ?_) (fun hc => ?_)
  · replace hF := hF.1 hc
    exact hF
  · replace hF := hF.2 hc
    refine wa_aload_n dX12_clause_67 0 rfl rfl ?_
    refine wa_bipush (v := 6) dX12_clause_68 rfl ?_
    obtain ⟨Q1, hM9, hF⟩ := hF
    refine wa_callV [.int 6] dX12_clause_70 (mmX12_errs _ _) mlX12_206 mnX12_errs mseX12_errs rfl rfl rfl rfl (a_dlt d) rfl rfl hM9 ?_
    rintro r9 M1 P9 ⟨rfl, rfl, hq9⟩
    replace hF := hF M1 hq9
    simp only [Option.toList, List.nil_append]
    exact hF

theorem bX12_clause_73 {X : a_X} {ad : Nat → Nat} {ca : Nat → ClassId} {d : Nat} {Post : Option Value → a_M → a_P → Prop} {x : Nat} {M : a_M}   (hF : (((M 118 17) ≤ 0 → (vp_in (M 118 26) 30 ∧ (vp_in (M 118 26) 30 ∧ (vp_in (M 118 26) 30 ∧ (∃ Q1 : a_M → Prop, Mt X ad ca LY d yX12_next cX12_next 5 none [.ref 118] (ms (ms (ms M 131 ((M 118 26).toNatClampNeg) (M 118 27)) 132 ((M 118 26).toNatClampNeg) (M 118 31)) 133 ((M 118 26).toNatClampNeg) (-1)) (PT x) (q_v (PT x) Q1) ∧ ∀ M1, Q1 M1 → (((M1 118 27) ≤ 2 → WA X ad ca LY RX12 cX12_clause 1 none (d + 1) 0 0 (a_E X ad ca LY Post) 138 [(0, .ref 118)] [] M1 (PT x)) ∧ (¬ (M1 118 27) ≤ 2 → ((¬ (M1 118 27) = 6 → ((¬ (M1 118 27) = 4 → WA X ad ca LY RX12 cX12_clause 1 none (d + 1) 0 0 (a_E X ad ca LY Post) 173 [(0, .ref 118)] [] M1 (PT x)) ∧ ((M1 118 27) = 4 → (∃ Q2 : Int32 → a_M → Prop, Mt X ad ca LY d yX12_number cX12_number 4 (some FieldType.int) [.ref 118, .int 0, .int 6] M1 (PT x) (q_i (PT x) Q2) ∧ ∀ v2 M2, Q2 v2 M2 → (vp_in (M1 118 26) 30 ∧ WA X ad ca LY RX12 cX12_clause 1 none (d + 1) 0 0 (a_E X ad ca LY Post) 173 [(0, .ref 118)] [] (ms M2 133 ((M1 118 26).toNatClampNeg) v2) (PT x)))))) ∧ ((M1 118 27) = 6 → WA X ad ca LY RX12 cX12_clause 1 none (d + 1) 0 0 (a_E X ad ca LY Post) 138 [(0, .ref 118)] [] M1 (PT x)))))))))) ∧ (¬ (M 118 17) ≤ 0 → Post none M (PT x)))) : WA X ad ca LY RX12 cX12_clause 1 none (d + 1) 0 0 (a_E X ad ca LY Post) 73 [(0, .ref 118)] [] M (PT x) := by
  refine wa_aload_n dX12_clause_73 0 rfl rfl ?_
  refine wb_geti (v := M 118 17) dX12_clause_74 fkX12_191 rfl rfl rfl ?_
  refine wa_if_le (tgt := 81) dX12_clause_77 rfl (fun hc => ?_) (fun hc => ?_)
  · replace hF := hF.1 hc
    refine wa_aload_n dX12_clause_81 0 rfl rfl ?_
    refine wa_getr (r := 131) dX12_clause_82 fkX12_54 rfl rfl rfl ?_
    refine wa_aload_n dX12_clause_85 0 rfl rfl ?_
    refine wb_geti (v := M 118 26) dX12_clause_86 fkX12_252 rfl rfl rfl ?_
    refine wa_aload_n dX12_clause_89 0 rfl rfl ?_
    refine wb_geti (v := M 118 27) dX12_clause_90 fkX12_231 rfl rfl rfl ?_
    obtain ⟨hi9, hF⟩ := hF
    refine wb_iast (j := (M 118 26).toNatClampNeg) dX12_clause_93 rfl hi9 rfl ?_
    refine wa_aload_n dX12_clause_94 0 rfl rfl ?_
    refine wa_getr (r := 132) dX12_clause_95 fkX12_57 rfl rfl rfl ?_
    refine wa_aload_n dX12_clause_98 0 rfl rfl ?_
    refine wb_geti (v := M 118 26) dX12_clause_99 fkX12_252 rfl rfl ((ms_no M 131 ((M 118 26).toNatClampNeg) (M 118 27) 118 26 (fun h9 => absurd h9.1 (by decide))).trans rfl) ?_
    refine wa_aload_n dX12_clause_102 0 rfl rfl ?_
    refine wb_geti (v := M 118 31) dX12_clause_103 fkX12_197 rfl rfl ((ms_no M 131 ((M 118 26).toNatClampNeg) (M 118 27) 118 31 (fun h9 => absurd h9.1 (by decide))).trans rfl) ?_
    obtain ⟨hi9, hF⟩ := hF
    refine wb_iast (j := (M 118 26).toNatClampNeg) dX12_clause_106 rfl hi9 rfl ?_
    refine wa_aload_n dX12_clause_107 0 rfl rfl ?_
    refine wa_getr (r := 133) dX12_clause_108 fkX12_60 rfl rfl rfl ?_
    refine wa_aload_n dX12_clause_111 0 rfl rfl ?_
    refine wb_geti (v := M 118 26) dX12_clause_112 fkX12_252 rfl rfl ((ms_no (ms M 131 ((M 118 26).toNatClampNeg) (M 118 27)) 132 ((M 118 26).toNatClampNeg) (M 118 31) 118 26 (fun h9 => absurd h9.1 (by decide))).trans ((ms_no M 131 ((M 118 26).toNatClampNeg) (M 118 27) 118 26 (fun h9 => absurd h9.1 (by decide))).trans rfl)) ?_
    refine wa_iconst (v := (-1)) dX12_clause_115 rfl ?_
    obtain ⟨hi9, hF⟩ := hF
    refine wb_iast (j := (M 118 26).toNatClampNeg) dX12_clause_116 rfl hi9 rfl ?_
    refine wa_aload_n dX12_clause_117 0 rfl rfl ?_
    obtain ⟨Q1, hM9, hF⟩ := hF
    refine wa_callV [] dX12_clause_118 (mmX12_next _ _) mlX12_212 mnX12_next mseX12_next rfl rfl rfl rfl (a_dlt d) rfl rfl hM9 ?_
    rintro r9 M1 P9 ⟨rfl, rfl, hq9⟩
    replace hF := hF M1 hq9
    simp only [Option.toList, List.nil_append]
    refine wa_aload_n dX12_clause_121 0 rfl rfl ?_
    refine wb_geti (v := M1 118 27) dX12_clause_122 fkX12_231 rfl rfl rfl ?_
    refine wa_iconst (v := 2) dX12_clause_125 rfl ?_
    refine wa_icmp_le (tgt := 138) dX12_clause_126 rfl (fun hc => ?_) (fun hc => ?_)
    · replace hF := hF.1 hc
      exact hF
    · replace hF := hF.2 hc
      refine wa_aload_n dX12_clause_129 0 rfl rfl ?_
      refine wb_geti (v := M1 118 27) dX12_clause_130 fkX12_231 rfl rfl rfl ?_
      refine wa_bipush (v := 6) dX12_clause_133 rfl ?_
      refine wa_icmp_ne (tgt := 149) dX12_clause_135 rfl (fun hc => ?_) (fun hc => ?_)
      · replace hF := hF.1 hc
        refine wa_aload_n dX12_clause_149 0 rfl rfl ?_
        refine wb_geti (v := M1 118 27) dX12_clause_150 fkX12_231 rfl rfl rfl ?_
        refine wa_iconst (v := 4) dX12_clause_153 rfl ?_
        refine wa_icmp_ne (tgt := 173) dX12_clause_154 rfl (fun hc => ?_) (fun hc => ?_)
        · replace hF := hF.1 hc
          exact hF
        · replace hF := hF.2 hc
          refine wa_aload_n dX12_clause_157 0 rfl rfl ?_
          refine wa_getr (r := 133) dX12_clause_158 fkX12_60 rfl rfl rfl ?_
          refine wa_aload_n dX12_clause_161 0 rfl rfl ?_
          refine wb_geti (v := M1 118 26) dX12_clause_162 fkX12_252 rfl rfl rfl ?_
          refine wa_aload_n dX12_clause_165 0 rfl rfl ?_
          refine wa_iconst (v := 0) dX12_clause_166 rfl ?_
          refine wa_bipush (v := 6) dX12_clause_167 rfl ?_
          obtain ⟨Q2, hM9, hF⟩ := hF
          refine wa_callV [.int 0, .int 6] dX12_clause_169 (mmX12_number _ _) mlX12_258 mnX12_number mseX12_number rfl rfl rfl rfl (a_dlt d) rfl rfl hM9 ?_
          rintro r9 M2 P9 ⟨v2, rfl, rfl, hq9⟩
          replace hF := hF v2 M2 hq9
          simp only [Option.toList, List.cons_append, List.nil_append]
          obtain ⟨hi9, hF⟩ := hF
          refine wb_iast (j := (M1 118 26).toNatClampNeg) dX12_clause_172 rfl hi9 rfl ?_
          exact hF
      · replace hF := hF.2 hc
        exact hF
  · replace hF := hF.2 hc
    exact wa_vret dX12_clause_80 rfl hF

theorem bX12_clause_138 {X : a_X} {ad : Nat → Nat} {ca : Nat → ClassId} {d : Nat} {Post : Option Value → a_M → a_P → Prop} {x : Nat} {M : a_M}   (hF : (∃ Q1 : a_M → Prop, Mt X ad ca LY d yX12_opensFrame cX12_opensFrame 2 none [.ref 118, .int 1] M (PT x) (q_v (PT x) Q1) ∧ ∀ M1, Q1 M1 → Post none (ms M1 118 25 1) (PT x))) : WA X ad ca LY RX12 cX12_clause 1 none (d + 1) 0 0 (a_E X ad ca LY Post) 138 [(0, .ref 118)] [] M (PT x) := by
  refine wa_aload_n dX12_clause_138 0 rfl rfl ?_
  refine wa_iconst (v := 1) dX12_clause_139 rfl ?_
  obtain ⟨Q1, hM9, hF⟩ := hF
  refine wa_callV [.int 1] dX12_clause_140 (mmX12_opensFrame _ _) mlX12_209 mnX12_opensFrame mseX12_opensFrame rfl rfl rfl rfl (a_dlt d) rfl rfl hM9 ?_
  rintro r9 M1 P9 ⟨rfl, rfl, hq9⟩
  replace hF := hF M1 hq9
  simp only [Option.toList, List.nil_append]
  refine wa_aload_n dX12_clause_143 0 rfl rfl ?_
  refine wa_iconst (v := 1) dX12_clause_144 rfl ?_
  refine wb_puti dX12_clause_145 fkX12_243 fmX12_25 rfl rfl ?_
  exact wa_vret dX12_clause_148 rfl hF

theorem bX12_clause_173 {X : a_X} {ad : Nat → Nat} {ca : Nat → ClassId} {d : Nat} {kc ks : Nat} {QF : List Frame → Array Value → State → State → Prop} {x : Nat} {M : a_M}   (hF : ((¬ (M 118 17) = 0 → WA X ad ca LY RX12 cX12_clause 1 none (d + 1) kc ks QF 194 [(0, .ref 118)] [] M (PT x)) ∧ ((M 118 17) = 0 → (∃ Q1 : Int32 → a_M → Prop, Mt X ad ca LY d yX12_isSign cX12_isSign 2 (some FieldType.boolean) [.ref 118, .int 59] M (PT x) (q_i (PT x) Q1) ∧ ∀ v1 M1, Q1 v1 M1 → ((¬ v1 = 0 → WA X ad ca LY RX12 cX12_clause 1 none (d + 1) kc ks QF 194 [(0, .ref 118)] [] M1 (PT x)) ∧ (v1 = 0 → (∃ Q2 : a_M → Prop, Mt X ad ca LY d yX12_errs cX12_errs 2 none [.ref 118, .int 1] M1 (PT x) (q_v (PT x) Q2) ∧ ∀ M2, Q2 M2 → WA X ad ca LY RX12 cX12_clause 1 none (d + 1) kc ks QF 194 [(0, .ref 118)] [] M2 (PT x)))))))) : WA X ad ca LY RX12 cX12_clause 1 none (d + 1) kc ks QF 173 [(0, .ref 118)] [] M (PT x) := by
  refine wa_aload_n dX12_clause_173 0 rfl rfl ?_
  refine wb_geti (v := M 118 17) dX12_clause_174 fkX12_191 rfl rfl rfl ?_
  refine wa_if_ne (tgt := 194) dX12_clause_177 rfl (fun hc => ?_) (fun hc => ?_)
  · replace hF := hF.1 hc
    exact hF
  · replace hF := hF.2 hc
    refine wa_aload_n dX12_clause_180 0 rfl rfl ?_
    refine wa_bipush (v := 59) dX12_clause_181 rfl ?_
    obtain ⟨Q1, hM9, hF⟩ := hF
    refine wa_callV [.int 59] dX12_clause_183 (mmX12_isSign _ _) mlX12_234 mnX12_isSign mseX12_isSign rfl rfl rfl rfl (a_dlt d) rfl rfl hM9 ?_
    rintro r9 M1 P9 ⟨v1, rfl, rfl, hq9⟩
    replace hF := hF v1 M1 hq9
    simp only [Option.toList, List.cons_append, List.nil_append]
    refine wa_if_ne (tgt := 194) dX12_clause_186 rfl (fun hc => ?_) (fun hc => ?_)
    · replace hF := hF.1 hc
      exact hF
    · replace hF := hF.2 hc
      refine wa_aload_n dX12_clause_189 0 rfl rfl ?_
      refine wa_iconst (v := 1) dX12_clause_190 rfl ?_
      obtain ⟨Q2, hM9, hF⟩ := hF
      refine wa_callV [.int 1] dX12_clause_191 (mmX12_errs _ _) mlX12_206 mnX12_errs mseX12_errs rfl rfl rfl rfl (a_dlt d) rfl rfl hM9 ?_
      rintro r9 M2 P9 ⟨rfl, rfl, hq9⟩
      replace hF := hF M2 hq9
      simp only [Option.toList, List.nil_append]
      exact hF

theorem bX12_clause_194 {X : a_X} {ad : Nat → Nat} {ca : Nat → ClassId} {d : Nat} {Post : Option Value → a_M → a_P → Prop} {x : Nat} {M : a_M}   (hF : ((¬ (M 118 17) = 0 → Post none M (PT x)) ∧ ((M 118 17) = 0 → (∃ Q1 : a_M → Prop, Mt X ad ca LY d yX12_clauseIsOver cX12_clauseIsOver 1 none [.ref 118] M (PT x) (q_v (PT x) Q1) ∧ ∀ M1, Q1 M1 → Post none M1 (PT x))))) : WA X ad ca LY RX12 cX12_clause 1 none (d + 1) 0 0 (a_E X ad ca LY Post) 194 [(0, .ref 118)] [] M (PT x) := by
  refine wa_aload_n dX12_clause_194 0 rfl rfl ?_
  refine wb_geti (v := M 118 17) dX12_clause_195 fkX12_191 rfl rfl rfl ?_
  refine wa_if_ne (tgt := 205) dX12_clause_198 rfl (fun hc => ?_) (fun hc => ?_)
  · replace hF := hF.1 hc
    exact wa_vret dX12_clause_205 rfl hF
  · replace hF := hF.2 hc
    refine wa_aload_n dX12_clause_201 0 rfl rfl ?_
    obtain ⟨Q1, hM9, hF⟩ := hF
    refine wa_callV [] dX12_clause_202 (mmX12_clauseIsOver _ _) mlX12_249 mnX12_clauseIsOver mseX12_clauseIsOver rfl rfl rfl rfl (a_dlt d) rfl rfl hM9 ?_
    rintro r9 M1 P9 ⟨rfl, rfl, hq9⟩
    replace hF := hF M1 hq9
    simp only [Option.toList, List.nil_append]
    exact wa_vret dX12_clause_205 rfl hF

theorem eX12_clause {X : a_X} {ad : Nat → Nat} {ca : Nat → ClassId} {d : Nat} {Post : Option Value → a_M → a_P → Prop} {x : Nat} {M : a_M}  (h : WA X ad ca LY RX12 cX12_clause 1 none d 0 0 (a_E X ad ca LY Post) 0 [(0, .ref 118)] [] M (PT x)) : Mt X ad ca LY d yX12_clause cX12_clause 1 none [.ref 118] M (PT x) Post := Mt.of (lv := [(0, .ref 118)]) (by decide +kernel) rfl rfl rfl (wa_pick [0] rfl h)

theorem bX12_text_0 {X : a_X} {ad : Nat → Nat} {ca : Nat → ClassId} {d : Nat} {Post : Option Value → a_M → a_P → Prop} {x : Nat} {M : a_M}   (hF : ((¬ (M 119 5) = 4 → (∃ Q1 : a_M → Prop, Mt X ad ca LY d yX12_next cX12_next 5 none [.ref 118] (ms (ms (ms (ms (ms (ms (ms (ms (ms (ms (ms M 118 12 (M 118 3)) 118 3 0) 118 13 0) 118 17 0) 118 18 (-1)) 118 19 0) 118 20 0) 118 22 0) 118 25 4) 118 26 0) 118 31 0) (PT x) (q_v (PT x) Q1) ∧ ∀ M1, Q1 M1 → WA X ad ca LY RX12 cX12_text 3 (some FieldType.int) (d + 1) 0 0 (a_E X ad ca LY Post) 74 [(0, .ref 118)] [] M1 (PT x))) ∧ ((M 119 5) = 4 → Post (some (.int (-1))) M (PT x)))) : WA X ad ca LY RX12 cX12_text 3 (some FieldType.int) (d + 1) 0 0 (a_E X ad ca LY Post) 0 [(0, .ref 118)] [] M (PT x) := by
  refine wa_aload_n dX12_text_0 0 rfl rfl ?_
  refine wa_getr (r := 119) dX12_text_1 fkX12_7 rfl rfl rfl ?_
  refine wa_iconst (v := 5) dX12_text_4 rfl ?_
  refine wb_iald (j := 5) (v := M 119 5) dX12_text_5 rfl (by unfold vp_in; decide) rfl rfl ?_
  refine wa_iconst (v := 4) dX12_text_6 rfl ?_
  refine wa_icmp_ne (tgt := 12) dX12_text_7 rfl (fun hc => ?_) (fun hc => ?_)
  · replace hF := hF.1 hc
    refine wa_aload_n dX12_text_12 0 rfl rfl ?_
    refine wa_aload_n dX12_text_13 0 rfl rfl ?_
    refine wb_geti (v := M 118 3) dX12_text_14 fkX12_139 rfl rfl rfl ?_
    refine wb_puti dX12_text_17 fkX12_169 fmX12_12 rfl rfl ?_
    refine wa_aload_n dX12_text_20 0 rfl rfl ?_
    refine wa_iconst (v := 0) dX12_text_21 rfl ?_
    refine wb_puti dX12_text_22 fkX12_139 fmX12_3 rfl rfl ?_
    refine wa_aload_n dX12_text_25 0 rfl rfl ?_
    refine wa_iconst (v := 0) dX12_text_26 rfl ?_
    refine wb_puti dX12_text_27 fkX12_166 fmX12_13 rfl rfl ?_
    refine wa_aload_n dX12_text_30 0 rfl rfl ?_
    refine wa_iconst (v := 0) dX12_text_31 rfl ?_
    refine wb_puti dX12_text_32 fkX12_191 fmX12_17 rfl rfl ?_
    refine wa_aload_n dX12_text_35 0 rfl rfl ?_
    refine wa_iconst (v := (-1)) dX12_text_36 rfl ?_
    refine wb_puti dX12_text_37 fkX12_194 fmX12_18 rfl rfl ?_
    refine wa_aload_n dX12_text_40 0 rfl rfl ?_
    refine wa_iconst (v := 0) dX12_text_41 rfl ?_
    refine wb_puti dX12_text_42 fkX12_203 fmX12_19 rfl rfl ?_
    refine wa_aload_n dX12_text_45 0 rfl rfl ?_
    refine wa_iconst (v := 0) dX12_text_46 rfl ?_
    refine wb_puti dX12_text_47 fkX12_200 fmX12_20 rfl rfl ?_
    refine wa_aload_n dX12_text_50 0 rfl rfl ?_
    refine wa_iconst (v := 0) dX12_text_51 rfl ?_
    refine wb_puti dX12_text_52 fkX12_214 fmX12_22 rfl rfl ?_
    refine wa_aload_n dX12_text_55 0 rfl rfl ?_
    refine wa_iconst (v := 4) dX12_text_56 rfl ?_
    refine wb_puti dX12_text_57 fkX12_243 fmX12_25 rfl rfl ?_
    refine wa_aload_n dX12_text_60 0 rfl rfl ?_
    refine wa_iconst (v := 0) dX12_text_61 rfl ?_
    refine wb_puti dX12_text_62 fkX12_252 fmX12_26 rfl rfl ?_
    refine wa_aload_n dX12_text_65 0 rfl rfl ?_
    refine wa_iconst (v := 0) dX12_text_66 rfl ?_
    refine wb_puti dX12_text_67 fkX12_197 fmX12_31 rfl rfl ?_
    refine wa_aload_n dX12_text_70 0 rfl rfl ?_
    obtain ⟨Q1, hM9, hF⟩ := hF
    refine wa_callV [] dX12_text_71 (mmX12_next _ _) mlX12_212 mnX12_next mseX12_next rfl rfl rfl rfl (a_dlt d) rfl rfl hM9 ?_
    rintro r9 M1 P9 ⟨rfl, rfl, hq9⟩
    replace hF := hF M1 hq9
    simp only [Option.toList, List.nil_append]
    exact hF
  · replace hF := hF.2 hc
    refine wa_iconst (v := (-1)) dX12_text_10 rfl ?_
    exact wa_iret dX12_text_11 rfl rfl hF

theorem bX12_text_74 {X : a_X} {ad : Nat → Nat} {ca : Nat → ClassId} {d : Nat} {kc ks : Nat} {QF : List Frame → Array Value → State → State → Prop} {x : Nat} {M : a_M}   (hF : ((¬ (M 118 17) = 0 → WA X ad ca LY RX12 cX12_text 3 (some FieldType.int) (d + 1) kc ks QF 149 [(0, .ref 118)] [] M (PT x)) ∧ ((M 118 17) = 0 → ((¬ (M 118 25) = 4 → WA X ad ca LY RX12 cX12_text 3 (some FieldType.int) (d + 1) kc ks QF 96 [(0, .ref 118)] [] M (PT x)) ∧ ((M 118 25) = 4 → (((M 118 15) = 0 → WA X ad ca LY RX12 cX12_text 3 (some FieldType.int) (d + 1) kc ks QF 149 [(0, .ref 118)] [] M (PT x)) ∧ (¬ (M 118 15) = 0 → WA X ad ca LY RX12 cX12_text 3 (some FieldType.int) (d + 1) kc ks QF 96 [(0, .ref 118)] [] M (PT x)))))))) : WA X ad ca LY RX12 cX12_text 3 (some FieldType.int) (d + 1) kc ks QF 74 [(0, .ref 118)] [] M (PT x) := by
  refine wa_aload_n dX12_text_74 0 rfl rfl ?_
  refine wb_geti (v := M 118 17) dX12_text_75 fkX12_191 rfl rfl rfl ?_
  refine wa_if_ne (tgt := 149) dX12_text_78 rfl (fun hc => ?_) (fun hc => ?_)
  · replace hF := hF.1 hc
    exact hF
  · replace hF := hF.2 hc
    refine wa_aload_n dX12_text_81 0 rfl rfl ?_
    refine wb_geti (v := M 118 25) dX12_text_82 fkX12_243 rfl rfl rfl ?_
    refine wa_iconst (v := 4) dX12_text_85 rfl ?_
    refine wa_icmp_ne (tgt := 96) dX12_text_86 rfl (fun hc => ?_) (fun hc => ?_)
    · replace hF := hF.1 hc
      exact hF
    · replace hF := hF.2 hc
      refine wa_aload_n dX12_text_89 0 rfl rfl ?_
      refine wb_geti (v := M 118 15) dX12_text_90 fkX12_175 rfl rfl rfl ?_
      refine wa_if_eq (tgt := 149) dX12_text_93 rfl (fun hc => ?_) (fun hc => ?_)
      · replace hF := hF.1 hc
        exact hF
      · replace hF := hF.2 hc
        exact hF

theorem bX12_text_96 {X : a_X} {ad : Nat → Nat} {ca : Nat → ClassId} {d : Nat} {kc ks : Nat} {QF : List Frame → Array Value → State → State → Prop} {x : Nat} {M : a_M}   (hF : (((M 118 25) = 1 → (∃ Q1 : a_M → Prop, Mt X ad ca LY d yX12_begins cX12_begins 2 none [.ref 118] M (PT x) (q_v (PT x) Q1) ∧ ∀ M1, Q1 M1 → WA X ad ca LY RX12 cX12_text 3 (some FieldType.int) (d + 1) kc ks QF 74 [(0, .ref 118)] [] M1 (PT x))) ∧ ((M 118 25) = 2 → (∃ Q2 : a_M → Prop, Mt X ad ca LY d yX12_goesOn cX12_goesOn 2 none [.ref 118] M (PT x) (q_v (PT x) Q2) ∧ ∀ M2, Q2 M2 → WA X ad ca LY RX12 cX12_text 3 (some FieldType.int) (d + 1) kc ks QF 74 [(0, .ref 118)] [] M2 (PT x))) ∧ (¬ (M 118 25) = 1 ∧ ¬ (M 118 25) = 2 → (∃ Q3 : a_M → Prop, Mt X ad ca LY d yX12_clause cX12_clause 1 none [.ref 118] M (PT x) (q_v (PT x) Q3) ∧ ∀ M3, Q3 M3 → WA X ad ca LY RX12 cX12_text 3 (some FieldType.int) (d + 1) kc ks QF 74 [(0, .ref 118)] [] M3 (PT x))))) : WA X ad ca LY RX12 cX12_text 3 (some FieldType.int) (d + 1) kc ks QF 96 [(0, .ref 118)] [] M (PT x) := by
  refine wa_aload_n dX12_text_96 0 rfl rfl ?_
  refine wb_geti (v := M 118 25) dX12_text_97 fkX12_243 rfl rfl rfl ?_
  by_cases hk0 : (M 118 25) = 1
  · replace hF := hF.1 hk0
    rw [hk0]
    refine wa_lookup (off := 28) (tgt := 128) dX12_text_100 (by decide) rfl rfl ?_
    refine wa_aload_n dX12_text_128 0 rfl rfl ?_
    obtain ⟨Q1, hM9, hF⟩ := hF
    refine wa_callV [] dX12_text_129 (mmX12_begins _ _) mlX12_262 mnX12_begins mseX12_begins rfl rfl rfl rfl (a_dlt d) rfl rfl hM9 ?_
    rintro r9 M1 P9 ⟨rfl, rfl, hq9⟩
    replace hF := hF M1 hq9
    simp only [Option.toList, List.nil_append]
    refine wa_goto (tgt := 74) dX12_text_132 rfl ?_
    exact hF
  replace hF := hF.2
  by_cases hk1 : (M 118 25) = 2
  · replace hF := hF.1 hk1
    rw [hk1]
    refine wa_lookup (off := 35) (tgt := 135) dX12_text_100 (by decide) rfl rfl ?_
    refine wa_aload_n dX12_text_135 0 rfl rfl ?_
    obtain ⟨Q2, hM9, hF⟩ := hF
    refine wa_callV [] dX12_text_136 (mmX12_goesOn _ _) mlX12_265 mnX12_goesOn mseX12_goesOn rfl rfl rfl rfl (a_dlt d) rfl rfl hM9 ?_
    rintro r9 M2 P9 ⟨rfl, rfl, hq9⟩
    replace hF := hF M2 hq9
    simp only [Option.toList, List.nil_append]
    refine wa_goto (tgt := 74) dX12_text_139 rfl ?_
    exact hF
  replace hF := hF.2
  have ht0 : (M 118 25).toInt ≠ 1 := a_ti hk0
  have ht1 : (M 118 25).toInt ≠ 2 := a_ti hk1
  replace hF := hF ⟨hk0, hk1⟩
  refine wa_lookup (off := 42) (tgt := 142) dX12_text_100 (by decide) (by simp [Op.lookupswitch.offset, ht0, ht1, Ne.symm ht0, Ne.symm ht1]) rfl ?_
  refine wa_aload_n dX12_text_142 0 rfl rfl ?_
  obtain ⟨Q3, hM9, hF⟩ := hF
  refine wa_callV [] dX12_text_143 (mmX12_clause _ _) mlX12_268 mnX12_clause mseX12_clause rfl rfl rfl rfl (a_dlt d) rfl rfl hM9 ?_
  rintro r9 M3 P9 ⟨rfl, rfl, hq9⟩
  replace hF := hF M3 hq9
  simp only [Option.toList, List.nil_append]
  refine wa_goto (tgt := 74) dX12_text_146 rfl ?_
  exact hF

theorem bX12_text_149 {X : a_X} {ad : Nat → Nat} {ca : Nat → ClassId} {d : Nat} {Post : Option Value → a_M → a_P → Prop} {x : Nat} {M : a_M}   (hF : (((M 118 17) ≤ 0 → (vp_in (M 119 5) 4 ∧ WA X ad ca LY RX12 cX12_text 3 (some FieldType.int) (d + 1) 0 0 (a_E X ad ca LY Post) 193 [(0, .ref 118), (1, .int (M 119 5)), (2, .int 0)] [] (ms (ms (ms M 118 4 (M 118 17)) 118 5 (M 118 18)) 122 ((M 119 5).toNatClampNeg) (M 118 26)) (PT x))) ∧ (¬ (M 118 17) ≤ 0 → Post (some (.int (-1))) (ms (ms M 118 4 (M 118 17)) 118 5 (M 118 18)) (PT x)))) : WA X ad ca LY RX12 cX12_text 3 (some FieldType.int) (d + 1) 0 0 (a_E X ad ca LY Post) 149 [(0, .ref 118)] [] M (PT x) := by
  refine wa_aload_n dX12_text_149 0 rfl rfl ?_
  refine wa_aload_n dX12_text_150 0 rfl rfl ?_
  refine wb_geti (v := M 118 17) dX12_text_151 fkX12_191 rfl rfl rfl ?_
  refine wb_puti dX12_text_154 fkX12_20 fmX12_4 rfl rfl ?_
  refine wa_aload_n dX12_text_157 0 rfl rfl ?_
  refine wa_aload_n dX12_text_158 0 rfl rfl ?_
  refine wb_geti (v := M 118 18) dX12_text_159 fkX12_194 rfl rfl ((ms_no M 118 4 (M 118 17) 118 18 (fun h9 => absurd h9.2 (by decide))).trans rfl) ?_
  refine wb_puti dX12_text_162 fkX12_24 fmX12_5 rfl rfl ?_
  refine wa_aload_n dX12_text_165 0 rfl rfl ?_
  refine wb_geti (v := M 118 17) dX12_text_166 fkX12_191 rfl rfl ((ms_no (ms M 118 4 (M 118 17)) 118 5 (M 118 18) 118 17 (fun h9 => absurd h9.2 (by decide))).trans ((ms_no M 118 4 (M 118 17) 118 17 (fun h9 => absurd h9.2 (by decide))).trans rfl)) ?_
  refine wa_if_le (tgt := 174) dX12_text_169 rfl (fun hc => ?_) (fun hc => ?_)
  · replace hF := hF.1 hc
    refine wa_aload_n dX12_text_174 0 rfl rfl ?_
    refine wa_getr (r := 119) dX12_text_175 fkX12_7 rfl rfl rfl ?_
    refine wa_iconst (v := 5) dX12_text_178 rfl ?_
    refine wb_iald (j := 5) (v := M 119 5) dX12_text_179 rfl (by unfold vp_in; decide) rfl ((ms_no (ms M 118 4 (M 118 17)) 118 5 (M 118 18) 119 5 (fun h9 => absurd h9.1 (by decide))).trans ((ms_no M 118 4 (M 118 17) 119 5 (fun h9 => absurd h9.1 (by decide))).trans rfl)) ?_
    refine wa_istore_n (lv' := [(1, .int (M 119 5)), (0, .ref 118)]) dX12_text_180 rfl rfl rfl ?_
    refine wa_aload_n dX12_text_181 1 rfl rfl ?_
    refine wa_getr (r := 122) dX12_text_182 fkX12_27 rfl rfl rfl ?_
    refine wa_iload_n dX12_text_185 0 rfl rfl ?_
    refine wa_aload_n dX12_text_186 1 rfl rfl ?_
    refine wb_geti (v := M 118 26) dX12_text_187 fkX12_252 rfl rfl ((ms_no (ms M 118 4 (M 118 17)) 118 5 (M 118 18) 118 26 (fun h9 => absurd h9.2 (by decide))).trans ((ms_no M 118 4 (M 118 17) 118 26 (fun h9 => absurd h9.2 (by decide))).trans rfl)) ?_
    obtain ⟨hi9, hF⟩ := hF
    refine wb_iast (j := (M 119 5).toNatClampNeg) dX12_text_190 rfl hi9 rfl ?_
    refine wa_iconst (v := 0) dX12_text_191 rfl ?_
    refine wa_istore_n (lv' := [(2, .int 0), (1, .int (M 119 5)), (0, .ref 118)]) dX12_text_192 rfl rfl rfl ?_
    exact wa_pick [2, 1, 0] rfl hF
  · replace hF := hF.2 hc
    refine wa_iconst (v := (-1)) dX12_text_172 rfl ?_
    exact wa_iret dX12_text_173 rfl rfl hF

theorem bX12_text_193 {X : a_X} {ad : Nat → Nat} {ca : Nat → ClassId} {d : Nat} {kc ks : Nat} {QF : List Frame → Array Value → State → State → Prop} {x : Nat} {M : a_M} (x1 : Int32) (x2 : Int32)  (hF : (((M 118 26) ≤ x2 → WA X ad ca LY RX12 cX12_text 3 (some FieldType.int) (d + 1) kc ks QF 266 [(0, .ref 118), (1, .int x1), (2, .int 0)] [] M (PT x)) ∧ (¬ (M 118 26) ≤ x2 → (vp_in x2 30 ∧ (vp_in ((30 * x1) + x2) 120 ∧ (vp_in x2 30 ∧ (vp_in ((30 * x1) + x2) 120 ∧ (vp_in x2 30 ∧ (vp_in ((30 * x1) + x2) 120 ∧ WA X ad ca LY RX12 cX12_text 3 (some FieldType.int) (d + 1) kc ks QF 193 [(0, .ref 118), (1, .int x1), (2, .int (x2 + 1))] [] (ms (ms (ms M 123 (((30 * x1) + x2).toNatClampNeg) (M 131 x2.toNatClampNeg)) 124 (((30 * x1) + x2).toNatClampNeg) ((400 * x1) + (M 132 x2.toNatClampNeg))) 125 (((30 * x1) + x2).toNatClampNeg) (M 133 x2.toNatClampNeg)) (PT x)))))))))) : WA X ad ca LY RX12 cX12_text 3 (some FieldType.int) (d + 1) kc ks QF 193 [(0, .ref 118), (1, .int x1), (2, .int x2)] [] M (PT x) := by
  refine wa_iload_n dX12_text_193 2 rfl rfl ?_
  refine wa_aload_n dX12_text_194 0 rfl rfl ?_
  refine wb_geti (v := M 118 26) dX12_text_195 fkX12_252 rfl rfl rfl ?_
  refine wa_icmp_ge (tgt := 264) dX12_text_198 rfl (fun hc => ?_) (fun hc => ?_)
  · replace hF := hF.1 hc
    refine wa_iconst (v := 0) dX12_text_264 rfl ?_
    refine wa_istore_n (lv' := [(2, .int 0), (0, .ref 118), (1, .int x1)]) dX12_text_265 rfl rfl rfl ?_
    exact wa_pick [1, 2, 0] rfl hF
  · replace hF := hF.2 hc
    refine wa_aload_n dX12_text_201 0 rfl rfl ?_
    refine wa_getr (r := 123) dX12_text_202 fkX12_30 rfl rfl rfl ?_
    refine wa_bipush (v := 30) dX12_text_205 rfl ?_
    refine wa_iload_n dX12_text_207 1 rfl rfl ?_
    refine wa_imul dX12_text_208 ?_
    refine wa_iload_n dX12_text_209 2 rfl rfl ?_
    refine wa_iadd dX12_text_210 ?_
    refine wa_aload_n dX12_text_211 0 rfl rfl ?_
    refine wa_getr (r := 131) dX12_text_212 fkX12_54 rfl rfl rfl ?_
    refine wa_iload_n dX12_text_215 2 rfl rfl ?_
    obtain ⟨hi9, hF⟩ := hF
    refine wb_iald (j := x2.toNatClampNeg) (v := M 131 x2.toNatClampNeg) dX12_text_216 rfl hi9 rfl rfl ?_
    obtain ⟨hi9, hF⟩ := hF
    refine wb_iast (j := ((30 * x1) + x2).toNatClampNeg) dX12_text_217 rfl hi9 rfl ?_
    refine wa_aload_n dX12_text_218 0 rfl rfl ?_
    refine wa_getr (r := 124) dX12_text_219 fkX12_33 rfl rfl rfl ?_
    refine wa_bipush (v := 30) dX12_text_222 rfl ?_
    refine wa_iload_n dX12_text_224 1 rfl rfl ?_
    refine wa_imul dX12_text_225 ?_
    refine wa_iload_n dX12_text_226 2 rfl rfl ?_
    refine wa_iadd dX12_text_227 ?_
    refine wa_sipush (v := 400) dX12_text_228 rfl ?_
    refine wa_iload_n dX12_text_231 1 rfl rfl ?_
    refine wa_imul dX12_text_232 ?_
    refine wa_aload_n dX12_text_233 0 rfl rfl ?_
    refine wa_getr (r := 132) dX12_text_234 fkX12_57 rfl rfl rfl ?_
    refine wa_iload_n dX12_text_237 2 rfl rfl ?_
    obtain ⟨hi9, hF⟩ := hF
    refine wb_iald (j := x2.toNatClampNeg) (v := M 132 x2.toNatClampNeg) dX12_text_238 rfl hi9 rfl ((ms_no M 123 (((30 * x1) + x2).toNatClampNeg) (M 131 x2.toNatClampNeg) 132 x2.toNatClampNeg (fun h9 => absurd h9.1 (by decide))).trans rfl) ?_
    refine wa_iadd dX12_text_239 ?_
    obtain ⟨hi9, hF⟩ := hF
    refine wb_iast (j := ((30 * x1) + x2).toNatClampNeg) dX12_text_240 rfl hi9 rfl ?_
    refine wa_aload_n dX12_text_241 0 rfl rfl ?_
    refine wa_getr (r := 125) dX12_text_242 fkX12_36 rfl rfl rfl ?_
    refine wa_bipush (v := 30) dX12_text_245 rfl ?_
    refine wa_iload_n dX12_text_247 1 rfl rfl ?_
    refine wa_imul dX12_text_248 ?_
    refine wa_iload_n dX12_text_249 2 rfl rfl ?_
    refine wa_iadd dX12_text_250 ?_
    refine wa_aload_n dX12_text_251 0 rfl rfl ?_
    refine wa_getr (r := 133) dX12_text_252 fkX12_60 rfl rfl rfl ?_
    refine wa_iload_n dX12_text_255 2 rfl rfl ?_
    obtain ⟨hi9, hF⟩ := hF
    refine wb_iald (j := x2.toNatClampNeg) (v := M 133 x2.toNatClampNeg) dX12_text_256 rfl hi9 rfl ((ms_no (ms M 123 (((30 * x1) + x2).toNatClampNeg) (M 131 x2.toNatClampNeg)) 124 (((30 * x1) + x2).toNatClampNeg) ((400 * x1) + (M 132 x2.toNatClampNeg)) 133 x2.toNatClampNeg (fun h9 => absurd h9.1 (by decide))).trans ((ms_no M 123 (((30 * x1) + x2).toNatClampNeg) (M 131 x2.toNatClampNeg) 133 x2.toNatClampNeg (fun h9 => absurd h9.1 (by decide))).trans rfl)) ?_
    obtain ⟨hi9, hF⟩ := hF
    refine wb_iast (j := ((30 * x1) + x2).toNatClampNeg) dX12_text_257 rfl hi9 rfl ?_
    refine wa_iinc (v := x2 + 1) (lv' := [(2, .int (x2 + 1)), (0, .ref 118), (1, .int x1)]) dX12_text_258 2 rfl rfl rfl rfl ?_
    refine wa_goto (tgt := 193) dX12_text_261 rfl ?_
    exact wa_pick [1, 2, 0] rfl hF

theorem bX12_text_266 {X : a_X} {ad : Nat → Nat} {ca : Nat → ClassId} {d : Nat} {Post : Option Value → a_M → a_P → Prop} {x : Nat} {M : a_M} (x1 : Int32) (x2 : Int32)  (hF : (((M 118 31) ≤ x2 → Post (some (.int x1)) (ms M 119 5 ((M 119 5) + 1)) (PT x)) ∧ (¬ (M 118 31) ≤ x2 → (vp_in x2 400 ∧ (vp_in ((400 * x1) + x2) 1600 ∧ (vp_in x2 400 ∧ (vp_in ((400 * x1) + x2) 1600 ∧ WA X ad ca LY RX12 cX12_text 3 (some FieldType.int) (d + 1) 0 0 (a_E X ad ca LY Post) 266 [(0, .ref 118), (1, .int x1), (2, .int (x2 + 1))] [] (ms (ms M 126 (((400 * x1) + x2).toNatClampNeg) (M 134 x2.toNatClampNeg)) 127 (((400 * x1) + x2).toNatClampNeg) (M 135 x2.toNatClampNeg)) (PT x)))))))) : WA X ad ca LY RX12 cX12_text 3 (some FieldType.int) (d + 1) 0 0 (a_E X ad ca LY Post) 266 [(0, .ref 118), (1, .int x1), (2, .int x2)] [] M (PT x) := by
  refine wa_iload_n dX12_text_266 2 rfl rfl ?_
  refine wa_aload_n dX12_text_267 0 rfl rfl ?_
  refine wb_geti (v := M 118 31) dX12_text_268 fkX12_197 rfl rfl rfl ?_
  refine wa_icmp_ge (tgt := 316) dX12_text_271 rfl (fun hc => ?_) (fun hc => ?_)
  · replace hF := hF.1 hc
    refine wa_aload_n dX12_text_316 0 rfl rfl ?_
    refine wa_getr (r := 119) dX12_text_317 fkX12_7 rfl rfl rfl ?_
    refine wa_iconst (v := 5) dX12_text_320 rfl ?_
    refine wa_dup2 dX12_text_321 rfl rfl ?_
    refine wb_iald (j := 5) (v := M 119 5) dX12_text_322 rfl (by unfold vp_in; decide) rfl rfl ?_
    refine wa_iconst (v := 1) dX12_text_323 rfl ?_
    refine wa_iadd dX12_text_324 ?_
    refine wb_iast (j := 5) dX12_text_325 rfl (by unfold vp_in; decide) rfl ?_
    refine wa_iload_n dX12_text_326 1 rfl rfl ?_
    exact wa_iret dX12_text_327 rfl rfl hF
  · replace hF := hF.2 hc
    refine wa_aload_n dX12_text_274 0 rfl rfl ?_
    refine wa_getr (r := 126) dX12_text_275 fkX12_39 rfl rfl rfl ?_
    refine wa_sipush (v := 400) dX12_text_278 rfl ?_
    refine wa_iload_n dX12_text_281 1 rfl rfl ?_
    refine wa_imul dX12_text_282 ?_
    refine wa_iload_n dX12_text_283 2 rfl rfl ?_
    refine wa_iadd dX12_text_284 ?_
    refine wa_aload_n dX12_text_285 0 rfl rfl ?_
    refine wa_getr (r := 134) dX12_text_286 fkX12_63 rfl rfl rfl ?_
    refine wa_iload_n dX12_text_289 2 rfl rfl ?_
    obtain ⟨hi9, hF⟩ := hF
    refine wb_iald (j := x2.toNatClampNeg) (v := M 134 x2.toNatClampNeg) dX12_text_290 rfl hi9 rfl rfl ?_
    obtain ⟨hi9, hF⟩ := hF
    refine wb_iast (j := ((400 * x1) + x2).toNatClampNeg) dX12_text_291 rfl hi9 rfl ?_
    refine wa_aload_n dX12_text_292 0 rfl rfl ?_
    refine wa_getr (r := 127) dX12_text_293 fkX12_42 rfl rfl rfl ?_
    refine wa_sipush (v := 400) dX12_text_296 rfl ?_
    refine wa_iload_n dX12_text_299 1 rfl rfl ?_
    refine wa_imul dX12_text_300 ?_
    refine wa_iload_n dX12_text_301 2 rfl rfl ?_
    refine wa_iadd dX12_text_302 ?_
    refine wa_aload_n dX12_text_303 0 rfl rfl ?_
    refine wa_getr (r := 135) dX12_text_304 fkX12_66 rfl rfl rfl ?_
    refine wa_iload_n dX12_text_307 2 rfl rfl ?_
    obtain ⟨hi9, hF⟩ := hF
    refine wb_iald (j := x2.toNatClampNeg) (v := M 135 x2.toNatClampNeg) dX12_text_308 rfl hi9 rfl ((ms_no M 126 (((400 * x1) + x2).toNatClampNeg) (M 134 x2.toNatClampNeg) 135 x2.toNatClampNeg (fun h9 => absurd h9.1 (by decide))).trans rfl) ?_
    obtain ⟨hi9, hF⟩ := hF
    refine wb_iast (j := ((400 * x1) + x2).toNatClampNeg) dX12_text_309 rfl hi9 rfl ?_
    refine wa_iinc (v := x2 + 1) (lv' := [(2, .int (x2 + 1)), (0, .ref 118), (1, .int x1)]) dX12_text_310 2 rfl rfl rfl rfl ?_
    refine wa_goto (tgt := 266) dX12_text_313 rfl ?_
    exact wa_pick [1, 2, 0] rfl hF

theorem eX12_text {X : a_X} {ad : Nat → Nat} {ca : Nat → ClassId} {d : Nat} {Post : Option Value → a_M → a_P → Prop} {x : Nat} {M : a_M}  (h : WA X ad ca LY RX12 cX12_text 3 (some FieldType.int) d 0 0 (a_E X ad ca LY Post) 0 [(0, .ref 118)] [] M (PT x)) : Mt X ad ca LY d yX12_text cX12_text 3 (some FieldType.int) [.ref 118] M (PT x) Post := Mt.of (lv := [(0, .ref 118)]) (by decide +kernel) rfl rfl rfl (wa_pick [0] rfl h)

theorem bX12_fault_0 {X : a_X} {ad : Nat → Nat} {ca : Nat → ClassId} {d : Nat} {Post : Option Value → a_M → a_P → Prop} {x : Nat} {M : a_M} (x1 : Int32)  (hF : ((¬ x1 = 0 → ((¬ x1 = 1 → Post (some (.int (-1))) M (PT x)) ∧ (x1 = 1 → Post (some (.int (M 118 5))) M (PT x)))) ∧ (x1 = 0 → Post (some (.int (M 118 4))) M (PT x)))) : WA X ad ca LY RX12 cX12_fault 2 (some FieldType.int) (d + 1) 0 0 (a_E X ad ca LY Post) 0 [(0, .ref 118), (1, .int x1)] [] M (PT x) := by
  refine wa_iload_n dX12_fault_0 1 rfl rfl ?_
  refine wa_if_ne (tgt := 11) dX12_fault_1 rfl (fun hc => ?_) (fun hc => ?_)
  · replace hF := hF.1 hc
    refine wa_iload_n dX12_fault_11 1 rfl rfl ?_
    refine wa_iconst (v := 1) dX12_fault_12 rfl ?_
    refine wa_icmp_ne (tgt := 23) dX12_fault_13 rfl (fun hc => ?_) (fun hc => ?_)
    · replace hF := hF.1 hc
      refine wa_iconst (v := (-1)) dX12_fault_23 rfl ?_
      exact wa_iret dX12_fault_24 rfl rfl hF
    · replace hF := hF.2 hc
      refine wa_aload_n dX12_fault_16 0 rfl rfl ?_
      refine wb_geti (v := M 118 5) dX12_fault_17 fkX12_24 rfl rfl rfl ?_
      refine wa_goto (tgt := 24) dX12_fault_20 rfl ?_
      exact wa_iret dX12_fault_24 rfl rfl hF
  · replace hF := hF.2 hc
    refine wa_aload_n dX12_fault_4 0 rfl rfl ?_
    refine wb_geti (v := M 118 4) dX12_fault_5 fkX12_20 rfl rfl rfl ?_
    refine wa_goto (tgt := 24) dX12_fault_8 rfl ?_
    exact wa_iret dX12_fault_24 rfl rfl hF

theorem eX12_fault {X : a_X} {ad : Nat → Nat} {ca : Nat → ClassId} {d : Nat} {Post : Option Value → a_M → a_P → Prop} {x : Nat} {M : a_M} (x1 : Int32) (h : WA X ad ca LY RX12 cX12_fault 2 (some FieldType.int) d 0 0 (a_E X ad ca LY Post) 0 [(0, .ref 118), (1, .int x1)] [] M (PT x)) : Mt X ad ca LY d yX12_fault cX12_fault 2 (some FieldType.int) [.ref 118, .int x1] M (PT x) Post := Mt.of (lv := [(0, .ref 118), (1, .int x1)]) (by decide +kernel) rfl rfl rfl (wa_pick [0, 1] rfl h)

theorem bX12_by_0 {X : a_X} {ad : Nat → Nat} {ca : Nat → ClassId} {d : Nat} {Post : Option Value → a_M → a_P → Prop} {x : Nat} {M : a_M} (x1 : Int32)  (hF : ((x1 = (-1) → WA X ad ca LY RX12 cX12_by 2 (some FieldType.boolean) (d + 1) 0 0 (a_E X ad ca LY Post) 23 [(0, .ref 118), (1, .int x1)] [] M (PT x)) ∧ (¬ x1 = (-1) → (∃ Q1 : Int32 → a_M → Prop, Mt X ad ca LY d yX12_in cX12_in 3 (some FieldType.boolean) [.int x1, .int 0, .int ((M 119 5) - 1)] M (PT x) (q_i (PT x) Q1) ∧ ∀ v1 M1, Q1 v1 M1 → ((¬ v1 = 0 → WA X ad ca LY RX12 cX12_by 2 (some FieldType.boolean) (d + 1) 0 0 (a_E X ad ca LY Post) 23 [(0, .ref 118), (1, .int x1)] [] M1 (PT x)) ∧ (v1 = 0 → Post (some (.int 0)) M1 (PT x))))))) : WA X ad ca LY RX12 cX12_by 2 (some FieldType.boolean) (d + 1) 0 0 (a_E X ad ca LY Post) 0 [(0, .ref 118), (1, .int x1)] [] M (PT x) := by
  refine wa_iload_n dX12_by_0 1 rfl rfl ?_
  refine wa_iconst (v := (-1)) dX12_by_1 rfl ?_
  refine wa_icmp_eq (tgt := 23) dX12_by_2 rfl (fun hc => ?_) (fun hc => ?_)
  · replace hF := hF.1 hc
    exact hF
  · replace hF := hF.2 hc
    refine wa_iload_n dX12_by_5 1 rfl rfl ?_
    refine wa_iconst (v := 0) dX12_by_6 rfl ?_
    refine wa_aload_n dX12_by_7 0 rfl rfl ?_
    refine wa_getr (r := 119) dX12_by_8 fkX12_7 rfl rfl rfl ?_
    refine wa_iconst (v := 5) dX12_by_11 rfl ?_
    refine wb_iald (j := 5) (v := M 119 5) dX12_by_12 rfl (by unfold vp_in; decide) rfl rfl ?_
    refine wa_iconst (v := 1) dX12_by_13 rfl ?_
    refine wa_isub dX12_by_14 ?_
    obtain ⟨Q1, hM9, hF⟩ := hF
    refine wa_callS [.int x1, .int 0, .int ((M 119 5) - 1)] dX12_by_15 (mmX12_in _ _) mlX12_124 mstX12_in rfl (a_dlt d) rfl rfl hM9 ?_
    rintro r9 M1 P9 ⟨v1, rfl, rfl, hq9⟩
    replace hF := hF v1 M1 hq9
    simp only [Option.toList, List.cons_append, List.nil_append]
    refine wa_if_ne (tgt := 23) dX12_by_18 rfl (fun hc => ?_) (fun hc => ?_)
    · replace hF := hF.1 hc
      exact hF
    · replace hF := hF.2 hc
      refine wa_iconst (v := 0) dX12_by_21 rfl ?_
      exact wa_iret dX12_by_22 rfl rfl hF

theorem bX12_by_23 {X : a_X} {ad : Nat → Nat} {ca : Nat → ClassId} {d : Nat} {Post : Option Value → a_M → a_P → Prop} {x : Nat} {M : a_M} (x1 : Int32)  (hF : Post (some (.int 1)) (ms M 119 6 x1) (PT x)) : WA X ad ca LY RX12 cX12_by 2 (some FieldType.boolean) (d + 1) 0 0 (a_E X ad ca LY Post) 23 [(0, .ref 118), (1, .int x1)] [] M (PT x) := by
  refine wa_aload_n dX12_by_23 0 rfl rfl ?_
  refine wa_getr (r := 119) dX12_by_24 fkX12_7 rfl rfl rfl ?_
  refine wa_bipush (v := 6) dX12_by_27 rfl ?_
  refine wa_iload_n dX12_by_29 1 rfl rfl ?_
  refine wb_iast (j := 6) dX12_by_30 rfl (by unfold vp_in; decide) rfl ?_
  refine wa_iconst (v := 1) dX12_by_31 rfl ?_
  exact wa_iret dX12_by_32 rfl rfl hF

theorem eX12_by {X : a_X} {ad : Nat → Nat} {ca : Nat → ClassId} {d : Nat} {Post : Option Value → a_M → a_P → Prop} {x : Nat} {M : a_M} (x1 : Int32) (h : WA X ad ca LY RX12 cX12_by 2 (some FieldType.boolean) d 0 0 (a_E X ad ca LY Post) 0 [(0, .ref 118), (1, .int x1)] [] M (PT x)) : Mt X ad ca LY d yX12_by cX12_by 2 (some FieldType.boolean) [.ref 118, .int x1] M (PT x) Post := Mt.of (lv := [(0, .ref 118), (1, .int x1)]) (by decide +kernel) rfl rfl rfl (wa_pick [0, 1] rfl h)

theorem bX12_worked_0 {X : a_X} {ad : Nat → Nat} {ca : Nat → ClassId} {d : Nat} {Post : Option Value → a_M → a_P → Prop} {x : Nat} {M : a_M} (x1 : Int32) (x2 : Int32) (x3 : Int32)  (hF : ((x1 = 42 → (¬ (M 119 2) = 0 ∧ Post (some (.int ((x2 * x3) - (x2 * x3) / (M 119 2) * (M 119 2)))) M (PT x))) ∧ (x1 = 43 → (¬ (M 119 2) = 0 ∧ Post (some (.int ((x2 + x3) - (x2 + x3) / (M 119 2) * (M 119 2)))) M (PT x))) ∧ (x1 = 44 → WA X ad ca LY RX12 cX12_worked 4 (some FieldType.int) (d + 1) 0 0 (a_E X ad ca LY Post) 72 [(0, .ref 118), (2, .int x2), (3, .int x3)] [] M (PT x)) ∧ (x1 = 45 → (¬ (M 119 2) = 0 ∧ Post (some (.int (((x2 - x3) + (M 119 2)) - ((x2 - x3) + (M 119 2)) / (M 119 2) * (M 119 2)))) M (PT x))) ∧ ((x1).toInt < 42 ∨ 45 < (x1).toInt → WA X ad ca LY RX12 cX12_worked 4 (some FieldType.int) (d + 1) 0 0 (a_E X ad ca LY Post) 72 [(0, .ref 118), (2, .int x2), (3, .int x3)] [] M (PT x)))) : WA X ad ca LY RX12 cX12_worked 4 (some FieldType.int) (d + 1) 0 0 (a_E X ad ca LY Post) 0 [(0, .ref 118), (1, .int x1), (2, .int x2), (3, .int x3)] [] M (PT x) := by
  refine wa_iload_n dX12_worked_0 1 rfl rfl ?_
  by_cases hk0 : x1 = 42
  · replace hF := hF.1 hk0
    rw [hk0]
    refine wa_tableIn (off := 60) (tgt := 61) dX12_worked_1 (by decide) (by decide) rfl rfl ?_
    refine wa_iload_n dX12_worked_61 2 rfl rfl ?_
    refine wa_iload_n dX12_worked_62 3 rfl rfl ?_
    refine wa_imul dX12_worked_63 ?_
    refine wa_aload_n dX12_worked_64 0 rfl rfl ?_
    refine wa_getr (r := 119) dX12_worked_65 fkX12_7 rfl rfl rfl ?_
    refine wa_iconst (v := 2) dX12_worked_68 rfl ?_
    refine wb_iald (j := 2) (v := M 119 2) dX12_worked_69 rfl (by unfold vp_in; decide) rfl rfl ?_
    obtain ⟨hn9, hF⟩ := hF
    refine wa_irem dX12_worked_70 hn9 ?_
    exact wa_iret dX12_worked_71 rfl rfl hF
  replace hF := hF.2
  by_cases hk1 : x1 = 43
  · replace hF := hF.1 hk1
    rw [hk1]
    refine wa_tableIn (off := 31) (tgt := 32) dX12_worked_1 (by decide) (by decide) rfl rfl ?_
    refine wa_iload_n dX12_worked_32 2 rfl rfl ?_
    refine wa_iload_n dX12_worked_33 3 rfl rfl ?_
    refine wa_iadd dX12_worked_34 ?_
    refine wa_aload_n dX12_worked_35 0 rfl rfl ?_
    refine wa_getr (r := 119) dX12_worked_36 fkX12_7 rfl rfl rfl ?_
    refine wa_iconst (v := 2) dX12_worked_39 rfl ?_
    refine wb_iald (j := 2) (v := M 119 2) dX12_worked_40 rfl (by unfold vp_in; decide) rfl rfl ?_
    obtain ⟨hn9, hF⟩ := hF
    refine wa_irem dX12_worked_41 hn9 ?_
    exact wa_iret dX12_worked_42 rfl rfl hF
  replace hF := hF.2
  by_cases hk2 : x1 = 44
  · replace hF := hF.1 hk2
    rw [hk2]
    refine wa_tableIn (off := 71) (tgt := 72) dX12_worked_1 (by decide) (by decide) rfl rfl ?_
    exact wa_pick [0, 2, 3] rfl hF
  replace hF := hF.2
  by_cases hk3 : x1 = 45
  · replace hF := hF.1 hk3
    rw [hk3]
    refine wa_tableIn (off := 42) (tgt := 43) dX12_worked_1 (by decide) (by decide) rfl rfl ?_
    refine wa_iload_n dX12_worked_43 2 rfl rfl ?_
    refine wa_iload_n dX12_worked_44 3 rfl rfl ?_
    refine wa_isub dX12_worked_45 ?_
    refine wa_aload_n dX12_worked_46 0 rfl rfl ?_
    refine wa_getr (r := 119) dX12_worked_47 fkX12_7 rfl rfl rfl ?_
    refine wa_iconst (v := 2) dX12_worked_50 rfl ?_
    refine wb_iald (j := 2) (v := M 119 2) dX12_worked_51 rfl (by unfold vp_in; decide) rfl rfl ?_
    refine wa_iadd dX12_worked_52 ?_
    refine wa_aload_n dX12_worked_53 0 rfl rfl ?_
    refine wa_getr (r := 119) dX12_worked_54 fkX12_7 rfl rfl rfl ?_
    refine wa_iconst (v := 2) dX12_worked_57 rfl ?_
    refine wb_iald (j := 2) (v := M 119 2) dX12_worked_58 rfl (by unfold vp_in; decide) rfl rfl ?_
    obtain ⟨hn9, hF⟩ := hF
    refine wa_irem dX12_worked_59 hn9 ?_
    exact wa_iret dX12_worked_60 rfl rfl hF
  replace hF := hF.2
  have ht0 : (x1).toInt ≠ 42 := a_ti hk0
  have ht1 : (x1).toInt ≠ 43 := a_ti hk1
  have ht2 : (x1).toInt ≠ 44 := a_ti hk2
  have ht3 : (x1).toInt ≠ 45 := a_ti hk3
  have hd9 : (x1).toInt < 42 ∨ 45 < (x1).toInt := by omega
  replace hF := hF hd9
  refine wa_tableOut (tgt := 72) dX12_worked_1 hd9 rfl ?_
  exact wa_pick [0, 2, 3] rfl hF

theorem bX12_worked_72 {X : a_X} {ad : Nat → Nat} {ca : Nat → ClassId} {d : Nat} {Post : Option Value → a_M → a_P → Prop} {x : Nat} {M : a_M} (x2 : Int32) (x3 : Int32)  (hF : (∃ Q1 : Int32 → a_M → Prop, Mt X ad ca LY d yX12_over cX12_over 4 (some FieldType.int) [.ref 118, .int x2, .int x3] M (PT x) (q_i (PT x) Q1) ∧ ∀ v1 M1, Q1 v1 M1 → Post (some (.int v1)) M1 (PT x))) : WA X ad ca LY RX12 cX12_worked 4 (some FieldType.int) (d + 1) 0 0 (a_E X ad ca LY Post) 72 [(0, .ref 118), (2, .int x2), (3, .int x3)] [] M (PT x) := by
  refine wa_aload_n dX12_worked_72 0 rfl rfl ?_
  refine wa_iload_n dX12_worked_73 1 rfl rfl ?_
  refine wa_iload_n dX12_worked_74 2 rfl rfl ?_
  obtain ⟨Q1, hM9, hF⟩ := hF
  refine wa_callV [.int x2, .int x3] dX12_worked_75 (mmX12_over _ _) mlX12_271 mnX12_over mseX12_over rfl rfl rfl rfl (a_dlt d) rfl rfl hM9 ?_
  rintro r9 M1 P9 ⟨v1, rfl, rfl, hq9⟩
  replace hF := hF v1 M1 hq9
  simp only [Option.toList, List.cons_append, List.nil_append]
  exact wa_iret dX12_worked_78 rfl rfl hF

theorem eX12_worked {X : a_X} {ad : Nat → Nat} {ca : Nat → ClassId} {d : Nat} {Post : Option Value → a_M → a_P → Prop} {x : Nat} {M : a_M} (x1 : Int32) (x2 : Int32) (x3 : Int32) (h : WA X ad ca LY RX12 cX12_worked 4 (some FieldType.int) d 0 0 (a_E X ad ca LY Post) 0 [(0, .ref 118), (1, .int x1), (2, .int x2), (3, .int x3)] [] M (PT x)) : Mt X ad ca LY d yX12_worked cX12_worked 4 (some FieldType.int) [.ref 118, .int x1, .int x2, .int x3] M (PT x) Post := Mt.of (lv := [(0, .ref 118), (1, .int x1), (2, .int x2), (3, .int x3)]) (by decide +kernel) rfl rfl rfl (wa_pick [0, 1, 2, 3] rfl h)

theorem bX12_saysOf_0 {X : a_X} {ad : Nat → Nat} {ca : Nat → ClassId} {d : Nat} {kc ks : Nat} {QF : List Frame → Array Value → State → State → Prop} {x : Nat} {M : a_M} (x1 : Int32) (x2 : Int32)  (hF : WA X ad ca LY RX12 cX12_saysOf 5 (some FieldType.int) (d + 1) kc ks QF 5 [(0, .ref 118), (2, .int x2), (3, .int 0), (4, .int x1)] [] M (PT x)) : WA X ad ca LY RX12 cX12_saysOf 5 (some FieldType.int) (d + 1) kc ks QF 0 [(0, .ref 118), (1, .int x1), (2, .int x2)] [] M (PT x) := by
  refine wa_iconst (v := 0) dX12_saysOf_0 rfl ?_
  refine wa_istore_n (lv' := [(3, .int 0), (0, .ref 118), (1, .int x1), (2, .int x2)]) dX12_saysOf_1 rfl rfl rfl ?_
  refine wa_iload_n dX12_saysOf_2 2 rfl rfl ?_
  refine wa_istore (lv' := [(4, .int x1), (3, .int 0), (0, .ref 118), (1, .int x1), (2, .int x2)]) dX12_saysOf_3 rfl rfl ?_
  exact wa_pick [2, 4, 1, 0] rfl hF

theorem bX12_saysOf_5 {X : a_X} {ad : Nat → Nat} {ca : Nat → ClassId} {d : Nat} {Post : Option Value → a_M → a_P → Prop} {x : Nat} {M : a_M} (x2 : Int32) (x3 : Int32) (x4 : Int32)  (hF : (vp_in x4 1600 ∧ (((M 126 x4.toNatClampNeg) = 408 → Post (some (.int (M 136 0))) M (PT x)) ∧ (¬ (M 126 x4.toNatClampNeg) = 408 → (vp_in x4 1600 ∧ (((M 126 x4.toNatClampNeg) = 400 → (vp_in x4 1600 ∧ (¬ (M 119 2) = 0 ∧ (vp_in x3 200 ∧ WA X ad ca LY RX12 cX12_saysOf 5 (some FieldType.int) (d + 1) 0 0 (a_E X ad ca LY Post) 199 [(0, .ref 118), (2, .int x2), (3, .int (x3 + 1)), (4, .int x4)] [] (ms M 136 x3.toNatClampNeg ((M 127 x4.toNatClampNeg) - (M 127 x4.toNatClampNeg) / (M 119 2) * (M 119 2))) (PT x))))) ∧ ((M 126 x4.toNatClampNeg) = 401 → (vp_in x4 1600 ∧ ((¬ (M 127 x4.toNatClampNeg) = 0 → (vp_in x4 1600 ∧ ((¬ (M 127 x4.toNatClampNeg) = 1 → (vp_in x3 200 ∧ WA X ad ca LY RX12 cX12_saysOf 5 (some FieldType.int) (d + 1) 0 0 (a_E X ad ca LY Post) 199 [(0, .ref 118), (2, .int x2), (3, .int (x3 + 1)), (4, .int x4)] [] (ms M 136 x3.toNatClampNeg (M 119 4)) (PT x))) ∧ ((M 127 x4.toNatClampNeg) = 1 → (vp_in x3 200 ∧ WA X ad ca LY RX12 cX12_saysOf 5 (some FieldType.int) (d + 1) 0 0 (a_E X ad ca LY Post) 199 [(0, .ref 118), (2, .int x2), (3, .int (x3 + 1)), (4, .int x4)] [] (ms M 136 x3.toNatClampNeg (M 119 3)) (PT x)))))) ∧ ((M 127 x4.toNatClampNeg) = 0 → (vp_in x3 200 ∧ WA X ad ca LY RX12 cX12_saysOf 5 (some FieldType.int) (d + 1) 0 0 (a_E X ad ca LY Post) 199 [(0, .ref 118), (2, .int x2), (3, .int (x3 + 1)), (4, .int x4)] [] (ms M 136 x3.toNatClampNeg x2) (PT x)))))) ∧ ((M 126 x4.toNatClampNeg) = 402 → (vp_in (x3 - 1) 200 ∧ (¬ (M 119 2) = 0 ∧ (vp_in (x3 - 1) 200 ∧ WA X ad ca LY RX12 cX12_saysOf 5 (some FieldType.int) (d + 1) 0 0 (a_E X ad ca LY Post) 199 [(0, .ref 118), (2, .int x2), (3, .int x3), (4, .int x4)] [] (ms M 136 ((x3 - 1).toNatClampNeg) (((M 119 2) - (M 136 ((x3 - 1).toNatClampNeg))) - ((M 119 2) - (M 136 ((x3 - 1).toNatClampNeg))) / (M 119 2) * (M 119 2))) (PT x))))) ∧ ((M 126 x4.toNatClampNeg).toInt < 400 ∨ 402 < (M 126 x4.toNatClampNeg).toInt → (vp_in x4 1600 ∧ (vp_in ((x3 + (-1)) - 1) 200 ∧ (vp_in (x3 + (-1)) 200 ∧ (∃ Q1 : Int32 → a_M → Prop, Mt X ad ca LY d yX12_worked cX12_worked 4 (some FieldType.int) [.ref 118, .int (M 126 x4.toNatClampNeg), .int (M 136 (((x3 + (-1)) - 1).toNatClampNeg)), .int (M 136 ((x3 + (-1)).toNatClampNeg))] M (PT x) (q_i (PT x) Q1) ∧ ∀ v1 M1, Q1 v1 M1 → (vp_in ((x3 + (-1)) - 1) 200 ∧ WA X ad ca LY RX12 cX12_saysOf 5 (some FieldType.int) (d + 1) 0 0 (a_E X ad ca LY Post) 199 [(0, .ref 118), (2, .int x2), (3, .int (x3 + (-1))), (4, .int x4)] [] (ms M1 136 (((x3 + (-1)) - 1).toNatClampNeg) v1) (PT x))))))))))))) : WA X ad ca LY RX12 cX12_saysOf 5 (some FieldType.int) (d + 1) 0 0 (a_E X ad ca LY Post) 5 [(0, .ref 118), (2, .int x2), (3, .int x3), (4, .int x4)] [] M (PT x) := by
  refine wa_aload_n dX12_saysOf_5 0 rfl rfl ?_
  refine wa_getr (r := 126) dX12_saysOf_6 fkX12_39 rfl rfl rfl ?_
  refine wa_iload dX12_saysOf_9 3 rfl ?_
  obtain ⟨hi9, hF⟩ := hF
  refine wb_iald (j := x4.toNatClampNeg) (v := M 126 x4.toNatClampNeg) dX12_saysOf_11 rfl hi9 rfl rfl ?_
  refine wa_sipush (v := 408) dX12_saysOf_12 rfl ?_
  refine wa_icmp_eq (tgt := 205) dX12_saysOf_15 rfl (fun hc => ?_) (fun hc => ?_)
  · replace hF := hF.1 hc
    refine wa_aload_n dX12_saysOf_205 0 rfl rfl ?_
    refine wa_getr (r := 136) dX12_saysOf_206 fkX12_69 rfl rfl rfl ?_
    refine wa_iconst (v := 0) dX12_saysOf_209 rfl ?_
    refine wb_iald (j := 0) (v := M 136 0) dX12_saysOf_210 rfl (by unfold vp_in; decide) rfl rfl ?_
    exact wa_iret dX12_saysOf_211 rfl rfl hF
  · replace hF := hF.2 hc
    refine wa_aload_n dX12_saysOf_18 0 rfl rfl ?_
    refine wa_getr (r := 126) dX12_saysOf_19 fkX12_39 rfl rfl rfl ?_
    refine wa_iload dX12_saysOf_22 3 rfl ?_
    obtain ⟨hi9, hF⟩ := hF
    refine wb_iald (j := x4.toNatClampNeg) (v := M 126 x4.toNatClampNeg) dX12_saysOf_24 rfl hi9 rfl rfl ?_
    by_cases hk0 : (M 126 x4.toNatClampNeg) = 400
    · replace hF := hF.1 hk0
      rw [hk0]
      refine wa_tableIn (off := 27) (tgt := 52) dX12_saysOf_25 (by decide) (by decide) rfl rfl ?_
      refine wa_aload_n dX12_saysOf_52 0 rfl rfl ?_
      refine wa_getr (r := 136) dX12_saysOf_53 fkX12_69 rfl rfl rfl ?_
      refine wa_iload_n dX12_saysOf_56 2 rfl rfl ?_
      refine wa_aload_n dX12_saysOf_57 0 rfl rfl ?_
      refine wa_getr (r := 127) dX12_saysOf_58 fkX12_42 rfl rfl rfl ?_
      refine wa_iload dX12_saysOf_61 3 rfl ?_
      obtain ⟨hi9, hF⟩ := hF
      refine wb_iald (j := x4.toNatClampNeg) (v := M 127 x4.toNatClampNeg) dX12_saysOf_63 rfl hi9 rfl rfl ?_
      refine wa_aload_n dX12_saysOf_64 0 rfl rfl ?_
      refine wa_getr (r := 119) dX12_saysOf_65 fkX12_7 rfl rfl rfl ?_
      refine wa_iconst (v := 2) dX12_saysOf_68 rfl ?_
      refine wb_iald (j := 2) (v := M 119 2) dX12_saysOf_69 rfl (by unfold vp_in; decide) rfl rfl ?_
      obtain ⟨hn9, hF⟩ := hF
      refine wa_irem dX12_saysOf_70 hn9 ?_
      obtain ⟨hi9, hF⟩ := hF
      refine wb_iast (j := x3.toNatClampNeg) dX12_saysOf_71 rfl hi9 rfl ?_
      refine wa_iinc (v := x3 + 1) (lv' := [(3, .int (x3 + 1)), (0, .ref 118), (2, .int x2), (4, .int x4)]) dX12_saysOf_72 2 rfl rfl rfl rfl ?_
      refine wa_goto (tgt := 199) dX12_saysOf_75 rfl ?_
      exact wa_pick [1, 2, 0, 3] rfl hF
    replace hF := hF.2
    by_cases hk1 : (M 126 x4.toNatClampNeg) = 401
    · replace hF := hF.1 hk1
      rw [hk1]
      refine wa_tableIn (off := 53) (tgt := 78) dX12_saysOf_25 (by decide) (by decide) rfl rfl ?_
      refine wa_aload_n dX12_saysOf_78 0 rfl rfl ?_
      refine wa_getr (r := 136) dX12_saysOf_79 fkX12_69 rfl rfl rfl ?_
      refine wa_iload_n dX12_saysOf_82 2 rfl rfl ?_
      refine wa_aload_n dX12_saysOf_83 0 rfl rfl ?_
      refine wa_getr (r := 127) dX12_saysOf_84 fkX12_42 rfl rfl rfl ?_
      refine wa_iload dX12_saysOf_87 3 rfl ?_
      obtain ⟨hi9, hF⟩ := hF
      refine wb_iald (j := x4.toNatClampNeg) (v := M 127 x4.toNatClampNeg) dX12_saysOf_89 rfl hi9 rfl rfl ?_
      refine wa_if_ne (tgt := 97) dX12_saysOf_90 rfl (fun hc => ?_) (fun hc => ?_)
      · replace hF := hF.1 hc
        refine wa_aload_n dX12_saysOf_97 0 rfl rfl ?_
        refine wa_getr (r := 127) dX12_saysOf_98 fkX12_42 rfl rfl rfl ?_
        refine wa_iload dX12_saysOf_101 3 rfl ?_
        obtain ⟨hi9, hF⟩ := hF
        refine wb_iald (j := x4.toNatClampNeg) (v := M 127 x4.toNatClampNeg) dX12_saysOf_103 rfl hi9 rfl rfl ?_
        refine wa_iconst (v := 1) dX12_saysOf_104 rfl ?_
        refine wa_icmp_ne (tgt := 117) dX12_saysOf_105 rfl (fun hc => ?_) (fun hc => ?_)
        · replace hF := hF.1 hc
          refine wa_aload_n dX12_saysOf_117 0 rfl rfl ?_
          refine wa_getr (r := 119) dX12_saysOf_118 fkX12_7 rfl rfl rfl ?_
          refine wa_iconst (v := 4) dX12_saysOf_121 rfl ?_
          refine wb_iald (j := 4) (v := M 119 4) dX12_saysOf_122 rfl (by unfold vp_in; decide) rfl rfl ?_
          obtain ⟨hi9, hF⟩ := hF
          refine wb_iast (j := x3.toNatClampNeg) dX12_saysOf_123 rfl hi9 rfl ?_
          refine wa_iinc (v := x3 + 1) (lv' := [(3, .int (x3 + 1)), (0, .ref 118), (2, .int x2), (4, .int x4)]) dX12_saysOf_124 2 rfl rfl rfl rfl ?_
          refine wa_goto (tgt := 199) dX12_saysOf_127 rfl ?_
          exact wa_pick [1, 2, 0, 3] rfl hF
        · replace hF := hF.2 hc
          refine wa_aload_n dX12_saysOf_108 0 rfl rfl ?_
          refine wa_getr (r := 119) dX12_saysOf_109 fkX12_7 rfl rfl rfl ?_
          refine wa_iconst (v := 3) dX12_saysOf_112 rfl ?_
          refine wb_iald (j := 3) (v := M 119 3) dX12_saysOf_113 rfl (by unfold vp_in; decide) rfl rfl ?_
          refine wa_goto (tgt := 123) dX12_saysOf_114 rfl ?_
          obtain ⟨hi9, hF⟩ := hF
          refine wb_iast (j := x3.toNatClampNeg) dX12_saysOf_123 rfl hi9 rfl ?_
          refine wa_iinc (v := x3 + 1) (lv' := [(3, .int (x3 + 1)), (0, .ref 118), (2, .int x2), (4, .int x4)]) dX12_saysOf_124 2 rfl rfl rfl rfl ?_
          refine wa_goto (tgt := 199) dX12_saysOf_127 rfl ?_
          exact wa_pick [1, 2, 0, 3] rfl hF
      · replace hF := hF.2 hc
        refine wa_iload_n dX12_saysOf_93 1 rfl rfl ?_
        refine wa_goto (tgt := 123) dX12_saysOf_94 rfl ?_
        obtain ⟨hi9, hF⟩ := hF
        refine wb_iast (j := x3.toNatClampNeg) dX12_saysOf_123 rfl hi9 rfl ?_
        refine wa_iinc (v := x3 + 1) (lv' := [(3, .int (x3 + 1)), (0, .ref 118), (2, .int x2), (4, .int x4)]) dX12_saysOf_124 2 rfl rfl rfl rfl ?_
        refine wa_goto (tgt := 199) dX12_saysOf_127 rfl ?_
        exact wa_pick [1, 2, 0, 3] rfl hF
    replace hF := hF.2
    by_cases hk2 : (M 126 x4.toNatClampNeg) = 402
    · replace hF := hF.1 hk2
      rw [hk2]
      refine wa_tableIn (off := 105) (tgt := 130) dX12_saysOf_25 (by decide) (by decide) rfl rfl ?_
      refine wa_aload_n dX12_saysOf_130 0 rfl rfl ?_
      refine wa_getr (r := 136) dX12_saysOf_131 fkX12_69 rfl rfl rfl ?_
      refine wa_iload_n dX12_saysOf_134 2 rfl rfl ?_
      refine wa_iconst (v := 1) dX12_saysOf_135 rfl ?_
      refine wa_isub dX12_saysOf_136 ?_
      refine wa_aload_n dX12_saysOf_137 0 rfl rfl ?_
      refine wa_getr (r := 119) dX12_saysOf_138 fkX12_7 rfl rfl rfl ?_
      refine wa_iconst (v := 2) dX12_saysOf_141 rfl ?_
      refine wb_iald (j := 2) (v := M 119 2) dX12_saysOf_142 rfl (by unfold vp_in; decide) rfl rfl ?_
      refine wa_aload_n dX12_saysOf_143 0 rfl rfl ?_
      refine wa_getr (r := 136) dX12_saysOf_144 fkX12_69 rfl rfl rfl ?_
      refine wa_iload_n dX12_saysOf_147 2 rfl rfl ?_
      refine wa_iconst (v := 1) dX12_saysOf_148 rfl ?_
      refine wa_isub dX12_saysOf_149 ?_
      obtain ⟨hi9, hF⟩ := hF
      refine wb_iald (j := (x3 - 1).toNatClampNeg) (v := M 136 ((x3 - 1).toNatClampNeg)) dX12_saysOf_150 rfl hi9 rfl rfl ?_
      refine wa_isub dX12_saysOf_151 ?_
      refine wa_aload_n dX12_saysOf_152 0 rfl rfl ?_
      refine wa_getr (r := 119) dX12_saysOf_153 fkX12_7 rfl rfl rfl ?_
      refine wa_iconst (v := 2) dX12_saysOf_156 rfl ?_
      refine wb_iald (j := 2) (v := M 119 2) dX12_saysOf_157 rfl (by unfold vp_in; decide) rfl rfl ?_
      obtain ⟨hn9, hF⟩ := hF
      refine wa_irem dX12_saysOf_158 hn9 ?_
      obtain ⟨hi9, hF⟩ := hF
      refine wb_iast (j := (x3 - 1).toNatClampNeg) dX12_saysOf_159 rfl hi9 rfl ?_
      refine wa_goto (tgt := 199) dX12_saysOf_160 rfl ?_
      exact hF
    replace hF := hF.2
    have ht0 : (M 126 x4.toNatClampNeg).toInt ≠ 400 := a_ti hk0
    have ht1 : (M 126 x4.toNatClampNeg).toInt ≠ 401 := a_ti hk1
    have ht2 : (M 126 x4.toNatClampNeg).toInt ≠ 402 := a_ti hk2
    have hd9 : (M 126 x4.toNatClampNeg).toInt < 400 ∨ 402 < (M 126 x4.toNatClampNeg).toInt := by omega
    replace hF := hF hd9
    refine wa_tableOut (tgt := 163) dX12_saysOf_25 hd9 rfl ?_
    refine wa_iinc (v := x3 + (-1)) (lv' := [(3, .int (x3 + (-1))), (0, .ref 118), (2, .int x2), (4, .int x4)]) dX12_saysOf_163 2 rfl rfl rfl rfl ?_
    refine wa_aload_n dX12_saysOf_166 1 rfl rfl ?_
    refine wa_getr (r := 136) dX12_saysOf_167 fkX12_69 rfl rfl rfl ?_
    refine wa_iload_n dX12_saysOf_170 0 rfl rfl ?_
    refine wa_iconst (v := 1) dX12_saysOf_171 rfl ?_
    refine wa_isub dX12_saysOf_172 ?_
    refine wa_aload_n dX12_saysOf_173 1 rfl rfl ?_
    refine wa_aload_n dX12_saysOf_174 1 rfl rfl ?_
    refine wa_getr (r := 126) dX12_saysOf_175 fkX12_39 rfl rfl rfl ?_
    refine wa_iload dX12_saysOf_178 3 rfl ?_
    obtain ⟨hi9, hF⟩ := hF
    refine wb_iald (j := x4.toNatClampNeg) (v := M 126 x4.toNatClampNeg) dX12_saysOf_180 rfl hi9 rfl rfl ?_
    refine wa_aload_n dX12_saysOf_181 1 rfl rfl ?_
    refine wa_getr (r := 136) dX12_saysOf_182 fkX12_69 rfl rfl rfl ?_
    refine wa_iload_n dX12_saysOf_185 0 rfl rfl ?_
    refine wa_iconst (v := 1) dX12_saysOf_186 rfl ?_
    refine wa_isub dX12_saysOf_187 ?_
    obtain ⟨hi9, hF⟩ := hF
    refine wb_iald (j := ((x3 + (-1)) - 1).toNatClampNeg) (v := M 136 (((x3 + (-1)) - 1).toNatClampNeg)) dX12_saysOf_188 rfl hi9 rfl rfl ?_
    refine wa_aload_n dX12_saysOf_189 1 rfl rfl ?_
    refine wa_getr (r := 136) dX12_saysOf_190 fkX12_69 rfl rfl rfl ?_
    refine wa_iload_n dX12_saysOf_193 0 rfl rfl ?_
    obtain ⟨hi9, hF⟩ := hF
    refine wb_iald (j := (x3 + (-1)).toNatClampNeg) (v := M 136 ((x3 + (-1)).toNatClampNeg)) dX12_saysOf_194 rfl hi9 rfl rfl ?_
    obtain ⟨Q1, hM9, hF⟩ := hF
    refine wa_callV [.int (M 126 x4.toNatClampNeg), .int (M 136 (((x3 + (-1)) - 1).toNatClampNeg)), .int (M 136 ((x3 + (-1)).toNatClampNeg))] dX12_saysOf_195 (mmX12_worked _ _) mlX12_274 mnX12_worked mseX12_worked rfl rfl rfl rfl (a_dlt d) rfl rfl hM9 ?_
    rintro r9 M1 P9 ⟨v1, rfl, rfl, hq9⟩
    replace hF := hF v1 M1 hq9
    simp only [Option.toList, List.cons_append, List.nil_append]
    obtain ⟨hi9, hF⟩ := hF
    refine wb_iast (j := ((x3 + (-1)) - 1).toNatClampNeg) dX12_saysOf_198 rfl hi9 rfl ?_
    exact wa_pick [1, 2, 0, 3] rfl hF

theorem bX12_saysOf_199 {X : a_X} {ad : Nat → Nat} {ca : Nat → ClassId} {d : Nat} {kc ks : Nat} {QF : List Frame → Array Value → State → State → Prop} {x : Nat} {M : a_M} (x2 : Int32) (x3 : Int32) (x4 : Int32)  (hF : WA X ad ca LY RX12 cX12_saysOf 5 (some FieldType.int) (d + 1) kc ks QF 5 [(0, .ref 118), (2, .int x2), (3, .int x3), (4, .int (x4 + 1))] [] M (PT x)) : WA X ad ca LY RX12 cX12_saysOf 5 (some FieldType.int) (d + 1) kc ks QF 199 [(0, .ref 118), (2, .int x2), (3, .int x3), (4, .int x4)] [] M (PT x) := by
  refine wa_iinc (v := x4 + 1) (lv' := [(4, .int (x4 + 1)), (0, .ref 118), (2, .int x2), (3, .int x3)]) dX12_saysOf_199 3 rfl rfl rfl rfl ?_
  refine wa_goto (tgt := 5) dX12_saysOf_202 rfl ?_
  exact wa_pick [1, 2, 3, 0] rfl hF

theorem eX12_saysOf {X : a_X} {ad : Nat → Nat} {ca : Nat → ClassId} {d : Nat} {Post : Option Value → a_M → a_P → Prop} {x : Nat} {M : a_M} (x1 : Int32) (x2 : Int32) (h : WA X ad ca LY RX12 cX12_saysOf 5 (some FieldType.int) d 0 0 (a_E X ad ca LY Post) 0 [(0, .ref 118), (1, .int x1), (2, .int x2)] [] M (PT x)) : Mt X ad ca LY d yX12_saysOf cX12_saysOf 5 (some FieldType.int) [.ref 118, .int x1, .int x2] M (PT x) Post := Mt.of (lv := [(0, .ref 118), (1, .int x1), (2, .int x2)]) (by decide +kernel) rfl rfl rfl (wa_pick [0, 1, 2] rfl h)

theorem bX12_weightOf_0 {X : a_X} {ad : Nat → Nat} {ca : Nat → ClassId} {d : Nat} {kc ks : Nat} {QF : List Frame → Array Value → State → State → Prop} {x : Nat} {M : a_M} (x1 : Int32) (x2 : Int32)  (hF : ((¬ x1 = 0 → ((¬ x1 = 1 → WA X ad ca LY RX12 cX12_weightOf 6 (some FieldType.int) (d + 1) kc ks QF 41 [(0, .ref 118), (1, .int x1), (2, .int x2), (3, .int (M 119 3)), (4, .int 0)] [] M (PT x)) ∧ (x1 = 1 → WA X ad ca LY RX12 cX12_weightOf 6 (some FieldType.int) (d + 1) kc ks QF 41 [(0, .ref 118), (1, .int x1), (2, .int x2), (3, .int x2), (4, .int 0)] [] M (PT x)))) ∧ (x1 = 0 → (¬ (M 119 2) = 0 ∧ WA X ad ca LY RX12 cX12_weightOf 6 (some FieldType.int) (d + 1) kc ks QF 41 [(0, .ref 118), (1, .int x1), (2, .int x2), (3, .int ((x2 + (M 119 3)) - (x2 + (M 119 3)) / (M 119 2) * (M 119 2))), (4, .int 0)] [] M (PT x))))) : WA X ad ca LY RX12 cX12_weightOf 6 (some FieldType.int) (d + 1) kc ks QF 0 [(0, .ref 118), (1, .int x1), (2, .int x2)] [] M (PT x) := by
  refine wa_iload_n dX12_weightOf_0 1 rfl rfl ?_
  refine wa_if_ne (tgt := 22) dX12_weightOf_1 rfl (fun hc => ?_) (fun hc => ?_)
  · replace hF := hF.1 hc
    refine wa_iload_n dX12_weightOf_22 1 rfl rfl ?_
    refine wa_iconst (v := 1) dX12_weightOf_23 rfl ?_
    refine wa_icmp_ne (tgt := 31) dX12_weightOf_24 rfl (fun hc => ?_) (fun hc => ?_)
    · replace hF := hF.1 hc
      refine wa_aload_n dX12_weightOf_31 0 rfl rfl ?_
      refine wa_getr (r := 119) dX12_weightOf_32 fkX12_7 rfl rfl rfl ?_
      refine wa_iconst (v := 3) dX12_weightOf_35 rfl ?_
      refine wb_iald (j := 3) (v := M 119 3) dX12_weightOf_36 rfl (by unfold vp_in; decide) rfl rfl ?_
      refine wa_istore_n (lv' := [(3, .int (M 119 3)), (0, .ref 118), (1, .int x1), (2, .int x2)]) dX12_weightOf_37 rfl rfl rfl ?_
      refine wa_iconst (v := 0) dX12_weightOf_38 rfl ?_
      refine wa_istore (lv' := [(4, .int 0), (3, .int (M 119 3)), (0, .ref 118), (1, .int x1), (2, .int x2)]) dX12_weightOf_39 rfl rfl ?_
      exact wa_pick [2, 3, 4, 1, 0] rfl hF
    · replace hF := hF.2 hc
      refine wa_iload_n dX12_weightOf_27 2 rfl rfl ?_
      refine wa_goto (tgt := 37) dX12_weightOf_28 rfl ?_
      refine wa_istore_n (lv' := [(3, .int x2), (0, .ref 118), (1, .int x1), (2, .int x2)]) dX12_weightOf_37 rfl rfl rfl ?_
      refine wa_iconst (v := 0) dX12_weightOf_38 rfl ?_
      refine wa_istore (lv' := [(4, .int 0), (3, .int x2), (0, .ref 118), (1, .int x1), (2, .int x2)]) dX12_weightOf_39 rfl rfl ?_
      exact wa_pick [2, 3, 4, 1, 0] rfl hF
  · replace hF := hF.2 hc
    refine wa_iload_n dX12_weightOf_4 2 rfl rfl ?_
    refine wa_aload_n dX12_weightOf_5 0 rfl rfl ?_
    refine wa_getr (r := 119) dX12_weightOf_6 fkX12_7 rfl rfl rfl ?_
    refine wa_iconst (v := 3) dX12_weightOf_9 rfl ?_
    refine wb_iald (j := 3) (v := M 119 3) dX12_weightOf_10 rfl (by unfold vp_in; decide) rfl rfl ?_
    refine wa_iadd dX12_weightOf_11 ?_
    refine wa_aload_n dX12_weightOf_12 0 rfl rfl ?_
    refine wa_getr (r := 119) dX12_weightOf_13 fkX12_7 rfl rfl rfl ?_
    refine wa_iconst (v := 2) dX12_weightOf_16 rfl ?_
    refine wb_iald (j := 2) (v := M 119 2) dX12_weightOf_17 rfl (by unfold vp_in; decide) rfl rfl ?_
    obtain ⟨hn9, hF⟩ := hF
    refine wa_irem dX12_weightOf_18 hn9 ?_
    refine wa_goto (tgt := 37) dX12_weightOf_19 rfl ?_
    refine wa_istore_n (lv' := [(3, .int ((x2 + (M 119 3)) - (x2 + (M 119 3)) / (M 119 2) * (M 119 2))), (0, .ref 118), (1, .int x1), (2, .int x2)]) dX12_weightOf_37 rfl rfl rfl ?_
    refine wa_iconst (v := 0) dX12_weightOf_38 rfl ?_
    refine wa_istore (lv' := [(4, .int 0), (3, .int ((x2 + (M 119 3)) - (x2 + (M 119 3)) / (M 119 2) * (M 119 2))), (0, .ref 118), (1, .int x1), (2, .int x2)]) dX12_weightOf_39 rfl rfl ?_
    exact wa_pick [2, 3, 4, 1, 0] rfl hF

theorem bX12_weightOf_41 {X : a_X} {ad : Nat → Nat} {ca : Nat → ClassId} {d : Nat} {kc ks : Nat} {QF : List Frame → Array Value → State → State → Prop} {x : Nat} {M : a_M} (x1 : Int32) (x2 : Int32) (x3 : Int32) (x4 : Int32)  (hF : (((M 119 6) = (-1) → WA X ad ca LY RX12 cX12_weightOf 6 (some FieldType.int) (d + 1) kc ks QF 118 [(3, .int x3)] [] M (PT x)) ∧ (¬ (M 119 6) = (-1) → (vp_in (M 119 6) 4 ∧ (((M 122 ((M 119 6).toNatClampNeg)) ≤ x4 → WA X ad ca LY RX12 cX12_weightOf 6 (some FieldType.int) (d + 1) kc ks QF 118 [(3, .int x3)] [] M (PT x)) ∧ (¬ (M 122 ((M 119 6).toNatClampNeg)) ≤ x4 → (vp_in ((30 * (M 119 6)) + x4) 120 ∧ ((¬ (M 123 (((30 * (M 119 6)) + x4).toNatClampNeg)) = x1 → WA X ad ca LY RX12 cX12_weightOf 6 (some FieldType.int) (d + 1) kc ks QF 41 [(0, .ref 118), (1, .int x1), (2, .int x2), (3, .int x3), (4, .int (x4 + 1))] [] M (PT x)) ∧ ((M 123 (((30 * (M 119 6)) + x4).toNatClampNeg)) = x1 → (vp_in ((30 * (M 119 6)) + x4) 120 ∧ (∃ Q1 : Int32 → a_M → Prop, Mt X ad ca LY d yX12_saysOf cX12_saysOf 5 (some FieldType.int) [.ref 118, .int (M 124 (((30 * (M 119 6)) + x4).toNatClampNeg)), .int x2] M (PT x) (q_i (PT x) Q1) ∧ ∀ v1 M1, Q1 v1 M1 → WA X ad ca LY RX12 cX12_weightOf 6 (some FieldType.int) (d + 1) kc ks QF 41 [(0, .ref 118), (1, .int x1), (2, .int x2), (3, .int v1), (4, .int (x4 + 1))] [] M1 (PT x)))))))))))) : WA X ad ca LY RX12 cX12_weightOf 6 (some FieldType.int) (d + 1) kc ks QF 41 [(0, .ref 118), (1, .int x1), (2, .int x2), (3, .int x3), (4, .int x4)] [] M (PT x) := by
  refine wa_aload_n dX12_weightOf_41 0 rfl rfl ?_
  refine wa_getr (r := 119) dX12_weightOf_42 fkX12_7 rfl rfl rfl ?_
  refine wa_bipush (v := 6) dX12_weightOf_45 rfl ?_
  refine wb_iald (j := 6) (v := M 119 6) dX12_weightOf_47 rfl (by unfold vp_in; decide) rfl rfl ?_
  refine wa_iconst (v := (-1)) dX12_weightOf_48 rfl ?_
  refine wa_icmp_eq (tgt := 118) dX12_weightOf_49 rfl (fun hc => ?_) (fun hc => ?_)
  · replace hF := hF.1 hc
    exact wa_pick [3] rfl hF
  · replace hF := hF.2 hc
    refine wa_iload dX12_weightOf_52 4 rfl ?_
    refine wa_aload_n dX12_weightOf_54 0 rfl rfl ?_
    refine wa_getr (r := 122) dX12_weightOf_55 fkX12_27 rfl rfl rfl ?_
    refine wa_aload_n dX12_weightOf_58 0 rfl rfl ?_
    refine wa_getr (r := 119) dX12_weightOf_59 fkX12_7 rfl rfl rfl ?_
    refine wa_bipush (v := 6) dX12_weightOf_62 rfl ?_
    refine wb_iald (j := 6) (v := M 119 6) dX12_weightOf_64 rfl (by unfold vp_in; decide) rfl rfl ?_
    obtain ⟨hi9, hF⟩ := hF
    refine wb_iald (j := (M 119 6).toNatClampNeg) (v := M 122 ((M 119 6).toNatClampNeg)) dX12_weightOf_65 rfl hi9 rfl rfl ?_
    refine wa_icmp_ge (tgt := 118) dX12_weightOf_66 rfl (fun hc => ?_) (fun hc => ?_)
    · replace hF := hF.1 hc
      exact wa_pick [3] rfl hF
    · replace hF := hF.2 hc
      refine wa_bipush (v := 30) dX12_weightOf_69 rfl ?_
      refine wa_aload_n dX12_weightOf_71 0 rfl rfl ?_
      refine wa_getr (r := 119) dX12_weightOf_72 fkX12_7 rfl rfl rfl ?_
      refine wa_bipush (v := 6) dX12_weightOf_75 rfl ?_
      refine wb_iald (j := 6) (v := M 119 6) dX12_weightOf_77 rfl (by unfold vp_in; decide) rfl rfl ?_
      refine wa_imul dX12_weightOf_78 ?_
      refine wa_iload dX12_weightOf_79 4 rfl ?_
      refine wa_iadd dX12_weightOf_81 ?_
      refine wa_istore (lv' := [(5, .int ((30 * (M 119 6)) + x4)), (0, .ref 118), (1, .int x1), (2, .int x2), (3, .int x3), (4, .int x4)]) dX12_weightOf_82 rfl rfl ?_
      refine wa_aload_n dX12_weightOf_84 1 rfl rfl ?_
      refine wa_getr (r := 123) dX12_weightOf_85 fkX12_30 rfl rfl rfl ?_
      refine wa_iload dX12_weightOf_88 0 rfl ?_
      obtain ⟨hi9, hF⟩ := hF
      refine wb_iald (j := ((30 * (M 119 6)) + x4).toNatClampNeg) (v := M 123 (((30 * (M 119 6)) + x4).toNatClampNeg)) dX12_weightOf_90 rfl hi9 rfl rfl ?_
      refine wa_iload_n dX12_weightOf_91 2 rfl rfl ?_
      refine wa_icmp_ne (tgt := 110) dX12_weightOf_92 rfl (fun hc => ?_) (fun hc => ?_)
      · replace hF := hF.1 hc
        refine wa_iload_n dX12_weightOf_110 4 rfl rfl ?_
        refine wa_istore_n (lv' := [(3, .int x3), (5, .int ((30 * (M 119 6)) + x4)), (0, .ref 118), (1, .int x1), (2, .int x2), (4, .int x4)]) dX12_weightOf_111 rfl rfl rfl ?_
        refine wa_iinc (v := x4 + 1) (lv' := [(4, .int (x4 + 1)), (3, .int x3), (5, .int ((30 * (M 119 6)) + x4)), (0, .ref 118), (1, .int x1), (2, .int x2)]) dX12_weightOf_112 5 rfl rfl rfl rfl ?_
        refine wa_goto (tgt := 41) dX12_weightOf_115 rfl ?_
        exact wa_pick [3, 4, 5, 1, 0] rfl hF
      · replace hF := hF.2 hc
        refine wa_aload_n dX12_weightOf_95 1 rfl rfl ?_
        refine wa_aload_n dX12_weightOf_96 1 rfl rfl ?_
        refine wa_getr (r := 124) dX12_weightOf_97 fkX12_33 rfl rfl rfl ?_
        refine wa_iload dX12_weightOf_100 0 rfl ?_
        obtain ⟨hi9, hF⟩ := hF
        refine wb_iald (j := ((30 * (M 119 6)) + x4).toNatClampNeg) (v := M 124 (((30 * (M 119 6)) + x4).toNatClampNeg)) dX12_weightOf_102 rfl hi9 rfl rfl ?_
        refine wa_iload_n dX12_weightOf_103 3 rfl rfl ?_
        obtain ⟨Q1, hM9, hF⟩ := hF
        refine wa_callV [.int (M 124 (((30 * (M 119 6)) + x4).toNatClampNeg)), .int x2] dX12_weightOf_104 (mmX12_saysOf _ _) mlX12_278 mnX12_saysOf mseX12_saysOf rfl rfl rfl rfl (a_dlt d) rfl rfl hM9 ?_
        rintro r9 M1 P9 ⟨v1, rfl, rfl, hq9⟩
        replace hF := hF v1 M1 hq9
        simp only [Option.toList, List.cons_append, List.nil_append]
        refine wa_goto (tgt := 111) dX12_weightOf_107 rfl ?_
        refine wa_istore_n (lv' := [(3, .int v1), (5, .int ((30 * (M 119 6)) + x4)), (0, .ref 118), (1, .int x1), (2, .int x2), (4, .int x4)]) dX12_weightOf_111 rfl rfl rfl ?_
        refine wa_iinc (v := x4 + 1) (lv' := [(4, .int (x4 + 1)), (3, .int v1), (5, .int ((30 * (M 119 6)) + x4)), (0, .ref 118), (1, .int x1), (2, .int x2)]) dX12_weightOf_112 5 rfl rfl rfl rfl ?_
        refine wa_goto (tgt := 41) dX12_weightOf_115 rfl ?_
        exact wa_pick [3, 4, 5, 1, 0] rfl hF

theorem bX12_weightOf_118 {X : a_X} {ad : Nat → Nat} {ca : Nat → ClassId} {d : Nat} {Post : Option Value → a_M → a_P → Prop} {x : Nat} {M : a_M} (x3 : Int32)  (hF : Post (some (.int x3)) M (PT x)) : WA X ad ca LY RX12 cX12_weightOf 6 (some FieldType.int) (d + 1) 0 0 (a_E X ad ca LY Post) 118 [(3, .int x3)] [] M (PT x) := by
  refine wa_iload_n dX12_weightOf_118 0 rfl rfl ?_
  exact wa_iret dX12_weightOf_119 rfl rfl hF

theorem eX12_weightOf {X : a_X} {ad : Nat → Nat} {ca : Nat → ClassId} {d : Nat} {Post : Option Value → a_M → a_P → Prop} {x : Nat} {M : a_M} (x1 : Int32) (x2 : Int32) (h : WA X ad ca LY RX12 cX12_weightOf 6 (some FieldType.int) d 0 0 (a_E X ad ca LY Post) 0 [(0, .ref 118), (1, .int x1), (2, .int x2)] [] M (PT x)) : Mt X ad ca LY d yX12_weightOf cX12_weightOf 6 (some FieldType.int) [.ref 118, .int x1, .int x2] M (PT x) Post := Mt.of (lv := [(0, .ref 118), (1, .int x1), (2, .int x2)]) (by decide +kernel) rfl rfl rfl (wa_pick [0, 1, 2] rfl h)

theorem bX12_weight_0 {X : a_X} {ad : Nat → Nat} {ca : Nat → ClassId} {d : Nat} {Post : Option Value → a_M → a_P → Prop} {x : Nat} {M : a_M} (x1 : Int32) (x2 : Int32)  (hF : (∃ Q1 : Int32 → a_M → Prop, Mt X ad ca LY d yX12_in cX12_in 3 (some FieldType.boolean) [.int x1, .int 0, .int 2] M (PT x) (q_i (PT x) Q1) ∧ ∀ v1 M1, Q1 v1 M1 → ((v1 = 0 → WA X ad ca LY RX12 cX12_weight 3 (some FieldType.int) (d + 1) 0 0 (a_E X ad ca LY Post) 26 [] [] M1 (PT x)) ∧ (¬ v1 = 0 → (∃ Q2 : Int32 → a_M → Prop, Mt X ad ca LY d yX12_isNumber cX12_isNumber 2 (some FieldType.boolean) [.ref 118, .int x2] M1 (PT x) (q_i (PT x) Q2) ∧ ∀ v2 M2, Q2 v2 M2 → ((v2 = 0 → WA X ad ca LY RX12 cX12_weight 3 (some FieldType.int) (d + 1) 0 0 (a_E X ad ca LY Post) 26 [] [] M2 (PT x)) ∧ (¬ v2 = 0 → (∃ Q3 : Int32 → a_M → Prop, Mt X ad ca LY d yX12_weightOf cX12_weightOf 6 (some FieldType.int) [.ref 118, .int x1, .int x2] M2 (PT x) (q_i (PT x) Q3) ∧ ∀ v3 M3, Q3 v3 M3 → Post (some (.int v3)) M3 (PT x))))))))) : WA X ad ca LY RX12 cX12_weight 3 (some FieldType.int) (d + 1) 0 0 (a_E X ad ca LY Post) 0 [(0, .ref 118), (1, .int x1), (2, .int x2)] [] M (PT x) := by
  refine wa_iload_n dX12_weight_0 1 rfl rfl ?_
  refine wa_iconst (v := 0) dX12_weight_1 rfl ?_
  refine wa_iconst (v := 2) dX12_weight_2 rfl ?_
  obtain ⟨Q1, hM9, hF⟩ := hF
  refine wa_callS [.int x1, .int 0, .int 2] dX12_weight_3 (mmX12_in _ _) mlX12_124 mstX12_in rfl (a_dlt d) rfl rfl hM9 ?_
  rintro r9 M1 P9 ⟨v1, rfl, rfl, hq9⟩
  replace hF := hF v1 M1 hq9
  simp only [Option.toList, List.cons_append, List.nil_append]
  refine wa_if_eq (tgt := 26) dX12_weight_6 rfl (fun hc => ?_) (fun hc => ?_)
  · replace hF := hF.1 hc
    exact wa_pick [] rfl hF
  · replace hF := hF.2 hc
    refine wa_aload_n dX12_weight_9 0 rfl rfl ?_
    refine wa_iload_n dX12_weight_10 2 rfl rfl ?_
    obtain ⟨Q2, hM9, hF⟩ := hF
    refine wa_callV [.int x2] dX12_weight_11 (mmX12_isNumber _ _) mlX12_135 mnX12_isNumber mseX12_isNumber rfl rfl rfl rfl (a_dlt d) rfl rfl hM9 ?_
    rintro r9 M2 P9 ⟨v2, rfl, rfl, hq9⟩
    replace hF := hF v2 M2 hq9
    simp only [Option.toList, List.cons_append, List.nil_append]
    refine wa_if_eq (tgt := 26) dX12_weight_14 rfl (fun hc => ?_) (fun hc => ?_)
    · replace hF := hF.1 hc
      exact wa_pick [] rfl hF
    · replace hF := hF.2 hc
      refine wa_aload_n dX12_weight_17 0 rfl rfl ?_
      refine wa_iload_n dX12_weight_18 1 rfl rfl ?_
      refine wa_iload_n dX12_weight_19 2 rfl rfl ?_
      obtain ⟨Q3, hM9, hF⟩ := hF
      refine wa_callV [.int x1, .int x2] dX12_weight_20 (mmX12_weightOf _ _) mlX12_281 mnX12_weightOf mseX12_weightOf rfl rfl rfl rfl (a_dlt d) rfl rfl hM9 ?_
      rintro r9 M3 P9 ⟨v3, rfl, rfl, hq9⟩
      replace hF := hF v3 M3 hq9
      simp only [Option.toList, List.cons_append, List.nil_append]
      refine wa_goto (tgt := 27) dX12_weight_23 rfl ?_
      exact wa_iret dX12_weight_27 rfl rfl hF

theorem bX12_weight_26 {X : a_X} {ad : Nat → Nat} {ca : Nat → ClassId} {d : Nat} {Post : Option Value → a_M → a_P → Prop} {x : Nat} {M : a_M}   (hF : Post (some (.int (-1))) M (PT x)) : WA X ad ca LY RX12 cX12_weight 3 (some FieldType.int) (d + 1) 0 0 (a_E X ad ca LY Post) 26 [] [] M (PT x) := by
  refine wa_iconst (v := (-1)) dX12_weight_26 rfl ?_
  exact wa_iret dX12_weight_27 rfl rfl hF

theorem eX12_weight {X : a_X} {ad : Nat → Nat} {ca : Nat → ClassId} {d : Nat} {Post : Option Value → a_M → a_P → Prop} {x : Nat} {M : a_M} (x1 : Int32) (x2 : Int32) (h : WA X ad ca LY RX12 cX12_weight 3 (some FieldType.int) d 0 0 (a_E X ad ca LY Post) 0 [(0, .ref 118), (1, .int x1), (2, .int x2)] [] M (PT x)) : Mt X ad ca LY d yX12_weight cX12_weight 3 (some FieldType.int) [.ref 118, .int x1, .int x2] M (PT x) Post := Mt.of (lv := [(0, .ref 118), (1, .int x1), (2, .int x2)]) (by decide +kernel) rfl rfl rfl (wa_pick [0, 1, 2] rfl h)

theorem bX12_laysWeights_0 {X : a_X} {ad : Nat → Nat} {ca : Nat → ClassId} {d : Nat} {Post : Option Value → a_M → a_P → Prop} {x : Nat} {M : a_M} (x1 : Int32)  (hF : (∃ Q1 : Int32 → a_M → Prop, Mt X ad ca LY d yX12_weightOf cX12_weightOf 6 (some FieldType.int) [.ref 118, .int 0, .int x1] M (PT x) (q_i (PT x) Q1) ∧ ∀ v1 M1, Q1 v1 M1 → (∃ Q2 : Int32 → a_M → Prop, Mt X ad ca LY d yX12_weightOf cX12_weightOf 6 (some FieldType.int) [.ref 118, .int 1, .int x1] (ms M1 118 35 v1) (PT x) (q_i (PT x) Q2) ∧ ∀ v2 M2, Q2 v2 M2 → (∃ Q3 : Int32 → a_M → Prop, Mt X ad ca LY d yX12_weightOf cX12_weightOf 6 (some FieldType.int) [.ref 118, .int 2, .int x1] (ms M2 118 36 v2) (PT x) (q_i (PT x) Q3) ∧ ∀ v3 M3, Q3 v3 M3 → Post none (ms M3 118 37 v3) (PT x))))) : WA X ad ca LY RX12 cX12_laysWeights 2 none (d + 1) 0 0 (a_E X ad ca LY Post) 0 [(0, .ref 118), (1, .int x1)] [] M (PT x) := by
  refine wa_aload_n dX12_laysWeights_0 0 rfl rfl ?_
  refine wa_aload_n dX12_laysWeights_1 0 rfl rfl ?_
  refine wa_iconst (v := 0) dX12_laysWeights_2 rfl ?_
  refine wa_iload_n dX12_laysWeights_3 1 rfl rfl ?_
  obtain ⟨Q1, hM9, hF⟩ := hF
  refine wa_callV [.int 0, .int x1] dX12_laysWeights_4 (mmX12_weightOf _ _) mlX12_281 mnX12_weightOf mseX12_weightOf rfl rfl rfl rfl (a_dlt d) rfl rfl hM9 ?_
  rintro r9 M1 P9 ⟨v1, rfl, rfl, hq9⟩
  replace hF := hF v1 M1 hq9
  simp only [Option.toList, List.cons_append, List.nil_append]
  refine wb_puti dX12_laysWeights_7 fkX12_284 fmX12_35 rfl rfl ?_
  refine wa_aload_n dX12_laysWeights_10 0 rfl rfl ?_
  refine wa_aload_n dX12_laysWeights_11 0 rfl rfl ?_
  refine wa_iconst (v := 1) dX12_laysWeights_12 rfl ?_
  refine wa_iload_n dX12_laysWeights_13 1 rfl rfl ?_
  obtain ⟨Q2, hM9, hF⟩ := hF
  refine wa_callV [.int 1, .int x1] dX12_laysWeights_14 (mmX12_weightOf _ _) mlX12_281 mnX12_weightOf mseX12_weightOf rfl rfl rfl rfl (a_dlt d) rfl rfl hM9 ?_
  rintro r9 M2 P9 ⟨v2, rfl, rfl, hq9⟩
  replace hF := hF v2 M2 hq9
  simp only [Option.toList, List.cons_append, List.nil_append]
  refine wb_puti dX12_laysWeights_17 fkX12_287 fmX12_36 rfl rfl ?_
  refine wa_aload_n dX12_laysWeights_20 0 rfl rfl ?_
  refine wa_aload_n dX12_laysWeights_21 0 rfl rfl ?_
  refine wa_iconst (v := 2) dX12_laysWeights_22 rfl ?_
  refine wa_iload_n dX12_laysWeights_23 1 rfl rfl ?_
  obtain ⟨Q3, hM9, hF⟩ := hF
  refine wa_callV [.int 2, .int x1] dX12_laysWeights_24 (mmX12_weightOf _ _) mlX12_281 mnX12_weightOf mseX12_weightOf rfl rfl rfl rfl (a_dlt d) rfl rfl hM9 ?_
  rintro r9 M3 P9 ⟨v3, rfl, rfl, hq9⟩
  replace hF := hF v3 M3 hq9
  simp only [Option.toList, List.cons_append, List.nil_append]
  refine wb_puti dX12_laysWeights_27 fkX12_290 fmX12_37 rfl rfl ?_
  exact wa_vret dX12_laysWeights_30 rfl hF

theorem eX12_laysWeights {X : a_X} {ad : Nat → Nat} {ca : Nat → ClassId} {d : Nat} {Post : Option Value → a_M → a_P → Prop} {x : Nat} {M : a_M} (x1 : Int32) (h : WA X ad ca LY RX12 cX12_laysWeights 2 none d 0 0 (a_E X ad ca LY Post) 0 [(0, .ref 118), (1, .int x1)] [] M (PT x)) : Mt X ad ca LY d yX12_laysWeights cX12_laysWeights 2 none [.ref 118, .int x1] M (PT x) Post := Mt.of (lv := [(0, .ref 118), (1, .int x1)]) (by decide +kernel) rfl rfl rfl (wa_pick [0, 1] rfl h)

theorem bX12_exchanges_0 {X : a_X} {ad : Nat → Nat} {ca : Nat → ClassId} {d : Nat} {kc ks : Nat} {QF : List Frame → Array Value → State → State → Prop} {x : Nat} {M : a_M} (x1 : Int32) (x2 : Int32) (x3 : Int32)  (hF : WA X ad ca LY RX12 cX12_exchanges 6 none (d + 1) kc ks QF 3 [(0, .ref 118), (1, .int x1), (2, .int x2), (3, .int x3), (4, .int 0)] [] M (PT x)) : WA X ad ca LY RX12 cX12_exchanges 6 none (d + 1) kc ks QF 0 [(0, .ref 118), (1, .int x1), (2, .int x2), (3, .int x3)] [] M (PT x) := by
  refine wa_iconst (v := 0) dX12_exchanges_0 rfl ?_
  refine wa_istore (lv' := [(4, .int 0), (0, .ref 118), (1, .int x1), (2, .int x2), (3, .int x3)]) dX12_exchanges_1 rfl rfl ?_
  exact wa_pick [1, 2, 3, 4, 0] rfl hF

theorem bX12_exchanges_3 {X : a_X} {ad : Nat → Nat} {ca : Nat → ClassId} {d : Nat} {kc ks : Nat} {QF : List Frame → Array Value → State → State → Prop} {x : Nat} {M : a_M} (x1 : Int32) (x2 : Int32) (x3 : Int32) (x4 : Int32)  (hF : ((x3 ≤ x4 → WA X ad ca LY RX12 cX12_exchanges 6 none (d + 1) kc ks QF 26 [(0, .ref 118), (1, .int x1), (2, .int x2), (3, .int x3), (4, .int 0)] [] M (PT x)) ∧ (¬ x3 ≤ x4 → (vp_in x4 256 ∧ WA X ad ca LY RX12 cX12_exchanges 6 none (d + 1) kc ks QF 3 [(0, .ref 118), (1, .int x1), (2, .int x2), (3, .int x3), (4, .int (x4 + 1))] [] (ms M 138 x4.toNatClampNeg 0) (PT x))))) : WA X ad ca LY RX12 cX12_exchanges 6 none (d + 1) kc ks QF 3 [(0, .ref 118), (1, .int x1), (2, .int x2), (3, .int x3), (4, .int x4)] [] M (PT x) := by
  refine wa_iload dX12_exchanges_3 4 rfl ?_
  refine wa_iload_n dX12_exchanges_5 3 rfl rfl ?_
  refine wa_icmp_ge (tgt := 23) dX12_exchanges_6 rfl (fun hc => ?_) (fun hc => ?_)
  · replace hF := hF.1 hc
    refine wa_iconst (v := 0) dX12_exchanges_23 rfl ?_
    refine wa_istore (lv' := [(4, .int 0), (0, .ref 118), (1, .int x1), (2, .int x2), (3, .int x3)]) dX12_exchanges_24 rfl rfl ?_
    exact wa_pick [1, 2, 3, 4, 0] rfl hF
  · replace hF := hF.2 hc
    refine wa_aload_n dX12_exchanges_9 0 rfl rfl ?_
    refine wa_getr (r := 138) dX12_exchanges_10 fkX12_75 rfl rfl rfl ?_
    refine wa_iload dX12_exchanges_13 4 rfl ?_
    refine wa_iconst (v := 0) dX12_exchanges_15 rfl ?_
    obtain ⟨hi9, hF⟩ := hF
    refine wb_iast (j := x4.toNatClampNeg) dX12_exchanges_16 rfl hi9 rfl ?_
    refine wa_iinc (v := x4 + 1) (lv' := [(4, .int (x4 + 1)), (0, .ref 118), (1, .int x1), (2, .int x2), (3, .int x3)]) dX12_exchanges_17 4 rfl rfl rfl rfl ?_
    refine wa_goto (tgt := 3) dX12_exchanges_20 rfl ?_
    exact wa_pick [1, 2, 3, 4, 0] rfl hF

theorem bX12_exchanges_26 {X : a_X} {ad : Nat → Nat} {ca : Nat → ClassId} {d : Nat} {kc ks : Nat} {QF : List Frame → Array Value → State → State → Prop} {x : Nat} {M : a_M} (x1 : Int32) (x2 : Int32) (x3 : Int32) (x4 : Int32)  (hF : ((x3 ≤ x4 → WA X ad ca LY RX12 cX12_exchanges 6 none (d + 1) kc ks QF 183 [(0, .ref 118), (3, .int x3), (4, .int 0)] [] M (PT x)) ∧ (¬ x3 ≤ x4 → (vp_in x4 256 ∧ (((M 137 x4.toNatClampNeg) = 0 → WA X ad ca LY RX12 cX12_exchanges 6 none (d + 1) kc ks QF 174 [(0, .ref 118), (1, .int x1), (2, .int x2), (3, .int x3), (4, .int x4)] [] M (PT x)) ∧ (¬ (M 137 x4.toNatClampNeg) = 0 → ((¬ ((x4 >>> (x1 &&& 31)) &&& 1) = ((x4 >>> (x2 &&& 31)) &&& 1) → (vp_in x4 256 ∧ (vp_in x4 256 ∧ (¬ (M 119 2) = 0 ∧ (vp_in x4 256 ∧ (vp_in ((x4 ^^^ ((1 : Int32) <<< (x1 &&& 31))) ^^^ ((1 : Int32) <<< (x2 &&& 31))) 256 ∧ (vp_in x4 256 ∧ (¬ (M 119 2) = 0 ∧ (vp_in ((x4 ^^^ ((1 : Int32) <<< (x1 &&& 31))) ^^^ ((1 : Int32) <<< (x2 &&& 31))) 256 ∧ WA X ad ca LY RX12 cX12_exchanges 6 none (d + 1) kc ks QF 174 [(0, .ref 118), (1, .int x1), (2, .int x2), (3, .int x3), (4, .int x4)] [] (ms (ms M 138 x4.toNatClampNeg (((M 138 x4.toNatClampNeg) + ((M 118 36) * (M 137 x4.toNatClampNeg))) - ((M 138 x4.toNatClampNeg) + ((M 118 36) * (M 137 x4.toNatClampNeg))) / (M 119 2) * (M 119 2))) 138 (((x4 ^^^ ((1 : Int32) <<< (x1 &&& 31))) ^^^ ((1 : Int32) <<< (x2 &&& 31))).toNatClampNeg) ((((ms M 138 x4.toNatClampNeg (((M 138 x4.toNatClampNeg) + ((M 118 36) * (M 137 x4.toNatClampNeg))) - ((M 138 x4.toNatClampNeg) + ((M 118 36) * (M 137 x4.toNatClampNeg))) / (M 119 2) * (M 119 2))) 138 (((x4 ^^^ ((1 : Int32) <<< (x1 &&& 31))) ^^^ ((1 : Int32) <<< (x2 &&& 31))).toNatClampNeg)) + ((M 118 37) * (M 137 x4.toNatClampNeg))) - (((ms M 138 x4.toNatClampNeg (((M 138 x4.toNatClampNeg) + ((M 118 36) * (M 137 x4.toNatClampNeg))) - ((M 138 x4.toNatClampNeg) + ((M 118 36) * (M 137 x4.toNatClampNeg))) / (M 119 2) * (M 119 2))) 138 (((x4 ^^^ ((1 : Int32) <<< (x1 &&& 31))) ^^^ ((1 : Int32) <<< (x2 &&& 31))).toNatClampNeg)) + ((M 118 37) * (M 137 x4.toNatClampNeg))) / (M 119 2) * (M 119 2))) (PT x)))))))))) ∧ (((x4 >>> (x1 &&& 31)) &&& 1) = ((x4 >>> (x2 &&& 31)) &&& 1) → (vp_in x4 256 ∧ (vp_in x4 256 ∧ (¬ (M 119 2) = 0 ∧ (vp_in x4 256 ∧ WA X ad ca LY RX12 cX12_exchanges 6 none (d + 1) kc ks QF 174 [(0, .ref 118), (1, .int x1), (2, .int x2), (3, .int x3), (4, .int x4)] [] (ms M 138 x4.toNatClampNeg (((M 138 x4.toNatClampNeg) + ((M 118 35) * (M 137 x4.toNatClampNeg))) - ((M 138 x4.toNatClampNeg) + ((M 118 35) * (M 137 x4.toNatClampNeg))) / (M 119 2) * (M 119 2))) (PT x))))))))))))) : WA X ad ca LY RX12 cX12_exchanges 6 none (d + 1) kc ks QF 26 [(0, .ref 118), (1, .int x1), (2, .int x2), (3, .int x3), (4, .int x4)] [] M (PT x) := by
  refine wa_iload dX12_exchanges_26 4 rfl ?_
  refine wa_iload_n dX12_exchanges_28 3 rfl rfl ?_
  refine wa_icmp_ge (tgt := 180) dX12_exchanges_29 rfl (fun hc => ?_) (fun hc => ?_)
  · replace hF := hF.1 hc
    refine wa_iconst (v := 0) dX12_exchanges_180 rfl ?_
    refine wa_istore (lv' := [(4, .int 0), (0, .ref 118), (1, .int x1), (2, .int x2), (3, .int x3)]) dX12_exchanges_181 rfl rfl ?_
    exact wa_pick [1, 4, 0] rfl hF
  · replace hF := hF.2 hc
    refine wa_aload_n dX12_exchanges_32 0 rfl rfl ?_
    refine wa_getr (r := 137) dX12_exchanges_33 fkX12_72 rfl rfl rfl ?_
    refine wa_iload dX12_exchanges_36 4 rfl ?_
    obtain ⟨hi9, hF⟩ := hF
    refine wb_iald (j := x4.toNatClampNeg) (v := M 137 x4.toNatClampNeg) dX12_exchanges_38 rfl hi9 rfl rfl ?_
    refine wa_if_eq (tgt := 174) dX12_exchanges_39 rfl (fun hc => ?_) (fun hc => ?_)
    · replace hF := hF.1 hc
      exact hF
    · replace hF := hF.2 hc
      refine wa_iload dX12_exchanges_42 4 rfl ?_
      refine wa_iload_n dX12_exchanges_44 1 rfl rfl ?_
      refine wa_ishr dX12_exchanges_45 ?_
      refine wa_iconst (v := 1) dX12_exchanges_46 rfl ?_
      refine wa_iand dX12_exchanges_47 ?_
      refine wa_iload dX12_exchanges_48 4 rfl ?_
      refine wa_iload_n dX12_exchanges_50 2 rfl rfl ?_
      refine wa_ishr dX12_exchanges_51 ?_
      refine wa_iconst (v := 1) dX12_exchanges_52 rfl ?_
      refine wa_iand dX12_exchanges_53 ?_
      refine wa_icmp_ne (tgt := 94) dX12_exchanges_54 rfl (fun hc => ?_) (fun hc => ?_)
      · replace hF := hF.1 hc
        refine wa_iload dX12_exchanges_94 4 rfl ?_
        refine wa_iconst (v := 1) dX12_exchanges_96 rfl ?_
        refine wa_iload_n dX12_exchanges_97 1 rfl rfl ?_
        refine wa_ishl dX12_exchanges_98 ?_
        refine wa_ixor dX12_exchanges_99 ?_
        refine wa_iconst (v := 1) dX12_exchanges_100 rfl ?_
        refine wa_iload_n dX12_exchanges_101 2 rfl rfl ?_
        refine wa_ishl dX12_exchanges_102 ?_
        refine wa_ixor dX12_exchanges_103 ?_
        refine wa_istore (lv' := [(5, .int ((x4 ^^^ ((1 : Int32) <<< (x1 &&& 31))) ^^^ ((1 : Int32) <<< (x2 &&& 31)))), (0, .ref 118), (1, .int x1), (2, .int x2), (3, .int x3), (4, .int x4)]) dX12_exchanges_104 rfl rfl ?_
        refine wa_aload_n dX12_exchanges_106 1 rfl rfl ?_
        refine wa_getr (r := 138) dX12_exchanges_107 fkX12_75 rfl rfl rfl ?_
        refine wa_iload dX12_exchanges_110 5 rfl ?_
        refine wa_aload_n dX12_exchanges_112 1 rfl rfl ?_
        refine wa_getr (r := 138) dX12_exchanges_113 fkX12_75 rfl rfl rfl ?_
        refine wa_iload dX12_exchanges_116 5 rfl ?_
        obtain ⟨hi9, hF⟩ := hF
        refine wb_iald (j := x4.toNatClampNeg) (v := M 138 x4.toNatClampNeg) dX12_exchanges_118 rfl hi9 rfl rfl ?_
        refine wa_aload_n dX12_exchanges_119 1 rfl rfl ?_
        refine wb_geti (v := M 118 36) dX12_exchanges_120 fkX12_287 rfl rfl rfl ?_
        refine wa_aload_n dX12_exchanges_123 1 rfl rfl ?_
        refine wa_getr (r := 137) dX12_exchanges_124 fkX12_72 rfl rfl rfl ?_
        refine wa_iload dX12_exchanges_127 5 rfl ?_
        obtain ⟨hi9, hF⟩ := hF
        refine wb_iald (j := x4.toNatClampNeg) (v := M 137 x4.toNatClampNeg) dX12_exchanges_129 rfl hi9 rfl rfl ?_
        refine wa_imul dX12_exchanges_130 ?_
        refine wa_iadd dX12_exchanges_131 ?_
        refine wa_aload_n dX12_exchanges_132 1 rfl rfl ?_
        refine wa_getr (r := 119) dX12_exchanges_133 fkX12_7 rfl rfl rfl ?_
        refine wa_iconst (v := 2) dX12_exchanges_136 rfl ?_
        refine wb_iald (j := 2) (v := M 119 2) dX12_exchanges_137 rfl (by unfold vp_in; decide) rfl rfl ?_
        obtain ⟨hn9, hF⟩ := hF
        refine wa_irem dX12_exchanges_138 hn9 ?_
        obtain ⟨hi9, hF⟩ := hF
        refine wb_iast (j := x4.toNatClampNeg) dX12_exchanges_139 rfl hi9 rfl ?_
        refine wa_aload_n dX12_exchanges_140 1 rfl rfl ?_
        refine wa_getr (r := 138) dX12_exchanges_141 fkX12_75 rfl rfl rfl ?_
        refine wa_iload dX12_exchanges_144 0 rfl ?_
        refine wa_aload_n dX12_exchanges_146 1 rfl rfl ?_
        refine wa_getr (r := 138) dX12_exchanges_147 fkX12_75 rfl rfl rfl ?_
        refine wa_iload dX12_exchanges_150 0 rfl ?_
        obtain ⟨hi9, hF⟩ := hF
        refine wb_iald (j := ((x4 ^^^ ((1 : Int32) <<< (x1 &&& 31))) ^^^ ((1 : Int32) <<< (x2 &&& 31))).toNatClampNeg) (v := (ms M 138 x4.toNatClampNeg (((M 138 x4.toNatClampNeg) + ((M 118 36) * (M 137 x4.toNatClampNeg))) - ((M 138 x4.toNatClampNeg) + ((M 118 36) * (M 137 x4.toNatClampNeg))) / (M 119 2) * (M 119 2))) 138 (((x4 ^^^ ((1 : Int32) <<< (x1 &&& 31))) ^^^ ((1 : Int32) <<< (x2 &&& 31))).toNatClampNeg)) dX12_exchanges_152 rfl hi9 rfl rfl ?_
        refine wa_aload_n dX12_exchanges_153 1 rfl rfl ?_
        refine wb_geti (v := M 118 37) dX12_exchanges_154 fkX12_290 rfl rfl ((ms_no M 138 x4.toNatClampNeg (((M 138 x4.toNatClampNeg) + ((M 118 36) * (M 137 x4.toNatClampNeg))) - ((M 138 x4.toNatClampNeg) + ((M 118 36) * (M 137 x4.toNatClampNeg))) / (M 119 2) * (M 119 2)) 118 37 (fun h9 => absurd h9.1 (by decide))).trans rfl) ?_
        refine wa_aload_n dX12_exchanges_157 1 rfl rfl ?_
        refine wa_getr (r := 137) dX12_exchanges_158 fkX12_72 rfl rfl rfl ?_
        refine wa_iload dX12_exchanges_161 5 rfl ?_
        obtain ⟨hi9, hF⟩ := hF
        refine wb_iald (j := x4.toNatClampNeg) (v := M 137 x4.toNatClampNeg) dX12_exchanges_163 rfl hi9 rfl ((ms_no M 138 x4.toNatClampNeg (((M 138 x4.toNatClampNeg) + ((M 118 36) * (M 137 x4.toNatClampNeg))) - ((M 138 x4.toNatClampNeg) + ((M 118 36) * (M 137 x4.toNatClampNeg))) / (M 119 2) * (M 119 2)) 137 x4.toNatClampNeg (fun h9 => absurd h9.1 (by decide))).trans rfl) ?_
        refine wa_imul dX12_exchanges_164 ?_
        refine wa_iadd dX12_exchanges_165 ?_
        refine wa_aload_n dX12_exchanges_166 1 rfl rfl ?_
        refine wa_getr (r := 119) dX12_exchanges_167 fkX12_7 rfl rfl rfl ?_
        refine wa_iconst (v := 2) dX12_exchanges_170 rfl ?_
        refine wb_iald (j := 2) (v := M 119 2) dX12_exchanges_171 rfl (by unfold vp_in; decide) rfl ((ms_no M 138 x4.toNatClampNeg (((M 138 x4.toNatClampNeg) + ((M 118 36) * (M 137 x4.toNatClampNeg))) - ((M 138 x4.toNatClampNeg) + ((M 118 36) * (M 137 x4.toNatClampNeg))) / (M 119 2) * (M 119 2)) 119 2 (fun h9 => absurd h9.1 (by decide))).trans rfl) ?_
        obtain ⟨hn9, hF⟩ := hF
        refine wa_irem dX12_exchanges_172 hn9 ?_
        obtain ⟨hi9, hF⟩ := hF
        refine wb_iast (j := ((x4 ^^^ ((1 : Int32) <<< (x1 &&& 31))) ^^^ ((1 : Int32) <<< (x2 &&& 31))).toNatClampNeg) dX12_exchanges_173 rfl hi9 rfl ?_
        exact wa_pick [1, 2, 3, 4, 5] rfl hF
      · replace hF := hF.2 hc
        refine wa_aload_n dX12_exchanges_57 0 rfl rfl ?_
        refine wa_getr (r := 138) dX12_exchanges_58 fkX12_75 rfl rfl rfl ?_
        refine wa_iload dX12_exchanges_61 4 rfl ?_
        refine wa_aload_n dX12_exchanges_63 0 rfl rfl ?_
        refine wa_getr (r := 138) dX12_exchanges_64 fkX12_75 rfl rfl rfl ?_
        refine wa_iload dX12_exchanges_67 4 rfl ?_
        obtain ⟨hi9, hF⟩ := hF
        refine wb_iald (j := x4.toNatClampNeg) (v := M 138 x4.toNatClampNeg) dX12_exchanges_69 rfl hi9 rfl rfl ?_
        refine wa_aload_n dX12_exchanges_70 0 rfl rfl ?_
        refine wb_geti (v := M 118 35) dX12_exchanges_71 fkX12_284 rfl rfl rfl ?_
        refine wa_aload_n dX12_exchanges_74 0 rfl rfl ?_
        refine wa_getr (r := 137) dX12_exchanges_75 fkX12_72 rfl rfl rfl ?_
        refine wa_iload dX12_exchanges_78 4 rfl ?_
        obtain ⟨hi9, hF⟩ := hF
        refine wb_iald (j := x4.toNatClampNeg) (v := M 137 x4.toNatClampNeg) dX12_exchanges_80 rfl hi9 rfl rfl ?_
        refine wa_imul dX12_exchanges_81 ?_
        refine wa_iadd dX12_exchanges_82 ?_
        refine wa_aload_n dX12_exchanges_83 0 rfl rfl ?_
        refine wa_getr (r := 119) dX12_exchanges_84 fkX12_7 rfl rfl rfl ?_
        refine wa_iconst (v := 2) dX12_exchanges_87 rfl ?_
        refine wb_iald (j := 2) (v := M 119 2) dX12_exchanges_88 rfl (by unfold vp_in; decide) rfl rfl ?_
        obtain ⟨hn9, hF⟩ := hF
        refine wa_irem dX12_exchanges_89 hn9 ?_
        obtain ⟨hi9, hF⟩ := hF
        refine wb_iast (j := x4.toNatClampNeg) dX12_exchanges_90 rfl hi9 rfl ?_
        refine wa_goto (tgt := 174) dX12_exchanges_91 rfl ?_
        exact hF

theorem bX12_exchanges_174 {X : a_X} {ad : Nat → Nat} {ca : Nat → ClassId} {d : Nat} {kc ks : Nat} {QF : List Frame → Array Value → State → State → Prop} {x : Nat} {M : a_M} (x1 : Int32) (x2 : Int32) (x3 : Int32) (x4 : Int32)  (hF : WA X ad ca LY RX12 cX12_exchanges 6 none (d + 1) kc ks QF 26 [(0, .ref 118), (1, .int x1), (2, .int x2), (3, .int x3), (4, .int (x4 + 1))] [] M (PT x)) : WA X ad ca LY RX12 cX12_exchanges 6 none (d + 1) kc ks QF 174 [(0, .ref 118), (1, .int x1), (2, .int x2), (3, .int x3), (4, .int x4)] [] M (PT x) := by
  refine wa_iinc (v := x4 + 1) (lv' := [(4, .int (x4 + 1)), (0, .ref 118), (1, .int x1), (2, .int x2), (3, .int x3)]) dX12_exchanges_174 4 rfl rfl rfl rfl ?_
  refine wa_goto (tgt := 26) dX12_exchanges_177 rfl ?_
  exact wa_pick [1, 2, 3, 4, 0] rfl hF

theorem bX12_exchanges_183 {X : a_X} {ad : Nat → Nat} {ca : Nat → ClassId} {d : Nat} {Post : Option Value → a_M → a_P → Prop} {x : Nat} {M : a_M} (x3 : Int32) (x4 : Int32)  (hF : ((x3 ≤ x4 → Post none M (PT x)) ∧ (¬ x3 ≤ x4 → (vp_in x4 256 ∧ (vp_in x4 256 ∧ WA X ad ca LY RX12 cX12_exchanges 6 none (d + 1) 0 0 (a_E X ad ca LY Post) 183 [(0, .ref 118), (3, .int x3), (4, .int (x4 + 1))] [] (ms M 137 x4.toNatClampNeg (M 138 x4.toNatClampNeg)) (PT x)))))) : WA X ad ca LY RX12 cX12_exchanges 6 none (d + 1) 0 0 (a_E X ad ca LY Post) 183 [(0, .ref 118), (3, .int x3), (4, .int x4)] [] M (PT x) := by
  refine wa_iload dX12_exchanges_183 2 rfl ?_
  refine wa_iload_n dX12_exchanges_185 1 rfl rfl ?_
  refine wa_icmp_ge (tgt := 209) dX12_exchanges_186 rfl (fun hc => ?_) (fun hc => ?_)
  · replace hF := hF.1 hc
    exact wa_vret dX12_exchanges_209 rfl hF
  · replace hF := hF.2 hc
    refine wa_aload_n dX12_exchanges_189 0 rfl rfl ?_
    refine wa_getr (r := 137) dX12_exchanges_190 fkX12_72 rfl rfl rfl ?_
    refine wa_iload dX12_exchanges_193 2 rfl ?_
    refine wa_aload_n dX12_exchanges_195 0 rfl rfl ?_
    refine wa_getr (r := 138) dX12_exchanges_196 fkX12_75 rfl rfl rfl ?_
    refine wa_iload dX12_exchanges_199 2 rfl ?_
    obtain ⟨hi9, hF⟩ := hF
    refine wb_iald (j := x4.toNatClampNeg) (v := M 138 x4.toNatClampNeg) dX12_exchanges_201 rfl hi9 rfl rfl ?_
    obtain ⟨hi9, hF⟩ := hF
    refine wb_iast (j := x4.toNatClampNeg) dX12_exchanges_202 rfl hi9 rfl ?_
    refine wa_iinc (v := x4 + 1) (lv' := [(4, .int (x4 + 1)), (0, .ref 118), (3, .int x3)]) dX12_exchanges_203 2 rfl rfl rfl rfl ?_
    refine wa_goto (tgt := 183) dX12_exchanges_206 rfl ?_
    exact wa_pick [1, 2, 0] rfl hF

theorem eX12_exchanges {X : a_X} {ad : Nat → Nat} {ca : Nat → ClassId} {d : Nat} {Post : Option Value → a_M → a_P → Prop} {x : Nat} {M : a_M} (x1 : Int32) (x2 : Int32) (x3 : Int32) (h : WA X ad ca LY RX12 cX12_exchanges 6 none d 0 0 (a_E X ad ca LY Post) 0 [(0, .ref 118), (1, .int x1), (2, .int x2), (3, .int x3)] [] M (PT x)) : Mt X ad ca LY d yX12_exchanges cX12_exchanges 6 none [.ref 118, .int x1, .int x2, .int x3] M (PT x) Post := Mt.of (lv := [(0, .ref 118), (1, .int x1), (2, .int x2), (3, .int x3)]) (by decide +kernel) rfl rfl rfl (wa_pick [0, 1, 2, 3] rfl h)

theorem bX12_rowIs_0 {X : a_X} {ad : Nat → Nat} {ca : Nat → ClassId} {d : Nat} {kc ks : Nat} {QF : List Frame → Array Value → State → State → Prop} {x : Nat} {M : a_M} (x1 : Int32) (x2 : Int32)  (hF : WA X ad ca LY RX12 cX12_rowIs 4 none (d + 1) kc ks QF 2 [(0, .ref 118), (1, .int x1), (2, .int x2), (3, .int 0)] [] M (PT x)) : WA X ad ca LY RX12 cX12_rowIs 4 none (d + 1) kc ks QF 0 [(0, .ref 118), (1, .int x1), (2, .int x2)] [] M (PT x) := by
  refine wa_iconst (v := 0) dX12_rowIs_0 rfl ?_
  refine wa_istore_n (lv' := [(3, .int 0), (0, .ref 118), (1, .int x1), (2, .int x2)]) dX12_rowIs_1 rfl rfl rfl ?_
  exact wa_pick [1, 2, 3, 0] rfl hF

theorem bX12_rowIs_2 {X : a_X} {ad : Nat → Nat} {ca : Nat → ClassId} {d : Nat} {Post : Option Value → a_M → a_P → Prop} {x : Nat} {M : a_M} (x1 : Int32) (x2 : Int32) (x3 : Int32)  (hF : ((x2 ≤ x3 → Post none M (PT x)) ∧ (¬ x2 ≤ x3 → ((¬ x3 = x1 → (vp_in x3 256 ∧ WA X ad ca LY RX12 cX12_rowIs 4 none (d + 1) 0 0 (a_E X ad ca LY Post) 2 [(0, .ref 118), (1, .int x1), (2, .int x2), (3, .int (x3 + 1))] [] (ms M 137 x3.toNatClampNeg 0) (PT x))) ∧ (x3 = x1 → (vp_in x3 256 ∧ WA X ad ca LY RX12 cX12_rowIs 4 none (d + 1) 0 0 (a_E X ad ca LY Post) 2 [(0, .ref 118), (1, .int x1), (2, .int x2), (3, .int (x3 + 1))] [] (ms M 137 x3.toNatClampNeg 1) (PT x))))))) : WA X ad ca LY RX12 cX12_rowIs 4 none (d + 1) 0 0 (a_E X ad ca LY Post) 2 [(0, .ref 118), (1, .int x1), (2, .int x2), (3, .int x3)] [] M (PT x) := by
  refine wa_iload_n dX12_rowIs_2 3 rfl rfl ?_
  refine wa_iload_n dX12_rowIs_3 2 rfl rfl ?_
  refine wa_icmp_ge (tgt := 29) dX12_rowIs_4 rfl (fun hc => ?_) (fun hc => ?_)
  · replace hF := hF.1 hc
    exact wa_vret dX12_rowIs_29 rfl hF
  · replace hF := hF.2 hc
    refine wa_aload_n dX12_rowIs_7 0 rfl rfl ?_
    refine wa_getr (r := 137) dX12_rowIs_8 fkX12_72 rfl rfl rfl ?_
    refine wa_iload_n dX12_rowIs_11 3 rfl rfl ?_
    refine wa_iload_n dX12_rowIs_12 3 rfl rfl ?_
    refine wa_iload_n dX12_rowIs_13 1 rfl rfl ?_
    refine wa_icmp_ne (tgt := 21) dX12_rowIs_14 rfl (fun hc => ?_) (fun hc => ?_)
    · replace hF := hF.1 hc
      refine wa_iconst (v := 0) dX12_rowIs_21 rfl ?_
      obtain ⟨hi9, hF⟩ := hF
      refine wb_iast (j := x3.toNatClampNeg) dX12_rowIs_22 rfl hi9 rfl ?_
      refine wa_iinc (v := x3 + 1) (lv' := [(3, .int (x3 + 1)), (0, .ref 118), (1, .int x1), (2, .int x2)]) dX12_rowIs_23 3 rfl rfl rfl rfl ?_
      refine wa_goto (tgt := 2) dX12_rowIs_26 rfl ?_
      exact wa_pick [1, 2, 3, 0] rfl hF
    · replace hF := hF.2 hc
      refine wa_iconst (v := 1) dX12_rowIs_17 rfl ?_
      refine wa_goto (tgt := 22) dX12_rowIs_18 rfl ?_
      obtain ⟨hi9, hF⟩ := hF
      refine wb_iast (j := x3.toNatClampNeg) dX12_rowIs_22 rfl hi9 rfl ?_
      refine wa_iinc (v := x3 + 1) (lv' := [(3, .int (x3 + 1)), (0, .ref 118), (1, .int x1), (2, .int x2)]) dX12_rowIs_23 3 rfl rfl rfl rfl ?_
      refine wa_goto (tgt := 2) dX12_rowIs_26 rfl ?_
      exact wa_pick [1, 2, 3, 0] rfl hF

theorem eX12_rowIs {X : a_X} {ad : Nat → Nat} {ca : Nat → ClassId} {d : Nat} {Post : Option Value → a_M → a_P → Prop} {x : Nat} {M : a_M} (x1 : Int32) (x2 : Int32) (h : WA X ad ca LY RX12 cX12_rowIs 4 none d 0 0 (a_E X ad ca LY Post) 0 [(0, .ref 118), (1, .int x1), (2, .int x2)] [] M (PT x)) : Mt X ad ca LY d yX12_rowIs cX12_rowIs 4 none [.ref 118, .int x1, .int x2] M (PT x) Post := Mt.of (lv := [(0, .ref 118), (1, .int x1), (2, .int x2)]) (by decide +kernel) rfl rfl rfl (wa_pick [0, 1, 2] rfl h)
