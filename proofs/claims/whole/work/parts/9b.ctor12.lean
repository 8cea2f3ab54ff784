/-! ALLOCATION 5: the reference's constructor -/
theorem tk_all : LY.take 153 = LY := List.take_of_length_le (by rw [LY_len]; omega)
def zcl (x : Int32) : Int32 := if 2 ≤ x then (if x ≤ 7 then x else 7) else 2
theorem zcl_1 {x : Int32} (h : ¬ 2 ≤ x) : zcl x = 2 := by unfold zcl; rw [if_neg h]
theorem zcl_2 {x : Int32} (h : 2 ≤ x) (h2 : ¬ x ≤ 7) : zcl x = 7 := by unfold zcl; rw [if_pos h, if_neg h2]
theorem zcl_3 {x : Int32} (h : 2 ≤ x) (h2 : x ≤ 7) : zcl x = x := by unfold zcl; rw [if_pos h, if_pos h2]
theorem olX12_1 : Cond.methodLink RX12 1 objectInit ∈ a_tb := a_in 1207 (by decide +kernel) rfl
theorem arrc_byte : Cond.arrayClass .byte ∈ a_tb := a_in 723 (by decide +kernel) rfl
theorem ffX12_0 : a_FF RX12 12 0 := fun C T N h => by cases h; exact ⟨rfl, rfl⟩
theorem ffX12_1 : a_FF RX12 12 1 := fun C T N h => by cases h; exact ⟨rfl, rfl⟩
theorem ffX12_2 : a_FF RX12 12 2 := fun C T N h => by cases h; exact ⟨rfl, rfl⟩
theorem ffX12_6 : a_FF RX12 12 6 := fun C T N h => by cases h; exact ⟨rfl, rfl⟩
theorem ffX12_7 : a_FF RX12 12 7 := fun C T N h => by cases h; exact ⟨rfl, rfl⟩
theorem ffX12_8 : a_FF RX12 12 8 := fun C T N h => by cases h; exact ⟨rfl, rfl⟩
theorem ffX12_9 : a_FF RX12 12 9 := fun C T N h => by cases h; exact ⟨rfl, rfl⟩
theorem ffX12_10 : a_FF RX12 12 10 := fun C T N h => by cases h; exact ⟨rfl, rfl⟩
theorem ffX12_11 : a_FF RX12 12 11 := fun C T N h => by cases h; exact ⟨rfl, rfl⟩
theorem ffX12_21 : a_FF RX12 12 21 := fun C T N h => by cases h; exact ⟨rfl, rfl⟩
theorem ffX12_23 : a_FF RX12 12 23 := fun C T N h => by cases h; exact ⟨rfl, rfl⟩
theorem ffX12_24 : a_FF RX12 12 24 := fun C T N h => by cases h; exact ⟨rfl, rfl⟩
theorem ffX12_28 : a_FF RX12 12 28 := fun C T N h => by cases h; exact ⟨rfl, rfl⟩
theorem ffX12_29 : a_FF RX12 12 29 := fun C T N h => by cases h; exact ⟨rfl, rfl⟩
theorem ffX12_30 : a_FF RX12 12 30 := fun C T N h => by cases h; exact ⟨rfl, rfl⟩
theorem ffX12_32 : a_FF RX12 12 32 := fun C T N h => by cases h; exact ⟨rfl, rfl⟩
theorem ffX12_33 : a_FF RX12 12 33 := fun C T N h => by cases h; exact ⟨rfl, rfl⟩
theorem ffX12_34 : a_FF RX12 12 34 := fun C T N h => by cases h; exact ⟨rfl, rfl⟩
theorem ffX12_38 : a_FF RX12 12 38 := fun C T N h => by cases h; exact ⟨rfl, rfl⟩
theorem ffX12_39 : a_FF RX12 12 39 := fun C T N h => by cases h; exact ⟨rfl, rfl⟩
theorem ffX12_40 : a_FF RX12 12 40 := fun C T N h => by cases h; exact ⟨rfl, rfl⟩
theorem ffX12_41 : a_FF RX12 12 41 := fun C T N h => by cases h; exact ⟨rfl, rfl⟩
theorem ffX12_42 : a_FF RX12 12 42 := fun C T N h => by cases h; exact ⟨rfl, rfl⟩
theorem ffX12_43 : a_FF RX12 12 43 := fun C T N h => by cases h; exact ⟨rfl, rfl⟩
theorem ffX12_45 : a_FF RX12 12 45 := fun C T N h => by cases h; exact ⟨rfl, rfl⟩
theorem ffX12_46 : a_FF RX12 12 46 := fun C T N h => by cases h; exact ⟨rfl, rfl⟩
theorem ffX12_47 : a_FF RX12 12 47 := fun C T N h => by cases h; exact ⟨rfl, rfl⟩
theorem ffX12_48 : a_FF RX12 12 48 := fun C T N h => by cases h; exact ⟨rfl, rfl⟩
theorem ffX12_49 : a_FF RX12 12 49 := fun C T N h => by cases h; exact ⟨rfl, rfl⟩
theorem ffX12_50 : a_FF RX12 12 50 := fun C T N h => by cases h; exact ⟨rfl, rfl⟩
theorem ffX12_51 : a_FF RX12 12 51 := fun C T N h => by cases h; exact ⟨rfl, rfl⟩
theorem ffX12_52 : a_FF RX12 12 52 := fun C T N h => by cases h; exact ⟨rfl, rfl⟩
theorem ffX12_53 : a_FF RX12 12 53 := fun C T N h => by cases h; exact ⟨rfl, rfl⟩
theorem ffX12_54 : a_FF RX12 12 54 := fun C T N h => by cases h; exact ⟨rfl, rfl⟩
def PL12 : List (Nat × Nat × Nat) := [(118, 54, 153), (118, 53, 152), (118, 52, 151), (118, 51, 150), (118, 50, 149), (118, 49, 148), (118, 48, 147), (118, 47, 146), (118, 46, 145), (118, 45, 144), (118, 43, 143), (118, 42, 142), (118, 41, 141), (118, 40, 140), (118, 39, 139), (118, 38, 138), (118, 34, 137), (118, 33, 136), (118, 32, 135), (118, 30, 134), (118, 29, 133), (118, 28, 132), (118, 24, 131), (118, 23, 130), (118, 21, 129), (118, 11, 128), (118, 10, 127), (118, 9, 126), (118, 8, 125), (118, 7, 124), (118, 6, 123), (118, 2, 122), (118, 1, 121), (118, 0, 120)]
set_option maxRecDepth 100000 in
theorem ct118 {X : a_X} {ad : Nat → Nat} {ca : Nat → ClassId} {M : a_M} {P : a_P} (x1 : Int32) (hP : pw P [(118, 54, 153), (118, 53, 152), (118, 52, 151), (118, 51, 150), (118, 50, 149), (118, 49, 148), (118, 48, 147), (118, 47, 146), (118, 46, 145), (118, 45, 144), (118, 43, 143), (118, 42, 142), (118, 41, 141), (118, 40, 140), (118, 39, 139), (118, 38, 138), (118, 34, 137), (118, 33, 136), (118, 32, 135), (118, 30, 134), (118, 29, 133), (118, 28, 132), (118, 24, 131), (118, 23, 130), (118, 21, 129), (118, 11, 128), (118, 10, 127), (118, 9, 126), (118, 8, 125), (118, 7, 124), (118, 6, 123), (118, 2, 122), (118, 1, 121), (118, 0, 120)] = PT 6) : Mb X ad ca 119 2 34 14456 yX12_init cX12_init 2 [.ref 118, .int x1] M P 153 (fun M1 P1 => M1 = mf (mw M [(119, 6, (-1)), (119, 4, 1), (119, 3, 1), (119, 2, 13), (119, 1, 1), (119, 0, zcl x1), (118, 5, (-1)), (118, 4, (-1))]) 120 0 (mw M [(119, 6, (-1)), (119, 4, 1), (119, 3, 1), (119, 2, 13), (119, 1, 1), (119, 0, zcl x1), (118, 5, (-1)), (118, 4, (-1))] 119) 2698 ∧ P1 = PT 6) := by
  refine Mb.of (lv := [(0, .ref 118), (1, .int x1)]) (by decide +kernel) rfl rfl rfl rfl (wn_start ?_)
  refine wn_aload_n dX12_init_0 0 rfl rfl ?_
  refine wn_obj dX12_init_1 olX12_1 oi_in oi_cd rfl rfl ?_
  refine wn_aload_n dX12_init_4 0 rfl rfl ?_
  refine wn_sipush (v := 2698) dX12_init_5 rfl ?_
  refine wn_newa (kd := 100) (N := 2698) dX12_init_8 rfl rfl ⟨rfl, rfl⟩ arrc_int rfl (by decide) rfl rfl rfl rfl rfl rfl ?_
  refine wn_pf dX12_init_10 fkX12_7 ffX12_0 trivial rfl rfl (by decide) (fun _ => rfl) (fun _ => rfl) (by decide) ?_
  refine wn_aload_n dX12_init_13 0 rfl rfl ?_
  refine wn_sipush (v := 2698) dX12_init_14 rfl ?_
  refine wn_newa (kd := 100) (N := 2698) dX12_init_17 rfl rfl ⟨rfl, rfl⟩ arrc_int rfl (by decide) rfl rfl rfl rfl rfl rfl ?_
  refine wn_pf dX12_init_19 fkX12_13 ffX12_1 trivial rfl rfl (by decide) (fun _ => rfl) (fun _ => rfl) (by decide) ?_
  refine wn_aload_n dX12_init_22 0 rfl rfl ?_
  refine wn_sipush (v := 300) dX12_init_23 rfl ?_
  refine wn_newa (kd := 101) (N := 300) dX12_init_26 rfl rfl ⟨rfl, rfl⟩ arrc_byte rfl (by decide) rfl rfl rfl rfl rfl rfl ?_
  refine wn_pf dX12_init_28 fkX12_16 ffX12_2 trivial rfl rfl (by decide) (fun _ => rfl) (fun _ => rfl) (by decide) ?_
  refine wn_aload_n dX12_init_31 0 rfl rfl ?_
  refine wn_iconst (v := (-1)) dX12_init_32 rfl ?_
  refine wn_pi dX12_init_33 fkX12_20 fmX12_4 rfl rfl (by decide) rfl rfl ?_
  refine wn_aload_n dX12_init_36 0 rfl rfl ?_
  refine wn_iconst (v := (-1)) dX12_init_37 rfl ?_
  refine wn_pi dX12_init_38 fkX12_24 fmX12_5 rfl rfl (by decide) rfl rfl ?_
  refine wn_aload_n dX12_init_41 0 rfl rfl ?_
  refine wn_iconst (v := 4) dX12_init_42 rfl ?_
  refine wn_newa (kd := 100) (N := 4) dX12_init_43 rfl rfl ⟨rfl, rfl⟩ arrc_int rfl (by decide) rfl rfl rfl rfl rfl rfl ?_
  refine wn_pf dX12_init_45 fkX12_27 ffX12_6 trivial rfl rfl (by decide) (fun _ => rfl) (fun _ => rfl) (by decide) ?_
  refine wn_aload_n dX12_init_48 0 rfl rfl ?_
  refine wn_bipush (v := 120) dX12_init_49 rfl ?_
  refine wn_newa (kd := 100) (N := 120) dX12_init_51 rfl rfl ⟨rfl, rfl⟩ arrc_int rfl (by decide) rfl rfl rfl rfl rfl rfl ?_
  refine wn_pf dX12_init_53 fkX12_30 ffX12_7 trivial rfl rfl (by decide) (fun _ => rfl) (fun _ => rfl) (by decide) ?_
  refine wn_aload_n dX12_init_56 0 rfl rfl ?_
  refine wn_bipush (v := 120) dX12_init_57 rfl ?_
  refine wn_newa (kd := 100) (N := 120) dX12_init_59 rfl rfl ⟨rfl, rfl⟩ arrc_int rfl (by decide) rfl rfl rfl rfl rfl rfl ?_
  refine wn_pf dX12_init_61 fkX12_33 ffX12_8 trivial rfl rfl (by decide) (fun _ => rfl) (fun _ => rfl) (by decide) ?_
  refine wn_aload_n dX12_init_64 0 rfl rfl ?_
  refine wn_bipush (v := 120) dX12_init_65 rfl ?_
  refine wn_newa (kd := 100) (N := 120) dX12_init_67 rfl rfl ⟨rfl, rfl⟩ arrc_int rfl (by decide) rfl rfl rfl rfl rfl rfl ?_
  refine wn_pf dX12_init_69 fkX12_36 ffX12_9 trivial rfl rfl (by decide) (fun _ => rfl) (fun _ => rfl) (by decide) ?_
  refine wn_aload_n dX12_init_72 0 rfl rfl ?_
  refine wn_sipush (v := 1600) dX12_init_73 rfl ?_
  refine wn_newa (kd := 100) (N := 1600) dX12_init_76 rfl rfl ⟨rfl, rfl⟩ arrc_int rfl (by decide) rfl rfl rfl rfl rfl rfl ?_
  refine wn_pf dX12_init_78 fkX12_39 ffX12_10 trivial rfl rfl (by decide) (fun _ => rfl) (fun _ => rfl) (by decide) ?_
  refine wn_aload_n dX12_init_81 0 rfl rfl ?_
  refine wn_sipush (v := 1600) dX12_init_82 rfl ?_
  refine wn_newa (kd := 100) (N := 1600) dX12_init_85 rfl rfl ⟨rfl, rfl⟩ arrc_int rfl (by decide) rfl rfl rfl rfl rfl rfl ?_
  refine wn_pf dX12_init_87 fkX12_42 ffX12_11 trivial rfl rfl (by decide) (fun _ => rfl) (fun _ => rfl) (by decide) ?_
  refine wn_aload_n dX12_init_90 0 rfl rfl ?_
  refine wn_bipush (v := 40) dX12_init_91 rfl ?_
  refine wn_newa (kd := 100) (N := 40) dX12_init_93 rfl rfl ⟨rfl, rfl⟩ arrc_int rfl (by decide) rfl rfl rfl rfl rfl rfl ?_
  refine wn_pf dX12_init_95 fkX12_45 ffX12_21 trivial rfl rfl (by decide) (fun _ => rfl) (fun _ => rfl) (by decide) ?_
  refine wn_aload_n dX12_init_98 0 rfl rfl ?_
  refine wn_bipush (v := 80) dX12_init_99 rfl ?_
  refine wn_newa (kd := 100) (N := 80) dX12_init_101 rfl rfl ⟨rfl, rfl⟩ arrc_int rfl (by decide) rfl rfl rfl rfl rfl rfl ?_
  refine wn_pf dX12_init_103 fkX12_48 ffX12_23 trivial rfl rfl (by decide) (fun _ => rfl) (fun _ => rfl) (by decide) ?_
  refine wn_aload_n dX12_init_106 0 rfl rfl ?_
  refine wn_bipush (v := 80) dX12_init_107 rfl ?_
  refine wn_newa (kd := 100) (N := 80) dX12_init_109 rfl rfl ⟨rfl, rfl⟩ arrc_int rfl (by decide) rfl rfl rfl rfl rfl rfl ?_
  refine wn_pf dX12_init_111 fkX12_51 ffX12_24 trivial rfl rfl (by decide) (fun _ => rfl) (fun _ => rfl) (by decide) ?_
  refine wn_aload_n dX12_init_114 0 rfl rfl ?_
  refine wn_bipush (v := 30) dX12_init_115 rfl ?_
  refine wn_newa (kd := 100) (N := 30) dX12_init_117 rfl rfl ⟨rfl, rfl⟩ arrc_int rfl (by decide) rfl rfl rfl rfl rfl rfl ?_
  refine wn_pf dX12_init_119 fkX12_54 ffX12_28 trivial rfl rfl (by decide) (fun _ => rfl) (fun _ => rfl) (by decide) ?_
  refine wn_aload_n dX12_init_122 0 rfl rfl ?_
  refine wn_bipush (v := 30) dX12_init_123 rfl ?_
  refine wn_newa (kd := 100) (N := 30) dX12_init_125 rfl rfl ⟨rfl, rfl⟩ arrc_int rfl (by decide) rfl rfl rfl rfl rfl rfl ?_
  refine wn_pf dX12_init_127 fkX12_57 ffX12_29 trivial rfl rfl (by decide) (fun _ => rfl) (fun _ => rfl) (by decide) ?_
  refine wn_aload_n dX12_init_130 0 rfl rfl ?_
  refine wn_bipush (v := 30) dX12_init_131 rfl ?_
  refine wn_newa (kd := 100) (N := 30) dX12_init_133 rfl rfl ⟨rfl, rfl⟩ arrc_int rfl (by decide) rfl rfl rfl rfl rfl rfl ?_
  refine wn_pf dX12_init_135 fkX12_60 ffX12_30 trivial rfl rfl (by decide) (fun _ => rfl) (fun _ => rfl) (by decide) ?_
  refine wn_aload_n dX12_init_138 0 rfl rfl ?_
  refine wn_sipush (v := 400) dX12_init_139 rfl ?_
  refine wn_newa (kd := 100) (N := 400) dX12_init_142 rfl rfl ⟨rfl, rfl⟩ arrc_int rfl (by decide) rfl rfl rfl rfl rfl rfl ?_
  refine wn_pf dX12_init_144 fkX12_63 ffX12_32 trivial rfl rfl (by decide) (fun _ => rfl) (fun _ => rfl) (by decide) ?_
  refine wn_aload_n dX12_init_147 0 rfl rfl ?_
  refine wn_sipush (v := 400) dX12_init_148 rfl ?_
  refine wn_newa (kd := 100) (N := 400) dX12_init_151 rfl rfl ⟨rfl, rfl⟩ arrc_int rfl (by decide) rfl rfl rfl rfl rfl rfl ?_
  refine wn_pf dX12_init_153 fkX12_66 ffX12_33 trivial rfl rfl (by decide) (fun _ => rfl) (fun _ => rfl) (by decide) ?_
  refine wn_aload_n dX12_init_156 0 rfl rfl ?_
  refine wn_sipush (v := 200) dX12_init_157 rfl ?_
  refine wn_newa (kd := 100) (N := 200) dX12_init_160 rfl rfl ⟨rfl, rfl⟩ arrc_int rfl (by decide) rfl rfl rfl rfl rfl rfl ?_
  refine wn_pf dX12_init_162 fkX12_69 ffX12_34 trivial rfl rfl (by decide) (fun _ => rfl) (fun _ => rfl) (by decide) ?_
  refine wn_aload_n dX12_init_165 0 rfl rfl ?_
  refine wn_sipush (v := 256) dX12_init_166 rfl ?_
  refine wn_newa (kd := 100) (N := 256) dX12_init_169 rfl rfl ⟨rfl, rfl⟩ arrc_int rfl (by decide) rfl rfl rfl rfl rfl rfl ?_
  refine wn_pf dX12_init_171 fkX12_72 ffX12_38 trivial rfl rfl (by decide) (fun _ => rfl) (fun _ => rfl) (by decide) ?_
  refine wn_aload_n dX12_init_174 0 rfl rfl ?_
  refine wn_sipush (v := 256) dX12_init_175 rfl ?_
  refine wn_newa (kd := 100) (N := 256) dX12_init_178 rfl rfl ⟨rfl, rfl⟩ arrc_int rfl (by decide) rfl rfl rfl rfl rfl rfl ?_
  refine wn_pf dX12_init_180 fkX12_75 ffX12_39 trivial rfl rfl (by decide) (fun _ => rfl) (fun _ => rfl) (by decide) ?_
  refine wn_aload_n dX12_init_183 0 rfl rfl ?_
  refine wn_sipush (v := 256) dX12_init_184 rfl ?_
  refine wn_newa (kd := 100) (N := 256) dX12_init_187 rfl rfl ⟨rfl, rfl⟩ arrc_int rfl (by decide) rfl rfl rfl rfl rfl rfl ?_
  refine wn_pf dX12_init_189 fkX12_78 ffX12_40 trivial rfl rfl (by decide) (fun _ => rfl) (fun _ => rfl) (by decide) ?_
  refine wn_aload_n dX12_init_192 0 rfl rfl ?_
  refine wn_sipush (v := 128) dX12_init_193 rfl ?_
  refine wn_newa (kd := 100) (N := 128) dX12_init_196 rfl rfl ⟨rfl, rfl⟩ arrc_int rfl (by decide) rfl rfl rfl rfl rfl rfl ?_
  refine wn_pf dX12_init_198 fkX12_81 ffX12_41 trivial rfl rfl (by decide) (fun _ => rfl) (fun _ => rfl) (by decide) ?_
  refine wn_aload_n dX12_init_201 0 rfl rfl ?_
  refine wn_sipush (v := 128) dX12_init_202 rfl ?_
  refine wn_newa (kd := 100) (N := 128) dX12_init_205 rfl rfl ⟨rfl, rfl⟩ arrc_int rfl (by decide) rfl rfl rfl rfl rfl rfl ?_
  refine wn_pf dX12_init_207 fkX12_84 ffX12_42 trivial rfl rfl (by decide) (fun _ => rfl) (fun _ => rfl) (by decide) ?_
  refine wn_aload_n dX12_init_210 0 rfl rfl ?_
  refine wn_sipush (v := 128) dX12_init_211 rfl ?_
  refine wn_newa (kd := 100) (N := 128) dX12_init_214 rfl rfl ⟨rfl, rfl⟩ arrc_int rfl (by decide) rfl rfl rfl rfl rfl rfl ?_
  refine wn_pf dX12_init_216 fkX12_87 ffX12_43 trivial rfl rfl (by decide) (fun _ => rfl) (fun _ => rfl) (by decide) ?_
  refine wn_aload_n dX12_init_219 0 rfl rfl ?_
  refine wn_bipush (v := 35) dX12_init_220 rfl ?_
  refine wn_newa (kd := 100) (N := 35) dX12_init_222 rfl rfl ⟨rfl, rfl⟩ arrc_int rfl (by decide) rfl rfl rfl rfl rfl rfl ?_
  refine wn_pf dX12_init_224 fkX12_90 ffX12_45 trivial rfl rfl (by decide) (fun _ => rfl) (fun _ => rfl) (by decide) ?_
  refine wn_aload_n dX12_init_227 0 rfl rfl ?_
  refine wn_sipush (v := 128) dX12_init_228 rfl ?_
  refine wn_newa (kd := 100) (N := 128) dX12_init_231 rfl rfl ⟨rfl, rfl⟩ arrc_int rfl (by decide) rfl rfl rfl rfl rfl rfl ?_
  refine wn_pf dX12_init_233 fkX12_93 ffX12_46 trivial rfl rfl (by decide) (fun _ => rfl) (fun _ => rfl) (by decide) ?_
  refine wn_aload_n dX12_init_236 0 rfl rfl ?_
  refine wn_sipush (v := 1225) dX12_init_237 rfl ?_
  refine wn_newa (kd := 100) (N := 1225) dX12_init_240 rfl rfl ⟨rfl, rfl⟩ arrc_int rfl (by decide) rfl rfl rfl rfl rfl rfl ?_
  refine wn_pf dX12_init_242 fkX12_96 ffX12_47 trivial rfl rfl (by decide) (fun _ => rfl) (fun _ => rfl) (by decide) ?_
  refine wn_aload_n dX12_init_245 0 rfl rfl ?_
  refine wn_sipush (v := 1296) dX12_init_246 rfl ?_
  refine wn_newa (kd := 100) (N := 1296) dX12_init_249 rfl rfl ⟨rfl, rfl⟩ arrc_int rfl (by decide) rfl rfl rfl rfl rfl rfl ?_
  refine wn_pf dX12_init_251 fkX12_99 ffX12_48 trivial rfl rfl (by decide) (fun _ => rfl) (fun _ => rfl) (by decide) ?_
  refine wn_aload_n dX12_init_254 0 rfl rfl ?_
  refine wn_bipush (v := 36) dX12_init_255 rfl ?_
  refine wn_newa (kd := 100) (N := 36) dX12_init_257 rfl rfl ⟨rfl, rfl⟩ arrc_int rfl (by decide) rfl rfl rfl rfl rfl rfl ?_
  refine wn_pf dX12_init_259 fkX12_102 ffX12_49 trivial rfl rfl (by decide) (fun _ => rfl) (fun _ => rfl) (by decide) ?_
  refine wn_aload_n dX12_init_262 0 rfl rfl ?_
  refine wn_iconst (v := 3) dX12_init_263 rfl ?_
  refine wn_newa (kd := 100) (N := 3) dX12_init_264 rfl rfl ⟨rfl, rfl⟩ arrc_int rfl (by decide) rfl rfl rfl rfl rfl rfl ?_
  refine wn_pf dX12_init_266 fkX12_105 ffX12_50 trivial rfl rfl (by decide) (fun _ => rfl) (fun _ => rfl) (by decide) ?_
  refine wn_aload_n dX12_init_269 0 rfl rfl ?_
  refine wn_bipush (v := 12) dX12_init_270 rfl ?_
  refine wn_newa (kd := 100) (N := 12) dX12_init_272 rfl rfl ⟨rfl, rfl⟩ arrc_int rfl (by decide) rfl rfl rfl rfl rfl rfl ?_
  refine wn_pf dX12_init_274 fkX12_108 ffX12_51 trivial rfl rfl (by decide) (fun _ => rfl) (fun _ => rfl) (by decide) ?_
  refine wn_aload_n dX12_init_277 0 rfl rfl ?_
  refine wn_bipush (v := 8) dX12_init_278 rfl ?_
  refine wn_newa (kd := 100) (N := 8) dX12_init_280 rfl rfl ⟨rfl, rfl⟩ arrc_int rfl (by decide) rfl rfl rfl rfl rfl rfl ?_
  refine wn_pf dX12_init_282 fkX12_111 ffX12_52 trivial rfl rfl (by decide) (fun _ => rfl) (fun _ => rfl) (by decide) ?_
  refine wn_aload_n dX12_init_285 0 rfl rfl ?_
  refine wn_iconst (v := 3) dX12_init_286 rfl ?_
  refine wn_newa (kd := 100) (N := 3) dX12_init_287 rfl rfl ⟨rfl, rfl⟩ arrc_int rfl (by decide) rfl rfl rfl rfl rfl rfl ?_
  refine wn_pf dX12_init_289 fkX12_114 ffX12_53 trivial rfl rfl (by decide) (fun _ => rfl) (fun _ => rfl) (by decide) ?_
  refine wn_aload_n dX12_init_292 0 rfl rfl ?_
  refine wn_bipush (v := 8) dX12_init_293 rfl ?_
  refine wn_newa (kd := 100) (N := 8) dX12_init_295 rfl rfl ⟨rfl, rfl⟩ arrc_int rfl (by decide) rfl rfl rfl rfl rfl rfl ?_
  refine wn_pf dX12_init_297 fkX12_117 ffX12_54 trivial rfl rfl (by decide) (fun _ => rfl) (fun _ => rfl) (by decide) ?_
  refine wn_aload_n dX12_init_300 0 rfl rfl ?_
  refine wn_getr (r := 119) dX12_init_301 fkX12_7 rfl rfl (by decide) rfl ?_
  refine wn_iconst (v := 0) dX12_init_304 rfl ?_
  refine wn_iload_n dX12_init_305 1 rfl rfl ?_
  refine wn_iconst (v := 2) dX12_init_306 rfl ?_
  refine wn_icmp_ge (tgt := 314) dX12_init_307 rfl (fun hc307 => ?_) (fun hc307 => ?_)
  · skip
    refine wn_iload_n dX12_init_314 1 rfl rfl ?_
    refine wn_bipush (v := 7) dX12_init_315 rfl ?_
    refine wn_icmp_le (tgt := 325) dX12_init_317 rfl (fun hc317 => ?_) (fun hc317 => ?_)
    · rw [zcl_3 hc307 hc317]
      refine wn_iload_n dX12_init_325 1 rfl rfl ?_
      refine wn_is (j := 0) dX12_init_326 rfl (by decide) (by unfold vp_in; decide) rfl ?_
      refine wn_aload_n dX12_init_327 0 rfl rfl ?_
      refine wn_getr (r := 119) dX12_init_328 fkX12_7 rfl rfl (by decide) rfl ?_
      refine wn_iconst (v := 1) dX12_init_331 rfl ?_
      refine wn_iconst (v := 1) dX12_init_332 rfl ?_
      refine wn_is (j := 1) dX12_init_333 rfl (by decide) (by unfold vp_in; decide) rfl ?_
      refine wn_aload_n dX12_init_334 0 rfl rfl ?_
      refine wn_getr (r := 119) dX12_init_335 fkX12_7 rfl rfl (by decide) rfl ?_
      refine wn_iconst (v := 2) dX12_init_338 rfl ?_
      refine wn_bipush (v := 13) dX12_init_339 rfl ?_
      refine wn_is (j := 2) dX12_init_341 rfl (by decide) (by unfold vp_in; decide) rfl ?_
      refine wn_aload_n dX12_init_342 0 rfl rfl ?_
      refine wn_getr (r := 119) dX12_init_343 fkX12_7 rfl rfl (by decide) rfl ?_
      refine wn_iconst (v := 3) dX12_init_346 rfl ?_
      refine wn_iconst (v := 1) dX12_init_347 rfl ?_
      refine wn_is (j := 3) dX12_init_348 rfl (by decide) (by unfold vp_in; decide) rfl ?_
      refine wn_aload_n dX12_init_349 0 rfl rfl ?_
      refine wn_getr (r := 119) dX12_init_350 fkX12_7 rfl rfl (by decide) rfl ?_
      refine wn_iconst (v := 4) dX12_init_353 rfl ?_
      refine wn_iconst (v := 1) dX12_init_354 rfl ?_
      refine wn_is (j := 4) dX12_init_355 rfl (by decide) (by unfold vp_in; decide) rfl ?_
      refine wn_aload_n dX12_init_356 0 rfl rfl ?_
      refine wn_getr (r := 119) dX12_init_357 fkX12_7 rfl rfl (by decide) rfl ?_
      refine wn_bipush (v := 6) dX12_init_360 rfl ?_
      refine wn_iconst (v := (-1)) dX12_init_362 rfl ?_
      refine wn_is (j := 6) dX12_init_363 rfl (by decide) (by unfold vp_in; decide) rfl ?_
      refine wn_aload_n dX12_init_364 0 rfl rfl ?_
      refine wn_iconst (v := 1) dX12_init_365 rfl ?_
      rw [hP]
      refine wn_callV (d9 := 1) [.int 1] dX12_init_366 (mmX12_copies _ _) mlX12_120 mnX12_copies mseX12_copies rfl (by decide) rfl rfl rfl (by decide) rfl rfl rfl rfl (fun ad ca => by rw [tk_all]; exact kX12_copies1 (by omega)) (fun r M1 P1 h hz => by obtain ⟨-, rfl, rfl⟩ := h; exact ⟨fun i hi k => by rw [mf_no _ _ _ _ _ _ (by omega)]; exact hz.1 i hi k, hz.2⟩) ?_
      rintro r M1 P1 ⟨rfl, rfl, rfl⟩
      simp only [Option.toList, List.nil_append]
      exact wn_vret dX12_init_369 rfl rfl ⟨rfl, rfl⟩
    · rw [zcl_2 hc307 hc317]
      refine wn_bipush (v := 7) dX12_init_320 rfl ?_
      refine wn_goto (tgt := 326) dX12_init_322 rfl ?_
      refine wn_is (j := 0) dX12_init_326 rfl (by decide) (by unfold vp_in; decide) rfl ?_
      refine wn_aload_n dX12_init_327 0 rfl rfl ?_
      refine wn_getr (r := 119) dX12_init_328 fkX12_7 rfl rfl (by decide) rfl ?_
      refine wn_iconst (v := 1) dX12_init_331 rfl ?_
      refine wn_iconst (v := 1) dX12_init_332 rfl ?_
      refine wn_is (j := 1) dX12_init_333 rfl (by decide) (by unfold vp_in; decide) rfl ?_
      refine wn_aload_n dX12_init_334 0 rfl rfl ?_
      refine wn_getr (r := 119) dX12_init_335 fkX12_7 rfl rfl (by decide) rfl ?_
      refine wn_iconst (v := 2) dX12_init_338 rfl ?_
      refine wn_bipush (v := 13) dX12_init_339 rfl ?_
      refine wn_is (j := 2) dX12_init_341 rfl (by decide) (by unfold vp_in; decide) rfl ?_
      refine wn_aload_n dX12_init_342 0 rfl rfl ?_
      refine wn_getr (r := 119) dX12_init_343 fkX12_7 rfl rfl (by decide) rfl ?_
      refine wn_iconst (v := 3) dX12_init_346 rfl ?_
      refine wn_iconst (v := 1) dX12_init_347 rfl ?_
      refine wn_is (j := 3) dX12_init_348 rfl (by decide) (by unfold vp_in; decide) rfl ?_
      refine wn_aload_n dX12_init_349 0 rfl rfl ?_
      refine wn_getr (r := 119) dX12_init_350 fkX12_7 rfl rfl (by decide) rfl ?_
      refine wn_iconst (v := 4) dX12_init_353 rfl ?_
      refine wn_iconst (v := 1) dX12_init_354 rfl ?_
      refine wn_is (j := 4) dX12_init_355 rfl (by decide) (by unfold vp_in; decide) rfl ?_
      refine wn_aload_n dX12_init_356 0 rfl rfl ?_
      refine wn_getr (r := 119) dX12_init_357 fkX12_7 rfl rfl (by decide) rfl ?_
      refine wn_bipush (v := 6) dX12_init_360 rfl ?_
      refine wn_iconst (v := (-1)) dX12_init_362 rfl ?_
      refine wn_is (j := 6) dX12_init_363 rfl (by decide) (by unfold vp_in; decide) rfl ?_
      refine wn_aload_n dX12_init_364 0 rfl rfl ?_
      refine wn_iconst (v := 1) dX12_init_365 rfl ?_
      rw [hP]
      refine wn_callV (d9 := 1) [.int 1] dX12_init_366 (mmX12_copies _ _) mlX12_120 mnX12_copies mseX12_copies rfl (by decide) rfl rfl rfl (by decide) rfl rfl rfl rfl (fun ad ca => by rw [tk_all]; exact kX12_copies1 (by omega)) (fun r M1 P1 h hz => by obtain ⟨-, rfl, rfl⟩ := h; exact ⟨fun i hi k => by rw [mf_no _ _ _ _ _ _ (by omega)]; exact hz.1 i hi k, hz.2⟩) ?_
      rintro r M1 P1 ⟨rfl, rfl, rfl⟩
      simp only [Option.toList, List.nil_append]
      exact wn_vret dX12_init_369 rfl rfl ⟨rfl, rfl⟩
  · rw [zcl_1 hc307]
    refine wn_iconst (v := 2) dX12_init_310 rfl ?_
    refine wn_goto (tgt := 326) dX12_init_311 rfl ?_
    refine wn_is (j := 0) dX12_init_326 rfl (by decide) (by unfold vp_in; decide) rfl ?_
    refine wn_aload_n dX12_init_327 0 rfl rfl ?_
    refine wn_getr (r := 119) dX12_init_328 fkX12_7 rfl rfl (by decide) rfl ?_
    refine wn_iconst (v := 1) dX12_init_331 rfl ?_
    refine wn_iconst (v := 1) dX12_init_332 rfl ?_
    refine wn_is (j := 1) dX12_init_333 rfl (by decide) (by unfold vp_in; decide) rfl ?_
    refine wn_aload_n dX12_init_334 0 rfl rfl ?_
    refine wn_getr (r := 119) dX12_init_335 fkX12_7 rfl rfl (by decide) rfl ?_
    refine wn_iconst (v := 2) dX12_init_338 rfl ?_
    refine wn_bipush (v := 13) dX12_init_339 rfl ?_
    refine wn_is (j := 2) dX12_init_341 rfl (by decide) (by unfold vp_in; decide) rfl ?_
    refine wn_aload_n dX12_init_342 0 rfl rfl ?_
    refine wn_getr (r := 119) dX12_init_343 fkX12_7 rfl rfl (by decide) rfl ?_
    refine wn_iconst (v := 3) dX12_init_346 rfl ?_
    refine wn_iconst (v := 1) dX12_init_347 rfl ?_
    refine wn_is (j := 3) dX12_init_348 rfl (by decide) (by unfold vp_in; decide) rfl ?_
    refine wn_aload_n dX12_init_349 0 rfl rfl ?_
    refine wn_getr (r := 119) dX12_init_350 fkX12_7 rfl rfl (by decide) rfl ?_
    refine wn_iconst (v := 4) dX12_init_353 rfl ?_
    refine wn_iconst (v := 1) dX12_init_354 rfl ?_
    refine wn_is (j := 4) dX12_init_355 rfl (by decide) (by unfold vp_in; decide) rfl ?_
    refine wn_aload_n dX12_init_356 0 rfl rfl ?_
    refine wn_getr (r := 119) dX12_init_357 fkX12_7 rfl rfl (by decide) rfl ?_
    refine wn_bipush (v := 6) dX12_init_360 rfl ?_
    refine wn_iconst (v := (-1)) dX12_init_362 rfl ?_
    refine wn_is (j := 6) dX12_init_363 rfl (by decide) (by unfold vp_in; decide) rfl ?_
    refine wn_aload_n dX12_init_364 0 rfl rfl ?_
    refine wn_iconst (v := 1) dX12_init_365 rfl ?_
    rw [hP]
    refine wn_callV (d9 := 1) [.int 1] dX12_init_366 (mmX12_copies _ _) mlX12_120 mnX12_copies mseX12_copies rfl (by decide) rfl rfl rfl (by decide) rfl rfl rfl rfl (fun ad ca => by rw [tk_all]; exact kX12_copies1 (by omega)) (fun r M1 P1 h hz => by obtain ⟨-, rfl, rfl⟩ := h; exact ⟨fun i hi k => by rw [mf_no _ _ _ _ _ _ (by omega)]; exact hz.1 i hi k, hz.2⟩) ?_
    rintro r M1 P1 ⟨rfl, rfl, rfl⟩
    simp only [Option.toList, List.nil_append]
    exact wn_vret dX12_init_369 rfl rfl ⟨rfl, rfl⟩
