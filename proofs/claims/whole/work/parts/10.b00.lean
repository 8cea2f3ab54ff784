theorem bJ6_bitCount_0f7a4_0 {X : a_X} {ad : Nat → Nat} {ca : Nat → ClassId} {d : Nat} {Post : Option Value → a_M → a_P → Prop} {x : Nat} {M : a_M} (x0 : Int32)  (hF : Post (some (.int ((((((((x0 - ((((x0 : Int32).toUInt32 >>> ((1 : Int32).toUInt32 &&& Int32.toUInt32 31)).toInt32) &&& 1431655765)) &&& 858993459) + ((((x0 - ((((x0 : Int32).toUInt32 >>> ((1 : Int32).toUInt32 &&& Int32.toUInt32 31)).toInt32) &&& 1431655765) : Int32).toUInt32 >>> ((2 : Int32).toUInt32 &&& Int32.toUInt32 31)).toInt32) &&& 858993459)) + (((((x0 - ((((x0 : Int32).toUInt32 >>> ((1 : Int32).toUInt32 &&& Int32.toUInt32 31)).toInt32) &&& 1431655765)) &&& 858993459) + ((((x0 - ((((x0 : Int32).toUInt32 >>> ((1 : Int32).toUInt32 &&& Int32.toUInt32 31)).toInt32) &&& 1431655765) : Int32).toUInt32 >>> ((2 : Int32).toUInt32 &&& Int32.toUInt32 31)).toInt32) &&& 858993459) : Int32).toUInt32 >>> ((4 : Int32).toUInt32 &&& Int32.toUInt32 31)).toInt32)) &&& 252645135) + (((((((x0 - ((((x0 : Int32).toUInt32 >>> ((1 : Int32).toUInt32 &&& Int32.toUInt32 31)).toInt32) &&& 1431655765)) &&& 858993459) + ((((x0 - ((((x0 : Int32).toUInt32 >>> ((1 : Int32).toUInt32 &&& Int32.toUInt32 31)).toInt32) &&& 1431655765) : Int32).toUInt32 >>> ((2 : Int32).toUInt32 &&& Int32.toUInt32 31)).toInt32) &&& 858993459)) + (((((x0 - ((((x0 : Int32).toUInt32 >>> ((1 : Int32).toUInt32 &&& Int32.toUInt32 31)).toInt32) &&& 1431655765)) &&& 858993459) + ((((x0 - ((((x0 : Int32).toUInt32 >>> ((1 : Int32).toUInt32 &&& Int32.toUInt32 31)).toInt32) &&& 1431655765) : Int32).toUInt32 >>> ((2 : Int32).toUInt32 &&& Int32.toUInt32 31)).toInt32) &&& 858993459) : Int32).toUInt32 >>> ((4 : Int32).toUInt32 &&& Int32.toUInt32 31)).toInt32)) &&& 252645135 : Int32).toUInt32 >>> ((8 : Int32).toUInt32 &&& Int32.toUInt32 31)).toInt32)) + ((((((((x0 - ((((x0 : Int32).toUInt32 >>> ((1 : Int32).toUInt32 &&& Int32.toUInt32 31)).toInt32) &&& 1431655765)) &&& 858993459) + ((((x0 - ((((x0 : Int32).toUInt32 >>> ((1 : Int32).toUInt32 &&& Int32.toUInt32 31)).toInt32) &&& 1431655765) : Int32).toUInt32 >>> ((2 : Int32).toUInt32 &&& Int32.toUInt32 31)).toInt32) &&& 858993459)) + (((((x0 - ((((x0 : Int32).toUInt32 >>> ((1 : Int32).toUInt32 &&& Int32.toUInt32 31)).toInt32) &&& 1431655765)) &&& 858993459) + ((((x0 - ((((x0 : Int32).toUInt32 >>> ((1 : Int32).toUInt32 &&& Int32.toUInt32 31)).toInt32) &&& 1431655765) : Int32).toUInt32 >>> ((2 : Int32).toUInt32 &&& Int32.toUInt32 31)).toInt32) &&& 858993459) : Int32).toUInt32 >>> ((4 : Int32).toUInt32 &&& Int32.toUInt32 31)).toInt32)) &&& 252645135) + (((((((x0 - ((((x0 : Int32).toUInt32 >>> ((1 : Int32).toUInt32 &&& Int32.toUInt32 31)).toInt32) &&& 1431655765)) &&& 858993459) + ((((x0 - ((((x0 : Int32).toUInt32 >>> ((1 : Int32).toUInt32 &&& Int32.toUInt32 31)).toInt32) &&& 1431655765) : Int32).toUInt32 >>> ((2 : Int32).toUInt32 &&& Int32.toUInt32 31)).toInt32) &&& 858993459)) + (((((x0 - ((((x0 : Int32).toUInt32 >>> ((1 : Int32).toUInt32 &&& Int32.toUInt32 31)).toInt32) &&& 1431655765)) &&& 858993459) + ((((x0 - ((((x0 : Int32).toUInt32 >>> ((1 : Int32).toUInt32 &&& Int32.toUInt32 31)).toInt32) &&& 1431655765) : Int32).toUInt32 >>> ((2 : Int32).toUInt32 &&& Int32.toUInt32 31)).toInt32) &&& 858993459) : Int32).toUInt32 >>> ((4 : Int32).toUInt32 &&& Int32.toUInt32 31)).toInt32)) &&& 252645135 : Int32).toUInt32 >>> ((8 : Int32).toUInt32 &&& Int32.toUInt32 31)).toInt32) : Int32).toUInt32 >>> ((16 : Int32).toUInt32 &&& Int32.toUInt32 31)).toInt32)) &&& 63))) M (PT x)) : WA X ad ca LY RJ6 cJ6_bitCount_0f7a4 1 (some FieldType.int) (d + 1) 0 0 (a_E X ad ca LY Post) 0 [(0, .int x0)] [] M (PT x) := by
  refine wa_iload_n dJ6_bitCount_0f7a4_0 0 rfl rfl ?_
  refine wa_iload_n dJ6_bitCount_0f7a4_1 0 rfl rfl ?_
  refine wa_iconst (v := 1) dJ6_bitCount_0f7a4_2 rfl ?_
  refine wa_iushr dJ6_bitCount_0f7a4_3 ?_
  refine wa_ldcw dJ6_bitCount_0f7a4_4 kiJ6_265 ?_
  refine wa_iand dJ6_bitCount_0f7a4_7 ?_
  refine wa_isub dJ6_bitCount_0f7a4_8 ?_
  refine wa_istore_n (lv' := [(0, .int (x0 - ((((x0 : Int32).toUInt32 >>> ((1 : Int32).toUInt32 &&& Int32.toUInt32 31)).toInt32) &&& 1431655765)))]) dJ6_bitCount_0f7a4_9 rfl rfl rfl ?_
  refine wa_iload_n dJ6_bitCount_0f7a4_10 0 rfl rfl ?_
  refine wa_ldcw dJ6_bitCount_0f7a4_11 kiJ6_266 ?_
  refine wa_iand dJ6_bitCount_0f7a4_14 ?_
  refine wa_iload_n dJ6_bitCount_0f7a4_15 0 rfl rfl ?_
  refine wa_iconst (v := 2) dJ6_bitCount_0f7a4_16 rfl ?_
  refine wa_iushr dJ6_bitCount_0f7a4_17 ?_
  refine wa_ldcw dJ6_bitCount_0f7a4_18 kiJ6_266 ?_
  refine wa_iand dJ6_bitCount_0f7a4_21 ?_
  refine wa_iadd dJ6_bitCount_0f7a4_22 ?_
  refine wa_istore_n (lv' := [(0, .int (((x0 - ((((x0 : Int32).toUInt32 >>> ((1 : Int32).toUInt32 &&& Int32.toUInt32 31)).toInt32) &&& 1431655765)) &&& 858993459) + ((((x0 - ((((x0 : Int32).toUInt32 >>> ((1 : Int32).toUInt32 &&& Int32.toUInt32 31)).toInt32) &&& 1431655765) : Int32).toUInt32 >>> ((2 : Int32).toUInt32 &&& Int32.toUInt32 31)).toInt32) &&& 858993459)))]) dJ6_bitCount_0f7a4_23 rfl rfl rfl ?_
  refine wa_iload_n dJ6_bitCount_0f7a4_24 0 rfl rfl ?_
  refine wa_iload_n dJ6_bitCount_0f7a4_25 0 rfl rfl ?_
  refine wa_iconst (v := 4) dJ6_bitCount_0f7a4_26 rfl ?_
  refine wa_iushr dJ6_bitCount_0f7a4_27 ?_
  refine wa_iadd dJ6_bitCount_0f7a4_28 ?_
  refine wa_ldcw dJ6_bitCount_0f7a4_29 kiJ6_267 ?_
  refine wa_iand dJ6_bitCount_0f7a4_32 ?_
  refine wa_istore_n (lv' := [(0, .int (((((x0 - ((((x0 : Int32).toUInt32 >>> ((1 : Int32).toUInt32 &&& Int32.toUInt32 31)).toInt32) &&& 1431655765)) &&& 858993459) + ((((x0 - ((((x0 : Int32).toUInt32 >>> ((1 : Int32).toUInt32 &&& Int32.toUInt32 31)).toInt32) &&& 1431655765) : Int32).toUInt32 >>> ((2 : Int32).toUInt32 &&& Int32.toUInt32 31)).toInt32) &&& 858993459)) + (((((x0 - ((((x0 : Int32).toUInt32 >>> ((1 : Int32).toUInt32 &&& Int32.toUInt32 31)).toInt32) &&& 1431655765)) &&& 858993459) + ((((x0 - ((((x0 : Int32).toUInt32 >>> ((1 : Int32).toUInt32 &&& Int32.toUInt32 31)).toInt32) &&& 1431655765) : Int32).toUInt32 >>> ((2 : Int32).toUInt32 &&& Int32.toUInt32 31)).toInt32) &&& 858993459) : Int32).toUInt32 >>> ((4 : Int32).toUInt32 &&& Int32.toUInt32 31)).toInt32)) &&& 252645135))]) dJ6_bitCount_0f7a4_33 rfl rfl rfl ?_
  refine wa_iload_n dJ6_bitCount_0f7a4_34 0 rfl rfl ?_
  refine wa_iload_n dJ6_bitCount_0f7a4_35 0 rfl rfl ?_
  refine wa_bipush (v := 8) dJ6_bitCount_0f7a4_36 rfl ?_
  refine wa_iushr dJ6_bitCount_0f7a4_38 ?_
  refine wa_iadd dJ6_bitCount_0f7a4_39 ?_
  refine wa_istore_n (lv' := [(0, .int ((((((x0 - ((((x0 : Int32).toUInt32 >>> ((1 : Int32).toUInt32 &&& Int32.toUInt32 31)).toInt32) &&& 1431655765)) &&& 858993459) + ((((x0 - ((((x0 : Int32).toUInt32 >>> ((1 : Int32).toUInt32 &&& Int32.toUInt32 31)).toInt32) &&& 1431655765) : Int32).toUInt32 >>> ((2 : Int32).toUInt32 &&& Int32.toUInt32 31)).toInt32) &&& 858993459)) + (((((x0 - ((((x0 : Int32).toUInt32 >>> ((1 : Int32).toUInt32 &&& Int32.toUInt32 31)).toInt32) &&& 1431655765)) &&& 858993459) + ((((x0 - ((((x0 : Int32).toUInt32 >>> ((1 : Int32).toUInt32 &&& Int32.toUInt32 31)).toInt32) &&& 1431655765) : Int32).toUInt32 >>> ((2 : Int32).toUInt32 &&& Int32.toUInt32 31)).toInt32) &&& 858993459) : Int32).toUInt32 >>> ((4 : Int32).toUInt32 &&& Int32.toUInt32 31)).toInt32)) &&& 252645135) + (((((((x0 - ((((x0 : Int32).toUInt32 >>> ((1 : Int32).toUInt32 &&& Int32.toUInt32 31)).toInt32) &&& 1431655765)) &&& 858993459) + ((((x0 - ((((x0 : Int32).toUInt32 >>> ((1 : Int32).toUInt32 &&& Int32.toUInt32 31)).toInt32) &&& 1431655765) : Int32).toUInt32 >>> ((2 : Int32).toUInt32 &&& Int32.toUInt32 31)).toInt32) &&& 858993459)) + (((((x0 - ((((x0 : Int32).toUInt32 >>> ((1 : Int32).toUInt32 &&& Int32.toUInt32 31)).toInt32) &&& 1431655765)) &&& 858993459) + ((((x0 - ((((x0 : Int32).toUInt32 >>> ((1 : Int32).toUInt32 &&& Int32.toUInt32 31)).toInt32) &&& 1431655765) : Int32).toUInt32 >>> ((2 : Int32).toUInt32 &&& Int32.toUInt32 31)).toInt32) &&& 858993459) : Int32).toUInt32 >>> ((4 : Int32).toUInt32 &&& Int32.toUInt32 31)).toInt32)) &&& 252645135 : Int32).toUInt32 >>> ((8 : Int32).toUInt32 &&& Int32.toUInt32 31)).toInt32)))]) dJ6_bitCount_0f7a4_40 rfl rfl rfl ?_
  refine wa_iload_n dJ6_bitCount_0f7a4_41 0 rfl rfl ?_
  refine wa_iload_n dJ6_bitCount_0f7a4_42 0 rfl rfl ?_
  refine wa_bipush (v := 16) dJ6_bitCount_0f7a4_43 rfl ?_
  refine wa_iushr dJ6_bitCount_0f7a4_45 ?_
  refine wa_iadd dJ6_bitCount_0f7a4_46 ?_
  refine wa_istore_n (lv' := [(0, .int (((((((x0 - ((((x0 : Int32).toUInt32 >>> ((1 : Int32).toUInt32 &&& Int32.toUInt32 31)).toInt32) &&& 1431655765)) &&& 858993459) + ((((x0 - ((((x0 : Int32).toUInt32 >>> ((1 : Int32).toUInt32 &&& Int32.toUInt32 31)).toInt32) &&& 1431655765) : Int32).toUInt32 >>> ((2 : Int32).toUInt32 &&& Int32.toUInt32 31)).toInt32) &&& 858993459)) + (((((x0 - ((((x0 : Int32).toUInt32 >>> ((1 : Int32).toUInt32 &&& Int32.toUInt32 31)).toInt32) &&& 1431655765)) &&& 858993459) + ((((x0 - ((((x0 : Int32).toUInt32 >>> ((1 : Int32).toUInt32 &&& Int32.toUInt32 31)).toInt32) &&& 1431655765) : Int32).toUInt32 >>> ((2 : Int32).toUInt32 &&& Int32.toUInt32 31)).toInt32) &&& 858993459) : Int32).toUInt32 >>> ((4 : Int32).toUInt32 &&& Int32.toUInt32 31)).toInt32)) &&& 252645135) + (((((((x0 - ((((x0 : Int32).toUInt32 >>> ((1 : Int32).toUInt32 &&& Int32.toUInt32 31)).toInt32) &&& 1431655765)) &&& 858993459) + ((((x0 - ((((x0 : Int32).toUInt32 >>> ((1 : Int32).toUInt32 &&& Int32.toUInt32 31)).toInt32) &&& 1431655765) : Int32).toUInt32 >>> ((2 : Int32).toUInt32 &&& Int32.toUInt32 31)).toInt32) &&& 858993459)) + (((((x0 - ((((x0 : Int32).toUInt32 >>> ((1 : Int32).toUInt32 &&& Int32.toUInt32 31)).toInt32) &&& 1431655765)) &&& 858993459) + ((((x0 - ((((x0 : Int32).toUInt32 >>> ((1 : Int32).toUInt32 &&& Int32.toUInt32 31)).toInt32) &&& 1431655765) : Int32).toUInt32 >>> ((2 : Int32).toUInt32 &&& Int32.toUInt32 31)).toInt32) &&& 858993459) : Int32).toUInt32 >>> ((4 : Int32).toUInt32 &&& Int32.toUInt32 31)).toInt32)) &&& 252645135 : Int32).toUInt32 >>> ((8 : Int32).toUInt32 &&& Int32.toUInt32 31)).toInt32)) + ((((((((x0 - ((((x0 : Int32).toUInt32 >>> ((1 : Int32).toUInt32 &&& Int32.toUInt32 31)).toInt32) &&& 1431655765)) &&& 858993459) + ((((x0 - ((((x0 : Int32).toUInt32 >>> ((1 : Int32).toUInt32 &&& Int32.toUInt32 31)).toInt32) &&& 1431655765) : Int32).toUInt32 >>> ((2 : Int32).toUInt32 &&& Int32.toUInt32 31)).toInt32) &&& 858993459)) + (((((x0 - ((((x0 : Int32).toUInt32 >>> ((1 : Int32).toUInt32 &&& Int32.toUInt32 31)).toInt32) &&& 1431655765)) &&& 858993459) + ((((x0 - ((((x0 : Int32).toUInt32 >>> ((1 : Int32).toUInt32 &&& Int32.toUInt32 31)).toInt32) &&& 1431655765) : Int32).toUInt32 >>> ((2 : Int32).toUInt32 &&& Int32.toUInt32 31)).toInt32) &&& 858993459) : Int32).toUInt32 >>> ((4 : Int32).toUInt32 &&& Int32.toUInt32 31)).toInt32)) &&& 252645135) + (((((((x0 - ((((x0 : Int32).toUInt32 >>> ((1 : Int32).toUInt32 &&& Int32.toUInt32 31)).toInt32) &&& 1431655765)) &&& 858993459) + ((((x0 - ((((x0 : Int32).toUInt32 >>> ((1 : Int32).toUInt32 &&& Int32.toUInt32 31)).toInt32) &&& 1431655765) : Int32).toUInt32 >>> ((2 : Int32).toUInt32 &&& Int32.toUInt32 31)).toInt32) &&& 858993459)) + (((((x0 - ((((x0 : Int32).toUInt32 >>> ((1 : Int32).toUInt32 &&& Int32.toUInt32 31)).toInt32) &&& 1431655765)) &&& 858993459) + ((((x0 - ((((x0 : Int32).toUInt32 >>> ((1 : Int32).toUInt32 &&& Int32.toUInt32 31)).toInt32) &&& 1431655765) : Int32).toUInt32 >>> ((2 : Int32).toUInt32 &&& Int32.toUInt32 31)).toInt32) &&& 858993459) : Int32).toUInt32 >>> ((4 : Int32).toUInt32 &&& Int32.toUInt32 31)).toInt32)) &&& 252645135 : Int32).toUInt32 >>> ((8 : Int32).toUInt32 &&& Int32.toUInt32 31)).toInt32) : Int32).toUInt32 >>> ((16 : Int32).toUInt32 &&& Int32.toUInt32 31)).toInt32)))]) dJ6_bitCount_0f7a4_47 rfl rfl rfl ?_
  refine wa_iload_n dJ6_bitCount_0f7a4_48 0 rfl rfl ?_
  refine wa_bipush (v := 63) dJ6_bitCount_0f7a4_49 rfl ?_
  refine wa_iand dJ6_bitCount_0f7a4_51 ?_
  exact wa_iret dJ6_bitCount_0f7a4_52 rfl rfl hF

theorem eJ6_bitCount_0f7a4 {X : a_X} {ad : Nat → Nat} {ca : Nat → ClassId} {d : Nat} {Post : Option Value → a_M → a_P → Prop} {x : Nat} {M : a_M} (x0 : Int32) (h : WA X ad ca LY RJ6 cJ6_bitCount_0f7a4 1 (some FieldType.int) d 0 0 (a_E X ad ca LY Post) 0 [(0, .int x0)] [] M (PT x)) : Mt X ad ca LY d yJ6_bitCount_0f7a4 cJ6_bitCount_0f7a4 1 (some FieldType.int) [.int x0] M (PT x) Post := Mt.of (lv := [(0, .int x0)]) (by decide +kernel) rfl rfl rfl (wa_pick [0] rfl h)

theorem bJ9_floorMod_7cf53_0 {X : a_X} {ad : Nat → Nat} {ca : Nat → ClassId} {d : Nat} {Post : Option Value → a_M → a_P → Prop} {x : Nat} {M : a_M} (x0 : Int32) (x1 : Int32)  (hF : (¬ x1 = 0 ∧ ((0 ≤ (x0 ^^^ x1) → WA X ad ca LY RJ9 cJ9_floorMod_7cf53 3 (some FieldType.int) (d + 1) 0 0 (a_E X ad ca LY Post) 18 [(2, .int (x0 - x0 / x1 * x1))] [] M (PT x)) ∧ (¬ 0 ≤ (x0 ^^^ x1) → (((x0 - x0 / x1 * x1) = 0 → WA X ad ca LY RJ9 cJ9_floorMod_7cf53 3 (some FieldType.int) (d + 1) 0 0 (a_E X ad ca LY Post) 18 [(2, .int (x0 - x0 / x1 * x1))] [] M (PT x)) ∧ (¬ (x0 - x0 / x1 * x1) = 0 → Post (some (.int ((x0 - x0 / x1 * x1) + x1))) M (PT x))))))) : WA X ad ca LY RJ9 cJ9_floorMod_7cf53 3 (some FieldType.int) (d + 1) 0 0 (a_E X ad ca LY Post) 0 [(0, .int x0), (1, .int x1)] [] M (PT x) := by
  refine wa_iload_n dJ9_floorMod_7cf53_0 0 rfl rfl ?_
  refine wa_iload_n dJ9_floorMod_7cf53_1 1 rfl rfl ?_
  obtain ⟨hn9, hF⟩ := hF
  refine wa_irem dJ9_floorMod_7cf53_2 hn9 ?_
  refine wa_istore_n (lv' := [(2, .int (x0 - x0 / x1 * x1)), (0, .int x0), (1, .int x1)]) dJ9_floorMod_7cf53_3 rfl rfl rfl ?_
  refine wa_iload_n dJ9_floorMod_7cf53_4 1 rfl rfl ?_
  refine wa_iload_n dJ9_floorMod_7cf53_5 2 rfl rfl ?_
  refine wa_ixor dJ9_floorMod_7cf53_6 ?_
  refine wa_if_ge (tgt := 18) dJ9_floorMod_7cf53_7 rfl (fun hc => ?_) (fun hc => ?_)
  · replace hF := hF.1 hc
    exact wa_pick [0] rfl hF
  · replace hF := hF.2 hc
    refine wa_iload_n dJ9_floorMod_7cf53_10 0 rfl rfl ?_
    refine wa_if_eq (tgt := 18) dJ9_floorMod_7cf53_11 rfl (fun hc => ?_) (fun hc => ?_)
    · replace hF := hF.1 hc
      exact wa_pick [0] rfl hF
    · replace hF := hF.2 hc
      refine wa_iload_n dJ9_floorMod_7cf53_14 0 rfl rfl ?_
      refine wa_iload_n dJ9_floorMod_7cf53_15 2 rfl rfl ?_
      refine wa_iadd dJ9_floorMod_7cf53_16 ?_
      exact wa_iret dJ9_floorMod_7cf53_17 rfl rfl hF

theorem bJ9_floorMod_7cf53_18 {X : a_X} {ad : Nat → Nat} {ca : Nat → ClassId} {d : Nat} {Post : Option Value → a_M → a_P → Prop} {x : Nat} {M : a_M} (x2 : Int32)  (hF : Post (some (.int x2)) M (PT x)) : WA X ad ca LY RJ9 cJ9_floorMod_7cf53 3 (some FieldType.int) (d + 1) 0 0 (a_E X ad ca LY Post) 18 [(2, .int x2)] [] M (PT x) := by
  refine wa_iload_n dJ9_floorMod_7cf53_18 0 rfl rfl ?_
  exact wa_iret dJ9_floorMod_7cf53_19 rfl rfl hF

theorem eJ9_floorMod_7cf53 {X : a_X} {ad : Nat → Nat} {ca : Nat → ClassId} {d : Nat} {Post : Option Value → a_M → a_P → Prop} {x : Nat} {M : a_M} (x0 : Int32) (x1 : Int32) (h : WA X ad ca LY RJ9 cJ9_floorMod_7cf53 3 (some FieldType.int) d 0 0 (a_E X ad ca LY Post) 0 [(0, .int x0), (1, .int x1)] [] M (PT x)) : Mt X ad ca LY d yJ9_floorMod_7cf53 cJ9_floorMod_7cf53 3 (some FieldType.int) [.int x0, .int x1] M (PT x) Post := Mt.of (lv := [(0, .int x0), (1, .int x1)]) (by decide +kernel) rfl rfl rfl (wa_pick [0, 1] rfl h)

theorem bJ9_max_7cf53_0 {X : a_X} {ad : Nat → Nat} {ca : Nat → ClassId} {d : Nat} {Post : Option Value → a_M → a_P → Prop} {x : Nat} {M : a_M} (x0 : Int32) (x1 : Int32)  (hF : ((x0 < x1 → Post (some (.int x1)) M (PT x)) ∧ (¬ x0 < x1 → Post (some (.int x0)) M (PT x)))) : WA X ad ca LY RJ9 cJ9_max_7cf53 2 (some FieldType.int) (d + 1) 0 0 (a_E X ad ca LY Post) 0 [(0, .int x0), (1, .int x1)] [] M (PT x) := by
  refine wa_iload_n dJ9_max_7cf53_0 0 rfl rfl ?_
  refine wa_iload_n dJ9_max_7cf53_1 1 rfl rfl ?_
  refine wa_icmp_lt (tgt := 9) dJ9_max_7cf53_2 rfl (fun hc => ?_) (fun hc => ?_)
  · replace hF := hF.1 hc
    refine wa_iload_n dJ9_max_7cf53_9 1 rfl rfl ?_
    exact wa_iret dJ9_max_7cf53_10 rfl rfl hF
  · replace hF := hF.2 hc
    refine wa_iload_n dJ9_max_7cf53_5 0 rfl rfl ?_
    refine wa_goto (tgt := 10) dJ9_max_7cf53_6 rfl ?_
    exact wa_iret dJ9_max_7cf53_10 rfl rfl hF

theorem eJ9_max_7cf53 {X : a_X} {ad : Nat → Nat} {ca : Nat → ClassId} {d : Nat} {Post : Option Value → a_M → a_P → Prop} {x : Nat} {M : a_M} (x0 : Int32) (x1 : Int32) (h : WA X ad ca LY RJ9 cJ9_max_7cf53 2 (some FieldType.int) d 0 0 (a_E X ad ca LY Post) 0 [(0, .int x0), (1, .int x1)] [] M (PT x)) : Mt X ad ca LY d yJ9_max_7cf53 cJ9_max_7cf53 2 (some FieldType.int) [.int x0, .int x1] M (PT x) Post := Mt.of (lv := [(0, .int x0), (1, .int x1)]) (by decide +kernel) rfl rfl rfl (wa_pick [0, 1] rfl h)

theorem bJ9_min_7cf53_0 {X : a_X} {ad : Nat → Nat} {ca : Nat → ClassId} {d : Nat} {Post : Option Value → a_M → a_P → Prop} {x : Nat} {M : a_M} (x0 : Int32) (x1 : Int32)  (hF : ((x1 < x0 → Post (some (.int x1)) M (PT x)) ∧ (¬ x1 < x0 → Post (some (.int x0)) M (PT x)))) : WA X ad ca LY RJ9 cJ9_min_7cf53 2 (some FieldType.int) (d + 1) 0 0 (a_E X ad ca LY Post) 0 [(0, .int x0), (1, .int x1)] [] M (PT x) := by
  refine wa_iload_n dJ9_min_7cf53_0 0 rfl rfl ?_
  refine wa_iload_n dJ9_min_7cf53_1 1 rfl rfl ?_
  refine wa_icmp_gt (tgt := 9) dJ9_min_7cf53_2 rfl (fun hc => ?_) (fun hc => ?_)
  · replace hF := hF.1 hc
    refine wa_iload_n dJ9_min_7cf53_9 1 rfl rfl ?_
    exact wa_iret dJ9_min_7cf53_10 rfl rfl hF
  · replace hF := hF.2 hc
    refine wa_iload_n dJ9_min_7cf53_5 0 rfl rfl ?_
    refine wa_goto (tgt := 10) dJ9_min_7cf53_6 rfl ?_
    exact wa_iret dJ9_min_7cf53_10 rfl rfl hF

theorem eJ9_min_7cf53 {X : a_X} {ad : Nat → Nat} {ca : Nat → ClassId} {d : Nat} {Post : Option Value → a_M → a_P → Prop} {x : Nat} {M : a_M} (x0 : Int32) (x1 : Int32) (h : WA X ad ca LY RJ9 cJ9_min_7cf53 2 (some FieldType.int) d 0 0 (a_E X ad ca LY Post) 0 [(0, .int x0), (1, .int x1)] [] M (PT x)) : Mt X ad ca LY d yJ9_min_7cf53 cJ9_min_7cf53 2 (some FieldType.int) [.int x0, .int x1] M (PT x) Post := Mt.of (lv := [(0, .int x0), (1, .int x1)]) (by decide +kernel) rfl rfl rfl (wa_pick [0, 1] rfl h)

theorem bX0_head_0 {X : a_X} {ad : Nat → Nat} {ca : Nat → ClassId} {d : Nat} {Post : Option Value → a_M → a_P → Prop} {x : Nat} {M : a_M} (x1 : Int32)  (hF : ((x1 < 0 → WA X ad ca LY RX0 cX0_head 2 (some FieldType.int) (d + 1) 0 0 (a_E X ad ca LY Post) 21 [] [] M (PT x)) ∧ (¬ x1 < 0 → (((M 19 3) ≤ x1 → WA X ad ca LY RX0 cX0_head 2 (some FieldType.int) (d + 1) 0 0 (a_E X ad ca LY Post) 21 [] [] M (PT x)) ∧ (¬ (M 19 3) ≤ x1 → (vp_in x1 35 ∧ Post (some (.int (M 20 x1.toNatClampNeg))) M (PT x))))))) : WA X ad ca LY RX0 cX0_head 2 (some FieldType.int) (d + 1) 0 0 (a_E X ad ca LY Post) 0 [(0, .ref 19), (1, .int x1)] [] M (PT x) := by
  refine wa_iload_n dX0_head_0 1 rfl rfl ?_
  refine wa_if_lt (tgt := 21) dX0_head_1 rfl (fun hc => ?_) (fun hc => ?_)
  · replace hF := hF.1 hc
    exact wa_pick [] rfl hF
  · replace hF := hF.2 hc
    refine wa_iload_n dX0_head_4 1 rfl rfl ?_
    refine wa_aload_n dX0_head_5 0 rfl rfl ?_
    refine wb_geti (v := M 19 3) dX0_head_6 fkX0_21 rfl rfl rfl ?_
    refine wa_icmp_ge (tgt := 21) dX0_head_9 rfl (fun hc => ?_) (fun hc => ?_)
    · replace hF := hF.1 hc
      exact wa_pick [] rfl hF
    · replace hF := hF.2 hc
      refine wa_aload_n dX0_head_12 0 rfl rfl ?_
      refine wa_getr (r := 20) dX0_head_13 fkX0_9 rfl rfl rfl ?_
      refine wa_iload_n dX0_head_16 1 rfl rfl ?_
      obtain ⟨hi9, hF⟩ := hF
      refine wb_iald (j := x1.toNatClampNeg) (v := M 20 x1.toNatClampNeg) dX0_head_17 rfl hi9 rfl rfl ?_
      refine wa_goto (tgt := 22) dX0_head_18 rfl ?_
      exact wa_iret dX0_head_22 rfl rfl hF

theorem bX0_head_21 {X : a_X} {ad : Nat → Nat} {ca : Nat → ClassId} {d : Nat} {Post : Option Value → a_M → a_P → Prop} {x : Nat} {M : a_M}   (hF : Post (some (.int 0)) M (PT x)) : WA X ad ca LY RX0 cX0_head 2 (some FieldType.int) (d + 1) 0 0 (a_E X ad ca LY Post) 21 [] [] M (PT x) := by
  refine wa_iconst (v := 0) dX0_head_21 rfl ?_
  exact wa_iret dX0_head_22 rfl rfl hF

theorem eX0_head {X : a_X} {ad : Nat → Nat} {ca : Nat → ClassId} {d : Nat} {Post : Option Value → a_M → a_P → Prop} {x : Nat} {M : a_M} (x1 : Int32) (h : WA X ad ca LY RX0 cX0_head 2 (some FieldType.int) d 0 0 (a_E X ad ca LY Post) 0 [(0, .ref 19), (1, .int x1)] [] M (PT x)) : Mt X ad ca LY d yX0_head cX0_head 2 (some FieldType.int) [.ref 19, .int x1] M (PT x) Post := Mt.of (lv := [(0, .ref 19), (1, .int x1)]) (by decide +kernel) rfl rfl rfl (wa_pick [0, 1] rfl h)

theorem bX0_gather_0 {X : a_X} {ad : Nat → Nat} {ca : Nat → ClassId} {d : Nat} {kc ks : Nat} {QF : List Frame → Array Value → State → State → Prop} {x : Nat} {M : a_M} (o1 : Nat) (x2 : Int32) (x3 : Int32) (hLo1 : LY[o1]? = some (6, 5)) (hF : ((x3 ≤ 0 → WA X ad ca LY RX0 cX0_gather 6 none (d + 1) kc ks QF 30 [(0, .ref 19), (1, .ref o1), (2, .int x2), (3, .int x3), (4, .int 1), (5, .int 0)] [] (ms M 19 3 0) (PT x)) ∧ (¬ x3 ≤ 0 → (∃ Q1 : Int32 → a_M → Prop, Mt X ad ca LY d yX6_leastRoot cX6_leastRoot 2 (some FieldType.int) [.ref o1] (ms M 19 3 0) (PT x) (q_i (PT x) Q1) ∧ ∀ v1 M1, Q1 v1 M1 → (∃ Q2 : Int32 → a_M → Prop, Mt X ad ca LY d yX11_raised cX11_raised 6 (some FieldType.int) [.int v1, .int x3, .int (M1 o1 2)] M1 (PT x) (q_i (PT x) Q2) ∧ ∀ v2 M2, Q2 v2 M2 → WA X ad ca LY RX0 cX0_gather 6 none (d + 1) kc ks QF 30 [(0, .ref 19), (1, .ref o1), (2, .int x2), (3, .int x3), (4, .int v2), (5, .int 0)] [] M2 (PT x)))))) : WA X ad ca LY RX0 cX0_gather 6 none (d + 1) kc ks QF 0 [(0, .ref 19), (1, .ref o1), (2, .int x2), (3, .int x3)] [] M (PT x) := by
  refine wa_aload_n dX0_gather_0 0 rfl rfl ?_
  refine wa_iconst (v := 0) dX0_gather_1 rfl ?_
  refine wb_puti dX0_gather_2 fkX0_21 fmX0_3 rfl rfl ?_
  refine wa_iload_n dX0_gather_5 3 rfl rfl ?_
  refine wa_if_le (tgt := 24) dX0_gather_6 rfl (fun hc => ?_) (fun hc => ?_)
  · replace hF := hF.1 hc
    refine wa_iconst (v := 1) dX0_gather_24 rfl ?_
    refine wa_istore (lv' := [(4, .int 1), (0, .ref 19), (1, .ref o1), (2, .int x2), (3, .int x3)]) dX0_gather_25 rfl rfl ?_
    refine wa_iconst (v := 0) dX0_gather_27 rfl ?_
    refine wa_istore (lv' := [(5, .int 0), (4, .int 1), (0, .ref 19), (1, .ref o1), (2, .int x2), (3, .int x3)]) dX0_gather_28 rfl rfl ?_
    exact wa_pick [2, 3, 4, 5, 1, 0] rfl hF
  · replace hF := hF.2 hc
    refine wa_aload_n dX0_gather_9 1 rfl rfl ?_
    obtain ⟨Q1, hM9, hF⟩ := hF
    refine wa_callV [] dX0_gather_10 (mmX6_leastRoot _ _) mlX0_25 mnX6_leastRoot mseX6_leastRoot hLo1 rfl rfl rfl (a_dlt d) rfl rfl hM9 ?_
    rintro r9 M1 P9 ⟨v1, rfl, rfl, hq9⟩
    replace hF := hF v1 M1 hq9
    simp only [Option.toList, List.cons_append, List.nil_append]
    refine wa_iload_n dX0_gather_13 3 rfl rfl ?_
    refine wa_aload_n dX0_gather_14 1 rfl rfl ?_
    refine wb_geti (v := M1 o1 2) dX0_gather_15 fkX0_31 rfl hLo1 rfl ?_
    obtain ⟨Q2, hM9, hF⟩ := hF
    refine wa_callSN [.int v1, .int x3, .int (M1 o1 2)] dX0_gather_18 (mmX11_raised _ _) mkX0_34 mstX11_raised rfl (a_dlt d) rfl rfl hM9 ?_
    rintro r9 M2 P9 ⟨v2, rfl, rfl, hq9⟩
    replace hF := hF v2 M2 hq9
    simp only [Option.toList, List.cons_append, List.nil_append]
    refine wa_goto (tgt := 25) dX0_gather_21 rfl ?_
    refine wa_istore (lv' := [(4, .int v2), (0, .ref 19), (1, .ref o1), (2, .int x2), (3, .int x3)]) dX0_gather_25 rfl rfl ?_
    refine wa_iconst (v := 0) dX0_gather_27 rfl ?_
    refine wa_istore (lv' := [(5, .int 0), (4, .int v2), (0, .ref 19), (1, .ref o1), (2, .int x2), (3, .int x3)]) dX0_gather_28 rfl rfl ?_
    exact wa_pick [2, 3, 4, 5, 1, 0] rfl hF

theorem bX0_gather_30 {X : a_X} {ad : Nat → Nat} {ca : Nat → ClassId} {d : Nat} {kc ks : Nat} {QF : List Frame → Array Value → State → State → Prop} {x : Nat} {M : a_M} (o1 : Nat) (x2 : Int32) (x3 : Int32) (x4 : Int32) (x5 : Int32) (hLo1 : LY[o1]? = some (6, 5)) (hF : (∃ Q1 : Int32 → a_M → Prop, Mt X ad ca LY d yX6_states cX6_states 1 (some FieldType.int) [.ref o1] M (PT x) (q_i (PT x) Q1) ∧ ∀ v1 M1, Q1 v1 M1 → ((v1 ≤ x5 → WA X ad ca LY RX0 cX0_gather 6 none (d + 1) kc ks QF 57 [(0, .ref 19), (1, .ref o1), (2, .int x2), (3, .int x3), (4, .int x4), (5, .int 0)] [] M1 (PT x)) ∧ (¬ v1 ≤ x5 → (vp_in x5 128 ∧ WA X ad ca LY RX0 cX0_gather 6 none (d + 1) kc ks QF 30 [(0, .ref 19), (1, .ref o1), (2, .int x2), (3, .int x3), (4, .int x4), (5, .int (x5 + 1))] [] (ms M1 21 x5.toNatClampNeg (-2)) (PT x)))))) : WA X ad ca LY RX0 cX0_gather 6 none (d + 1) kc ks QF 30 [(0, .ref 19), (1, .ref o1), (2, .int x2), (3, .int x3), (4, .int x4), (5, .int x5)] [] M (PT x) := by
  refine wa_iload dX0_gather_30 5 rfl ?_
  refine wa_aload_n dX0_gather_32 1 rfl rfl ?_
  obtain ⟨Q1, hM9, hF⟩ := hF
  refine wa_callV [] dX0_gather_33 (mmX6_states _ _) mlX0_38 mnX6_states mseX6_states hLo1 rfl rfl rfl (a_dlt d) rfl rfl hM9 ?_
  rintro r9 M1 P9 ⟨v1, rfl, rfl, hq9⟩
  replace hF := hF v1 M1 hq9
  simp only [Option.toList, List.cons_append, List.nil_append]
  refine wa_icmp_ge (tgt := 54) dX0_gather_36 rfl (fun hc => ?_) (fun hc => ?_)
  · replace hF := hF.1 hc
    refine wa_iconst (v := 0) dX0_gather_54 rfl ?_
    refine wa_istore (lv' := [(5, .int 0), (0, .ref 19), (1, .ref o1), (2, .int x2), (3, .int x3), (4, .int x4)]) dX0_gather_55 rfl rfl ?_
    exact wa_pick [1, 2, 3, 4, 5, 0] rfl hF
  · replace hF := hF.2 hc
    refine wa_aload_n dX0_gather_39 0 rfl rfl ?_
    refine wa_getr (r := 21) dX0_gather_40 fkX0_15 rfl rfl rfl ?_
    refine wa_iload dX0_gather_43 5 rfl ?_
    refine wa_bipush (v := (-2)) dX0_gather_45 rfl ?_
    obtain ⟨hi9, hF⟩ := hF
    refine wb_iast (j := x5.toNatClampNeg) dX0_gather_47 rfl hi9 rfl ?_
    refine wa_iinc (v := x5 + 1) (lv' := [(5, .int (x5 + 1)), (0, .ref 19), (1, .ref o1), (2, .int x2), (3, .int x3), (4, .int x4)]) dX0_gather_48 5 rfl rfl rfl rfl ?_
    refine wa_goto (tgt := 30) dX0_gather_51 rfl ?_
    exact wa_pick [1, 2, 3, 4, 5, 0] rfl hF

theorem bX0_gather_57 {X : a_X} {ad : Nat → Nat} {ca : Nat → ClassId} {d : Nat} {Post : Option Value → a_M → a_P → Prop} {x : Nat} {M : a_M} (o1 : Nat) (x2 : Int32) (x3 : Int32) (x4 : Int32) (x5 : Int32) (hLo1 : LY[o1]? = some (6, 5)) (hF : (∃ Q1 : Int32 → a_M → Prop, Mt X ad ca LY d yX6_states cX6_states 1 (some FieldType.int) [.ref o1] M (PT x) (q_i (PT x) Q1) ∧ ∀ v1 M1, Q1 v1 M1 → ((v1 ≤ x5 → Post none M1 (PT x)) ∧ (¬ v1 ≤ x5 → (∃ Q2 : Int32 → a_M → Prop, Mt X ad ca LY d yJ6_bitCount_0f7a4 cJ6_bitCount_0f7a4 1 (some FieldType.int) [.int x5] M1 (PT x) (q_i (PT x) Q2) ∧ ∀ v2 M2, Q2 v2 M2 → ((¬ v2 = x2 → WA X ad ca LY RX0 cX0_gather 6 none (d + 1) 0 0 (a_E X ad ca LY Post) 118 [(0, .ref 19), (1, .ref o1), (2, .int x2), (3, .int x3), (4, .int x4), (5, .int x5)] [] M2 (PT x)) ∧ (v2 = x2 → (vp_in x5 128 ∧ ((¬ (M2 21 x5.toNatClampNeg) = (-2) → WA X ad ca LY RX0 cX0_gather 6 none (d + 1) 0 0 (a_E X ad ca LY Post) 118 [(0, .ref 19), (1, .ref o1), (2, .int x2), (3, .int x3), (4, .int x4), (5, .int x5)] [] M2 (PT x)) ∧ ((M2 21 x5.toNatClampNeg) = (-2) → ((¬ x3 = (-1) → (∃ Q3 : a_M → Prop, Mt X ad ca LY d yX0_gatherRound cX0_gatherRound 10 none [.ref 19, .ref o1, .int x5, .int x3, .int x4] M2 (PT x) (q_v (PT x) Q3) ∧ ∀ M3, Q3 M3 → WA X ad ca LY RX0 cX0_gather 6 none (d + 1) 0 0 (a_E X ad ca LY Post) 118 [(0, .ref 19), (1, .ref o1), (2, .int x2), (3, .int x3), (4, .int x4), (5, .int x5)] [] M3 (PT x))) ∧ (x3 = (-1) → (∃ Q4 : Int32 → a_M → Prop, Mt X ad ca LY d yX0_takeIn cX0_takeIn 2 (some FieldType.int) [.ref 19, .int x5] M2 (PT x) (q_i (PT x) Q4) ∧ ∀ v4 M4, Q4 v4 M4 → (∃ Q5 : a_M → Prop, Mt X ad ca LY d yX0_place cX0_place 4 none [.ref 19, .int x5, .int v4, .int 1] M4 (PT x) (q_v (PT x) Q5) ∧ ∀ M5, Q5 M5 → WA X ad ca LY RX0 cX0_gather 6 none (d + 1) 0 0 (a_E X ad ca LY Post) 118 [(0, .ref 19), (1, .ref o1), (2, .int x2), (3, .int x3), (4, .int x4), (5, .int x5)] [] M5 (PT x))))))))))))))) : WA X ad ca LY RX0 cX0_gather 6 none (d + 1) 0 0 (a_E X ad ca LY Post) 57 [(0, .ref 19), (1, .ref o1), (2, .int x2), (3, .int x3), (4, .int x4), (5, .int x5)] [] M (PT x) := by
  refine wa_iload dX0_gather_57 5 rfl ?_
  refine wa_aload_n dX0_gather_59 1 rfl rfl ?_
  obtain ⟨Q1, hM9, hF⟩ := hF
  refine wa_callV [] dX0_gather_60 (mmX6_states _ _) mlX0_38 mnX6_states mseX6_states hLo1 rfl rfl rfl (a_dlt d) rfl rfl hM9 ?_
  rintro r9 M1 P9 ⟨v1, rfl, rfl, hq9⟩
  replace hF := hF v1 M1 hq9
  simp only [Option.toList, List.cons_append, List.nil_append]
  refine wa_icmp_ge (tgt := 124) dX0_gather_63 rfl (fun hc => ?_) (fun hc => ?_)
  · replace hF := hF.1 hc
    exact wa_vret dX0_gather_124 rfl hF
  · replace hF := hF.2 hc
    refine wa_iload dX0_gather_66 5 rfl ?_
    obtain ⟨Q2, hM9, hF⟩ := hF
    refine wa_callS [.int x5] dX0_gather_68 (mmJ6_bitCount_0f7a4 _ _) mlX0_41 mstJ6_bitCount_0f7a4 rfl (a_dlt d) rfl rfl hM9 ?_
    rintro r9 M2 P9 ⟨v2, rfl, rfl, hq9⟩
    replace hF := hF v2 M2 hq9
    simp only [Option.toList, List.cons_append, List.nil_append]
    refine wa_iload_n dX0_gather_71 2 rfl rfl ?_
    refine wa_icmp_ne (tgt := 118) dX0_gather_72 rfl (fun hc => ?_) (fun hc => ?_)
    · replace hF := hF.1 hc
      exact hF
    · replace hF := hF.2 hc
      refine wa_aload_n dX0_gather_75 0 rfl rfl ?_
      refine wa_getr (r := 21) dX0_gather_76 fkX0_15 rfl rfl rfl ?_
      refine wa_iload dX0_gather_79 5 rfl ?_
      obtain ⟨hi9, hF⟩ := hF
      refine wb_iald (j := x5.toNatClampNeg) (v := M2 21 x5.toNatClampNeg) dX0_gather_81 rfl hi9 rfl rfl ?_
      refine wa_bipush (v := (-2)) dX0_gather_82 rfl ?_
      refine wa_icmp_ne (tgt := 118) dX0_gather_84 rfl (fun hc => ?_) (fun hc => ?_)
      · replace hF := hF.1 hc
        exact hF
      · replace hF := hF.2 hc
        refine wa_iload_n dX0_gather_87 3 rfl rfl ?_
        refine wa_iconst (v := (-1)) dX0_gather_88 rfl ?_
        refine wa_icmp_ne (tgt := 108) dX0_gather_89 rfl (fun hc => ?_) (fun hc => ?_)
        · replace hF := hF.1 hc
          refine wa_aload_n dX0_gather_108 0 rfl rfl ?_
          refine wa_aload_n dX0_gather_109 1 rfl rfl ?_
          refine wa_iload dX0_gather_110 5 rfl ?_
          refine wa_iload_n dX0_gather_112 3 rfl rfl ?_
          refine wa_iload dX0_gather_113 4 rfl ?_
          obtain ⟨Q3, hM9, hF⟩ := hF
          refine wa_callV [.ref o1, .int x5, .int x3, .int x4] dX0_gather_115 (mmX0_gatherRound _ _) mlX0_54 mnX0_gatherRound mseX0_gatherRound rfl rfl rfl rfl (a_dlt d) rfl rfl hM9 ?_
          rintro r9 M3 P9 ⟨rfl, rfl, hq9⟩
          replace hF := hF M3 hq9
          simp only [Option.toList, List.nil_append]
          exact hF
        · replace hF := hF.2 hc
          refine wa_aload_n dX0_gather_92 0 rfl rfl ?_
          refine wa_iload dX0_gather_93 5 rfl ?_
          refine wa_aload_n dX0_gather_95 0 rfl rfl ?_
          refine wa_iload dX0_gather_96 5 rfl ?_
          obtain ⟨Q4, hM9, hF⟩ := hF
          refine wa_callV [.int x5] dX0_gather_98 (mmX0_takeIn _ _) mlX0_47 mnX0_takeIn mseX0_takeIn rfl rfl rfl rfl (a_dlt d) rfl rfl hM9 ?_
          rintro r9 M4 P9 ⟨v4, rfl, rfl, hq9⟩
          replace hF := hF v4 M4 hq9
          simp only [Option.toList, List.cons_append, List.nil_append]
          refine wa_iconst (v := 1) dX0_gather_101 rfl ?_
          obtain ⟨Q5, hM9, hF⟩ := hF
          refine wa_callV [.int x5, .int v4, .int 1] dX0_gather_102 (mmX0_place _ _) mlX0_50 mnX0_place mseX0_place rfl rfl rfl rfl (a_dlt d) rfl rfl hM9 ?_
          rintro r9 M5 P9 ⟨rfl, rfl, hq9⟩
          replace hF := hF M5 hq9
          simp only [Option.toList, List.nil_append]
          refine wa_goto (tgt := 118) dX0_gather_105 rfl ?_
          exact hF

theorem bX0_gather_118 {X : a_X} {ad : Nat → Nat} {ca : Nat → ClassId} {d : Nat} {kc ks : Nat} {QF : List Frame → Array Value → State → State → Prop} {x : Nat} {M : a_M} (o1 : Nat) (x2 : Int32) (x3 : Int32) (x4 : Int32) (x5 : Int32) (hLo1 : LY[o1]? = some (6, 5)) (hF : WA X ad ca LY RX0 cX0_gather 6 none (d + 1) kc ks QF 57 [(0, .ref 19), (1, .ref o1), (2, .int x2), (3, .int x3), (4, .int x4), (5, .int (x5 + 1))] [] M (PT x)) : WA X ad ca LY RX0 cX0_gather 6 none (d + 1) kc ks QF 118 [(0, .ref 19), (1, .ref o1), (2, .int x2), (3, .int x3), (4, .int x4), (5, .int x5)] [] M (PT x) := by
  refine wa_iinc (v := x5 + 1) (lv' := [(5, .int (x5 + 1)), (0, .ref 19), (1, .ref o1), (2, .int x2), (3, .int x3), (4, .int x4)]) dX0_gather_118 5 rfl rfl rfl rfl ?_
  refine wa_goto (tgt := 57) dX0_gather_121 rfl ?_
  exact wa_pick [1, 2, 3, 4, 5, 0] rfl hF

theorem eX0_gather {X : a_X} {ad : Nat → Nat} {ca : Nat → ClassId} {d : Nat} {Post : Option Value → a_M → a_P → Prop} {x : Nat} {M : a_M} (o1 : Nat) (x2 : Int32) (x3 : Int32) (h : WA X ad ca LY RX0 cX0_gather 6 none d 0 0 (a_E X ad ca LY Post) 0 [(0, .ref 19), (1, .ref o1), (2, .int x2), (3, .int x3)] [] M (PT x)) : Mt X ad ca LY d yX0_gather cX0_gather 6 none [.ref 19, .ref o1, .int x2, .int x3] M (PT x) Post := Mt.of (lv := [(0, .ref 19), (1, .ref o1), (2, .int x2), (3, .int x3)]) (by decide +kernel) rfl rfl rfl (wa_pick [0, 1, 2, 3] rfl h)

theorem bX0_gatherRound_0 {X : a_X} {ad : Nat → Nat} {ca : Nat → ClassId} {d : Nat} {kc ks : Nat} {QF : List Frame → Array Value → State → State → Prop} {x : Nat} {M : a_M} (o1 : Nat) (x2 : Int32) (x3 : Int32) (x4 : Int32) (hLo1 : LY[o1]? = some (6, 5)) (hF : (∃ Q1 : Int32 → a_M → Prop, Mt X ad ca LY d yX6_shifted cX6_shifted 2 (some FieldType.int) [.ref o1, .int x2] M (PT x) (q_i (PT x) Q1) ∧ ∀ v1 M1, Q1 v1 M1 → WA X ad ca LY RX0 cX0_gatherRound 10 none (d + 1) kc ks QF 10 [(0, .ref 19), (1, .ref o1), (2, .int x2), (3, .int x3), (4, .int x4), (5, .int 1), (6, .int v1)] [] M1 (PT x))) : WA X ad ca LY RX0 cX0_gatherRound 10 none (d + 1) kc ks QF 0 [(0, .ref 19), (1, .ref o1), (2, .int x2), (3, .int x3), (4, .int x4)] [] M (PT x) := by
  refine wa_iconst (v := 1) dX0_gatherRound_0 rfl ?_
  refine wa_istore (lv' := [(5, .int 1), (0, .ref 19), (1, .ref o1), (2, .int x2), (3, .int x3), (4, .int x4)]) dX0_gatherRound_1 rfl rfl ?_
  refine wa_aload_n dX0_gatherRound_3 2 rfl rfl ?_
  refine wa_iload_n dX0_gatherRound_4 3 rfl rfl ?_
  obtain ⟨Q1, hM9, hF⟩ := hF
  refine wa_callV [.int x2] dX0_gatherRound_5 (mmX6_shifted _ _) mlX0_58 mnX6_shifted mseX6_shifted hLo1 rfl rfl rfl (a_dlt d) rfl rfl hM9 ?_
  rintro r9 M1 P9 ⟨v1, rfl, rfl, hq9⟩
  replace hF := hF v1 M1 hq9
  simp only [Option.toList, List.cons_append, List.nil_append]
  refine wa_istore (lv' := [(6, .int v1), (5, .int 1), (0, .ref 19), (1, .ref o1), (2, .int x2), (3, .int x3), (4, .int x4)]) dX0_gatherRound_8 rfl rfl ?_
  exact wa_pick [2, 3, 4, 5, 6, 1, 0] rfl hF

theorem bX0_gatherRound_10 {X : a_X} {ad : Nat → Nat} {ca : Nat → ClassId} {d : Nat} {kc ks : Nat} {QF : List Frame → Array Value → State → State → Prop} {x : Nat} {M : a_M} (o1 : Nat) (x2 : Int32) (x3 : Int32) (x4 : Int32) (x5 : Int32) (x6 : Int32) (hLo1 : LY[o1]? = some (6, 5)) (hF : ((x6 = x2 → WA X ad ca LY RX0 cX0_gatherRound 10 none (d + 1) kc ks QF 39 [(0, .ref 19), (1, .ref o1), (2, .int x2), (3, .int x3), (4, .int x4), (5, .int x5)] [] M (PT x)) ∧ (¬ x6 = x2 → (((M o1 0) ≤ x5 → WA X ad ca LY RX0 cX0_gatherRound 10 none (d + 1) kc ks QF 39 [(0, .ref 19), (1, .ref o1), (2, .int x2), (3, .int x3), (4, .int x4), (5, .int x5)] [] M (PT x)) ∧ (¬ (M o1 0) ≤ x5 → (∃ Q1 : Int32 → a_M → Prop, Mt X ad ca LY d yX6_shifted cX6_shifted 2 (some FieldType.int) [.ref o1, .int x6] M (PT x) (q_i (PT x) Q1) ∧ ∀ v1 M1, Q1 v1 M1 → WA X ad ca LY RX0 cX0_gatherRound 10 none (d + 1) kc ks QF 10 [(0, .ref 19), (1, .ref o1), (2, .int x2), (3, .int x3), (4, .int x4), (5, .int (x5 + 1)), (6, .int v1)] [] M1 (PT x))))))) : WA X ad ca LY RX0 cX0_gatherRound 10 none (d + 1) kc ks QF 10 [(0, .ref 19), (1, .ref o1), (2, .int x2), (3, .int x3), (4, .int x4), (5, .int x5), (6, .int x6)] [] M (PT x) := by
  refine wa_iload dX0_gatherRound_10 6 rfl ?_
  refine wa_iload_n dX0_gatherRound_12 2 rfl rfl ?_
  refine wa_icmp_eq (tgt := 39) dX0_gatherRound_13 rfl (fun hc => ?_) (fun hc => ?_)
  · replace hF := hF.1 hc
    exact wa_pick [0, 1, 2, 3, 4, 5] rfl hF
  · replace hF := hF.2 hc
    refine wa_iload dX0_gatherRound_16 5 rfl ?_
    refine wa_aload_n dX0_gatherRound_18 1 rfl rfl ?_
    refine wb_geti (v := M o1 0) dX0_gatherRound_19 fkX0_61 rfl hLo1 rfl ?_
    refine wa_icmp_ge (tgt := 39) dX0_gatherRound_22 rfl (fun hc => ?_) (fun hc => ?_)
    · replace hF := hF.1 hc
      exact wa_pick [0, 1, 2, 3, 4, 5] rfl hF
    · replace hF := hF.2 hc
      refine wa_iinc (v := x5 + 1) (lv' := [(5, .int (x5 + 1)), (0, .ref 19), (1, .ref o1), (2, .int x2), (3, .int x3), (4, .int x4), (6, .int x6)]) dX0_gatherRound_25 5 rfl rfl rfl rfl ?_
      refine wa_aload_n dX0_gatherRound_28 2 rfl rfl ?_
      refine wa_iload dX0_gatherRound_29 6 rfl ?_
      obtain ⟨Q1, hM9, hF⟩ := hF
      refine wa_callV [.int x6] dX0_gatherRound_31 (mmX6_shifted _ _) mlX0_58 mnX6_shifted mseX6_shifted hLo1 rfl rfl rfl (a_dlt d) rfl rfl hM9 ?_
      rintro r9 M1 P9 ⟨v1, rfl, rfl, hq9⟩
      replace hF := hF v1 M1 hq9
      simp only [Option.toList, List.cons_append, List.nil_append]
      refine wa_istore (lv' := [(6, .int v1), (5, .int (x5 + 1)), (0, .ref 19), (1, .ref o1), (2, .int x2), (3, .int x3), (4, .int x4)]) dX0_gatherRound_34 rfl rfl ?_
      refine wa_goto (tgt := 10) dX0_gatherRound_36 rfl ?_
      exact wa_pick [2, 3, 4, 5, 6, 1, 0] rfl hF

theorem bX0_gatherRound_39 {X : a_X} {ad : Nat → Nat} {ca : Nat → ClassId} {d : Nat} {kc ks : Nat} {QF : List Frame → Array Value → State → State → Prop} {x : Nat} {M : a_M} (o1 : Nat) (x2 : Int32) (x3 : Int32) (x4 : Int32) (x5 : Int32) (hLo1 : LY[o1]? = some (6, 5)) (hF : (∃ Q1 : Int32 → a_M → Prop, Mt X ad ca LY d yX11_left cX11_left 3 (some FieldType.int) [.int (x3 * x5), .int (M o1 0)] M (PT x) (q_i (PT x) Q1) ∧ ∀ v1 M1, Q1 v1 M1 → ((¬ v1 = 0 → WA X ad ca LY RX0 cX0_gatherRound 10 none (d + 1) kc ks QF 73 [(0, .ref 19), (1, .ref o1), (4, .int x4), (5, .int x5), (6, .int (-1)), (7, .int x2), (8, .int 1), (9, .int 0)] [] M1 (PT x)) ∧ (v1 = 0 → (∃ Q2 : Int32 → a_M → Prop, Mt X ad ca LY d yX0_takeIn cX0_takeIn 2 (some FieldType.int) [.ref 19, .int x2] M1 (PT x) (q_i (PT x) Q2) ∧ ∀ v2 M2, Q2 v2 M2 → WA X ad ca LY RX0 cX0_gatherRound 10 none (d + 1) kc ks QF 73 [(0, .ref 19), (1, .ref o1), (4, .int x4), (5, .int x5), (6, .int v2), (7, .int x2), (8, .int 1), (9, .int 0)] [] M2 (PT x)))))) : WA X ad ca LY RX0 cX0_gatherRound 10 none (d + 1) kc ks QF 39 [(0, .ref 19), (1, .ref o1), (2, .int x2), (3, .int x3), (4, .int x4), (5, .int x5)] [] M (PT x) := by
  refine wa_iload_n dX0_gatherRound_39 3 rfl rfl ?_
  refine wa_iload dX0_gatherRound_40 5 rfl ?_
  refine wa_imul dX0_gatherRound_42 ?_
  refine wa_aload_n dX0_gatherRound_43 1 rfl rfl ?_
  refine wb_geti (v := M o1 0) dX0_gatherRound_44 fkX0_61 rfl hLo1 rfl ?_
  obtain ⟨Q1, hM9, hF⟩ := hF
  refine wa_callSN [.int (x3 * x5), .int (M o1 0)] dX0_gatherRound_47 (mmX11_left _ _) mkX0_64 mstX11_left rfl (a_dlt d) rfl rfl hM9 ?_
  rintro r9 M1 P9 ⟨v1, rfl, rfl, hq9⟩
  replace hF := hF v1 M1 hq9
  simp only [Option.toList, List.cons_append, List.nil_append]
  refine wa_if_ne (tgt := 61) dX0_gatherRound_50 rfl (fun hc => ?_) (fun hc => ?_)
  · replace hF := hF.1 hc
    refine wa_iconst (v := (-1)) dX0_gatherRound_61 rfl ?_
    refine wa_istore (lv' := [(6, .int (-1)), (0, .ref 19), (1, .ref o1), (2, .int x2), (3, .int x3), (4, .int x4), (5, .int x5)]) dX0_gatherRound_62 rfl rfl ?_
    refine wa_iload_n dX0_gatherRound_64 3 rfl rfl ?_
    refine wa_istore (lv' := [(7, .int x2), (6, .int (-1)), (0, .ref 19), (1, .ref o1), (2, .int x2), (3, .int x3), (4, .int x4), (5, .int x5)]) dX0_gatherRound_65 rfl rfl ?_
    refine wa_iconst (v := 1) dX0_gatherRound_67 rfl ?_
    refine wa_istore (lv' := [(8, .int 1), (7, .int x2), (6, .int (-1)), (0, .ref 19), (1, .ref o1), (2, .int x2), (3, .int x3), (4, .int x4), (5, .int x5)]) dX0_gatherRound_68 rfl rfl ?_
    refine wa_iconst (v := 0) dX0_gatherRound_70 rfl ?_
    refine wa_istore (lv' := [(9, .int 0), (8, .int 1), (7, .int x2), (6, .int (-1)), (0, .ref 19), (1, .ref o1), (2, .int x2), (3, .int x3), (4, .int x4), (5, .int x5)]) dX0_gatherRound_71 rfl rfl ?_
    exact wa_pick [4, 5, 8, 9, 3, 2, 1, 0] rfl hF
  · replace hF := hF.2 hc
    refine wa_aload_n dX0_gatherRound_53 0 rfl rfl ?_
    refine wa_iload_n dX0_gatherRound_54 2 rfl rfl ?_
    obtain ⟨Q2, hM9, hF⟩ := hF
    refine wa_callV [.int x2] dX0_gatherRound_55 (mmX0_takeIn _ _) mlX0_47 mnX0_takeIn mseX0_takeIn rfl rfl rfl rfl (a_dlt d) rfl rfl hM9 ?_
    rintro r9 M2 P9 ⟨v2, rfl, rfl, hq9⟩
    replace hF := hF v2 M2 hq9
    simp only [Option.toList, List.cons_append, List.nil_append]
    refine wa_goto (tgt := 62) dX0_gatherRound_58 rfl ?_
    refine wa_istore (lv' := [(6, .int v2), (0, .ref 19), (1, .ref o1), (2, .int x2), (3, .int x3), (4, .int x4), (5, .int x5)]) dX0_gatherRound_62 rfl rfl ?_
    refine wa_iload_n dX0_gatherRound_64 3 rfl rfl ?_
    refine wa_istore (lv' := [(7, .int x2), (6, .int v2), (0, .ref 19), (1, .ref o1), (2, .int x2), (3, .int x3), (4, .int x4), (5, .int x5)]) dX0_gatherRound_65 rfl rfl ?_
    refine wa_iconst (v := 1) dX0_gatherRound_67 rfl ?_
    refine wa_istore (lv' := [(8, .int 1), (7, .int x2), (6, .int v2), (0, .ref 19), (1, .ref o1), (2, .int x2), (3, .int x3), (4, .int x4), (5, .int x5)]) dX0_gatherRound_68 rfl rfl ?_
    refine wa_iconst (v := 0) dX0_gatherRound_70 rfl ?_
    refine wa_istore (lv' := [(9, .int 0), (8, .int 1), (7, .int x2), (6, .int v2), (0, .ref 19), (1, .ref o1), (2, .int x2), (3, .int x3), (4, .int x4), (5, .int x5)]) dX0_gatherRound_71 rfl rfl ?_
    exact wa_pick [4, 5, 8, 9, 3, 2, 1, 0] rfl hF

theorem bX0_gatherRound_73 {X : a_X} {ad : Nat → Nat} {ca : Nat → ClassId} {d : Nat} {Post : Option Value → a_M → a_P → Prop} {x : Nat} {M : a_M} (o1 : Nat) (x4 : Int32) (x5 : Int32) (x6 : Int32) (x7 : Int32) (x8 : Int32) (x9 : Int32) (hLo1 : LY[o1]? = some (6, 5)) (hF : ((x5 ≤ x9 → Post none M (PT x)) ∧ (¬ x5 ≤ x9 → (∃ Q1 : a_M → Prop, Mt X ad ca LY d yX0_place cX0_place 4 none [.ref 19, .int x7, .int x6, .int x8] M (PT x) (q_v (PT x) Q1) ∧ ∀ M1, Q1 M1 → (∃ Q2 : Int32 → a_M → Prop, Mt X ad ca LY d yX6_shifted cX6_shifted 2 (some FieldType.int) [.ref o1, .int x7] M1 (PT x) (q_i (PT x) Q2) ∧ ∀ v2 M2, Q2 v2 M2 → (∃ Q3 : Int32 → a_M → Prop, Mt X ad ca LY d yX11_left cX11_left 3 (some FieldType.int) [.int (x8 * x4), .int (M2 o1 2)] M2 (PT x) (q_i (PT x) Q3) ∧ ∀ v3 M3, Q3 v3 M3 → WA X ad ca LY RX0 cX0_gatherRound 10 none (d + 1) 0 0 (a_E X ad ca LY Post) 73 [(0, .ref 19), (1, .ref o1), (4, .int x4), (5, .int x5), (6, .int x6), (7, .int v2), (8, .int v3), (9, .int (x9 + 1))] [] M3 (PT x))))))) : WA X ad ca LY RX0 cX0_gatherRound 10 none (d + 1) 0 0 (a_E X ad ca LY Post) 73 [(0, .ref 19), (1, .ref o1), (4, .int x4), (5, .int x5), (6, .int x6), (7, .int x7), (8, .int x8), (9, .int x9)] [] M (PT x) := by
  refine wa_iload dX0_gatherRound_73 7 rfl ?_
  refine wa_iload dX0_gatherRound_75 3 rfl ?_
  refine wa_icmp_ge (tgt := 118) dX0_gatherRound_77 rfl (fun hc => ?_) (fun hc => ?_)
  · replace hF := hF.1 hc
    exact wa_vret dX0_gatherRound_118 rfl hF
  · replace hF := hF.2 hc
    refine wa_aload_n dX0_gatherRound_80 0 rfl rfl ?_
    refine wa_iload dX0_gatherRound_81 5 rfl ?_
    refine wa_iload dX0_gatherRound_83 4 rfl ?_
    refine wa_iload dX0_gatherRound_85 6 rfl ?_
    obtain ⟨Q1, hM9, hF⟩ := hF
    refine wa_callV [.int x7, .int x6, .int x8] dX0_gatherRound_87 (mmX0_place _ _) mlX0_50 mnX0_place mseX0_place rfl rfl rfl rfl (a_dlt d) rfl rfl hM9 ?_
    rintro r9 M1 P9 ⟨rfl, rfl, hq9⟩
    replace hF := hF M1 hq9
    simp only [Option.toList, List.nil_append]
    refine wa_aload_n dX0_gatherRound_90 1 rfl rfl ?_
    refine wa_iload dX0_gatherRound_91 5 rfl ?_
    obtain ⟨Q2, hM9, hF⟩ := hF
    refine wa_callV [.int x7] dX0_gatherRound_93 (mmX6_shifted _ _) mlX0_58 mnX6_shifted mseX6_shifted hLo1 rfl rfl rfl (a_dlt d) rfl rfl hM9 ?_
    rintro r9 M2 P9 ⟨v2, rfl, rfl, hq9⟩
    replace hF := hF v2 M2 hq9
    simp only [Option.toList, List.cons_append, List.nil_append]
    refine wa_istore (lv' := [(7, .int v2), (0, .ref 19), (1, .ref o1), (4, .int x4), (5, .int x5), (6, .int x6), (8, .int x8), (9, .int x9)]) dX0_gatherRound_96 rfl rfl ?_
    refine wa_iload dX0_gatherRound_98 6 rfl ?_
    refine wa_iload dX0_gatherRound_100 3 rfl ?_
    refine wa_imul dX0_gatherRound_102 ?_
    refine wa_aload_n dX0_gatherRound_103 2 rfl rfl ?_
    refine wb_geti (v := M2 o1 2) dX0_gatherRound_104 fkX0_31 rfl hLo1 rfl ?_
    obtain ⟨Q3, hM9, hF⟩ := hF
    refine wa_callSN [.int (x8 * x4), .int (M2 o1 2)] dX0_gatherRound_107 (mmX11_left _ _) mkX0_64 mstX11_left rfl (a_dlt d) rfl rfl hM9 ?_
    rintro r9 M3 P9 ⟨v3, rfl, rfl, hq9⟩
    replace hF := hF v3 M3 hq9
    simp only [Option.toList, List.cons_append, List.nil_append]
    refine wa_istore (lv' := [(8, .int v3), (7, .int v2), (0, .ref 19), (1, .ref o1), (4, .int x4), (5, .int x5), (6, .int x6), (9, .int x9)]) dX0_gatherRound_110 rfl rfl ?_
    refine wa_iinc (v := x9 + 1) (lv' := [(9, .int (x9 + 1)), (8, .int v3), (7, .int v2), (0, .ref 19), (1, .ref o1), (4, .int x4), (5, .int x5), (6, .int x6)]) dX0_gatherRound_112 7 rfl rfl rfl rfl ?_
    refine wa_goto (tgt := 73) dX0_gatherRound_115 rfl ?_
    exact wa_pick [3, 4, 5, 6, 7, 2, 1, 0] rfl hF

theorem eX0_gatherRound {X : a_X} {ad : Nat → Nat} {ca : Nat → ClassId} {d : Nat} {Post : Option Value → a_M → a_P → Prop} {x : Nat} {M : a_M} (o1 : Nat) (x2 : Int32) (x3 : Int32) (x4 : Int32) (h : WA X ad ca LY RX0 cX0_gatherRound 10 none d 0 0 (a_E X ad ca LY Post) 0 [(0, .ref 19), (1, .ref o1), (2, .int x2), (3, .int x3), (4, .int x4)] [] M (PT x)) : Mt X ad ca LY d yX0_gatherRound cX0_gatherRound 10 none [.ref 19, .ref o1, .int x2, .int x3, .int x4] M (PT x) Post := Mt.of (lv := [(0, .ref 19), (1, .ref o1), (2, .int x2), (3, .int x3), (4, .int x4)]) (by decide +kernel) rfl rfl rfl (wa_pick [0, 1, 2, 3, 4] rfl h)

theorem bX0_takeIn_0 {X : a_X} {ad : Nat → Nat} {ca : Nat → ClassId} {d : Nat} {Post : Option Value → a_M → a_P → Prop} {x : Nat} {M : a_M} (x1 : Int32)  (hF : (((M 19 3) < 35 → (vp_in (M 19 3) 35 ∧ Post (some (.int (((M 19 3) + 1) - 1))) (ms (ms M 20 ((M 19 3).toNatClampNeg) x1) 19 3 ((M 19 3) + 1)) (PT x))) ∧ (¬ (M 19 3) < 35 → Post (some (.int (-1))) M (PT x)))) : WA X ad ca LY RX0 cX0_takeIn 2 (some FieldType.int) (d + 1) 0 0 (a_E X ad ca LY Post) 0 [(0, .ref 19), (1, .int x1)] [] M (PT x) := by
  refine wa_aload_n dX0_takeIn_0 0 rfl rfl ?_
  refine wb_geti (v := M 19 3) dX0_takeIn_1 fkX0_21 rfl rfl rfl ?_
  refine wa_aload_n dX0_takeIn_4 0 rfl rfl ?_
  refine wa_getr (r := 20) dX0_takeIn_5 fkX0_9 rfl rfl rfl ?_
  refine wa_alen (v := 35) dX0_takeIn_8 rfl (by decide) rfl ?_
  refine wa_icmp_lt (tgt := 14) dX0_takeIn_9 rfl (fun hc => ?_) (fun hc => ?_)
  · replace hF := hF.1 hc
    refine wa_aload_n dX0_takeIn_14 0 rfl rfl ?_
    refine wa_getr (r := 20) dX0_takeIn_15 fkX0_9 rfl rfl rfl ?_
    refine wa_aload_n dX0_takeIn_18 0 rfl rfl ?_
    refine wb_geti (v := M 19 3) dX0_takeIn_19 fkX0_21 rfl rfl rfl ?_
    refine wa_iload_n dX0_takeIn_22 1 rfl rfl ?_
    obtain ⟨hi9, hF⟩ := hF
    refine wb_iast (j := (M 19 3).toNatClampNeg) dX0_takeIn_23 rfl hi9 rfl ?_
    refine wa_aload_n dX0_takeIn_24 0 rfl rfl ?_
    refine wa_dup dX0_takeIn_25 rfl ?_
    refine wb_geti (v := M 19 3) dX0_takeIn_26 fkX0_21 rfl rfl ((ms_no M 20 ((M 19 3).toNatClampNeg) x1 19 3 (fun h9 => absurd h9.1 (by decide))).trans rfl) ?_
    refine wa_iconst (v := 1) dX0_takeIn_29 rfl ?_
    refine wa_iadd dX0_takeIn_30 ?_
    refine wb_puti dX0_takeIn_31 fkX0_21 fmX0_3 rfl rfl ?_
    refine wa_aload_n dX0_takeIn_34 0 rfl rfl ?_
    refine wb_geti (v := ((M 19 3) + 1)) dX0_takeIn_35 fkX0_21 rfl rfl (ms_is (ms M 20 ((M 19 3).toNatClampNeg) x1) 19 3 ((M 19 3) + 1)) ?_
    refine wa_iconst (v := 1) dX0_takeIn_38 rfl ?_
    refine wa_isub dX0_takeIn_39 ?_
    exact wa_iret dX0_takeIn_40 rfl rfl hF
  · replace hF := hF.2 hc
    refine wa_iconst (v := (-1)) dX0_takeIn_12 rfl ?_
    exact wa_iret dX0_takeIn_13 rfl rfl hF

theorem eX0_takeIn {X : a_X} {ad : Nat → Nat} {ca : Nat → ClassId} {d : Nat} {Post : Option Value → a_M → a_P → Prop} {x : Nat} {M : a_M} (x1 : Int32) (h : WA X ad ca LY RX0 cX0_takeIn 2 (some FieldType.int) d 0 0 (a_E X ad ca LY Post) 0 [(0, .ref 19), (1, .int x1)] [] M (PT x)) : Mt X ad ca LY d yX0_takeIn cX0_takeIn 2 (some FieldType.int) [.ref 19, .int x1] M (PT x) Post := Mt.of (lv := [(0, .ref 19), (1, .int x1)]) (by decide +kernel) rfl rfl rfl (wa_pick [0, 1] rfl h)

theorem bX0_place_0 {X : a_X} {ad : Nat → Nat} {ca : Nat → ClassId} {d : Nat} {Post : Option Value → a_M → a_P → Prop} {x : Nat} {M : a_M} (x1 : Int32) (x2 : Int32) (x3 : Int32)  (hF : (vp_in x1 128 ∧ (vp_in x1 128 ∧ Post none (ms (ms M 21 x1.toNatClampNeg x2) 22 x1.toNatClampNeg x3) (PT x)))) : WA X ad ca LY RX0 cX0_place 4 none (d + 1) 0 0 (a_E X ad ca LY Post) 0 [(0, .ref 19), (1, .int x1), (2, .int x2), (3, .int x3)] [] M (PT x) := by
  refine wa_aload_n dX0_place_0 0 rfl rfl ?_
  refine wa_getr (r := 21) dX0_place_1 fkX0_15 rfl rfl rfl ?_
  refine wa_iload_n dX0_place_4 1 rfl rfl ?_
  refine wa_iload_n dX0_place_5 2 rfl rfl ?_
  obtain ⟨hi9, hF⟩ := hF
  refine wb_iast (j := x1.toNatClampNeg) dX0_place_6 rfl hi9 rfl ?_
  refine wa_aload_n dX0_place_7 0 rfl rfl ?_
  refine wa_getr (r := 22) dX0_place_8 fkX0_18 rfl rfl rfl ?_
  refine wa_iload_n dX0_place_11 1 rfl rfl ?_
  refine wa_iload_n dX0_place_12 3 rfl rfl ?_
  obtain ⟨hi9, hF⟩ := hF
  refine wb_iast (j := x1.toNatClampNeg) dX0_place_13 rfl hi9 rfl ?_
  exact wa_vret dX0_place_14 rfl hF

theorem eX0_place {X : a_X} {ad : Nat → Nat} {ca : Nat → ClassId} {d : Nat} {Post : Option Value → a_M → a_P → Prop} {x : Nat} {M : a_M} (x1 : Int32) (x2 : Int32) (x3 : Int32) (h : WA X ad ca LY RX0 cX0_place 4 none d 0 0 (a_E X ad ca LY Post) 0 [(0, .ref 19), (1, .int x1), (2, .int x2), (3, .int x3)] [] M (PT x)) : Mt X ad ca LY d yX0_place cX0_place 4 none [.ref 19, .int x1, .int x2, .int x3] M (PT x) Post := Mt.of (lv := [(0, .ref 19), (1, .int x1), (2, .int x2), (3, .int x3)]) (by decide +kernel) rfl rfl rfl (wa_pick [0, 1, 2, 3] rfl h)

theorem bX0_fillSum_0 {X : a_X} {ad : Nat → Nat} {ca : Nat → ClassId} {d : Nat} {kc ks : Nat} {QF : List Frame → Array Value → State → State → Prop} {x : Nat} {M : a_M} (o1 : Nat) (o2 : Nat) (no2 : Nat) (hLo1 : LY[o1]? = some (6, 5)) (hLo2 : LY[o2]? = some (100, no2)) (hF : WA X ad ca LY RX0 cX0_fillSum 9 none (d + 1) kc ks QF 2 [(0, .ref 19), (1, .ref o1), (2, .ref o2), (3, .int 0)] [] M (PT x)) : WA X ad ca LY RX0 cX0_fillSum 9 none (d + 1) kc ks QF 0 [(0, .ref 19), (1, .ref o1), (2, .ref o2)] [] M (PT x) := by
  refine wa_iconst (v := 0) dX0_fillSum_0 rfl ?_
  refine wa_istore_n (lv' := [(3, .int 0), (0, .ref 19), (1, .ref o1), (2, .ref o2)]) dX0_fillSum_1 rfl rfl rfl ?_
  exact wa_pick [1, 2, 3, 0] rfl hF

theorem bX0_fillSum_2 {X : a_X} {ad : Nat → Nat} {ca : Nat → ClassId} {d : Nat} {kc ks : Nat} {QF : List Frame → Array Value → State → State → Prop} {x : Nat} {M : a_M} (o1 : Nat) (o2 : Nat) (no2 : Nat) (x3 : Int32) (hLo1 : LY[o1]? = some (6, 5)) (hLo2 : LY[o2]? = some (100, no2)) (hF : ((((M 19 3) * (M 19 3)) ≤ x3 → WA X ad ca LY RX0 cX0_fillSum 9 none (d + 1) kc ks QF 31 [(0, .ref 19), (1, .ref o1), (2, .ref o2)] [] M (PT x)) ∧ (¬ ((M 19 3) * (M 19 3)) ≤ x3 → (((nI no2) ≤ x3 → WA X ad ca LY RX0 cX0_fillSum 9 none (d + 1) kc ks QF 31 [(0, .ref 19), (1, .ref o1), (2, .ref o2)] [] M (PT x)) ∧ (¬ (nI no2) ≤ x3 → (vp_in x3 no2 ∧ WA X ad ca LY RX0 cX0_fillSum 9 none (d + 1) kc ks QF 2 [(0, .ref 19), (1, .ref o1), (2, .ref o2), (3, .int (x3 + 1))] [] (ms M o2 x3.toNatClampNeg 0) (PT x))))))) : WA X ad ca LY RX0 cX0_fillSum 9 none (d + 1) kc ks QF 2 [(0, .ref 19), (1, .ref o1), (2, .ref o2), (3, .int x3)] [] M (PT x) := by
  refine wa_iload_n dX0_fillSum_2 3 rfl rfl ?_
  refine wa_aload_n dX0_fillSum_3 0 rfl rfl ?_
  refine wb_geti (v := M 19 3) dX0_fillSum_4 fkX0_21 rfl rfl rfl ?_
  refine wa_aload_n dX0_fillSum_7 0 rfl rfl ?_
  refine wb_geti (v := M 19 3) dX0_fillSum_8 fkX0_21 rfl rfl rfl ?_
  refine wa_imul dX0_fillSum_11 ?_
  refine wa_icmp_ge (tgt := 31) dX0_fillSum_12 rfl (fun hc => ?_) (fun hc => ?_)
  · replace hF := hF.1 hc
    exact wa_pick [0, 1, 2] rfl hF
  · replace hF := hF.2 hc
    refine wa_iload_n dX0_fillSum_15 3 rfl rfl ?_
    refine wa_aload_n dX0_fillSum_16 2 rfl rfl ?_
    refine wa_alen (v := nI no2) dX0_fillSum_17 hLo2 (by decide) rfl ?_
    refine wa_icmp_ge (tgt := 31) dX0_fillSum_18 rfl (fun hc => ?_) (fun hc => ?_)
    · replace hF := hF.1 hc
      exact wa_pick [0, 1, 2] rfl hF
    · replace hF := hF.2 hc
      refine wa_aload_n dX0_fillSum_21 2 rfl rfl ?_
      refine wa_iload_n dX0_fillSum_22 3 rfl rfl ?_
      refine wa_iconst (v := 0) dX0_fillSum_23 rfl ?_
      obtain ⟨hi9, hF⟩ := hF
      refine wb_iast (j := x3.toNatClampNeg) dX0_fillSum_24 hLo2 hi9 rfl ?_
      refine wa_iinc (v := x3 + 1) (lv' := [(3, .int (x3 + 1)), (0, .ref 19), (1, .ref o1), (2, .ref o2)]) dX0_fillSum_25 3 rfl rfl rfl rfl ?_
      refine wa_goto (tgt := 2) dX0_fillSum_28 rfl ?_
      exact wa_pick [1, 2, 3, 0] rfl hF

theorem bX0_fillSum_31 {X : a_X} {ad : Nat → Nat} {ca : Nat → ClassId} {d : Nat} {kc ks : Nat} {QF : List Frame → Array Value → State → State → Prop} {x : Nat} {M : a_M} (o1 : Nat) (o2 : Nat) (no2 : Nat) (hLo1 : LY[o1]? = some (6, 5)) (hLo2 : LY[o2]? = some (100, no2)) (hF : WA X ad ca LY RX0 cX0_fillSum 9 none (d + 1) kc ks QF 33 [(0, .ref 19), (1, .ref o1), (2, .ref o2), (3, .int 0)] [] M (PT x)) : WA X ad ca LY RX0 cX0_fillSum 9 none (d + 1) kc ks QF 31 [(0, .ref 19), (1, .ref o1), (2, .ref o2)] [] M (PT x) := by
  refine wa_iconst (v := 0) dX0_fillSum_31 rfl ?_
  refine wa_istore_n (lv' := [(3, .int 0), (0, .ref 19), (1, .ref o1), (2, .ref o2)]) dX0_fillSum_32 rfl rfl rfl ?_
  exact wa_pick [1, 2, 3, 0] rfl hF

theorem bX0_fillSum_33 {X : a_X} {ad : Nat → Nat} {ca : Nat → ClassId} {d : Nat} {Post : Option Value → a_M → a_P → Prop} {x : Nat} {M : a_M} (o1 : Nat) (o2 : Nat) (no2 : Nat) (x3 : Int32) (hLo1 : LY[o1]? = some (6, 5)) (hLo2 : LY[o2]? = some (100, no2)) (hF : (((M 19 3) ≤ x3 → Post none M (PT x)) ∧ (¬ (M 19 3) ≤ x3 → WA X ad ca LY RX0 cX0_fillSum 9 none (d + 1) 0 0 (a_E X ad ca LY Post) 44 [(0, .ref 19), (1, .ref o1), (2, .ref o2), (3, .int x3), (4, .int 0)] [] M (PT x)))) : WA X ad ca LY RX0 cX0_fillSum 9 none (d + 1) 0 0 (a_E X ad ca LY Post) 33 [(0, .ref 19), (1, .ref o1), (2, .ref o2), (3, .int x3)] [] M (PT x) := by
  refine wa_iload_n dX0_fillSum_33 3 rfl rfl ?_
  refine wa_aload_n dX0_fillSum_34 0 rfl rfl ?_
  refine wb_geti (v := M 19 3) dX0_fillSum_35 fkX0_21 rfl rfl rfl ?_
  refine wa_icmp_ge (tgt := 172) dX0_fillSum_38 rfl (fun hc => ?_) (fun hc => ?_)
  · replace hF := hF.1 hc
    exact wa_vret dX0_fillSum_172 rfl hF
  · replace hF := hF.2 hc
    refine wa_iconst (v := 0) dX0_fillSum_41 rfl ?_
    refine wa_istore (lv' := [(4, .int 0), (0, .ref 19), (1, .ref o1), (2, .ref o2), (3, .int x3)]) dX0_fillSum_42 rfl rfl ?_
    exact wa_pick [1, 2, 3, 4, 0] rfl hF

theorem bX0_fillSum_44 {X : a_X} {ad : Nat → Nat} {ca : Nat → ClassId} {d : Nat} {kc ks : Nat} {QF : List Frame → Array Value → State → State → Prop} {x : Nat} {M : a_M} (o1 : Nat) (o2 : Nat) (no2 : Nat) (x3 : Int32) (x4 : Int32) (hLo1 : LY[o1]? = some (6, 5)) (hLo2 : LY[o2]? = some (100, no2)) (hF : (∃ Q1 : Int32 → a_M → Prop, Mt X ad ca LY d yX6_bonds cX6_bonds 1 (some FieldType.int) [.ref o1] M (PT x) (q_i (PT x) Q1) ∧ ∀ v1 M1, Q1 v1 M1 → ((v1 ≤ x4 → WA X ad ca LY RX0 cX0_fillSum 9 none (d + 1) kc ks QF 33 [(0, .ref 19), (1, .ref o1), (2, .ref o2), (3, .int (x3 + 1))] [] M1 (PT x)) ∧ (¬ v1 ≤ x4 → (∃ Q2 : Int32 → a_M → Prop, Mt X ad ca LY d yX6_bond cX6_bond 2 (some FieldType.int) [.ref o1, .int x4] M1 (PT x) (q_i (PT x) Q2) ∧ ∀ v2 M2, Q2 v2 M2 → (vp_in x3 35 ∧ (∃ Q3 : Int32 → a_M → Prop, Mt X ad ca LY d yX6_areAlike cX6_areAlike 3 (some FieldType.boolean) [.int (M2 20 x3.toNatClampNeg), .int v2] M2 (PT x) (q_i (PT x) Q3) ∧ ∀ v3 M3, Q3 v3 M3 → ((v3 = 0 → (vp_in x3 35 ∧ (vp_in ((M3 20 x3.toNatClampNeg) ^^^ v2) 128 ∧ (((M3 21 (((M3 20 x3.toNatClampNeg) ^^^ v2).toNatClampNeg)) < 0 → WA X ad ca LY RX0 cX0_fillSum 9 none (d + 1) kc ks QF 160 [(0, .ref 19), (1, .ref o1), (2, .ref o2), (3, .int x3), (4, .int x4)] [] M3 (PT x)) ∧ (¬ (M3 21 (((M3 20 x3.toNatClampNeg) ^^^ v2).toNatClampNeg)) < 0 → (vp_in ((M3 20 x3.toNatClampNeg) ^^^ v2) 128 ∧ (vp_in ((x3 * (M3 19 3)) + (M3 21 (((M3 20 x3.toNatClampNeg) ^^^ v2).toNatClampNeg))) no2 ∧ ((v3 = 0 → (vp_in ((M3 20 x3.toNatClampNeg) ^^^ v2) 128 ∧ (∃ Q4 : Int32 → a_M → Prop, Mt X ad ca LY d yX11_left cX11_left 3 (some FieldType.int) [.int ((M3 o2 (((x3 * (M3 19 3)) + (M3 21 (((M3 20 x3.toNatClampNeg) ^^^ v2).toNatClampNeg))).toNatClampNeg)) + (M3 22 (((M3 20 x3.toNatClampNeg) ^^^ v2).toNatClampNeg))), .int (M3 o1 2)] M3 (PT x) (q_i (PT x) Q4) ∧ ∀ v4 M4, Q4 v4 M4 → (vp_in ((x3 * (M3 19 3)) + (M3 21 (((M3 20 x3.toNatClampNeg) ^^^ v2).toNatClampNeg))) no2 ∧ WA X ad ca LY RX0 cX0_fillSum 9 none (d + 1) kc ks QF 160 [(0, .ref 19), (1, .ref o1), (2, .ref o2), (3, .int x3), (4, .int x4)] [] (ms M4 o2 (((x3 * (M3 19 3)) + (M3 21 (((M3 20 x3.toNatClampNeg) ^^^ v2).toNatClampNeg))).toNatClampNeg) v4) (PT x))))) ∧ (¬ v3 = 0 → (∃ Q5 : Int32 → a_M → Prop, Mt X ad ca LY d yX11_left cX11_left 3 (some FieldType.int) [.int ((M3 o2 (((x3 * (M3 19 3)) + (M3 21 (((M3 20 x3.toNatClampNeg) ^^^ v2).toNatClampNeg))).toNatClampNeg)) + (M3 o1 4)), .int (M3 o1 2)] M3 (PT x) (q_i (PT x) Q5) ∧ ∀ v5 M5, Q5 v5 M5 → (vp_in ((x3 * (M3 19 3)) + (M3 21 (((M3 20 x3.toNatClampNeg) ^^^ v2).toNatClampNeg))) no2 ∧ WA X ad ca LY RX0 cX0_fillSum 9 none (d + 1) kc ks QF 160 [(0, .ref 19), (1, .ref o1), (2, .ref o2), (3, .int x3), (4, .int x4)] [] (ms M5 o2 (((x3 * (M3 19 3)) + (M3 21 (((M3 20 x3.toNatClampNeg) ^^^ v2).toNatClampNeg))).toNatClampNeg) v5) (PT x)))))))))))) ∧ (¬ v3 = 0 → (vp_in x3 35 ∧ (vp_in (M3 20 x3.toNatClampNeg) 128 ∧ (((M3 21 ((M3 20 x3.toNatClampNeg).toNatClampNeg)) < 0 → WA X ad ca LY RX0 cX0_fillSum 9 none (d + 1) kc ks QF 160 [(0, .ref 19), (1, .ref o1), (2, .ref o2), (3, .int x3), (4, .int x4)] [] M3 (PT x)) ∧ (¬ (M3 21 ((M3 20 x3.toNatClampNeg).toNatClampNeg)) < 0 → (vp_in (M3 20 x3.toNatClampNeg) 128 ∧ (vp_in ((x3 * (M3 19 3)) + (M3 21 ((M3 20 x3.toNatClampNeg).toNatClampNeg))) no2 ∧ ((v3 = 0 → (vp_in (M3 20 x3.toNatClampNeg) 128 ∧ (∃ Q6 : Int32 → a_M → Prop, Mt X ad ca LY d yX11_left cX11_left 3 (some FieldType.int) [.int ((M3 o2 (((x3 * (M3 19 3)) + (M3 21 ((M3 20 x3.toNatClampNeg).toNatClampNeg))).toNatClampNeg)) + (M3 22 ((M3 20 x3.toNatClampNeg).toNatClampNeg))), .int (M3 o1 2)] M3 (PT x) (q_i (PT x) Q6) ∧ ∀ v6 M6, Q6 v6 M6 → (vp_in ((x3 * (M3 19 3)) + (M3 21 ((M3 20 x3.toNatClampNeg).toNatClampNeg))) no2 ∧ WA X ad ca LY RX0 cX0_fillSum 9 none (d + 1) kc ks QF 160 [(0, .ref 19), (1, .ref o1), (2, .ref o2), (3, .int x3), (4, .int x4)] [] (ms M6 o2 (((x3 * (M3 19 3)) + (M3 21 ((M3 20 x3.toNatClampNeg).toNatClampNeg))).toNatClampNeg) v6) (PT x))))) ∧ (¬ v3 = 0 → (∃ Q7 : Int32 → a_M → Prop, Mt X ad ca LY d yX11_left cX11_left 3 (some FieldType.int) [.int ((M3 o2 (((x3 * (M3 19 3)) + (M3 21 ((M3 20 x3.toNatClampNeg).toNatClampNeg))).toNatClampNeg)) + (M3 o1 4)), .int (M3 o1 2)] M3 (PT x) (q_i (PT x) Q7) ∧ ∀ v7 M7, Q7 v7 M7 → (vp_in ((x3 * (M3 19 3)) + (M3 21 ((M3 20 x3.toNatClampNeg).toNatClampNeg))) no2 ∧ WA X ad ca LY RX0 cX0_fillSum 9 none (d + 1) kc ks QF 160 [(0, .ref 19), (1, .ref o1), (2, .ref o2), (3, .int x3), (4, .int x4)] [] (ms M7 o2 (((x3 * (M3 19 3)) + (M3 21 ((M3 20 x3.toNatClampNeg).toNatClampNeg))).toNatClampNeg) v7) (PT x)))))))))))))))))))) : WA X ad ca LY RX0 cX0_fillSum 9 none (d + 1) kc ks QF 44 [(0, .ref 19), (1, .ref o1), (2, .ref o2), (3, .int x3), (4, .int x4)] [] M (PT x) := by
  refine wa_iload dX0_fillSum_44 4 rfl ?_
  refine wa_aload_n dX0_fillSum_46 1 rfl rfl ?_
  obtain ⟨Q1, hM9, hF⟩ := hF
  refine wa_callV [] dX0_fillSum_47 (mmX6_bonds _ _) mlX0_68 mnX6_bonds mseX6_bonds hLo1 rfl rfl rfl (a_dlt d) rfl rfl hM9 ?_
  rintro r9 M1 P9 ⟨v1, rfl, rfl, hq9⟩
  replace hF := hF v1 M1 hq9
  simp only [Option.toList, List.cons_append, List.nil_append]
  refine wa_icmp_ge (tgt := 166) dX0_fillSum_50 rfl (fun hc => ?_) (fun hc => ?_)
  · replace hF := hF.1 hc
    refine wa_iinc (v := x3 + 1) (lv' := [(3, .int (x3 + 1)), (0, .ref 19), (1, .ref o1), (2, .ref o2), (4, .int x4)]) dX0_fillSum_166 3 rfl rfl rfl rfl ?_
    refine wa_goto (tgt := 33) dX0_fillSum_169 rfl ?_
    exact wa_pick [1, 2, 3, 0] rfl hF
  · replace hF := hF.2 hc
    refine wa_aload_n dX0_fillSum_53 1 rfl rfl ?_
    refine wa_iload dX0_fillSum_54 4 rfl ?_
    obtain ⟨Q2, hM9, hF⟩ := hF
    refine wa_callV [.int x4] dX0_fillSum_56 (mmX6_bond _ _) mlX0_71 mnX6_bond mseX6_bond hLo1 rfl rfl rfl (a_dlt d) rfl rfl hM9 ?_
    rintro r9 M2 P9 ⟨v2, rfl, rfl, hq9⟩
    replace hF := hF v2 M2 hq9
    simp only [Option.toList, List.cons_append, List.nil_append]
    refine wa_istore (lv' := [(5, .int v2), (0, .ref 19), (1, .ref o1), (2, .ref o2), (3, .int x3), (4, .int x4)]) dX0_fillSum_59 rfl rfl ?_
    refine wa_aload_n dX0_fillSum_61 1 rfl rfl ?_
    refine wa_getr (r := 20) dX0_fillSum_62 fkX0_9 rfl rfl rfl ?_
    refine wa_iload_n dX0_fillSum_65 4 rfl rfl ?_
    obtain ⟨hi9, hF⟩ := hF
    refine wb_iald (j := x3.toNatClampNeg) (v := M2 20 x3.toNatClampNeg) dX0_fillSum_66 rfl hi9 rfl rfl ?_
    refine wa_iload dX0_fillSum_67 0 rfl ?_
    obtain ⟨Q3, hM9, hF⟩ := hF
    refine wa_callS [.int (M2 20 x3.toNatClampNeg), .int v2] dX0_fillSum_69 (mmX6_areAlike _ _) mlX0_74 mstX6_areAlike rfl (a_dlt d) rfl rfl hM9 ?_
    rintro r9 M3 P9 ⟨v3, rfl, rfl, hq9⟩
    replace hF := hF v3 M3 hq9
    simp only [Option.toList, List.cons_append, List.nil_append]
    refine wa_istore (lv' := [(6, .int v3), (5, .int v2), (0, .ref 19), (1, .ref o1), (2, .ref o2), (3, .int x3), (4, .int x4)]) dX0_fillSum_72 rfl rfl ?_
    refine wa_iload dX0_fillSum_74 0 rfl ?_
    refine wa_if_eq (tgt := 88) dX0_fillSum_76 rfl (fun hc => ?_) (fun hc => ?_)
    · replace hF := hF.1 hc
      refine wa_aload_n dX0_fillSum_88 2 rfl rfl ?_
      refine wa_getr (r := 20) dX0_fillSum_89 fkX0_9 rfl rfl rfl ?_
      refine wa_iload_n dX0_fillSum_92 5 rfl rfl ?_
      obtain ⟨hi9, hF⟩ := hF
      refine wb_iald (j := x3.toNatClampNeg) (v := M3 20 x3.toNatClampNeg) dX0_fillSum_93 rfl hi9 rfl rfl ?_
      refine wa_iload dX0_fillSum_94 1 rfl ?_
      refine wa_ixor dX0_fillSum_96 ?_
      refine wa_istore (lv' := [(7, .int ((M3 20 x3.toNatClampNeg) ^^^ v2)), (6, .int v3), (5, .int v2), (0, .ref 19), (1, .ref o1), (2, .ref o2), (3, .int x3), (4, .int x4)]) dX0_fillSum_97 rfl rfl ?_
      refine wa_aload_n dX0_fillSum_99 3 rfl rfl ?_
      refine wa_getr (r := 21) dX0_fillSum_100 fkX0_15 rfl rfl rfl ?_
      refine wa_iload dX0_fillSum_103 0 rfl ?_
      obtain ⟨hi9, hF⟩ := hF
      refine wb_iald (j := ((M3 20 x3.toNatClampNeg) ^^^ v2).toNatClampNeg) (v := M3 21 (((M3 20 x3.toNatClampNeg) ^^^ v2).toNatClampNeg)) dX0_fillSum_105 rfl hi9 rfl rfl ?_
      refine wa_if_lt (tgt := 160) dX0_fillSum_106 rfl (fun hc => ?_) (fun hc => ?_)
      · replace hF := hF.1 hc
        exact wa_pick [3, 4, 5, 6, 7] rfl hF
      · replace hF := hF.2 hc
        refine wa_iload_n dX0_fillSum_109 6 rfl rfl ?_
        refine wa_aload_n dX0_fillSum_110 3 rfl rfl ?_
        refine wb_geti (v := M3 19 3) dX0_fillSum_111 fkX0_21 rfl rfl rfl ?_
        refine wa_imul dX0_fillSum_114 ?_
        refine wa_aload_n dX0_fillSum_115 3 rfl rfl ?_
        refine wa_getr (r := 21) dX0_fillSum_116 fkX0_15 rfl rfl rfl ?_
        refine wa_iload dX0_fillSum_119 0 rfl ?_
        obtain ⟨hi9, hF⟩ := hF
        refine wb_iald (j := ((M3 20 x3.toNatClampNeg) ^^^ v2).toNatClampNeg) (v := M3 21 (((M3 20 x3.toNatClampNeg) ^^^ v2).toNatClampNeg)) dX0_fillSum_121 rfl hi9 rfl rfl ?_
        refine wa_iadd dX0_fillSum_122 ?_
        refine wa_istore (lv' := [(8, .int ((x3 * (M3 19 3)) + (M3 21 (((M3 20 x3.toNatClampNeg) ^^^ v2).toNatClampNeg)))), (7, .int ((M3 20 x3.toNatClampNeg) ^^^ v2)), (6, .int v3), (5, .int v2), (0, .ref 19), (1, .ref o1), (2, .ref o2), (3, .int x3), (4, .int x4)]) dX0_fillSum_123 rfl rfl ?_
        refine wa_aload_n dX0_fillSum_125 6 rfl rfl ?_
        refine wa_iload dX0_fillSum_126 0 rfl ?_
        refine wa_aload_n dX0_fillSum_128 6 rfl rfl ?_
        refine wa_iload dX0_fillSum_129 0 rfl ?_
        obtain ⟨hi9, hF⟩ := hF
        refine wb_iald (j := ((x3 * (M3 19 3)) + (M3 21 (((M3 20 x3.toNatClampNeg) ^^^ v2).toNatClampNeg))).toNatClampNeg) (v := M3 o2 (((x3 * (M3 19 3)) + (M3 21 (((M3 20 x3.toNatClampNeg) ^^^ v2).toNatClampNeg))).toNatClampNeg)) dX0_fillSum_131 hLo2 hi9 rfl rfl ?_
        refine wa_iload dX0_fillSum_132 2 rfl ?_
        refine wa_if_eq (tgt := 144) dX0_fillSum_134 rfl (fun hc => ?_) (fun hc => ?_)
        · replace hF := hF.1 hc
          refine wa_aload_n dX0_fillSum_144 4 rfl rfl ?_
          refine wa_getr (r := 22) dX0_fillSum_145 fkX0_18 rfl rfl rfl ?_
          refine wa_iload dX0_fillSum_148 1 rfl ?_
          obtain ⟨hi9, hF⟩ := hF
          refine wb_iald (j := ((M3 20 x3.toNatClampNeg) ^^^ v2).toNatClampNeg) (v := M3 22 (((M3 20 x3.toNatClampNeg) ^^^ v2).toNatClampNeg)) dX0_fillSum_150 rfl hi9 rfl rfl ?_
          refine wa_iadd dX0_fillSum_151 ?_
          refine wa_aload_n dX0_fillSum_152 5 rfl rfl ?_
          refine wb_geti (v := M3 o1 2) dX0_fillSum_153 fkX0_31 rfl hLo1 rfl ?_
          obtain ⟨Q4, hM9, hF⟩ := hF
          refine wa_callSN [.int ((M3 o2 (((x3 * (M3 19 3)) + (M3 21 (((M3 20 x3.toNatClampNeg) ^^^ v2).toNatClampNeg))).toNatClampNeg)) + (M3 22 (((M3 20 x3.toNatClampNeg) ^^^ v2).toNatClampNeg))), .int (M3 o1 2)] dX0_fillSum_156 (mmX11_left _ _) mkX0_64 mstX11_left rfl (a_dlt d) rfl rfl hM9 ?_
          rintro r9 M4 P9 ⟨v4, rfl, rfl, hq9⟩
          replace hF := hF v4 M4 hq9
          simp only [Option.toList, List.cons_append, List.nil_append]
          obtain ⟨hi9, hF⟩ := hF
          refine wb_iast (j := ((x3 * (M3 19 3)) + (M3 21 (((M3 20 x3.toNatClampNeg) ^^^ v2).toNatClampNeg))).toNatClampNeg) dX0_fillSum_159 hLo2 hi9 rfl ?_
          exact wa_pick [4, 5, 6, 7, 8] rfl hF
        · replace hF := hF.2 hc
          refine wa_aload_n dX0_fillSum_137 5 rfl rfl ?_
          refine wb_geti (v := M3 o1 4) dX0_fillSum_138 fkX0_78 rfl hLo1 rfl ?_
          refine wa_goto (tgt := 151) dX0_fillSum_141 rfl ?_
          refine wa_iadd dX0_fillSum_151 ?_
          refine wa_aload_n dX0_fillSum_152 5 rfl rfl ?_
          refine wb_geti (v := M3 o1 2) dX0_fillSum_153 fkX0_31 rfl hLo1 rfl ?_
          obtain ⟨Q5, hM9, hF⟩ := hF
          refine wa_callSN [.int ((M3 o2 (((x3 * (M3 19 3)) + (M3 21 (((M3 20 x3.toNatClampNeg) ^^^ v2).toNatClampNeg))).toNatClampNeg)) + (M3 o1 4)), .int (M3 o1 2)] dX0_fillSum_156 (mmX11_left _ _) mkX0_64 mstX11_left rfl (a_dlt d) rfl rfl hM9 ?_
          rintro r9 M5 P9 ⟨v5, rfl, rfl, hq9⟩
          replace hF := hF v5 M5 hq9
          simp only [Option.toList, List.cons_append, List.nil_append]
          obtain ⟨hi9, hF⟩ := hF
          refine wb_iast (j := ((x3 * (M3 19 3)) + (M3 21 (((M3 20 x3.toNatClampNeg) ^^^ v2).toNatClampNeg))).toNatClampNeg) dX0_fillSum_159 hLo2 hi9 rfl ?_
          exact wa_pick [4, 5, 6, 7, 8] rfl hF
    · replace hF := hF.2 hc
      refine wa_aload_n dX0_fillSum_79 2 rfl rfl ?_
      refine wa_getr (r := 20) dX0_fillSum_80 fkX0_9 rfl rfl rfl ?_
      refine wa_iload_n dX0_fillSum_83 5 rfl rfl ?_
      obtain ⟨hi9, hF⟩ := hF
      refine wb_iald (j := x3.toNatClampNeg) (v := M3 20 x3.toNatClampNeg) dX0_fillSum_84 rfl hi9 rfl rfl ?_
      refine wa_goto (tgt := 97) dX0_fillSum_85 rfl ?_
      refine wa_istore (lv' := [(7, .int (M3 20 x3.toNatClampNeg)), (6, .int v3), (5, .int v2), (0, .ref 19), (1, .ref o1), (2, .ref o2), (3, .int x3), (4, .int x4)]) dX0_fillSum_97 rfl rfl ?_
      refine wa_aload_n dX0_fillSum_99 3 rfl rfl ?_
      refine wa_getr (r := 21) dX0_fillSum_100 fkX0_15 rfl rfl rfl ?_
      refine wa_iload dX0_fillSum_103 0 rfl ?_
      obtain ⟨hi9, hF⟩ := hF
      refine wb_iald (j := (M3 20 x3.toNatClampNeg).toNatClampNeg) (v := M3 21 ((M3 20 x3.toNatClampNeg).toNatClampNeg)) dX0_fillSum_105 rfl hi9 rfl rfl ?_
      refine wa_if_lt (tgt := 160) dX0_fillSum_106 rfl (fun hc => ?_) (fun hc => ?_)
      · replace hF := hF.1 hc
        exact wa_pick [3, 4, 5, 6, 7] rfl hF
      · replace hF := hF.2 hc
        refine wa_iload_n dX0_fillSum_109 6 rfl rfl ?_
        refine wa_aload_n dX0_fillSum_110 3 rfl rfl ?_
        refine wb_geti (v := M3 19 3) dX0_fillSum_111 fkX0_21 rfl rfl rfl ?_
        refine wa_imul dX0_fillSum_114 ?_
        refine wa_aload_n dX0_fillSum_115 3 rfl rfl ?_
        refine wa_getr (r := 21) dX0_fillSum_116 fkX0_15 rfl rfl rfl ?_
        refine wa_iload dX0_fillSum_119 0 rfl ?_
        obtain ⟨hi9, hF⟩ := hF
        refine wb_iald (j := (M3 20 x3.toNatClampNeg).toNatClampNeg) (v := M3 21 ((M3 20 x3.toNatClampNeg).toNatClampNeg)) dX0_fillSum_121 rfl hi9 rfl rfl ?_
        refine wa_iadd dX0_fillSum_122 ?_
        refine wa_istore (lv' := [(8, .int ((x3 * (M3 19 3)) + (M3 21 ((M3 20 x3.toNatClampNeg).toNatClampNeg)))), (7, .int (M3 20 x3.toNatClampNeg)), (6, .int v3), (5, .int v2), (0, .ref 19), (1, .ref o1), (2, .ref o2), (3, .int x3), (4, .int x4)]) dX0_fillSum_123 rfl rfl ?_
        refine wa_aload_n dX0_fillSum_125 6 rfl rfl ?_
        refine wa_iload dX0_fillSum_126 0 rfl ?_
        refine wa_aload_n dX0_fillSum_128 6 rfl rfl ?_
        refine wa_iload dX0_fillSum_129 0 rfl ?_
        obtain ⟨hi9, hF⟩ := hF
        refine wb_iald (j := ((x3 * (M3 19 3)) + (M3 21 ((M3 20 x3.toNatClampNeg).toNatClampNeg))).toNatClampNeg) (v := M3 o2 (((x3 * (M3 19 3)) + (M3 21 ((M3 20 x3.toNatClampNeg).toNatClampNeg))).toNatClampNeg)) dX0_fillSum_131 hLo2 hi9 rfl rfl ?_
        refine wa_iload dX0_fillSum_132 2 rfl ?_
        refine wa_if_eq (tgt := 144) dX0_fillSum_134 rfl (fun hc => ?_) (fun hc => ?_)
        · replace hF := hF.1 hc
          refine wa_aload_n dX0_fillSum_144 4 rfl rfl ?_
          refine wa_getr (r := 22) dX0_fillSum_145 fkX0_18 rfl rfl rfl ?_
          refine wa_iload dX0_fillSum_148 1 rfl ?_
          obtain ⟨hi9, hF⟩ := hF
          refine wb_iald (j := (M3 20 x3.toNatClampNeg).toNatClampNeg) (v := M3 22 ((M3 20 x3.toNatClampNeg).toNatClampNeg)) dX0_fillSum_150 rfl hi9 rfl rfl ?_
          refine wa_iadd dX0_fillSum_151 ?_
          refine wa_aload_n dX0_fillSum_152 5 rfl rfl ?_
          refine wb_geti (v := M3 o1 2) dX0_fillSum_153 fkX0_31 rfl hLo1 rfl ?_
          obtain ⟨Q6, hM9, hF⟩ := hF
          refine wa_callSN [.int ((M3 o2 (((x3 * (M3 19 3)) + (M3 21 ((M3 20 x3.toNatClampNeg).toNatClampNeg))).toNatClampNeg)) + (M3 22 ((M3 20 x3.toNatClampNeg).toNatClampNeg))), .int (M3 o1 2)] dX0_fillSum_156 (mmX11_left _ _) mkX0_64 mstX11_left rfl (a_dlt d) rfl rfl hM9 ?_
          rintro r9 M6 P9 ⟨v6, rfl, rfl, hq9⟩
          replace hF := hF v6 M6 hq9
          simp only [Option.toList, List.cons_append, List.nil_append]
          obtain ⟨hi9, hF⟩ := hF
          refine wb_iast (j := ((x3 * (M3 19 3)) + (M3 21 ((M3 20 x3.toNatClampNeg).toNatClampNeg))).toNatClampNeg) dX0_fillSum_159 hLo2 hi9 rfl ?_
          exact wa_pick [4, 5, 6, 7, 8] rfl hF
        · replace hF := hF.2 hc
          refine wa_aload_n dX0_fillSum_137 5 rfl rfl ?_
          refine wb_geti (v := M3 o1 4) dX0_fillSum_138 fkX0_78 rfl hLo1 rfl ?_
          refine wa_goto (tgt := 151) dX0_fillSum_141 rfl ?_
          refine wa_iadd dX0_fillSum_151 ?_
          refine wa_aload_n dX0_fillSum_152 5 rfl rfl ?_
          refine wb_geti (v := M3 o1 2) dX0_fillSum_153 fkX0_31 rfl hLo1 rfl ?_
          obtain ⟨Q7, hM9, hF⟩ := hF
          refine wa_callSN [.int ((M3 o2 (((x3 * (M3 19 3)) + (M3 21 ((M3 20 x3.toNatClampNeg).toNatClampNeg))).toNatClampNeg)) + (M3 o1 4)), .int (M3 o1 2)] dX0_fillSum_156 (mmX11_left _ _) mkX0_64 mstX11_left rfl (a_dlt d) rfl rfl hM9 ?_
          rintro r9 M7 P9 ⟨v7, rfl, rfl, hq9⟩
          replace hF := hF v7 M7 hq9
          simp only [Option.toList, List.cons_append, List.nil_append]
          obtain ⟨hi9, hF⟩ := hF
          refine wb_iast (j := ((x3 * (M3 19 3)) + (M3 21 ((M3 20 x3.toNatClampNeg).toNatClampNeg))).toNatClampNeg) dX0_fillSum_159 hLo2 hi9 rfl ?_
          exact wa_pick [4, 5, 6, 7, 8] rfl hF

theorem bX0_fillSum_160 {X : a_X} {ad : Nat → Nat} {ca : Nat → ClassId} {d : Nat} {kc ks : Nat} {QF : List Frame → Array Value → State → State → Prop} {x : Nat} {M : a_M} (o1 : Nat) (o2 : Nat) (no2 : Nat) (x3 : Int32) (x4 : Int32) (hLo1 : LY[o1]? = some (6, 5)) (hLo2 : LY[o2]? = some (100, no2)) (hF : WA X ad ca LY RX0 cX0_fillSum 9 none (d + 1) kc ks QF 44 [(0, .ref 19), (1, .ref o1), (2, .ref o2), (3, .int x3), (4, .int (x4 + 1))] [] M (PT x)) : WA X ad ca LY RX0 cX0_fillSum 9 none (d + 1) kc ks QF 160 [(0, .ref 19), (1, .ref o1), (2, .ref o2), (3, .int x3), (4, .int x4)] [] M (PT x) := by
  refine wa_iinc (v := x4 + 1) (lv' := [(4, .int (x4 + 1)), (0, .ref 19), (1, .ref o1), (2, .ref o2), (3, .int x3)]) dX0_fillSum_160 4 rfl rfl rfl rfl ?_
  refine wa_goto (tgt := 44) dX0_fillSum_163 rfl ?_
  exact wa_pick [1, 2, 3, 4, 0] rfl hF

theorem eX0_fillSum {X : a_X} {ad : Nat → Nat} {ca : Nat → ClassId} {d : Nat} {Post : Option Value → a_M → a_P → Prop} {x : Nat} {M : a_M} (o1 : Nat) (o2 : Nat) (h : WA X ad ca LY RX0 cX0_fillSum 9 none d 0 0 (a_E X ad ca LY Post) 0 [(0, .ref 19), (1, .ref o1), (2, .ref o2)] [] M (PT x)) : Mt X ad ca LY d yX0_fillSum cX0_fillSum 9 none [.ref 19, .ref o1, .ref o2] M (PT x) Post := Mt.of (lv := [(0, .ref 19), (1, .ref o1), (2, .ref o2)]) (by decide +kernel) rfl rfl rfl (wa_pick [0, 1, 2] rfl h)

theorem bX1_look_0 {X : a_X} {ad : Nat → Nat} {ca : Nat → ClassId} {d : Nat} {Post : Option Value → a_M → a_P → Prop} {x : Nat} {M : a_M} (o1 : Nat) (o2 : Nat) (hLo1 : LY[o1]? = some (6, 5)) (hLo2 : LY[o2]? = some (7, 7)) (hF : ((¬ (M 13 5) = (M o2 6) → WA X ad ca LY RX1 cX1_look 4 none (d + 1) 0 0 (a_E X ad ca LY Post) 23 [(0, .ref 13), (1, .ref o1), (2, .ref o2)] [] M (PT x)) ∧ ((M 13 5) = (M o2 6) → (∃ Q1 : Int32 → a_M → Prop, Mt X ad ca LY d yX6_isLike cX6_isLike 2 (some FieldType.boolean) [.ref 18, .ref o1] M (PT x) (q_i (PT x) Q1) ∧ ∀ v1 M1, Q1 v1 M1 → ((v1 = 0 → WA X ad ca LY RX1 cX1_look 4 none (d + 1) 0 0 (a_E X ad ca LY Post) 23 [(0, .ref 13), (1, .ref o1), (2, .ref o2)] [] M1 (PT x)) ∧ (¬ v1 = 0 → Post none M1 (PT x))))))) : WA X ad ca LY RX1 cX1_look 4 none (d + 1) 0 0 (a_E X ad ca LY Post) 0 [(0, .ref 13), (1, .ref o1), (2, .ref o2)] [] M (PT x) := by
  refine wa_aload_n dX1_look_0 0 rfl rfl ?_
  refine wb_geti (v := M 13 5) dX1_look_1 fkX1_31 rfl rfl rfl ?_
  refine wa_aload_n dX1_look_4 2 rfl rfl ?_
  refine wb_geti (v := M o2 6) dX1_look_5 fkX1_48 rfl hLo2 rfl ?_
  refine wa_icmp_ne (tgt := 23) dX1_look_8 rfl (fun hc => ?_) (fun hc => ?_)
  · replace hF := hF.1 hc
    exact hF
  · replace hF := hF.2 hc
    refine wa_aload_n dX1_look_11 0 rfl rfl ?_
    refine wa_getr (r := 18) dX1_look_12 fkX1_27 rfl rfl rfl ?_
    refine wa_aload_n dX1_look_15 1 rfl rfl ?_
    obtain ⟨Q1, hM9, hF⟩ := hF
    refine wa_callV [.ref o1] dX1_look_16 (mmX6_isLike _ _) mlX1_53 mnX6_isLike mseX6_isLike rfl rfl rfl rfl (a_dlt d) rfl rfl hM9 ?_
    rintro r9 M1 P9 ⟨v1, rfl, rfl, hq9⟩
    replace hF := hF v1 M1 hq9
    simp only [Option.toList, List.cons_append, List.nil_append]
    refine wa_if_eq (tgt := 23) dX1_look_19 rfl (fun hc => ?_) (fun hc => ?_)
    · replace hF := hF.1 hc
      exact hF
    · replace hF := hF.2 hc
      exact wa_vret dX1_look_22 rfl hF

theorem bX1_look_23 {X : a_X} {ad : Nat → Nat} {ca : Nat → ClassId} {d : Nat} {kc ks : Nat} {QF : List Frame → Array Value → State → State → Prop} {x : Nat} {M : a_M} (o1 : Nat) (o2 : Nat) (hLo1 : LY[o1]? = some (6, 5)) (hLo2 : LY[o2]? = some (7, 7)) (hF : (∃ Q1 : a_M → Prop, Mt X ad ca LY d yX6_copyFrom cX6_copyFrom 2 none [.ref 18, .ref o1] (ms M 13 5 (M o2 6)) (PT x) (q_v (PT x) Q1) ∧ ∀ M1, Q1 M1 → WA X ad ca LY RX1 cX1_look 4 none (d + 1) kc ks QF 46 [(0, .ref 13), (1, .ref o1), (2, .ref o2), (3, .int 0)] [] (ms M1 13 6 0) (PT x))) : WA X ad ca LY RX1 cX1_look 4 none (d + 1) kc ks QF 23 [(0, .ref 13), (1, .ref o1), (2, .ref o2)] [] M (PT x) := by
  refine wa_aload_n dX1_look_23 0 rfl rfl ?_
  refine wa_aload_n dX1_look_24 2 rfl rfl ?_
  refine wb_geti (v := M o2 6) dX1_look_25 fkX1_48 rfl hLo2 rfl ?_
  refine wb_puti dX1_look_28 fkX1_31 fmX1_5 rfl rfl ?_
  refine wa_aload_n dX1_look_31 0 rfl rfl ?_
  refine wa_getr (r := 18) dX1_look_32 fkX1_27 rfl rfl rfl ?_
  refine wa_aload_n dX1_look_35 1 rfl rfl ?_
  obtain ⟨Q1, hM9, hF⟩ := hF
  refine wa_callV [.ref o1] dX1_look_36 (mmX6_copyFrom _ _) mlX1_57 mnX6_copyFrom mseX6_copyFrom rfl rfl rfl rfl (a_dlt d) rfl rfl hM9 ?_
  rintro r9 M1 P9 ⟨rfl, rfl, hq9⟩
  replace hF := hF M1 hq9
  simp only [Option.toList, List.nil_append]
  refine wa_aload_n dX1_look_39 0 rfl rfl ?_
  refine wa_iconst (v := 0) dX1_look_40 rfl ?_
  refine wb_putz dX1_look_41 fkX1_35 fmX1_6 rfl rfl (Or.inl rfl) ?_
  refine wa_iconst (v := 0) dX1_look_44 rfl ?_
  refine wa_istore_n (lv' := [(3, .int 0), (0, .ref 13), (1, .ref o1), (2, .ref o2)]) dX1_look_45 rfl rfl rfl ?_
  exact wa_pick [1, 2, 3, 0] rfl hF

theorem bX1_look_46 {X : a_X} {ad : Nat → Nat} {ca : Nat → ClassId} {d : Nat} {Post : Option Value → a_M → a_P → Prop} {x : Nat} {M : a_M} (o1 : Nat) (o2 : Nat) (x3 : Int32) (hLo1 : LY[o1]? = some (6, 5)) (hLo2 : LY[o2]? = some (7, 7)) (hF : (((M o1 2) ≤ x3 → Post none M (PT x)) ∧ (¬ (M o1 2) ≤ x3 → ((97 ≤ x3 → Post none M (PT x)) ∧ (¬ 97 ≤ x3 → (∃ Q1 : Int32 → a_M → Prop, Mt X ad ca LY d yX7_worth cX7_worth 4 (some FieldType.int) [.ref o2, .int 0, .int x3, .ref o1] M (PT x) (q_i (PT x) Q1) ∧ ∀ v1 M1, Q1 v1 M1 → (vp_in x3 97 ∧ (∃ Q2 : Int32 → a_M → Prop, Mt X ad ca LY d yX7_worth cX7_worth 4 (some FieldType.int) [.ref o2, .int 1, .int x3, .ref o1] (ms M1 14 x3.toNatClampNeg v1) (PT x) (q_i (PT x) Q2) ∧ ∀ v2 M2, Q2 v2 M2 → (vp_in x3 97 ∧ (∃ Q3 : Int32 → a_M → Prop, Mt X ad ca LY d yX7_worth cX7_worth 4 (some FieldType.int) [.ref o2, .int 2, .int x3, .ref o1] (ms M2 15 x3.toNatClampNeg v2) (PT x) (q_i (PT x) Q3) ∧ ∀ v3 M3, Q3 v3 M3 → (vp_in x3 97 ∧ WA X ad ca LY RX1 cX1_look 4 none (d + 1) 0 0 (a_E X ad ca LY Post) 46 [(0, .ref 13), (1, .ref o1), (2, .ref o2), (3, .int (x3 + 1))] [] (ms M3 16 x3.toNatClampNeg v3) (PT x)))))))))))) : WA X ad ca LY RX1 cX1_look 4 none (d + 1) 0 0 (a_E X ad ca LY Post) 46 [(0, .ref 13), (1, .ref o1), (2, .ref o2), (3, .int x3)] [] M (PT x) := by
  refine wa_iload_n dX1_look_46 3 rfl rfl ?_
  refine wa_aload_n dX1_look_47 1 rfl rfl ?_
  refine wb_geti (v := M o1 2) dX1_look_48 fkX1_61 rfl hLo1 rfl ?_
  refine wa_icmp_ge (tgt := 105) dX1_look_51 rfl (fun hc => ?_) (fun hc => ?_)
  · replace hF := hF.1 hc
    exact wa_vret dX1_look_105 rfl hF
  · replace hF := hF.2 hc
    refine wa_iload_n dX1_look_54 3 rfl rfl ?_
    refine wa_bipush (v := 97) dX1_look_55 rfl ?_
    refine wa_icmp_ge (tgt := 105) dX1_look_57 rfl (fun hc => ?_) (fun hc => ?_)
    · replace hF := hF.1 hc
      exact wa_vret dX1_look_105 rfl hF
    · replace hF := hF.2 hc
      refine wa_aload_n dX1_look_60 0 rfl rfl ?_
      refine wa_getr (r := 14) dX1_look_61 fkX1_9 rfl rfl rfl ?_
      refine wa_iload_n dX1_look_64 3 rfl rfl ?_
      refine wa_aload_n dX1_look_65 2 rfl rfl ?_
      refine wa_iconst (v := 0) dX1_look_66 rfl ?_
      refine wa_iload_n dX1_look_67 3 rfl rfl ?_
      refine wa_aload_n dX1_look_68 1 rfl rfl ?_
      obtain ⟨Q1, hM9, hF⟩ := hF
      refine wa_callV [.int 0, .int x3, .ref o1] dX1_look_69 (mmX7_worth _ _) mlX1_64 mnX7_worth mseX7_worth hLo2 rfl rfl rfl (a_dlt d) rfl rfl hM9 ?_
      rintro r9 M1 P9 ⟨v1, rfl, rfl, hq9⟩
      replace hF := hF v1 M1 hq9
      simp only [Option.toList, List.cons_append, List.nil_append]
      obtain ⟨hi9, hF⟩ := hF
      refine wb_iast (j := x3.toNatClampNeg) dX1_look_72 rfl hi9 rfl ?_
      refine wa_aload_n dX1_look_73 0 rfl rfl ?_
      refine wa_getr (r := 15) dX1_look_74 fkX1_15 rfl rfl rfl ?_
      refine wa_iload_n dX1_look_77 3 rfl rfl ?_
      refine wa_aload_n dX1_look_78 2 rfl rfl ?_
      refine wa_iconst (v := 1) dX1_look_79 rfl ?_
      refine wa_iload_n dX1_look_80 3 rfl rfl ?_
      refine wa_aload_n dX1_look_81 1 rfl rfl ?_
      obtain ⟨Q2, hM9, hF⟩ := hF
      refine wa_callV [.int 1, .int x3, .ref o1] dX1_look_82 (mmX7_worth _ _) mlX1_64 mnX7_worth mseX7_worth hLo2 rfl rfl rfl (a_dlt d) rfl rfl hM9 ?_
      rintro r9 M2 P9 ⟨v2, rfl, rfl, hq9⟩
      replace hF := hF v2 M2 hq9
      simp only [Option.toList, List.cons_append, List.nil_append]
      obtain ⟨hi9, hF⟩ := hF
      refine wb_iast (j := x3.toNatClampNeg) dX1_look_85 rfl hi9 rfl ?_
      refine wa_aload_n dX1_look_86 0 rfl rfl ?_
      refine wa_getr (r := 16) dX1_look_87 fkX1_18 rfl rfl rfl ?_
      refine wa_iload_n dX1_look_90 3 rfl rfl ?_
      refine wa_aload_n dX1_look_91 2 rfl rfl ?_
      refine wa_iconst (v := 2) dX1_look_92 rfl ?_
      refine wa_iload_n dX1_look_93 3 rfl rfl ?_
      refine wa_aload_n dX1_look_94 1 rfl rfl ?_
      obtain ⟨Q3, hM9, hF⟩ := hF
      refine wa_callV [.int 2, .int x3, .ref o1] dX1_look_95 (mmX7_worth _ _) mlX1_64 mnX7_worth mseX7_worth hLo2 rfl rfl rfl (a_dlt d) rfl rfl hM9 ?_
      rintro r9 M3 P9 ⟨v3, rfl, rfl, hq9⟩
      replace hF := hF v3 M3 hq9
      simp only [Option.toList, List.cons_append, List.nil_append]
      obtain ⟨hi9, hF⟩ := hF
      refine wb_iast (j := x3.toNatClampNeg) dX1_look_98 rfl hi9 rfl ?_
      refine wa_iinc (v := x3 + 1) (lv' := [(3, .int (x3 + 1)), (0, .ref 13), (1, .ref o1), (2, .ref o2)]) dX1_look_99 3 rfl rfl rfl rfl ?_
      refine wa_goto (tgt := 46) dX1_look_102 rfl ?_
      exact wa_pick [1, 2, 3, 0] rfl hF

theorem eX1_look {X : a_X} {ad : Nat → Nat} {ca : Nat → ClassId} {d : Nat} {Post : Option Value → a_M → a_P → Prop} {x : Nat} {M : a_M} (o1 : Nat) (o2 : Nat) (h : WA X ad ca LY RX1 cX1_look 4 none d 0 0 (a_E X ad ca LY Post) 0 [(0, .ref 13), (1, .ref o1), (2, .ref o2)] [] M (PT x)) : Mt X ad ca LY d yX1_look cX1_look 4 none [.ref 13, .ref o1, .ref o2] M (PT x) Post := Mt.of (lv := [(0, .ref 13), (1, .ref o1), (2, .ref o2)]) (by decide +kernel) rfl rfl rfl (wa_pick [0, 1, 2] rfl h)

theorem bX1_askAllPairs_0 {X : a_X} {ad : Nat → Nat} {ca : Nat → ClassId} {d : Nat} {Post : Option Value → a_M → a_P → Prop} {x : Nat} {M : a_M}   (hF : (((M 13 6) = 0 → WA X ad ca LY RX1 cX1_askAllPairs 3 none (d + 1) 0 0 (a_E X ad ca LY Post) 30 [(0, .ref 13), (1, .int 0)] [] (ms (ms (ms (ms M 13 6 1) 13 7 0) 13 8 (-1)) 13 9 (-1)) (PT x)) ∧ (¬ (M 13 6) = 0 → Post none M (PT x)))) : WA X ad ca LY RX1 cX1_askAllPairs 3 none (d + 1) 0 0 (a_E X ad ca LY Post) 0 [(0, .ref 13)] [] M (PT x) := by
  refine wa_aload_n dX1_askAllPairs_0 0 rfl rfl ?_
  refine wb_geti (v := M 13 6) dX1_askAllPairs_1 fkX1_35 rfl rfl rfl ?_
  refine wa_if_eq (tgt := 8) dX1_askAllPairs_4 rfl (fun hc => ?_) (fun hc => ?_)
  · replace hF := hF.1 hc
    refine wa_aload_n dX1_askAllPairs_8 0 rfl rfl ?_
    refine wa_iconst (v := 1) dX1_askAllPairs_9 rfl ?_
    refine wb_putz dX1_askAllPairs_10 fkX1_35 fmX1_6 rfl rfl (Or.inr rfl) ?_
    refine wa_aload_n dX1_askAllPairs_13 0 rfl rfl ?_
    refine wa_iconst (v := 0) dX1_askAllPairs_14 rfl ?_
    refine wb_puti dX1_askAllPairs_15 fkX1_39 fmX1_7 rfl rfl ?_
    refine wa_aload_n dX1_askAllPairs_18 0 rfl rfl ?_
    refine wa_iconst (v := (-1)) dX1_askAllPairs_19 rfl ?_
    refine wb_puti dX1_askAllPairs_20 fkX1_42 fmX1_8 rfl rfl ?_
    refine wa_aload_n dX1_askAllPairs_23 0 rfl rfl ?_
    refine wa_iconst (v := (-1)) dX1_askAllPairs_24 rfl ?_
    refine wb_puti dX1_askAllPairs_25 fkX1_45 fmX1_9 rfl rfl ?_
    refine wa_iconst (v := 0) dX1_askAllPairs_28 rfl ?_
    refine wa_istore_n (lv' := [(1, .int 0), (0, .ref 13)]) dX1_askAllPairs_29 rfl rfl rfl ?_
    exact wa_pick [1, 0] rfl hF
  · replace hF := hF.2 hc
    exact wa_vret dX1_askAllPairs_7 rfl hF

theorem bX1_askAllPairs_30 {X : a_X} {ad : Nat → Nat} {ca : Nat → ClassId} {d : Nat} {Post : Option Value → a_M → a_P → Prop} {x : Nat} {M : a_M} (x1 : Int32)  (hF : (((M 18 2) ≤ x1 → Post none M (PT x)) ∧ (¬ (M 18 2) ≤ x1 → ((97 ≤ x1 → Post none M (PT x)) ∧ (¬ 97 ≤ x1 → WA X ad ca LY RX1 cX1_askAllPairs 3 none (d + 1) 0 0 (a_E X ad ca LY Post) 49 [(0, .ref 13), (1, .int x1), (2, .int 0)] [] M (PT x)))))) : WA X ad ca LY RX1 cX1_askAllPairs 3 none (d + 1) 0 0 (a_E X ad ca LY Post) 30 [(0, .ref 13), (1, .int x1)] [] M (PT x) := by
  refine wa_iload_n dX1_askAllPairs_30 1 rfl rfl ?_
  refine wa_aload_n dX1_askAllPairs_31 0 rfl rfl ?_
  refine wa_getr (r := 18) dX1_askAllPairs_32 fkX1_27 rfl rfl rfl ?_
  refine wb_geti (v := M 18 2) dX1_askAllPairs_35 fkX1_61 rfl rfl rfl ?_
  refine wa_icmp_ge (tgt := 118) dX1_askAllPairs_38 rfl (fun hc => ?_) (fun hc => ?_)
  · replace hF := hF.1 hc
    exact wa_vret dX1_askAllPairs_118 rfl hF
  · replace hF := hF.2 hc
    refine wa_iload_n dX1_askAllPairs_41 1 rfl rfl ?_
    refine wa_bipush (v := 97) dX1_askAllPairs_42 rfl ?_
    refine wa_icmp_ge (tgt := 118) dX1_askAllPairs_44 rfl (fun hc => ?_) (fun hc => ?_)
    · replace hF := hF.1 hc
      exact wa_vret dX1_askAllPairs_118 rfl hF
    · replace hF := hF.2 hc
      refine wa_iconst (v := 0) dX1_askAllPairs_47 rfl ?_
      refine wa_istore_n (lv' := [(2, .int 0), (0, .ref 13), (1, .int x1)]) dX1_askAllPairs_48 rfl rfl rfl ?_
      exact wa_pick [1, 2, 0] rfl hF

theorem bX1_askAllPairs_49 {X : a_X} {ad : Nat → Nat} {ca : Nat → ClassId} {d : Nat} {kc ks : Nat} {QF : List Frame → Array Value → State → State → Prop} {x : Nat} {M : a_M} (x1 : Int32) (x2 : Int32)  (hF : (((M 18 2) ≤ x2 → WA X ad ca LY RX1 cX1_askAllPairs 3 none (d + 1) kc ks QF 112 [(0, .ref 13), (1, .int x1)] [] M (PT x)) ∧ (¬ (M 18 2) ≤ x2 → ((97 ≤ x2 → WA X ad ca LY RX1 cX1_askAllPairs 3 none (d + 1) kc ks QF 112 [(0, .ref 13), (1, .int x1)] [] M (PT x)) ∧ (¬ 97 ≤ x2 → (∃ Q1 : Int32 → a_M → Prop, Mt X ad ca LY d yX1_holds cX1_holds 8 (some FieldType.boolean) [.ref 13, .int x1, .int x2] M (PT x) (q_i (PT x) Q1) ∧ ∀ v1 M1, Q1 v1 M1 → ((v1 = 0 → ((¬ (M1 13 8) = (-1) → WA X ad ca LY RX1 cX1_askAllPairs 3 none (d + 1) kc ks QF 106 [(0, .ref 13), (1, .int x1), (2, .int x2)] [] M1 (PT x)) ∧ ((M1 13 8) = (-1) → WA X ad ca LY RX1 cX1_askAllPairs 3 none (d + 1) kc ks QF 106 [(0, .ref 13), (1, .int x1), (2, .int x2)] [] (ms (ms M1 13 8 x1) 13 9 x2) (PT x)))) ∧ (¬ v1 = 0 → WA X ad ca LY RX1 cX1_askAllPairs 3 none (d + 1) kc ks QF 106 [(0, .ref 13), (1, .int x1), (2, .int x2)] [] (ms M1 13 7 ((M1 13 7) + 1)) (PT x))))))))) : WA X ad ca LY RX1 cX1_askAllPairs 3 none (d + 1) kc ks QF 49 [(0, .ref 13), (1, .int x1), (2, .int x2)] [] M (PT x) := by
  refine wa_iload_n dX1_askAllPairs_49 2 rfl rfl ?_
  refine wa_aload_n dX1_askAllPairs_50 0 rfl rfl ?_
  refine wa_getr (r := 18) dX1_askAllPairs_51 fkX1_27 rfl rfl rfl ?_
  refine wb_geti (v := M 18 2) dX1_askAllPairs_54 fkX1_61 rfl rfl rfl ?_
  refine wa_icmp_ge (tgt := 112) dX1_askAllPairs_57 rfl (fun hc => ?_) (fun hc => ?_)
  · replace hF := hF.1 hc
    exact wa_pick [0, 1] rfl hF
  · replace hF := hF.2 hc
    refine wa_iload_n dX1_askAllPairs_60 2 rfl rfl ?_
    refine wa_bipush (v := 97) dX1_askAllPairs_61 rfl ?_
    refine wa_icmp_ge (tgt := 112) dX1_askAllPairs_63 rfl (fun hc => ?_) (fun hc => ?_)
    · replace hF := hF.1 hc
      exact wa_pick [0, 1] rfl hF
    · replace hF := hF.2 hc
      refine wa_aload_n dX1_askAllPairs_66 0 rfl rfl ?_
      refine wa_iload_n dX1_askAllPairs_67 1 rfl rfl ?_
      refine wa_iload_n dX1_askAllPairs_68 2 rfl rfl ?_
      obtain ⟨Q1, hM9, hF⟩ := hF
      refine wa_callV [.int x1, .int x2] dX1_askAllPairs_69 (mmX1_holds _ _) mlX1_68 mnX1_holds mseX1_holds rfl rfl rfl rfl (a_dlt d) rfl rfl hM9 ?_
      rintro r9 M1 P9 ⟨v1, rfl, rfl, hq9⟩
      replace hF := hF v1 M1 hq9
      simp only [Option.toList, List.cons_append, List.nil_append]
      refine wa_if_eq (tgt := 88) dX1_askAllPairs_72 rfl (fun hc => ?_) (fun hc => ?_)
      · replace hF := hF.1 hc
        refine wa_aload_n dX1_askAllPairs_88 0 rfl rfl ?_
        refine wb_geti (v := M1 13 8) dX1_askAllPairs_89 fkX1_42 rfl rfl rfl ?_
        refine wa_iconst (v := (-1)) dX1_askAllPairs_92 rfl ?_
        refine wa_icmp_ne (tgt := 106) dX1_askAllPairs_93 rfl (fun hc => ?_) (fun hc => ?_)
        · replace hF := hF.1 hc
          exact hF
        · replace hF := hF.2 hc
          refine wa_aload_n dX1_askAllPairs_96 0 rfl rfl ?_
          refine wa_iload_n dX1_askAllPairs_97 1 rfl rfl ?_
          refine wb_puti dX1_askAllPairs_98 fkX1_42 fmX1_8 rfl rfl ?_
          refine wa_aload_n dX1_askAllPairs_101 0 rfl rfl ?_
          refine wa_iload_n dX1_askAllPairs_102 2 rfl rfl ?_
          refine wb_puti dX1_askAllPairs_103 fkX1_45 fmX1_9 rfl rfl ?_
          exact hF
      · replace hF := hF.2 hc
        refine wa_aload_n dX1_askAllPairs_75 0 rfl rfl ?_
        refine wa_dup dX1_askAllPairs_76 rfl ?_
        refine wb_geti (v := M1 13 7) dX1_askAllPairs_77 fkX1_39 rfl rfl rfl ?_
        refine wa_iconst (v := 1) dX1_askAllPairs_80 rfl ?_
        refine wa_iadd dX1_askAllPairs_81 ?_
        refine wb_puti dX1_askAllPairs_82 fkX1_39 fmX1_7 rfl rfl ?_
        refine wa_goto (tgt := 106) dX1_askAllPairs_85 rfl ?_
        exact hF

theorem bX1_askAllPairs_106 {X : a_X} {ad : Nat → Nat} {ca : Nat → ClassId} {d : Nat} {kc ks : Nat} {QF : List Frame → Array Value → State → State → Prop} {x : Nat} {M : a_M} (x1 : Int32) (x2 : Int32)  (hF : WA X ad ca LY RX1 cX1_askAllPairs 3 none (d + 1) kc ks QF 49 [(0, .ref 13), (1, .int x1), (2, .int (x2 + 1))] [] M (PT x)) : WA X ad ca LY RX1 cX1_askAllPairs 3 none (d + 1) kc ks QF 106 [(0, .ref 13), (1, .int x1), (2, .int x2)] [] M (PT x) := by
  refine wa_iinc (v := x2 + 1) (lv' := [(2, .int (x2 + 1)), (0, .ref 13), (1, .int x1)]) dX1_askAllPairs_106 2 rfl rfl rfl rfl ?_
  refine wa_goto (tgt := 49) dX1_askAllPairs_109 rfl ?_
  exact wa_pick [1, 2, 0] rfl hF

theorem bX1_askAllPairs_112 {X : a_X} {ad : Nat → Nat} {ca : Nat → ClassId} {d : Nat} {kc ks : Nat} {QF : List Frame → Array Value → State → State → Prop} {x : Nat} {M : a_M} (x1 : Int32)  (hF : WA X ad ca LY RX1 cX1_askAllPairs 3 none (d + 1) kc ks QF 30 [(0, .ref 13), (1, .int (x1 + 1))] [] M (PT x)) : WA X ad ca LY RX1 cX1_askAllPairs 3 none (d + 1) kc ks QF 112 [(0, .ref 13), (1, .int x1)] [] M (PT x) := by
  refine wa_iinc (v := x1 + 1) (lv' := [(1, .int (x1 + 1)), (0, .ref 13)]) dX1_askAllPairs_112 1 rfl rfl rfl rfl ?_
  refine wa_goto (tgt := 30) dX1_askAllPairs_115 rfl ?_
  exact wa_pick [1, 0] rfl hF

theorem eX1_askAllPairs {X : a_X} {ad : Nat → Nat} {ca : Nat → ClassId} {d : Nat} {Post : Option Value → a_M → a_P → Prop} {x : Nat} {M : a_M}  (h : WA X ad ca LY RX1 cX1_askAllPairs 3 none d 0 0 (a_E X ad ca LY Post) 0 [(0, .ref 13)] [] M (PT x)) : Mt X ad ca LY d yX1_askAllPairs cX1_askAllPairs 3 none [.ref 13] M (PT x) Post := Mt.of (lv := [(0, .ref 13)]) (by decide +kernel) rfl rfl rfl (wa_pick [0] rfl h)
