/-! THE LAW 1: its blocks, case by case -/
abbrev wL (X : a_X) (ad : Nat → Nat) (ca : Nat → ClassId) (d kc ks : Nat) (QF : List Frame → Array Value → State → State → Prop) (pc : Nat) (i : Int32) (M : a_M) (x : Nat) : Prop := WA X ad ca LY RL cL_law 4 (some .boolean) (d + 1) kc ks QF pc [(0, .ref 1000000), (1, .ref 0), (2, .ref 118), (3, .int i)] [] M (PT x)
theorem nI_k (i k : Nat) : nI i + nI k = nI (i + k) := nI_add i k
theorem wl_ld {X : a_X} {ad : Nat → Nat} {ca : Nat → ClassId} {L : a_L} {own : String} {cc : ByteArray} {nL : Nat} {ret : Option FieldType} {d kc ks : Nat} {QF : List Frame → Array Value → State → State → Prop} {pc : Nat} {lv : List (Nat × Value)} {st : List Value} {M : a_M} {P : a_P} {v : Int32} {j : Nat} (hdg : decode cc pc = .ok (.iaload, 1)) (hv : v = nI j) (hj : j < X.2.1.2.1) (hL : X.2.1.2.1 ≤ 3073) (h : WA X ad ca L own cc nL ret d kc ks QF (pc + 1) lv (.int (X.2.1.2.2 j) :: st) M P) : WA X ad ca L own cc nL ret d kc ks QF pc lv (.int v :: .ref 1000000 :: st) M P := by
  subst hv
  refine wa_sld hdg (n_in hj (by omega)) ?_
  rw [n_cl (by omega)]
  exact h
theorem bL_188 {X : a_X} {ad : Nat → Nat} {ca : Nat → ClassId} {d kc ks i x : Nat} {QF : List Frame → Array Value → State → State → Prop} {M : a_M} (hi : i + 5 < X.2.1.2.1) (hL : X.2.1.2.1 ≤ 3073) (hF : (((X.2.1.2.2 (i + 2)) = 0 → (∃ Q1 : Int32 → a_M → Prop, Mt X ad ca LY d yX11_chain cX11_chain 3 (some FieldType.boolean) [.ref 0, .int (X.2.1.2.2 (i + 1)), .int 0] M (PT x) (q_i (PT x) Q1) ∧ ∀ v1 M1, Q1 v1 M1 → (((X.2.1.2.2 (i + 2)) = 0 → (∃ Q2 : Int32 → a_M → Prop, Mt X ad ca LY d yX12_chain cX12_chain 4 (some FieldType.boolean) [.ref 118, .int (X.2.1.2.2 (i + 1)), .int 0] M1 (PT x) (q_i (PT x) Q2) ∧ ∀ v2 M2, Q2 v2 M2 → (v1 = v2 ∧ wL X ad ca d kc ks QF 1123 (nI i) M2 x))) ∧ (¬ (X.2.1.2.2 (i + 2)) = 0 → (∃ Q3 : Int32 → a_M → Prop, Mt X ad ca LY d yX12_chain cX12_chain 4 (some FieldType.boolean) [.ref 118, .int (X.2.1.2.2 (i + 1)), .int 1] M1 (PT x) (q_i (PT x) Q3) ∧ ∀ v3 M3, Q3 v3 M3 → (v1 = v3 ∧ wL X ad ca d kc ks QF 1123 (nI i) M3 x)))))) ∧ (¬ (X.2.1.2.2 (i + 2)) = 0 → (∃ Q4 : Int32 → a_M → Prop, Mt X ad ca LY d yX11_chain cX11_chain 3 (some FieldType.boolean) [.ref 0, .int (X.2.1.2.2 (i + 1)), .int 1] M (PT x) (q_i (PT x) Q4) ∧ ∀ v4 M4, Q4 v4 M4 → (((X.2.1.2.2 (i + 2)) = 0 → (∃ Q5 : Int32 → a_M → Prop, Mt X ad ca LY d yX12_chain cX12_chain 4 (some FieldType.boolean) [.ref 118, .int (X.2.1.2.2 (i + 1)), .int 0] M4 (PT x) (q_i (PT x) Q5) ∧ ∀ v5 M5, Q5 v5 M5 → (v4 = v5 ∧ wL X ad ca d kc ks QF 1123 (nI i) M5 x))) ∧ (¬ (X.2.1.2.2 (i + 2)) = 0 → (∃ Q6 : Int32 → a_M → Prop, Mt X ad ca LY d yX12_chain cX12_chain 4 (some FieldType.boolean) [.ref 118, .int (X.2.1.2.2 (i + 1)), .int 1] M4 (PT x) (q_i (PT x) Q6) ∧ ∀ v6 M6, Q6 v6 M6 → (v4 = v6 ∧ wL X ad ca d kc ks QF 1123 (nI i) M6 x)))))))) : wL X ad ca d kc ks QF 188 (nI i) M x := by
  refine wa_aload_n dL_law_188 1 rfl rfl ?_
  refine wa_aload_n dL_law_189 0 rfl rfl ?_
  refine wa_iload_n dL_law_190 3 rfl rfl ?_
  refine wa_iconst (v := 1) dL_law_191 rfl ?_
  refine wa_iadd dL_law_192 ?_
  refine wl_ld dL_law_193 (j := i + 1) (nI_k i 1) (by omega) hL ?_
  refine wa_aload_n dL_law_194 0 rfl rfl ?_
  refine wa_iload_n dL_law_195 3 rfl rfl ?_
  refine wa_iconst (v := 2) dL_law_196 rfl ?_
  refine wa_iadd dL_law_197 ?_
  refine wl_ld dL_law_198 (j := i + 2) (nI_k i 2) (by omega) hL ?_
  refine wa_if_eq (tgt := 206) dL_law_199 rfl (fun hc => ?_) (fun hc => ?_)
  · replace hF := hF.1 hc
    refine wa_iconst (v := 0) dL_law_206 rfl ?_
    obtain ⟨Q1, hM9, hF⟩ := hF
    refine wa_callV [.int (X.2.1.2.2 (i + 1)), .int 0] dL_law_207 (mmX11_chain _ _) mlL_21 mnX11_chain mseX11_chain rfl rfl rfl rfl (a_dlt d) rfl rfl hM9 ?_
    rintro r9 M1 P9 ⟨v1, rfl, rfl, hq9⟩
    replace hF := hF v1 M1 hq9
    simp only [Option.toList, List.cons_append, List.nil_append]
    refine wa_aload_n dL_law_210 2 rfl rfl ?_
    refine wa_aload_n dL_law_211 0 rfl rfl ?_
    refine wa_iload_n dL_law_212 3 rfl rfl ?_
    refine wa_iconst (v := 1) dL_law_213 rfl ?_
    refine wa_iadd dL_law_214 ?_
    refine wl_ld dL_law_215 (j := i + 1) (nI_k i 1) (by omega) hL ?_
    refine wa_aload_n dL_law_216 0 rfl rfl ?_
    refine wa_iload_n dL_law_217 3 rfl rfl ?_
    refine wa_iconst (v := 2) dL_law_218 rfl ?_
    refine wa_iadd dL_law_219 ?_
    refine wl_ld dL_law_220 (j := i + 2) (nI_k i 2) (by omega) hL ?_
    refine wa_if_eq (tgt := 228) dL_law_221 rfl (fun hc => ?_) (fun hc => ?_)
    · replace hF := hF.1 hc
      refine wa_iconst (v := 0) dL_law_228 rfl ?_
      obtain ⟨Q2, hM9, hF⟩ := hF
      refine wa_callV [.int (X.2.1.2.2 (i + 1)), .int 0] dL_law_229 (mmX12_chain _ _) mlL_25 mnX12_chain mseX12_chain rfl rfl rfl rfl (a_dlt d) rfl rfl hM9 ?_
      rintro r9 M2 P9 ⟨v2, rfl, rfl, hq9⟩
      replace hF := hF v2 M2 hq9
      simp only [Option.toList, List.cons_append, List.nil_append]
      obtain ⟨he9, hF⟩ := hF
      refine wa_icmp_eq (tgt := 1123) dL_law_232 rfl (fun hc => ?_) (fun hc => absurd he9 hc)
      exact hF
    · replace hF := hF.2 hc
      refine wa_iconst (v := 1) dL_law_224 rfl ?_
      refine wa_goto (tgt := 229) dL_law_225 rfl ?_
      obtain ⟨Q3, hM9, hF⟩ := hF
      refine wa_callV [.int (X.2.1.2.2 (i + 1)), .int 1] dL_law_229 (mmX12_chain _ _) mlL_25 mnX12_chain mseX12_chain rfl rfl rfl rfl (a_dlt d) rfl rfl hM9 ?_
      rintro r9 M3 P9 ⟨v3, rfl, rfl, hq9⟩
      replace hF := hF v3 M3 hq9
      simp only [Option.toList, List.cons_append, List.nil_append]
      obtain ⟨he9, hF⟩ := hF
      refine wa_icmp_eq (tgt := 1123) dL_law_232 rfl (fun hc => ?_) (fun hc => absurd he9 hc)
      exact hF
  · replace hF := hF.2 hc
    refine wa_iconst (v := 1) dL_law_202 rfl ?_
    refine wa_goto (tgt := 207) dL_law_203 rfl ?_
    obtain ⟨Q4, hM9, hF⟩ := hF
    refine wa_callV [.int (X.2.1.2.2 (i + 1)), .int 1] dL_law_207 (mmX11_chain _ _) mlL_21 mnX11_chain mseX11_chain rfl rfl rfl rfl (a_dlt d) rfl rfl hM9 ?_
    rintro r9 M4 P9 ⟨v4, rfl, rfl, hq9⟩
    replace hF := hF v4 M4 hq9
    simp only [Option.toList, List.cons_append, List.nil_append]
    refine wa_aload_n dL_law_210 2 rfl rfl ?_
    refine wa_aload_n dL_law_211 0 rfl rfl ?_
    refine wa_iload_n dL_law_212 3 rfl rfl ?_
    refine wa_iconst (v := 1) dL_law_213 rfl ?_
    refine wa_iadd dL_law_214 ?_
    refine wl_ld dL_law_215 (j := i + 1) (nI_k i 1) (by omega) hL ?_
    refine wa_aload_n dL_law_216 0 rfl rfl ?_
    refine wa_iload_n dL_law_217 3 rfl rfl ?_
    refine wa_iconst (v := 2) dL_law_218 rfl ?_
    refine wa_iadd dL_law_219 ?_
    refine wl_ld dL_law_220 (j := i + 2) (nI_k i 2) (by omega) hL ?_
    refine wa_if_eq (tgt := 228) dL_law_221 rfl (fun hc => ?_) (fun hc => ?_)
    · replace hF := hF.1 hc
      refine wa_iconst (v := 0) dL_law_228 rfl ?_
      obtain ⟨Q5, hM9, hF⟩ := hF
      refine wa_callV [.int (X.2.1.2.2 (i + 1)), .int 0] dL_law_229 (mmX12_chain _ _) mlL_25 mnX12_chain mseX12_chain rfl rfl rfl rfl (a_dlt d) rfl rfl hM9 ?_
      rintro r9 M5 P9 ⟨v5, rfl, rfl, hq9⟩
      replace hF := hF v5 M5 hq9
      simp only [Option.toList, List.cons_append, List.nil_append]
      obtain ⟨he9, hF⟩ := hF
      refine wa_icmp_eq (tgt := 1123) dL_law_232 rfl (fun hc => ?_) (fun hc => absurd he9 hc)
      exact hF
    · replace hF := hF.2 hc
      refine wa_iconst (v := 1) dL_law_224 rfl ?_
      refine wa_goto (tgt := 229) dL_law_225 rfl ?_
      obtain ⟨Q6, hM9, hF⟩ := hF
      refine wa_callV [.int (X.2.1.2.2 (i + 1)), .int 1] dL_law_229 (mmX12_chain _ _) mlL_25 mnX12_chain mseX12_chain rfl rfl rfl rfl (a_dlt d) rfl rfl hM9 ?_
      rintro r9 M6 P9 ⟨v6, rfl, rfl, hq9⟩
      replace hF := hF v6 M6 hq9
      simp only [Option.toList, List.cons_append, List.nil_append]
      obtain ⟨he9, hF⟩ := hF
      refine wa_icmp_eq (tgt := 1123) dL_law_232 rfl (fun hc => ?_) (fun hc => absurd he9 hc)
      exact hF
theorem bL_237 {X : a_X} {ad : Nat → Nat} {ca : Nat → ClassId} {d kc ks i x : Nat} {QF : List Frame → Array Value → State → State → Prop} {M : a_M} (hi : i + 5 < X.2.1.2.1) (hL : X.2.1.2.1 ≤ 3073) (hF : (∃ Q1 : Int32 → a_M → Prop, Mt X ad ca LY d yX11_prime cX11_prime 3 (some FieldType.boolean) [.ref 0, .int (X.2.1.2.2 (i + 1))] M (PT x) (q_i (PT x) Q1) ∧ ∀ v1 M1, Q1 v1 M1 → (∃ Q2 : Int32 → a_M → Prop, Mt X ad ca LY d yX12_prime cX12_prime 4 (some FieldType.boolean) [.ref 118, .int (X.2.1.2.2 (i + 1))] M1 (PT x) (q_i (PT x) Q2) ∧ ∀ v2 M2, Q2 v2 M2 → (v1 = v2 ∧ wL X ad ca d kc ks QF 1123 (nI i) M2 x)))) : wL X ad ca d kc ks QF 237 (nI i) M x := by
  refine wa_aload_n dL_law_237 1 rfl rfl ?_
  refine wa_aload_n dL_law_238 0 rfl rfl ?_
  refine wa_iload_n dL_law_239 3 rfl rfl ?_
  refine wa_iconst (v := 1) dL_law_240 rfl ?_
  refine wa_iadd dL_law_241 ?_
  refine wl_ld dL_law_242 (j := i + 1) (nI_k i 1) (by omega) hL ?_
  obtain ⟨Q1, hM9, hF⟩ := hF
  refine wa_callV [.int (X.2.1.2.2 (i + 1))] dL_law_243 (mmX11_prime _ _) mlL_26 mnX11_prime mseX11_prime rfl rfl rfl rfl (a_dlt d) rfl rfl hM9 ?_
  rintro r9 M1 P9 ⟨v1, rfl, rfl, hq9⟩
  replace hF := hF v1 M1 hq9
  simp only [Option.toList, List.cons_append, List.nil_append]
  refine wa_aload_n dL_law_246 2 rfl rfl ?_
  refine wa_aload_n dL_law_247 0 rfl rfl ?_
  refine wa_iload_n dL_law_248 3 rfl rfl ?_
  refine wa_iconst (v := 1) dL_law_249 rfl ?_
  refine wa_iadd dL_law_250 ?_
  refine wl_ld dL_law_251 (j := i + 1) (nI_k i 1) (by omega) hL ?_
  obtain ⟨Q2, hM9, hF⟩ := hF
  refine wa_callV [.int (X.2.1.2.2 (i + 1))] dL_law_252 (mmX12_prime _ _) mlL_30 mnX12_prime mseX12_prime rfl rfl rfl rfl (a_dlt d) rfl rfl hM9 ?_
  rintro r9 M2 P9 ⟨v2, rfl, rfl, hq9⟩
  replace hF := hF v2 M2 hq9
  simp only [Option.toList, List.cons_append, List.nil_append]
  obtain ⟨he9, hF⟩ := hF
  refine wa_icmp_eq (tgt := 1123) dL_law_255 rfl (fun hc => ?_) (fun hc => absurd he9 hc)
  exact hF
theorem bL_260 {X : a_X} {ad : Nat → Nat} {ca : Nat → ClassId} {d kc ks i x : Nat} {QF : List Frame → Array Value → State → State → Prop} {M : a_M} (hi : i + 5 < X.2.1.2.1) (hL : X.2.1.2.1 ≤ 3073) (hF : (∃ Q1 : Int32 → a_M → Prop, Mt X ad ca LY d yX11_numbers cX11_numbers 4 (some FieldType.boolean) [.ref 0, .int (X.2.1.2.2 (i + 1)), .int (X.2.1.2.2 (i + 2))] M (PT x) (q_i (PT x) Q1) ∧ ∀ v1 M1, Q1 v1 M1 → (∃ Q2 : Int32 → a_M → Prop, Mt X ad ca LY d yX12_numbers cX12_numbers 3 (some FieldType.boolean) [.ref 118, .int (X.2.1.2.2 (i + 1)), .int (X.2.1.2.2 (i + 2))] M1 (PT x) (q_i (PT x) Q2) ∧ ∀ v2 M2, Q2 v2 M2 → (v1 = v2 ∧ wL X ad ca d kc ks QF 1123 (nI i) M2 x)))) : wL X ad ca d kc ks QF 260 (nI i) M x := by
  refine wa_aload_n dL_law_260 1 rfl rfl ?_
  refine wa_aload_n dL_law_261 0 rfl rfl ?_
  refine wa_iload_n dL_law_262 3 rfl rfl ?_
  refine wa_iconst (v := 1) dL_law_263 rfl ?_
  refine wa_iadd dL_law_264 ?_
  refine wl_ld dL_law_265 (j := i + 1) (nI_k i 1) (by omega) hL ?_
  refine wa_aload_n dL_law_266 0 rfl rfl ?_
  refine wa_iload_n dL_law_267 3 rfl rfl ?_
  refine wa_iconst (v := 2) dL_law_268 rfl ?_
  refine wa_iadd dL_law_269 ?_
  refine wl_ld dL_law_270 (j := i + 2) (nI_k i 2) (by omega) hL ?_
  obtain ⟨Q1, hM9, hF⟩ := hF
  refine wa_callV [.int (X.2.1.2.2 (i + 1)), .int (X.2.1.2.2 (i + 2))] dL_law_271 (mmX11_numbers _ _) mlL_31 mnX11_numbers mseX11_numbers rfl rfl rfl rfl (a_dlt d) rfl rfl hM9 ?_
  rintro r9 M1 P9 ⟨v1, rfl, rfl, hq9⟩
  replace hF := hF v1 M1 hq9
  simp only [Option.toList, List.cons_append, List.nil_append]
  refine wa_aload_n dL_law_274 2 rfl rfl ?_
  refine wa_aload_n dL_law_275 0 rfl rfl ?_
  refine wa_iload_n dL_law_276 3 rfl rfl ?_
  refine wa_iconst (v := 1) dL_law_277 rfl ?_
  refine wa_iadd dL_law_278 ?_
  refine wl_ld dL_law_279 (j := i + 1) (nI_k i 1) (by omega) hL ?_
  refine wa_aload_n dL_law_280 0 rfl rfl ?_
  refine wa_iload_n dL_law_281 3 rfl rfl ?_
  refine wa_iconst (v := 2) dL_law_282 rfl ?_
  refine wa_iadd dL_law_283 ?_
  refine wl_ld dL_law_284 (j := i + 2) (nI_k i 2) (by omega) hL ?_
  obtain ⟨Q2, hM9, hF⟩ := hF
  refine wa_callV [.int (X.2.1.2.2 (i + 1)), .int (X.2.1.2.2 (i + 2))] dL_law_285 (mmX12_numbers _ _) mlL_35 mnX12_numbers mseX12_numbers rfl rfl rfl rfl (a_dlt d) rfl rfl hM9 ?_
  rintro r9 M2 P9 ⟨v2, rfl, rfl, hq9⟩
  replace hF := hF v2 M2 hq9
  simp only [Option.toList, List.cons_append, List.nil_append]
  obtain ⟨he9, hF⟩ := hF
  refine wa_icmp_eq (tgt := 1123) dL_law_288 rfl (fun hc => ?_) (fun hc => absurd he9 hc)
  exact hF
theorem bL_293 {X : a_X} {ad : Nat → Nat} {ca : Nat → ClassId} {d kc ks i x : Nat} {QF : List Frame → Array Value → State → State → Prop} {M : a_M} (hi : i + 5 < X.2.1.2.1) (hL : X.2.1.2.1 ≤ 3073) (hF : (∃ Q1 : Int32 → a_M → Prop, Mt X ad ca LY d yX11_feed cX11_feed 6 (some FieldType.int) [.ref 0, .int (X.2.1.2.2 (i + 1)), .int (X.2.1.2.2 (i + 2)), .int (X.2.1.2.2 (i + 3)), .int (X.2.1.2.2 (i + 4)), .int (X.2.1.2.2 (i + 5))] M (PT x) (q_i (PT x) Q1) ∧ ∀ v1 M1, Q1 v1 M1 → (∃ Q2 : Int32 → a_M → Prop, Mt X ad ca LY d yX12_feed cX12_feed 6 (some FieldType.int) [.ref 118, .int (X.2.1.2.2 (i + 1)), .int (X.2.1.2.2 (i + 2)), .int (X.2.1.2.2 (i + 3)), .int (X.2.1.2.2 (i + 4)), .int (X.2.1.2.2 (i + 5))] M1 (PT x) (q_i (PT x) Q2) ∧ ∀ v2 M2, Q2 v2 M2 → (v1 = v2 ∧ wL X ad ca d kc ks QF 1123 (nI i) M2 x)))) : wL X ad ca d kc ks QF 293 (nI i) M x := by
  refine wa_aload_n dL_law_293 1 rfl rfl ?_
  refine wa_aload_n dL_law_294 0 rfl rfl ?_
  refine wa_iload_n dL_law_295 3 rfl rfl ?_
  refine wa_iconst (v := 1) dL_law_296 rfl ?_
  refine wa_iadd dL_law_297 ?_
  refine wl_ld dL_law_298 (j := i + 1) (nI_k i 1) (by omega) hL ?_
  refine wa_aload_n dL_law_299 0 rfl rfl ?_
  refine wa_iload_n dL_law_300 3 rfl rfl ?_
  refine wa_iconst (v := 2) dL_law_301 rfl ?_
  refine wa_iadd dL_law_302 ?_
  refine wl_ld dL_law_303 (j := i + 2) (nI_k i 2) (by omega) hL ?_
  refine wa_aload_n dL_law_304 0 rfl rfl ?_
  refine wa_iload_n dL_law_305 3 rfl rfl ?_
  refine wa_iconst (v := 3) dL_law_306 rfl ?_
  refine wa_iadd dL_law_307 ?_
  refine wl_ld dL_law_308 (j := i + 3) (nI_k i 3) (by omega) hL ?_
  refine wa_aload_n dL_law_309 0 rfl rfl ?_
  refine wa_iload_n dL_law_310 3 rfl rfl ?_
  refine wa_iconst (v := 4) dL_law_311 rfl ?_
  refine wa_iadd dL_law_312 ?_
  refine wl_ld dL_law_313 (j := i + 4) (nI_k i 4) (by omega) hL ?_
  refine wa_aload_n dL_law_314 0 rfl rfl ?_
  refine wa_iload_n dL_law_315 3 rfl rfl ?_
  refine wa_iconst (v := 5) dL_law_316 rfl ?_
  refine wa_iadd dL_law_317 ?_
  refine wl_ld dL_law_318 (j := i + 5) (nI_k i 5) (by omega) hL ?_
  obtain ⟨Q1, hM9, hF⟩ := hF
  refine wa_callV [.int (X.2.1.2.2 (i + 1)), .int (X.2.1.2.2 (i + 2)), .int (X.2.1.2.2 (i + 3)), .int (X.2.1.2.2 (i + 4)), .int (X.2.1.2.2 (i + 5))] dL_law_319 (mmX11_feed _ _) mlL_36 mnX11_feed mseX11_feed rfl rfl rfl rfl (a_dlt d) rfl rfl hM9 ?_
  rintro r9 M1 P9 ⟨v1, rfl, rfl, hq9⟩
  replace hF := hF v1 M1 hq9
  simp only [Option.toList, List.cons_append, List.nil_append]
  refine wa_aload_n dL_law_322 2 rfl rfl ?_
  refine wa_aload_n dL_law_323 0 rfl rfl ?_
  refine wa_iload_n dL_law_324 3 rfl rfl ?_
  refine wa_iconst (v := 1) dL_law_325 rfl ?_
  refine wa_iadd dL_law_326 ?_
  refine wl_ld dL_law_327 (j := i + 1) (nI_k i 1) (by omega) hL ?_
  refine wa_aload_n dL_law_328 0 rfl rfl ?_
  refine wa_iload_n dL_law_329 3 rfl rfl ?_
  refine wa_iconst (v := 2) dL_law_330 rfl ?_
  refine wa_iadd dL_law_331 ?_
  refine wl_ld dL_law_332 (j := i + 2) (nI_k i 2) (by omega) hL ?_
  refine wa_aload_n dL_law_333 0 rfl rfl ?_
  refine wa_iload_n dL_law_334 3 rfl rfl ?_
  refine wa_iconst (v := 3) dL_law_335 rfl ?_
  refine wa_iadd dL_law_336 ?_
  refine wl_ld dL_law_337 (j := i + 3) (nI_k i 3) (by omega) hL ?_
  refine wa_aload_n dL_law_338 0 rfl rfl ?_
  refine wa_iload_n dL_law_339 3 rfl rfl ?_
  refine wa_iconst (v := 4) dL_law_340 rfl ?_
  refine wa_iadd dL_law_341 ?_
  refine wl_ld dL_law_342 (j := i + 4) (nI_k i 4) (by omega) hL ?_
  refine wa_aload_n dL_law_343 0 rfl rfl ?_
  refine wa_iload_n dL_law_344 3 rfl rfl ?_
  refine wa_iconst (v := 5) dL_law_345 rfl ?_
  refine wa_iadd dL_law_346 ?_
  refine wl_ld dL_law_347 (j := i + 5) (nI_k i 5) (by omega) hL ?_
  obtain ⟨Q2, hM9, hF⟩ := hF
  refine wa_callV [.int (X.2.1.2.2 (i + 1)), .int (X.2.1.2.2 (i + 2)), .int (X.2.1.2.2 (i + 3)), .int (X.2.1.2.2 (i + 4)), .int (X.2.1.2.2 (i + 5))] dL_law_348 (mmX12_feed _ _) mlL_40 mnX12_feed mseX12_feed rfl rfl rfl rfl (a_dlt d) rfl rfl hM9 ?_
  rintro r9 M2 P9 ⟨v2, rfl, rfl, hq9⟩
  replace hF := hF v2 M2 hq9
  simp only [Option.toList, List.cons_append, List.nil_append]
  obtain ⟨he9, hF⟩ := hF
  refine wa_icmp_eq (tgt := 1123) dL_law_351 rfl (fun hc => ?_) (fun hc => absurd he9 hc)
  exact hF
theorem bL_356 {X : a_X} {ad : Nat → Nat} {ca : Nat → ClassId} {d kc ks i x : Nat} {QF : List Frame → Array Value → State → State → Prop} {M : a_M} (hi : i + 5 < X.2.1.2.1) (hL : X.2.1.2.1 ≤ 3073) (hF : (∃ Q1 : Int32 → a_M → Prop, Mt X ad ca LY d yX11_end cX11_end 2 (some FieldType.int) [.ref 0, .int (X.2.1.2.2 (i + 1))] M (PT x) (q_i (PT x) Q1) ∧ ∀ v1 M1, Q1 v1 M1 → (∃ Q2 : Int32 → a_M → Prop, Mt X ad ca LY d yX12_end cX12_end 2 (some FieldType.int) [.ref 118, .int (X.2.1.2.2 (i + 1))] M1 (PT x) (q_i (PT x) Q2) ∧ ∀ v2 M2, Q2 v2 M2 → (v1 = v2 ∧ wL X ad ca d kc ks QF 1123 (nI i) M2 x)))) : wL X ad ca d kc ks QF 356 (nI i) M x := by
  refine wa_aload_n dL_law_356 1 rfl rfl ?_
  refine wa_aload_n dL_law_357 0 rfl rfl ?_
  refine wa_iload_n dL_law_358 3 rfl rfl ?_
  refine wa_iconst (v := 1) dL_law_359 rfl ?_
  refine wa_iadd dL_law_360 ?_
  refine wl_ld dL_law_361 (j := i + 1) (nI_k i 1) (by omega) hL ?_
  obtain ⟨Q1, hM9, hF⟩ := hF
  refine wa_callV [.int (X.2.1.2.2 (i + 1))] dL_law_362 (mmX11_end _ _) mlL_41 mnX11_end mseX11_end rfl rfl rfl rfl (a_dlt d) rfl rfl hM9 ?_
  rintro r9 M1 P9 ⟨v1, rfl, rfl, hq9⟩
  replace hF := hF v1 M1 hq9
  simp only [Option.toList, List.cons_append, List.nil_append]
  refine wa_aload_n dL_law_365 2 rfl rfl ?_
  refine wa_aload_n dL_law_366 0 rfl rfl ?_
  refine wa_iload_n dL_law_367 3 rfl rfl ?_
  refine wa_iconst (v := 1) dL_law_368 rfl ?_
  refine wa_iadd dL_law_369 ?_
  refine wl_ld dL_law_370 (j := i + 1) (nI_k i 1) (by omega) hL ?_
  obtain ⟨Q2, hM9, hF⟩ := hF
  refine wa_callV [.int (X.2.1.2.2 (i + 1))] dL_law_371 (mmX12_end _ _) mlL_45 mnX12_end mseX12_end rfl rfl rfl rfl (a_dlt d) rfl rfl hM9 ?_
  rintro r9 M2 P9 ⟨v2, rfl, rfl, hq9⟩
  replace hF := hF v2 M2 hq9
  simp only [Option.toList, List.cons_append, List.nil_append]
  obtain ⟨he9, hF⟩ := hF
  refine wa_icmp_eq (tgt := 1123) dL_law_374 rfl (fun hc => ?_) (fun hc => absurd he9 hc)
  exact hF
theorem bL_379 {X : a_X} {ad : Nat → Nat} {ca : Nat → ClassId} {d kc ks i x : Nat} {QF : List Frame → Array Value → State → State → Prop} {M : a_M} (hi : i + 5 < X.2.1.2.1) (hL : X.2.1.2.1 ≤ 3073) (hF : (∃ Q1 : Int32 → a_M → Nat → Prop, mX11_text X ad ca d x [.ref 0] M (fun r9 M9 P9 => ∃ v x9, r9 = some (.int v) ∧ P9 = PT x9 ∧ Q1 v M9 x9) ∧ ∀ v1 M1 x1, Q1 v1 M1 x1 → (∃ Q2 : Int32 → a_M → Prop, Mt X ad ca LY d yX12_text cX12_text 3 (some FieldType.int) [.ref 118] M1 (PT x1) (q_i (PT x1) Q2) ∧ ∀ v2 M2, Q2 v2 M2 → (v1 = v2 ∧ wL X ad ca d kc ks QF 1123 (nI i) M2 x1)))) : wL X ad ca d kc ks QF 379 (nI i) M x := by
  refine wa_aload_n dL_law_379 1 rfl rfl ?_
  obtain ⟨Q1, hM9, hF⟩ := hF
  refine wa_callV [] dL_law_380 (mmX11_text _ _) mlL_46 mnX11_text mseX11_text rfl rfl rfl rfl (a_dlt d) rfl rfl hM9 ?_
  rintro r9 M1 P9 ⟨v1, x1, rfl, rfl, hq9⟩
  replace hF := hF v1 M1 x1 hq9
  simp only [Option.toList, List.cons_append, List.nil_append]
  refine wa_aload_n dL_law_383 2 rfl rfl ?_
  obtain ⟨Q2, hM9, hF⟩ := hF
  refine wa_callV [] dL_law_384 (mmX12_text _ _) mlL_50 mnX12_text mseX12_text rfl rfl rfl rfl (a_dlt d) rfl rfl hM9 ?_
  rintro r9 M2 P9 ⟨v2, rfl, rfl, hq9⟩
  replace hF := hF v2 M2 hq9
  simp only [Option.toList, List.cons_append, List.nil_append]
  obtain ⟨he9, hF⟩ := hF
  refine wa_icmp_eq (tgt := 1123) dL_law_387 rfl (fun hc => ?_) (fun hc => absurd he9 hc)
  exact hF
theorem bL_392 {X : a_X} {ad : Nat → Nat} {ca : Nat → ClassId} {d kc ks i x : Nat} {QF : List Frame → Array Value → State → State → Prop} {M : a_M} (hi : i + 5 < X.2.1.2.1) (hL : X.2.1.2.1 ≤ 3073) (hF : (∃ Q1 : Int32 → a_M → Prop, Mt X ad ca LY d yX11_fault cX11_fault 2 (some FieldType.int) [.ref 0, .int (X.2.1.2.2 (i + 1))] M (PT x) (q_i (PT x) Q1) ∧ ∀ v1 M1, Q1 v1 M1 → (∃ Q2 : Int32 → a_M → Prop, Mt X ad ca LY d yX12_fault cX12_fault 2 (some FieldType.int) [.ref 118, .int (X.2.1.2.2 (i + 1))] M1 (PT x) (q_i (PT x) Q2) ∧ ∀ v2 M2, Q2 v2 M2 → (v1 = v2 ∧ wL X ad ca d kc ks QF 1123 (nI i) M2 x)))) : wL X ad ca d kc ks QF 392 (nI i) M x := by
  refine wa_aload_n dL_law_392 1 rfl rfl ?_
  refine wa_aload_n dL_law_393 0 rfl rfl ?_
  refine wa_iload_n dL_law_394 3 rfl rfl ?_
  refine wa_iconst (v := 1) dL_law_395 rfl ?_
  refine wa_iadd dL_law_396 ?_
  refine wl_ld dL_law_397 (j := i + 1) (nI_k i 1) (by omega) hL ?_
  obtain ⟨Q1, hM9, hF⟩ := hF
  refine wa_callV [.int (X.2.1.2.2 (i + 1))] dL_law_398 (mmX11_fault _ _) mlL_51 mnX11_fault mseX11_fault rfl rfl rfl rfl (a_dlt d) rfl rfl hM9 ?_
  rintro r9 M1 P9 ⟨v1, rfl, rfl, hq9⟩
  replace hF := hF v1 M1 hq9
  simp only [Option.toList, List.cons_append, List.nil_append]
  refine wa_aload_n dL_law_401 2 rfl rfl ?_
  refine wa_aload_n dL_law_402 0 rfl rfl ?_
  refine wa_iload_n dL_law_403 3 rfl rfl ?_
  refine wa_iconst (v := 1) dL_law_404 rfl ?_
  refine wa_iadd dL_law_405 ?_
  refine wl_ld dL_law_406 (j := i + 1) (nI_k i 1) (by omega) hL ?_
  obtain ⟨Q2, hM9, hF⟩ := hF
  refine wa_callV [.int (X.2.1.2.2 (i + 1))] dL_law_407 (mmX12_fault _ _) mlL_54 mnX12_fault mseX12_fault rfl rfl rfl rfl (a_dlt d) rfl rfl hM9 ?_
  rintro r9 M2 P9 ⟨v2, rfl, rfl, hq9⟩
  replace hF := hF v2 M2 hq9
  simp only [Option.toList, List.cons_append, List.nil_append]
  obtain ⟨he9, hF⟩ := hF
  refine wa_icmp_eq (tgt := 1123) dL_law_410 rfl (fun hc => ?_) (fun hc => absurd he9 hc)
  exact hF
theorem bL_415 {X : a_X} {ad : Nat → Nat} {ca : Nat → ClassId} {d kc ks i x : Nat} {QF : List Frame → Array Value → State → State → Prop} {M : a_M} (hi : i + 5 < X.2.1.2.1) (hL : X.2.1.2.1 ≤ 3073) (hF : (∃ Q1 : Int32 → a_M → Prop, Mt X ad ca LY d yX11_by cX11_by 2 (some FieldType.boolean) [.ref 0, .int (X.2.1.2.2 (i + 1))] M (PT x) (q_i (PT x) Q1) ∧ ∀ v1 M1, Q1 v1 M1 → (∃ Q2 : Int32 → a_M → Prop, Mt X ad ca LY d yX12_by cX12_by 2 (some FieldType.boolean) [.ref 118, .int (X.2.1.2.2 (i + 1))] M1 (PT x) (q_i (PT x) Q2) ∧ ∀ v2 M2, Q2 v2 M2 → (v1 = v2 ∧ wL X ad ca d kc ks QF 1123 (nI i) M2 x)))) : wL X ad ca d kc ks QF 415 (nI i) M x := by
  refine wa_aload_n dL_law_415 1 rfl rfl ?_
  refine wa_aload_n dL_law_416 0 rfl rfl ?_
  refine wa_iload_n dL_law_417 3 rfl rfl ?_
  refine wa_iconst (v := 1) dL_law_418 rfl ?_
  refine wa_iadd dL_law_419 ?_
  refine wl_ld dL_law_420 (j := i + 1) (nI_k i 1) (by omega) hL ?_
  obtain ⟨Q1, hM9, hF⟩ := hF
  refine wa_callV [.int (X.2.1.2.2 (i + 1))] dL_law_421 (mmX11_by _ _) mlL_55 mnX11_by mseX11_by rfl rfl rfl rfl (a_dlt d) rfl rfl hM9 ?_
  rintro r9 M1 P9 ⟨v1, rfl, rfl, hq9⟩
  replace hF := hF v1 M1 hq9
  simp only [Option.toList, List.cons_append, List.nil_append]
  refine wa_aload_n dL_law_424 2 rfl rfl ?_
  refine wa_aload_n dL_law_425 0 rfl rfl ?_
  refine wa_iload_n dL_law_426 3 rfl rfl ?_
  refine wa_iconst (v := 1) dL_law_427 rfl ?_
  refine wa_iadd dL_law_428 ?_
  refine wl_ld dL_law_429 (j := i + 1) (nI_k i 1) (by omega) hL ?_
  obtain ⟨Q2, hM9, hF⟩ := hF
  refine wa_callV [.int (X.2.1.2.2 (i + 1))] dL_law_430 (mmX12_by _ _) mlL_58 mnX12_by mseX12_by rfl rfl rfl rfl (a_dlt d) rfl rfl hM9 ?_
  rintro r9 M2 P9 ⟨v2, rfl, rfl, hq9⟩
  replace hF := hF v2 M2 hq9
  simp only [Option.toList, List.cons_append, List.nil_append]
  obtain ⟨he9, hF⟩ := hF
  refine wa_icmp_eq (tgt := 1123) dL_law_433 rfl (fun hc => ?_) (fun hc => absurd he9 hc)
  exact hF
theorem bL_438 {X : a_X} {ad : Nat → Nat} {ca : Nat → ClassId} {d kc ks i x : Nat} {QF : List Frame → Array Value → State → State → Prop} {M : a_M} (hi : i + 5 < X.2.1.2.1) (hL : X.2.1.2.1 ≤ 3073) (hF : (∃ Q1 : Int32 → a_M → Prop, Mt X ad ca LY d yX11_weight cX11_weight 3 (some FieldType.int) [.ref 0, .int (X.2.1.2.2 (i + 1)), .int (X.2.1.2.2 (i + 2))] M (PT x) (q_i (PT x) Q1) ∧ ∀ v1 M1, Q1 v1 M1 → (∃ Q2 : Int32 → a_M → Prop, Mt X ad ca LY d yX12_weight cX12_weight 3 (some FieldType.int) [.ref 118, .int (X.2.1.2.2 (i + 1)), .int (X.2.1.2.2 (i + 2))] M1 (PT x) (q_i (PT x) Q2) ∧ ∀ v2 M2, Q2 v2 M2 → (v1 = v2 ∧ wL X ad ca d kc ks QF 1123 (nI i) M2 x)))) : wL X ad ca d kc ks QF 438 (nI i) M x := by
  refine wa_aload_n dL_law_438 1 rfl rfl ?_
  refine wa_aload_n dL_law_439 0 rfl rfl ?_
  refine wa_iload_n dL_law_440 3 rfl rfl ?_
  refine wa_iconst (v := 1) dL_law_441 rfl ?_
  refine wa_iadd dL_law_442 ?_
  refine wl_ld dL_law_443 (j := i + 1) (nI_k i 1) (by omega) hL ?_
  refine wa_aload_n dL_law_444 0 rfl rfl ?_
  refine wa_iload_n dL_law_445 3 rfl rfl ?_
  refine wa_iconst (v := 2) dL_law_446 rfl ?_
  refine wa_iadd dL_law_447 ?_
  refine wl_ld dL_law_448 (j := i + 2) (nI_k i 2) (by omega) hL ?_
  obtain ⟨Q1, hM9, hF⟩ := hF
  refine wa_callV [.int (X.2.1.2.2 (i + 1)), .int (X.2.1.2.2 (i + 2))] dL_law_449 (mmX11_weight _ _) mlL_59 mnX11_weight mseX11_weight rfl rfl rfl rfl (a_dlt d) rfl rfl hM9 ?_
  rintro r9 M1 P9 ⟨v1, rfl, rfl, hq9⟩
  replace hF := hF v1 M1 hq9
  simp only [Option.toList, List.cons_append, List.nil_append]
  refine wa_aload_n dL_law_452 2 rfl rfl ?_
  refine wa_aload_n dL_law_453 0 rfl rfl ?_
  refine wa_iload_n dL_law_454 3 rfl rfl ?_
  refine wa_iconst (v := 1) dL_law_455 rfl ?_
  refine wa_iadd dL_law_456 ?_
  refine wl_ld dL_law_457 (j := i + 1) (nI_k i 1) (by omega) hL ?_
  refine wa_aload_n dL_law_458 0 rfl rfl ?_
  refine wa_iload_n dL_law_459 3 rfl rfl ?_
  refine wa_iconst (v := 2) dL_law_460 rfl ?_
  refine wa_iadd dL_law_461 ?_
  refine wl_ld dL_law_462 (j := i + 2) (nI_k i 2) (by omega) hL ?_
  obtain ⟨Q2, hM9, hF⟩ := hF
  refine wa_callV [.int (X.2.1.2.2 (i + 1)), .int (X.2.1.2.2 (i + 2))] dL_law_463 (mmX12_weight _ _) mlL_63 mnX12_weight mseX12_weight rfl rfl rfl rfl (a_dlt d) rfl rfl hM9 ?_
  rintro r9 M2 P9 ⟨v2, rfl, rfl, hq9⟩
  replace hF := hF v2 M2 hq9
  simp only [Option.toList, List.cons_append, List.nil_append]
  obtain ⟨he9, hF⟩ := hF
  refine wa_icmp_eq (tgt := 1123) dL_law_466 rfl (fun hc => ?_) (fun hc => absurd he9 hc)
  exact hF
theorem bL_471 {X : a_X} {ad : Nat → Nat} {ca : Nat → ClassId} {d kc ks i x : Nat} {QF : List Frame → Array Value → State → State → Prop} {M : a_M} (hi : i + 5 < X.2.1.2.1) (hL : X.2.1.2.1 ≤ 3073) (hF : (∃ Q1 : Int32 → a_M → Prop, Mt X ad ca LY d yX11_equation cX11_equation 2 (some FieldType.int) [.ref 0, .int (X.2.1.2.2 (i + 1))] M (PT x) (q_i (PT x) Q1) ∧ ∀ v1 M1, Q1 v1 M1 → (∃ Q2 : Int32 → a_M → Prop, Mt X ad ca LY d yX12_equation cX12_equation 7 (some FieldType.int) [.ref 118, .int (X.2.1.2.2 (i + 1))] M1 (PT x) (q_i (PT x) Q2) ∧ ∀ v2 M2, Q2 v2 M2 → (v1 = v2 ∧ wL X ad ca d kc ks QF 1123 (nI i) M2 x)))) : wL X ad ca d kc ks QF 471 (nI i) M x := by
  refine wa_aload_n dL_law_471 1 rfl rfl ?_
  refine wa_aload_n dL_law_472 0 rfl rfl ?_
  refine wa_iload_n dL_law_473 3 rfl rfl ?_
  refine wa_iconst (v := 1) dL_law_474 rfl ?_
  refine wa_iadd dL_law_475 ?_
  refine wl_ld dL_law_476 (j := i + 1) (nI_k i 1) (by omega) hL ?_
  obtain ⟨Q1, hM9, hF⟩ := hF
  refine wa_callV [.int (X.2.1.2.2 (i + 1))] dL_law_477 (mmX11_equation _ _) mlL_64 mnX11_equation mseX11_equation rfl rfl rfl rfl (a_dlt d) rfl rfl hM9 ?_
  rintro r9 M1 P9 ⟨v1, rfl, rfl, hq9⟩
  replace hF := hF v1 M1 hq9
  simp only [Option.toList, List.cons_append, List.nil_append]
  refine wa_aload_n dL_law_480 2 rfl rfl ?_
  refine wa_aload_n dL_law_481 0 rfl rfl ?_
  refine wa_iload_n dL_law_482 3 rfl rfl ?_
  refine wa_iconst (v := 1) dL_law_483 rfl ?_
  refine wa_iadd dL_law_484 ?_
  refine wl_ld dL_law_485 (j := i + 1) (nI_k i 1) (by omega) hL ?_
  obtain ⟨Q2, hM9, hF⟩ := hF
  refine wa_callV [.int (X.2.1.2.2 (i + 1))] dL_law_486 (mmX12_equation _ _) mlL_67 mnX12_equation mseX12_equation rfl rfl rfl rfl (a_dlt d) rfl rfl hM9 ?_
  rintro r9 M2 P9 ⟨v2, rfl, rfl, hq9⟩
  replace hF := hF v2 M2 hq9
  simp only [Option.toList, List.cons_append, List.nil_append]
  obtain ⟨he9, hF⟩ := hF
  refine wa_icmp_eq (tgt := 1123) dL_law_489 rfl (fun hc => ?_) (fun hc => absurd he9 hc)
  exact hF
theorem bL_494 {X : a_X} {ad : Nat → Nat} {ca : Nat → ClassId} {d kc ks i x : Nat} {QF : List Frame → Array Value → State → State → Prop} {M : a_M} (hi : i + 5 < X.2.1.2.1) (hL : X.2.1.2.1 ≤ 3073) (hF : (∃ Q1 : Int32 → a_M → Prop, Mt X ad ca LY d yX11_sum cX11_sum 4 (some FieldType.int) [.ref 0, .int (X.2.1.2.2 (i + 1)), .int (X.2.1.2.2 (i + 2))] M (PT x) (q_i (PT x) Q1) ∧ ∀ v1 M1, Q1 v1 M1 → (∃ Q2 : Int32 → a_M → Prop, Mt X ad ca LY d yX12_sum cX12_sum 3 (some FieldType.int) [.ref 118, .int (X.2.1.2.2 (i + 1)), .int (X.2.1.2.2 (i + 2))] M1 (PT x) (q_i (PT x) Q2) ∧ ∀ v2 M2, Q2 v2 M2 → (v1 = v2 ∧ wL X ad ca d kc ks QF 1123 (nI i) M2 x)))) : wL X ad ca d kc ks QF 494 (nI i) M x := by
  refine wa_aload_n dL_law_494 1 rfl rfl ?_
  refine wa_aload_n dL_law_495 0 rfl rfl ?_
  refine wa_iload_n dL_law_496 3 rfl rfl ?_
  refine wa_iconst (v := 1) dL_law_497 rfl ?_
  refine wa_iadd dL_law_498 ?_
  refine wl_ld dL_law_499 (j := i + 1) (nI_k i 1) (by omega) hL ?_
  refine wa_aload_n dL_law_500 0 rfl rfl ?_
  refine wa_iload_n dL_law_501 3 rfl rfl ?_
  refine wa_iconst (v := 2) dL_law_502 rfl ?_
  refine wa_iadd dL_law_503 ?_
  refine wl_ld dL_law_504 (j := i + 2) (nI_k i 2) (by omega) hL ?_
  obtain ⟨Q1, hM9, hF⟩ := hF
  refine wa_callV [.int (X.2.1.2.2 (i + 1)), .int (X.2.1.2.2 (i + 2))] dL_law_505 (mmX11_sum _ _) mlL_68 mnX11_sum mseX11_sum rfl rfl rfl rfl (a_dlt d) rfl rfl hM9 ?_
  rintro r9 M1 P9 ⟨v1, rfl, rfl, hq9⟩
  replace hF := hF v1 M1 hq9
  simp only [Option.toList, List.cons_append, List.nil_append]
  refine wa_aload_n dL_law_508 2 rfl rfl ?_
  refine wa_aload_n dL_law_509 0 rfl rfl ?_
  refine wa_iload_n dL_law_510 3 rfl rfl ?_
  refine wa_iconst (v := 1) dL_law_511 rfl ?_
  refine wa_iadd dL_law_512 ?_
  refine wl_ld dL_law_513 (j := i + 1) (nI_k i 1) (by omega) hL ?_
  refine wa_aload_n dL_law_514 0 rfl rfl ?_
  refine wa_iload_n dL_law_515 3 rfl rfl ?_
  refine wa_iconst (v := 2) dL_law_516 rfl ?_
  refine wa_iadd dL_law_517 ?_
  refine wl_ld dL_law_518 (j := i + 2) (nI_k i 2) (by omega) hL ?_
  obtain ⟨Q2, hM9, hF⟩ := hF
  refine wa_callV [.int (X.2.1.2.2 (i + 1)), .int (X.2.1.2.2 (i + 2))] dL_law_519 (mmX12_sum _ _) mlL_71 mnX12_sum mseX12_sum rfl rfl rfl rfl (a_dlt d) rfl rfl hM9 ?_
  rintro r9 M2 P9 ⟨v2, rfl, rfl, hq9⟩
  replace hF := hF v2 M2 hq9
  simp only [Option.toList, List.cons_append, List.nil_append]
  obtain ⟨he9, hF⟩ := hF
  refine wa_icmp_eq (tgt := 1123) dL_law_522 rfl (fun hc => ?_) (fun hc => absurd he9 hc)
  exact hF
theorem bL_527 {X : a_X} {ad : Nat → Nat} {ca : Nat → ClassId} {d kc ks i x : Nat} {QF : List Frame → Array Value → State → State → Prop} {M : a_M} (hi : i + 5 < X.2.1.2.1) (hL : X.2.1.2.1 ≤ 3073) (hF : (∃ Q1 : Int32 → a_M → Prop, Mt X ad ca LY d yX11_table cX11_table 5 (some FieldType.int) [.ref 0, .int (X.2.1.2.2 (i + 1)), .int (X.2.1.2.2 (i + 2)), .int (X.2.1.2.2 (i + 3))] M (PT x) (q_i (PT x) Q1) ∧ ∀ v1 M1, Q1 v1 M1 → (∃ Q2 : Int32 → a_M → Prop, Mt X ad ca LY d yX12_table cX12_table 4 (some FieldType.int) [.ref 118, .int (X.2.1.2.2 (i + 1)), .int (X.2.1.2.2 (i + 2)), .int (X.2.1.2.2 (i + 3))] M1 (PT x) (q_i (PT x) Q2) ∧ ∀ v2 M2, Q2 v2 M2 → (v1 = v2 ∧ wL X ad ca d kc ks QF 1123 (nI i) M2 x)))) : wL X ad ca d kc ks QF 527 (nI i) M x := by
  refine wa_aload_n dL_law_527 1 rfl rfl ?_
  refine wa_aload_n dL_law_528 0 rfl rfl ?_
  refine wa_iload_n dL_law_529 3 rfl rfl ?_
  refine wa_iconst (v := 1) dL_law_530 rfl ?_
  refine wa_iadd dL_law_531 ?_
  refine wl_ld dL_law_532 (j := i + 1) (nI_k i 1) (by omega) hL ?_
  refine wa_aload_n dL_law_533 0 rfl rfl ?_
  refine wa_iload_n dL_law_534 3 rfl rfl ?_
  refine wa_iconst (v := 2) dL_law_535 rfl ?_
  refine wa_iadd dL_law_536 ?_
  refine wl_ld dL_law_537 (j := i + 2) (nI_k i 2) (by omega) hL ?_
  refine wa_aload_n dL_law_538 0 rfl rfl ?_
  refine wa_iload_n dL_law_539 3 rfl rfl ?_
  refine wa_iconst (v := 3) dL_law_540 rfl ?_
  refine wa_iadd dL_law_541 ?_
  refine wl_ld dL_law_542 (j := i + 3) (nI_k i 3) (by omega) hL ?_
  obtain ⟨Q1, hM9, hF⟩ := hF
  refine wa_callV [.int (X.2.1.2.2 (i + 1)), .int (X.2.1.2.2 (i + 2)), .int (X.2.1.2.2 (i + 3))] dL_law_543 (mmX11_table _ _) mlL_72 mnX11_table mseX11_table rfl rfl rfl rfl (a_dlt d) rfl rfl hM9 ?_
  rintro r9 M1 P9 ⟨v1, rfl, rfl, hq9⟩
  replace hF := hF v1 M1 hq9
  simp only [Option.toList, List.cons_append, List.nil_append]
  refine wa_aload_n dL_law_546 2 rfl rfl ?_
  refine wa_aload_n dL_law_547 0 rfl rfl ?_
  refine wa_iload_n dL_law_548 3 rfl rfl ?_
  refine wa_iconst (v := 1) dL_law_549 rfl ?_
  refine wa_iadd dL_law_550 ?_
  refine wl_ld dL_law_551 (j := i + 1) (nI_k i 1) (by omega) hL ?_
  refine wa_aload_n dL_law_552 0 rfl rfl ?_
  refine wa_iload_n dL_law_553 3 rfl rfl ?_
  refine wa_iconst (v := 2) dL_law_554 rfl ?_
  refine wa_iadd dL_law_555 ?_
  refine wl_ld dL_law_556 (j := i + 2) (nI_k i 2) (by omega) hL ?_
  refine wa_aload_n dL_law_557 0 rfl rfl ?_
  refine wa_iload_n dL_law_558 3 rfl rfl ?_
  refine wa_iconst (v := 3) dL_law_559 rfl ?_
  refine wa_iadd dL_law_560 ?_
  refine wl_ld dL_law_561 (j := i + 3) (nI_k i 3) (by omega) hL ?_
  obtain ⟨Q2, hM9, hF⟩ := hF
  refine wa_callV [.int (X.2.1.2.2 (i + 1)), .int (X.2.1.2.2 (i + 2)), .int (X.2.1.2.2 (i + 3))] dL_law_562 (mmX12_table _ _) mlL_76 mnX12_table mseX12_table rfl rfl rfl rfl (a_dlt d) rfl rfl hM9 ?_
  rintro r9 M2 P9 ⟨v2, rfl, rfl, hq9⟩
  replace hF := hF v2 M2 hq9
  simp only [Option.toList, List.cons_append, List.nil_append]
  obtain ⟨he9, hF⟩ := hF
  refine wa_icmp_eq (tgt := 1123) dL_law_565 rfl (fun hc => ?_) (fun hc => absurd he9 hc)
  exact hF
theorem bL_570 {X : a_X} {ad : Nat → Nat} {ca : Nat → ClassId} {d kc ks i x : Nat} {QF : List Frame → Array Value → State → State → Prop} {M : a_M} (hi : i + 5 < X.2.1.2.1) (hL : X.2.1.2.1 ≤ 3073) (hF : (∃ Q1 : Int32 → a_M → Prop, Mt X ad ca LY d yX11_commute cX11_commute 4 (some FieldType.boolean) [.ref 0, .int (X.2.1.2.2 (i + 1)), .int (X.2.1.2.2 (i + 2))] M (PT x) (q_i (PT x) Q1) ∧ ∀ v1 M1, Q1 v1 M1 → (∃ Q2 : Int32 → a_M → Prop, Mt X ad ca LY d yX12_commute cX12_commute 5 (some FieldType.boolean) [.ref 118, .int (X.2.1.2.2 (i + 1)), .int (X.2.1.2.2 (i + 2))] M1 (PT x) (q_i (PT x) Q2) ∧ ∀ v2 M2, Q2 v2 M2 → (v1 = v2 ∧ wL X ad ca d kc ks QF 1123 (nI i) M2 x)))) : wL X ad ca d kc ks QF 570 (nI i) M x := by
  refine wa_aload_n dL_law_570 1 rfl rfl ?_
  refine wa_aload_n dL_law_571 0 rfl rfl ?_
  refine wa_iload_n dL_law_572 3 rfl rfl ?_
  refine wa_iconst (v := 1) dL_law_573 rfl ?_
  refine wa_iadd dL_law_574 ?_
  refine wl_ld dL_law_575 (j := i + 1) (nI_k i 1) (by omega) hL ?_
  refine wa_aload_n dL_law_576 0 rfl rfl ?_
  refine wa_iload_n dL_law_577 3 rfl rfl ?_
  refine wa_iconst (v := 2) dL_law_578 rfl ?_
  refine wa_iadd dL_law_579 ?_
  refine wl_ld dL_law_580 (j := i + 2) (nI_k i 2) (by omega) hL ?_
  obtain ⟨Q1, hM9, hF⟩ := hF
  refine wa_callV [.int (X.2.1.2.2 (i + 1)), .int (X.2.1.2.2 (i + 2))] dL_law_581 (mmX11_commute _ _) mlL_77 mnX11_commute mseX11_commute rfl rfl rfl rfl (a_dlt d) rfl rfl hM9 ?_
  rintro r9 M1 P9 ⟨v1, rfl, rfl, hq9⟩
  replace hF := hF v1 M1 hq9
  simp only [Option.toList, List.cons_append, List.nil_append]
  refine wa_aload_n dL_law_584 2 rfl rfl ?_
  refine wa_aload_n dL_law_585 0 rfl rfl ?_
  refine wa_iload_n dL_law_586 3 rfl rfl ?_
  refine wa_iconst (v := 1) dL_law_587 rfl ?_
  refine wa_iadd dL_law_588 ?_
  refine wl_ld dL_law_589 (j := i + 1) (nI_k i 1) (by omega) hL ?_
  refine wa_aload_n dL_law_590 0 rfl rfl ?_
  refine wa_iload_n dL_law_591 3 rfl rfl ?_
  refine wa_iconst (v := 2) dL_law_592 rfl ?_
  refine wa_iadd dL_law_593 ?_
  refine wl_ld dL_law_594 (j := i + 2) (nI_k i 2) (by omega) hL ?_
  obtain ⟨Q2, hM9, hF⟩ := hF
  refine wa_callV [.int (X.2.1.2.2 (i + 1)), .int (X.2.1.2.2 (i + 2))] dL_law_595 (mmX12_commute _ _) mlL_80 mnX12_commute mseX12_commute rfl rfl rfl rfl (a_dlt d) rfl rfl hM9 ?_
  rintro r9 M2 P9 ⟨v2, rfl, rfl, hq9⟩
  replace hF := hF v2 M2 hq9
  simp only [Option.toList, List.cons_append, List.nil_append]
  obtain ⟨he9, hF⟩ := hF
  refine wa_icmp_eq (tgt := 1123) dL_law_598 rfl (fun hc => ?_) (fun hc => absurd he9 hc)
  exact hF
theorem bL_603 {X : a_X} {ad : Nat → Nat} {ca : Nat → ClassId} {d kc ks i x : Nat} {QF : List Frame → Array Value → State → State → Prop} {M : a_M} (hi : i + 5 < X.2.1.2.1) (hL : X.2.1.2.1 ≤ 3073) (hF : (∃ Q1 : Int32 → a_M → Prop, Mt X ad ca LY d yX11_keeps cX11_keeps 2 (some FieldType.boolean) [.ref 0, .int (X.2.1.2.2 (i + 1))] M (PT x) (q_i (PT x) Q1) ∧ ∀ v1 M1, Q1 v1 M1 → (∃ Q2 : Int32 → a_M → Prop, Mt X ad ca LY d yX12_keeps cX12_keeps 4 (some FieldType.boolean) [.ref 118, .int (X.2.1.2.2 (i + 1))] M1 (PT x) (q_i (PT x) Q2) ∧ ∀ v2 M2, Q2 v2 M2 → (v1 = v2 ∧ wL X ad ca d kc ks QF 1123 (nI i) M2 x)))) : wL X ad ca d kc ks QF 603 (nI i) M x := by
  refine wa_aload_n dL_law_603 1 rfl rfl ?_
  refine wa_aload_n dL_law_604 0 rfl rfl ?_
  refine wa_iload_n dL_law_605 3 rfl rfl ?_
  refine wa_iconst (v := 1) dL_law_606 rfl ?_
  refine wa_iadd dL_law_607 ?_
  refine wl_ld dL_law_608 (j := i + 1) (nI_k i 1) (by omega) hL ?_
  obtain ⟨Q1, hM9, hF⟩ := hF
  refine wa_callV [.int (X.2.1.2.2 (i + 1))] dL_law_609 (mmX11_keeps _ _) mlL_81 mnX11_keeps mseX11_keeps rfl rfl rfl rfl (a_dlt d) rfl rfl hM9 ?_
  rintro r9 M1 P9 ⟨v1, rfl, rfl, hq9⟩
  replace hF := hF v1 M1 hq9
  simp only [Option.toList, List.cons_append, List.nil_append]
  refine wa_aload_n dL_law_612 2 rfl rfl ?_
  refine wa_aload_n dL_law_613 0 rfl rfl ?_
  refine wa_iload_n dL_law_614 3 rfl rfl ?_
  refine wa_iconst (v := 1) dL_law_615 rfl ?_
  refine wa_iadd dL_law_616 ?_
  refine wl_ld dL_law_617 (j := i + 1) (nI_k i 1) (by omega) hL ?_
  obtain ⟨Q2, hM9, hF⟩ := hF
  refine wa_callV [.int (X.2.1.2.2 (i + 1))] dL_law_618 (mmX12_keeps _ _) mlL_84 mnX12_keeps mseX12_keeps rfl rfl rfl rfl (a_dlt d) rfl rfl hM9 ?_
  rintro r9 M2 P9 ⟨v2, rfl, rfl, hq9⟩
  replace hF := hF v2 M2 hq9
  simp only [Option.toList, List.cons_append, List.nil_append]
  obtain ⟨he9, hF⟩ := hF
  refine wa_icmp_eq (tgt := 1123) dL_law_621 rfl (fun hc => ?_) (fun hc => absurd he9 hc)
  exact hF
theorem bL_626 {X : a_X} {ad : Nat → Nat} {ca : Nat → ClassId} {d kc ks i x : Nat} {QF : List Frame → Array Value → State → State → Prop} {M : a_M} (hi : i + 5 < X.2.1.2.1) (hL : X.2.1.2.1 ≤ 3073) (hF : (∃ Q1 : Int32 → a_M → Prop, Mt X ad ca LY d yX11_size cX11_size 3 (some FieldType.int) [.ref 0, .int (X.2.1.2.2 (i + 1)), .int (X.2.1.2.2 (i + 2))] M (PT x) (q_i (PT x) Q1) ∧ ∀ v1 M1, Q1 v1 M1 → (∃ Q2 : Int32 → a_M → Prop, Mt X ad ca LY d yX12_size cX12_size 3 (some FieldType.int) [.ref 118, .int (X.2.1.2.2 (i + 1)), .int (X.2.1.2.2 (i + 2))] M1 (PT x) (q_i (PT x) Q2) ∧ ∀ v2 M2, Q2 v2 M2 → (v1 = v2 ∧ wL X ad ca d kc ks QF 1123 (nI i) M2 x)))) : wL X ad ca d kc ks QF 626 (nI i) M x := by
  refine wa_aload_n dL_law_626 1 rfl rfl ?_
  refine wa_aload_n dL_law_627 0 rfl rfl ?_
  refine wa_iload_n dL_law_628 3 rfl rfl ?_
  refine wa_iconst (v := 1) dL_law_629 rfl ?_
  refine wa_iadd dL_law_630 ?_
  refine wl_ld dL_law_631 (j := i + 1) (nI_k i 1) (by omega) hL ?_
  refine wa_aload_n dL_law_632 0 rfl rfl ?_
  refine wa_iload_n dL_law_633 3 rfl rfl ?_
  refine wa_iconst (v := 2) dL_law_634 rfl ?_
  refine wa_iadd dL_law_635 ?_
  refine wl_ld dL_law_636 (j := i + 2) (nI_k i 2) (by omega) hL ?_
  obtain ⟨Q1, hM9, hF⟩ := hF
  refine wa_callV [.int (X.2.1.2.2 (i + 1)), .int (X.2.1.2.2 (i + 2))] dL_law_637 (mmX11_size _ _) mlL_85 mnX11_size mseX11_size rfl rfl rfl rfl (a_dlt d) rfl rfl hM9 ?_
  rintro r9 M1 P9 ⟨v1, rfl, rfl, hq9⟩
  replace hF := hF v1 M1 hq9
  simp only [Option.toList, List.cons_append, List.nil_append]
  refine wa_aload_n dL_law_640 2 rfl rfl ?_
  refine wa_aload_n dL_law_641 0 rfl rfl ?_
  refine wa_iload_n dL_law_642 3 rfl rfl ?_
  refine wa_iconst (v := 1) dL_law_643 rfl ?_
  refine wa_iadd dL_law_644 ?_
  refine wl_ld dL_law_645 (j := i + 1) (nI_k i 1) (by omega) hL ?_
  refine wa_aload_n dL_law_646 0 rfl rfl ?_
  refine wa_iload_n dL_law_647 3 rfl rfl ?_
  refine wa_iconst (v := 2) dL_law_648 rfl ?_
  refine wa_iadd dL_law_649 ?_
  refine wl_ld dL_law_650 (j := i + 2) (nI_k i 2) (by omega) hL ?_
  obtain ⟨Q2, hM9, hF⟩ := hF
  refine wa_callV [.int (X.2.1.2.2 (i + 1)), .int (X.2.1.2.2 (i + 2))] dL_law_651 (mmX12_size _ _) mlL_88 mnX12_size mseX12_size rfl rfl rfl rfl (a_dlt d) rfl rfl hM9 ?_
  rintro r9 M2 P9 ⟨v2, rfl, rfl, hq9⟩
  replace hF := hF v2 M2 hq9
  simp only [Option.toList, List.cons_append, List.nil_append]
  obtain ⟨he9, hF⟩ := hF
  refine wa_icmp_eq (tgt := 1123) dL_law_654 rfl (fun hc => ?_) (fun hc => absurd he9 hc)
  exact hF
theorem bL_659 {X : a_X} {ad : Nat → Nat} {ca : Nat → ClassId} {d kc ks i x : Nat} {QF : List Frame → Array Value → State → State → Prop} {M : a_M} (hi : i + 5 < X.2.1.2.1) (hL : X.2.1.2.1 ≤ 3073) (hF : (∃ Q1 : Int32 → a_M → Prop, Mt X ad ca LY d yX11_trace cX11_trace 3 (some FieldType.int) [.ref 0, .int (X.2.1.2.2 (i + 1)), .int (X.2.1.2.2 (i + 2))] M (PT x) (q_i (PT x) Q1) ∧ ∀ v1 M1, Q1 v1 M1 → (∃ Q2 : Int32 → a_M → Prop, Mt X ad ca LY d yX12_trace cX12_trace 6 (some FieldType.int) [.ref 118, .int (X.2.1.2.2 (i + 1)), .int (X.2.1.2.2 (i + 2))] M1 (PT x) (q_i (PT x) Q2) ∧ ∀ v2 M2, Q2 v2 M2 → (v1 = v2 ∧ wL X ad ca d kc ks QF 1123 (nI i) M2 x)))) : wL X ad ca d kc ks QF 659 (nI i) M x := by
  refine wa_aload_n dL_law_659 1 rfl rfl ?_
  refine wa_aload_n dL_law_660 0 rfl rfl ?_
  refine wa_iload_n dL_law_661 3 rfl rfl ?_
  refine wa_iconst (v := 1) dL_law_662 rfl ?_
  refine wa_iadd dL_law_663 ?_
  refine wl_ld dL_law_664 (j := i + 1) (nI_k i 1) (by omega) hL ?_
  refine wa_aload_n dL_law_665 0 rfl rfl ?_
  refine wa_iload_n dL_law_666 3 rfl rfl ?_
  refine wa_iconst (v := 2) dL_law_667 rfl ?_
  refine wa_iadd dL_law_668 ?_
  refine wl_ld dL_law_669 (j := i + 2) (nI_k i 2) (by omega) hL ?_
  obtain ⟨Q1, hM9, hF⟩ := hF
  refine wa_callV [.int (X.2.1.2.2 (i + 1)), .int (X.2.1.2.2 (i + 2))] dL_law_670 (mmX11_trace _ _) mlL_89 mnX11_trace mseX11_trace rfl rfl rfl rfl (a_dlt d) rfl rfl hM9 ?_
  rintro r9 M1 P9 ⟨v1, rfl, rfl, hq9⟩
  replace hF := hF v1 M1 hq9
  simp only [Option.toList, List.cons_append, List.nil_append]
  refine wa_aload_n dL_law_673 2 rfl rfl ?_
  refine wa_aload_n dL_law_674 0 rfl rfl ?_
  refine wa_iload_n dL_law_675 3 rfl rfl ?_
  refine wa_iconst (v := 1) dL_law_676 rfl ?_
  refine wa_iadd dL_law_677 ?_
  refine wl_ld dL_law_678 (j := i + 1) (nI_k i 1) (by omega) hL ?_
  refine wa_aload_n dL_law_679 0 rfl rfl ?_
  refine wa_iload_n dL_law_680 3 rfl rfl ?_
  refine wa_iconst (v := 2) dL_law_681 rfl ?_
  refine wa_iadd dL_law_682 ?_
  refine wl_ld dL_law_683 (j := i + 2) (nI_k i 2) (by omega) hL ?_
  obtain ⟨Q2, hM9, hF⟩ := hF
  refine wa_callV [.int (X.2.1.2.2 (i + 1)), .int (X.2.1.2.2 (i + 2))] dL_law_684 (mmX12_trace _ _) mlL_92 mnX12_trace mseX12_trace rfl rfl rfl rfl (a_dlt d) rfl rfl hM9 ?_
  rintro r9 M2 P9 ⟨v2, rfl, rfl, hq9⟩
  replace hF := hF v2 M2 hq9
  simp only [Option.toList, List.cons_append, List.nil_append]
  obtain ⟨he9, hF⟩ := hF
  refine wa_icmp_eq (tgt := 1123) dL_law_687 rfl (fun hc => ?_) (fun hc => absurd he9 hc)
  exact hF
theorem bL_692 {X : a_X} {ad : Nat → Nat} {ca : Nat → ClassId} {d kc ks i x : Nat} {QF : List Frame → Array Value → State → State → Prop} {M : a_M} (hi : i + 5 < X.2.1.2.1) (hL : X.2.1.2.1 ≤ 3073) (hF : (∃ Q1 : Int32 → a_M → Prop, Mt X ad ca LY d yX11_poly cX11_poly 4 (some FieldType.int) [.ref 0, .int (X.2.1.2.2 (i + 1)), .int (X.2.1.2.2 (i + 2)), .int (X.2.1.2.2 (i + 3))] M (PT x) (q_i (PT x) Q1) ∧ ∀ v1 M1, Q1 v1 M1 → (∃ Q2 : Int32 → a_M → Prop, Mt X ad ca LY d yX12_poly cX12_poly 4 (some FieldType.int) [.ref 118, .int (X.2.1.2.2 (i + 1)), .int (X.2.1.2.2 (i + 2)), .int (X.2.1.2.2 (i + 3))] M1 (PT x) (q_i (PT x) Q2) ∧ ∀ v2 M2, Q2 v2 M2 → (v1 = v2 ∧ wL X ad ca d kc ks QF 1123 (nI i) M2 x)))) : wL X ad ca d kc ks QF 692 (nI i) M x := by
  refine wa_aload_n dL_law_692 1 rfl rfl ?_
  refine wa_aload_n dL_law_693 0 rfl rfl ?_
  refine wa_iload_n dL_law_694 3 rfl rfl ?_
  refine wa_iconst (v := 1) dL_law_695 rfl ?_
  refine wa_iadd dL_law_696 ?_
  refine wl_ld dL_law_697 (j := i + 1) (nI_k i 1) (by omega) hL ?_
  refine wa_aload_n dL_law_698 0 rfl rfl ?_
  refine wa_iload_n dL_law_699 3 rfl rfl ?_
  refine wa_iconst (v := 2) dL_law_700 rfl ?_
  refine wa_iadd dL_law_701 ?_
  refine wl_ld dL_law_702 (j := i + 2) (nI_k i 2) (by omega) hL ?_
  refine wa_aload_n dL_law_703 0 rfl rfl ?_
  refine wa_iload_n dL_law_704 3 rfl rfl ?_
  refine wa_iconst (v := 3) dL_law_705 rfl ?_
  refine wa_iadd dL_law_706 ?_
  refine wl_ld dL_law_707 (j := i + 3) (nI_k i 3) (by omega) hL ?_
  obtain ⟨Q1, hM9, hF⟩ := hF
  refine wa_callV [.int (X.2.1.2.2 (i + 1)), .int (X.2.1.2.2 (i + 2)), .int (X.2.1.2.2 (i + 3))] dL_law_708 (mmX11_poly _ _) mlL_93 mnX11_poly mseX11_poly rfl rfl rfl rfl (a_dlt d) rfl rfl hM9 ?_
  rintro r9 M1 P9 ⟨v1, rfl, rfl, hq9⟩
  replace hF := hF v1 M1 hq9
  simp only [Option.toList, List.cons_append, List.nil_append]
  refine wa_aload_n dL_law_711 2 rfl rfl ?_
  refine wa_aload_n dL_law_712 0 rfl rfl ?_
  refine wa_iload_n dL_law_713 3 rfl rfl ?_
  refine wa_iconst (v := 1) dL_law_714 rfl ?_
  refine wa_iadd dL_law_715 ?_
  refine wl_ld dL_law_716 (j := i + 1) (nI_k i 1) (by omega) hL ?_
  refine wa_aload_n dL_law_717 0 rfl rfl ?_
  refine wa_iload_n dL_law_718 3 rfl rfl ?_
  refine wa_iconst (v := 2) dL_law_719 rfl ?_
  refine wa_iadd dL_law_720 ?_
  refine wl_ld dL_law_721 (j := i + 2) (nI_k i 2) (by omega) hL ?_
  refine wa_aload_n dL_law_722 0 rfl rfl ?_
  refine wa_iload_n dL_law_723 3 rfl rfl ?_
  refine wa_iconst (v := 3) dL_law_724 rfl ?_
  refine wa_iadd dL_law_725 ?_
  refine wl_ld dL_law_726 (j := i + 3) (nI_k i 3) (by omega) hL ?_
  obtain ⟨Q2, hM9, hF⟩ := hF
  refine wa_callV [.int (X.2.1.2.2 (i + 1)), .int (X.2.1.2.2 (i + 2)), .int (X.2.1.2.2 (i + 3))] dL_law_727 (mmX12_poly _ _) mlL_96 mnX12_poly mseX12_poly rfl rfl rfl rfl (a_dlt d) rfl rfl hM9 ?_
  rintro r9 M2 P9 ⟨v2, rfl, rfl, hq9⟩
  replace hF := hF v2 M2 hq9
  simp only [Option.toList, List.cons_append, List.nil_append]
  obtain ⟨he9, hF⟩ := hF
  refine wa_icmp_eq (tgt := 1123) dL_law_730 rfl (fun hc => ?_) (fun hc => absurd he9 hc)
  exact hF
theorem bL_735 {X : a_X} {ad : Nat → Nat} {ca : Nat → ClassId} {d kc ks i x : Nat} {QF : List Frame → Array Value → State → State → Prop} {M : a_M} (hi : i + 5 < X.2.1.2.1) (hL : X.2.1.2.1 ≤ 3073) (hF : (∃ Q1 : Int32 → a_M → Prop, Mt X ad ca LY d yX11_own cX11_own 3 (some FieldType.int) [.ref 0, .int (X.2.1.2.2 (i + 1)), .int (X.2.1.2.2 (i + 2))] M (PT x) (q_i (PT x) Q1) ∧ ∀ v1 M1, Q1 v1 M1 → (∃ Q2 : Int32 → a_M → Prop, Mt X ad ca LY d yX12_own cX12_own 5 (some FieldType.int) [.ref 118, .int (X.2.1.2.2 (i + 1)), .int (X.2.1.2.2 (i + 2))] M1 (PT x) (q_i (PT x) Q2) ∧ ∀ v2 M2, Q2 v2 M2 → (v1 = v2 ∧ wL X ad ca d kc ks QF 1123 (nI i) M2 x)))) : wL X ad ca d kc ks QF 735 (nI i) M x := by
  refine wa_aload_n dL_law_735 1 rfl rfl ?_
  refine wa_aload_n dL_law_736 0 rfl rfl ?_
  refine wa_iload_n dL_law_737 3 rfl rfl ?_
  refine wa_iconst (v := 1) dL_law_738 rfl ?_
  refine wa_iadd dL_law_739 ?_
  refine wl_ld dL_law_740 (j := i + 1) (nI_k i 1) (by omega) hL ?_
  refine wa_aload_n dL_law_741 0 rfl rfl ?_
  refine wa_iload_n dL_law_742 3 rfl rfl ?_
  refine wa_iconst (v := 2) dL_law_743 rfl ?_
  refine wa_iadd dL_law_744 ?_
  refine wl_ld dL_law_745 (j := i + 2) (nI_k i 2) (by omega) hL ?_
  obtain ⟨Q1, hM9, hF⟩ := hF
  refine wa_callV [.int (X.2.1.2.2 (i + 1)), .int (X.2.1.2.2 (i + 2))] dL_law_746 (mmX11_own _ _) mlL_97 mnX11_own mseX11_own rfl rfl rfl rfl (a_dlt d) rfl rfl hM9 ?_
  rintro r9 M1 P9 ⟨v1, rfl, rfl, hq9⟩
  replace hF := hF v1 M1 hq9
  simp only [Option.toList, List.cons_append, List.nil_append]
  refine wa_aload_n dL_law_749 2 rfl rfl ?_
  refine wa_aload_n dL_law_750 0 rfl rfl ?_
  refine wa_iload_n dL_law_751 3 rfl rfl ?_
  refine wa_iconst (v := 1) dL_law_752 rfl ?_
  refine wa_iadd dL_law_753 ?_
  refine wl_ld dL_law_754 (j := i + 1) (nI_k i 1) (by omega) hL ?_
  refine wa_aload_n dL_law_755 0 rfl rfl ?_
  refine wa_iload_n dL_law_756 3 rfl rfl ?_
  refine wa_iconst (v := 2) dL_law_757 rfl ?_
  refine wa_iadd dL_law_758 ?_
  refine wl_ld dL_law_759 (j := i + 2) (nI_k i 2) (by omega) hL ?_
  obtain ⟨Q2, hM9, hF⟩ := hF
  refine wa_callV [.int (X.2.1.2.2 (i + 1)), .int (X.2.1.2.2 (i + 2))] dL_law_760 (mmX12_own _ _) mlL_100 mnX12_own mseX12_own rfl rfl rfl rfl (a_dlt d) rfl rfl hM9 ?_
  rintro r9 M2 P9 ⟨v2, rfl, rfl, hq9⟩
  replace hF := hF v2 M2 hq9
  simp only [Option.toList, List.cons_append, List.nil_append]
  obtain ⟨he9, hF⟩ := hF
  refine wa_icmp_eq (tgt := 1123) dL_law_763 rfl (fun hc => ?_) (fun hc => absurd he9 hc)
  exact hF
theorem bL_768 {X : a_X} {ad : Nat → Nat} {ca : Nat → ClassId} {d kc ks i x : Nat} {QF : List Frame → Array Value → State → State → Prop} {M : a_M} (hi : i + 5 < X.2.1.2.1) (hL : X.2.1.2.1 ≤ 3073) (hF : (∃ Q1 : Int32 → a_M → Prop, Mt X ad ca LY d yX11_often cX11_often 3 (some FieldType.int) [.ref 0, .int (X.2.1.2.2 (i + 1)), .int (X.2.1.2.2 (i + 2))] M (PT x) (q_i (PT x) Q1) ∧ ∀ v1 M1, Q1 v1 M1 → (∃ Q2 : Int32 → a_M → Prop, Mt X ad ca LY d yX12_often cX12_often 3 (some FieldType.int) [.ref 118, .int (X.2.1.2.2 (i + 1)), .int (X.2.1.2.2 (i + 2))] M1 (PT x) (q_i (PT x) Q2) ∧ ∀ v2 M2, Q2 v2 M2 → (v1 = v2 ∧ wL X ad ca d kc ks QF 1123 (nI i) M2 x)))) : wL X ad ca d kc ks QF 768 (nI i) M x := by
  refine wa_aload_n dL_law_768 1 rfl rfl ?_
  refine wa_aload_n dL_law_769 0 rfl rfl ?_
  refine wa_iload_n dL_law_770 3 rfl rfl ?_
  refine wa_iconst (v := 1) dL_law_771 rfl ?_
  refine wa_iadd dL_law_772 ?_
  refine wl_ld dL_law_773 (j := i + 1) (nI_k i 1) (by omega) hL ?_
  refine wa_aload_n dL_law_774 0 rfl rfl ?_
  refine wa_iload_n dL_law_775 3 rfl rfl ?_
  refine wa_iconst (v := 2) dL_law_776 rfl ?_
  refine wa_iadd dL_law_777 ?_
  refine wl_ld dL_law_778 (j := i + 2) (nI_k i 2) (by omega) hL ?_
  obtain ⟨Q1, hM9, hF⟩ := hF
  refine wa_callV [.int (X.2.1.2.2 (i + 1)), .int (X.2.1.2.2 (i + 2))] dL_law_779 (mmX11_often _ _) mlL_101 mnX11_often mseX11_often rfl rfl rfl rfl (a_dlt d) rfl rfl hM9 ?_
  rintro r9 M1 P9 ⟨v1, rfl, rfl, hq9⟩
  replace hF := hF v1 M1 hq9
  simp only [Option.toList, List.cons_append, List.nil_append]
  refine wa_aload_n dL_law_782 2 rfl rfl ?_
  refine wa_aload_n dL_law_783 0 rfl rfl ?_
  refine wa_iload_n dL_law_784 3 rfl rfl ?_
  refine wa_iconst (v := 1) dL_law_785 rfl ?_
  refine wa_iadd dL_law_786 ?_
  refine wl_ld dL_law_787 (j := i + 1) (nI_k i 1) (by omega) hL ?_
  refine wa_aload_n dL_law_788 0 rfl rfl ?_
  refine wa_iload_n dL_law_789 3 rfl rfl ?_
  refine wa_iconst (v := 2) dL_law_790 rfl ?_
  refine wa_iadd dL_law_791 ?_
  refine wl_ld dL_law_792 (j := i + 2) (nI_k i 2) (by omega) hL ?_
  obtain ⟨Q2, hM9, hF⟩ := hF
  refine wa_callV [.int (X.2.1.2.2 (i + 1)), .int (X.2.1.2.2 (i + 2))] dL_law_793 (mmX12_often _ _) mlL_104 mnX12_often mseX12_often rfl rfl rfl rfl (a_dlt d) rfl rfl hM9 ?_
  rintro r9 M2 P9 ⟨v2, rfl, rfl, hq9⟩
  replace hF := hF v2 M2 hq9
  simp only [Option.toList, List.cons_append, List.nil_append]
  obtain ⟨he9, hF⟩ := hF
  refine wa_icmp_eq (tgt := 1123) dL_law_796 rfl (fun hc => ?_) (fun hc => absurd he9 hc)
  exact hF
theorem bL_801 {X : a_X} {ad : Nat → Nat} {ca : Nat → ClassId} {d kc ks i x : Nat} {QF : List Frame → Array Value → State → State → Prop} {M : a_M} (hi : i + 5 < X.2.1.2.1) (hL : X.2.1.2.1 ≤ 3073) (hF : (∃ Q1 : Int32 → a_M → Prop, Mt X ad ca LY d yX11_root cX11_root 1 (some FieldType.int) [.ref 0] M (PT x) (q_i (PT x) Q1) ∧ ∀ v1 M1, Q1 v1 M1 → (∃ Q2 : Int32 → a_M → Prop, Mt X ad ca LY d yX12_root cX12_root 1 (some FieldType.int) [.ref 118] M1 (PT x) (q_i (PT x) Q2) ∧ ∀ v2 M2, Q2 v2 M2 → (v1 = v2 ∧ wL X ad ca d kc ks QF 1123 (nI i) M2 x)))) : wL X ad ca d kc ks QF 801 (nI i) M x := by
  refine wa_aload_n dL_law_801 1 rfl rfl ?_
  obtain ⟨Q1, hM9, hF⟩ := hF
  refine wa_callV [] dL_law_802 (mmX11_root _ _) mlL_105 mnX11_root mseX11_root rfl rfl rfl rfl (a_dlt d) rfl rfl hM9 ?_
  rintro r9 M1 P9 ⟨v1, rfl, rfl, hq9⟩
  replace hF := hF v1 M1 hq9
  simp only [Option.toList, List.cons_append, List.nil_append]
  refine wa_aload_n dL_law_805 2 rfl rfl ?_
  obtain ⟨Q2, hM9, hF⟩ := hF
  refine wa_callV [] dL_law_806 (mmX12_root _ _) mlL_108 mnX12_root mseX12_root rfl rfl rfl rfl (a_dlt d) rfl rfl hM9 ?_
  rintro r9 M2 P9 ⟨v2, rfl, rfl, hq9⟩
  replace hF := hF v2 M2 hq9
  simp only [Option.toList, List.cons_append, List.nil_append]
  obtain ⟨he9, hF⟩ := hF
  refine wa_icmp_eq (tgt := 1123) dL_law_809 rfl (fun hc => ?_) (fun hc => absurd he9 hc)
  exact hF
theorem bL_814 {X : a_X} {ad : Nat → Nat} {ca : Nat → ClassId} {d kc ks i x : Nat} {QF : List Frame → Array Value → State → State → Prop} {M : a_M} (hi : i + 5 < X.2.1.2.1) (hL : X.2.1.2.1 ≤ 3073) (hF : (∃ Q1 : Int32 → a_M → Prop, Mt X ad ca LY d yX11_mean cX11_mean 6 (some FieldType.int) [.ref 0, .int (X.2.1.2.2 (i + 1)), .int (X.2.1.2.2 (i + 2))] M (PT x) (q_i (PT x) Q1) ∧ ∀ v1 M1, Q1 v1 M1 → (∃ Q2 : Int32 → a_M → Prop, Mt X ad ca LY d yX12_mean cX12_mean 6 (some FieldType.int) [.ref 118, .int (X.2.1.2.2 (i + 1)), .int (X.2.1.2.2 (i + 2))] M1 (PT x) (q_i (PT x) Q2) ∧ ∀ v2 M2, Q2 v2 M2 → (v1 = v2 ∧ wL X ad ca d kc ks QF 1123 (nI i) M2 x)))) : wL X ad ca d kc ks QF 814 (nI i) M x := by
  refine wa_aload_n dL_law_814 1 rfl rfl ?_
  refine wa_aload_n dL_law_815 0 rfl rfl ?_
  refine wa_iload_n dL_law_816 3 rfl rfl ?_
  refine wa_iconst (v := 1) dL_law_817 rfl ?_
  refine wa_iadd dL_law_818 ?_
  refine wl_ld dL_law_819 (j := i + 1) (nI_k i 1) (by omega) hL ?_
  refine wa_aload_n dL_law_820 0 rfl rfl ?_
  refine wa_iload_n dL_law_821 3 rfl rfl ?_
  refine wa_iconst (v := 2) dL_law_822 rfl ?_
  refine wa_iadd dL_law_823 ?_
  refine wl_ld dL_law_824 (j := i + 2) (nI_k i 2) (by omega) hL ?_
  obtain ⟨Q1, hM9, hF⟩ := hF
  refine wa_callV [.int (X.2.1.2.2 (i + 1)), .int (X.2.1.2.2 (i + 2))] dL_law_825 (mmX11_mean _ _) mlL_109 mnX11_mean mseX11_mean rfl rfl rfl rfl (a_dlt d) rfl rfl hM9 ?_
  rintro r9 M1 P9 ⟨v1, rfl, rfl, hq9⟩
  replace hF := hF v1 M1 hq9
  simp only [Option.toList, List.cons_append, List.nil_append]
  refine wa_aload_n dL_law_828 2 rfl rfl ?_
  refine wa_aload_n dL_law_829 0 rfl rfl ?_
  refine wa_iload_n dL_law_830 3 rfl rfl ?_
  refine wa_iconst (v := 1) dL_law_831 rfl ?_
  refine wa_iadd dL_law_832 ?_
  refine wl_ld dL_law_833 (j := i + 1) (nI_k i 1) (by omega) hL ?_
  refine wa_aload_n dL_law_834 0 rfl rfl ?_
  refine wa_iload_n dL_law_835 3 rfl rfl ?_
  refine wa_iconst (v := 2) dL_law_836 rfl ?_
  refine wa_iadd dL_law_837 ?_
  refine wl_ld dL_law_838 (j := i + 2) (nI_k i 2) (by omega) hL ?_
  obtain ⟨Q2, hM9, hF⟩ := hF
  refine wa_callV [.int (X.2.1.2.2 (i + 1)), .int (X.2.1.2.2 (i + 2))] dL_law_839 (mmX12_mean _ _) mlL_112 mnX12_mean mseX12_mean rfl rfl rfl rfl (a_dlt d) rfl rfl hM9 ?_
  rintro r9 M2 P9 ⟨v2, rfl, rfl, hq9⟩
  replace hF := hF v2 M2 hq9
  simp only [Option.toList, List.cons_append, List.nil_append]
  obtain ⟨he9, hF⟩ := hF
  refine wa_icmp_eq (tgt := 1123) dL_law_842 rfl (fun hc => ?_) (fun hc => absurd he9 hc)
  exact hF
theorem bL_847 {X : a_X} {ad : Nat → Nat} {ca : Nat → ClassId} {d kc ks i x : Nat} {QF : List Frame → Array Value → State → State → Prop} {M : a_M} (hi : i + 5 < X.2.1.2.1) (hL : X.2.1.2.1 ≤ 3073) (hF : (∃ Q1 : Int32 → a_M → Prop, Mt X ad ca LY d yX11_pair cX11_pair 5 (some FieldType.int) [.ref 0, .int (X.2.1.2.2 (i + 1)), .int (X.2.1.2.2 (i + 2)), .int (X.2.1.2.2 (i + 3))] M (PT x) (q_i (PT x) Q1) ∧ ∀ v1 M1, Q1 v1 M1 → (∃ Q2 : Int32 → a_M → Prop, Mt X ad ca LY d yX12_pair cX12_pair 6 (some FieldType.int) [.ref 118, .int (X.2.1.2.2 (i + 1)), .int (X.2.1.2.2 (i + 2)), .int (X.2.1.2.2 (i + 3))] M1 (PT x) (q_i (PT x) Q2) ∧ ∀ v2 M2, Q2 v2 M2 → (v1 = v2 ∧ wL X ad ca d kc ks QF 1123 (nI i) M2 x)))) : wL X ad ca d kc ks QF 847 (nI i) M x := by
  refine wa_aload_n dL_law_847 1 rfl rfl ?_
  refine wa_aload_n dL_law_848 0 rfl rfl ?_
  refine wa_iload_n dL_law_849 3 rfl rfl ?_
  refine wa_iconst (v := 1) dL_law_850 rfl ?_
  refine wa_iadd dL_law_851 ?_
  refine wl_ld dL_law_852 (j := i + 1) (nI_k i 1) (by omega) hL ?_
  refine wa_aload_n dL_law_853 0 rfl rfl ?_
  refine wa_iload_n dL_law_854 3 rfl rfl ?_
  refine wa_iconst (v := 2) dL_law_855 rfl ?_
  refine wa_iadd dL_law_856 ?_
  refine wl_ld dL_law_857 (j := i + 2) (nI_k i 2) (by omega) hL ?_
  refine wa_aload_n dL_law_858 0 rfl rfl ?_
  refine wa_iload_n dL_law_859 3 rfl rfl ?_
  refine wa_iconst (v := 3) dL_law_860 rfl ?_
  refine wa_iadd dL_law_861 ?_
  refine wl_ld dL_law_862 (j := i + 3) (nI_k i 3) (by omega) hL ?_
  obtain ⟨Q1, hM9, hF⟩ := hF
  refine wa_callV [.int (X.2.1.2.2 (i + 1)), .int (X.2.1.2.2 (i + 2)), .int (X.2.1.2.2 (i + 3))] dL_law_863 (mmX11_pair _ _) mlL_113 mnX11_pair mseX11_pair rfl rfl rfl rfl (a_dlt d) rfl rfl hM9 ?_
  rintro r9 M1 P9 ⟨v1, rfl, rfl, hq9⟩
  replace hF := hF v1 M1 hq9
  simp only [Option.toList, List.cons_append, List.nil_append]
  refine wa_aload_n dL_law_866 2 rfl rfl ?_
  refine wa_aload_n dL_law_867 0 rfl rfl ?_
  refine wa_iload_n dL_law_868 3 rfl rfl ?_
  refine wa_iconst (v := 1) dL_law_869 rfl ?_
  refine wa_iadd dL_law_870 ?_
  refine wl_ld dL_law_871 (j := i + 1) (nI_k i 1) (by omega) hL ?_
  refine wa_aload_n dL_law_872 0 rfl rfl ?_
  refine wa_iload_n dL_law_873 3 rfl rfl ?_
  refine wa_iconst (v := 2) dL_law_874 rfl ?_
  refine wa_iadd dL_law_875 ?_
  refine wl_ld dL_law_876 (j := i + 2) (nI_k i 2) (by omega) hL ?_
  refine wa_aload_n dL_law_877 0 rfl rfl ?_
  refine wa_iload_n dL_law_878 3 rfl rfl ?_
  refine wa_iconst (v := 3) dL_law_879 rfl ?_
  refine wa_iadd dL_law_880 ?_
  refine wl_ld dL_law_881 (j := i + 3) (nI_k i 3) (by omega) hL ?_
  obtain ⟨Q2, hM9, hF⟩ := hF
  refine wa_callV [.int (X.2.1.2.2 (i + 1)), .int (X.2.1.2.2 (i + 2)), .int (X.2.1.2.2 (i + 3))] dL_law_882 (mmX12_pair _ _) mlL_116 mnX12_pair mseX12_pair rfl rfl rfl rfl (a_dlt d) rfl rfl hM9 ?_
  rintro r9 M2 P9 ⟨v2, rfl, rfl, hq9⟩
  replace hF := hF v2 M2 hq9
  simp only [Option.toList, List.cons_append, List.nil_append]
  obtain ⟨he9, hF⟩ := hF
  refine wa_icmp_eq (tgt := 1123) dL_law_885 rfl (fun hc => ?_) (fun hc => absurd he9 hc)
  exact hF
theorem bL_890 {X : a_X} {ad : Nat → Nat} {ca : Nat → ClassId} {d kc ks i x : Nat} {QF : List Frame → Array Value → State → State → Prop} {M : a_M} (hi : i + 5 < X.2.1.2.1) (hL : X.2.1.2.1 ≤ 3073) (hF : (∃ Q1 : Int32 → a_M → Prop, Mt X ad ca LY d yX11_set cX11_set 2 (some FieldType.boolean) [.ref 0, .int (X.2.1.2.2 (i + 1))] M (PT x) (q_i (PT x) Q1) ∧ ∀ v1 M1, Q1 v1 M1 → (∃ Q2 : Int32 → a_M → Prop, Mt X ad ca LY d yX12_set cX12_set 3 (some FieldType.boolean) [.ref 118, .int (X.2.1.2.2 (i + 1))] M1 (PT x) (q_i (PT x) Q2) ∧ ∀ v2 M2, Q2 v2 M2 → (v1 = v2 ∧ wL X ad ca d kc ks QF 1123 (nI i) M2 x)))) : wL X ad ca d kc ks QF 890 (nI i) M x := by
  refine wa_aload_n dL_law_890 1 rfl rfl ?_
  refine wa_aload_n dL_law_891 0 rfl rfl ?_
  refine wa_iload_n dL_law_892 3 rfl rfl ?_
  refine wa_iconst (v := 1) dL_law_893 rfl ?_
  refine wa_iadd dL_law_894 ?_
  refine wl_ld dL_law_895 (j := i + 1) (nI_k i 1) (by omega) hL ?_
  obtain ⟨Q1, hM9, hF⟩ := hF
  refine wa_callV [.int (X.2.1.2.2 (i + 1))] dL_law_896 (mmX11_set _ _) mlL_117 mnX11_set mseX11_set rfl rfl rfl rfl (a_dlt d) rfl rfl hM9 ?_
  rintro r9 M1 P9 ⟨v1, rfl, rfl, hq9⟩
  replace hF := hF v1 M1 hq9
  simp only [Option.toList, List.cons_append, List.nil_append]
  refine wa_aload_n dL_law_899 2 rfl rfl ?_
  refine wa_aload_n dL_law_900 0 rfl rfl ?_
  refine wa_iload_n dL_law_901 3 rfl rfl ?_
  refine wa_iconst (v := 1) dL_law_902 rfl ?_
  refine wa_iadd dL_law_903 ?_
  refine wl_ld dL_law_904 (j := i + 1) (nI_k i 1) (by omega) hL ?_
  obtain ⟨Q2, hM9, hF⟩ := hF
  refine wa_callV [.int (X.2.1.2.2 (i + 1))] dL_law_905 (mmX12_set _ _) mlL_120 mnX12_set mseX12_set rfl rfl rfl rfl (a_dlt d) rfl rfl hM9 ?_
  rintro r9 M2 P9 ⟨v2, rfl, rfl, hq9⟩
  replace hF := hF v2 M2 hq9
  simp only [Option.toList, List.cons_append, List.nil_append]
  obtain ⟨he9, hF⟩ := hF
  refine wa_icmp_eq (tgt := 1123) dL_law_908 rfl (fun hc => ?_) (fun hc => absurd he9 hc)
  exact hF
theorem bL_913 {X : a_X} {ad : Nat → Nat} {ca : Nat → ClassId} {d kc ks i x : Nat} {QF : List Frame → Array Value → State → State → Prop} {M : a_M} (hi : i + 5 < X.2.1.2.1) (hL : X.2.1.2.1 ≤ 3073) (hF : (∃ Q1 : Int32 → a_M → Prop, Mt X ad ca LY d yX11_act cX11_act 3 (some FieldType.boolean) [.ref 0, .int (X.2.1.2.2 (i + 1)), .int (X.2.1.2.2 (i + 2))] M (PT x) (q_i (PT x) Q1) ∧ ∀ v1 M1, Q1 v1 M1 → (∃ Q2 : Int32 → a_M → Prop, Mt X ad ca LY d yX12_act cX12_act 3 (some FieldType.boolean) [.ref 118, .int (X.2.1.2.2 (i + 1)), .int (X.2.1.2.2 (i + 2))] M1 (PT x) (q_i (PT x) Q2) ∧ ∀ v2 M2, Q2 v2 M2 → (v1 = v2 ∧ wL X ad ca d kc ks QF 1123 (nI i) M2 x)))) : wL X ad ca d kc ks QF 913 (nI i) M x := by
  refine wa_aload_n dL_law_913 1 rfl rfl ?_
  refine wa_aload_n dL_law_914 0 rfl rfl ?_
  refine wa_iload_n dL_law_915 3 rfl rfl ?_
  refine wa_iconst (v := 1) dL_law_916 rfl ?_
  refine wa_iadd dL_law_917 ?_
  refine wl_ld dL_law_918 (j := i + 1) (nI_k i 1) (by omega) hL ?_
  refine wa_aload_n dL_law_919 0 rfl rfl ?_
  refine wa_iload_n dL_law_920 3 rfl rfl ?_
  refine wa_iconst (v := 2) dL_law_921 rfl ?_
  refine wa_iadd dL_law_922 ?_
  refine wl_ld dL_law_923 (j := i + 2) (nI_k i 2) (by omega) hL ?_
  obtain ⟨Q1, hM9, hF⟩ := hF
  refine wa_callV [.int (X.2.1.2.2 (i + 1)), .int (X.2.1.2.2 (i + 2))] dL_law_924 (mmX11_act _ _) mlL_121 mnX11_act mseX11_act rfl rfl rfl rfl (a_dlt d) rfl rfl hM9 ?_
  rintro r9 M1 P9 ⟨v1, rfl, rfl, hq9⟩
  replace hF := hF v1 M1 hq9
  simp only [Option.toList, List.cons_append, List.nil_append]
  refine wa_aload_n dL_law_927 2 rfl rfl ?_
  refine wa_aload_n dL_law_928 0 rfl rfl ?_
  refine wa_iload_n dL_law_929 3 rfl rfl ?_
  refine wa_iconst (v := 1) dL_law_930 rfl ?_
  refine wa_iadd dL_law_931 ?_
  refine wl_ld dL_law_932 (j := i + 1) (nI_k i 1) (by omega) hL ?_
  refine wa_aload_n dL_law_933 0 rfl rfl ?_
  refine wa_iload_n dL_law_934 3 rfl rfl ?_
  refine wa_iconst (v := 2) dL_law_935 rfl ?_
  refine wa_iadd dL_law_936 ?_
  refine wl_ld dL_law_937 (j := i + 2) (nI_k i 2) (by omega) hL ?_
  obtain ⟨Q2, hM9, hF⟩ := hF
  refine wa_callV [.int (X.2.1.2.2 (i + 1)), .int (X.2.1.2.2 (i + 2))] dL_law_938 (mmX12_act _ _) mlL_124 mnX12_act mseX12_act rfl rfl rfl rfl (a_dlt d) rfl rfl hM9 ?_
  rintro r9 M2 P9 ⟨v2, rfl, rfl, hq9⟩
  replace hF := hF v2 M2 hq9
  simp only [Option.toList, List.cons_append, List.nil_append]
  obtain ⟨he9, hF⟩ := hF
  refine wa_icmp_eq (tgt := 1123) dL_law_941 rfl (fun hc => ?_) (fun hc => absurd he9 hc)
  exact hF
theorem bL_946 {X : a_X} {ad : Nat → Nat} {ca : Nat → ClassId} {d kc ks i x : Nat} {QF : List Frame → Array Value → State → State → Prop} {M : a_M} (hi : i + 5 < X.2.1.2.1) (hL : X.2.1.2.1 ≤ 3073) (hF : (∃ Q1 : Int32 → a_M → Prop, Mt X ad ca LY d yX11_played cX11_played 5 (some FieldType.int) [.ref 0, .int (X.2.1.2.2 (i + 1))] M (PT x) (q_i (PT x) Q1) ∧ ∀ v1 M1, Q1 v1 M1 → (∃ Q2 : Int32 → a_M → Prop, Mt X ad ca LY d yX12_played cX12_played 5 (some FieldType.int) [.ref 118, .int (X.2.1.2.2 (i + 1))] M1 (PT x) (q_i (PT x) Q2) ∧ ∀ v2 M2, Q2 v2 M2 → (v1 = v2 ∧ wL X ad ca d kc ks QF 1123 (nI i) M2 x)))) : wL X ad ca d kc ks QF 946 (nI i) M x := by
  refine wa_aload_n dL_law_946 1 rfl rfl ?_
  refine wa_aload_n dL_law_947 0 rfl rfl ?_
  refine wa_iload_n dL_law_948 3 rfl rfl ?_
  refine wa_iconst (v := 1) dL_law_949 rfl ?_
  refine wa_iadd dL_law_950 ?_
  refine wl_ld dL_law_951 (j := i + 1) (nI_k i 1) (by omega) hL ?_
  obtain ⟨Q1, hM9, hF⟩ := hF
  refine wa_callV [.int (X.2.1.2.2 (i + 1))] dL_law_952 (mmX11_played _ _) mlL_125 mnX11_played mseX11_played rfl rfl rfl rfl (a_dlt d) rfl rfl hM9 ?_
  rintro r9 M1 P9 ⟨v1, rfl, rfl, hq9⟩
  replace hF := hF v1 M1 hq9
  simp only [Option.toList, List.cons_append, List.nil_append]
  refine wa_aload_n dL_law_955 2 rfl rfl ?_
  refine wa_aload_n dL_law_956 0 rfl rfl ?_
  refine wa_iload_n dL_law_957 3 rfl rfl ?_
  refine wa_iconst (v := 1) dL_law_958 rfl ?_
  refine wa_iadd dL_law_959 ?_
  refine wl_ld dL_law_960 (j := i + 1) (nI_k i 1) (by omega) hL ?_
  obtain ⟨Q2, hM9, hF⟩ := hF
  refine wa_callV [.int (X.2.1.2.2 (i + 1))] dL_law_961 (mmX12_played _ _) mlL_128 mnX12_played mseX12_played rfl rfl rfl rfl (a_dlt d) rfl rfl hM9 ?_
  rintro r9 M2 P9 ⟨v2, rfl, rfl, hq9⟩
  replace hF := hF v2 M2 hq9
  simp only [Option.toList, List.cons_append, List.nil_append]
  obtain ⟨he9, hF⟩ := hF
  refine wa_icmp_eq (tgt := 1123) dL_law_964 rfl (fun hc => ?_) (fun hc => absurd he9 hc)
  exact hF
theorem bL_969 {X : a_X} {ad : Nat → Nat} {ca : Nat → ClassId} {d kc ks i x : Nat} {QF : List Frame → Array Value → State → State → Prop} {M : a_M} (hi : i + 5 < X.2.1.2.1) (hL : X.2.1.2.1 ≤ 3073) (hF : (∃ Q1 : Int32 → a_M → Prop, Mt X ad ca LY d yX11_undo cX11_undo 2 (some FieldType.int) [.ref 0] M (PT x) (q_i (PT x) Q1) ∧ ∀ v1 M1, Q1 v1 M1 → (∃ Q2 : Int32 → a_M → Prop, Mt X ad ca LY d yX12_undo cX12_undo 1 (some FieldType.int) [.ref 118] M1 (PT x) (q_i (PT x) Q2) ∧ ∀ v2 M2, Q2 v2 M2 → (v1 = v2 ∧ wL X ad ca d kc ks QF 1123 (nI i) M2 x)))) : wL X ad ca d kc ks QF 969 (nI i) M x := by
  refine wa_aload_n dL_law_969 1 rfl rfl ?_
  obtain ⟨Q1, hM9, hF⟩ := hF
  refine wa_callV [] dL_law_970 (mmX11_undo _ _) mlL_129 mnX11_undo mseX11_undo rfl rfl rfl rfl (a_dlt d) rfl rfl hM9 ?_
  rintro r9 M1 P9 ⟨v1, rfl, rfl, hq9⟩
  replace hF := hF v1 M1 hq9
  simp only [Option.toList, List.cons_append, List.nil_append]
  refine wa_aload_n dL_law_973 2 rfl rfl ?_
  obtain ⟨Q2, hM9, hF⟩ := hF
  refine wa_callV [] dL_law_974 (mmX12_undo _ _) mlL_132 mnX12_undo mseX12_undo rfl rfl rfl rfl (a_dlt d) rfl rfl hM9 ?_
  rintro r9 M2 P9 ⟨v2, rfl, rfl, hq9⟩
  replace hF := hF v2 M2 hq9
  simp only [Option.toList, List.cons_append, List.nil_append]
  obtain ⟨he9, hF⟩ := hF
  refine wa_icmp_eq (tgt := 1123) dL_law_977 rfl (fun hc => ?_) (fun hc => absurd he9 hc)
  exact hF
theorem bL_982 {X : a_X} {ad : Nat → Nat} {ca : Nat → ClassId} {d kc ks i x : Nat} {QF : List Frame → Array Value → State → State → Prop} {M : a_M} (hi : i + 5 < X.2.1.2.1) (hL : X.2.1.2.1 ≤ 3073) (hF : (∃ Q1 : Int32 → a_M → Prop, Mt X ad ca LY d yX11_redo cX11_redo 2 (some FieldType.int) [.ref 0] M (PT x) (q_i (PT x) Q1) ∧ ∀ v1 M1, Q1 v1 M1 → (∃ Q2 : Int32 → a_M → Prop, Mt X ad ca LY d yX12_redo cX12_redo 1 (some FieldType.int) [.ref 118] M1 (PT x) (q_i (PT x) Q2) ∧ ∀ v2 M2, Q2 v2 M2 → (v1 = v2 ∧ wL X ad ca d kc ks QF 1123 (nI i) M2 x)))) : wL X ad ca d kc ks QF 982 (nI i) M x := by
  refine wa_aload_n dL_law_982 1 rfl rfl ?_
  obtain ⟨Q1, hM9, hF⟩ := hF
  refine wa_callV [] dL_law_983 (mmX11_redo _ _) mlL_133 mnX11_redo mseX11_redo rfl rfl rfl rfl (a_dlt d) rfl rfl hM9 ?_
  rintro r9 M1 P9 ⟨v1, rfl, rfl, hq9⟩
  replace hF := hF v1 M1 hq9
  simp only [Option.toList, List.cons_append, List.nil_append]
  refine wa_aload_n dL_law_986 2 rfl rfl ?_
  obtain ⟨Q2, hM9, hF⟩ := hF
  refine wa_callV [] dL_law_987 (mmX12_redo _ _) mlL_136 mnX12_redo mseX12_redo rfl rfl rfl rfl (a_dlt d) rfl rfl hM9 ?_
  rintro r9 M2 P9 ⟨v2, rfl, rfl, hq9⟩
  replace hF := hF v2 M2 hq9
  simp only [Option.toList, List.cons_append, List.nil_append]
  obtain ⟨he9, hF⟩ := hF
  refine wa_icmp_eq (tgt := 1123) dL_law_990 rfl (fun hc => ?_) (fun hc => absurd he9 hc)
  exact hF
theorem bL_995 {X : a_X} {ad : Nat → Nat} {ca : Nat → ClassId} {d kc ks i x : Nat} {QF : List Frame → Array Value → State → State → Prop} {M : a_M} (hi : i + 5 < X.2.1.2.1) (hL : X.2.1.2.1 ≤ 3073) (hF : (∃ Q1 : Int32 → a_M → Prop, Mt X ad ca LY d yX11_at cX11_at 2 (some FieldType.int) [.ref 0, .int (X.2.1.2.2 (i + 1))] M (PT x) (q_i (PT x) Q1) ∧ ∀ v1 M1, Q1 v1 M1 → (∃ Q2 : Int32 → a_M → Prop, Mt X ad ca LY d yX12_at cX12_at 2 (some FieldType.int) [.ref 118, .int (X.2.1.2.2 (i + 1))] M1 (PT x) (q_i (PT x) Q2) ∧ ∀ v2 M2, Q2 v2 M2 → (v1 = v2 ∧ wL X ad ca d kc ks QF 1123 (nI i) M2 x)))) : wL X ad ca d kc ks QF 995 (nI i) M x := by
  refine wa_aload_n dL_law_995 1 rfl rfl ?_
  refine wa_aload_n dL_law_996 0 rfl rfl ?_
  refine wa_iload_n dL_law_997 3 rfl rfl ?_
  refine wa_iconst (v := 1) dL_law_998 rfl ?_
  refine wa_iadd dL_law_999 ?_
  refine wl_ld dL_law_1000 (j := i + 1) (nI_k i 1) (by omega) hL ?_
  obtain ⟨Q1, hM9, hF⟩ := hF
  refine wa_callV [.int (X.2.1.2.2 (i + 1))] dL_law_1001 (mmX11_at _ _) mlL_137 mnX11_at mseX11_at rfl rfl rfl rfl (a_dlt d) rfl rfl hM9 ?_
  rintro r9 M1 P9 ⟨v1, rfl, rfl, hq9⟩
  replace hF := hF v1 M1 hq9
  simp only [Option.toList, List.cons_append, List.nil_append]
  refine wa_aload_n dL_law_1004 2 rfl rfl ?_
  refine wa_aload_n dL_law_1005 0 rfl rfl ?_
  refine wa_iload_n dL_law_1006 3 rfl rfl ?_
  refine wa_iconst (v := 1) dL_law_1007 rfl ?_
  refine wa_iadd dL_law_1008 ?_
  refine wl_ld dL_law_1009 (j := i + 1) (nI_k i 1) (by omega) hL ?_
  obtain ⟨Q2, hM9, hF⟩ := hF
  refine wa_callV [.int (X.2.1.2.2 (i + 1))] dL_law_1010 (mmX12_at _ _) mlL_140 mnX12_at mseX12_at rfl rfl rfl rfl (a_dlt d) rfl rfl hM9 ?_
  rintro r9 M2 P9 ⟨v2, rfl, rfl, hq9⟩
  replace hF := hF v2 M2 hq9
  simp only [Option.toList, List.cons_append, List.nil_append]
  obtain ⟨he9, hF⟩ := hF
  refine wa_icmp_eq (tgt := 1123) dL_law_1013 rfl (fun hc => ?_) (fun hc => absurd he9 hc)
  exact hF
theorem bL_1018 {X : a_X} {ad : Nat → Nat} {ca : Nat → ClassId} {d kc ks i x : Nat} {QF : List Frame → Array Value → State → State → Prop} {M : a_M} (hi : i + 5 < X.2.1.2.1) (hL : X.2.1.2.1 ≤ 3073) (hF : (∃ Q1 : Int32 → a_M → Prop, Mt X ad ca LY d yX11_norm cX11_norm 4 (some FieldType.int) [.ref 0] M (PT x) (q_i (PT x) Q1) ∧ ∀ v1 M1, Q1 v1 M1 → (∃ Q2 : Int32 → a_M → Prop, Mt X ad ca LY d yX12_norm cX12_norm 3 (some FieldType.int) [.ref 118] M1 (PT x) (q_i (PT x) Q2) ∧ ∀ v2 M2, Q2 v2 M2 → (v1 = v2 ∧ wL X ad ca d kc ks QF 1123 (nI i) M2 x)))) : wL X ad ca d kc ks QF 1018 (nI i) M x := by
  refine wa_aload_n dL_law_1018 1 rfl rfl ?_
  obtain ⟨Q1, hM9, hF⟩ := hF
  refine wa_callV [] dL_law_1019 (mmX11_norm _ _) mlL_141 mnX11_norm mseX11_norm rfl rfl rfl rfl (a_dlt d) rfl rfl hM9 ?_
  rintro r9 M1 P9 ⟨v1, rfl, rfl, hq9⟩
  replace hF := hF v1 M1 hq9
  simp only [Option.toList, List.cons_append, List.nil_append]
  refine wa_aload_n dL_law_1022 2 rfl rfl ?_
  obtain ⟨Q2, hM9, hF⟩ := hF
  refine wa_callV [] dL_law_1023 (mmX12_norm _ _) mlL_144 mnX12_norm mseX12_norm rfl rfl rfl rfl (a_dlt d) rfl rfl hM9 ?_
  rintro r9 M2 P9 ⟨v2, rfl, rfl, hq9⟩
  replace hF := hF v2 M2 hq9
  simp only [Option.toList, List.cons_append, List.nil_append]
  obtain ⟨he9, hF⟩ := hF
  refine wa_icmp_eq (tgt := 1123) dL_law_1026 rfl (fun hc => ?_) (fun hc => absurd he9 hc)
  exact hF
theorem bL_1031 {X : a_X} {ad : Nat → Nat} {ca : Nat → ClassId} {d kc ks i x : Nat} {QF : List Frame → Array Value → State → State → Prop} {M : a_M} (hi : i + 5 < X.2.1.2.1) (hL : X.2.1.2.1 ≤ 3073) (hF : (∃ Q1 : Int32 → a_M → Prop, Mt X ad ca LY d yX11_power cX11_power 6 (some FieldType.int) [.ref 0, .int (X.2.1.2.2 (i + 1)), .int (X.2.1.2.2 (i + 2)), .int (X.2.1.2.2 (i + 3))] M (PT x) (q_i (PT x) Q1) ∧ ∀ v1 M1, Q1 v1 M1 → (∃ Q2 : Int32 → a_M → Prop, Mt X ad ca LY d yX12_power cX12_power 5 (some FieldType.int) [.ref 118, .int (X.2.1.2.2 (i + 1)), .int (X.2.1.2.2 (i + 2)), .int (X.2.1.2.2 (i + 3))] M1 (PT x) (q_i (PT x) Q2) ∧ ∀ v2 M2, Q2 v2 M2 → (v1 = v2 ∧ wL X ad ca d kc ks QF 1123 (nI i) M2 x)))) : wL X ad ca d kc ks QF 1031 (nI i) M x := by
  refine wa_aload_n dL_law_1031 1 rfl rfl ?_
  refine wa_aload_n dL_law_1032 0 rfl rfl ?_
  refine wa_iload_n dL_law_1033 3 rfl rfl ?_
  refine wa_iconst (v := 1) dL_law_1034 rfl ?_
  refine wa_iadd dL_law_1035 ?_
  refine wl_ld dL_law_1036 (j := i + 1) (nI_k i 1) (by omega) hL ?_
  refine wa_aload_n dL_law_1037 0 rfl rfl ?_
  refine wa_iload_n dL_law_1038 3 rfl rfl ?_
  refine wa_iconst (v := 2) dL_law_1039 rfl ?_
  refine wa_iadd dL_law_1040 ?_
  refine wl_ld dL_law_1041 (j := i + 2) (nI_k i 2) (by omega) hL ?_
  refine wa_aload_n dL_law_1042 0 rfl rfl ?_
  refine wa_iload_n dL_law_1043 3 rfl rfl ?_
  refine wa_iconst (v := 3) dL_law_1044 rfl ?_
  refine wa_iadd dL_law_1045 ?_
  refine wl_ld dL_law_1046 (j := i + 3) (nI_k i 3) (by omega) hL ?_
  obtain ⟨Q1, hM9, hF⟩ := hF
  refine wa_callV [.int (X.2.1.2.2 (i + 1)), .int (X.2.1.2.2 (i + 2)), .int (X.2.1.2.2 (i + 3))] dL_law_1047 (mmX11_power _ _) mlL_145 mnX11_power mseX11_power rfl rfl rfl rfl (a_dlt d) rfl rfl hM9 ?_
  rintro r9 M1 P9 ⟨v1, rfl, rfl, hq9⟩
  replace hF := hF v1 M1 hq9
  simp only [Option.toList, List.cons_append, List.nil_append]
  refine wa_aload_n dL_law_1050 2 rfl rfl ?_
  refine wa_aload_n dL_law_1051 0 rfl rfl ?_
  refine wa_iload_n dL_law_1052 3 rfl rfl ?_
  refine wa_iconst (v := 1) dL_law_1053 rfl ?_
  refine wa_iadd dL_law_1054 ?_
  refine wl_ld dL_law_1055 (j := i + 1) (nI_k i 1) (by omega) hL ?_
  refine wa_aload_n dL_law_1056 0 rfl rfl ?_
  refine wa_iload_n dL_law_1057 3 rfl rfl ?_
  refine wa_iconst (v := 2) dL_law_1058 rfl ?_
  refine wa_iadd dL_law_1059 ?_
  refine wl_ld dL_law_1060 (j := i + 2) (nI_k i 2) (by omega) hL ?_
  refine wa_aload_n dL_law_1061 0 rfl rfl ?_
  refine wa_iload_n dL_law_1062 3 rfl rfl ?_
  refine wa_iconst (v := 3) dL_law_1063 rfl ?_
  refine wa_iadd dL_law_1064 ?_
  refine wl_ld dL_law_1065 (j := i + 3) (nI_k i 3) (by omega) hL ?_
  obtain ⟨Q2, hM9, hF⟩ := hF
  refine wa_callV [.int (X.2.1.2.2 (i + 1)), .int (X.2.1.2.2 (i + 2)), .int (X.2.1.2.2 (i + 3))] dL_law_1066 (mmX12_power _ _) mlL_148 mnX12_power mseX12_power rfl rfl rfl rfl (a_dlt d) rfl rfl hM9 ?_
  rintro r9 M2 P9 ⟨v2, rfl, rfl, hq9⟩
  replace hF := hF v2 M2 hq9
  simp only [Option.toList, List.cons_append, List.nil_append]
  obtain ⟨he9, hF⟩ := hF
  refine wa_icmp_eq (tgt := 1123) dL_law_1069 rfl (fun hc => ?_) (fun hc => absurd he9 hc)
  exact hF
theorem bL_1074 {X : a_X} {ad : Nat → Nat} {ca : Nat → ClassId} {d kc ks i x : Nat} {QF : List Frame → Array Value → State → State → Prop} {M : a_M} (hi : i + 5 < X.2.1.2.1) (hL : X.2.1.2.1 ≤ 3073) (hF : (∃ Q1 : Int32 → a_M → Prop, Mt X ad ca LY d yX11_image cX11_image 1 (some FieldType.int) [.ref 0] M (PT x) (q_i (PT x) Q1) ∧ ∀ v1 M1, Q1 v1 M1 → (∃ Q2 : Int32 → a_M → Prop, Mt X ad ca LY d yX12_image cX12_image 1 (some FieldType.int) [.ref 118] M1 (PT x) (q_i (PT x) Q2) ∧ ∀ v2 M2, Q2 v2 M2 → (v1 = v2 ∧ wL X ad ca d kc ks QF 1123 (nI i) M2 x)))) : wL X ad ca d kc ks QF 1074 (nI i) M x := by
  refine wa_aload_n dL_law_1074 1 rfl rfl ?_
  obtain ⟨Q1, hM9, hF⟩ := hF
  refine wa_callV [] dL_law_1075 (mmX11_image _ _) mlL_149 mnX11_image mseX11_image rfl rfl rfl rfl (a_dlt d) rfl rfl hM9 ?_
  rintro r9 M1 P9 ⟨v1, rfl, rfl, hq9⟩
  replace hF := hF v1 M1 hq9
  simp only [Option.toList, List.cons_append, List.nil_append]
  refine wa_aload_n dL_law_1078 2 rfl rfl ?_
  obtain ⟨Q2, hM9, hF⟩ := hF
  refine wa_callV [] dL_law_1079 (mmX12_image _ _) mlL_152 mnX12_image mseX12_image rfl rfl rfl rfl (a_dlt d) rfl rfl hM9 ?_
  rintro r9 M2 P9 ⟨v2, rfl, rfl, hq9⟩
  replace hF := hF v2 M2 hq9
  simp only [Option.toList, List.cons_append, List.nil_append]
  obtain ⟨he9, hF⟩ := hF
  refine wa_icmp_eq (tgt := 1123) dL_law_1082 rfl (fun hc => ?_) (fun hc => absurd he9 hc)
  exact hF
theorem bL_1087 {X : a_X} {ad : Nat → Nat} {ca : Nat → ClassId} {d kc ks i x : Nat} {QF : List Frame → Array Value → State → State → Prop} {M : a_M} (hi : i + 5 < X.2.1.2.1) (hL : X.2.1.2.1 ≤ 3073) (hF : (∃ Q1 : Int32 → a_M → Prop, Mt X ad ca LY d yX11_back cX11_back 1 (some FieldType.int) [.ref 0] M (PT x) (q_i (PT x) Q1) ∧ ∀ v1 M1, Q1 v1 M1 → (∃ Q2 : Int32 → a_M → Prop, Mt X ad ca LY d yX12_back cX12_back 1 (some FieldType.int) [.ref 118] M1 (PT x) (q_i (PT x) Q2) ∧ ∀ v2 M2, Q2 v2 M2 → (v1 = v2 ∧ wL X ad ca d kc ks QF 1123 (nI i) M2 x)))) : wL X ad ca d kc ks QF 1087 (nI i) M x := by
  refine wa_aload_n dL_law_1087 1 rfl rfl ?_
  obtain ⟨Q1, hM9, hF⟩ := hF
  refine wa_callV [] dL_law_1088 (mmX11_back _ _) mlL_153 mnX11_back mseX11_back rfl rfl rfl rfl (a_dlt d) rfl rfl hM9 ?_
  rintro r9 M1 P9 ⟨v1, rfl, rfl, hq9⟩
  replace hF := hF v1 M1 hq9
  simp only [Option.toList, List.cons_append, List.nil_append]
  refine wa_aload_n dL_law_1091 2 rfl rfl ?_
  obtain ⟨Q2, hM9, hF⟩ := hF
  refine wa_callV [] dL_law_1092 (mmX12_back _ _) mlL_156 mnX12_back mseX12_back rfl rfl rfl rfl (a_dlt d) rfl rfl hM9 ?_
  rintro r9 M2 P9 ⟨v2, rfl, rfl, hq9⟩
  replace hF := hF v2 M2 hq9
  simp only [Option.toList, List.cons_append, List.nil_append]
  obtain ⟨he9, hF⟩ := hF
  refine wa_icmp_eq (tgt := 1123) dL_law_1095 rfl (fun hc => ?_) (fun hc => absurd he9 hc)
  exact hF
theorem bL_1100 {X : a_X} {ad : Nat → Nat} {ca : Nat → ClassId} {d kc ks i x : Nat} {QF : List Frame → Array Value → State → State → Prop} {M : a_M} (hi : i + 5 < X.2.1.2.1) (hL : X.2.1.2.1 ≤ 3073) (hF : (∃ Q1 : Int32 → a_M → Prop, Mt X ad ca LY d yX11_about cX11_about 2 (some FieldType.int) [.ref 0, .int (X.2.1.2.2 (i + 1))] M (PT x) (q_i (PT x) Q1) ∧ ∀ v1 M1, Q1 v1 M1 → (∃ Q2 : Int32 → a_M → Prop, Mt X ad ca LY d yX12_about cX12_about 2 (some FieldType.int) [.ref 118, .int (X.2.1.2.2 (i + 1))] M1 (PT x) (q_i (PT x) Q2) ∧ ∀ v2 M2, Q2 v2 M2 → (v1 = v2 ∧ wL X ad ca d kc ks QF 1123 (nI i) M2 x)))) : wL X ad ca d kc ks QF 1100 (nI i) M x := by
  refine wa_aload_n dL_law_1100 1 rfl rfl ?_
  refine wa_aload_n dL_law_1101 0 rfl rfl ?_
  refine wa_iload_n dL_law_1102 3 rfl rfl ?_
  refine wa_iconst (v := 1) dL_law_1103 rfl ?_
  refine wa_iadd dL_law_1104 ?_
  refine wl_ld dL_law_1105 (j := i + 1) (nI_k i 1) (by omega) hL ?_
  obtain ⟨Q1, hM9, hF⟩ := hF
  refine wa_callV [.int (X.2.1.2.2 (i + 1))] dL_law_1106 (mmX11_about _ _) mlL_157 mnX11_about mseX11_about rfl rfl rfl rfl (a_dlt d) rfl rfl hM9 ?_
  rintro r9 M1 P9 ⟨v1, rfl, rfl, hq9⟩
  replace hF := hF v1 M1 hq9
  simp only [Option.toList, List.cons_append, List.nil_append]
  refine wa_aload_n dL_law_1109 2 rfl rfl ?_
  refine wa_aload_n dL_law_1110 0 rfl rfl ?_
  refine wa_iload_n dL_law_1111 3 rfl rfl ?_
  refine wa_iconst (v := 1) dL_law_1112 rfl ?_
  refine wa_iadd dL_law_1113 ?_
  refine wl_ld dL_law_1114 (j := i + 1) (nI_k i 1) (by omega) hL ?_
  obtain ⟨Q2, hM9, hF⟩ := hF
  refine wa_callV [.int (X.2.1.2.2 (i + 1))] dL_law_1115 (mmX12_about _ _) mlL_160 mnX12_about mseX12_about rfl rfl rfl rfl (a_dlt d) rfl rfl hM9 ?_
  rintro r9 M2 P9 ⟨v2, rfl, rfl, hq9⟩
  replace hF := hF v2 M2 hq9
  simp only [Option.toList, List.cons_append, List.nil_append]
  obtain ⟨he9, hF⟩ := hF
  refine wa_icmp_eq (tgt := 1123) dL_law_1118 rfl (fun hc => ?_) (fun hc => absurd he9 hc)
  exact hF
theorem bL_1123 {X : a_X} {ad : Nat → Nat} {ca : Nat → ClassId} {d kc ks i x : Nat} {QF : List Frame → Array Value → State → State → Prop} {M : a_M} (hi : i + 5 < X.2.1.2.1) (hL : X.2.1.2.1 ≤ 3073) (hF : wL X ad ca d kc ks QF 28 ((nI i) + 6) M x) : wL X ad ca d kc ks QF 1123 (nI i) M x := by
  refine wa_iinc (v := (nI i) + 6) (lv' := [(3, .int ((nI i) + 6)), (0, .ref 1000000), (1, .ref 0), (2, .ref 118)]) dL_law_1123 3 rfl rfl rfl rfl ?_
  refine wa_goto (tgt := 28) dL_law_1126 rfl ?_
  exact wa_pick [1, 2, 3, 0] rfl hF
theorem lw_cmp {L i : Nat} (hL : L ≤ 3073) (hi : i ≤ 4000) : (Int32.ofNat L - 6 < nI i) ↔ L < i + 6 := by
  show nI L - 6 < nI i ↔ _
  by_cases c : 6 ≤ L
  · rw [fa_lit 6, pk_sub (by omega)]
    exact (nI_ltI (by omega) (by omega)).trans (by omega)
  · refine ⟨fun _ => by omega, fun _ => Int32.lt_of_lt_of_le (b := 0) ?_ (nI_pos' (by omega))⟩
    rcases (show L = 0 ∨ L = 1 ∨ L = 2 ∨ L = 3 ∨ L = 4 ∨ L = 5 by omega) with rfl | rfl | rfl | rfl | rfl | rfl <;> decide
theorem bL_28 {X : a_X} {ad : Nat → Nat} {ca : Nat → ClassId} {d kc ks i x : Nat} {QF : List Frame → Array Value → State → State → Prop} {M : a_M} (hi : i ≤ 4000) (hL : X.2.1.2.1 ≤ 3073) (hE : X.2.1.2.1 < i + 6 → wL X ad ca d kc ks QF 1129 (nI i) M x) (hF : i + 5 < X.2.1.2.1 → (((X.2.1.2.2 i &&& 63) = 0 → wL X ad ca d kc ks QF 188 (nI i) M x) ∧ ((X.2.1.2.2 i &&& 63) = 1 → wL X ad ca d kc ks QF 237 (nI i) M x) ∧ ((X.2.1.2.2 i &&& 63) = 2 → wL X ad ca d kc ks QF 260 (nI i) M x) ∧ ((X.2.1.2.2 i &&& 63) = 3 → wL X ad ca d kc ks QF 293 (nI i) M x) ∧ ((X.2.1.2.2 i &&& 63) = 4 → wL X ad ca d kc ks QF 356 (nI i) M x) ∧ ((X.2.1.2.2 i &&& 63) = 5 → wL X ad ca d kc ks QF 379 (nI i) M x) ∧ ((X.2.1.2.2 i &&& 63) = 6 → wL X ad ca d kc ks QF 392 (nI i) M x) ∧ ((X.2.1.2.2 i &&& 63) = 7 → wL X ad ca d kc ks QF 415 (nI i) M x) ∧ ((X.2.1.2.2 i &&& 63) = 8 → wL X ad ca d kc ks QF 438 (nI i) M x) ∧ ((X.2.1.2.2 i &&& 63) = 9 → wL X ad ca d kc ks QF 471 (nI i) M x) ∧ ((X.2.1.2.2 i &&& 63) = 10 → wL X ad ca d kc ks QF 494 (nI i) M x) ∧ ((X.2.1.2.2 i &&& 63) = 11 → wL X ad ca d kc ks QF 527 (nI i) M x) ∧ ((X.2.1.2.2 i &&& 63) = 12 → wL X ad ca d kc ks QF 570 (nI i) M x) ∧ ((X.2.1.2.2 i &&& 63) = 13 → wL X ad ca d kc ks QF 603 (nI i) M x) ∧ ((X.2.1.2.2 i &&& 63) = 14 → wL X ad ca d kc ks QF 626 (nI i) M x) ∧ ((X.2.1.2.2 i &&& 63) = 15 → wL X ad ca d kc ks QF 659 (nI i) M x) ∧ ((X.2.1.2.2 i &&& 63) = 16 → wL X ad ca d kc ks QF 692 (nI i) M x) ∧ ((X.2.1.2.2 i &&& 63) = 17 → wL X ad ca d kc ks QF 735 (nI i) M x) ∧ ((X.2.1.2.2 i &&& 63) = 18 → wL X ad ca d kc ks QF 768 (nI i) M x) ∧ ((X.2.1.2.2 i &&& 63) = 19 → wL X ad ca d kc ks QF 801 (nI i) M x) ∧ ((X.2.1.2.2 i &&& 63) = 20 → wL X ad ca d kc ks QF 814 (nI i) M x) ∧ ((X.2.1.2.2 i &&& 63) = 21 → wL X ad ca d kc ks QF 847 (nI i) M x) ∧ ((X.2.1.2.2 i &&& 63) = 22 → wL X ad ca d kc ks QF 890 (nI i) M x) ∧ ((X.2.1.2.2 i &&& 63) = 23 → wL X ad ca d kc ks QF 913 (nI i) M x) ∧ ((X.2.1.2.2 i &&& 63) = 24 → wL X ad ca d kc ks QF 946 (nI i) M x) ∧ ((X.2.1.2.2 i &&& 63) = 25 → wL X ad ca d kc ks QF 969 (nI i) M x) ∧ ((X.2.1.2.2 i &&& 63) = 26 → wL X ad ca d kc ks QF 982 (nI i) M x) ∧ ((X.2.1.2.2 i &&& 63) = 27 → wL X ad ca d kc ks QF 995 (nI i) M x) ∧ ((X.2.1.2.2 i &&& 63) = 28 → wL X ad ca d kc ks QF 1018 (nI i) M x) ∧ ((X.2.1.2.2 i &&& 63) = 29 → wL X ad ca d kc ks QF 1031 (nI i) M x) ∧ ((X.2.1.2.2 i &&& 63) = 30 → wL X ad ca d kc ks QF 1074 (nI i) M x) ∧ ((X.2.1.2.2 i &&& 63) = 31 → wL X ad ca d kc ks QF 1087 (nI i) M x) ∧ ((X.2.1.2.2 i &&& 63) = 32 → wL X ad ca d kc ks QF 1100 (nI i) M x) ∧ (((X.2.1.2.2 i &&& 63)).toInt < 0 ∨ 32 < ((X.2.1.2.2 i &&& 63)).toInt → wL X ad ca d kc ks QF 1123 (nI i) M x))) : wL X ad ca d kc ks QF 28 (nI i) M x := by
  refine wa_iload_n dL_law_28 3 rfl rfl ?_
  refine wa_aload_n dL_law_29 0 rfl rfl ?_
  refine wa_slen dL_law_30 ?_
  refine wa_bipush (v := 6) dL_law_31 rfl ?_
  refine wa_isub dL_law_33 ?_
  have hcmp := lw_cmp (L := X.2.1.2.1) (i := i) hL hi
  refine wa_icmp_gt (tgt := 1129) dL_law_34 rfl (fun hc => ?_) (fun hc => ?_)
  · exact hE (hcmp.mp hc)
  · have hi6 : i + 5 < X.2.1.2.1 := Nat.lt_of_not_le (fun z => hc (hcmp.mpr (by omega)))
    replace hF := hF hi6
    refine wa_aload_n dL_law_37 0 rfl rfl ?_
    refine wa_iload_n dL_law_38 3 rfl rfl ?_
    refine wl_ld dL_law_39 (j := i) rfl (by omega) hL ?_
    refine wa_bipush (v := 63) dL_law_40 rfl ?_
    refine wa_iand dL_law_42 ?_
    by_cases hk0 : (X.2.1.2.2 i &&& 63) = 0
    · replace hF := hF.1 hk0
      rw [hk0]
      exact wa_tableIn (off := 145) (tgt := 188) dL_law_43 (by decide) (by decide) rfl rfl hF
    replace hF := hF.2
    by_cases hk1 : (X.2.1.2.2 i &&& 63) = 1
    · replace hF := hF.1 hk1
      rw [hk1]
      exact wa_tableIn (off := 194) (tgt := 237) dL_law_43 (by decide) (by decide) rfl rfl hF
    replace hF := hF.2
    by_cases hk2 : (X.2.1.2.2 i &&& 63) = 2
    · replace hF := hF.1 hk2
      rw [hk2]
      exact wa_tableIn (off := 217) (tgt := 260) dL_law_43 (by decide) (by decide) rfl rfl hF
    replace hF := hF.2
    by_cases hk3 : (X.2.1.2.2 i &&& 63) = 3
    · replace hF := hF.1 hk3
      rw [hk3]
      exact wa_tableIn (off := 250) (tgt := 293) dL_law_43 (by decide) (by decide) rfl rfl hF
    replace hF := hF.2
    by_cases hk4 : (X.2.1.2.2 i &&& 63) = 4
    · replace hF := hF.1 hk4
      rw [hk4]
      exact wa_tableIn (off := 313) (tgt := 356) dL_law_43 (by decide) (by decide) rfl rfl hF
    replace hF := hF.2
    by_cases hk5 : (X.2.1.2.2 i &&& 63) = 5
    · replace hF := hF.1 hk5
      rw [hk5]
      exact wa_tableIn (off := 336) (tgt := 379) dL_law_43 (by decide) (by decide) rfl rfl hF
    replace hF := hF.2
    by_cases hk6 : (X.2.1.2.2 i &&& 63) = 6
    · replace hF := hF.1 hk6
      rw [hk6]
      exact wa_tableIn (off := 349) (tgt := 392) dL_law_43 (by decide) (by decide) rfl rfl hF
    replace hF := hF.2
    by_cases hk7 : (X.2.1.2.2 i &&& 63) = 7
    · replace hF := hF.1 hk7
      rw [hk7]
      exact wa_tableIn (off := 372) (tgt := 415) dL_law_43 (by decide) (by decide) rfl rfl hF
    replace hF := hF.2
    by_cases hk8 : (X.2.1.2.2 i &&& 63) = 8
    · replace hF := hF.1 hk8
      rw [hk8]
      exact wa_tableIn (off := 395) (tgt := 438) dL_law_43 (by decide) (by decide) rfl rfl hF
    replace hF := hF.2
    by_cases hk9 : (X.2.1.2.2 i &&& 63) = 9
    · replace hF := hF.1 hk9
      rw [hk9]
      exact wa_tableIn (off := 428) (tgt := 471) dL_law_43 (by decide) (by decide) rfl rfl hF
    replace hF := hF.2
    by_cases hk10 : (X.2.1.2.2 i &&& 63) = 10
    · replace hF := hF.1 hk10
      rw [hk10]
      exact wa_tableIn (off := 451) (tgt := 494) dL_law_43 (by decide) (by decide) rfl rfl hF
    replace hF := hF.2
    by_cases hk11 : (X.2.1.2.2 i &&& 63) = 11
    · replace hF := hF.1 hk11
      rw [hk11]
      exact wa_tableIn (off := 484) (tgt := 527) dL_law_43 (by decide) (by decide) rfl rfl hF
    replace hF := hF.2
    by_cases hk12 : (X.2.1.2.2 i &&& 63) = 12
    · replace hF := hF.1 hk12
      rw [hk12]
      exact wa_tableIn (off := 527) (tgt := 570) dL_law_43 (by decide) (by decide) rfl rfl hF
    replace hF := hF.2
    by_cases hk13 : (X.2.1.2.2 i &&& 63) = 13
    · replace hF := hF.1 hk13
      rw [hk13]
      exact wa_tableIn (off := 560) (tgt := 603) dL_law_43 (by decide) (by decide) rfl rfl hF
    replace hF := hF.2
    by_cases hk14 : (X.2.1.2.2 i &&& 63) = 14
    · replace hF := hF.1 hk14
      rw [hk14]
      exact wa_tableIn (off := 583) (tgt := 626) dL_law_43 (by decide) (by decide) rfl rfl hF
    replace hF := hF.2
    by_cases hk15 : (X.2.1.2.2 i &&& 63) = 15
    · replace hF := hF.1 hk15
      rw [hk15]
      exact wa_tableIn (off := 616) (tgt := 659) dL_law_43 (by decide) (by decide) rfl rfl hF
    replace hF := hF.2
    by_cases hk16 : (X.2.1.2.2 i &&& 63) = 16
    · replace hF := hF.1 hk16
      rw [hk16]
      exact wa_tableIn (off := 649) (tgt := 692) dL_law_43 (by decide) (by decide) rfl rfl hF
    replace hF := hF.2
    by_cases hk17 : (X.2.1.2.2 i &&& 63) = 17
    · replace hF := hF.1 hk17
      rw [hk17]
      exact wa_tableIn (off := 692) (tgt := 735) dL_law_43 (by decide) (by decide) rfl rfl hF
    replace hF := hF.2
    by_cases hk18 : (X.2.1.2.2 i &&& 63) = 18
    · replace hF := hF.1 hk18
      rw [hk18]
      exact wa_tableIn (off := 725) (tgt := 768) dL_law_43 (by decide) (by decide) rfl rfl hF
    replace hF := hF.2
    by_cases hk19 : (X.2.1.2.2 i &&& 63) = 19
    · replace hF := hF.1 hk19
      rw [hk19]
      exact wa_tableIn (off := 758) (tgt := 801) dL_law_43 (by decide) (by decide) rfl rfl hF
    replace hF := hF.2
    by_cases hk20 : (X.2.1.2.2 i &&& 63) = 20
    · replace hF := hF.1 hk20
      rw [hk20]
      exact wa_tableIn (off := 771) (tgt := 814) dL_law_43 (by decide) (by decide) rfl rfl hF
    replace hF := hF.2
    by_cases hk21 : (X.2.1.2.2 i &&& 63) = 21
    · replace hF := hF.1 hk21
      rw [hk21]
      exact wa_tableIn (off := 804) (tgt := 847) dL_law_43 (by decide) (by decide) rfl rfl hF
    replace hF := hF.2
    by_cases hk22 : (X.2.1.2.2 i &&& 63) = 22
    · replace hF := hF.1 hk22
      rw [hk22]
      exact wa_tableIn (off := 847) (tgt := 890) dL_law_43 (by decide) (by decide) rfl rfl hF
    replace hF := hF.2
    by_cases hk23 : (X.2.1.2.2 i &&& 63) = 23
    · replace hF := hF.1 hk23
      rw [hk23]
      exact wa_tableIn (off := 870) (tgt := 913) dL_law_43 (by decide) (by decide) rfl rfl hF
    replace hF := hF.2
    by_cases hk24 : (X.2.1.2.2 i &&& 63) = 24
    · replace hF := hF.1 hk24
      rw [hk24]
      exact wa_tableIn (off := 903) (tgt := 946) dL_law_43 (by decide) (by decide) rfl rfl hF
    replace hF := hF.2
    by_cases hk25 : (X.2.1.2.2 i &&& 63) = 25
    · replace hF := hF.1 hk25
      rw [hk25]
      exact wa_tableIn (off := 926) (tgt := 969) dL_law_43 (by decide) (by decide) rfl rfl hF
    replace hF := hF.2
    by_cases hk26 : (X.2.1.2.2 i &&& 63) = 26
    · replace hF := hF.1 hk26
      rw [hk26]
      exact wa_tableIn (off := 939) (tgt := 982) dL_law_43 (by decide) (by decide) rfl rfl hF
    replace hF := hF.2
    by_cases hk27 : (X.2.1.2.2 i &&& 63) = 27
    · replace hF := hF.1 hk27
      rw [hk27]
      exact wa_tableIn (off := 952) (tgt := 995) dL_law_43 (by decide) (by decide) rfl rfl hF
    replace hF := hF.2
    by_cases hk28 : (X.2.1.2.2 i &&& 63) = 28
    · replace hF := hF.1 hk28
      rw [hk28]
      exact wa_tableIn (off := 975) (tgt := 1018) dL_law_43 (by decide) (by decide) rfl rfl hF
    replace hF := hF.2
    by_cases hk29 : (X.2.1.2.2 i &&& 63) = 29
    · replace hF := hF.1 hk29
      rw [hk29]
      exact wa_tableIn (off := 988) (tgt := 1031) dL_law_43 (by decide) (by decide) rfl rfl hF
    replace hF := hF.2
    by_cases hk30 : (X.2.1.2.2 i &&& 63) = 30
    · replace hF := hF.1 hk30
      rw [hk30]
      exact wa_tableIn (off := 1031) (tgt := 1074) dL_law_43 (by decide) (by decide) rfl rfl hF
    replace hF := hF.2
    by_cases hk31 : (X.2.1.2.2 i &&& 63) = 31
    · replace hF := hF.1 hk31
      rw [hk31]
      exact wa_tableIn (off := 1044) (tgt := 1087) dL_law_43 (by decide) (by decide) rfl rfl hF
    replace hF := hF.2
    by_cases hk32 : (X.2.1.2.2 i &&& 63) = 32
    · replace hF := hF.1 hk32
      rw [hk32]
      exact wa_tableIn (off := 1057) (tgt := 1100) dL_law_43 (by decide) (by decide) rfl rfl hF
    replace hF := hF.2
    have ht0 : ((X.2.1.2.2 i &&& 63)).toInt ≠ 0 := a_ti hk0
    have ht1 : ((X.2.1.2.2 i &&& 63)).toInt ≠ 1 := a_ti hk1
    have ht2 : ((X.2.1.2.2 i &&& 63)).toInt ≠ 2 := a_ti hk2
    have ht3 : ((X.2.1.2.2 i &&& 63)).toInt ≠ 3 := a_ti hk3
    have ht4 : ((X.2.1.2.2 i &&& 63)).toInt ≠ 4 := a_ti hk4
    have ht5 : ((X.2.1.2.2 i &&& 63)).toInt ≠ 5 := a_ti hk5
    have ht6 : ((X.2.1.2.2 i &&& 63)).toInt ≠ 6 := a_ti hk6
    have ht7 : ((X.2.1.2.2 i &&& 63)).toInt ≠ 7 := a_ti hk7
    have ht8 : ((X.2.1.2.2 i &&& 63)).toInt ≠ 8 := a_ti hk8
    have ht9 : ((X.2.1.2.2 i &&& 63)).toInt ≠ 9 := a_ti hk9
    have ht10 : ((X.2.1.2.2 i &&& 63)).toInt ≠ 10 := a_ti hk10
    have ht11 : ((X.2.1.2.2 i &&& 63)).toInt ≠ 11 := a_ti hk11
    have ht12 : ((X.2.1.2.2 i &&& 63)).toInt ≠ 12 := a_ti hk12
    have ht13 : ((X.2.1.2.2 i &&& 63)).toInt ≠ 13 := a_ti hk13
    have ht14 : ((X.2.1.2.2 i &&& 63)).toInt ≠ 14 := a_ti hk14
    have ht15 : ((X.2.1.2.2 i &&& 63)).toInt ≠ 15 := a_ti hk15
    have ht16 : ((X.2.1.2.2 i &&& 63)).toInt ≠ 16 := a_ti hk16
    have ht17 : ((X.2.1.2.2 i &&& 63)).toInt ≠ 17 := a_ti hk17
    have ht18 : ((X.2.1.2.2 i &&& 63)).toInt ≠ 18 := a_ti hk18
    have ht19 : ((X.2.1.2.2 i &&& 63)).toInt ≠ 19 := a_ti hk19
    have ht20 : ((X.2.1.2.2 i &&& 63)).toInt ≠ 20 := a_ti hk20
    have ht21 : ((X.2.1.2.2 i &&& 63)).toInt ≠ 21 := a_ti hk21
    have ht22 : ((X.2.1.2.2 i &&& 63)).toInt ≠ 22 := a_ti hk22
    have ht23 : ((X.2.1.2.2 i &&& 63)).toInt ≠ 23 := a_ti hk23
    have ht24 : ((X.2.1.2.2 i &&& 63)).toInt ≠ 24 := a_ti hk24
    have ht25 : ((X.2.1.2.2 i &&& 63)).toInt ≠ 25 := a_ti hk25
    have ht26 : ((X.2.1.2.2 i &&& 63)).toInt ≠ 26 := a_ti hk26
    have ht27 : ((X.2.1.2.2 i &&& 63)).toInt ≠ 27 := a_ti hk27
    have ht28 : ((X.2.1.2.2 i &&& 63)).toInt ≠ 28 := a_ti hk28
    have ht29 : ((X.2.1.2.2 i &&& 63)).toInt ≠ 29 := a_ti hk29
    have ht30 : ((X.2.1.2.2 i &&& 63)).toInt ≠ 30 := a_ti hk30
    have ht31 : ((X.2.1.2.2 i &&& 63)).toInt ≠ 31 := a_ti hk31
    have ht32 : ((X.2.1.2.2 i &&& 63)).toInt ≠ 32 := a_ti hk32
    have hd9 : ((X.2.1.2.2 i &&& 63)).toInt < 0 ∨ 32 < ((X.2.1.2.2 i &&& 63)).toInt := by omega
    exact wa_tableOut (tgt := 1123) dL_law_43 hd9 rfl (hF hd9)
