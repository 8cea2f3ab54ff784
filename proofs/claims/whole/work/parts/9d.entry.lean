/-! THE LAW 8: its entry -/
def zcell (X : a_X) : Int32 := if Int32.ofNat X.2.1.2.1 ≤ 0 then 0 else X.2.1.2.2 0
theorem k_cell {X : a_X} {ad : Nat → Nat} {ca : Nat → ClassId} {L : a_L} {M : a_M} {P : a_P} : Mt X ad ca L 1 yL_cell cL_cell 2 (some FieldType.int) [.ref 1000000, .int 0] M P (fun r M1 P1 => r = some (.int (zcell X)) ∧ M1 = M ∧ P1 = P) := by
  refine Mt.of (lv := [(0, .ref 1000000), (1, .int 0)]) (by decide +kernel) rfl rfl rfl ?_
  refine wa_iload_n dL_cell_0 1 rfl rfl ?_
  refine wa_aload_n dL_cell_1 0 rfl rfl ?_
  refine wa_slen dL_cell_2 ?_
  refine wa_icmp_ge (tgt := 12) dL_cell_3 rfl (fun hc => ?_) (fun hc => ?_)
  · refine wa_iconst (v := 0) dL_cell_12 rfl ?_
    exact wa_iret dL_cell_13 rfl rfl ⟨by unfold zcell; rw [if_pos hc], rfl, rfl⟩
  · refine wa_aload_n dL_cell_6 0 rfl rfl ?_
    refine wa_iload_n dL_cell_7 1 rfl rfl ?_
    have hin : vp_in 0 X.2.1.2.1 := fun h => by
      rcases h with h | h
      · exact absurd h (by decide)
      · have h0 : X.2.1.2.1 = 0 := Nat.le_zero.mp h
        rw [h0] at hc
        exact hc (by decide)
    refine wa_sld dL_cell_8 hin ?_
    refine wa_goto (tgt := 13) dL_cell_9 rfl ?_
    exact wa_iret dL_cell_13 rfl rfl ⟨by unfold zcell; rw [if_neg hc]; rfl, rfl, rfl⟩
theorem is11 : Cond.instantiable RX11 14 ∈ a_tb := List.mem_filter.mpr ⟨by decide +kernel, rfl⟩
theorem is12 : Cond.instantiable RX12 56 ∈ a_tb := List.mem_filter.mpr ⟨by decide +kernel, rfl⟩
theorem clL7 : Cond.classLink RL 7 RX11 ∈ a_tb := List.mem_filter.mpr ⟨by decide +kernel, rfl⟩
theorem clL18 : Cond.classLink RL 18 RX12 ∈ a_tb := List.mem_filter.mpr ⟨by decide +kernel, rfl⟩
/-- from the law's first instruction to its loop -/
theorem wn_law {X : a_X} {ad0 : Nat → Nat} {ca0 : Nat → ClassId} {QF : List Frame → Array Value → State → State → Prop} (h : ∀ N, 2 ≤ N → N ≤ 7 → WN X ad0 ca0 0 RL cL_law 4 (some .boolean) 100 600000 7302250 153 29373 153 False QF 28 [(0, .ref 1000000), (1, .ref 0), (2, .ref 118), (3, .int 1)] [] (zM0 N) (PT 6)) : WN X ad0 ca0 0 RL cL_law 4 (some .boolean) 100 600000 7302250 0 0 0 False QF 0 [(0, .ref 1000000)] [] Z0 ZP := by
  refine wn_new dL_law_0 rfl ckX11 clL7 is11 inX11 okX11 rfl rfl rfl rfl ?_
  refine wn_dup dL_law_3 rfl ?_
  refine wn_aload_n dL_law_4 0 rfl rfl ?_
  refine wn_iconst (v := 0) dL_law_5 rfl ?_
  refine wn_callS (d9 := 1) [.ref 1000000, .int 0] dL_law_6 (mmL_cell _ _) mlL_9 mstL_cell rfl (by decide) rfl rfl rfl rfl (fun ad ca => k_cell) (fun r M1 P1 h hz => by obtain ⟨-, rfl, rfl⟩ := h; exact hz) ?_
  rintro r M1 P1 ⟨hr, hM1, hP1⟩
  rw [hr, hM1, hP1]
  simp only [Option.toList, List.cons_append, List.nil_append]
  refine wn_ctor [.int (zcell X)] dL_law_9 (mmX11_init _ _) mlL_15 mnX11_init rfl rfl (by decide) rfl rfl rfl rfl rfl rfl (fun ad ca => ct0 (zcell X)) ?_
  rintro M2 P2 ⟨hM2, hP2⟩
  obtain ⟨N, hN2, hN7, hz1, hz2⟩ := zcl_max (zcell X)
  rw [hz1] at hM2
  have hM2' : M2 = mw Z0 (ML11 (nI N)) := hM2
  have hP2' : P2 = pw ZP PL11 := hP2
  rw [hM2', hP2']
  refine wn_astore_n (lv' := [(1, .ref 0), (0, .ref 1000000)]) dL_law_12 rfl rfl rfl ?_
  refine wn_new dL_law_13 rfl ckX12 clL18 is12 inX12 okX12 rfl rfl rfl rfl ?_
  refine wn_dup dL_law_16 rfl ?_
  refine wn_aload_n dL_law_17 1 rfl rfl ?_
  refine wn_iconst (v := 0) dL_law_18 rfl ?_
  refine wn_callS (d9 := 1) [.ref 1000000, .int 0] dL_law_19 (mmL_cell _ _) mlL_9 mstL_cell rfl (by decide) rfl rfl rfl rfl (fun ad ca => k_cell) (fun r M1 P1 h hz => by obtain ⟨-, rfl, rfl⟩ := h; exact hz) ?_
  rintro r M3 P3 ⟨hr3, hM3, hP3⟩
  rw [hr3, hM3, hP3]
  simp only [Option.toList, List.cons_append, List.nil_append]
  refine wn_ctor [.int (zcell X)] dL_law_22 (mmX12_init _ _) mlL_20 mnX12_init rfl rfl (by decide) rfl rfl rfl rfl rfl rfl (fun ad ca => ct118 (zcell X) PT_eq) ?_
  rintro M4 P4 ⟨hM4, hP4⟩
  rw [hz2] at hM4
  have hM4' : M4 = zM0 N := hM4
  rw [hM4', hP4]
  refine wn_astore_n (lv' := [(2, .ref 118), (1, .ref 0), (0, .ref 1000000)]) dL_law_25 rfl rfl rfl ?_
  refine wn_iconst (v := 1) dL_law_26 rfl ?_
  refine wn_istore_n (lv' := [(3, .int 1), (2, .ref 118), (1, .ref 0), (0, .ref 1000000)]) dL_law_27 rfl rfl rfl ?_
  intro ad ca R p l e s m args below meth c H locs ls hR hI F hov hb hca hk9 hz w S hl
  refine h N hN2 hN7 ad ca R p l e s m args below meth c H locs ls hR hI F hov hb hca hk9 hz w S ⟨hl.1, hl.2.1, fun q hq => hl.2.2 q ?_⟩
  simp only [a_mp, List.map_cons, List.map_nil, List.mem_cons] at hq ⊢
  rcases hq with h | h | h | h | h
  · exact Or.inr (Or.inr (Or.inr (Or.inl h)))
  · exact Or.inr (Or.inr (Or.inl h))
  · exact Or.inr (Or.inl h)
  · exact Or.inl h
  · cases h
