/-! LEXER 2: the class's Tape -/
/-- the bytes lie -/
def tB (M : a_M) (Y : Nat → Nat) (tl : Nat) : Prop := M 1 3 = nI tl ∧ tl ≤ 300 ∧ (∀ i, i < tl → M 2 i = nI (Y i)) ∧ ∀ i, Y i < 256
section TP
variable {X : a_X} {ad : Nat → Nat} {ca : Nat → ClassId} {d x : Nat} {M : a_M} {Y : Nat → Nat} {tl : Nat}
theorem kX10_sortOf (hd : 1 ≤ d) {y : Nat} (hy : y < 256) : mX10_sortOf X ad ca d x [.int (nI y)] M (q_i (PT x) (fun s M' => M' = M ∧ s = nI (lSo y))) := by
  obtain ⟨d, rfl⟩ := a_d1 hd
  have lt : ∀ a, a < 300 → (nI y < nI a ↔ y < a) := fun a ha => nI_ltI (by omega) (by omega)
  have le : ∀ a, a < 300 → (nI y ≤ nI a ↔ y ≤ a) := fun a ha => nI_leI (by omega) (by omega)
  have gt : ∀ a, a < 300 → (nI a < nI y ↔ a < y) := fun a ha => nI_ltI (by omega) (by omega)
  have p24 : ((97 ≤ y ∧ y ≤ 122) ∨ (65 ≤ y ∧ y ≤ 90)) → wX10_sortOf X ad ca d x (q_i (PT x) (fun s M' => M' = M ∧ s = nI (lSo y))) 24 [] M := fun h => bX10_sortOf_24 ⟨_, rfl, rfl, rfl, by unfold lSo; rw [if_pos h]; rfl⟩
  have p26 : ¬ ((97 ≤ y ∧ y ≤ 122) ∨ (65 ≤ y ∧ y ≤ 90)) → wX10_sortOf X ad ca d x (q_i (PT x) (fun s M' => M' = M ∧ s = nI (lSo y))) 26 [(0, .int (nI y))] M := fun h => by
    have p42 : ¬ (48 ≤ y ∧ y ≤ 57) → wX10_sortOf X ad ca d x (q_i (PT x) (fun s M' => M' = M ∧ s = nI (lSo y))) 42 [] M := fun h2 => bX10_sortOf_42 ⟨_, rfl, rfl, rfl, by unfold lSo; rw [if_neg h, if_neg h2]; rfl⟩
    refine bX10_sortOf_26 _ ⟨fun q => p42 ?_, fun q => ⟨fun q2 => p42 ?_, fun q2 => ⟨_, rfl, rfl, rfl, ?_⟩⟩⟩
    · have := (lt 48 (by omega)).mp q; omega
    · have := (gt 57 (by omega)).mp q2; omega
    · have h1 : ¬ y < 48 := fun z => q ((lt 48 (by omega)).mpr z)
      have h2 : ¬ 57 < y := fun z => q2 ((gt 57 (by omega)).mpr z)
      unfold lSo
      rw [if_neg h, if_pos (by omega)]
      rfl
  have p12 : ¬ (97 ≤ y ∧ y ≤ 122) → wX10_sortOf X ad ca d x (q_i (PT x) (fun s M' => M' = M ∧ s = nI (lSo y))) 12 [(0, .int (nI y))] M := fun h => by
    refine bX10_sortOf_12 _ ⟨fun q => p26 ?_, fun q => ⟨fun q2 => p26 ?_, fun q2 => p24 ?_⟩⟩
    · have := (lt 65 (by omega)).mp q; omega
    · have := (gt 90 (by omega)).mp q2; omega
    · have h1 : ¬ y < 65 := fun z => q ((lt 65 (by omega)).mpr z)
      have h2 : ¬ 90 < y := fun z => q2 ((gt 90 (by omega)).mpr z)
      omega
  refine eX10_sortOf _ (bX10_sortOf_0 _ ⟨fun q => p12 ?_, fun q => ⟨fun q2 => p24 ?_, fun q2 => p12 ?_⟩⟩)
  · have := (lt 97 (by omega)).mp q; omega
  · have h1 : ¬ y < 97 := fun z => q ((lt 97 (by omega)).mpr z)
    have h2 := (le 122 (by omega)).mp q2
    omega
  · have h2 : ¬ y ≤ 122 := fun z => q2 ((le 122 (by omega)).mpr z)
    omega
theorem lSo_le (y : Nat) : lSo y ≤ 2 := by
  unfold lSo
  split
  · omega
  · split <;> omega
theorem kX10_stopOf (hd : 2 ≤ d) {i : Nat} (hB : tB M Y tl) (hi : i < tl) : mX10_stopOf X ad ca d x [.ref 1, .int (nI i)] M (q_i (PT x) (fun s M' => M' = M ∧ s = nI (lStop Y tl i))) := by
  obtain ⟨d, rfl⟩ := a_d1 (show 1 ≤ d by omega)
  obtain ⟨b1, b2, b3, b4⟩ := hB
  refine eX10_stopOf _ (bX10_stopOf_0 _ ⟨n_in (by omega) (by omega), ?_⟩)
  rw [n_cl (by omega), b3 i hi]
  refine ⟨_, kX10_sortOf (by omega) (b4 i), ?_⟩
  rintro v1 M1 ⟨rfl, rfl⟩
  rw [nI_1]
  by_cases c : lSo (Y i) = 0
  · have fin : wX10_stopOf X ad ca d x (q_i (PT x) (fun s M' => M' = M1 ∧ s = nI (lStop Y tl i))) 45 [(3, .int (nI (i + 1)))] M1 := bX10_stopOf_45 _ ⟨_, rfl, rfl, rfl, by unfold lStop; rw [if_pos c]⟩
    rw [c]
    exact bX10_stopOf_14 _ _ ⟨fun _ => fin, fun _ => ⟨fun _ => fin, fun q => absurd rfl q⟩⟩
  · have e : lStop Y tl i = lRun Y tl (lSo (Y i)) (tl - (i + 1)) (i + 1) := by unfold lStop; rw [if_neg c]
    rw [e]
    have key : ∀ f j, j + f = tl → wX10_stopOf X ad ca d x (q_i (PT x) (fun s M' => M' = M1 ∧ s = nI (lRun Y tl (lSo (Y i)) f j))) 14 [(0, .ref 1), (2, .int (nI (lSo (Y i)))), (3, .int (nI j))] M1 := by
      intro f
      induction f with
      | zero =>
        intro j hj
        refine bX10_stopOf_14 _ _ ?_
        rw [b1]
        exact ⟨fun _ => bX10_stopOf_45 _ ⟨_, rfl, rfl, rfl, rfl⟩, fun q => absurd (nI_le (show tl ≤ j by omega) (by omega)) q⟩
      | succ f ih =>
        intro j hj
        refine bX10_stopOf_14 _ _ ?_
        rw [b1]
        have hs := lSo_le (Y i)
        have hs2 := lSo_le (Y j)
        refine ⟨fun q => absurd q (nI_ge (show j < tl by omega) (by omega)), fun _ => ⟨fun q => absurd ((nI_eq (by omega) (by omega)).mp (q.trans nI_0.symm)) c, fun _ => ⟨n_in (by omega) (by omega), ?_⟩⟩⟩
        rw [n_cl (by omega), b3 j (by omega)]
        refine ⟨_, kX10_sortOf (by omega) (b4 j), ?_⟩
        rintro v2 M2 ⟨rfl, rfl⟩
        refine ⟨fun q => bX10_stopOf_45 _ ⟨_, rfl, rfl, rfl, ?_⟩, fun q => ?_⟩
        · show nI j = nI (if j < tl ∧ lSo (Y j) = lSo (Y i) then _ else j)
          rw [if_neg (fun z => q (by rw [z.2]))]
        · have hq := (nI_eq (by omega) (by omega)).mp q
          have e2 : lRun Y tl (lSo (Y i)) (f + 1) j = lRun Y tl (lSo (Y i)) f (j + 1) := by
            show (if j < tl ∧ lSo (Y j) = lSo (Y i) then _ else j) = _
            rw [if_pos ⟨by omega, hq⟩]
          rw [e2, nI_1]
          exact ih (j + 1) (by omega)
    exact key _ (i + 1) (by omega)
theorem kX10_numberOf (hd : 2 ≤ d) {i j : Nat} (hB : tB M Y tl) (hij : i ≤ j) (hj : j ≤ tl) (hdg : ∀ z, i ≤ z → z < j → lSo (Y z) = 2) : mX10_numberOf X ad ca d x [.ref 1, .int (nI i), .int (nI j)] M (q_i (PT x) (fun s M' => M' = M ∧ s = nI (300 + min 10000 (lVal 10 (fun z => Y (i + z) - 48) (j - i))))) := by
  obtain ⟨d, rfl⟩ := a_d1 (show 1 ≤ d by omega)
  obtain ⟨b1, b2, b3, b4⟩ := hB
  refine eX10_numberOf _ _ (bX10_numberOf_0 _ _ ?_)
  have key := a_loop (σ := Unit) (fun n _ => wX10_numberOf X ad ca d x (q_i (PT x) (fun s M' => M' = M ∧ s = nI (300 + min 10000 (lVal 10 (fun z => Y (i + z) - 48) (j - i))))) 5 [(0, .ref 1), (2, .int (nI j)), (3, .int (nI (min 10000 (lVal 10 (fun z => Y (i + z) - 48) n)))), (4, .int (nI (i + n)))] M) (fun _ _ => True) (j - i) ?_ ?_ 0 () (Nat.zero_le _) trivial
  · exact key
  · intro _ _
    refine bX10_numberOf_5 _ _ _ ⟨fun _ => ⟨_, rfl, rfl, rfl, ?_⟩, fun q => absurd (nI_le (show j ≤ i + (j - i) by omega) (by omega)) q⟩
    rw [fa_lit 300, nI_add]
  · intro n _ hn _ ih
    have hy := lSo_2 (hdg (i + n) (by omega) (by omega))
    refine bX10_numberOf_5 _ _ _ ⟨fun q => absurd q (nI_ge (show i + n < j by omega) (by omega)), fun _ => ⟨n_in (by omega) (by omega), ?_⟩⟩
    have e : nI (min 10000 (lVal 10 (fun z => Y (i + z) - 48) n)) * 10 + M 2 (nI (i + n)).toNatClampNeg - 48 = nI (min 10000 (lVal 10 (fun z => Y (i + z) - 48) n) * 10 + (Y (i + n) - 48)) := by
      rw [n_cl (by omega), b3 _ (by omega), fa_lit 10, fa_lit 48, n_mul, nI_add, pk_sub (by omega)]
      congr 1
      omega
    rw [e]
    refine ⟨_, kJ9_min (by omega) _ _, ?_⟩
    rintro v1 M1 ⟨rfl, rfl⟩
    have e2 : (if nI (min 10000 (lVal 10 (fun z => Y (i + z) - 48) n) * 10 + (Y (i + n) - 48)) < 10000 then nI (min 10000 (lVal 10 (fun z => Y (i + z) - 48) n) * 10 + (Y (i + n) - 48)) else 10000) = nI (min 10000 (lVal 10 (fun z => Y (i + z) - 48) (n + 1))) := by
      have e3 : lVal 10 (fun z => Y (i + z) - 48) (n + 1) = 10 * lVal 10 (fun z => Y (i + z) - 48) n + (Y (i + n) - 48) := rfl
      rw [e3]
      generalize lVal 10 (fun z => Y (i + z) - 48) n = V
      rw [fa_lit 10000]
      by_cases c : min 10000 V * 10 + (Y (i + n) - 48) < 10000
      · rw [if_pos (nI_lt (b := 10000) c (by omega))]
        congr 1
        omega
      · rw [if_neg (nI_nlt (a := min 10000 V * 10 + (Y (i + n) - 48)) (b := 10000) (by omega) (by omega))]
        congr 1
        omega
    rw [e2, nI_1, show i + n + 1 = i + (n + 1) by omega]
    exact ih () trivial
/-- the letters from i on are those of constant k -/
def lIs (Y : Nat → Nat) (i j k : Nat) : Prop := j - i = a_sl.getD k 0 ∧ ∀ z, z < a_sl.getD k 0 → nI (Y (i + z)) = (a_sb.getD k []).getD z 0 &&& 255
theorem kX10_isWord (hd : 5 ≤ d) {i j k : Nat} (hB : tB M Y tl) (hij : i ≤ j) (hj : j ≤ tl) (hk : k < 5) : mX10_isWord X ad ca d x [.ref 1, .ref (2000000 + k), .int (nI i), .int (nI j)] M (q_i (PT x) (fun s M' => M' = M ∧ ((s = 1 ∧ lIs Y i j k) ∨ (s = 0 ∧ ¬ lIs Y i j k)))) := by
  obtain ⟨d, rfl⟩ := a_d1 (show 1 ≤ d by omega)
  obtain ⟨b1, b2, b3, b4⟩ := hB
  have hl8 := a_sl_lt hk
  refine Mt.of (lv := [(0, .ref 1), (1, .ref (2000000 + k)), (2, .int (nI i)), (3, .int (nI j))]) (by decide +kernel) rfl rfl rfl ?_
  refine wa_iload_n dX10_isWord_0 3 rfl rfl ?_
  refine wa_iload_n dX10_isWord_1 2 rfl rfl ?_
  refine wa_isub dX10_isWord_2 ?_
  refine wa_aload_n dX10_isWord_3 1 rfl rfl ?_
  refine wa_callVS [] dX10_isWord_4 (mmJ0_length_8abf5 _ _) mlX10_64 mnJ0_length_8abf5 mseJ0_length_8abf5 hk rfl (a_dlt d) rfl rfl (kJ0_length (by omega) hk) ?_
  rintro r M1 P1 ⟨v, rfl, rfl, rfl, rfl⟩
  refine wa_icmp_eq (tgt := 12) dX10_isWord_7 rfl (fun q => ?_) (fun q => ?_)
  rotate_left
  · refine wa_iconst (v := 0) dX10_isWord_10 rfl ?_
    refine wa_iret dX10_isWord_11 rfl rfl ⟨_, rfl, rfl, rfl, Or.inr ⟨rfl, fun h => q ?_⟩⟩
    rw [pk_sub hij, h.1]
  rw [pk_sub hij] at q
  have hlen : j - i = a_sl.getD k 0 := (nI_eq (by omega) (by omega)).mp q
  refine wa_iconst (v := 0) dX10_isWord_12 rfl ?_
  refine wa_istore (lv' := [(4, .int 0), (0, .ref 1), (1, .ref (2000000 + k)), (2, .int (nI i)), (3, .int (nI j))]) dX10_isWord_13 rfl rfl ?_
  have key := a_loop (σ := Unit) (fun n _ => WA X ad ca LY RX10 cX10_isWord 5 (some FieldType.boolean) (d + 1) 0 0 (a_E X ad ca LY (q_i (PT x) (fun s M' => M' = M1 ∧ ((s = 1 ∧ lIs Y i j k) ∨ (s = 0 ∧ ¬ lIs Y i j k))))) 15 [(4, .int (nI n)), (0, .ref 1), (1, .ref (2000000 + k)), (2, .int (nI i)), (3, .int (nI j))] [] M1 (PT x)) (fun n _ => ∀ z, z < n → nI (Y (i + z)) = (a_sb.getD k []).getD z 0 &&& 255) (a_sl.getD k 0) ?_ ?_ 0 () (Nat.zero_le _) (fun z hz => absurd hz (Nat.not_lt_zero _))
  · exact key
  · intro _ hn
    refine wa_iload dX10_isWord_15 0 rfl ?_
    refine wa_aload_n dX10_isWord_17 2 rfl rfl ?_
    refine wa_callVS [] dX10_isWord_18 (mmJ0_length_8abf5 _ _) mlX10_64 mnJ0_length_8abf5 mseJ0_length_8abf5 hk rfl (a_dlt d) rfl rfl (kJ0_length (by omega) hk) ?_
    rintro r M2 P2 ⟨v, rfl, rfl, rfl, rfl⟩
    refine wa_icmp_ge (tgt := 50) dX10_isWord_21 rfl (fun _ => ?_) (fun q => absurd (nI_le (Nat.le_refl _) (by omega)) q)
    refine wa_iconst (v := 1) dX10_isWord_50 rfl ?_
    exact wa_iret dX10_isWord_51 rfl rfl ⟨_, rfl, rfl, rfl, Or.inl ⟨rfl, hlen, hn⟩⟩
  · intro n _ hn hz ih
    refine wa_iload dX10_isWord_15 0 rfl ?_
    refine wa_aload_n dX10_isWord_17 2 rfl rfl ?_
    refine wa_callVS [] dX10_isWord_18 (mmJ0_length_8abf5 _ _) mlX10_64 mnJ0_length_8abf5 mseJ0_length_8abf5 hk rfl (a_dlt d) rfl rfl (kJ0_length (by omega) hk) ?_
    rintro r M2 P2 ⟨v, rfl, rfl, rfl, rfl⟩
    refine wa_icmp_ge (tgt := 50) dX10_isWord_21 rfl (fun q => absurd q (nI_ge hn (by omega))) (fun _ => ?_)
    refine wa_aload_n dX10_isWord_24 1 rfl rfl ?_
    refine wa_getr (r := 2) dX10_isWord_25 fkX10_9 rfl rfl rfl ?_
    refine wa_iload_n dX10_isWord_28 3 rfl rfl ?_
    refine wa_iload dX10_isWord_29 0 rfl ?_
    refine wa_iadd dX10_isWord_31 ?_
    rw [nI_add]
    refine wa_iald (n := 300) dX10_isWord_32 rfl (n_in (by omega) (by omega)) ?_
    rw [n_cl (by omega), b3 (i + n) (by omega)]
    refine wa_aload_n dX10_isWord_33 2 rfl rfl ?_
    refine wa_iload dX10_isWord_34 0 rfl ?_
    refine wa_callVS [.int (nI n)] dX10_isWord_36 (mmJ0_charAt_5068e _ _) mlX10_69 mnJ0_charAt_5068e mseJ0_charAt_5068e hk rfl (a_dlt d) rfl rfl (kJ0_charAt (by omega) hk hn) ?_
    rintro r M3 P3 ⟨v, rfl, rfl, rfl, rfl⟩
    refine wa_icmp_eq (tgt := 44) dX10_isWord_39 rfl (fun q2 => ?_) (fun q2 => ?_)
    · refine wa_iinc (v := nI (n + 1)) (lv' := [(4, .int (nI (n + 1))), (0, .ref 1), (1, .ref (2000000 + k)), (2, .int (nI i)), (3, .int (nI j))]) dX10_isWord_44 0 rfl (nI_1 n) rfl rfl ?_
      refine wa_goto (tgt := 15) dX10_isWord_47 rfl ?_
      refine ih () (fun z hz2 => ?_)
      by_cases c : z = n
      · subst c; exact q2
      · exact hz z (by omega)
    · refine wa_iconst (v := 0) dX10_isWord_42 rfl ?_
      exact wa_iret dX10_isWord_43 rfl rfl ⟨_, rfl, rfl, rfl, Or.inr ⟨rfl, fun h => q2 (h.2 n hn)⟩⟩
end TP
