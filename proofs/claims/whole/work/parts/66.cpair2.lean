/-! CONTRACTS 40: Pairs on the class's side: openRow, divides, tell -/
theorem zsf2_lt {p n t m row j : Nat} (hp : 0 < p) : zsf2 p n t m row j < p := zm_lt hp
theorem zsf2_hi {p n t m row j : Nat} (h : n + 1 < j) : zsf2 p n t m row j = 0 := by
  unfold zsf2
  rw [zFj_hi h, zm_0]
section PR2
variable {X : a_X} {ad : Nat → Nat} {ca : Nat → ClassId} {d x : Nat} {M : a_M}
theorem wX3_openRow_112 (hd : 1 ≤ d) {n r p t e m row c l s : Nat} {M0 M1 : a_M} (hH : rH M0 34 n r p t e) (hw : wH n r p t e) (hB : ∀ j, j < 8 → M0 36 j = nI (zpw p t n j)) (hc : c < p) (hl : l < p) (hs : s < p) (ic : iC p (c : Int) (zco t m row)) (il : iC p (l : Int) (zsl t m)) (is : iC p (s : Int) (zsq t m)) (h37 : ∀ j, j < 11 → M1 37 j = 0) (h38 : ∀ j, j < 11 → M1 38 j = 0) (hfr : ∀ o, o ≠ 37 → o ≠ 38 → M1 o = M0 o) :
    wX3_openRow X ad ca d x (q_v (PT x) (fun M' => (∀ j, j < 11 → M' 37 j = nI (zsf2 p n t m row j)) ∧ (∀ j, j < 11 → M' 38 j = 0) ∧ ∀ o, o ≠ 37 → o ≠ 38 → M' o = M0 o)) 112 [(0, .ref 33), (3, .int (nI c)), (4, .int (nI l)), (5, .int (nI s)), (6, .int 0)] M1 := by
  obtain ⟨hn, hn2, -, hp, ht1, ht, -⟩ := hw
  have hpb := zpl_b _ hp
  have hp1 : 1 < p := by omega
  have hPl : ∀ k, zpw p t n k < p := fun k => zpw_lt hp1 n k
  refine a_loop (σ := a_M) (fun J M' => wX3_openRow X ad ca d x _ 112 [(0, .ref 33), (3, .int (nI c)), (4, .int (nI l)), (5, .int (nI s)), (6, .int (nI J))] M') (fun J M' => (∀ k, k < 11 → M' 37 k = nI (if k < J then zpw p t n k * s else 0) - nI ((if k < J then zpw p t n k * c else 0) + (if 1 ≤ k ∧ k ≤ J then zpw p t n (k - 1) * l else 0))) ∧ (∀ o, o ≠ 37 → M' o = M1 o)) (n + 1) ?_ ?_ 0 M1 (Nat.zero_le _) ⟨fun k hk => ?_, fun _ _ => rfl⟩
  · rintro M2 ⟨g1, g2⟩
    have e34 : M2 34 = M0 34 := by rw [g2 34 (by decide), hfr 34 (by decide) (by decide)]
    refine bX3_openRow_112 _ _ _ _ ?_
    rw [e34, hH.1]
    refine ⟨fun _ => ⟨n_in (by omega) (by omega), n_in (by omega) (by omega), ?_⟩, fun q => absurd (nI_lt (Nat.lt_succ_self n) (by omega)) q⟩
    rw [nI_1]
    refine ⟨n_in (by omega) (by omega), n_in (by omega) (by omega), ?_⟩
    rw [n_cl (by omega), n_cl (by omega), ms_no _ _ _ _ _ _ (fun q => by omega)]
    generalize hM3 : ms (ms M2 37 n (M2 37 n + (nI s + nI c))) 37 (n + 1) (M2 37 (n + 1) + nI l) = M3
    have k1 : ∀ k, k < 11 → M3 37 k = nI (hU (zpw p t n) n s c l k) - nI (hV (zpw p t n) c l k) := by
      intro k hk
      rw [← hM3]
      unfold hU hV
      by_cases c1 : k = n + 1
      · subst c1
        rw [ms_is, g1 (n + 1) (by omega), if_neg (by omega), if_neg (by omega), if_pos ⟨by omega, Nat.le_refl _⟩, zpw_hi n (n + 1) (by omega), if_neg (by omega), if_pos rfl, if_pos (by omega)]
        simp only [Nat.zero_mul, Nat.zero_add, nI_0]
        grind
      · rw [ms_no _ _ _ _ _ _ (fun q => c1 q.2)]
        by_cases c2 : k = n
        · subst c2
          rw [ms_is, g1 k (by omega), if_pos (by omega), if_pos (by omega), if_pos rfl, if_neg c1]
          by_cases c3 : 1 ≤ k
          · rw [if_pos ⟨c3, by omega⟩, if_pos c3]
            simp only [← nI_add, nI_0]
            grind
          · rw [if_neg (fun q => c3 q.1), if_neg c3]
            simp only [← nI_add, nI_0]
            grind
        · rw [ms_no _ _ _ _ _ _ (fun q => c2 q.2), g1 k hk, if_neg c2, if_neg c1]
          by_cases c4 : k < n + 1
          · rw [if_pos c4, if_pos c4]
            by_cases c3 : 1 ≤ k
            · rw [if_pos ⟨c3, by omega⟩, if_pos c3]
              simp only [Nat.add_zero]
            · rw [if_neg (fun q => c3 q.1), if_neg c3]
              simp only [Nat.add_zero]
          · rw [if_neg c4, if_neg c4, if_neg (by omega), if_pos (by omega), zpw_hi n k (by omega), zpw_hi n (k - 1) (by omega)]
            simp
    have k2 : ∀ o, o ≠ 37 → M3 o = M1 o := fun o ho => by
      rw [← hM3, ms_row _ _ _ _ _ ho, ms_row _ _ _ _ _ ho, g2 o ho]
    have kv : ∀ k, zm (nI (hU (zpw p t n) n s c l k) - nI (hV (zpw p t n) c l k)).toInt p = zsf2 p n t m row k := by
      intro k
      have b1 := n_p2 (hPl k) hs (by omega)
      have b2 := n_p2 (hPl k) hc (by omega)
      have b3 := n_p2 (hPl (k - 1)) hl (by omega)
      have u1 : hU (zpw p t n) n s c l k < 2 ^ 30 := by
        unfold hU
        split <;> split <;> omega
      have u2 : hV (zpw p t n) c l k < 2 ^ 30 := by
        unfold hV
        split <;> omega
      rw [pk_sub_toInt u1 u2, hUV]
      exact zm_iC (zFj_cong ic il is k)
    refine a_loop (σ := a_M) (fun J M' => wX3_openRow X ad ca d x _ 215 [(0, .ref 33), (6, .int (nI J))] M') (fun J M' => (∀ k, k < 11 → M' 37 k = if k < J then nI (zsf2 p n t m row k) else nI (hU (zpw p t n) n s c l k) - nI (hV (zpw p t n) c l k)) ∧ (∀ o, o ≠ 37 → M' o = M1 o)) (n + 2) ?_ ?_ 0 M3 (Nat.zero_le _) ⟨fun k hk => ?_, k2⟩
    · rintro M4 ⟨j1, j2⟩
      refine bX3_openRow_215 _ ?_
      rw [j2 34 (by decide), hfr 34 (by decide) (by decide), hH.1, nI_1]
      refine ⟨fun _ => ⟨rfl, rfl, fun k hk => ?_, fun k hk => ?_, fun o h1 h2 => ?_⟩, fun q => absurd (nI_lt (show n + 1 < n + 2 by omega) (by omega)) q⟩
      · rw [j1 k hk]
        by_cases c5 : k < n + 2
        · rw [if_pos c5]
        · rw [if_neg c5, zsf2_hi (by omega)]
          unfold hU hV
          rw [zpw_hi n k (by omega), zpw_hi n (k - 1) (by omega), if_neg (by omega), if_neg (by omega)]
          simp
          rfl
      · rw [j2 38 (by decide), h38 k hk]
      · rw [j2 o h1, hfr o h1 h2]
    · rintro J M4 hJ ⟨j1, j2⟩ ih
      refine bX3_openRow_215 _ ?_
      rw [j2 34 (by decide), hfr 34 (by decide) (by decide), hH.1, nI_1, hH.2.2.1]
      refine ⟨fun q => absurd q (nI_nlt (by omega) (by omega)), fun _ => ⟨n_in (by omega) (by omega), ?_⟩⟩
      have e1 := j1 J (by omega)
      rw [if_neg (by omega)] at e1
      rw [n_cl (by omega), e1]
      refine ⟨_, kX11_left (by omega) _ (by omega) (by omega), ?_⟩
      rintro v1 M5 ⟨rfl, rfl⟩
      refine ⟨n_in (by omega) (by omega), ?_⟩
      rw [nI_1, kv J]
      refine ih _ ⟨fun k hk => ?_, fun o ho => ?_⟩
      · by_cases c5 : k = J
        · subst c5
          rw [ms_is, if_pos (by omega)]
        · rw [ms_no _ _ _ _ _ _ (fun q => c5 q.2), j1 k hk]
          by_cases c6 : k < J
          · rw [if_pos c6, if_pos (by omega)]
          · rw [if_neg c6, if_neg (by omega)]
      · rw [ms_row _ _ _ _ _ ho, j2 o ho]
    · rw [k1 k hk, if_neg (by omega)]
  · rintro J M2 hJ ⟨g1, g2⟩ ih
    have e34 : M2 34 = M0 34 := by rw [g2 34 (by decide), hfr 34 (by decide) (by decide)]
    have e36 : M2 36 J = nI (zpw p t n J) := by rw [g2 36 (by decide), hfr 36 (by decide) (by decide)]; exact hB J (by omega)
    refine bX3_openRow_112 _ _ _ _ ?_
    rw [e34, hH.1]
    refine ⟨fun q => absurd q (nI_nlt (by omega) (by omega)), fun _ => ⟨n_in (by omega) (by omega), n_in (by omega) (by omega), n_in (by omega) (by omega), ?_⟩⟩
    rw [nI_1]
    refine ⟨n_in (by omega) (by omega), n_in (by omega) (by omega), n_in (by omega) (by omega), ?_⟩
    rw [n_cl (by omega), n_cl (by omega), ms_no _ _ _ _ _ _ (fun q => by omega), e36]
    refine ih _ ⟨fun k hk => ?_, fun o ho => by rw [ms_row _ _ _ _ _ ho, ms_row _ _ _ _ _ ho, g2 o ho]⟩
    by_cases c1 : k = J + 1
    · subst c1
      rw [ms_is, g1 (J + 1) (by omega), if_neg (by omega), if_neg (by omega), if_neg (by omega), if_neg (by omega), if_neg (by omega), if_pos ⟨by omega, Nat.le_refl _⟩, show J + 1 - 1 = J by omega]
      simp only [Nat.zero_add, nI_0, n_mul]
      grind
    · rw [ms_no _ _ _ _ _ _ (fun q => c1 q.2)]
      by_cases c2 : k = J
      · subst c2
        rw [ms_is, g1 k (by omega), if_neg (Nat.lt_irrefl k), if_neg (Nat.lt_irrefl k), if_pos (Nat.lt_succ_self k), if_pos (Nat.lt_succ_self k)]
        by_cases c3 : 1 ≤ k
        · rw [if_pos (show 1 ≤ k ∧ k ≤ k from ⟨c3, Nat.le_refl _⟩), if_pos (show 1 ≤ k ∧ k ≤ k + 1 from ⟨c3, by omega⟩)]
          simp only [← nI_add, ← n_mul, nI_0]
          grind
        · rw [if_neg (show ¬ (1 ≤ k ∧ k ≤ k) from fun q => c3 q.1), if_neg (show ¬ (1 ≤ k ∧ k ≤ k + 1) from fun q => c3 q.1)]
          simp only [← nI_add, ← n_mul, nI_0]
          grind
      · rw [ms_no _ _ _ _ _ _ (fun q => c2 q.2), g1 k hk]
        by_cases c4 : k < J
        · have c5 : k < J + 1 := by omega
          rw [if_pos c4, if_pos c4, if_pos c5, if_pos c5]
          by_cases c3 : 1 ≤ k
          · rw [if_pos (show 1 ≤ k ∧ k ≤ J from ⟨c3, by omega⟩), if_pos (show 1 ≤ k ∧ k ≤ J + 1 from ⟨c3, by omega⟩)]
          · rw [if_neg (show ¬ (1 ≤ k ∧ k ≤ J) from fun q => c3 q.1), if_neg (show ¬ (1 ≤ k ∧ k ≤ J + 1) from fun q => c3 q.1)]
        · have c5 : ¬ k < J + 1 := by omega
          rw [if_neg c4, if_neg c4, if_neg c5, if_neg c5, if_neg (show ¬ (1 ≤ k ∧ k ≤ J) by omega), if_neg (show ¬ (1 ≤ k ∧ k ≤ J + 1) by omega)]
  · rw [h37 k hk, if_neg (by omega), if_neg (by omega), if_neg (by omega)]
    rfl
theorem kX3_openRow (hd : 2 ≤ d) {n r p t e m row : Nat} (hH : rH M 34 n r p t e) (hw : wH n r p t e) (hm : m ≤ 2) (hrow : row < p) (hB : ∀ j, j < 8 → M 36 j = nI (zpw p t n j)) :
    mX3_openRow X ad ca d x [.ref 33, .int (nI row), .int (nI m)] M (q_v (PT x) (fun M' => (∀ j, j < 11 → M' 37 j = nI (zsf2 p n t m row j)) ∧ (∀ j, j < 11 → M' 38 j = 0) ∧ ∀ o, o ≠ 37 → o ≠ 38 → M' o = M o)) := by
  obtain ⟨d, rfl⟩ := a_d1 (show 1 ≤ d by omega)
  obtain ⟨hn, hn2, -, hp, ht1, ht, -⟩ := id hw
  have hpb := zpl_b _ hp
  have hp0 : 0 < p := by omega
  refine eX3_openRow _ _ (bX3_openRow_0 _ _ ?_)
  rw [hH.2.2.1, hH.2.2.2.1]
  by_cases c : m = 2
  · subst c
    refine ⟨fun q => absurd rfl q, fun _ => ?_⟩
    have b1 := n_p2 ht hrow (by omega)
    have b2 := n_p2 ht ht (by omega)
    rw [n_mul]
    refine ⟨_, kX11_left (by omega) _ hp0 (by omega), ?_⟩
    rintro v1 M1 ⟨rfl, rfl⟩
    refine ⟨fun q => absurd rfl q, fun _ => ?_⟩
    rw [hH.2.2.1, hH.2.2.2.1, fa_lit 2, n_mul]
    refine ⟨_, kX11_left (by omega) _ hp0 (by omega), ?_⟩
    rintro v2 M2 ⟨rfl, rfl⟩
    refine ⟨fun q => absurd rfl q, fun _ => ?_⟩
    rw [hH.2.2.1, hH.2.2.2.1, n_mul]
    refine ⟨_, kX11_left (by omega) _ hp0 (by omega), ?_⟩
    rintro v3 M3 ⟨rfl, rfl⟩
    refine ⟨_, kX11_clear (by omega) (o := 37) (N := 11) rfl (by omega), ?_⟩
    rintro M4 rfl
    refine ⟨_, kX11_clear (by omega) (o := 38) (N := 11) rfl (by omega), ?_⟩
    rintro M5 rfl
    rw [zm_nI (by omega), zm_nI (by omega), zm_nI (by omega)]
    refine wX3_openRow_112 (M0 := M3) (by omega) hH hw hB (Nat.mod_lt _ hp0) (Nat.mod_lt _ hp0) (Nat.mod_lt _ hp0) ?_ ?_ ?_ (fun j hj => ?_) (fun j hj => ?_) (fun o h1 h2 => ?_)
    · refine (iC.md hp0 _).trans ?_
      unfold zco
      rw [if_pos rfl, Int.natCast_mul]
      exact iC.rfl _ _
    · refine (iC.md hp0 _).trans ?_
      unfold zsl
      rw [if_pos rfl, Int.natCast_mul]
      exact iC.rfl _ _
    · refine (iC.md hp0 _).trans ?_
      unfold zsq
      rw [if_pos rfl, Int.natCast_mul]
      exact iC.rfl _ _
    · rw [mf_no _ _ _ _ _ _ (show 37 ≠ 38 by decide), mf_in _ _ _ _ _ _ (Nat.zero_le _) hj]
    · rw [mf_in _ _ _ _ _ _ (Nat.zero_le _) hj]
    · rw [mf_no _ _ _ _ _ _ h2, mf_no _ _ _ _ _ _ h1]
  · have hm2 : ¬ nI m = 2 := fun q => c ((nI_eq (b := 2) (by omega) (by omega)).mp q)
    refine ⟨fun _ => ?_, fun q => absurd q hm2⟩
    have b1 : t * m < 2 ^ 20 := by
      have := Nat.mul_le_mul (show t ≤ 97 by omega) hm
      omega
    rw [n_mul]
    refine ⟨_, kX11_left (by omega) _ hp0 (by omega), ?_⟩
    rintro v1 M1 ⟨rfl, rfl⟩
    refine ⟨fun _ => ⟨fun _ => ?_, fun q => absurd q hm2⟩, fun q => absurd q hm2⟩
    refine ⟨_, kX11_clear (by omega) (o := 37) (N := 11) rfl (by omega), ?_⟩
    rintro M4 rfl
    refine ⟨_, kX11_clear (by omega) (o := 38) (N := 11) rfl (by omega), ?_⟩
    rintro M5 rfl
    rw [zm_nI (by omega)]
    refine wX3_openRow_112 (M0 := M1) (l := 0) (s := 0) (by omega) hH hw hB (Nat.mod_lt _ hp0) hp0 hp0 ?_ ?_ ?_ (fun j hj => ?_) (fun j hj => ?_) (fun o h1 h2 => ?_)
    · refine (iC.md hp0 _).trans ?_
      unfold zco
      rw [if_neg c, Int.natCast_mul]
      exact iC.rfl _ _
    · unfold zsl
      rw [if_neg c]
      exact iC.rfl _ _
    · unfold zsq
      rw [if_neg c]
      exact iC.rfl _ _
    · rw [mf_no _ _ _ _ _ _ (show 37 ≠ 38 by decide), mf_in _ _ _ _ _ _ (Nat.zero_le _) hj]
    · rw [mf_in _ _ _ _ _ _ (Nat.zero_le _) hj]
    · rw [mf_no _ _ _ _ _ _ h2, mf_no _ _ _ _ _ _ h1]
/-- the two lower coefficients of Q, as the class takes them -/
def zne (m row last : Nat) : Nat := if m = 2 then row else if m = 1 then last else 0
def zfr (m last : Nat) : Nat := if m = 2 then last else 0
theorem kX3_divides (hd : 2 ≤ d) {n r p t e m row last : Nat} {f : Nat → Nat} (hH : rH M 34 n r p t e) (hw : wH n r p t e) (hm : m ≤ 2) (hrow : row < p) (hlast : last < p) (hf : ∀ j, j < 11 → M 37 j = nI (f j) ∧ f j < p) :
    mX3_divides X ad ca d x [.ref 33, .int (nI row), .int (nI last), .int (nI m)] M (q_i (PT x) (fun s M' => (∀ o, o ≠ 38 → M' o = M o) ∧ (∀ j, n + 1 < j → M' 38 j = M 38 j) ∧ ((s = 1 ∧ (∀ k, k < m → zH p (zne m row last) (zfr m last) f (n + 1) k = 0) ∧ ∀ j, j ≤ n + 1 → M' 38 j = nI (zH p (zne m row last) (zfr m last) f (n + 1) j)) ∨ (s = 0 ∧ ∃ k, k < m ∧ zH p (zne m row last) (zfr m last) f (n + 1) k ≠ 0)))) := by
  obtain ⟨d, rfl⟩ := a_d1 (show 1 ≤ d by omega)
  obtain ⟨hn, hn2, -, hp, ht1, ht, -⟩ := id hw
  have hpb := zpl_b _ hp
  have hp0 : 0 < p := by omega
  generalize hA : zne m row last = A
  generalize hBe : zfr m last = B
  have hAp : A < p := by rw [← hA]; unfold zne; split; omega; split <;> omega
  have hBp : B < p := by rw [← hBe]; unfold zfr; split <;> omega
  have go : wX3_divides X ad ca d x (q_i (PT x) (fun s M' => (∀ o, o ≠ 38 → M' o = M o) ∧ (∀ j, n + 1 < j → M' 38 j = M 38 j) ∧ ((s = 1 ∧ (∀ k, k < m → zH p A B f (n + 1) k = 0) ∧ ∀ j, j ≤ n + 1 → M' 38 j = nI (zH p A B f (n + 1) j)) ∨ (s = 0 ∧ ∃ k, k < m ∧ zH p A B f (n + 1) k ≠ 0)))) 50 [(0, .ref 33), (3, .int (nI m)), (4, .int (nI A)), (5, .int (nI B)), (6, .int 0), (7, .int 0), (8, .int (M 34 0 + 1))] M := by
    rw [hH.1, nI_1]
    have key := a_loop (σ := a_M) (fun s M' => wX3_divides X ad ca d x (q_i (PT x) (fun s M' => (∀ o, o ≠ 38 → M' o = M o) ∧ (∀ j, n + 1 < j → M' 38 j = M 38 j) ∧ ((s = 1 ∧ (∀ k, k < m → zH p A B f (n + 1) k = 0) ∧ ∀ j, j ≤ n + 1 → M' 38 j = nI (zH p A B f (n + 1) j)) ∨ (s = 0 ∧ ∃ k, k < m ∧ zH p A B f (n + 1) k ≠ 0)))) 50 [(0, .ref 33), (3, .int (nI m)), (4, .int (nI A)), (5, .int (nI B)), (6, .int (nI (zH p A B f (n + 1) (n + 2 - s)))), (7, .int (nI (zH p A B f (n + 1) (n + 3 - s)))), (8, .int (nI (n + 2 - s) - 1))] M') (fun s M' => (∀ o, o ≠ 38 → M' o = M o) ∧ (∀ j, n + 1 < j → M' 38 j = M 38 j) ∧ (∀ k, n + 2 - s ≤ k → k < m → zH p A B f (n + 1) k = 0) ∧ ∀ j, n + 2 - s ≤ j → j ≤ n + 1 → M' 38 j = nI (zH p A B f (n + 1) j)) (n + 2) ?_ ?_ 0 M (Nat.zero_le _) ⟨fun _ _ => rfl, fun _ _ => rfl, fun k h1 h2 => zH_top _ _ _ _ _ _ (by omega), fun j h1 h2 => by omega⟩
    · rw [Nat.sub_zero, Nat.sub_zero, zH_top _ _ _ _ _ _ (show n + 1 < n + 2 by omega), zH_top _ _ _ _ _ _ (show n + 1 < n + 3 by omega), show n + 2 = (n + 1) + 1 by omega, nI_pred] at key
      exact key
    · rintro M' ⟨g1, g2, g3, g4⟩
      refine bX3_divides_50 _ _ _ _ _ _ ?_
      rw [Nat.sub_self] at g3 g4 ⊢
      exact ⟨fun _ => ⟨_, rfl, rfl, g1, g2, Or.inl ⟨rfl, fun k hk => g3 k (Nat.zero_le _) hk, fun j hj => g4 j (Nat.zero_le _) hj⟩⟩, fun q => absurd (show nI 0 - 1 < 0 by decide) q⟩
    · rintro s M' hs ⟨g1, g2, g3, g4⟩ ih
      obtain ⟨k, hk⟩ : ∃ k, n + 2 - s = k + 1 := ⟨n + 1 - s, by omega⟩
      have hk3 : n + 3 - s = k + 2 := by omega
      have hk2 : n + 2 - (s + 1) = k := by omega
      have hk4 : n + 3 - (s + 1) = k + 1 := by omega
      rw [hk2, hk4] at ih
      refine bX3_divides_50 _ _ _ _ _ _ ?_
      rw [hk, hk3, nI_pred]
      refine ⟨fun q => absurd q (nI_pos (by omega)), fun _ => ⟨n_in (by omega) (by omega), ?_⟩⟩
      have hfk := hf k (by omega)
      have hz1 := zH_lt (a := A) (b := B) (f := f) (N := n + 1) (j := k + 1) hp0
      have hz2 := zH_lt (a := A) (b := B) (f := f) (N := n + 1) (j := k + 2) hp0
      have b1 := n_p2 hAp hz1 (by omega)
      have b2 := n_p2 hBp hz2 (by omega)
      rw [n_cl (by omega), g1 37 (by decide), g1 34 (by decide), hfk.1, hH.2.2.1, n_mul, n_mul]
      refine ⟨_, kX11_left (by omega) _ hp0 (by omega), ?_⟩
      rintro v1 M2 ⟨rfl, rfl⟩
      have ev : zm (nI (f k) - nI (A * zH p A B f (n + 1) (k + 1)) - nI (B * zH p A B f (n + 1) (k + 2))).toInt p = zH p A B f (n + 1) k := by
        rw [zH_rec p A B f (n + 1) k (by omega), n_sub2 (by omega) (by omega) (by omega), Int.natCast_mul, Int.natCast_mul]
      rw [ev]
      have hz0 := zH_lt (a := A) (b := B) (f := f) (N := n + 1) (j := k) hp0
      have on : (k < m → zH p A B f (n + 1) k = 0) → wX3_divides X ad ca d x (q_i (PT x) (fun s M' => (∀ o, o ≠ 38 → M' o = M o) ∧ (∀ j, n + 1 < j → M' 38 j = M 38 j) ∧ ((s = 1 ∧ (∀ k, k < m → zH p A B f (n + 1) k = 0) ∧ ∀ j, j ≤ n + 1 → M' 38 j = nI (zH p A B f (n + 1) j)) ∨ (s = 0 ∧ ∃ k, k < m ∧ zH p A B f (n + 1) k ≠ 0)))) 99 [(0, .ref 33), (3, .int (nI m)), (4, .int (nI A)), (5, .int (nI B)), (6, .int (nI (zH p A B f (n + 1) (k + 1)))), (8, .int (nI k)), (9, .int (nI (zH p A B f (n + 1) k)))] M2 := by
        intro h0
        refine bX3_divides_99 _ _ _ _ _ _ ⟨n_in (by omega) (by omega), ?_⟩
        rw [n_cl (by omega), n_mm]
        refine ih _ ⟨fun o ho => by rw [ms_row _ _ _ _ _ ho, g1 o ho], fun j hj => by rw [ms_no _ _ _ _ _ _ (fun q => by omega), g2 j hj], fun j h1 h2 => ?_, fun j h1 h2 => ?_⟩
        · by_cases c : j = k
          · subst c; exact h0 h2
          · exact g3 j (by omega) h2
        · by_cases c : j = k
          · subst c; rw [ms_is]
          · rw [ms_no _ _ _ _ _ _ (fun q => c q.2)]
            exact g4 j (by omega) h2
      refine ⟨fun q => on (fun q2 => absurd q (nI_ge q2 (by omega))), fun q => ⟨fun q2 => on (fun _ => ?_), fun q2 => ⟨_, rfl, rfl, g1, g2, Or.inr ⟨rfl, k, ?_, fun q3 => q2 (by rw [q3]; rfl)⟩⟩⟩⟩
      · rw [← nI_0] at q2
        exact (nI_eq (by omega) (by omega)).mp q2
      · rcases Nat.lt_or_ge k m with q3 | q3
        · exact q3
        · exact absurd (nI_le q3 (by omega)) q
  have hm' : m = 0 ∨ m = 1 ∨ m = 2 := by omega
  refine eX3_divides _ _ _ (bX3_divides_0 _ _ _ ?_)
  rcases hm' with rfl | rfl | rfl
  · have e1 : A = 0 := by rw [← hA]; rfl
    have e2 : B = 0 := by rw [← hBe]; rfl
    subst e1
    subst e2
    exact ⟨fun _ => ⟨fun _ => ⟨fun _ => go, fun q => absurd q (by decide)⟩, fun q => absurd q (by decide)⟩, fun q => absurd q (by decide)⟩
  · have e1 : A = last := by rw [← hA]; rfl
    have e2 : B = 0 := by rw [← hBe]; rfl
    subst e1
    subst e2
    exact ⟨fun _ => ⟨fun q => absurd rfl q, fun _ => ⟨fun _ => go, fun q => absurd q (by decide)⟩⟩, fun q => absurd q (by decide)⟩
  · have e1 : A = row := by rw [← hA]; rfl
    have e2 : B = last := by rw [← hBe]; rfl
    subst e1
    subst e2
    exact ⟨fun q => absurd rfl q, fun _ => ⟨fun q => absurd rfl q, fun _ => go⟩⟩
theorem kX3_tell (hd : 2 ≤ d) {n r p t e m row last : Nat} {h : Nat → Nat} (hH : rH M 34 n r p t e) (hw : wH n r p t e) (hm : m ≤ 2) (hB : ∀ j, j < 8 → M 36 j = nI (zpw p t n j)) (hh : ∀ j, j < 11 → M 38 j = nI (h j) ∧ h j < p) :
    mX3_tell X ad ca d x [.ref 33, .int (nI row), .int (nI last), .int (nI m)] M (q_v (PT x) (fun M' => M' 39 m = 1 ∧ (0 < m → M' 39 0 = nI last) ∧ (1 < m → M' 39 1 = nI row) ∧ (∀ j, j ≤ n → M' 40 j = nI ((zpw p t n j + (if j = n then 1 else 0) + h (j + m)) % p)) ∧ ∀ o, o ≠ 39 → o ≠ 40 → M' o = M o)) := by
  obtain ⟨d, rfl⟩ := a_d1 (show 1 ≤ d by omega)
  obtain ⟨hn, hn2, -, hp, ht1, ht, -⟩ := id hw
  have hpb := zpl_b _ hp
  have hp0 : 0 < p := by omega
  refine eX3_tell _ _ _ (bX3_tell_0 _ _ _ ⟨n_in (by omega) (by omega), ?_⟩)
  rw [n_cl (by omega)]
  generalize hM1 : ms (ms (ms M 39 1 (nI row)) 39 0 (nI last)) 39 m 1 = M1
  have f1 : M1 39 m = 1 := by rw [← hM1, ms_is]
  have f2 : 0 < m → M1 39 0 = nI last := fun q => by rw [← hM1, ms_no _ _ _ _ _ _ (fun q2 => by omega), ms_is]
  have f3 : 1 < m → M1 39 1 = nI row := fun q => by rw [← hM1, ms_no _ _ _ _ _ _ (fun q2 => by omega), ms_no _ _ _ _ _ _ (fun q2 => by omega), ms_is]
  have f4 : ∀ o, o ≠ 39 → M1 o = M o := fun o ho => by rw [← hM1, ms_row _ _ _ _ _ ho, ms_row _ _ _ _ _ ho, ms_row _ _ _ _ _ ho]
  refine a_loop (σ := a_M) (fun J M' => wX3_tell X ad ca d x _ 24 [(0, .ref 33), (3, .int (nI m)), (4, .int (nI J))] M') (fun J M' => (∀ j, j < J → M' 40 j = nI ((zpw p t n j + (if j = n then 1 else 0) + h (j + m)) % p)) ∧ ∀ o, o ≠ 40 → M' o = M1 o) (n + 1) ?_ ?_ 0 M1 (Nat.zero_le _) ⟨fun j hj => absurd hj (Nat.not_lt_zero _), fun _ _ => rfl⟩
  · rintro M' ⟨g1, g2⟩
    refine bX3_tell_24 _ _ ?_
    rw [g2 34 (by decide), f4 34 (by decide), hH.1]
    exact ⟨fun _ => ⟨rfl, rfl, by rw [g2 39 (by decide)]; exact f1, fun q => by rw [g2 39 (by decide)]; exact f2 q, fun q => by rw [g2 39 (by decide)]; exact f3 q, fun j hj => g1 j (by omega), fun o h1 h2 => by rw [g2 o h2, f4 o h1]⟩, fun q => absurd (nI_lt (Nat.lt_succ_self n) (by omega)) q⟩
  · rintro J M' hJ ⟨g1, g2⟩ ih
    have e36 : M' 36 J = nI (zpw p t n J) := by rw [g2 36 (by decide), f4 36 (by decide)]; exact hB J (by omega)
    have e38 : M' 38 (J + m) = nI (h (J + m)) := by rw [g2 38 (by decide), f4 38 (by decide)]; exact (hh (J + m) (by omega)).1
    have hz := zpw_lt (v := t) (show 1 < p by omega) n J
    have hz2 := (hh (J + m) (by omega)).2
    refine bX3_tell_24 _ _ ?_
    rw [g2 34 (by decide), f4 34 (by decide), hH.1, hH.2.2.1, nI_add, n_cl (show J < 2 ^ 31 by omega), n_cl (show J + m < 2 ^ 31 by omega), e36, e38]
    have fin : ∀ E : Nat, E = (if J = n then 1 else 0) → wX3_tell X ad ca d x (q_v (PT x) (fun M' => M' 39 m = 1 ∧ (0 < m → M' 39 0 = nI last) ∧ (1 < m → M' 39 1 = nI row) ∧ (∀ j, j ≤ n → M' 40 j = nI ((zpw p t n j + (if j = n then 1 else 0) + h (j + m)) % p)) ∧ ∀ o, o ≠ 39 → o ≠ 40 → M' o = M o)) 24 [(0, .ref 33), (3, .int (nI m)), (4, .int (nI J + 1))] (ms M' 40 J (nI (zm (nI (zpw p t n J + E + h (J + m))).toInt p))) := by
      intro E hE
      have : E ≤ 1 := by rw [hE]; split <;> omega
      rw [zm_nI (by omega), nI_1]
      refine ih _ ⟨fun j hj => ?_, fun o ho => by rw [ms_row _ _ _ _ _ ho, g2 o ho]⟩
      by_cases c : j = J
      · subst c
        rw [ms_is, hE]
      · rw [ms_no _ _ _ _ _ _ (fun q => c q.2)]
        exact g1 j (by omega)
    refine ⟨fun q => absurd q (nI_nlt (by omega) (by omega)), fun _ => ⟨n_in (by omega) (by omega), fun q => ⟨n_in (by omega) (by omega), ?_⟩, fun q => ⟨n_in (by omega) (by omega), ?_⟩⟩⟩
    · rw [← nI_0, nI_add, nI_add]
      refine ⟨_, kX11_left (by omega) _ hp0 (by omega), ?_⟩
      rintro v1 M2 ⟨rfl, rfl⟩
      exact ⟨n_in (by omega) (by omega), fin 0 (by rw [if_neg (fun z => q (by rw [z]))])⟩
    · rw [nI_1, nI_add]
      refine ⟨_, kX11_left (by omega) _ hp0 (by omega), ?_⟩
      rintro v1 M2 ⟨rfl, rfl⟩
      exact ⟨n_in (by omega) (by omega), fin 1 (by rw [if_pos ((nI_eq (by omega) (by omega)).mp q)])⟩
end PR2
