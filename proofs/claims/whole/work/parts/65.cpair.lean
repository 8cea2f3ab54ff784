/-! CONTRACTS 39: Pairs on the class's side: what is shared, and its division -/
/-- what the Q of a row share, as the class holds it -/
def zsf2 (p n t m row j : Nat) : Nat := zm (zFj (zP1 p t n) (zE1 n) (zco t m row) (zsl t m) (zsq t m) j) p
theorem zm_iC {p : Nat} {a b : Int} (h : iC p a b) : zm a p = zm b p := by
  obtain ⟨k, hk⟩ := h
  exact zm_c k hk
def hU (P : Nat → Nat) (n s c l k : Nat) : Nat := P k * s + (if k = n then s + c else 0) + (if k = n + 1 then l else 0)
def hV (P : Nat → Nat) (c l k : Nat) : Nat := P k * c + (if 1 ≤ k then P (k - 1) * l else 0)
theorem hUV {p t n s c l k : Nat} : (hU (zpw p t n) n s c l k : Int) - (hV (zpw p t n) c l k : Int) = zFj (zP1 p t n) (zE1 n) (c : Int) (l : Int) (s : Int) k := by
  unfold hU hV zFj zsh zE1 zP1
  by_cases c1 : 1 ≤ k
  · rw [if_pos c1, if_pos c1, if_pos c1]
    by_cases c2 : k = n
    · rw [if_pos c2, if_pos c2, if_neg (by omega), if_neg (by omega)]
      simp
      grind
    · rw [if_neg c2, if_neg c2]
      by_cases c3 : k = n + 1
      · rw [if_pos c3, if_pos (by omega)]
        simp
        grind
      · rw [if_neg c3, if_neg (by omega)]
        simp
        grind
  · rw [if_neg c1, if_neg c1, if_neg c1]
    by_cases c2 : k = n
    · rw [if_pos c2, if_pos c2, if_neg (by omega)]
      simp
      grind
    · rw [if_neg c2, if_neg c2, if_neg (by omega)]
      simp
      grind
theorem zFj_cong {p : Nat} {P E : Nat → Int} {c l s c' l' s' : Int} (h1 : iC p c c') (h2 : iC p l l') (h3 : iC p s s') (j : Nat) : iC p (zFj P E c l s j) (zFj P E c' l' s' j) := by
  unfold zFj
  exact ((((iC.rfl p _).mul (h3.sub h1)).sub ((iC.rfl p _).mul h2)).add ((iC.rfl p _).mul (h3.add h1))).add ((iC.rfl p _).mul h2)
section PR
variable {X : a_X} {ad : Nat → Nat} {ca : Nat → ClassId} {d x : Nat} {M : a_M}
theorem kX3_fillBase (hd : 2 ≤ d) {n r p t e : Nat} (hH : rH M 34 n r p t e) (hw : wH n r p t e) :
    mX3_fillBase X ad ca d x [.ref 33] M (q_v (PT x) (fun M' => (∀ j, j < 8 → M' 36 j = nI (zpw p t n j)) ∧ ∀ o, o ≠ 36 → M' o = M o)) := by
  obtain ⟨d, rfl⟩ := a_d1 (show 1 ≤ d by omega)
  obtain ⟨hn, hn2, -, hp, ht1, ht, -⟩ := hw
  have hpb := zpl_b _ hp
  have hp1 : 1 < p := by omega
  refine eX3_fillBase (bX3_fillBase_0 ⟨_, kX11_clear (by omega) (o := 36) (N := 8) rfl (by omega), ?_⟩)
  rintro M1 rfl
  refine a_loop (σ := a_M) (fun i M' => wX3_fillBase X ad ca d x _ 16 [(0, .ref 33), (1, .int (nI i))] M') (fun i M' => (∀ j, j < 8 → M' 36 j = nI (zpw p t i j)) ∧ ∀ o, o ≠ 36 → M' o = M o) n ?_ ?_ 0 _ (Nat.zero_le _) ⟨fun j hj => ?_, fun o ho => ?_⟩
  · rintro M' ⟨q1, q2⟩
    refine bX3_fillBase_16 _ ?_
    rw [q2 34 (by decide), hH.1]
    exact ⟨fun _ => ⟨rfl, rfl, q1, q2⟩, fun q => absurd (nI_le (Nat.le_refl n) (by omega)) q⟩
  · rintro i M' hi ⟨q1, q2⟩ ih
    refine bX3_fillBase_16 _ ?_
    rw [q2 34 (by decide), hH.1]
    refine ⟨fun q => absurd q (nI_ge hi (by omega)), fun _ => ?_⟩
    rw [nI_1]
    refine a_loop (σ := a_M) (fun s M2 => wX3_fillBase X ad ca d x _ 31 [(0, .ref 33), (1, .int (nI i)), (2, .int (nI (i + 1 - s)))] M2) (fun s M2 => (∀ j, j < 8 → M2 36 j = nI (if i + 1 - s < j then zpw p t (i + 1) j else zpw p t i j)) ∧ ∀ o, o ≠ 36 → M2 o = M o) (i + 1) ?_ ?_ 0 M' (Nat.zero_le _) ⟨fun j hj => ?_, q2⟩
    · rintro M2 ⟨g1, g2⟩
      refine bX3_fillBase_31 _ _ ?_
      rw [Nat.sub_self]
      refine ⟨fun _ => ?_, fun q => absurd (show nI 0 ≤ 0 by decide) q⟩
      have e0 := g1 0 (by omega)
      rw [if_neg (by omega)] at e0
      have hz := zpw_lt (v := t) hp1 i 0
      have hm2 := n_p2 hz ht (by omega)
      rw [g2 34 (by decide), hH.2.2.1, hH.2.2.2.1, e0, n_mul]
      refine ⟨_, kX11_left (by omega) _ (by omega) (by omega), ?_⟩
      rintro v1 M3 ⟨rfl, rfl⟩
      rw [zm_nI (by omega), nI_1]
      refine ih _ ⟨fun j hj => ?_, fun o ho => ?_⟩
      · by_cases c : j = 0
        · subst c
          rw [ms_is]
          show _ = nI ((zpw p t i 0 * t + (if 0 = 0 then 0 else zpw p t i (0 - 1))) % p)
          rw [if_pos rfl, Nat.add_zero]
        · rw [ms_no _ _ _ _ _ _ (fun q => c q.2), g1 j hj, if_pos (by omega)]
      · rw [ms_row _ _ _ _ _ ho, g2 o ho]
    · rintro s M2 hs ⟨g1, g2⟩ ih2
      obtain ⟨J, hJ⟩ : ∃ J, i + 1 - s = J + 1 := ⟨i - s, by omega⟩
      refine bX3_fillBase_31 _ _ ?_
      rw [hJ]
      refine ⟨fun q => absurd q (nI_nle (by omega) (by omega)), fun _ => ⟨n_in (by omega) (by omega), ?_⟩⟩
      rw [nI_pred]
      refine ⟨n_in (by omega) (by omega), ?_⟩
      have e1 := g1 (J + 1) (by omega)
      have e2 := g1 J (by omega)
      rw [if_neg (by omega)] at e1 e2
      have hz1 := zpw_lt (v := t) hp1 i (J + 1)
      have hz2 := zpw_lt (v := t) hp1 i J
      have hm2 := n_p2 hz1 ht (by omega)
      rw [n_cl (by omega), n_cl (by omega), g2 34 (by decide), hH.2.2.1, hH.2.2.2.1, e1, e2, n_mul, nI_add]
      refine ⟨_, kX11_left (by omega) _ (by omega) (by omega), ?_⟩
      rintro v1 M3 ⟨rfl, rfl⟩
      refine ⟨n_in (by omega) (by omega), ?_⟩
      rw [zm_nI (by omega), n_mm, nI_pred, show J = i + 1 - (s + 1) by omega]
      refine ih2 _ ⟨fun j hj => ?_, fun o ho => ?_⟩
      · by_cases c : j = J + 1
        · subst c
          rw [show i + 1 - (s + 1) = J by omega, ms_is, if_pos (by omega)]
          rfl
        · rw [show i + 1 - (s + 1) = J by omega, ms_no _ _ _ _ _ _ (fun q => c q.2), g1 j hj, hJ]
          by_cases c2 : J + 1 < j
          · rw [if_pos c2, if_pos (by omega)]
          · rw [if_neg c2, if_neg (by omega)]
      · rw [ms_row _ _ _ _ _ ho, g2 o ho]
    · rw [q1 j hj]
      by_cases c : i + 1 - 0 < j
      · rw [if_pos c, zpw_hi i j (by omega), zpw_hi (i + 1) j (by omega)]
      · rw [if_neg c]
  · by_cases c : j = 0
    · subst c
      rw [ms_is]
      rfl
    · rw [ms_no _ _ _ _ _ _ (fun q => c q.2), mf_in _ _ _ _ _ _ (Nat.zero_le _) hj]
      show (0 : Int32) = nI (if j = 0 then 1 else 0)
      rw [if_neg c]
      rfl
  · rw [ms_row _ _ _ _ _ ho, mf_no _ _ _ _ _ _ ho]
end PR
