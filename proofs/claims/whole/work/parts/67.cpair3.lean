/-! CONTRACTS 41: Pairs on the class's side: rows are counted, a pair is found -/
def zla (p m : Nat) : Nat := if m = 0 then 1 else p
def zrw (p m : Nat) : Nat := if m = 2 then p else 1
def zrc (p n t m row : Nat) : Nat := (zfl (fun l => zpr p n t m (row * zla p m + l)) (zla p m)).length
theorem zall_rw (p m : Nat) (hm : m ≤ 2) : zall p m = zrw p m * zla p m := by
  have hm' : m = 0 ∨ m = 1 ∨ m = 2 := by omega
  rcases hm' with rfl | rfl | rfl
  · rfl
  · show p = 1 * p
    omega
  · rfl
theorem zfl_blk (f : Nat → Bool) (b : Nat) : ∀ k, (zfl f (b + k)).length = (zfl f b).length + (zfl (fun l => f (b + l)) k).length
  | 0 => rfl
  | k + 1 => by
    rw [show b + (k + 1) = (b + k) + 1 by omega, zfl_len, zfl_len, zfl_blk f b k]
    omega
theorem zask_f {p m row last : Nat} (hp : 0 < p) (hm : m ≤ 2) (hrow : row < zrw p m) (hlast : last < zla p m) : zask p m (row * zla p m + last) m = 1 ∧ zna m (zask p m (row * zla p m + last)) = zne m row last ∧ znb m (zask p m (row * zla p m + last)) = zfr m last ∧ (∀ t, zco t m (zask p m (row * zla p m + last) 1) = zco t m row) ∧ (0 < m → zask p m (row * zla p m + last) 0 = last) ∧ (1 < m → zask p m (row * zla p m + last) 1 = row) := by
  have hm' : m = 0 ∨ m = 1 ∨ m = 2 := by omega
  rcases hm' with rfl | rfl | rfl
  · exact ⟨rfl, rfl, rfl, fun t => rfl, fun q => absurd q (by omega), fun q => absurd q (by omega)⟩
  · have e : row = 0 := by
      have : row < 1 := hrow
      omega
    subst e
    have e2 : 0 * zla p 1 + last = last := by omega
    rw [e2]
    exact ⟨rfl, rfl, rfl, fun t => rfl, fun _ => rfl, fun q => absurd q (by omega)⟩
  · have hl : last < p := hlast
    have e1 : (row * p + last) % p = last := by rw [Nat.mul_comm, Nat.mul_add_mod, Nat.mod_eq_of_lt hl]
    have e2 : (row * p + last) / p = row := by rw [Nat.mul_comm, Nat.mul_add_div hp, Nat.div_eq_of_lt hl, Nat.add_zero]
    have g0 : zask p 2 (row * zla p 2 + last) 0 = last := e1
    have g1 : zask p 2 (row * zla p 2 + last) 1 = row := e2
    refine ⟨rfl, g1, g0, fun t => ?_, fun _ => g0, fun _ => g1⟩
    rw [g1]
theorem zdiv_f {p n r t e m row last : Nat} (hw : wH n r p t e) (hm : m ≤ 2) (hrow : row < zrw p m) (hlast : last < zla p m) :
    ((∀ k, k < m → zH p (zne m row last) (zfr m last) (zsf2 p n t m row) (n + 1) k = 0) ↔ zpr p n t m (row * zla p m + last) = true) ∧ ∀ j, j ≤ n → zqu p n t m (zask p m (row * zla p m + last)) (j + m) = (zpw p t n j + (if j = n then 1 else 0) + zH p (zne m row last) (zfr m last) (zsf2 p n t m row) (n + 1) (j + m)) % p := by
  obtain ⟨hn, hn2, -, hp, ht1, ht, -⟩ := hw
  have hpb := zpl_b _ hp
  have hp0 : 0 < p := by omega
  obtain ⟨f1, f2, f3, f4, -, -⟩ := zask_f hp0 hm hrow hlast
  have hz : zpr p n t m (row * zla p m + last) = zip p n t m (zask p m (row * zla p m + last)) := rfl
  rw [hz]
  generalize zask p m (row * zla p m + last) = q at f1 f2 f3 f4 ⊢
  have key := zqu_key (q := q) (f := zsf2 p n t m row) (show 1 < p by omega) hn ht hm f1 (fun j => by rw [f4 t]; exact iC.zm hp0 _)
  rw [f2, f3] at key
  have hq : ∀ k, zqu p n t m q k < p := fun k => zH_lt hp0
  have hlow : ∀ k, k < m → zqu p n t m q k = zH p (zne m row last) (zfr m last) (zsf2 p n t m row) (n + 1) k := fun k hk => by
    have h := key (n + 3) k (by omega)
    unfold zsh at h
    rw [if_neg (by omega), Int.add_zero] at h
    exact iC.nat (hq k) (zH_lt hp0) h
  constructor
  · unfold zip
    rw [List.all_eq_true]
    constructor
    · intro h k hk
      have hk := List.mem_range.mp hk
      rw [hlow k hk, h k hk]
      rfl
    · intro h k hk
      have h1 := h k (List.mem_range.mpr hk)
      rw [← hlow k hk]
      simpa using h1
  · intro j hj
    have h := key (n + 3) (j + m) (by omega)
    refine iC.nat (hq _) (Nat.mod_lt _ hp0) (h.trans ?_)
    refine iC.trans ?_ (iC.md hp0 _).symm
    refine ⟨0, ?_⟩
    unfold zsh zGg zP1 zE1
    rw [if_pos (by omega), show j + m - m = j by omega]
    by_cases c : j = n
    · rw [if_pos c, if_pos c]; omega
    · rw [if_neg c, if_neg c]; omega
section PR3
variable {X : a_X} {ad : Nat → Nat} {ca : Nat → ClassId} {d x : Nat} {M : a_M}
theorem kX3_lastsFor (hd : 1 ≤ d) {p m : Nat} (hP : M 34 2 = nI p) (hm : m ≤ 2) : mX3_lastsFor X ad ca d x [.ref 33, .int (nI m)] M (q_i (PT x) (fun s M' => M' = M ∧ s = nI (zla p m))) := by
  obtain ⟨d, rfl⟩ := a_d1 (show 1 ≤ d by omega)
  refine eX3_lastsFor _ (bX3_lastsFor_0 _ ⟨fun q => ⟨_, rfl, rfl, rfl, ?_⟩, fun q => ⟨_, rfl, rfl, rfl, ?_⟩⟩)
  · unfold zla
    rw [if_neg (fun c => q (by rw [c]; rfl)), hP]
  · unfold zla
    rw [← nI_0] at q
    rw [if_pos ((nI_eq (by omega) (by omega)).mp q)]
    rfl
theorem kX3_rowsFor (hd : 2 ≤ d) {p m : Nat} (hP : M 34 2 = nI p) (hp : p ≤ 97) (hm : m ≤ 2) : mX3_rowsFor X ad ca d x [.ref 33, .int (nI m)] M (q_i (PT x) (fun s M' => M' = M ∧ s = nI (zrw p m))) := by
  obtain ⟨d, rfl⟩ := a_d1 (show 1 ≤ d by omega)
  refine eX3_rowsFor _ (bX3_rowsFor_0 _ ⟨fun q => ⟨_, rfl, rfl, rfl, ?_⟩, fun q => ⟨_, kJ9_min (by omega) _ _, ?_⟩⟩)
  · unfold zrw
    rw [if_neg (fun c => q (by rw [c]; rfl))]
    rfl
  · rintro v1 M1 ⟨rfl, rfl⟩
    refine ⟨_, rfl, rfl, rfl, ?_⟩
    have e : m = 2 := (nI_eq (b := 2) (by omega) (by omega)).mp q
    unfold zrw
    rw [if_pos e, hP]
    by_cases c : p = 97
    · subst c
      rfl
    · rw [show (97 : Int32) = nI 97 from rfl, if_neg (nI_nlt (a := 97) (show p ≤ 97 by omega) (by omega))]
theorem kX3_countRow (hd : 3 ≤ d) {n r p t e m row : Nat} (hH : rH M 34 n r p t e) (hw : wH n r p t e) (hm : m ≤ 2) (hrow : row < zrw p m) (hB : ∀ j, j < 8 → M 36 j = nI (zpw p t n j)) :
    mX3_countRow X ad ca d x [.ref 33, .int (nI row), .int (nI m)] M (q_i (PT x) (fun s M' => s = nI (zrc p n t m row) ∧ ∀ o, o ≠ 37 → o ≠ 38 → M' o = M o)) := by
  obtain ⟨d, rfl⟩ := a_d1 (show 1 ≤ d by omega)
  obtain ⟨hn, hn2, -, hp, ht1, ht, -⟩ := id hw
  have hpb := zpl_b _ hp
  have hp0 : 0 < p := by omega
  have hla : zla p m ≤ 97 := by unfold zla; split <;> omega
  have hlap : zla p m ≤ p := by unfold zla; split <;> omega
  have hrwp : zrw p m ≤ p := by unfold zrw; split <;> omega
  refine eX3_countRow _ _ (bX3_countRow_0 _ _ ⟨_, kX3_openRow (by omega) hH hw hm (by omega) hB, ?_⟩)
  rintro M1 ⟨o1, -, o3⟩
  refine a_loop (σ := a_M) (fun l M' => wX3_countRow X ad ca d x _ 11 [(0, .ref 33), (1, .int (nI row)), (2, .int (nI m)), (3, .int (nI (zfl (fun l => zpr p n t m (row * zla p m + l)) l).length)), (4, .int (nI l))] M') (fun l M' => (∀ j, j < 11 → M' 37 j = nI (zsf2 p n t m row j)) ∧ ∀ o, o ≠ 37 → o ≠ 38 → M' o = M o) (zla p m) ?_ ?_ 0 M1 (Nat.zero_le _) ⟨o1, o3⟩
  · rintro M' ⟨g1, g2⟩
    refine bX3_countRow_11 _ _ _ _ ⟨_, kX3_lastsFor (p := p) (by omega) (by rw [g2 34 (by decide) (by decide)]; exact hH.2.2.1) hm, ?_⟩
    rintro v1 M2 ⟨rfl, rfl⟩
    exact ⟨fun _ => ⟨_, rfl, rfl, rfl, g2⟩, fun q => absurd (nI_le (Nat.le_refl _) (by omega)) q⟩
  · rintro l M' hl ⟨g1, g2⟩ ih
    have e34 := g2 34 (by decide) (by decide)
    refine bX3_countRow_11 _ _ _ _ ⟨_, kX3_lastsFor (p := p) (by omega) (by rw [e34]; exact hH.2.2.1) hm, ?_⟩
    rintro v1 M2 ⟨rfl, rfl⟩
    refine ⟨fun q => absurd q (nI_ge hl (by omega)), fun _ => ⟨_, kX3_divides (f := zsf2 p n t m row) (by omega) (hH.same e34) hw hm (by omega) (by omega) (fun j hj => ⟨g1 j hj, zsf2_lt hp0⟩), ?_⟩⟩
    rintro v2 M3 ⟨k1, k2, k3⟩
    have hdv := (zdiv_f hw hm hrow hl).1
    have hlen := zfl_len (fun l => zpr p n t m (row * zla p m + l)) l
    have on : ∀ c : Nat, c = (zfl (fun l => zpr p n t m (row * zla p m + l)) (l + 1)).length → wX3_countRow X ad ca d x (q_i (PT x) (fun s M' => s = nI (zrc p n t m row) ∧ ∀ o, o ≠ 37 → o ≠ 38 → M' o = M o)) 35 [(0, .ref 33), (1, .int (nI row)), (2, .int (nI m)), (3, .int (nI c)), (4, .int (nI l))] M3 := by
      rintro c rfl
      refine bX3_countRow_35 _ _ _ _ ?_
      rw [nI_1]
      exact ih M3 ⟨fun j hj => by rw [k1 37 (by decide)]; exact g1 j hj, fun o h1 h2 => by rw [k1 o h2, g2 o h1 h2]⟩
    refine ⟨fun q => on _ ?_, fun q => ?_⟩
    · rcases k3 with ⟨e1, -⟩ | ⟨-, k, hk, hne⟩
      · rw [e1] at q; exact absurd q (by decide)
      · rw [hlen, if_neg (fun z => hne (hdv.mpr z k hk)), Nat.add_zero]
    · rw [nI_1]
      refine on _ ?_
      rcases k3 with ⟨-, e2, -⟩ | ⟨e1, -⟩
      · rw [hlen, if_pos (hdv.mp e2)]
      · exact absurd e1 q
theorem kX3_pick (hd : 3 ≤ d) {n r p t e m row i : Nat} (hH : rH M 34 n r p t e) (hw : wH n r p t e) (hm : m ≤ 2) (hrow : row < zrw p m) (hB : ∀ j, j < 8 → M 36 j = nI (zpw p t n j)) (hi : i < zrc p n t m row) :
    mX3_pick X ad ca d x [.ref 33, .int (nI row), .int (nI m), .int (nI i)] M (q_i (PT x) (fun s M' => s = 1 ∧ (∃ l, l < zla p m ∧ zpr p n t m (row * zla p m + l) = true ∧ (zfl (fun l => zpr p n t m (row * zla p m + l)) l).length = i ∧ (∀ z, z ≤ m → M' 39 z = nI (zask p m (row * zla p m + l) z)) ∧ ∀ j, j ≤ n → M' 40 j = nI (zqu p n t m (zask p m (row * zla p m + l)) (j + m))) ∧ ∀ o, o < 37 ∨ 40 < o → M' o = M o)) := by
  obtain ⟨d, rfl⟩ := a_d1 (show 1 ≤ d by omega)
  obtain ⟨hn, hn2, -, hp, ht1, ht, -⟩ := id hw
  have hpb := zpl_b _ hp
  have hp0 : 0 < p := by omega
  have hla : zla p m ≤ 97 := by unfold zla; split <;> omega
  have hlap : zla p m ≤ p := by unfold zla; split <;> omega
  have hrwp : zrw p m ≤ p := by unfold zrw; split <;> omega
  have hi97 : i < 97 := by
    have := zfl_llen (fun l => zpr p n t m (row * zla p m + l)) (zla p m)
    unfold zrc at hi
    omega
  refine eX3_pick _ _ _ (bX3_pick_0 _ _ _ ⟨_, kX3_openRow (by omega) hH hw hm (by omega) hB, ?_⟩)
  rintro M1 ⟨o1, o2, o3⟩
  refine a_loop (σ := a_M) (fun l M' => wX3_pick X ad ca d x _ 12 [(0, .ref 33), (1, .int (nI row)), (2, .int (nI m)), (4, .int (nI (i - (zfl (fun l => zpr p n t m (row * zla p m + l)) l).length))), (5, .int (nI l))] M') (fun l M' => (zfl (fun l => zpr p n t m (row * zla p m + l)) l).length ≤ i ∧ (∀ j, j < 11 → M' 37 j = nI (zsf2 p n t m row j)) ∧ (∀ j, n + 1 < j → j < 11 → M' 38 j = 0) ∧ ∀ o, o ≠ 37 → o ≠ 38 → M' o = M o) (zla p m) ?_ ?_ 0 M1 (Nat.zero_le _) ⟨Nat.zero_le _, o1, fun j _ hj => o2 j hj, o3⟩
  · rintro M' ⟨g0, -, -, -⟩
    unfold zrc at hi
    omega
  · rintro l M' hl ⟨g0, g1, g2, g3⟩ ih
    have e34 := g3 34 (by decide) (by decide)
    refine bX3_pick_12 _ _ _ _ ⟨_, kX3_lastsFor (p := p) (by omega) (by rw [e34]; exact hH.2.2.1) hm, ?_⟩
    rintro v1 M2 ⟨rfl, rfl⟩
    refine ⟨fun q => absurd q (nI_ge hl (by omega)), fun _ => ⟨_, kX3_divides (f := zsf2 p n t m row) (by omega) (hH.same e34) hw hm (by omega) (by omega) (fun j hj => ⟨g1 j hj, zsf2_lt hp0⟩), ?_⟩⟩
    rintro v2 M3 ⟨k1, k2, k3⟩
    have hdv := zdiv_f hw hm hrow hl
    have hlen := zfl_len (fun l => zpr p n t m (row * zla p m + l)) l
    have e34' : M3 34 = M 34 := by rw [k1 34 (by decide), e34]
    have on : ∀ c : Nat, (zfl (fun l => zpr p n t m (row * zla p m + l)) (l + 1)).length ≤ i → c = i - (zfl (fun l => zpr p n t m (row * zla p m + l)) (l + 1)).length → wX3_pick X ad ca d x (q_i (PT x) (fun s M' => s = 1 ∧ (∃ l, l < zla p m ∧ zpr p n t m (row * zla p m + l) = true ∧ (zfl (fun l => zpr p n t m (row * zla p m + l)) l).length = i ∧ (∀ z, z ≤ m → M' 39 z = nI (zask p m (row * zla p m + l) z)) ∧ ∀ j, j ≤ n → M' 40 j = nI (zqu p n t m (zask p m (row * zla p m + l)) (j + m))) ∧ ∀ o, o < 37 ∨ 40 < o → M' o = M o)) 51 [(0, .ref 33), (1, .int (nI row)), (2, .int (nI m)), (4, .int (nI c)), (5, .int (nI l))] M3 := by
      rintro c hc rfl
      refine bX3_pick_51 _ _ _ _ ?_
      rw [nI_1]
      exact ih M3 ⟨hc, fun j hj => by rw [k1 37 (by decide)]; exact g1 j hj, fun j h1 h2 => by rw [k2 j h1]; exact g2 j h1 h2, fun o h1 h2 => by rw [k1 o h2, g3 o h1 h2]⟩
    refine ⟨fun q => ?_, fun q => ?_⟩
    · rcases k3 with ⟨e1, -⟩ | ⟨-, k, hk, hne⟩
      · rw [e1] at q; exact absurd q (by decide)
      · rw [if_neg (fun z => hne (hdv.1.mpr z k hk)), Nat.add_zero] at hlen
        exact on _ (by omega) (by omega)
    · have hyes : (∀ k, k < m → zH p (zne m row l) (zfr m l) (zsf2 p n t m row) (n + 1) k = 0) ∧ ∀ j, j ≤ n + 1 → M3 38 j = nI (zH p (zne m row l) (zfr m l) (zsf2 p n t m row) (n + 1) j) := by
        rcases k3 with ⟨-, e2, e3⟩ | ⟨e1, -⟩
        · exact ⟨e2, e3⟩
        · exact absurd e1 q
      have hpr := hdv.1.mp hyes.1
      rw [if_pos hpr] at hlen
      refine ⟨fun q2 => ?_, fun q2 => ?_⟩
      · have hne : i - (zfl (fun l => zpr p n t m (row * zla p m + l)) l).length ≠ 0 := fun z => q2 (by rw [z]; rfl)
        obtain ⟨y, hy⟩ : ∃ y, i - (zfl (fun l => zpr p n t m (row * zla p m + l)) l).length = y + 1 := ⟨i - (zfl (fun l => zpr p n t m (row * zla p m + l)) l).length - 1, by omega⟩
        rw [hy, n_mm, nI_pred]
        exact on _ (by omega) (by omega)
      · rw [← nI_0] at q2
        have hz := (nI_eq (by omega) (by omega)).mp q2
        have hB3 : ∀ j, j < 8 → M3 36 j = nI (zpw p t n j) := fun j hj => by rw [k1 36 (by decide), g3 36 (by decide) (by decide)]; exact hB j hj
        have h38 : ∀ j, j < 11 → M3 38 j = nI (zH p (zne m row l) (zfr m l) (zsf2 p n t m row) (n + 1) j) ∧ zH p (zne m row l) (zfr m l) (zsf2 p n t m row) (n + 1) j < p := fun j hj => by
          refine ⟨?_, zH_lt hp0⟩
          by_cases c : j ≤ n + 1
          · exact hyes.2 j c
          · rw [k2 j (by omega), g2 j (by omega) hj, zH_top _ _ _ _ _ _ (by omega)]
            rfl
        refine ⟨_, kX3_tell (by omega) (hH.same e34') hw hm hB3 h38, ?_⟩
        rintro M4 ⟨t1, t2, t3, t4, t5⟩
        obtain ⟨a1, -, -, -, a5, a6⟩ := zask_f hp0 hm hrow hl
        refine ⟨_, rfl, rfl, rfl, ⟨l, hl, hpr, by omega, fun z hz2 => ?_, fun j hj => ?_⟩, fun o ho => ?_⟩
        · by_cases c : z = m
          · subst c; rw [t1, a1]; rfl
          · by_cases c0 : z = 0
            · subst c0; rw [t2 (by omega), a5 (by omega)]
            · have c1 : z = 1 := by omega
              subst c1; rw [t3 (by omega), a6 (by omega)]
        · rw [t4 j hj, hdv.2 j hj]
        · rw [t5 o (by omega) (by omega), k1 o (by omega), g3 o (by omega) (by omega)]
/-- the counts of the rows, as Pairs keeps them -/
def cPa (M : a_M) : Prop := M 33 1 = 0 ∨ (M 33 1 = 1 ∧ ∃ n r p t e, wH n r p t e ∧ rH M 34 n r p t e ∧ ∀ row, row < p → M 35 row = nI (zrc p n t 2 row))
theorem cPa.same {M M' : a_M} (h : cPa M) (hm : ∀ i, i = 33 ∨ i = 34 ∨ i = 35 → M' i = M i) : cPa M' := by
  rcases h with h | ⟨h, n, r, p, t, e, h1, h2, h3⟩
  · exact Or.inl (by rw [hm 33 (by omega)]; exact h)
  · exact Or.inr ⟨by rw [hm 33 (by omega)]; exact h, n, r, p, t, e, h1, h2.same (hm 34 (by omega)), fun row hr => by rw [hm 35 (by omega)]; exact h3 row hr⟩
/-- Pairs is ready for m -/
def cPr (M : a_M) (n r p t e m : Nat) : Prop := rH M 34 n r p t e ∧ (∀ j, j < 8 → M 36 j = nI (zpw p t n j)) ∧ (m = 2 → ∀ row, row < p → M 35 row = nI (zrc p n t 2 row)) ∧ cPa M
theorem kX3_countRows (hd : 4 ≤ d) {o n r p t e m : Nat} (hL : LY[o]? = some (6, 5)) (ho : o ≠ 34) (hH : rH M o n r p t e) (hw : wH n r p t e) (hm : m ≤ 2) (hC : cPa M) :
    mX3_countRows X ad ca d x [.ref 33, .ref o, .int (nI m)] M (q_v (PT x) (fun M' => cPr M' n r p t e m ∧ ∀ i, i < 33 ∨ 38 < i → M' i = M i)) := by
  obtain ⟨d, rfl⟩ := a_d1 (show 1 ≤ d by omega)
  obtain ⟨hn, hn2, hr1, hp, ht1, ht, he⟩ := id hw
  have hpb := zpl_b _ hp
  have hp0 : 0 < p := by omega
  have go : ∀ M1 : a_M, rH M1 34 n r p t e → cPa M1 → (∀ i, i < 33 ∨ 38 < i → M1 i = M i) → wX3_countRows X ad ca d x (q_v (PT x) (fun M' => cPr M' n r p t e m ∧ ∀ i, i < 33 ∨ 38 < i → M' i = M i)) 24 [(0, .ref 33), (2, .int (nI m))] M1 := by
    intro M1 h1 h2 h3
    refine bX3_countRows_24 _ ⟨_, kX3_fillBase (by omega) h1 hw, ?_⟩
    rintro M2 ⟨g1, g2⟩
    have r2 := h1.same (g2 34 (by decide))
    have c2 := h2.same (M' := M2) (fun i hi => g2 i (by omega))
    have f2 : ∀ i, i < 33 ∨ 38 < i → M2 i = M i := fun i hi => by rw [g2 i (by omega), h3 i hi]
    refine ⟨fun q => ⟨rfl, rfl, ⟨r2, g1, fun z => absurd (by rw [z]; rfl) q, c2⟩, f2⟩, fun q => ?_⟩
    have hm2 : m = 2 := (nI_eq (b := 2) (by omega) (by omega)).mp q
    subst hm2
    refine ⟨fun q2 => ?_, fun q2 => ?_⟩
    · rcases c2 with c2 | ⟨c2, n', r', p', t', e', w', h', hc⟩
      · exact absurd c2 q2
      · obtain ⟨rfl, rfl, rfl, rfl, rfl⟩ := rH_one h' r2 w' hw (fun _ _ => rfl)
        exact ⟨rfl, rfl, ⟨r2, g1, fun _ => hc, Or.inr ⟨c2, _, _, _, _, _, w', h', hc⟩⟩, f2⟩
    · refine a_loop (σ := a_M) (fun row M' => wX3_countRows X ad ca d x _ 42 [(0, .ref 33), (2, .int (nI 2)), (3, .int (nI row))] M') (fun row M' => rH M' 34 n r p t e ∧ (∀ j, j < 8 → M' 36 j = nI (zpw p t n j)) ∧ (∀ a, a < row → M' 35 a = nI (zrc p n t 2 a)) ∧ ∀ i, i < 33 ∨ 38 < i → M' i = M i) p ?_ ?_ 0 M2 (Nat.zero_le _) ⟨r2, g1, fun a ha => absurd ha (Nat.not_lt_zero _), f2⟩
      · rintro M3 ⟨k1, k2, k3, k4⟩
        refine bX3_countRows_42 _ _ ⟨_, kX3_rowsFor (by omega) k1.2.2.1 (by omega) hm, ?_⟩
        rintro v1 M4 ⟨rfl, rfl⟩
        refine ⟨fun _ => ⟨rfl, rfl, ?_, fun i hi => by rw [ms_row _ _ _ _ _ (by omega), k4 i hi]⟩, fun q3 => absurd (nI_le (Nat.le_refl _) (show p < 2 ^ 31 by omega)) q3⟩
        have r4 : rH (ms M4 33 1 1) 34 n r p t e := k1.same (ms_row _ _ _ _ _ (by decide))
        have b4 : ∀ row, row < p → ms M4 33 1 1 35 row = nI (zrc p n t 2 row) := fun row h => by rw [ms_row _ _ _ _ _ (by decide)]; exact k3 row h
        exact ⟨r4, fun j hj => by rw [ms_row _ _ _ _ _ (by decide)]; exact k2 j hj, fun _ => b4, Or.inr ⟨ms_is _ _ _ _, _, _, _, _, _, hw, r4, b4⟩⟩
      · rintro row M3 hrow ⟨k1, k2, k3, k4⟩ ih
        refine bX3_countRows_42 _ _ ⟨_, kX3_rowsFor (by omega) k1.2.2.1 (by omega) hm, ?_⟩
        rintro v1 M4 ⟨rfl, rfl⟩
        refine ⟨fun q3 => absurd q3 (nI_ge hrow (show p < 2 ^ 31 by omega)), fun _ => ⟨_, kX3_countRow (by omega) k1 hw hm hrow k2, ?_⟩⟩
        rintro v2 M5 ⟨rfl, j2⟩
        refine ⟨n_in (by omega) (by omega), ?_⟩
        rw [n_cl (by omega), nI_1]
        refine ih _ ⟨k1.same (by rw [ms_row _ _ _ _ _ (by decide), j2 34 (by decide) (by decide)]), fun j hj => by rw [ms_row _ _ _ _ _ (by decide), j2 36 (by decide) (by decide)]; exact k2 j hj, fun a ha => ?_, fun i hi => by rw [ms_row _ _ _ _ _ (by omega), j2 i (by omega) (by omega), k4 i hi]⟩
        by_cases c : a = row
        · subst c; rw [ms_is]
        · rw [ms_no _ _ _ _ _ _ (fun z => c z.2), j2 35 (by decide) (by decide)]
          exact k3 a (by omega)
  refine eX3_countRows _ _ (bX3_countRows_0 _ _ hL ⟨_, kX6_isLike (by omega) (o := 34) (o2 := o) rfl hL, ?_⟩)
  rintro v1 M1 ⟨rfl, hv⟩
  refine ⟨fun q => ?_, fun q => ⟨_, kX6_copyFrom (by omega) (o := 34) (o2 := o) rfl hL (n := n) (r := r) (p := p) (t := t) (e := e) (hH.same (ms_row _ _ _ _ _ (ly_ne hL (show LY[33]? = some (3, 8) from rfl) (by decide)))) hr1, ?_⟩⟩
  · rcases hv with ⟨-, hk⟩ | ⟨hv, -⟩
    · refine go M1 ⟨?_, ?_, ?_, ?_, ?_⟩ hC (fun _ _ => rfl)
      · rw [hk 0 (by omega)]; exact hH.1
      · rw [hk 1 (by omega)]; exact hH.2.1
      · rw [hk 2 (by omega)]; exact hH.2.2.1
      · rw [hk 3 (by omega)]; exact hH.2.2.2.1
      · rw [hk 4 (by omega)]; exact hH.2.2.2.2
    · exact absurd hv q
  · rintro M2 ⟨g1, g2⟩
    exact go M2 g1 (Or.inl (by rw [g2 33 (by decide), ms_is])) (fun i hi => by rw [g2 i (by omega), ms_row _ _ _ _ _ (by omega)])
theorem kX3_countAt (hd : 4 ≤ d) {n r p t e m row : Nat} (hw : wH n r p t e) (hC : cPr M n r p t e m) (hm : m ≤ 2) (hrow : row < zrw p m) :
    mX3_countAt X ad ca d x [.ref 33, .int (nI row), .int (nI m)] M (q_i (PT x) (fun s M' => s = nI (zrc p n t m row) ∧ cPr M' n r p t e m ∧ ∀ o, o ≠ 37 → o ≠ 38 → M' o = M o)) := by
  obtain ⟨d, rfl⟩ := a_d1 (show 1 ≤ d by omega)
  obtain ⟨c1, c2, c3, c4⟩ := id hC
  have hpb := zpl_b _ hw.2.2.2.1
  have hrwp : zrw p m ≤ p := by unfold zrw; split <;> omega
  have go : wX3_countAt X ad ca d x (q_i (PT x) (fun s M' => s = nI (zrc p n t m row) ∧ cPr M' n r p t e m ∧ ∀ o, o ≠ 37 → o ≠ 38 → M' o = M o)) 23 [(0, .ref 33), (1, .int (nI row)), (2, .int (nI m))] M := by
    refine bX3_countAt_23 _ _ ⟨_, kX3_countRow (by omega) c1 hw hm hrow c2, ?_⟩
    rintro v1 M1 ⟨rfl, k2⟩
    exact ⟨_, rfl, rfl, rfl, ⟨c1.same (k2 34 (by decide) (by decide)), fun j hj => by rw [k2 36 (by decide) (by decide)]; exact c2 j hj, fun q a ha => by rw [k2 35 (by decide) (by decide)]; exact c3 q a ha, c4.same (fun i hi => k2 i (by omega) (by omega))⟩, k2⟩
  refine eX3_countAt _ _ (bX3_countAt_0 _ _ ⟨fun _ => go, fun q => ⟨fun q2 => go, fun q2 => ⟨n_in (by omega) (by omega), _, rfl, rfl, ?_, hC, fun _ _ _ => rfl⟩⟩⟩)
  have hm2 : m = 2 := (nI_eq (b := 2) (by omega) (by omega)).mp q
  subst hm2
  rw [n_cl (by omega)]
  exact c3 rfl row hrow
end PR3
