/-! CONTRACTS 42: pair on the class's side -/
theorem zv_md {p a b : Nat} : zv p (a % p) b = zv p a b := by
  unfold zv
  rw [Nat.mod_mul_mod]
theorem zfl_row (p n t m row : Nat) : (zfl (zpr p n t m) ((row + 1) * zla p m)).length = (zfl (zpr p n t m) (row * zla p m)).length + zrc p n t m row := by
  rw [Nat.succ_mul, zfl_blk]
  rfl
theorem zps_l (p n t m : Nat) (hm : m ≤ 2) : zps p n t m = zfl (zpr p n t m) (zrw p m * zla p m) := by
  unfold zps
  rw [zall_rw p m hm]
section PR4
variable {X : a_X} {ad : Nat → Nat} {ca : Nat → ClassId} {d x : Nat} {M : a_M} {S : Nat → Nat} {V : Nat → Nat → Nat}
theorem kX3_howMany (hd : 5 ≤ d) {o n r p t e m : Nat} (hL : LY[o]? = some (6, 5)) (ho : o ≠ 34) (hH : rH M o n r p t e) (hw : wH n r p t e) (hm : m ≤ 2) (hC : cPa M) :
    mX3_howMany X ad ca d x [.ref 33, .ref o, .int (nI m)] M (q_i (PT x) (fun s M' => s = nI (zps p n t m).length ∧ cPa M' ∧ ∀ i, i < 33 ∨ 38 < i → M' i = M i)) := by
  obtain ⟨d, rfl⟩ := a_d1 (show 1 ≤ d by omega)
  have hpb := zpl_b _ hw.2.2.2.1
  have hrwp : zrw p m ≤ p := by unfold zrw; split <;> omega
  refine eX3_howMany _ _ (bX3_howMany_0 _ _ hL ⟨_, kX3_countRows (by omega) hL ho hH hw hm hC, ?_⟩)
  rintro M1 ⟨g1, g2⟩
  refine a_loop (σ := a_M) (fun row M' => wX3_howMany X ad ca d x _ 11 [(0, .ref 33), (2, .int (nI m)), (3, .int (nI (zfl (zpr p n t m) (row * zla p m)).length)), (4, .int (nI row))] M') (fun row M' => cPr M' n r p t e m ∧ ∀ i, i < 33 ∨ 38 < i → M' i = M i) (zrw p m) ?_ ?_ 0 M1 (Nat.zero_le _) ⟨g1, g2⟩ |> fun h => by rw [Nat.zero_mul] at h; exact h
  · rintro M2 ⟨k1, k2⟩
    refine bX3_howMany_11 _ _ _ ⟨_, kX3_rowsFor (by omega) k1.1.2.2.1 (by omega) hm, ?_⟩
    rintro v1 M3 ⟨rfl, rfl⟩
    exact ⟨fun _ => ⟨_, rfl, rfl, by rw [zps_l p n t m hm], k1.2.2.2, k2⟩, fun q => absurd (nI_le (Nat.le_refl _) (by omega)) q⟩
  · rintro row M2 hrow ⟨k1, k2⟩ ih
    refine bX3_howMany_11 _ _ _ ⟨_, kX3_rowsFor (by omega) k1.1.2.2.1 (by omega) hm, ?_⟩
    rintro v1 M3 ⟨rfl, rfl⟩
    refine ⟨fun q => absurd q (nI_ge hrow (by omega)), fun _ => ⟨_, kX3_countAt (by omega) hw k1 hm hrow, ?_⟩⟩
    rintro v2 M4 ⟨rfl, j1, j2⟩
    rw [nI_1, nI_add, ← zfl_row]
    exact ih M4 ⟨j1, fun i hi => by rw [j2 i (by omega) (by omega), k2 i hi]⟩
theorem kX3_find (hd : 5 ≤ d) {o n r p t e m i : Nat} (hL : LY[o]? = some (6, 5)) (ho : o ≠ 34) (hH : rH M o n r p t e) (hw : wH n r p t e) (hm : m ≤ 2) (hC : cPa M) (hi : i < 2 ^ 31) :
    mX3_find X ad ca d x [.ref 33, .ref o, .int (nI m), .int (nI i)] M (q_i (PT x) (fun s M' => cPa M' ∧ (∀ i, i < 33 ∨ 40 < i → M' i = M i) ∧ ((s = 1 ∧ ∃ a, (zps p n t m)[i]? = some a ∧ (∀ z, z ≤ m → M' 39 z = nI (zask p m a z)) ∧ ∀ j, j ≤ n → M' 40 j = nI (zqu p n t m (zask p m a) (j + m))) ∨ (s = 0 ∧ (zps p n t m)[i]? = none)))) := by
  obtain ⟨d, rfl⟩ := a_d1 (show 1 ≤ d by omega)
  have hpb := zpl_b _ hw.2.2.2.1
  have hrwp : zrw p m ≤ p := by unfold zrw; split <;> omega
  refine eX3_find _ _ _ (bX3_find_0 _ _ _ hL ⟨_, kX3_countRows (by omega) hL ho hH hw hm hC, ?_⟩)
  rintro M1 ⟨g1, g2⟩
  refine a_loop (σ := a_M) (fun row M' => wX3_find X ad ca d x _ 12 [(0, .ref 33), (2, .int (nI m)), (4, .int (nI (i - (zfl (zpr p n t m) (row * zla p m)).length))), (5, .int (nI row))] M') (fun row M' => (zfl (zpr p n t m) (row * zla p m)).length ≤ i ∧ cPr M' n r p t e m ∧ ∀ i, i < 33 ∨ 38 < i → M' i = M i) (zrw p m) ?_ ?_ 0 M1 (Nat.zero_le _) ⟨by rw [Nat.zero_mul]; exact Nat.zero_le _, g1, g2⟩ |> fun h => by rw [Nat.zero_mul] at h; exact h
  · rintro M2 ⟨k0, k1, k2⟩
    refine bX3_find_12 _ _ _ ⟨_, kX3_rowsFor (by omega) k1.1.2.2.1 (by omega) hm, ?_⟩
    rintro v1 M3 ⟨rfl, rfl⟩
    refine ⟨fun _ => ⟨_, rfl, rfl, k1.2.2.2, fun i hi => k2 i (by omega), Or.inr ⟨rfl, ?_⟩⟩, fun q => absurd (nI_le (Nat.le_refl _) (by omega)) q⟩
    rw [zps_l p n t m hm]
    exact List.getElem?_eq_none k0
  · rintro row M2 hrow ⟨k0, k1, k2⟩ ih
    refine bX3_find_12 _ _ _ ⟨_, kX3_rowsFor (by omega) k1.1.2.2.1 (by omega) hm, ?_⟩
    rintro v1 M3 ⟨rfl, rfl⟩
    refine ⟨fun q => absurd q (nI_ge hrow (by omega)), fun _ => ⟨_, kX3_countAt (by omega) hw k1 hm hrow, ?_⟩⟩
    rintro v2 M4 ⟨rfl, j1, j2⟩
    have hrow2 := zfl_row p n t m row
    have hrc : zrc p n t m row ≤ 97 := by
      have h1 := zfl_llen (fun l => zpr p n t m (row * zla p m + l)) (zla p m)
      have h2 : zla p m ≤ 97 := by unfold zla; split <;> omega
      unfold zrc
      omega
    have f4 : ∀ i, i < 33 ∨ 38 < i → M4 i = M i := fun i hi => by rw [j2 i (by omega) (by omega), k2 i hi]
    refine ⟨fun q => ?_, fun q => ?_⟩
    · have hle := (nI_leI (by omega) (by omega)).mp q
      rw [nI_1, pk_sub hle, show i - (zfl (zpr p n t m) (row * zla p m)).length - zrc p n t m row = i - (zfl (zpr p n t m) ((row + 1) * zla p m)).length by omega]
      exact ih M4 ⟨by omega, j1, f4⟩
    · have hlt : i - (zfl (zpr p n t m) (row * zla p m)).length < zrc p n t m row := Nat.not_le.mp fun h => q (nI_le h (by omega))
      refine ⟨_, kX3_pick (by omega) j1.1 hw hm hrow j1.2.1 hlt, ?_⟩
      rintro v3 M5 ⟨rfl, ⟨l, hl, hpr, hcnt, h39, h40⟩, h5⟩
      refine ⟨Or.inr rfl, _, rfl, rfl, j1.2.2.2.same (fun i hi => h5 i (by omega)), fun i hi => by rw [h5 i (by omega), f4 i (by omega)], Or.inl ⟨rfl, row * zla p m + l, ?_, h39, h40⟩⟩
      rw [zps_l p n t m hm]
      have hlt2 : row * zla p m + l < zrw p m * zla p m := by
        have h6 := Nat.mul_le_mul_right (zla p m) (show row + 1 ≤ zrw p m from hrow)
        rw [Nat.succ_mul] at h6
        omega
      have h7 := zfl_at hlt2 hpr
      rw [zfl_blk, hcnt, show (zfl (zpr p n t m) (row * zla p m)).length + (i - (zfl (zpr p n t m) (row * zla p m)).length) = i by omega] at h7
      exact h7
theorem kX3_energy (hd : 3 ≤ d) {o n r p t e a b : Nat} (hL : LY[o]? = some (6, 5)) (hH : rH M o n r p t e) (hw : wH n r p t e) (h0 : M 40 0 = nI a) (h1 : M 40 1 = nI b) (ha : a < p) (hb : b < p) :
    mX3_energy X ad ca d x [.ref 33, .ref o] M (q_i (PT x) (fun s M' => M' = M ∧ s = if a = 0 then -1 else nI (zv p (t * b % p) a))) := by
  obtain ⟨d, rfl⟩ := a_d1 (show 1 ≤ d by omega)
  have hpb := zpl_b _ hw.2.2.2.1
  have b1 := n_p2 hw.2.2.2.2.2.1 hb (by omega)
  refine eX3_energy _ (bX3_energy_0 _ hL ?_)
  rw [h0, h1, hH.2.2.1, hH.2.2.2.1, n_mul]
  refine ⟨fun q => ⟨_, kX11_over (by omega) hw.2.2.2.1 (by omega) ha, ?_⟩, fun q => ⟨_, rfl, rfl, rfl, ?_⟩⟩
  · rintro v1 M1 ⟨rfl, rfl⟩
    refine ⟨_, rfl, rfl, rfl, ?_⟩
    rw [if_neg (fun z => q (by rw [z]; rfl)), zv_md]
  · rw [← nI_0] at q
    rw [if_pos ((nI_eq (by omega) (by omega)).mp q)]
theorem kX3_move (hd : 3 ≤ d) {o n r p t e a : Nat} (hL : LY[o]? = some (6, 5)) (hH : rH M o n r p t e) (hw : wH n r p t e) (h0 : M 40 0 = nI a) (ha : a < p) :
    mX3_move X ad ca d x [.ref 33, .ref o] M (q_i (PT x) (fun s M' => M' = M ∧ s = if a = 0 then -1 else nI (zv p a (t ^ n % p)))) := by
  obtain ⟨d, rfl⟩ := a_d1 (show 1 ≤ d by omega)
  obtain ⟨hn, hn2, -, hp, ht1, ht, -⟩ := id hw
  have hpb := zpl_b _ hp
  refine eX3_move _ (bX3_move_0 _ hL ?_)
  rw [h0, hH.1, hH.2.2.1, hH.2.2.2.1]
  refine ⟨fun q => ⟨_, kX11_raised (by omega) (show 1 < p by omega) (by omega) (by omega) (by omega), ?_⟩, fun q => ⟨_, rfl, rfl, rfl, ?_⟩⟩
  · rintro v1 M1 ⟨rfl, rfl⟩
    rw [hH.2.2.1]
    refine ⟨_, kX11_over (by omega) hp (by omega) (Nat.mod_lt _ (by omega)), ?_⟩
    rintro v2 M2 ⟨rfl, rfl⟩
    refine ⟨_, rfl, rfl, rfl, ?_⟩
    rw [if_neg (fun z => q (by rw [z]; rfl))]
  · rw [← nI_0] at q
    rw [if_pos ((nI_eq (by omega) (by omega)).mp q)]
theorem kX11_isTrue (hd : 6 ≤ d) {n r p t e m E : Nat} (hH : rH M 45 n r p t e) (hw : wH n r p t e) (hC : cSp M) (hm : m ≤ n) (hE : E < p) :
    mX11_isTrue X ad ca d x [.ref 0, .int (nI m), .int (nI E)] M (q_i (PT x) (fun s M' => cSp M' ∧ (∀ i, (i < 19 ∨ 29 < i) → i ≠ 41 → M' i = M i) ∧ s = if 0 < zof p E (zsec n m).length (zPs p n (zbd n 1) 1 m) then 1 else 0)) := by
  obtain ⟨d, rfl⟩ := a_d1 (show 1 ≤ d by omega)
  obtain ⟨hn, hn2, hr1, hp, ht1, ht, he⟩ := id hw
  have hpb := zpl_b _ hp
  refine eX11_isTrue _ _ (bX11_isTrue_0 _ _ ⟨fun _ => ⟨_, kX6_copyFrom (by omega) (o := 41) (o2 := 45) rfl rfl hH hr1, ?_⟩, fun q => absurd q (nI_m1 (by omega))⟩)
  rintro M1 ⟨g1, g2⟩
  have r1 : rH (ms (ms M1 41 1 1) 41 4 1) 41 n 1 p t 1 := by
    refine ⟨?_, ?_, ?_, ?_, ?_⟩
    · rw [ms_no _ _ _ _ _ _ (by omega), ms_no _ _ _ _ _ _ (by omega)]; exact g1.1
    · rw [ms_no _ _ _ _ _ _ (by omega), ms_is]; rfl
    · rw [ms_no _ _ _ _ _ _ (by omega), ms_no _ _ _ _ _ _ (by omega)]; exact g1.2.2.1
    · rw [ms_no _ _ _ _ _ _ (by omega), ms_no _ _ _ _ _ _ (by omega)]; exact g1.2.2.2.1
    · rw [ms_is]; rfl
  have w1 : wH n 1 p t 1 := ⟨hn, hn2, Nat.le_refl _, hp, ht1, ht, by omega⟩
  have f1 : ∀ i, i ≠ 41 → ms (ms M1 41 1 1) 41 4 1 i = M i := fun i hi => by rw [ms_row _ _ _ _ _ hi, ms_row _ _ _ _ _ hi, g2 i hi]
  refine ⟨_, kX8_look (τ := none) (by omega) (o := 41) rfl (by decide) (hC.same (fun i hi => f1 i (by omega))) r1 w1 hm (fun k hk => by cases hk), ?_⟩
  rintro M2 ⟨s1, s2, s3⟩
  refine ⟨_, kX8_valueAt (by omega) s1.2.1 s1.1.2.2.1 (zSL_len hn hm) (by omega) (by omega) (fun z hz => ⟨s1.2.2 z hz, zSc_lt (by omega) z⟩) hE, ?_⟩
  rintro v3 M3 ⟨rfl, rfl⟩
  have ez : zro0 p (zSL n m none).length (zSc p n 1 1 m none) = zof1 p (zsec n m).length (zPs p n (zbd n 1) 1 m) := by
    rw [zSc_N hn hn2]
    exact zof1_eq (zsec_pos _ hn m hm)
  have eE := congrFun ez E
  unfold zro0 zof1 at eE
  have fr : ∀ i, (i < 19 ∨ 29 < i) → i ≠ 41 → M3 i = M i := fun i h1 h2 => by rw [s3 i h1, f1 i h2]
  have hv := zhr_lt (p := p) (x := E) (c := zSc p n 1 1 m none) (D := (zSL n m none).length) (show 0 < p by omega) ((zSL n m none).length + 1)
  refine ⟨fun q => ⟨_, rfl, rfl, s2, fr, ?_⟩, fun q => ⟨_, rfl, rfl, s2, fr, ?_⟩⟩
  · have hne : zhr p E (zSc p n 1 1 m none) (zSL n m none).length ((zSL n m none).length + 1) ≠ 0 := fun z => q (by rw [z]; rfl)
    rw [if_neg]
    intro h
    rw [decide_eq_true h] at eE
    exact hne (by simpa using eE)
  · rw [← nI_0] at q
    have h0 := (nI_eq (by omega) (by omega)).mp q
    rw [h0] at eE
    rw [if_pos]
    have : decide (0 < zof p E (zsec n m).length (zPs p n (zbd n 1) 1 m)) = true := by rw [← eE]; rfl
    exact of_decide_eq_true this
theorem kX11_isTrue0 (hd : 1 ≤ d) (u : Int32) : mX11_isTrue X ad ca d x [.ref 0, .int u, .int (-1)] M (q_i (PT x) (fun s M' => M' = M ∧ s = 0)) := by
  obtain ⟨d, rfl⟩ := a_d1 (show 1 ≤ d by omega)
  exact eX11_isTrue _ _ (bX11_isTrue_0 _ _ ⟨fun q => absurd rfl q, fun _ => ⟨_, rfl, rfl, rfl, rfl⟩⟩)
/-- what pair changes -/
def cPf (M M' : a_M) : Prop := cSp M' ∧ cPa M' ∧ ∀ i, (i < 19 ∨ 29 < i) → (i < 33 ∨ 41 < i) → M' i = M i
theorem kX11_pair (hd : 7 ≤ d) (u w j : Int32) (hS : cSt M 44 S V) (hw : wSt S V) (hC : cSp M) (hP : cPa M) : mX11_pair X ad ca d x [.ref 0, .int u, .int w, .int j] M (q_i (PT x) (fun s M' => cPf M M' ∧ rPair (S 2) (S 0) (S 3) u w j s)) := by
  obtain ⟨d, rfl⟩ := a_d1 (show 1 ≤ d by omega)
  obtain ⟨hn, hn2, hr1, hp, ht1, ht, he⟩ := id hw.1
  have hpb := zpl_b _ hp
  have hp0 : 0 < S 2 := by omega
  have h45 : rH M 45 (S 0) (S 1) (S 2) (S 3) (S 4) := hS.1
  have no : (¬ ∃ m, m ≤ 2 ∧ u = nI m ∧ -1 ≤ w) → wX11_pair X ad ca d x (q_i (PT x) (fun s M' => cPf M M' ∧ rPair (S 2) (S 0) (S 3) u w j s)) 23 [] M := fun h => bX11_pair_23 ⟨_, rfl, rfl, ⟨hC, hP, fun _ _ _ => rfl⟩, Or.inr ⟨h, rfl⟩⟩
  refine eX11_pair _ _ _ (bX11_pair_0 _ _ _ ⟨fun h => no ?_, fun h1 => ⟨fun h => no ?_, fun h2 => ⟨fun h3 => ?_, fun h => no ?_⟩⟩⟩)
  · rintro ⟨m, hm, rfl, -⟩
    exact nI_pos (by omega) h
  · rintro ⟨m, hm, rfl, -⟩
    exact nI_nlt (a := 2) hm (by omega) h
  · obtain ⟨m, hm, rfl⟩ := nI_of2 (n := 2) (nI_toInt (by omega)) h1 (fa_of_nlt h2)
    refine ⟨fun h4 => ?_, fun h4 => ⟨_, kX3_howMany (by omega) (o := 45) rfl (by decide) h45 hw.1 hm hP, ?_⟩⟩
    · obtain ⟨i, hi, rfl⟩ : ∃ i, i < 2 ^ 31 ∧ w = nI i := by
        rcases n_m1_or h3 with q | q
        · exact absurd q h4
        · exact q
      refine ⟨_, kX3_find (by omega) (o := 45) rfl (by decide) h45 hw.1 hm hP hi, ?_⟩
      rintro v1 M1 ⟨g1, g2, g3⟩
      have f1 : cPf M M1 := ⟨hC.same (fun i hi => g2 i (by omega)), g1, fun i _ hi => g2 i (by omega)⟩
      refine ⟨fun q => ?_, fun q => ⟨_, rfl, rfl, f1, Or.inl ⟨m, hm, rfl, h3, Or.inr ⟨i, hi, rfl, Or.inr ⟨?_, rfl⟩⟩⟩⟩⟩
      · obtain ⟨a, ha, h39, h40⟩ : ∃ a, (zps (S 2) (S 0) (S 3) m)[i]? = some a ∧ (∀ z, z ≤ m → M1 39 z = nI (zask (S 2) m a z)) ∧ ∀ j, j ≤ S 0 → M1 40 j = nI (zqu (S 2) (S 0) (S 3) m (zask (S 2) m a) (j + m)) := by
          rcases g3 with ⟨-, z⟩ | ⟨z, -⟩
          · exact z
          · exact absurd z q
        have hq : ∀ k, zqu (S 2) (S 0) (S 3) m (zask (S 2) m a) k < S 2 := fun k => zH_lt hp0
        have res : ∀ s, zpj (S 2) (S 0) (S 3) m a j s → rPair (S 2) (S 0) (S 3) (nI m) (nI i) j s := fun s hs => Or.inl ⟨m, hm, rfl, h3, Or.inr ⟨i, hi, rfl, Or.inl ⟨a, ha, hs⟩⟩⟩
        have r1 : rH M1 45 (S 0) (S 1) (S 2) (S 3) (S 4) := h45.same (g2 45 (by omega))
        have t0 := h40 0 (by omega)
        have t1 := h40 1 (by omega)
        have go107 : (¬ ∃ z, z ≤ m ∧ j = nI z) → (¬ ∃ z, z ≤ S 0 ∧ j = nI (10 + z)) → wX11_pair X ad ca d x (q_i (PT x) (fun s M' => cPf M M' ∧ rPair (S 2) (S 0) (S 3) (nI m) (nI i) j s)) 107 [(0, .ref 0), (1, .int (nI m)), (3, .int j), (4, .ref 45)] M1 := by
          intro n1 n2
          refine bX11_pair_107 _ _ _ rfl ⟨fun q30 => ⟨_, kX3_energy (by omega) rfl r1 hw.1 t0 t1 (hq _) (hq _), ?_⟩, fun q31 => ⟨_, kX3_move (by omega) rfl r1 hw.1 t0 (hq _), ?_⟩, fun q32 => ⟨_, kX3_energy (by omega) rfl r1 hw.1 t0 t1 (hq _) (hq _), ?_⟩, fun qo => ⟨_, rfl, rfl, f1, res _ (Or.inr (Or.inr ⟨n1, n2, ?_⟩))⟩⟩
          · rintro v2 M2 ⟨rfl, rfl⟩
            refine ⟨_, rfl, rfl, f1, res _ (Or.inr (Or.inr ⟨n1, n2, ?_⟩))⟩
            by_cases c : zqu (S 2) (S 0) (S 3) m (zask (S 2) m a) (0 + m) = 0
            · exact Or.inl ⟨c, by rw [if_pos c, if_neg (by rw [q30]; decide)]⟩
            · exact Or.inr ⟨c, by rw [if_neg c, if_pos q30]; rfl⟩
          · rintro v2 M2 ⟨rfl, rfl⟩
            refine ⟨_, rfl, rfl, f1, res _ (Or.inr (Or.inr ⟨n1, n2, ?_⟩))⟩
            by_cases c : zqu (S 2) (S 0) (S 3) m (zask (S 2) m a) (0 + m) = 0
            · exact Or.inl ⟨c, by rw [if_pos c, if_neg (by rw [q31]; decide)]⟩
            · exact Or.inr ⟨c, by rw [if_neg c, if_neg (by rw [q31]; decide), if_pos q31]⟩
          · rintro v2 M2 ⟨rfl, rfl⟩
            by_cases c : zqu (S 2) (S 0) (S 3) m (zask (S 2) m a) (0 + m) = 0
            · rw [if_pos c]
              refine ⟨_, kX11_isTrue0 (by omega) _, ?_⟩
              rintro v4 M4 ⟨rfl, rfl⟩
              exact ⟨_, rfl, rfl, f1, res _ (Or.inr (Or.inr ⟨n1, n2, Or.inl ⟨c, by rw [if_pos q32]⟩⟩))⟩
            · rw [if_neg c]
              refine ⟨_, kX11_isTrue (by omega) r1 hw.1 f1.1 (show m ≤ S 0 by omega) (zv_lt hp0), ?_⟩
              rintro v4 M4 ⟨k1, k2, k3⟩
              refine ⟨_, rfl, rfl, ⟨k1, f1.2.1.same (fun i hi => k2 i (by omega) (by omega)), fun i h1 h2 => by rw [k2 i h1 (by omega), f1.2.2 i h1 h2]⟩, res _ (Or.inr (Or.inr ⟨n1, n2, Or.inr ⟨c, ?_⟩⟩))⟩
              have e30 : j ≠ 30 := by rw [q32]; decide
              have e31 : j ≠ 31 := by rw [q32]; decide
              rw [k3, if_neg e30, if_neg e31, if_pos q32]
              rfl
          · have e30 : j ≠ 30 := fun z => by rw [z] at qo; exact absurd qo (by decide)
            have e31 : j ≠ 31 := fun z => by rw [z] at qo; exact absurd qo (by decide)
            have e32 : j ≠ 32 := fun z => by rw [z] at qo; exact absurd qo (by decide)
            by_cases c : zqu (S 2) (S 0) (S 3) m (zask (S 2) m a) (0 + m) = 0
            · exact Or.inl ⟨c, by rw [if_neg e32]⟩
            · exact Or.inr ⟨c, by rw [if_neg e30, if_neg e31, if_neg e32]⟩
        have go76 : (¬ ∃ z, z ≤ m ∧ j = nI z) → wX11_pair X ad ca d x (q_i (PT x) (fun s M' => cPf M M' ∧ rPair (S 2) (S 0) (S 3) (nI m) (nI i) j s)) 76 [(0, .ref 0), (1, .int (nI m)), (3, .int j), (4, .ref 45)] M1 := by
          intro n1
          refine bX11_pair_76 _ _ _ rfl ?_
          rw [r1.1, fa_lit 10, nI_add]
          refine ⟨fun q1 => go107 n1 ?_, fun q1 => ⟨fun q2 => go107 n1 ?_, fun q2 => ?_⟩⟩
          · rintro ⟨z, hz, rfl⟩
            exact nI_nlt (show 10 ≤ 10 + z by omega) (by omega) q1
          · rintro ⟨z, hz, rfl⟩
            exact nI_nlt (show 10 + z ≤ 10 + S 0 by omega) (by omega) q2
          · obtain ⟨z, hz1, hz2, rfl⟩ := (n_btw (a := 10) (b := 10 + S 0) rfl rfl (by omega) (by omega)).mp ⟨fa_of_nlt q1, fa_of_nlt q2⟩
            rw [pk_sub hz1]
            refine ⟨n_in (by omega) (by omega), _, rfl, rfl, f1, res _ (Or.inr (Or.inl ⟨z - 10, by omega, by rw [show 10 + (z - 10) = z by omega], ?_⟩))⟩
            rw [n_cl (by omega)]
            exact h40 (z - 10) (by omega)
        refine ⟨fun q1 => go76 ?_, fun q1 => ⟨fun q2 => go76 ?_, fun q2 => ?_⟩⟩
        · rintro ⟨z, hz, rfl⟩
          exact nI_pos (by omega) q1
        · rintro ⟨z, hz, rfl⟩
          exact nI_nlt hz (by omega) q2
        · obtain ⟨z, hz, rfl⟩ := nI_of2 (n := m) (nI_toInt (by omega)) q1 (fa_of_nlt q2)
          refine ⟨n_in (by omega) (by omega), _, rfl, rfl, f1, res _ (Or.inl ⟨z, hz, rfl, ?_⟩)⟩
          rw [n_cl (by omega)]
          exact h39 z hz
      · rcases g3 with ⟨z, -⟩ | ⟨-, z⟩
        · rw [z] at q; exact absurd q (by decide)
        · exact z
    · rintro v2 M2 ⟨rfl, k1, k2⟩
      exact ⟨_, rfl, rfl, ⟨hC.same (fun i hi => k2 i (by omega)), k1, fun i _ hi => k2 i (by omega)⟩, Or.inl ⟨m, hm, rfl, h3, Or.inl ⟨h4, rfl⟩⟩⟩
  · rintro ⟨m, hm, rfl, q⟩
    exact h q
end PR4
