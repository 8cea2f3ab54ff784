/-! CONTRACTS 16: table, commute, keeps on the reference's side -/
/-- what no question changes -/
def mK (M M' : a_M) : Prop := (∀ o, o < 128 → o ≠ 118 → M' o = M o) ∧ ∀ j, j < 35 → M' 118 j = M 118 j
theorem mK.rfl (M : a_M) : mK M M := ⟨fun _ _ _ => Eq.refl _, fun _ _ => Eq.refl _⟩
theorem mK.trans {M M' M'' : a_M} (h : mK M M') (h2 : mK M' M'') : mK M M'' := ⟨fun o q1 q2 => (h2.1 o q1 q2).trans (h.1 o q1 q2), fun j q => (h2.2 j q).trans (h.2 j q)⟩
theorem mK.uf {M M' : a_M} {o lo i : Nat} {f : Nat → Int32} (h : mK M M') (ho : 128 ≤ o) : mK M (mf M' o lo f i) := ⟨fun o2 q1 q2 => (mf_no _ _ _ _ _ _ (by omega)).trans (h.1 o2 q1 q2), fun j q => by rw [mf_no _ _ _ _ _ _ (by omega)]; exact h.2 j q⟩
theorem mK.us {M M' : a_M} {o k : Nat} {v : Int32} (h : mK M M') (ho : 128 ≤ o) : mK M (ms M' o k v) := ⟨fun o2 q1 q2 => (ms_row _ _ _ _ _ (by omega)).trans (h.1 o2 q1 q2), fun j q => by rw [ms_row _ _ _ _ _ (by omega)]; exact h.2 j q⟩
theorem mK.u0 {M M' : a_M} {k : Nat} {v : Int32} (h : mK M M') (hk : 35 ≤ k) : mK M (ms M' 118 k v) := ⟨fun o2 q1 q2 => (ms_row _ _ _ _ _ q2).trans (h.1 o2 q1 q2), fun j q => by rw [ms_no _ _ _ _ _ _ (by omega)]; exact h.2 j q⟩
theorem mT.K {M M' : a_M} {k : Nat} {T : zTx} (h : mT M k T) (hk : mK M M') : mT M' k T := h.same (by rw [hk.1 119 (by omega) (by omega)]) (fun i _ _ => hk.1 i (by omega) (by omega))
theorem mH.K {M M' : a_M} {n r p t e : Nat} (h : mH M n r p t e) (hk : mK M M') : mH M' n r p t e := h.same (hk.1 119 (by omega) (by omega))
theorem mSt.K {M M' : a_M} {α : Nat} {S : Nat → Nat} {V : Nat → Nat → Nat} (h : mSt M α S V) (hα : α = 119 ∨ α = 120) (hk : mK M M') : mSt M' α S V := h.same (hk.1 α (by omega) (by omega))
/-- THE TABLE by the text T for u -/
def zTT (p n t e : Nat) (T : zTx) (u : Nat) (v : Nat → Nat) (y : Nat) : Nat := zTb p n (zW T p t e 0 u) (zW T p t e 1 u) (zW T p t e 2 u) v y
theorem zTT_lt {p n t e : Nat} {T : zTx} {u : Nat} {v : Nat → Nat} {y : Nat} (hp : 0 < p) : zTT p n t e T u v y < p := Nat.mod_lt _ hp
def rTable (p n t e : Nat) (T : zTx) (u w z s : Int32) : Prop := (∃ k a b, k < p ∧ a < 2 ^ n ∧ b < 2 ^ n ∧ u = nI k ∧ w = nI a ∧ z = nI b ∧ s = nI (zTT p n t e T k (zu a) b)) ∨ (¬ (∃ k a b, k < p ∧ a < 2 ^ n ∧ b < 2 ^ n ∧ u = nI k ∧ w = nI a ∧ z = nI b) ∧ s = -1)
/-- F and G commute on the states -/
def zCm (n : Nat) (F G : (Nat → Nat) → Nat → Nat) : Prop := ∀ a, a < 2 ^ n → ∀ y, y < 2 ^ n → G (F (zu a)) y = F (G (zu a)) y
def rCommute (p n t e : Nat) (T : zTx) (u w s : Int32) : Prop := (∃ k l, k < p ∧ l < p ∧ u = nI k ∧ w = nI l ∧ ((s = 1 ∧ zCm n (zTT p n t e T k) (zTT p n t e T l)) ∨ (s = 0 ∧ ¬ zCm n (zTT p n t e T k) (zTT p n t e T l)))) ∨ (¬ (∃ k l, k < p ∧ l < p ∧ u = nI k ∧ w = nI l) ∧ s = 0)
def rKeeps (p n r t e : Nat) (T : zTx) (u s : Int32) : Prop := (∃ k, k < p ∧ u = nI k ∧ ((s = 1 ∧ zCm n (zTT p n t e T k) (zS p n (zbd n r) e)) ∨ (s = 0 ∧ ¬ zCm n (zTT p n t e T k) (zS p n (zbd n r) e)))) ∨ (¬ (∃ k, k < p ∧ u = nI k) ∧ s = 0)
theorem Mt.mono {X : a_X} {ad : Nat → Nat} {ca : Nat → ClassId} {L : a_L} {d : Nat} {y : MethodName} {cc : ByteArray} {nL : Nat} {ret : Option FieldType} {As : List Value} {M : a_M} {P : a_P} {Q Q' : Option Value → a_M → a_P → Prop} (h : Mt X ad ca L d y cc nL ret As M P Q) (hq : ∀ r M' P', Q r M' P' → Q' r M' P') : Mt X ad ca L d y cc nL ret As M P Q' := by
  intro l sz
  refine MetFree.mono (h l sz) (fun _ _ h => h) (fun _ _ _ _ _ h => h) ?_
  rintro a s o t - ⟨⟨⟨r, M', P', h1, h2, h3⟩, h4⟩, h5⟩
  exact ⟨⟨⟨r, M', P', h1, hq _ _ _ h2, h3⟩, h4⟩, h5⟩
theorem Mt.mv {X : a_X} {ad : Nat → Nat} {ca : Nat → ClassId} {L : a_L} {d : Nat} {y : MethodName} {cc : ByteArray} {nL : Nat} {ret : Option FieldType} {As : List Value} {M : a_M} {P P2 : a_P} {Q Q' : a_M → Prop} (h : Mt X ad ca L d y cc nL ret As M P (q_v P2 Q)) (hq : ∀ M', Q M' → Q' M') : Mt X ad ca L d y cc nL ret As M P (q_v P2 Q') := h.mono (fun _ _ _ ⟨h1, h2, h3⟩ => ⟨h1, h2, hq _ h3⟩)
theorem Mt.mi {X : a_X} {ad : Nat → Nat} {ca : Nat → ClassId} {L : a_L} {d : Nat} {y : MethodName} {cc : ByteArray} {nL : Nat} {ret : Option FieldType} {As : List Value} {M : a_M} {P P2 : a_P} {Q Q' : Int32 → a_M → Prop} (h : Mt X ad ca L d y cc nL ret As M P (q_i P2 Q)) (hq : ∀ v M', Q v M' → Q' v M') : Mt X ad ca L d y cc nL ret As M P (q_i P2 Q') := h.mono (fun _ _ _ ⟨v, h1, h2, h3⟩ => ⟨v, h1, h2, hq _ _ h3⟩)
theorem Mt.mr {X : a_X} {ad : Nat → Nat} {ca : Nat → ClassId} {L : a_L} {d : Nat} {y : MethodName} {cc : ByteArray} {nL : Nat} {ret : Option FieldType} {As : List Value} {M : a_M} {P P2 : a_P} {Q Q' : Nat → a_M → Prop} (h : Mt X ad ca L d y cc nL ret As M P (q_r P2 Q)) (hq : ∀ v M', Q v M' → Q' v M') : Mt X ad ca L d y cc nL ret As M P (q_r P2 Q') := h.mono (fun _ _ _ ⟨v, h1, h2, h3⟩ => ⟨v, h1, h2, hq _ _ h3⟩)
section Z17
variable {X : a_X} {ad : Nat → Nat} {ca : Nat → ClassId} {d x : Nat} {M : a_M}
theorem zu_lt {a j p : Nat} (hp : 1 < p) : zu a j < p := by unfold zu; split <;> omega
/-- the same, short -/
theorem kX12_tb (hd : 6 ≤ d) {k n r p t e u : Nat} {T : zTx} {v : Nat → Nat} (hT : mT M k T) (hH : mH M n r p t e) (hw : wH n r p t e) (hu : u < p) (hv : ∀ j, j < 2 ^ n → M 140 j = nI (v j) ∧ v j < p) :
    mX12_tables X ad ca d x [.ref 118, .int (nI u)] M (q_v (PT x) (fun M' => (∀ j, j < 2 ^ n → M' 140 j = nI (zTT p n t e T u v j) ∧ zTT p n t e T u v j < p) ∧ (∀ j, 2 ^ n ≤ j → j < 128 → M' 140 j = 0) ∧ mK M M' ∧ ∀ o, 142 ≤ o → M' o = M o)) := by
  refine (kX12_tables hd hT hH hw hu hv).mv ?_
  rintro M1 ⟨h1, h2, h3, h4⟩
  exact ⟨fun j hj => ⟨h1 j hj, zTT_lt (by have := zpl_b p hw.2.2.2.1; omega)⟩, h2, ⟨fun o q1 q2 => h4 o q2 (by omega) (by omega) (by omega) (by omega) (by omega), fun j hj => h3 j (by omega)⟩, fun o ho => h4 o (by omega) (by omega) (by omega) (by omega) (by omega) (by omega)⟩
theorem kX12_ss (hd : 3 ≤ d) {n r p t e : Nat} {v : Nat → Nat} (hH : mH M n r p t e) (hw : wH n r p t e) (hv : ∀ j, j < 2 ^ n → M 140 j = nI (v j) ∧ v j < p) :
    mX12_sums X ad ca d x [.ref 118] M (q_v (PT x) (fun M' => (∀ j, j < 2 ^ n → M' 140 j = nI (zS p n (zbd n r) e v j) ∧ zS p n (zbd n r) e v j < p) ∧ (∀ j, 2 ^ n ≤ j → j < 128 → M' 140 j = 0) ∧ mK M M' ∧ ∀ o, 142 ≤ o → M' o = M o)) := by
  have hp : 0 < p := by have := zpl_b p hw.2.2.2.1; omega
  refine (kX12_sums hd hH hw hv).mv ?_
  rintro M1 ⟨h1, h2⟩
  have h2n := z_p2 hw.1
  refine ⟨fun j hj => ⟨h1 j (by omega), zS_lt hp⟩, fun j hj1 hj2 => ?_, ⟨fun o q1 q2 => h2 o (by omega) (by omega), fun j hj => by rw [h2 118 (by omega) (by omega)]⟩, fun o ho => h2 o (by omega) (by omega)⟩
  rw [h1 j hj2]
  have : zS p n (zbd n r) e v j = 0 := by
    unfold zS
    rw [zs_zero, Nat.zero_mod]
    intro a ha
    refine zs_zero (fun i hi => ?_)
    unfold zt
    have hb : i < n := by unfold zbd at hi; split at hi <;> omega
    have := ztg_lt n hw.1 hw.2.1 a ha i hb
    rw [if_neg (by omega)]
  rw [this]
  rfl
theorem kX12_unit (hd : 1 ≤ d) {a n p : Nat} (ha : a < 2 ^ n) (hn : n < 8) (hp : 1 < p) : mX12_actedIs X ad ca d x [.ref 118, .int (nI a)] M (q_v (PT x) (fun M' => (∀ j, j < 2 ^ n → M' 140 j = nI (zu a j) ∧ zu a j < p) ∧ (∀ j, 2 ^ n ≤ j → j < 128 → M' 140 j = 0) ∧ mK M M' ∧ ∀ o, 141 ≤ o → M' o = M o)) := by
  have h2n := z_p2 hn
  refine (kX12_actedIs hd (by omega)).mv ?_
  rintro M1 rfl
  refine ⟨fun j hj => ⟨by rw [mf_in _ _ _ _ _ _ (Nat.zero_le _) (by omega), z_unit], zu_lt hp⟩, fun j hj1 hj2 => ?_, (mK.rfl M).uf (by omega), fun o ho => mf_no _ _ _ _ _ _ (by omega)⟩
  rw [mf_in _ _ _ _ _ _ (Nat.zero_le _) (by omega), if_neg (by omega)]
theorem kX12_table (hd : 7 ≤ d) {k n r p t e : Nat} {T : zTx} (hT : mT M k T) (hH : mH M n r p t e) (hw : wH n r p t e) (u w z : Int32) :
    mX12_table X ad ca d x [.ref 118, .int u, .int w, .int z] M (q_i (PT x) (fun s M' => mK M M' ∧ rTable p n t e T u w z s)) := by
  obtain ⟨d, rfl⟩ := a_d1 (show 1 ≤ d by omega)
  have hpb := zpl_b p hw.2.2.2.1
  have h2n := z_p2 hw.1
  refine eX12_table _ _ _ (bX12_table_0 _ _ _ ⟨_, kX12_isNumber (by omega) _ hH.2.2.1 (by omega) (by omega), ?_⟩)
  rintro v1 M1 ⟨rfl, rfl⟩
  have hno : ∀ {s : Int32}, ¬ (∃ k a b, k < p ∧ a < 2 ^ n ∧ b < 2 ^ n ∧ u = nI k ∧ w = nI a ∧ z = nI b) → wX12_table X ad ca d x (q_i (PT x) (fun s M' => mK M1 M' ∧ rTable p n t e T u w z s)) 24 [] M1 := fun h => bX12_table_24 ⟨_, rfl, rfl, mK.rfl _, Or.inr ⟨h, rfl⟩⟩
  refine ⟨fun h => hno (s := 0) ?_, fun h => ⟨_, kX12_isState (by omega) _ hH.1 hw.1, ?_⟩⟩
  · rintro ⟨k, a, b, h1, h2, h3, h4, h5, h6⟩
    rw [if_pos ⟨k, h1, h4⟩] at h
    exact absurd h (by decide)
  rintro v2 M2 ⟨rfl, rfl⟩
  refine ⟨fun h2 => hno (s := 0) ?_, fun h2 => ⟨_, kX12_isState (by omega) _ hH.1 hw.1, ?_⟩⟩
  · rintro ⟨k, a, b, q1, q2, q3, q4, q5, q6⟩
    rw [if_pos ⟨a, q2, q5⟩] at h2
    exact absurd h2 (by decide)
  rintro v3 M3 ⟨rfl, rfl⟩
  refine ⟨fun h3 => ?_, fun h3 => hno (s := 0) ?_⟩
  · obtain ⟨k, hk, rfl⟩ : ∃ k, k < p ∧ u = nI k := Classical.byContradiction fun q => h (if_neg q)
    obtain ⟨a, ha, rfl⟩ : ∃ k, k < 2 ^ n ∧ w = nI k := Classical.byContradiction fun q => h2 (if_neg q)
    obtain ⟨b, hb, rfl⟩ : ∃ k, k < 2 ^ n ∧ z = nI k := Classical.byContradiction fun q => h3 (if_neg q)
    refine ⟨_, kX12_unit (by omega) ha hw.1 (show 1 < p by omega), ?_⟩
    rintro M4 ⟨a1, a2, a3, a4⟩
    refine ⟨_, kX12_tb (by omega) (hT.K a3) (hH.K a3) hw hk a1, ?_⟩
    rintro M5 ⟨b1, b2, b3, b4⟩
    refine ⟨n_in (by omega) (by omega), _, rfl, rfl, a3.trans b3, Or.inl ⟨k, a, b, hk, ha, hb, rfl, rfl, rfl, ?_⟩⟩
    rw [n_cl (by omega)]
    exact (b1 b hb).1
  · rintro ⟨k, a, b, q1, q2, q3, q4, q5, q6⟩
    rw [if_pos ⟨b, q3, q6⟩] at h3
    exact absurd h3 (by decide)
theorem kX12_commute (hd : 7 ≤ d) {k n r p t e : Nat} {T : zTx} (hT : mT M k T) (hH : mH M n r p t e) (hw : wH n r p t e) (u w : Int32) :
    mX12_commute X ad ca d x [.ref 118, .int u, .int w] M (q_i (PT x) (fun s M' => mK M M' ∧ rCommute p n t e T u w s)) := by
  obtain ⟨d, rfl⟩ := a_d1 (show 1 ≤ d by omega)
  have hpb := zpl_b p hw.2.2.2.1
  have h2n := z_p2 hw.1
  refine eX12_commute _ _ (bX12_commute_0 _ _ ⟨_, kX12_isNumber (by omega) _ hH.2.2.1 (by omega) (by omega), ?_⟩)
  rintro v1 M1 ⟨rfl, rfl⟩
  have hno : ¬ (∃ k l, k < p ∧ l < p ∧ u = nI k ∧ w = nI l) → wX12_commute X ad ca d x (q_i (PT x) (fun s M' => mK M1 M' ∧ rCommute p n t e T u w s)) 16 [] M1 := fun h => bX12_commute_16 ⟨_, rfl, rfl, mK.rfl _, Or.inr ⟨h, rfl⟩⟩
  refine ⟨fun h => hno ?_, fun h => ⟨_, kX12_isNumber (by omega) _ hH.2.2.1 (by omega) (by omega), ?_⟩⟩
  · rintro ⟨k, l, h1, h2, h3, h4⟩
    rw [if_pos ⟨k, h1, h3⟩] at h
    exact absurd h (by decide)
  rintro v2 M2 ⟨rfl, rfl⟩
  refine ⟨fun h2 => ?_, fun h2 => hno ?_⟩
  rotate_left
  · rintro ⟨k, l, q1, q2, q3, q4⟩
    rw [if_pos ⟨l, q2, q4⟩] at h2
    exact absurd h2 (by decide)
  obtain ⟨kk, hk, rfl⟩ : ∃ k, k < p ∧ u = nI k := Classical.byContradiction fun q => h (if_neg q)
  obtain ⟨l, hl, rfl⟩ : ∃ k, k < p ∧ w = nI k := Classical.byContradiction fun q => h2 (if_neg q)
  generalize hF : zTT p n t e T kk = F
  generalize hG : zTT p n t e T l = G
  let good : Nat → Prop := fun a => ∀ y, y < 2 ^ n → G (F (zu a)) y = F (G (zu a)) y
  refine a_loop (σ := Int32 × a_M) (fun i q => wX12_commute X ad ca d x _ 23 [(0, .ref 118), (1, .int (nI kk)), (2, .int (nI l)), (3, .int q.1), (4, .int (nI i))] q.2) (fun i q => mK M2 q.2 ∧ ((q.1 = 1 ∧ ∀ a, a < i → good a) ∨ (q.1 = 0 ∧ ¬ ∀ a, a < 2 ^ n → good a))) (2 ^ n) ?_ ?_ 0 (1, M2) (Nat.zero_le _) ⟨mK.rfl _, Or.inl ⟨rfl, fun a ha => absurd ha (Nat.not_lt_zero a)⟩⟩
  · rintro ⟨f, M'⟩ ⟨hK, hf⟩
    refine bX12_commute_23 _ _ _ _ ⟨_, kX12_states (by omega) (hH.K hK).1 hw.1, ?_⟩
    rintro v3 M3 ⟨rfl, rfl⟩
    refine ⟨fun _ => bX12_commute_83 _ ⟨?_, _, rfl, rfl, hK, Or.inl ⟨kk, l, hk, hl, rfl, rfl, ?_⟩⟩, fun h => absurd (nI_le (Nat.le_refl _) (by omega)) h⟩
    · rcases hf with ⟨q, -⟩ | ⟨q, -⟩
      · exact Or.inr q
      · exact Or.inl q
    · rw [hF, hG]; exact hf
  · rintro i ⟨f, M'⟩ hi ⟨hK, hf⟩ ih
    refine bX12_commute_23 _ _ _ _ ⟨_, kX12_states (by omega) (hH.K hK).1 hw.1, ?_⟩
    rintro v3 M3 ⟨rfl, rfl⟩
    refine ⟨fun h => absurd h (nI_ge hi (by omega)), fun _ => ⟨fun hz => bX12_commute_83 _ ⟨Or.inl hz, _, rfl, rfl, hK, Or.inl ⟨kk, l, hk, hl, rfl, rfl, ?_⟩⟩, fun hz => ?_⟩⟩
    · rw [hF, hG]
      rcases hf with ⟨q, -⟩ | q
      · rw [q] at hz; exact absurd hz (by decide)
      · exact Or.inr q
    have hf1 : ∀ a, a < i → good a := by
      rcases hf with ⟨-, q⟩ | ⟨q, -⟩
      · exact q
      · exact absurd q hz
    refine ⟨_, kX12_unit (by omega) hi hw.1 (show 1 < p by omega), ?_⟩
    rintro M4 ⟨a1, a2, a3, a4⟩
    have k4 := hK.trans a3
    refine ⟨_, kX12_tb (by omega) (hT.K k4) (hH.K k4) hw hk a1, ?_⟩
    rintro M5 ⟨b1, b2, b3, b4⟩
    have k5 := k4.trans b3
    refine ⟨_, kX12_tb (by omega) (hT.K k5) (hH.K k5) hw hl b1, ?_⟩
    rintro M6 ⟨c1, c2, c3, c4⟩
    have k6 := k5.trans c3
    refine ⟨_, kX12_keepsOther (by omega), ?_⟩
    rintro M7 rfl
    have k7 := k6.uf (o := 142) (lo := 0) (i := 128) (f := M6 140) (by omega)
    refine ⟨_, kX12_unit (by omega) hi hw.1 (show 1 < p by omega), ?_⟩
    rintro M8 ⟨e1, e2, e3, e4⟩
    have k8 := k7.trans e3
    refine ⟨_, kX12_tb (by omega) (hT.K k8) (hH.K k8) hw hl e1, ?_⟩
    rintro M9 ⟨f1, f2, f3, f4⟩
    have k9 := k8.trans f3
    refine ⟨_, kX12_tb (by omega) (hT.K k9) (hH.K k9) hw hk f1, ?_⟩
    rintro M10 ⟨g1, g2, g3, g4⟩
    have k10 := k9.trans g3
    refine ⟨_, kX12_isOther (by omega), ?_⟩
    rintro v11 M11 ⟨rfl, hv⟩
    have key : (∀ j, j < 128 → M11 142 j = M11 140 j) ↔ good i := by
      have h142 : ∀ j, j < 128 → M11 142 j = M6 140 j := fun j hj => by rw [g4 142 (by omega), f4 142 (by omega), e4 142 (by omega), mf_in _ _ _ _ _ _ (Nat.zero_le _) hj]
      constructor
      · intro hh y hy
        have := hh y (by omega)
        rw [h142 y (by omega), (c1 y hy).1, (g1 y hy).1] at this
        have := (nI_eq (by have := (c1 y hy).2; omega) (by have := (g1 y hy).2; omega)).mp this
        rw [hF, hG] at this
        exact this
      · intro hh j hj
        rw [h142 j hj]
        by_cases hjn : j < 2 ^ n
        · rw [(c1 j hjn).1, (g1 j hjn).1, hF, hG, hh j hjn]
        · rw [c2 j (by omega) hj, g2 j (by omega) hj]
    rw [← nI_succ]
    refine ih (v11, M11) ⟨k10, ?_⟩
    rcases hv with ⟨q1, q2⟩ | ⟨q1, q2⟩
    · refine Or.inl ⟨q1, fun a ha => ?_⟩
      by_cases ea : a = i
      · rw [ea]; exact key.mp q2
      · exact hf1 a (by omega)
    · exact Or.inr ⟨q1, fun hh => q2 (key.mpr (hh i hi))⟩
theorem kX12_keeps (hd : 7 ≤ d) {k n r p t e : Nat} {T : zTx} (hT : mT M k T) (hH : mH M n r p t e) (hw : wH n r p t e) (u : Int32) :
    mX12_keeps X ad ca d x [.ref 118, .int u] M (q_i (PT x) (fun s M' => mK M M' ∧ rKeeps p n r t e T u s)) := by
  obtain ⟨d, rfl⟩ := a_d1 (show 1 ≤ d by omega)
  have hpb := zpl_b p hw.2.2.2.1
  have h2n := z_p2 hw.1
  refine eX12_keeps _ (bX12_keeps_0 _ ⟨_, kX12_isNumber (by omega) _ hH.2.2.1 (by omega) (by omega), ?_⟩)
  rintro v1 M1 ⟨rfl, rfl⟩
  refine ⟨fun h => ?_, fun h => ⟨_, rfl, rfl, mK.rfl _, Or.inr ⟨?_, rfl⟩⟩⟩
  rotate_left
  · rintro ⟨k, h1, h3⟩
    rw [if_pos ⟨k, h1, h3⟩] at h
    exact absurd h (by decide)
  obtain ⟨kk, hk, rfl⟩ : ∃ k, k < p ∧ u = nI k := Classical.byContradiction fun q => h (if_neg q)
  generalize hF : zTT p n t e T kk = F
  generalize hG : zS p n (zbd n r) e = G
  let good : Nat → Prop := fun a => ∀ y, y < 2 ^ n → G (F (zu a)) y = F (G (zu a)) y
  refine a_loop (σ := Int32 × a_M) (fun i q => wX12_keeps X ad ca d x _ 14 [(0, .ref 118), (1, .int (nI kk)), (2, .int q.1), (3, .int (nI i))] q.2) (fun i q => mK M1 q.2 ∧ ((q.1 = 1 ∧ ∀ a, a < i → good a) ∨ (q.1 = 0 ∧ ¬ ∀ a, a < 2 ^ n → good a))) (2 ^ n) ?_ ?_ 0 (1, M1) (Nat.zero_le _) ⟨mK.rfl _, Or.inl ⟨rfl, fun a ha => absurd ha (Nat.not_lt_zero a)⟩⟩
  · rintro ⟨f, M'⟩ ⟨hK, hf⟩
    refine bX12_keeps_14 _ _ _ ⟨_, kX12_states (by omega) (hH.K hK).1 hw.1, ?_⟩
    rintro v3 M3 ⟨rfl, rfl⟩
    refine ⟨fun _ => bX12_keeps_69 _ ⟨?_, _, rfl, rfl, hK, Or.inl ⟨kk, hk, rfl, ?_⟩⟩, fun h => absurd (nI_le (Nat.le_refl _) (by omega)) h⟩
    · rcases hf with ⟨q, -⟩ | ⟨q, -⟩
      · exact Or.inr q
      · exact Or.inl q
    · rw [hF, hG]; exact hf
  · rintro i ⟨f, M'⟩ hi ⟨hK, hf⟩ ih
    refine bX12_keeps_14 _ _ _ ⟨_, kX12_states (by omega) (hH.K hK).1 hw.1, ?_⟩
    rintro v3 M3 ⟨rfl, rfl⟩
    refine ⟨fun h => absurd h (nI_ge hi (by omega)), fun _ => ⟨fun hz => bX12_keeps_69 _ ⟨Or.inl hz, _, rfl, rfl, hK, Or.inl ⟨kk, hk, rfl, ?_⟩⟩, fun hz => ?_⟩⟩
    · rw [hF, hG]
      rcases hf with ⟨q, -⟩ | q
      · rw [q] at hz; exact absurd hz (by decide)
      · exact Or.inr q
    have hf1 : ∀ a, a < i → good a := by
      rcases hf with ⟨-, q⟩ | ⟨q, -⟩
      · exact q
      · exact absurd q hz
    refine ⟨_, kX12_unit (by omega) hi hw.1 (show 1 < p by omega), ?_⟩
    rintro M4 ⟨a1, a2, a3, a4⟩
    have k4 := hK.trans a3
    refine ⟨_, kX12_tb (by omega) (hT.K k4) (hH.K k4) hw hk a1, ?_⟩
    rintro M5 ⟨b1, b2, b3, b4⟩
    have k5 := k4.trans b3
    refine ⟨_, kX12_ss (by omega) (hH.K k5) hw b1, ?_⟩
    rintro M6 ⟨c1, c2, c3, c4⟩
    have k6 := k5.trans c3
    refine ⟨_, kX12_keepsOther (by omega), ?_⟩
    rintro M7 rfl
    have k7 := k6.uf (o := 142) (lo := 0) (i := 128) (f := M6 140) (by omega)
    refine ⟨_, kX12_unit (by omega) hi hw.1 (show 1 < p by omega), ?_⟩
    rintro M8 ⟨e1, e2, e3, e4⟩
    have k8 := k7.trans e3
    refine ⟨_, kX12_ss (by omega) (hH.K k8) hw e1, ?_⟩
    rintro M9 ⟨f1, f2, f3, f4⟩
    have k9 := k8.trans f3
    refine ⟨_, kX12_tb (by omega) (hT.K k9) (hH.K k9) hw hk f1, ?_⟩
    rintro M10 ⟨g1, g2, g3, g4⟩
    have k10 := k9.trans g3
    refine ⟨_, kX12_isOther (by omega), ?_⟩
    rintro v11 M11 ⟨rfl, hv⟩
    have key : (∀ j, j < 128 → M11 142 j = M11 140 j) ↔ good i := by
      have h142 : ∀ j, j < 128 → M11 142 j = M6 140 j := fun j hj => by rw [g4 142 (by omega), f4 142 (by omega), e4 142 (by omega), mf_in _ _ _ _ _ _ (Nat.zero_le _) hj]
      constructor
      · intro hh y hy
        have := hh y (by omega)
        rw [h142 y (by omega), (c1 y hy).1, (g1 y hy).1] at this
        have := (nI_eq (by have := (c1 y hy).2; omega) (by have := (g1 y hy).2; omega)).mp this
        rw [hF, hG] at this
        exact this
      · intro hh j hj
        rw [h142 j hj]
        by_cases hjn : j < 2 ^ n
        · rw [(c1 j hjn).1, (g1 j hjn).1, hF, hG, hh j hjn]
        · rw [c2 j (by omega) hj, g2 j (by omega) hj]
    rw [← nI_succ]
    refine ih (v11, M11) ⟨k10, ?_⟩
    rcases hv with ⟨q1, q2⟩ | ⟨q1, q2⟩
    · refine Or.inl ⟨q1, fun a ha => ?_⟩
      by_cases ea : a = i
      · rw [ea]; exact key.mp q2
      · exact hf1 a (by omega)
    · exact Or.inr ⟨q1, fun hh => q2 (key.mpr (hh i hi))⟩
end Z17
