/-! CONTRACTS 37: Products -/
theorem ztb_lt {p n A B C a b : Nat} (hp : 0 < p) : ztb p n A B C a b < p := by
  unfold ztb
  split
  · exact Nat.mod_lt _ hp
  · exact hp
/-- F and G commute, as squares of w rows -/
def zdf (F G : Nat → Nat → Nat) (i k z : Nat) : Int := ((F i z * G z k : Nat) : Int) - ((G i z * F z k : Nat) : Int)
def zAg (p w : Nat) (F G : Nat → Nat → Nat) : Prop := ∀ i k, i < w → k < w → zm (zis (zdf F G i k) w) p = 0
def zin (L : List Nat) (F : Nat → Nat → Nat) (i k : Nat) : Nat := F (L.getD i 0) (L.getD k 0)
section Z38
variable {X : a_X} {ad : Nat → Nat} {ca : Nat → ClassId} {d x : Nat} {M : a_M} {S : Nat → Nat} {V : Nat → Nat → Nat}
theorem kX4_fillTable (hd : 4 ≤ d) {o n r p t e u m : Nat} {T : zTx} {L : List Nat} {pl : Nat → Option Nat} {fa : Nat → Nat} (ho : o = 31 ∨ o = 32) (hS : exS M n r p t e T) (hw : wH n r p t e) (hT : wTx T) (hu : u < p) (hB : bS M n m L pl fa) (hl : L.length ≤ 35) (hmem : ∀ (k a : Nat), L[k]? = some a → a < 2 ^ n) :
    mX4_fillTable X ad ca d x [.ref 30, .ref 13, .int (nI u), .ref o] M (q_v (PT x) (fun M' => mB M' o L.length p (zin L (ztb p n (zW T p t e 0 u) (zW T p t e 1 u) (zW T p t e 2 u))) ∧ ∀ i, i ≠ o → M' i = M i)) := by
  obtain ⟨d, rfl⟩ := a_d1 (show 1 ≤ d by omega)
  have hpb := zpl_b _ hw.2.2.2.1
  have hp0 : 0 < p := by omega
  have hL : LY[o]? = some (100, 1225) := by rcases ho with rfl | rfl <;> rfl
  have hD : ∀ i, i < L.length → ∃ a, L[i]? = some a ∧ L.getD i 0 = a ∧ a < 2 ^ n := fun i hi => by
    have h1 : L[i]? = some L[i] := List.getElem?_eq_getElem hi
    exact ⟨_, h1, by rw [List.getD_eq_getElem?_getD, h1]; rfl, hmem i _ h1⟩
  generalize hF : ztb p n (zW T p t e 0 u) (zW T p t e 1 u) (zW T p t e 2 u) = F
  have hFl : ∀ a b, F a b < p := fun a b => by rw [← hF]; exact ztb_lt hp0
  refine eX4_fillTable _ _ (bX4_fillTable_0 _ _ 1225 hL ?_)
  rw [hB.1]
  generalize hww : L.length = w at *
  refine a_loop (σ := a_M) (fun i M' => wX4_fillTable X ad ca d x _ 12 [(0, .ref 30), (1, .ref 13), (2, .int (nI u)), (3, .ref o), (4, .int (nI w)), (5, .int (nI i))] M') (fun i M' => (∀ a b, a < i → b < w → M' o (a * w + b) = nI (zin L F a b)) ∧ ∀ q, q ≠ o → M' q = M q) w ?_ ?_ 0 M (Nat.zero_le _) ⟨fun a b h => absurd h (Nat.not_lt_zero _), fun _ _ => rfl⟩
  · rintro M1 ⟨i1, i2⟩
    exact bX4_fillTable_12 _ _ 1225 _ _ hL ⟨fun _ => ⟨rfl, rfl, fun a b ha hb => ⟨i1 a b ha hb, hFl _ _⟩, i2⟩, fun q => absurd (nI_le (Nat.le_refl _) (by omega)) q⟩
  · rintro i M1 hi ⟨i1, i2⟩ ih
    obtain ⟨ai, hi1, hi2, hi3⟩ := hD i hi
    refine bX4_fillTable_12 _ _ 1225 _ _ hL ⟨fun q => absurd q (nI_ge hi (by omega)), fun _ => ?_⟩
    refine a_loop (σ := a_M) (fun k M' => wX4_fillTable X ad ca d x _ 22 [(0, .ref 30), (1, .ref 13), (2, .int (nI u)), (3, .ref o), (4, .int (nI w)), (5, .int (nI i)), (6, .int (nI k))] M') (fun k M' => (∀ a b, a < i → b < w → M' o (a * w + b) = nI (zin L F a b)) ∧ (∀ b, b < k → M' o (i * w + b) = nI (zin L F i b)) ∧ ∀ q, q ≠ o → M' q = M q) w ?_ ?_ 0 M1 (Nat.zero_le _) ⟨i1, fun b h => absurd h (Nat.not_lt_zero _), i2⟩
    · rintro M2 ⟨j1, j2, j3⟩
      refine bX4_fillTable_22 _ _ 1225 _ _ _ hL ⟨fun _ => ?_, fun q => absurd (nI_le (Nat.le_refl _) (by omega)) q⟩
      rw [← nI_succ]
      refine ih M2 ⟨fun a b ha hb => ?_, j3⟩
      by_cases c : a = i
      · rw [c]; exact j2 b hb
      · exact j1 a b (by omega) hb
    · rintro k M2 hk ⟨j1, j2, j3⟩ ih2
      obtain ⟨ak, hk1, hk2, hk3⟩ := hD k hk
      have hB2 : bS M2 n m L pl fa := hB.same (fun q h1 h2 => j3 q (by omega))
      have hS2 : exS M2 n r p t e T := hS.same (fun q h1 h2 h3 => j3 q (by omega))
      refine bX4_fillTable_22 _ _ 1225 _ _ _ hL ⟨fun q => absurd q (nI_ge hk (by omega)), fun _ => ⟨_, kX0_head (by omega) hB2 (by omega) hi1, ?_⟩⟩
      rintro v1 M2 ⟨rfl, rfl⟩
      refine ⟨_, kX0_head (by omega) hB2 (by omega) hk1, ?_⟩
      rintro v2 M2 ⟨rfl, rfl⟩
      refine ⟨_, kX1_tableBetween (by omega) hS2 hw hT hu hi3 hk3, ?_⟩
      rintro v3 M2 ⟨rfl, rfl⟩
      have hcb := z_cellb hi hk (show w ≤ 35 by omega)
      rw [hF, n_mul, nI_add, n_cl (by omega), ← nI_succ]
      refine ⟨n_in hcb (by omega), ih2 _ ⟨fun a b ha hb => ?_, fun b hb => ?_, fun q hq => by rw [ms_row _ _ _ _ _ hq]; exact j3 q hq⟩⟩
      · rw [ms_no _ _ _ _ _ _ (fun q => by have := (z_cell hb hk q.2).1; omega)]
        exact j1 a b ha hb
      · by_cases c : b = k
        · rw [c, ms_is]
          unfold zin
          rw [hi2, hk2]
        · rw [ms_no _ _ _ _ _ _ (fun q => c (z_cell (show b < w by omega) hk q.2).2)]
          exact j2 b (by omega)
theorem kX4_agree (hd : 2 ≤ d) {w p : Nat} {F G : Nat → Nat → Nat} (h3 : M 19 3 = nI w) (hw35 : w ≤ 35) (hp0 : 0 < p) (hp : p ≤ 97) (hF : mB M 31 w p F) (hG : mB M 32 w p G) :
    mX4_agree X ad ca d x [.ref 30, .int (nI p)] M (q_i (PT x) (fun s M' => M' = M ∧ ((s = 1 ∧ zAg p w F G) ∨ (s = 0 ∧ ¬ zAg p w F G)))) := by
  obtain ⟨d, rfl⟩ := a_d1 (show 1 ≤ d by omega)
  refine eX4_agree _ (bX4_agree_0 _ ?_)
  rw [h3]
  refine a_loop (σ := Unit) (fun i _ => wX4_agree X ad ca d x _ 10 [(0, .ref 30), (1, .int (nI p)), (2, .int (nI w)), (3, .int (nI i))] M) (fun i _ => ∀ a b, a < i → b < w → zm (zis (zdf F G a b) w) p = 0) w ?_ ?_ 0 () (Nat.zero_le _) (fun a b h => absurd h (Nat.not_lt_zero _))
  · rintro _ h
    exact bX4_agree_10 _ _ _ ⟨fun _ => ⟨_, rfl, rfl, rfl, Or.inl ⟨rfl, h⟩⟩, fun q => absurd (nI_le (Nat.le_refl _) (by omega)) q⟩
  · rintro i _ hi h ih
    refine bX4_agree_10 _ _ _ ⟨fun q => absurd q (nI_ge hi (by omega)), fun _ => ?_⟩
    refine a_loop (σ := Unit) (fun k _ => wX4_agree X ad ca d x _ 18 [(0, .ref 30), (1, .int (nI p)), (2, .int (nI w)), (3, .int (nI i)), (4, .int (nI k))] M) (fun k _ => ∀ b, b < k → zm (zis (zdf F G i b) w) p = 0) w ?_ ?_ 0 () (Nat.zero_le _) (fun b h => absurd h (Nat.not_lt_zero _))
    · rintro _ h2
      refine bX4_agree_18 _ _ _ _ ⟨fun _ => ?_, fun q => absurd (nI_le (Nat.le_refl _) (by omega)) q⟩
      rw [← nI_succ]
      refine ih () (fun a b ha hb => ?_)
      by_cases c : a = i
      · rw [c]; exact h2 b hb
      · exact h a b (by omega) hb
    · rintro k _ hk h2 ih2
      refine bX4_agree_18 _ _ _ _ ⟨fun q => absurd q (nI_ge hk (by omega)), fun _ => ?_⟩
      refine a_loop (σ := Int32) (fun z v => wX4_agree X ad ca d x _ 30 [(0, .ref 30), (1, .int (nI p)), (2, .int (nI w)), (3, .int (nI i)), (4, .int (nI k)), (5, .int v), (6, .int (nI z))] M) (fun z v => v.toInt = zis (zdf F G i k) z ∧ -((z : Int) * 16384) ≤ v.toInt ∧ v.toInt ≤ (z : Int) * 16384) w ?_ ?_ 0 0 (Nat.zero_le _) ⟨rfl, by decide, by decide⟩
      · rintro v ⟨v1, -, -⟩
        refine bX4_agree_30 _ _ _ _ _ _ ⟨fun _ => ⟨_, kX11_left (by omega) _ hp0 (by omega), ?_⟩, fun q => absurd (nI_le (Nat.le_refl _) (by omega)) q⟩
        rintro v3 M1 ⟨rfl, rfl⟩
        rw [v1]
        have hzl := zm_lt (z := zis (zdf F G i k) w) hp0
        have hz : nI (zm (zis (zdf F G i k) w) p) = 0 ↔ zm (zis (zdf F G i k) w) p = 0 := nI_eq (b := 0) (by omega) (by omega)
        refine ⟨fun q => ?_, fun q => ⟨_, rfl, rfl, rfl, Or.inr ⟨rfl, fun h4 => q (hz.mpr (h4 i k hi hk))⟩⟩⟩
        rw [← nI_succ]
        refine ih2 () (fun b hb => ?_)
        by_cases c : b = k
        · rw [c]; exact hz.mp q
        · exact h2 b (by omega)
      · rintro z v hz ⟨v1, v2, v3⟩ ih3
        have c1 := z_cellb hi hz hw35
        have c2 := z_cellb hz hk hw35
        obtain ⟨f1, f2⟩ := hF i z hi hz
        obtain ⟨f3, f4⟩ := hF z k hz hk
        obtain ⟨g1, g2⟩ := hG i z hi hz
        obtain ⟨g3, g4⟩ := hG z k hz hk
        have b1 := n_p2 f2 g4 (by omega)
        have b2 := n_p2 g2 f4 (by omega)
        refine bX4_agree_30 _ _ _ _ _ _ ⟨fun q => absurd q (nI_ge hz (by omega)), fun _ => ?_⟩
        rw [n_mul, n_mul, nI_add, nI_add, n_cl (by omega), n_cl (by omega), f1, f3, g1, g3, n_mul, n_mul, ← nI_succ]
        have e1 : (nI (F i z * G z k)).toInt = ((F i z * G z k : Nat) : Int) := nI_toInt (by omega)
        have e2 : (nI (G i z * F z k)).toInt = ((G i z * F z k : Nat) : Int) := nI_toInt (by omega)
        have hzz : (z : Int) ≤ 35 := by omega
        have e3 : (v + nI (F i z * G z k)).toInt = v.toInt + ((F i z * G z k : Nat) : Int) := by rw [fb_addI (by omega) (by omega), e1]
        have e4 : (v + nI (F i z * G z k) - nI (G i z * F z k)).toInt = v.toInt + ((F i z * G z k : Nat) : Int) - ((G i z * F z k : Nat) : Int) := by rw [fb_subI (by omega) (by omega), e3, e2]
        refine ⟨n_in c1 (by omega), n_in c2 (by omega), n_in c1 (by omega), n_in c2 (by omega), ih3 _ ⟨?_, ?_, ?_⟩⟩
        · rw [e4, v1]
          show _ = zis (zdf F G i k) z + zdf F G i k z
          unfold zdf
          omega
        · rw [e4]; omega
        · rw [e4]; omega
/-- all sectors up to the middle agree -/
def zAS (p n : Nat) (F : Nat → Nat → Nat) (G : Nat → Nat → Nat → Nat) : Prop := ∀ m, 2 * m ≤ n → zAg p (zsec n m).length (zin (zsec n m) F) (G m)
/-- the other square: a table, or THE SUM -/
def zGo (p n r t e : Nat) (T : zTx) (v : Option Nat) (m : Nat) : Nat → Nat → Nat := match v with
  | some k => zin (zsec n m) (ztb p n (zW T p t e 0 k) (zW T p t e 1 k) (zW T p t e 2 k))
  | none => zSA p n r e m none
theorem kX11_agreesInSectors (hd : 7 ≤ d) {R ρ u : Nat} {RD : Nat → zTx} {T : zTx} {v : Option Nat} (hS : cSt M 44 S V) (hw : wSt S V) (hE : cEx M R RD) (hT : cT M S R RD ρ T) (hu : u < S 2) (hv : ∀ k, v = some k → k < S 2) :
    mX11_agreesInSectors X ad ca d x [.ref 0, .int (nI u), .int (zTu v)] M (q_i (PT x) (fun s M' => cK M M' ∧ cEx M' R RD ∧ (∀ i, 23 ≤ i → i < 94 → i ≠ 31 → i ≠ 32 → M' i = M i) ∧ ((s = 1 ∧ zAS (S 2) (S 0) (ztb (S 2) (S 0) (zW T (S 2) (S 3) (S 4) 0 u) (zW T (S 2) (S 3) (S 4) 1 u) (zW T (S 2) (S 3) (S 4) 2 u)) (zGo (S 2) (S 0) (S 1) (S 3) (S 4) T v)) ∨ (s = 0 ∧ ¬ zAS (S 2) (S 0) (ztb (S 2) (S 0) (zW T (S 2) (S 3) (S 4) 0 u) (zW T (S 2) (S 3) (S 4) 1 u) (zW T (S 2) (S 3) (S 4) 2 u)) (zGo (S 2) (S 0) (S 1) (S 3) (S 4) T v))))) := by
  obtain ⟨d, rfl⟩ := a_d1 (show 1 ≤ d by omega)
  obtain ⟨w0, w5, w6, -⟩ := id hw
  have hpb := zpl_b _ w0.2.2.2.1
  have hp0 : 0 < S 2 := by omega
  have hn := w0.1
  refine eX11_agreesInSectors _ _ (bX11_agreesInSectors_0 _ _ ⟨_, kX11_toldScript (by omega) hS hw, ?_⟩)
  rintro r1 M ⟨rfl, rfl⟩
  refine ⟨0, ⟨rfl, (ly_scr (x := x) (zts_sc (show S 6 ≤ 4 by omega))).1⟩, _, kX1_lk (by omega) hS hw hE hT, ?_⟩
  rintro M2 ⟨g1, g2, g3, g4, g5⟩
  generalize hF : ztb (S 2) (S 0) (zW T (S 2) (S 3) (S 4) 0 u) (zW T (S 2) (S 3) (S 4) 1 u) (zW T (S 2) (S 3) (S 4) 2 u) = F
  generalize hG : zGo (S 2) (S 0) (S 1) (S 3) (S 4) T v = G
  have hwT := hT.2.2.2.2.1
  have hrule : rH M 45 (S 0) (S 1) (S 2) (S 3) (S 4) := hS.1
  -- the frame
  let Fr : a_M → Prop := fun M' => ∀ i, (i < 19 ∨ 22 < i) → i ≠ 31 → i ≠ 32 → M' i = M2 i
  have hEx : ∀ M', Fr M' → exS M' (S 0) (S 1) (S 2) (S 3) (S 4) T := fun M' h => g1.same (fun i h1 h2 h3 => h i (by omega) (by omega) (by omega))
  have hcK : ∀ M', Fr M' → cK M M' := fun M' h => g4.trans (fun o h1 h2 h3 h4 h5 => h o (by omega) (by omega) (by omega))
  have hcE : ∀ M', Fr M' → cEx M' R RD := fun M' h => g2.same (fun i h1 h2 h3 => h i (by omega) (by omega) (by omega))
  have hfr : ∀ M', Fr M' → ∀ i, 23 ≤ i → i < 94 → i ≠ 31 → i ≠ 32 → M' i = M i := fun M' h i h1 h2 h3 h4 => by rw [h i (by omega) h3 h4, g5 i (by omega) h2]
  have h45 : ∀ M', Fr M' → rH M' 45 (S 0) (S 1) (S 2) (S 3) (S 4) := fun M' h => hrule.same (by rw [h 45 (by omega) (by omega) (by omega), g5 45 (by omega) (by omega)])
  refine a_loop (σ := Int32 × a_M) (fun m q => wX11_agreesInSectors X ad ca d x _ 26 [(0, .ref 0), (1, .int (nI u)), (2, .int (zTu v)), (3, .ref 45), (4, .int q.1), (5, .int (nI m))] q.2) (fun m q => Fr q.2 ∧ ((q.1 = 1 ∧ ∀ m', m' < m → zAg (S 2) (zsec (S 0) m').length (zin (zsec (S 0) m') F) (G m')) ∨ (q.1 = 0 ∧ ¬ zAS (S 2) (S 0) F G))) (S 0 / 2 + 1) ?_ ?_ 0 (1, M2) (Nat.zero_le _) ⟨fun _ _ _ _ => rfl, Or.inl ⟨rfl, fun m' h => absurd h (Nat.not_lt_zero _)⟩⟩
  · rintro ⟨s, M3⟩ ⟨f3, hs⟩
    dsimp only at f3 hs ⊢
    refine bX11_agreesInSectors_26 _ _ _ _ _ rfl ?_
    rw [(h45 M3 f3).1]
    rcases hs with ⟨rfl, hs⟩ | ⟨rfl, hs⟩
    · refine ⟨fun q => absurd q (by decide), fun _ => ⟨fun _ => bX11_agreesInSectors_133 _ ⟨Or.inr rfl, _, rfl, rfl, hcK M3 f3, hcE M3 f3, hfr M3 f3, Or.inl ⟨rfl, fun m hm => hs m (by omega)⟩⟩, fun q => absurd ?_ q⟩⟩
      rw [fa_lit 2, n_mul]
      exact nI_lt (by omega) (by omega)
    · exact ⟨fun _ => bX11_agreesInSectors_133 _ ⟨Or.inl rfl, _, rfl, rfl, hcK M3 f3, hcE M3 f3, hfr M3 f3, Or.inr ⟨rfl, hs⟩⟩, fun q => absurd rfl q⟩
  · rintro m ⟨s, M3⟩ hm ⟨f3, hs⟩ ih
    dsimp only at f3 hs ⊢
    refine bX11_agreesInSectors_26 _ _ _ _ _ rfl ?_
    rw [(h45 M3 f3).1]
    rcases hs with ⟨rfl, hs⟩ | ⟨rfl, hs⟩
    rotate_left
    · exact ⟨fun _ => bX11_agreesInSectors_133 _ ⟨Or.inl rfl, _, rfl, rfl, hcK M3 f3, hcE M3 f3, hfr M3 f3, Or.inr ⟨rfl, hs⟩⟩, fun q => absurd rfl q⟩
    have hm2 : 2 * m ≤ S 0 := by omega
    refine ⟨fun q => absurd q (by decide), fun _ => ⟨fun q => absurd q ?_, fun _ => ?_⟩⟩
    · rw [fa_lit 2, n_mul]
      exact nI_nlt hm2 (by omega)
    have hlen := zsec_len (S 0) hn m (by omega)
    refine ⟨_, kX0_gather (τ := none) (by omega) (o := 45) rfl (h45 M3 f3) w0 (by omega) (fun k hk => by cases hk), ?_⟩
    rintro M4 ⟨b1, b2⟩
    have f4 : Fr M4 := fun i h1 h2 h3 => by rw [b2 i h1, f3 i h1 h2 h3]
    have hmem : ∀ (k a : Nat), (zSL (S 0) m none)[k]? = some a → a < 2 ^ S 0 := fun k a h => (zSL_mem (τ := none) k a h).1
    refine ⟨_, kX4_fillTable (by omega) (o := 31) (Or.inl rfl) (hEx M4 f4) w0 hwT hu b1 hlen hmem, ?_⟩
    rintro M5 ⟨c1, c2⟩
    rw [hF] at c1
    have f5 : Fr M5 := fun i h1 h2 h3 => by rw [c2 i h2, f4 i h1 h2 h3]
    have b5 : bS M5 (S 0) m (zSL (S 0) m none) (zSp (S 0) m none) (zSf (S 0) (S 2) none) := b1.same (fun i h1 h2 => c2 i (by omega))
    -- both squares lie
    have h114 : ∀ M6 : a_M, mB M6 32 (zsec (S 0) m).length (S 2) (G m) → (∀ i, i ≠ 32 → M6 i = M5 i) → wX11_agreesInSectors X ad ca d x (q_i (PT x) (fun s M' => cK M M' ∧ cEx M' R RD ∧ (∀ i, 23 ≤ i → i < 94 → i ≠ 31 → i ≠ 32 → M' i = M i) ∧ ((s = 1 ∧ zAS (S 2) (S 0) F G) ∨ (s = 0 ∧ ¬ zAS (S 2) (S 0) F G)))) 114 [(0, .ref 0), (1, .int (nI u)), (2, .int (zTu v)), (3, .ref 45), (5, .int (nI m))] M6 := by
      intro M6 d1 d2
      have f6 : Fr M6 := fun i h1 h2 h3 => by rw [d2 i h3, f5 i h1 h2 h3]
      refine bX11_agreesInSectors_114 _ _ _ _ rfl ?_
      rw [(h45 M6 f6).2.2.1]
      refine ⟨_, kX4_agree (by omega) (w := (zsec (S 0) m).length) (by rw [d2 19 (by decide)]; exact b5.1) hlen hp0 hpb.2 (c1.same (d2 31 (by decide))) d1, ?_⟩
      rintro v7 M6 ⟨rfl, h7⟩
      rw [← nI_succ]
      refine ih (v7, M6) ⟨f6, ?_⟩
      rcases h7 with ⟨h7, h8⟩ | ⟨h7, h8⟩
      · refine Or.inl ⟨h7, fun m' hm' => ?_⟩
        by_cases c : m' = m
        · rw [c]; exact h8
        · exact hs m' (by omega)
      · exact Or.inr ⟨h7, fun q => h8 (q m hm2)⟩
    cases v with
    | some k =>
      have hk := hv k rfl
      refine ⟨fun _ => ⟨_, kX4_fillTable (by omega) (o := 32) (Or.inr rfl) (hEx M5 f5) w0 hwT hk b5 hlen hmem, ?_⟩, fun q => absurd q (nI_m1 (by omega))⟩
      rintro M6 ⟨d1, d2⟩
      refine h114 M6 ?_ d2
      rw [← hG]
      exact d1
    | none =>
      refine ⟨fun q => absurd rfl q, fun _ => ⟨_, kX0_fillSum (by omega) (o := 45) (o2 := 32) rfl rfl (h45 M5 f5) w0 b5 hlen zSL_mem (zSp_ok hn w0.2.1 (by omega)), ?_⟩⟩
      rintro M6 ⟨d1, d2⟩
      refine h114 M6 ?_ d2
      rw [← hG]
      exact d1
end Z38
