/-! ALLOCATION 4: the class's constructors, one contract for each object -/
def mw (M : a_M) : List (Nat × Nat × Int32) → a_M
  | [] => M
  | q :: l => ms (mw M l) q.1 q.2.1 q.2.2
def pw (P : a_P) : List (Nat × Nat × Nat) → a_P
  | [] => P
  | q :: l => va_up (pw P l) q.1 (va_up (pw P l q.1) q.2.1 q.2.2)
theorem okX0 : ∀ j, j < 4 → a_okt (a_ty 0 j) = true := by decide
theorem okX1 : ∀ j, j < 10 → a_okt (a_ty 1 j) = true := by decide
theorem okX2 : ∀ j, j < 4 → a_okt (a_ty 2 j) = true := by decide
theorem okX3 : ∀ j, j < 8 → a_okt (a_ty 3 j) = true := by decide
theorem okX4 : ∀ j, j < 3 → a_okt (a_ty 4 j) = true := by decide
theorem okX5 : ∀ j, j < 8 → a_okt (a_ty 5 j) = true := by decide
theorem okX6 : ∀ j, j < 5 → a_okt (a_ty 6 j) = true := by decide
theorem okX7 : ∀ j, j < 7 → a_okt (a_ty 7 j) = true := by decide
theorem okX8 : ∀ j, j < 10 → a_okt (a_ty 8 j) = true := by decide
theorem okX9 : ∀ j, j < 4 → a_okt (a_ty 9 j) = true := by decide
theorem okX10 : ∀ j, j < 4 → a_okt (a_ty 10 j) = true := by decide
theorem okX11 : ∀ j, j < 14 → a_okt (a_ty 11 j) = true := by decide
theorem okX12 : ∀ j, j < 56 → a_okt (a_ty 12 j) = true := by decide
theorem oi_in : Cond.instanceMethod objectInit ∈ a_tb := a_in 138 (by decide +kernel) rfl
theorem oi_cd : Cond.code objectInit ⟨#[0xb1]⟩ 1 none ∈ a_tb := a_in 139 (by decide +kernel) rfl
theorem olX11_1 : Cond.methodLink RX11 1 objectInit ∈ a_tb := a_in 137 (by decide +kernel) rfl
theorem clX11_7 : Cond.classLink RX11 7 RX10 ∈ a_tb := a_in 140 (by decide +kernel) rfl
theorem isRX10 : Cond.instantiable RX10 4 ∈ a_tb := a_in 141 (by decide +kernel) rfl
theorem olX10_1 : Cond.methodLink RX10 1 objectInit ∈ a_tb := a_in 145 (by decide +kernel) rfl
theorem arrc_int : Cond.arrayClass .int ∈ a_tb := a_in 161 (by decide +kernel) rfl
theorem clX11_16 : Cond.classLink RX11 16 "SolvedChains$Script" ∈ a_tb := a_in 162 (by decide +kernel) rfl
theorem isRX7 : Cond.instantiable RX7 7 ∈ a_tb := a_in 164 (by decide +kernel) rfl
theorem olX7_3 : Cond.methodLink RX7 3 objectInit ∈ a_tb := a_in 168 (by decide +kernel) rfl
theorem clX11_27 : Cond.classLink RX11 27 RX5 ∈ a_tb := a_in 194 (by decide +kernel) rfl
theorem isRX5 : Cond.instantiable RX5 8 ∈ a_tb := a_in 195 (by decide +kernel) rfl
theorem olX5_3 : Cond.methodLink RX5 3 objectInit ∈ a_tb := a_in 199 (by decide +kernel) rfl
theorem clX11_36 : Cond.classLink RX11 36 RX1 ∈ a_tb := a_in 227 (by decide +kernel) rfl
theorem isRX1 : Cond.instantiable RX1 10 ∈ a_tb := a_in 228 (by decide +kernel) rfl
theorem olX1_3 : Cond.methodLink RX1 3 objectInit ∈ a_tb := a_in 232 (by decide +kernel) rfl
theorem clX1_24 : Cond.classLink RX1 24 RX6 ∈ a_tb := a_in 233 (by decide +kernel) rfl
theorem isRX6 : Cond.instantiable RX6 5 ∈ a_tb := a_in 234 (by decide +kernel) rfl
theorem olX6_3 : Cond.methodLink RX6 3 objectInit ∈ a_tb := a_in 238 (by decide +kernel) rfl
theorem clX11_43 : Cond.classLink RX11 43 RX0 ∈ a_tb := a_in 307 (by decide +kernel) rfl
theorem isRX0 : Cond.instantiable RX0 4 ∈ a_tb := a_in 308 (by decide +kernel) rfl
theorem olX0_3 : Cond.methodLink RX0 3 objectInit ∈ a_tb := a_in 312 (by decide +kernel) rfl
theorem clX11_50 : Cond.classLink RX11 50 RX8 ∈ a_tb := a_in 329 (by decide +kernel) rfl
theorem isRX8 : Cond.instantiable RX8 10 ∈ a_tb := a_in 330 (by decide +kernel) rfl
theorem olX8_3 : Cond.methodLink RX8 3 objectInit ∈ a_tb := a_in 334 (by decide +kernel) rfl
theorem clX8_9 : Cond.classLink RX8 9 RX6 ∈ a_tb := a_in 335 (by decide +kernel) rfl
theorem clX11_59 : Cond.classLink RX11 59 RX4 ∈ a_tb := a_in 370 (by decide +kernel) rfl
theorem isRX4 : Cond.instantiable RX4 3 ∈ a_tb := a_in 371 (by decide +kernel) rfl
theorem olX4_3 : Cond.methodLink RX4 3 objectInit ∈ a_tb := a_in 375 (by decide +kernel) rfl
theorem clX11_66 : Cond.classLink RX11 66 RX3 ∈ a_tb := a_in 388 (by decide +kernel) rfl
theorem isRX3 : Cond.instantiable RX3 8 ∈ a_tb := a_in 389 (by decide +kernel) rfl
theorem olX3_3 : Cond.methodLink RX3 3 objectInit ∈ a_tb := a_in 393 (by decide +kernel) rfl
theorem clX3_9 : Cond.classLink RX3 9 RX6 ∈ a_tb := a_in 394 (by decide +kernel) rfl
theorem clX11_73 : Cond.classLink RX11 73 RX6 ∈ a_tb := a_in 423 (by decide +kernel) rfl
theorem clX11_96 : Cond.classLink RX11 96 RX9 ∈ a_tb := a_in 431 (by decide +kernel) rfl
theorem isRX9 : Cond.instantiable RX9 4 ∈ a_tb := a_in 432 (by decide +kernel) rfl
theorem olX9_3 : Cond.methodLink RX9 3 objectInit ∈ a_tb := a_in 436 (by decide +kernel) rfl
theorem clX9_9 : Cond.classLink RX9 9 RX6 ∈ a_tb := a_in 437 (by decide +kernel) rfl
theorem clX9_18 : Cond.classLink RX9 18 RX2 ∈ a_tb := a_in 439 (by decide +kernel) rfl
theorem isRX2 : Cond.instantiable RX2 4 ∈ a_tb := a_in 440 (by decide +kernel) rfl
theorem olX2_3 : Cond.methodLink RX2 3 objectInit ∈ a_tb := a_in 444 (by decide +kernel) rfl
theorem clX2_11 : Cond.classLink RX2 11 "[[I" ∈ a_tb := a_in 445 (by decide +kernel) rfl
theorem ffX10_0 : a_FF RX10 10 0 := fun C T N h => by cases h; exact ⟨rfl, rfl⟩
theorem ffX10_1 : a_FF RX10 10 1 := fun C T N h => by cases h; exact ⟨rfl, rfl⟩
theorem ffX10_2 : a_FF RX10 10 2 := fun C T N h => by cases h; exact ⟨rfl, rfl⟩
theorem ffX11_2 : a_FF RX11 11 2 := fun C T N h => by cases h; exact ⟨rfl, rfl⟩
theorem ffX11_3 : a_FF RX11 11 3 := fun C T N h => by cases h; exact ⟨rfl, rfl⟩
theorem ffX7_1 : a_FF RX7 7 1 := fun C T N h => by cases h; exact ⟨rfl, rfl⟩
theorem ffX7_2 : a_FF RX7 7 2 := fun C T N h => by cases h; exact ⟨rfl, rfl⟩
theorem ffX7_3 : a_FF RX7 7 3 := fun C T N h => by cases h; exact ⟨rfl, rfl⟩
theorem ffX7_4 : a_FF RX7 7 4 := fun C T N h => by cases h; exact ⟨rfl, rfl⟩
theorem ffX7_5 : a_FF RX7 7 5 := fun C T N h => by cases h; exact ⟨rfl, rfl⟩
theorem ffX11_4 : a_FF RX11 11 4 := fun C T N h => by cases h; exact ⟨rfl, rfl⟩
theorem ffX5_0 : a_FF RX5 5 0 := fun C T N h => by cases h; exact ⟨rfl, rfl⟩
theorem ffX11_5 : a_FF RX11 11 5 := fun C T N h => by cases h; exact ⟨rfl, rfl⟩
theorem ffX1_0 : a_FF RX1 1 0 := fun C T N h => by cases h; exact ⟨rfl, rfl⟩
theorem ffX1_1 : a_FF RX1 1 1 := fun C T N h => by cases h; exact ⟨rfl, rfl⟩
theorem ffX1_2 : a_FF RX1 1 2 := fun C T N h => by cases h; exact ⟨rfl, rfl⟩
theorem ffX1_3 : a_FF RX1 1 3 := fun C T N h => by cases h; exact ⟨rfl, rfl⟩
theorem ffX1_4 : a_FF RX1 1 4 := fun C T N h => by cases h; exact ⟨rfl, rfl⟩
theorem ffX11_6 : a_FF RX11 11 6 := fun C T N h => by cases h; exact ⟨rfl, rfl⟩
theorem ffX0_0 : a_FF RX0 0 0 := fun C T N h => by cases h; exact ⟨rfl, rfl⟩
theorem ffX0_1 : a_FF RX0 0 1 := fun C T N h => by cases h; exact ⟨rfl, rfl⟩
theorem ffX0_2 : a_FF RX0 0 2 := fun C T N h => by cases h; exact ⟨rfl, rfl⟩
theorem ffX11_7 : a_FF RX11 11 7 := fun C T N h => by cases h; exact ⟨rfl, rfl⟩
theorem ffX8_1 : a_FF RX8 8 1 := fun C T N h => by cases h; exact ⟨rfl, rfl⟩
theorem ffX8_4 : a_FF RX8 8 4 := fun C T N h => by cases h; exact ⟨rfl, rfl⟩
theorem ffX8_5 : a_FF RX8 8 5 := fun C T N h => by cases h; exact ⟨rfl, rfl⟩
theorem ffX8_6 : a_FF RX8 8 6 := fun C T N h => by cases h; exact ⟨rfl, rfl⟩
theorem ffX8_7 : a_FF RX8 8 7 := fun C T N h => by cases h; exact ⟨rfl, rfl⟩
theorem ffX8_8 : a_FF RX8 8 8 := fun C T N h => by cases h; exact ⟨rfl, rfl⟩
theorem ffX8_0 : a_FF RX8 8 0 := fun C T N h => by cases h; exact ⟨rfl, rfl⟩
theorem ffX11_8 : a_FF RX11 11 8 := fun C T N h => by cases h; exact ⟨rfl, rfl⟩
theorem ffX4_1 : a_FF RX4 4 1 := fun C T N h => by cases h; exact ⟨rfl, rfl⟩
theorem ffX4_2 : a_FF RX4 4 2 := fun C T N h => by cases h; exact ⟨rfl, rfl⟩
theorem ffX4_0 : a_FF RX4 4 0 := fun C T N h => by cases h; exact ⟨rfl, rfl⟩
theorem ffX11_9 : a_FF RX11 11 9 := fun C T N h => by cases h; exact ⟨rfl, rfl⟩
theorem ffX3_0 : a_FF RX3 3 0 := fun C T N h => by cases h; exact ⟨rfl, rfl⟩
theorem ffX3_2 : a_FF RX3 3 2 := fun C T N h => by cases h; exact ⟨rfl, rfl⟩
theorem ffX3_3 : a_FF RX3 3 3 := fun C T N h => by cases h; exact ⟨rfl, rfl⟩
theorem ffX3_4 : a_FF RX3 3 4 := fun C T N h => by cases h; exact ⟨rfl, rfl⟩
theorem ffX3_5 : a_FF RX3 3 5 := fun C T N h => by cases h; exact ⟨rfl, rfl⟩
theorem ffX3_6 : a_FF RX3 3 6 := fun C T N h => by cases h; exact ⟨rfl, rfl⟩
theorem ffX3_7 : a_FF RX3 3 7 := fun C T N h => by cases h; exact ⟨rfl, rfl⟩
theorem ffX11_10 : a_FF RX11 11 10 := fun C T N h => by cases h; exact ⟨rfl, rfl⟩
theorem ffX11_11 : a_FF RX11 11 11 := fun C T N h => by cases h; exact ⟨rfl, rfl⟩
theorem ffX11_12 : a_FF RX11 11 12 := fun C T N h => by cases h; exact ⟨rfl, rfl⟩
theorem ffX11_13 : a_FF RX11 11 13 := fun C T N h => by cases h; exact ⟨rfl, rfl⟩
theorem ffX9_0 : a_FF RX9 9 0 := fun C T N h => by cases h; exact ⟨rfl, rfl⟩
theorem ffX2_0 : a_FF RX2 2 0 := fun C T N h => by cases h; exact ⟨rfl, rfl⟩
theorem ffX9_1 : a_FF RX9 9 1 := fun C T N h => by cases h; exact ⟨rfl, rfl⟩
theorem ffX11_0 : a_FF RX11 11 0 := fun C T N h => by cases h; exact ⟨rfl, rfl⟩
theorem ffX11_1 : a_FF RX11 11 1 := fun C T N h => by cases h; exact ⟨rfl, rfl⟩
def zmin (a b : Int32) : Int32 := if b < a then b else a
def zmax (a b : Int32) : Int32 := if a < b then b else a
theorem k_zmin {X : a_X} {ad : Nat → Nat} {ca : Nat → ClassId} {L : a_L} {M : a_M} {P : a_P} (a b : Int32) : Mt X ad ca L 1 yJ9_min_7cf53 cJ9_min_7cf53 2 (some FieldType.int) [.int a, .int b] M P (fun r M1 P1 => r = some (.int (zmin a b)) ∧ M1 = M ∧ P1 = P) := by
  refine Mt.of (lv := [(0, .int a), (1, .int b)]) (by decide +kernel) rfl rfl rfl ?_
  refine wa_iload_n dJ9_min_7cf53_0 0 rfl rfl ?_
  refine wa_iload_n dJ9_min_7cf53_1 1 rfl rfl ?_
  refine wa_icmp_gt (tgt := 9) dJ9_min_7cf53_2 rfl (fun hc => ?_) (fun hc => ?_)
  · refine wa_iload_n dJ9_min_7cf53_9 1 rfl rfl ?_
    exact wa_iret dJ9_min_7cf53_10 rfl rfl ⟨by unfold zmin; rw [if_pos hc], rfl, rfl⟩
  · refine wa_iload_n dJ9_min_7cf53_5 0 rfl rfl ?_
    refine wa_goto (tgt := 10) dJ9_min_7cf53_6 rfl ?_
    exact wa_iret dJ9_min_7cf53_10 rfl rfl ⟨by unfold zmin; rw [if_neg hc], rfl, rfl⟩
theorem k_zmax {X : a_X} {ad : Nat → Nat} {ca : Nat → ClassId} {L : a_L} {M : a_M} {P : a_P} (a b : Int32) : Mt X ad ca L 1 yJ9_max_7cf53 cJ9_max_7cf53 2 (some FieldType.int) [.int a, .int b] M P (fun r M1 P1 => r = some (.int (zmax a b)) ∧ M1 = M ∧ P1 = P) := by
  refine Mt.of (lv := [(0, .int a), (1, .int b)]) (by decide +kernel) rfl rfl rfl ?_
  refine wa_iload_n dJ9_max_7cf53_0 0 rfl rfl ?_
  refine wa_iload_n dJ9_max_7cf53_1 1 rfl rfl ?_
  refine wa_icmp_lt (tgt := 9) dJ9_max_7cf53_2 rfl (fun hc => ?_) (fun hc => ?_)
  · refine wa_iload_n dJ9_max_7cf53_9 1 rfl rfl ?_
    exact wa_iret dJ9_max_7cf53_10 rfl rfl ⟨by unfold zmax; rw [if_pos hc], rfl, rfl⟩
  · refine wa_iload_n dJ9_max_7cf53_5 0 rfl rfl ?_
    refine wa_goto (tgt := 10) dJ9_max_7cf53_6 rfl ?_
    exact wa_iret dJ9_max_7cf53_10 rfl rfl ⟨by unfold zmax; rw [if_neg hc], rfl, rfl⟩
theorem mw_app (M : a_M) (l l2 : List (Nat × Nat × Int32)) : mw (mw M l) l2 = mw M (l2 ++ l) := by
  induction l2 with
  | nil => rfl
  | cons q l2 ih => show ms (mw (mw M l) l2) _ _ _ = ms (mw M (l2 ++ l)) _ _ _; rw [ih]
theorem pw_app (P : a_P) (l l2 : List (Nat × Nat × Nat)) : pw (pw P l) l2 = pw P (l2 ++ l) := by
  induction l2 with
  | nil => rfl
  | cons q l2 ih => show va_up (pw (pw P l) l2) _ (va_up (pw (pw P l) l2 _) _ _) = va_up (pw P (l2 ++ l)) _ (va_up (pw P (l2 ++ l) _) _ _); rw [ih]
section WNW
variable {X : a_X} {ad0 : Nat → Nat} {ca0 : Nat → ClassId} {n0 : Nat} {own : String} {cc : ByteArray} {nL : Nat} {ret : Option FieldType} {d KC KS kc ks n : Nat} {fi : Prop} {QF : List Frame → Array Value → State → State → Prop} {pc : Nat} {lv : List (Nat × Value)} {st : List Value} {M : a_M} {P : a_P} {ml : List (Nat × Nat × Int32)} {pl : List (Nat × Nat × Nat)}
theorem wn_start (h : WN X ad0 ca0 n0 own cc nL ret d KC KS kc ks n fi QF pc lv st (mw M []) (pw P [])) : WN X ad0 ca0 n0 own cc nL ret d KC KS kc ks n fi QF pc lv st M P := h
theorem wn_pi {o ci k N idx : Nat} {x : Int32} (hdg : decode cc pc = .ok (.putfield idx, 3)) (hf : a_FL own idx ci k N) (hm : a_FM ci k) (hr : a_rf ci k = false) (hL : LY[o]? = some (ci, N)) (ho : o < n) (hn : narrow (a_ty ci k) (.int x) = .int x) (hfit : fits (a_ty ci k) (.int x) = true) (h : WN X ad0 ca0 n0 own cc nL ret d KC KS kc ks n fi QF (pc + 3) lv st (mw M ((o, k, x) :: ml)) P) : WN X ad0 ca0 n0 own cc nL ret d KC KS kc ks n fi QF pc lv (.int x :: .ref o :: st) (mw M ml) P := wn_puti hdg hf hm hr hL ho hn hfit h
theorem wn_pr {o ci k N idx r : Nat} (hdg : decode cc pc = .ok (.putfield idx, 3)) (hf : a_FL own idx ci k N) (hm : a_FM ci k) (hr : a_rf ci k = true) (hL : LY[o]? = some (ci, N)) (ho : o < n) (hn : ∀ b, narrow (a_ty ci k) (.ref b) = .ref b) (hfit : ∀ b, fits (a_ty ci k) (.ref b) = true) (hr9 : r < n) (h : WN X ad0 ca0 n0 own cc nL ret d KC KS kc ks n fi QF (pc + 3) lv st M (pw P ((o, k, r + 1) :: pl))) : WN X ad0 ca0 n0 own cc nL ret d KC KS kc ks n fi QF pc lv (.ref r :: .ref o :: st) M (pw P pl) := wn_putr hdg hf hm hr hL ho hn hfit hr9 h
theorem wn_pf {o ci k N idx r : Nat} (hdg : decode cc pc = .ok (.putfield idx, 3)) (hf : a_FL own idx ci k N) (hm : a_FF own ci k) (hfi : fi) (hr : a_rf ci k = true) (hL : LY[o]? = some (ci, N)) (ho : o < n) (hn : ∀ b, narrow (a_ty ci k) (.ref b) = .ref b) (hfit : ∀ b, fits (a_ty ci k) (.ref b) = true) (hr9 : r < n) (h : WN X ad0 ca0 n0 own cc nL ret d KC KS kc ks n fi QF (pc + 3) lv st M (pw P ((o, k, r + 1) :: pl))) : WN X ad0 ca0 n0 own cc nL ret d KC KS kc ks n fi QF pc lv (.ref r :: .ref o :: st) M (pw P pl) := wn_putf hdg hf hm hfi hr hL ho hn hfit hr9 h
theorem wn_is {o n9 j : Nat} {i x : Int32} (hdg : decode cc pc = .ok (.iastore, 1)) (hL : LY[o]? = some (100, n9)) (ho : o < n) (hin : vp_in i n9) (hj : i.toNatClampNeg = j) (h : WN X ad0 ca0 n0 own cc nL ret d KC KS kc ks n fi QF (pc + 1) lv st (mw M ((o, j, x) :: ml)) P) : WN X ad0 ca0 n0 own cc nL ret d KC KS kc ks n fi QF pc lv (.int x :: .int i :: .ref o :: st) (mw M ml) P := wn_iast hdg hL ho hin (by rw [hj]; exact h)
theorem wn_as {o N r j : Nat} {i : Int32} (hdg : decode cc pc = .ok (.aastore, 1)) (hL : LY[o]? = some (102, N)) (ho : o < n) (hLr : LY[r]? = some (7, 7)) (hr : r < n) (hin : vp_in i N) (hj : i.toNatClampNeg = j) (h : WN X ad0 ca0 n0 own cc nL ret d KC KS kc ks n fi QF (pc + 1) lv st M (pw P ((o, j, r + 1) :: pl))) : WN X ad0 ca0 n0 own cc nL ret d KC KS kc ks n fi QF pc lv (.ref r :: .int i :: .ref o :: st) M (pw P pl) := wn_aast hdg hL ho hLr hr hin (by rw [hj]; exact h)
end WNW
def b_rows (n : Nat) : List (Nat × Nat × Nat) := ((List.range 21).map (fun i => (n, i, n + 2 + i))).reverse
/-! ===== BEGIN new T[n][m]: the outer array a place, the inner ones among the pooled ===== -/
/-- f, but v at every address of l -/
def vr_up {α : Type} (f : Nat → α) (l : List Nat) (v : α) : Nat → α := fun a => if a ∈ l then v else f a
theorem vr_up_in {α : Type} {f : Nat → α} {l : List Nat} {v : α} {a : Nat} (h : a ∈ l) : vr_up f l v a = v := if_pos h
theorem vr_up_ne {α : Type} {f : Nat → α} {l : List Nat} {v : α} {a : Nat} (h : a ∉ l) : vr_up f l v a = f a := if_neg h
theorem vr_rows {L l : List Nat} {f : Nat → va_E} {e : va_E} (h : ∀ a, a ∈ l → a ∉ L) : va_pl L f ++ l.map (fun a => (a, e)) = va_pl (L ++ l) (vr_up f l e) := by
  unfold va_pl
  rw [List.map_append]
  congr 1
  · apply List.map_congr_left
    intro a ha
    rw [vr_up_ne (fun q => h a q ha)]
  · apply List.map_congr_left
    intro a ha
    rw [vr_up_in ha]
theorem vr_lay {X rows : va_W} {x : Nat × va_E} {pl : va_W} {D : va_G} {cl : List vw_C} {H : Heap} (hP : va_P D cl (((X ++ pl) ++ [x]) ++ rows) H) : va_P D cl ((X ++ [x]) ++ (pl ++ rows)) H := by
  rw [List.append_assoc (X ++ pl)] at hP
  have h := va_P.swap hP
  rw [← List.append_assoc X] at h
  have h2 := va_P.swap h
  rw [List.append_assoc (X ++ [x])] at h2
  exact h2
theorem vr_layD {X rows : va_W} {x : Nat × va_E} {pl : va_W} {A : Nat → Prop} (hD : va_D A (((X ++ pl) ++ [x]) ++ rows)) : va_D A ((X ++ [x]) ++ (pl ++ rows)) := by
  rw [List.append_assoc (X ++ pl)] at hD
  have h := va_D.swap hD
  rw [← List.append_assoc X] at h
  have h2 := va_D.swap h
  rw [List.append_assoc (X ++ [x])] at h2
  exact h2
theorem vr_outer (c : ClassId) (N h0 : Nat) : ∀ i : Nat, Jvm.Free.Multi.outerC c N h0 i = arrV c N (fun j => va_rf (if j < i then some (h0 + 1 + j) else none))
  | 0 => by
    show ({ cls := c, slots := Array.replicate N .null, vm := .none } : Cell) = _
    rw [arrV_new]
    refine congrArg (arrV c N) (funext fun j => ?_)
    simp [va_rf]
  | i + 1 => by
    show (Jvm.Free.Multi.outerC c N h0 i).setSlot i (.ref (h0 + 1 + i)) = _
    rw [vr_outer c N h0 i, arrV_store]
    refine congrArg (arrV c N) (funext fun j => ?_)
    by_cases e : j = i
    · subst e
      simp [updV, va_rf]
    · by_cases h : j < i
      · simp [updV, e, h, Nat.lt_succ_of_lt h]
      · simp [updV, e, h, show ¬ j < i + 1 by omega]
section VGM
variable {p : Program} {l : Launch} {e : Env} {R : Room} {s : State} {m : MethodId} {args : Array Value} {below : List Frame} {meth : Method} {c : Code} {H : Heap} {locs : List Loc} {cells slots : Nat} {Q : State → Prop}
variable {cc : ByteArray} {pc : Nat} {ls : Array Slot} {rest : List Value} {D : va_G} {cl : List vw_C} {A : Nat → Prop} {a : Nat} {tys : List (ClassId × FieldType)} {ws : va_W} {H0 : Heap}
theorem va_mna {X : va_W} {L : List Nat} {f : Nat → va_E} {cc : ByteArray} (hexec : p.tables.exec = Jvm.exec) (hb : c.code = cc) {own : String} {index : Nat} {ty : FieldType} {cy : ClassId} (hown : s.vm.findClass own = some m.cls) (hclink : (Cond.classLink own index ("[" ++ (FieldType.array ty).toString)).before args s = true) (hover : va_AOA ty s) (harr : (Cond.arrayClass ty).before args s = true) (hcy : s.vm.findClass (FieldType.array ty).toString = some cy)
    (hK : va_K D cl tys s) (hP : va_P D cl (X ++ va_pl L f) H) (hD : va_D A (X ++ va_pl L f)) (hS : va_S A H0 H locs) (hA : ∀ q, H0.size ≤ q → A q) {n k : Int32} {N' K' : Nat} {z : vp_A} (hn : ¬ n < 0) (hk : ¬ k < 0) (hN : n.toNatClampNeg = N') (hM : k.toNatClampNeg = K')
    (hb1 : N' * 4 ≤ 536870912) (hb2 : K' * componentBytes ty ≤ 536870912) (hb3 : K' ≤ 536870912) (hdf : fits ty (defaultValue ty) = true) (hdd : (defaultValue ty).isDefault = true) (hcells : cells + (1 + N') ≤ R.cells) (hslots : slots + (N' + N' * K') ≤ R.slots) (hz : ∀ c : ClassId, Jvm.Free.Multi.innerC c K' (defaultValue ty) = vp_cell c z) (hdg : decode cc pc = .ok (.multianewarray index 2, 4))
    (kk : ∀ (q : Nat) (r : Nat → Nat) (cA : ClassId) (H1 : Heap), (∀ i j : Nat, i < N' → j < N' → r i = r j → i = j) → (∀ i : Nat, i < N' → r i ∉ L) → va_K D cl (tys ++ [(cA, .array ty)]) s →
      va_P D cl ((X ++ [(q, .inl (cA, N', .inr (.inr (.inr (.inr (fun i => if i < N' then some (r i) else none))))))]) ++ va_pl (L ++ (List.range N').map r) (vr_up f ((List.range N').map r) (.inl (cy, z)))) H1 → va_D A ((X ++ [(q, .inl (cA, N', .inr (.inr (.inr (.inr (fun i => if i < N' then some (r i) else none))))))]) ++ va_pl (L ++ (List.range N').map r) (vr_up f ((List.range N').map r) (.inl (cy, z)))) → va_S A H0 H1 locs →
      W p l e R s m args below meth c H1 locs (cells + 1 + N') (slots + N' + N' * K') Q (F0 m (pc + 4) ls (.ref q :: rest))) : W p l e R s m args below meth c H locs cells slots Q (F0 m pc ls (.int k :: .int n :: rest)) := by
  subst hN
  subst hM
  intro T hT Xs
  obtain ⟨vm₁, cA, comp, -, fA, fC, hO, -, X', step⟩ := Stand.multianewarray2F Xs hexec hown hclink (va_AOA.use hover) harr (g := F0 m pc ls (.int k :: .int n :: rest)) rfl (by rw [hb]; exact hdg) rfl hn hk hb1 hb2 hb3 hdf hdd hcells hslots
  have ec : some cy = some comp := hcy.symm.trans fC
  cases ec
  generalize hF : Jvm.Free.Multi.fill (T.setVm vm₁) cA cy n.toNatClampNeg k.toNatClampNeg (defaultValue ty) n.toNatClampNeg = F at X' step
  have hTh : (T.setVm vm₁).heap = H := hT
  obtain ⟨f1, f2, -, -⟩ := Jvm.Free.Multi.fill_facts (T.setVm vm₁) cA cy n.toNatClampNeg k.toNatClampNeg (defaultValue ty) n.toNatClampNeg
  rw [hF, hTh] at f1 f2
  have hold : ∀ x : Nat, x < H.size → F.heap[x]? = H[x]? := fun x hx => by
    have := Jvm.Free.Multi.fill_old (T.setVm vm₁) cA cy n.toNatClampNeg k.toNatClampNeg (defaultValue ty) (a := x) (by rw [hTh]; exact hx) n.toNatClampNeg
    rw [hF, hTh] at this
    exact this
  have hrow : ∀ j : Nat, j < n.toNatClampNeg → F.heap[H.size + 1 + j]? = some (vp_cell cy z) := fun j hj => by
    have := Jvm.Free.Multi.fill_inner (T.setVm vm₁) cA cy n.toNatClampNeg k.toNatClampNeg (defaultValue ty) n.toNatClampNeg j hj
    rw [hF, hTh, hz] at this
    exact this
  have hout : Jvm.Free.Multi.outerC cA n.toNatClampNeg H.size n.toNatClampNeg = vp_cell cA (n.toNatClampNeg, .inr (.inr (.inr (.inr (fun i => if i < n.toNatClampNeg then some (H.size + 1 + i) else none))))) := by
    rw [vp_cell_q]
    exact vr_outer cA n.toNatClampNeg H.size n.toNatClampNeg
  rw [hout] at f2
  have hlt : ∀ a, a ∈ L → a < H.size := fun a ha => by
    obtain ⟨k9, hk9⟩ := va_pl_get (X := X) (f := f) ha
    exact (hP k9 _ hk9).lt
  have hnl : ∀ i : Nat, i < n.toNatClampNeg → H.size + 1 + i ∉ L := fun i _ h => by
    have := hlt _ h
    omega
  have hnm : ∀ a, a ∈ (List.range n.toNatClampNeg).map (fun i => H.size + 1 + i) → a ∉ L := fun a ha h => by
    obtain ⟨i, -, rfl⟩ := List.mem_map.mp ha
    have := hlt _ h
    omega
  have hP0 : va_P D cl (X ++ va_pl L f) F.heap := hP.kept (fun k9 x hx => hold x.1 ((hP k9 x hx).lt))
  have hP1 : va_P D cl ((X ++ va_pl L f) ++ [(H.size, .inl (cA, n.toNatClampNeg, .inr (.inr (.inr (.inr (fun i => if i < n.toNatClampNeg then some (H.size + 1 + i) else none))))))]) F.heap := hP0.app (fun k9 x hx => by
    have h0 : k9 < 1 := (List.getElem?_eq_some_iff.mp hx).1
    rw [show k9 = 0 by omega] at hx
    cases hx
    exact f2)
  have hP2 : va_P D cl (((X ++ va_pl L f) ++ [(H.size, .inl (cA, n.toNatClampNeg, .inr (.inr (.inr (.inr (fun i => if i < n.toNatClampNeg then some (H.size + 1 + i) else none))))))]) ++ ((List.range n.toNatClampNeg).map (fun i => H.size + 1 + i)).map (fun a => (a, .inl (cy, z)))) F.heap := hP1.app (fun k9 x hx => by
    obtain ⟨a, ha, rfl⟩ := List.mem_map.mp (List.mem_of_getElem? hx)
    obtain ⟨i, hi, rfl⟩ := List.mem_map.mp ha
    exact hrow i (List.mem_range.mp hi))
  have hD2 : va_D A (((X ++ va_pl L f) ++ [(H.size, .inl (cA, n.toNatClampNeg, .inr (.inr (.inr (.inr (fun i => if i < n.toNatClampNeg then some (H.size + 1 + i) else none))))))]) ++ ((List.range n.toNatClampNeg).map (fun i => H.size + 1 + i)).map (fun a => (a, .inl (cy, z)))) := by
    have hD1 := hD.push (e := .inl (cA, n.toNatClampNeg, .inr (.inr (.inr (.inr (fun i => if i < n.toNatClampNeg then some (H.size + 1 + i) else none)))))) hP rfl (hA _ hS.1)
    generalize hW1 : (X ++ va_pl L f) ++ [(H.size, .inl (cA, n.toNatClampNeg, .inr (.inr (.inr (.inr (fun i => if i < n.toNatClampNeg then some (H.size + 1 + i) else none))))))] = W1 at hD1 hP1 ⊢
    have hle : ∀ (k9 : Nat) (x : Nat × va_E), W1[k9]? = some x → x.1 ≤ H.size := fun k9 x hx => by
      rw [← hW1] at hx
      by_cases hl : k9 < (X ++ va_pl L f).length
      · rw [List.getElem?_append_left hl] at hx
        exact Nat.le_of_lt ((hP k9 x hx).lt)
      · rw [List.getElem?_append_right (by omega)] at hx
        have h0 : k9 - (X ++ va_pl L f).length < 1 := (List.getElem?_eq_some_iff.mp hx).1
        rw [show k9 - (X ++ va_pl L f).length = 0 by omega] at hx
        cases hx
        exact Nat.le_refl _
    have hr : ∀ (k9 : Nat) (x : Nat × va_E), (((List.range n.toNatClampNeg).map (fun i => H.size + 1 + i)).map (fun a => ((a, .inl (cy, z)) : Nat × va_E)))[k9]? = some x → x.1 = H.size + 1 + k9 := fun k9 x hx => by
      rw [List.getElem?_map, List.getElem?_map] at hx
      by_cases h9 : k9 < n.toNatClampNeg
      · rw [List.getElem?_range h9] at hx
        cases hx
        rfl
      · have hn0 : (List.range n.toNatClampNeg)[k9]? = none := List.getElem?_eq_none (by rw [List.length_range]; omega)
        rw [hn0] at hx
        cases hx
    refine ⟨fun i j x y hi hj hxy => ?_, fun k9 x hx => ?_⟩
    · by_cases h1 : i < W1.length <;> by_cases h2 : j < W1.length
      · rw [List.getElem?_append_left h1] at hi
        rw [List.getElem?_append_left h2] at hj
        exact hD1.1 i j x y hi hj hxy
      · rw [List.getElem?_append_left h1] at hi
        rw [List.getElem?_append_right (by omega)] at hj
        have := hle _ _ hi
        have := hr _ _ hj
        omega
      · rw [List.getElem?_append_right (by omega)] at hi
        rw [List.getElem?_append_left h2] at hj
        have := hle _ _ hj
        have := hr _ _ hi
        omega
      · rw [List.getElem?_append_right (by omega)] at hi hj
        have := hr _ _ hi
        have := hr _ _ hj
        omega
    · by_cases h1 : k9 < W1.length
      · rw [List.getElem?_append_left h1] at hx
        exact hD1.2 k9 x hx
      · rw [List.getElem?_append_right (by omega)] at hx
        have := hr _ _ hx
        exact hA _ (by have := hS.1; omega)
  have hAr : ArrOfT s cA (.array ty) := fun N9 z9 => by
    obtain ⟨-, k9, hk9, cm9, hkk9⟩ := (hO 0 0 0).1
    exact ⟨(fun q hq => by cases hq), k9, hk9, cm9, hkk9⟩
  have hK2 : va_K D cl (tys ++ [(cA, .array ty)]) s := ⟨hK.1, fun k9 x hx => by
    by_cases hl : k9 < tys.length
    · rw [List.getElem?_append_left hl] at hx
      exact hK.2 k9 x hx
    · rw [List.getElem?_append_right (by omega)] at hx
      have h0 : k9 - tys.length < 1 := (List.getElem?_eq_some_iff.mp hx).1
      rw [show k9 - tys.length = 0 by omega] at hx
      cases hx
      exact ⟨hAr, fA⟩⟩
  obtain ⟨t, a1, b1⟩ := kk H.size (fun i => H.size + 1 + i) cA F.heap (fun i j _ _ h => by have h9 : H.size + 1 + i = H.size + 1 + j := h; omega) hnl hK2 (by rw [← vr_rows hnm]; exact vr_lay hP2) (by rw [← vr_rows hnm]; exact vr_layD hD2) ⟨by rw [f1]; have := hS.1; omega, fun x h1 h2 => (hold x (Nat.lt_of_lt_of_le h1 hS.1)).trans (hS.2.1 x h1 h2), hS.2.2⟩ F rfl X'
  refine ⟨t, step t ?_, b1⟩
  have e : T.heap.size = H.size := by rw [hT]
  rw [e]
  exact a1
end VGM

theorem brow_get (P : a_P) (n o k : Nat) : ∀ m, pw P (((List.range m).map (fun i => (n, i, n + 2 + i))).reverse) o k = if o = n ∧ k < m then n + 2 + k else P o k
  | 0 => by rw [if_neg (by omega)]; rfl
  | m + 1 => by
    have ih := fun o k => brow_get P n o k m
    rw [List.range_succ, List.map_append, List.reverse_append]
    show va_up (pw P (((List.range m).map (fun i => (n, i, n + 2 + i))).reverse)) n (va_up (pw P (((List.range m).map (fun i => (n, i, n + 2 + i))).reverse) n) m (n + 2 + m)) o k = _
    by_cases c : o = n
    · subst c
      rw [vu]
      by_cases c2 : k = m
      · subst c2
        rw [vu, if_pos ⟨rfl, by omega⟩]
      · rw [vn _ _ _ _ c2, brow_get P o o k m]
        by_cases c3 : k < m
        · rw [if_pos ⟨rfl, c3⟩, if_pos ⟨rfl, by omega⟩]
        · rw [if_neg (by omega), if_neg (by omega)]
    · rw [vn _ _ _ _ c, brow_get P n o k m, if_neg (by omega), if_neg (by omega)]
theorem b_rows_get (P : a_P) (n o k : Nat) : pw P (b_rows n) o k = if o = n ∧ k < 21 then n + 2 + k else P o k := brow_get P n o k 21
def m_ad (ad : Nat → Nat) (n q : Nat) (r : Nat → Nat) : Nat → Nat := fun i => if i = n then q else if n < i ∧ i < n + 22 then r (i - n - 1) else ad i
def m_ca (ca : Nat → ClassId) (n : Nat) (cA cy : ClassId) : Nat → ClassId := fun i => if i = n then cA else if n < i ∧ i < n + 22 then cy else ca i
theorem m_LY {n : Nat} (h : (LY.drop n).take 22 = (103, 21) :: List.replicate 21 (100, 128)) : LY[n]? = some (103, 21) ∧ ∀ j, n < j → j < n + 22 → LY[j]? = some (100, 128) := by
  have e : ∀ j, j < 22 → LY[n + j]? = ((103, 21) :: List.replicate 21 (100, 128) : a_L)[j]? := fun j hj => by
    rw [← h, List.getElem?_take, if_pos hj, List.getElem?_drop]
  refine ⟨by have := e 0 (by omega); simpa using this, fun j h1 h2 => ?_⟩
  have := e (j - n) (by omega)
  rw [show n + (j - n) = j by omega, show j - n = (j - n - 1) + 1 by omega, List.getElem?_cons_succ, List.getElem?_replicate, if_pos (by omega)] at this
  exact this
theorem m_list {ad : Nat → Nat} {ca : Nat → ClassId} {M : a_M} {P : a_P} {n q : Nat} {r : Nat → Nat} {cA cy : ClassId} (hLs : (LY.drop n).take 22 = (103, 21) :: List.replicate 21 (100, 128)) (hz : zN M P n) (e : va_E) (he : e = .inl (cA, 21, .inr (.inr (.inr (.inr (fun i => if i < 21 then some (r i) else none)))))) : a_c (m_ad ad n q r) (m_ca ca n cA cy) (LY.take (n + 22)) M (pw P (b_rows n)) = (a_c ad ca (LY.take n) M P ++ [(q, e)]) ++ ((List.range 21).map r).map (fun a => (a, (.inl (cy, 128, .inl (fun _ => 0)) : va_E))) := by
  obtain ⟨hn, hrow⟩ := m_LY hLs
  have hl21 := hrow (n + 21) (by omega) (by omega)
  have hlt : n + 21 < LY.length := (List.getElem?_eq_some_iff.mp hl21).1
  have hlen : (a_c ad ca (LY.take n) M P).length = n := by rw [a_c_len, List.length_take]; omega
  apply List.ext_getElem?
  intro j
  by_cases c1 : j < n
  · rw [List.getElem?_append_left (by rw [List.length_append, hlen]; show j < n + 1; omega), List.getElem?_append_left (by omega)]
    have hj : LY[j]? = some LY[j] := List.getElem?_eq_getElem (by omega)
    rw [a_c_at (tk_at hj (by omega)), a_c_at (tk_at hj c1)]
    have h1 : m_ad ad n q r j = ad j := by unfold m_ad; rw [if_neg (by omega), if_neg (by omega)]
    have h2 : m_ca ca n cA cy j = ca j := by unfold m_ca; rw [if_neg (by omega), if_neg (by omega)]
    have hp : ∀ k, pw P (b_rows n) j k = P j k := fun k => by rw [b_rows_get, if_neg (by omega)]
    have hpf : pw P (b_rows n) j = P j := funext hp
    rw [h1, a_e_ad (ad := ad) (ca := ca) (fun k => ?_) h2, a_e_eq rfl hpf]
    rw [hp]
    exact a_or_lo (n := n) (fun i hi => by unfold m_ad; rw [if_neg (by omega), if_neg (by omega)]) (hz.2.2 j k)
  · by_cases c2 : j = n
    · subst c2
      rw [List.getElem?_append_left (by rw [List.length_append, hlen]; show j < j + 1; omega), List.getElem?_append_right (by omega), hlen, Nat.sub_self, a_c_at (tk_at hn (by omega)), a_e_ref (by decide)]
      have h1 : m_ad ad j q r j = q := by unfold m_ad; rw [if_pos rfl]
      have h2 : m_ca ca j cA cy j = cA := by unfold m_ca; rw [if_pos rfl]
      have hf : (fun k => a_or (m_ad ad j q r) (pw P (b_rows j) j k)) = fun i => if i < 21 then some (r i) else none := funext fun k => by
        rw [b_rows_get]
        by_cases c : k < 21
        · rw [if_pos ⟨rfl, c⟩, if_pos c]
          unfold a_or m_ad
          rw [if_neg (by omega), if_neg (by omega), if_pos (by omega), show j + 2 + k - 1 - j - 1 = k by omega]
        · rw [if_neg (by omega), if_neg c, hz.2.1 j (Nat.le_refl _)]
          rfl
      rw [h1, h2, hf, he]
      rfl
    · rw [List.getElem?_append_right (by rw [List.length_append, hlen]; show n + 1 ≤ j; omega), List.length_append, hlen]
      show _ = (((List.range 21).map r).map (fun a => (a, (.inl (cy, 128, .inl (fun _ => 0)) : va_E))))[j - (n + 1)]?
      by_cases c3 : j < n + 22
      · rw [a_c_at (tk_at (hrow j (by omega) c3) c3), a_e_int (by decide) (by decide), List.getElem?_map, List.getElem?_map, List.getElem?_range (by omega)]
        have h1 : m_ad ad n q r j = r (j - (n + 1)) := by unfold m_ad; rw [if_neg c2, if_pos (by omega), show j - n - 1 = j - (n + 1) by omega]
        have h2 : m_ca ca n cA cy j = cy := by unfold m_ca; rw [if_neg c2, if_pos (by omega)]
        have h3 : M j = fun _ => 0 := funext (hz.1 j (by omega))
        rw [h1, h2, h3]
        rfl
      · rw [a_c_no (by rw [List.getElem?_take, if_neg (by omega)])]
        symm
        apply List.getElem?_eq_none
        simp
        omega
theorem wn_mna {X : a_X} {ad0 : Nat → Nat} {ca0 : Nat → ClassId} {n0 : Nat} {own : String} {cc : ByteArray} {nL : Nat} {ret : Option FieldType} {d KC KS kc ks n : Nat} {fi : Prop} {QF : List Frame → Array Value → State → State → Prop} {pc : Nat} {lv : List (Nat × Value)} {st : List Value} {M : a_M} {P : a_P} {idx : Nat} (hdg : decode cc pc = .ok (.multianewarray idx 2, 4)) (hcl : Cond.classLink own idx "[[I" ∈ a_tb) (harr : Cond.arrayClass .int ∈ a_tb) (hLs : (LY.drop n).take 22 = (103, 21) :: List.replicate 21 (100, 128)) (hkc : Nat.ble (kc + 22) KC = true) (hks : Nat.ble (ks + 2709) KS = true) (hst : st.all (a_lo n) = true) (hlv : lv.all (fun q => a_lo n q.2) = true) (h : WN X ad0 ca0 n0 own cc nL ret d KC KS (kc + 22) (ks + 2709) (n + 22) fi QF (pc + 4) lv (.ref n :: st) M (pw P (b_rows n))) : WN X ad0 ca0 n0 own cc nL ret d KC KS kc ks n fi QF pc lv (.int 128 :: .int 21 :: st) M P := by
  intro ad ca R p l e s m args below meth c H locs ls hR hI F hov hb hca hk9 hz w S hl
  have hkc' := Nat.le_of_ble_eq_true hkc
  have hks' := Nat.le_of_ble_eq_true hks
  obtain ⟨hLn, hrow⟩ := m_LY hLs
  have hn22 : n + 22 ≤ 153 := by
    have := (List.getElem?_eq_some_iff.mp (hrow (n + 21) (by omega) (by omega))).1
    rw [LY_len] at this
    omega
  obtain ⟨cy, kC, comp, hcy, hkC, hkind⟩ := Cond.arrayClass_spec (F.2.2.2.2.2.1 _ harr)
  have hs : ("[" ++ (FieldType.array FieldType.int).toString) = "[[I" := by decide
  have ew : a_c ad ca (LY.take n) M P ++ va_pl [] (fun _ => (.inl (cy, 0, .inl (fun _ => 0)) : va_E)) = a_c ad ca (LY.take n) M P := List.append_nil _
  refine va_mna (X := a_c ad ca (LY.take n) M P) (L := []) (f := fun _ => (.inl (cy, 0, .inl (fun _ => 0)) : va_E)) (D := X.1) (cl := a_cls) (tys := []) (ty := .int) (cy := cy) (N' := 21) (K' := 128) (z := (128, .inl (fun _ => 0))) F.1 F.2.1 F.2.2.2.2.1 (by rw [hs]; exact F.2.2.2.2.2.1 _ hcl) hov.2 (F.2.2.2.2.2.1 _ harr) hcy hk9.1 (by rw [ew]; exact w.1) (by rw [ew]; exact n_D w.2 hb) S (fun q hq => Or.inr hq) (by decide) (by decide) rfl rfl (by decide) (by decide) (by decide) rfl rfl (by omega) (by omega) (fun c => ?_) hdg (fun q r cA H1 hr hrL hK1 hP1 hD1 hS1 => ?_)
  · exact (arrV_new c 128 (.int 0))
  · have hrows : va_pl ([] ++ (List.range 21).map r) (vr_up (fun _ => (.inl (cy, 0, .inl (fun _ => 0)) : va_E)) ((List.range 21).map r) (.inl (cy, 128, .inl (fun _ => 0)))) = ((List.range 21).map r).map (fun a => (a, (.inl (cy, 128, .inl (fun _ => 0)) : va_E))) := by
      rw [List.nil_append]
      unfold va_pl
      apply List.map_congr_left
      intro a ha
      rw [vr_up_in ha]
    rw [hrows] at hP1 hD1
    have heq := m_list (ad := ad) (ca := ca) (M := M) (P := P) (n := n) (q := q) (r := r) (cA := cA) (cy := cy) hLs hz _ rfl
    rw [← heq] at hP1 hD1
    have hsame : ∀ i, (i < n ∨ n + 22 ≤ i) → m_ad ad n q r i = ad i := fun i hi => by unfold m_ad; rw [if_neg (by omega), if_neg (by omega)]
    have hlen : (a_c (m_ad ad n q r) (m_ca ca n cA cy) (LY.take (n + 22)) M (pw P (b_rows n))).length = n + 22 := by rw [a_c_len, tk_len hn22]
    have hb1 : b_ok ad0 (m_ad ad n q r) n0 (n + 22) s.heap.size := by
      obtain ⟨b1, b2, b3, b4⟩ := hb
      refine ⟨by omega, hn22, fun i hi => by rw [hsame i (by omega)]; exact b3 i (by omega), fun i h1 h2 => ?_⟩
      by_cases c9 : i < n
      · rw [hsame i (Or.inl c9)]; exact b4 i h1 c9
      · have hi : LY[i]? = some (LY[i]'(by rw [LY_len]; omega)) := List.getElem?_eq_getElem (by rw [LY_len]; omega)
        have hat := a_c_at (ad := m_ad ad n q r) (ca := m_ca ca n cA cy) (M := M) (P := pw P (b_rows n)) (tk_at hi h2)
        rcases hD1.2 _ _ hat with ⟨j, hj, hq⟩ | hq
        · rw [tk_len (by omega)] at hj
          have hjl : j < LY.length := by rw [LY_len]; omega
          have hj2 : LY[j]? = some (LY[j]'hjl) := List.getElem?_eq_getElem hjl
          have hat2 := a_c_at (ad := m_ad ad n q r) (ca := m_ca ca n cA cy) (M := M) (P := pw P (b_rows n)) (tk_at hj2 (show j < n + 22 by omega))
          have := hD1.1 _ _ _ _ hat2 hat (by show m_ad ad n q r j = _; rw [hsame j (by omega), b3 j (Or.inl hj)]; exact hq.symm)
          omega
        · exact hq
    have hzn : zN M (pw P (b_rows n)) (n + 22) := ⟨fun i hi => hz.1 i (by omega), fun i hi k => by rw [b_rows_get, if_neg (by omega)]; exact hz.2.1 i (by omega) k, fun i k => by
      rw [b_rows_get]
      have := hz.2.2 i k
      split <;> omega⟩
    have hkd : a_kd X (m_ca ca n cA cy) (LY.take (n + 22)) s := by
      refine ⟨hk9.1, fun i q9 hi hq9 => ?_⟩
      obtain ⟨h1, h2⟩ := tk_of hi
      by_cases c1 : i < n
      · have h3 : m_ca ca n cA cy i = ca i := by unfold m_ca; rw [if_neg (by omega), if_neg (by omega)]
        rw [h3]
        exact hk9.2 i q9 (tk_at h2 c1) hq9
      · by_cases c2 : i = n
        · subst c2
          have h3 : m_ca ca i cA cy i = cA := by unfold m_ca; rw [if_pos rfl]
          rw [hLn] at h2
          cases h2
          rw [h3]
          exact hK1.2 0 _ rfl
        · have h3 : m_ca ca n cA cy i = cy := by unfold m_ca; rw [if_neg c2, if_pos (by omega)]
          rw [hrow i (by omega) h1] at h2
          cases h2
          rw [h3]
          exact ⟨fun N z => ⟨fun k h => (by cases h), kC, hkC, comp, hkind⟩, hcy⟩
    have h9 := h (m_ad ad n q r) (m_ca ca n cA cy) R p l e s m args below meth c H1 locs ls hR hI F hov hb1 (fun i hi => by have : m_ca ca n cA cy i = ca i := by { unfold m_ca; rw [if_neg (by have := hb.1; omega), if_neg (by have := hb.1; omega)] }; rw [this]; exact hca i hi) hkd hzn ⟨hP1, hD1.1, fun _ _ _ => trivial⟩ hS1 (by rw [a_mp_lo hsame (by omega) hlv]; exact hl)
    rw [List.map_cons, a_st_lo hsame (by omega) hst] at h9
    have hv : a_cv (m_ad ad n q r) (.ref n) = .ref q := by show Value.ref (m_ad ad n q r n) = _; unfold m_ad; rw [if_pos rfl]
    rw [hv] at h9
    exact h9


theorem ct1 {X : a_X} {ad : Nat → Nat} {ca : Nat → ClassId} {M : a_M} {P : a_P}  : Mb X ad ca 2 1 3 902 yX10_init cX10_init 1 [.ref 1] M P 5 (fun M1 P1 => M1 = mw M [(1, 3, 0)] ∧ P1 = pw P [(1, 2, 5), (1, 1, 4), (1, 0, 3)]) := by
  refine Mb.of (lv := [(0, .ref 1)]) (by decide +kernel) rfl rfl rfl rfl (wn_start ?_)
  refine wn_aload_n dX10_init_0 0 rfl rfl ?_
  refine wn_obj dX10_init_1 olX10_1 oi_in oi_cd rfl rfl ?_
  refine wn_aload_n dX10_init_4 0 rfl rfl ?_
  refine wn_sipush (v := 300) dX10_init_5 rfl ?_
  refine wn_newa (kd := 100) (N := 300) dX10_init_8 rfl rfl ⟨rfl, rfl⟩ arrc_int rfl (by decide) rfl rfl rfl rfl rfl rfl ?_
  refine wn_pf dX10_init_10 fkX10_9 ffX10_0 trivial rfl rfl (by decide) (fun _ => rfl) (fun _ => rfl) (by decide) ?_
  refine wn_aload_n dX10_init_13 0 rfl rfl ?_
  refine wn_sipush (v := 301) dX10_init_14 rfl ?_
  refine wn_newa (kd := 100) (N := 301) dX10_init_17 rfl rfl ⟨rfl, rfl⟩ arrc_int rfl (by decide) rfl rfl rfl rfl rfl rfl ?_
  refine wn_pf dX10_init_19 fkX10_13 ffX10_1 trivial rfl rfl (by decide) (fun _ => rfl) (fun _ => rfl) (by decide) ?_
  refine wn_aload_n dX10_init_22 0 rfl rfl ?_
  refine wn_sipush (v := 301) dX10_init_23 rfl ?_
  refine wn_newa (kd := 100) (N := 301) dX10_init_26 rfl rfl ⟨rfl, rfl⟩ arrc_int rfl (by decide) rfl rfl rfl rfl rfl rfl ?_
  refine wn_pf dX10_init_28 fkX10_16 ffX10_2 trivial rfl rfl (by decide) (fun _ => rfl) (fun _ => rfl) (by decide) ?_
  refine wn_aload_n dX10_init_31 0 rfl rfl ?_
  refine wn_iconst (v := 0) dX10_init_32 rfl ?_
  refine wn_pi dX10_init_33 fkX10_19 fmX10_3 rfl rfl (by decide) rfl rfl ?_
  exact wn_vret dX10_init_36 rfl rfl ⟨congrArg (mw M) rfl, congrArg (pw P) rfl⟩
theorem ct6 {X : a_X} {ad : Nat → Nat} {ca : Nat → ClassId} {M : a_M} {P : a_P}  : Mb X ad ca 7 1 5 404 yX7_init cX7_init 1 [.ref 6] M P 12 (fun M1 P1 => M1 = mw M [(6, 6, 0), (10, 2, (-1)), (10, 1, (-1)), (10, 0, (-1)), (6, 0, 0)] ∧ P1 = pw P [(6, 5, 12), (6, 4, 11), (6, 3, 10), (6, 2, 9), (6, 1, 8)]) := by
  refine Mb.of (lv := [(0, .ref 6)]) (by decide +kernel) rfl rfl rfl rfl (wn_start ?_)
  refine wn_aload_n dX7_init_0 0 rfl rfl ?_
  refine wn_obj dX7_init_1 olX7_3 oi_in oi_cd rfl rfl ?_
  refine wn_aload_n dX7_init_4 0 rfl rfl ?_
  refine wn_iconst (v := 0) dX7_init_5 rfl ?_
  refine wn_pi dX7_init_6 fkX7_9 fmX7_0 rfl rfl (by decide) rfl rfl ?_
  refine wn_aload_n dX7_init_9 0 rfl rfl ?_
  refine wn_bipush (v := 30) dX7_init_10 rfl ?_
  refine wn_newa (kd := 100) (N := 30) dX7_init_12 rfl rfl ⟨rfl, rfl⟩ arrc_int rfl (by decide) rfl rfl rfl rfl rfl rfl ?_
  refine wn_pf dX7_init_14 fkX7_15 ffX7_1 trivial rfl rfl (by decide) (fun _ => rfl) (fun _ => rfl) (by decide) ?_
  refine wn_aload_n dX7_init_17 0 rfl rfl ?_
  refine wn_bipush (v := 31) dX7_init_18 rfl ?_
  refine wn_newa (kd := 100) (N := 31) dX7_init_20 rfl rfl ⟨rfl, rfl⟩ arrc_int rfl (by decide) rfl rfl rfl rfl rfl rfl ?_
  refine wn_pf dX7_init_22 fkX7_19 ffX7_2 trivial rfl rfl (by decide) (fun _ => rfl) (fun _ => rfl) (by decide) ?_
  refine wn_aload_n dX7_init_25 0 rfl rfl ?_
  refine wn_sipush (v := 300) dX7_init_26 rfl ?_
  refine wn_newa (kd := 100) (N := 300) dX7_init_29 rfl rfl ⟨rfl, rfl⟩ arrc_int rfl (by decide) rfl rfl rfl rfl rfl rfl ?_
  refine wn_pf dX7_init_31 fkX7_24 ffX7_3 trivial rfl rfl (by decide) (fun _ => rfl) (fun _ => rfl) (by decide) ?_
  refine wn_aload_n dX7_init_34 0 rfl rfl ?_
  refine wn_iconst (v := 3) dX7_init_35 rfl ?_
  refine wn_newa (kd := 100) (N := 3) dX7_init_36 rfl rfl ⟨rfl, rfl⟩ arrc_int rfl (by decide) rfl rfl rfl rfl rfl rfl ?_
  refine wn_dup dX7_init_38 rfl ?_
  refine wn_iconst (v := 0) dX7_init_39 rfl ?_
  refine wn_iconst (v := (-1)) dX7_init_40 rfl ?_
  refine wn_is (j := 0) dX7_init_41 rfl (by decide) (by unfold vp_in; decide) rfl ?_
  refine wn_dup dX7_init_42 rfl ?_
  refine wn_iconst (v := 1) dX7_init_43 rfl ?_
  refine wn_iconst (v := (-1)) dX7_init_44 rfl ?_
  refine wn_is (j := 1) dX7_init_45 rfl (by decide) (by unfold vp_in; decide) rfl ?_
  refine wn_dup dX7_init_46 rfl ?_
  refine wn_iconst (v := 2) dX7_init_47 rfl ?_
  refine wn_iconst (v := (-1)) dX7_init_48 rfl ?_
  refine wn_is (j := 2) dX7_init_49 rfl (by decide) (by unfold vp_in; decide) rfl ?_
  refine wn_pf dX7_init_50 fkX7_27 ffX7_4 trivial rfl rfl (by decide) (fun _ => rfl) (fun _ => rfl) (by decide) ?_
  refine wn_aload_n dX7_init_53 0 rfl rfl ?_
  refine wn_bipush (v := 40) dX7_init_54 rfl ?_
  refine wn_newa (kd := 100) (N := 40) dX7_init_56 rfl rfl ⟨rfl, rfl⟩ arrc_int rfl (by decide) rfl rfl rfl rfl rfl rfl ?_
  refine wn_pf dX7_init_58 fkX7_30 ffX7_5 trivial rfl rfl (by decide) (fun _ => rfl) (fun _ => rfl) (by decide) ?_
  refine wn_aload_n dX7_init_61 0 rfl rfl ?_
  refine wn_iconst (v := 0) dX7_init_62 rfl ?_
  refine wn_pi dX7_init_63 fkX7_33 fmX7_6 rfl rfl (by decide) rfl rfl ?_
  exact wn_vret dX7_init_66 rfl rfl ⟨congrArg (mw M) rfl, congrArg (pw P) rfl⟩
theorem ct12 {X : a_X} {ad : Nat → Nat} {ca : Nat → ClassId} {M : a_M} {P : a_P}  : Mb X ad ca 13 1 0 0 yX5_init cX5_init 3 [.ref 12, .ref 1, .ref 6] M P 13 (fun M1 P1 => M1 = mw M [(12, 7, (-1)), (12, 6, 0), (12, 5, 0), (12, 4, 0), (12, 3, (-1)), (12, 2, 0)] ∧ P1 = pw P [(12, 1, 7), (12, 0, 2)]) := by
  refine Mb.of (lv := [(0, .ref 12), (1, .ref 1), (2, .ref 6)]) (by decide +kernel) rfl rfl rfl rfl (wn_start ?_)
  refine wn_aload_n dX5_init_0 0 rfl rfl ?_
  refine wn_obj dX5_init_1 olX5_3 oi_in oi_cd rfl rfl ?_
  refine wn_aload_n dX5_init_4 0 rfl rfl ?_
  refine wn_iconst (v := 0) dX5_init_5 rfl ?_
  refine wn_pi dX5_init_6 fkX5_9 fmX5_2 rfl rfl (by decide) rfl rfl ?_
  refine wn_aload_n dX5_init_9 0 rfl rfl ?_
  refine wn_iconst (v := (-1)) dX5_init_10 rfl ?_
  refine wn_pi dX5_init_11 fkX5_17 fmX5_3 rfl rfl (by decide) rfl rfl ?_
  refine wn_aload_n dX5_init_14 0 rfl rfl ?_
  refine wn_iconst (v := 0) dX5_init_15 rfl ?_
  refine wn_pi dX5_init_16 fkX5_20 fmX5_4 rfl rfl (by decide) rfl rfl ?_
  refine wn_aload_n dX5_init_19 0 rfl rfl ?_
  refine wn_iconst (v := 0) dX5_init_20 rfl ?_
  refine wn_pi dX5_init_21 fkX5_24 fmX5_5 rfl rfl (by decide) rfl rfl ?_
  refine wn_aload_n dX5_init_24 0 rfl rfl ?_
  refine wn_iconst (v := 0) dX5_init_25 rfl ?_
  refine wn_pi dX5_init_26 fkX5_27 fmX5_6 rfl rfl (by decide) rfl rfl ?_
  refine wn_aload_n dX5_init_29 0 rfl rfl ?_
  refine wn_iconst (v := (-1)) dX5_init_30 rfl ?_
  refine wn_pi dX5_init_31 fkX5_30 fmX5_7 rfl rfl (by decide) rfl rfl ?_
  refine wn_aload_n dX5_init_34 0 rfl rfl ?_
  refine wn_aload_n dX5_init_35 1 rfl rfl ?_
  refine wn_pf dX5_init_36 fkX5_33 ffX5_0 trivial rfl rfl (by decide) (fun _ => rfl) (fun _ => rfl) (by decide) ?_
  refine wn_aload_n dX5_init_39 0 rfl rfl ?_
  refine wn_aload_n dX5_init_40 2 rfl rfl ?_
  refine wn_pr dX5_init_41 fkX5_37 fmX5_1 rfl rfl (by decide) (fun _ => rfl) (fun _ => rfl) (by decide) ?_
  exact wn_vret dX5_init_44 rfl rfl ⟨congrArg (mw M) rfl, congrArg (pw P) rfl⟩
theorem ct18 {X : a_X} {ad : Nat → Nat} {ca : Nat → ClassId} {M : a_M} {P : a_P}  : Mb X ad ca 19 1 0 0 yX6_init cX6_init 1 [.ref 18] M P 19 (fun M1 P1 => M1 = mw M [(18, 4, 1), (18, 3, 1), (18, 2, 13), (18, 1, 1), (18, 0, 2)] ∧ P1 = pw P []) := by
  refine Mb.of (lv := [(0, .ref 18)]) (by decide +kernel) rfl rfl rfl rfl (wn_start ?_)
  refine wn_aload_n dX6_init_0 0 rfl rfl ?_
  refine wn_obj dX6_init_1 olX6_3 oi_in oi_cd rfl rfl ?_
  refine wn_aload_n dX6_init_4 0 rfl rfl ?_
  refine wn_iconst (v := 2) dX6_init_5 rfl ?_
  refine wn_pi dX6_init_6 fkX6_9 fmX6_0 rfl rfl (by decide) rfl rfl ?_
  refine wn_aload_n dX6_init_9 0 rfl rfl ?_
  refine wn_iconst (v := 1) dX6_init_10 rfl ?_
  refine wn_pi dX6_init_11 fkX6_15 fmX6_1 rfl rfl (by decide) rfl rfl ?_
  refine wn_aload_n dX6_init_14 0 rfl rfl ?_
  refine wn_bipush (v := 13) dX6_init_15 rfl ?_
  refine wn_pi dX6_init_17 fkX6_19 fmX6_2 rfl rfl (by decide) rfl rfl ?_
  refine wn_aload_n dX6_init_20 0 rfl rfl ?_
  refine wn_iconst (v := 1) dX6_init_21 rfl ?_
  refine wn_pi dX6_init_22 fkX6_22 fmX6_3 rfl rfl (by decide) rfl rfl ?_
  refine wn_aload_n dX6_init_25 0 rfl rfl ?_
  refine wn_iconst (v := 1) dX6_init_26 rfl ?_
  refine wn_pi dX6_init_27 fkX6_25 fmX6_4 rfl rfl (by decide) rfl rfl ?_
  exact wn_vret dX6_init_30 rfl rfl ⟨congrArg (mw M) rfl, congrArg (pw P) rfl⟩
theorem ct13 {X : a_X} {ad : Nat → Nat} {ca : Nat → ClassId} {M : a_M} {P : a_P}  : Mb X ad ca 14 2 5 552 yX1_init cX1_init 1 [.ref 13] M P 19 (fun M1 P1 => M1 = mw M [(13, 9, (-1)), (13, 8, (-1)), (13, 7, 0), (13, 6, 0), (13, 5, (-1)), (18, 4, 1), (18, 3, 1), (18, 2, 13), (18, 1, 1), (18, 0, 2)] ∧ P1 = pw P [(13, 4, 19), (13, 3, 18), (13, 2, 17), (13, 1, 16), (13, 0, 15)]) := by
  refine Mb.of (lv := [(0, .ref 13)]) (by decide +kernel) rfl rfl rfl rfl (wn_start ?_)
  refine wn_aload_n dX1_init_0 0 rfl rfl ?_
  refine wn_obj dX1_init_1 olX1_3 oi_in oi_cd rfl rfl ?_
  refine wn_aload_n dX1_init_4 0 rfl rfl ?_
  refine wn_bipush (v := 97) dX1_init_5 rfl ?_
  refine wn_newa (kd := 100) (N := 97) dX1_init_7 rfl rfl ⟨rfl, rfl⟩ arrc_int rfl (by decide) rfl rfl rfl rfl rfl rfl ?_
  refine wn_pf dX1_init_9 fkX1_9 ffX1_0 trivial rfl rfl (by decide) (fun _ => rfl) (fun _ => rfl) (by decide) ?_
  refine wn_aload_n dX1_init_12 0 rfl rfl ?_
  refine wn_bipush (v := 97) dX1_init_13 rfl ?_
  refine wn_newa (kd := 100) (N := 97) dX1_init_15 rfl rfl ⟨rfl, rfl⟩ arrc_int rfl (by decide) rfl rfl rfl rfl rfl rfl ?_
  refine wn_pf dX1_init_17 fkX1_15 ffX1_1 trivial rfl rfl (by decide) (fun _ => rfl) (fun _ => rfl) (by decide) ?_
  refine wn_aload_n dX1_init_20 0 rfl rfl ?_
  refine wn_bipush (v := 97) dX1_init_21 rfl ?_
  refine wn_newa (kd := 100) (N := 97) dX1_init_23 rfl rfl ⟨rfl, rfl⟩ arrc_int rfl (by decide) rfl rfl rfl rfl rfl rfl ?_
  refine wn_pf dX1_init_25 fkX1_18 ffX1_2 trivial rfl rfl (by decide) (fun _ => rfl) (fun _ => rfl) (by decide) ?_
  refine wn_aload_n dX1_init_28 0 rfl rfl ?_
  refine wn_sipush (v := 256) dX1_init_29 rfl ?_
  refine wn_newa (kd := 100) (N := 256) dX1_init_32 rfl rfl ⟨rfl, rfl⟩ arrc_int rfl (by decide) rfl rfl rfl rfl rfl rfl ?_
  refine wn_pf dX1_init_34 fkX1_21 ffX1_3 trivial rfl rfl (by decide) (fun _ => rfl) (fun _ => rfl) (by decide) ?_
  refine wn_aload_n dX1_init_37 0 rfl rfl ?_
  refine wn_new dX1_init_38 rfl ckX6 clX1_24 isRX6 inX6 okX6 rfl rfl rfl rfl ?_
  refine wn_dup dX1_init_41 rfl ?_
  refine wn_ctorN [] dX1_init_42 (mmX6_init _ _) mkX1_26 mnX6_init rfl rfl (by decide) rfl rfl rfl rfl rfl rfl (fun ad ca => ct18 ) ?_
  rintro M1 P1 ⟨hM1, hP1⟩
  rw [hM1, hP1, mw_app, pw_app]
  clear hM1 hP1
  refine wn_pf dX1_init_45 fkX1_27 ffX1_4 trivial rfl rfl (by decide) (fun _ => rfl) (fun _ => rfl) (by decide) ?_
  refine wn_aload_n dX1_init_48 0 rfl rfl ?_
  refine wn_iconst (v := (-1)) dX1_init_49 rfl ?_
  refine wn_pi dX1_init_50 fkX1_31 fmX1_5 rfl rfl (by decide) rfl rfl ?_
  refine wn_aload_n dX1_init_53 0 rfl rfl ?_
  refine wn_iconst (v := 0) dX1_init_54 rfl ?_
  refine wn_pi dX1_init_55 fkX1_35 fmX1_6 rfl rfl (by decide) rfl rfl ?_
  refine wn_aload_n dX1_init_58 0 rfl rfl ?_
  refine wn_iconst (v := 0) dX1_init_59 rfl ?_
  refine wn_pi dX1_init_60 fkX1_39 fmX1_7 rfl rfl (by decide) rfl rfl ?_
  refine wn_aload_n dX1_init_63 0 rfl rfl ?_
  refine wn_iconst (v := (-1)) dX1_init_64 rfl ?_
  refine wn_pi dX1_init_65 fkX1_42 fmX1_8 rfl rfl (by decide) rfl rfl ?_
  refine wn_aload_n dX1_init_68 0 rfl rfl ?_
  refine wn_iconst (v := (-1)) dX1_init_69 rfl ?_
  refine wn_pi dX1_init_70 fkX1_45 fmX1_9 rfl rfl (by decide) rfl rfl ?_
  exact wn_vret dX1_init_73 rfl rfl ⟨congrArg (mw M) rfl, congrArg (pw P) rfl⟩
theorem ct19 {X : a_X} {ad : Nat → Nat} {ca : Nat → ClassId} {M : a_M} {P : a_P}  : Mb X ad ca 20 1 3 291 yX0_init cX0_init 1 [.ref 19] M P 23 (fun M1 P1 => M1 = mw M [(19, 3, 0)] ∧ P1 = pw P [(19, 2, 23), (19, 1, 22), (19, 0, 21)]) := by
  refine Mb.of (lv := [(0, .ref 19)]) (by decide +kernel) rfl rfl rfl rfl (wn_start ?_)
  refine wn_aload_n dX0_init_0 0 rfl rfl ?_
  refine wn_obj dX0_init_1 olX0_3 oi_in oi_cd rfl rfl ?_
  refine wn_aload_n dX0_init_4 0 rfl rfl ?_
  refine wn_bipush (v := 35) dX0_init_5 rfl ?_
  refine wn_newa (kd := 100) (N := 35) dX0_init_7 rfl rfl ⟨rfl, rfl⟩ arrc_int rfl (by decide) rfl rfl rfl rfl rfl rfl ?_
  refine wn_pf dX0_init_9 fkX0_9 ffX0_0 trivial rfl rfl (by decide) (fun _ => rfl) (fun _ => rfl) (by decide) ?_
  refine wn_aload_n dX0_init_12 0 rfl rfl ?_
  refine wn_sipush (v := 128) dX0_init_13 rfl ?_
  refine wn_newa (kd := 100) (N := 128) dX0_init_16 rfl rfl ⟨rfl, rfl⟩ arrc_int rfl (by decide) rfl rfl rfl rfl rfl rfl ?_
  refine wn_pf dX0_init_18 fkX0_15 ffX0_1 trivial rfl rfl (by decide) (fun _ => rfl) (fun _ => rfl) (by decide) ?_
  refine wn_aload_n dX0_init_21 0 rfl rfl ?_
  refine wn_sipush (v := 128) dX0_init_22 rfl ?_
  refine wn_newa (kd := 100) (N := 128) dX0_init_25 rfl rfl ⟨rfl, rfl⟩ arrc_int rfl (by decide) rfl rfl rfl rfl rfl rfl ?_
  refine wn_pf dX0_init_27 fkX0_18 ffX0_2 trivial rfl rfl (by decide) (fun _ => rfl) (fun _ => rfl) (by decide) ?_
  refine wn_aload_n dX0_init_30 0 rfl rfl ?_
  refine wn_iconst (v := 0) dX0_init_31 rfl ?_
  refine wn_pi dX0_init_32 fkX0_21 fmX0_3 rfl rfl (by decide) rfl rfl ?_
  exact wn_vret dX0_init_35 rfl rfl ⟨congrArg (mw M) rfl, congrArg (pw P) rfl⟩
theorem ct24 {X : a_X} {ad : Nat → Nat} {ca : Nat → ClassId} {M : a_M} {P : a_P}  : Mb X ad ca 25 1 0 0 yX6_init cX6_init 1 [.ref 24] M P 25 (fun M1 P1 => M1 = mw M [(24, 4, 1), (24, 3, 1), (24, 2, 13), (24, 1, 1), (24, 0, 2)] ∧ P1 = pw P []) := by
  refine Mb.of (lv := [(0, .ref 24)]) (by decide +kernel) rfl rfl rfl rfl (wn_start ?_)
  refine wn_aload_n dX6_init_0 0 rfl rfl ?_
  refine wn_obj dX6_init_1 olX6_3 oi_in oi_cd rfl rfl ?_
  refine wn_aload_n dX6_init_4 0 rfl rfl ?_
  refine wn_iconst (v := 2) dX6_init_5 rfl ?_
  refine wn_pi dX6_init_6 fkX6_9 fmX6_0 rfl rfl (by decide) rfl rfl ?_
  refine wn_aload_n dX6_init_9 0 rfl rfl ?_
  refine wn_iconst (v := 1) dX6_init_10 rfl ?_
  refine wn_pi dX6_init_11 fkX6_15 fmX6_1 rfl rfl (by decide) rfl rfl ?_
  refine wn_aload_n dX6_init_14 0 rfl rfl ?_
  refine wn_bipush (v := 13) dX6_init_15 rfl ?_
  refine wn_pi dX6_init_17 fkX6_19 fmX6_2 rfl rfl (by decide) rfl rfl ?_
  refine wn_aload_n dX6_init_20 0 rfl rfl ?_
  refine wn_iconst (v := 1) dX6_init_21 rfl ?_
  refine wn_pi dX6_init_22 fkX6_22 fmX6_3 rfl rfl (by decide) rfl rfl ?_
  refine wn_aload_n dX6_init_25 0 rfl rfl ?_
  refine wn_iconst (v := 1) dX6_init_26 rfl ?_
  refine wn_pi dX6_init_27 fkX6_25 fmX6_4 rfl rfl (by decide) rfl rfl ?_
  exact wn_vret dX6_init_30 rfl rfl ⟨congrArg (mw M) rfl, congrArg (pw P) rfl⟩
theorem ct23 {X : a_X} {ad : Nat → Nat} {ca : Nat → ClassId} {M : a_M} {P : a_P}  : Mb X ad ca 24 2 6 2698 yX8_init cX8_init 2 [.ref 23, .ref 19] M P 30 (fun M1 P1 => M1 = mw M [(23, 9, 0), (23, 3, (-1)), (23, 2, (-1)), (24, 4, 1), (24, 3, 1), (24, 2, 13), (24, 1, 1), (24, 0, 2)] ∧ P1 = pw P [(23, 0, 20), (23, 8, 30), (23, 7, 29), (23, 6, 28), (23, 5, 27), (23, 4, 26), (23, 1, 25)]) := by
  refine Mb.of (lv := [(0, .ref 23), (1, .ref 19)]) (by decide +kernel) rfl rfl rfl rfl (wn_start ?_)
  refine wn_aload_n dX8_init_0 0 rfl rfl ?_
  refine wn_obj dX8_init_1 olX8_3 oi_in oi_cd rfl rfl ?_
  refine wn_aload_n dX8_init_4 0 rfl rfl ?_
  refine wn_new dX8_init_5 rfl ckX6 clX8_9 isRX6 inX6 okX6 rfl rfl rfl rfl ?_
  refine wn_dup dX8_init_8 rfl ?_
  refine wn_ctorN [] dX8_init_9 (mmX6_init _ _) mkX8_11 mnX6_init rfl rfl (by decide) rfl rfl rfl rfl rfl rfl (fun ad ca => ct24 ) ?_
  rintro M1 P1 ⟨hM1, hP1⟩
  rw [hM1, hP1, mw_app, pw_app]
  clear hM1 hP1
  refine wn_pf dX8_init_12 fkX8_12 ffX8_1 trivial rfl rfl (by decide) (fun _ => rfl) (fun _ => rfl) (by decide) ?_
  refine wn_aload_n dX8_init_15 0 rfl rfl ?_
  refine wn_iconst (v := (-1)) dX8_init_16 rfl ?_
  refine wn_pi dX8_init_17 fkX8_18 fmX8_2 rfl rfl (by decide) rfl rfl ?_
  refine wn_aload_n dX8_init_20 0 rfl rfl ?_
  refine wn_iconst (v := (-1)) dX8_init_21 rfl ?_
  refine wn_pi dX8_init_22 fkX8_22 fmX8_3 rfl rfl (by decide) rfl rfl ?_
  refine wn_aload_n dX8_init_25 0 rfl rfl ?_
  refine wn_sipush (v := 1225) dX8_init_26 rfl ?_
  refine wn_newa (kd := 100) (N := 1225) dX8_init_29 rfl rfl ⟨rfl, rfl⟩ arrc_int rfl (by decide) rfl rfl rfl rfl rfl rfl ?_
  refine wn_pf dX8_init_31 fkX8_25 ffX8_4 trivial rfl rfl (by decide) (fun _ => rfl) (fun _ => rfl) (by decide) ?_
  refine wn_aload_n dX8_init_34 0 rfl rfl ?_
  refine wn_sipush (v := 1296) dX8_init_35 rfl ?_
  refine wn_newa (kd := 100) (N := 1296) dX8_init_38 rfl rfl ⟨rfl, rfl⟩ arrc_int rfl (by decide) rfl rfl rfl rfl rfl rfl ?_
  refine wn_pf dX8_init_40 fkX8_29 ffX8_5 trivial rfl rfl (by decide) (fun _ => rfl) (fun _ => rfl) (by decide) ?_
  refine wn_aload_n dX8_init_43 0 rfl rfl ?_
  refine wn_bipush (v := 36) dX8_init_44 rfl ?_
  refine wn_newa (kd := 100) (N := 36) dX8_init_46 rfl rfl ⟨rfl, rfl⟩ arrc_int rfl (by decide) rfl rfl rfl rfl rfl rfl ?_
  refine wn_pf dX8_init_48 fkX8_32 ffX8_6 trivial rfl rfl (by decide) (fun _ => rfl) (fun _ => rfl) (by decide) ?_
  refine wn_aload_n dX8_init_51 0 rfl rfl ?_
  refine wn_bipush (v := 100) dX8_init_52 rfl ?_
  refine wn_newa (kd := 100) (N := 100) dX8_init_54 rfl rfl ⟨rfl, rfl⟩ arrc_int rfl (by decide) rfl rfl rfl rfl rfl rfl ?_
  refine wn_pf dX8_init_56 fkX8_35 ffX8_7 trivial rfl rfl (by decide) (fun _ => rfl) (fun _ => rfl) (by decide) ?_
  refine wn_aload_n dX8_init_59 0 rfl rfl ?_
  refine wn_bipush (v := 36) dX8_init_60 rfl ?_
  refine wn_newa (kd := 100) (N := 36) dX8_init_62 rfl rfl ⟨rfl, rfl⟩ arrc_int rfl (by decide) rfl rfl rfl rfl rfl rfl ?_
  refine wn_pf dX8_init_64 fkX8_38 ffX8_8 trivial rfl rfl (by decide) (fun _ => rfl) (fun _ => rfl) (by decide) ?_
  refine wn_aload_n dX8_init_67 0 rfl rfl ?_
  refine wn_iconst (v := 0) dX8_init_68 rfl ?_
  refine wn_pi dX8_init_69 fkX8_41 fmX8_9 rfl rfl (by decide) rfl rfl ?_
  refine wn_aload_n dX8_init_72 0 rfl rfl ?_
  refine wn_aload_n dX8_init_73 1 rfl rfl ?_
  refine wn_pf dX8_init_74 fkX8_44 ffX8_0 trivial rfl rfl (by decide) (fun _ => rfl) (fun _ => rfl) (by decide) ?_
  exact wn_vret dX8_init_77 rfl rfl ⟨congrArg (mw M) rfl, congrArg (pw P) rfl⟩
theorem ct30 {X : a_X} {ad : Nat → Nat} {ca : Nat → ClassId} {M : a_M} {P : a_P}  : Mb X ad ca 31 1 2 2450 yX4_init cX4_init 2 [.ref 30, .ref 19] M P 33 (fun M1 P1 => M1 = mw M [] ∧ P1 = pw P [(30, 0, 20), (30, 2, 33), (30, 1, 32)]) := by
  refine Mb.of (lv := [(0, .ref 30), (1, .ref 19)]) (by decide +kernel) rfl rfl rfl rfl (wn_start ?_)
  refine wn_aload_n dX4_init_0 0 rfl rfl ?_
  refine wn_obj dX4_init_1 olX4_3 oi_in oi_cd rfl rfl ?_
  refine wn_aload_n dX4_init_4 0 rfl rfl ?_
  refine wn_sipush (v := 1225) dX4_init_5 rfl ?_
  refine wn_newa (kd := 100) (N := 1225) dX4_init_8 rfl rfl ⟨rfl, rfl⟩ arrc_int rfl (by decide) rfl rfl rfl rfl rfl rfl ?_
  refine wn_pf dX4_init_10 fkX4_9 ffX4_1 trivial rfl rfl (by decide) (fun _ => rfl) (fun _ => rfl) (by decide) ?_
  refine wn_aload_n dX4_init_13 0 rfl rfl ?_
  refine wn_sipush (v := 1225) dX4_init_14 rfl ?_
  refine wn_newa (kd := 100) (N := 1225) dX4_init_17 rfl rfl ⟨rfl, rfl⟩ arrc_int rfl (by decide) rfl rfl rfl rfl rfl rfl ?_
  refine wn_pf dX4_init_19 fkX4_15 ffX4_2 trivial rfl rfl (by decide) (fun _ => rfl) (fun _ => rfl) (by decide) ?_
  refine wn_aload_n dX4_init_22 0 rfl rfl ?_
  refine wn_aload_n dX4_init_23 1 rfl rfl ?_
  refine wn_pf dX4_init_24 fkX4_18 ffX4_0 trivial rfl rfl (by decide) (fun _ => rfl) (fun _ => rfl) (by decide) ?_
  exact wn_vret dX4_init_27 rfl rfl ⟨congrArg (mw M) rfl, congrArg (pw P) rfl⟩
theorem ct34 {X : a_X} {ad : Nat → Nat} {ca : Nat → ClassId} {M : a_M} {P : a_P}  : Mb X ad ca 35 1 0 0 yX6_init cX6_init 1 [.ref 34] M P 35 (fun M1 P1 => M1 = mw M [(34, 4, 1), (34, 3, 1), (34, 2, 13), (34, 1, 1), (34, 0, 2)] ∧ P1 = pw P []) := by
  refine Mb.of (lv := [(0, .ref 34)]) (by decide +kernel) rfl rfl rfl rfl (wn_start ?_)
  refine wn_aload_n dX6_init_0 0 rfl rfl ?_
  refine wn_obj dX6_init_1 olX6_3 oi_in oi_cd rfl rfl ?_
  refine wn_aload_n dX6_init_4 0 rfl rfl ?_
  refine wn_iconst (v := 2) dX6_init_5 rfl ?_
  refine wn_pi dX6_init_6 fkX6_9 fmX6_0 rfl rfl (by decide) rfl rfl ?_
  refine wn_aload_n dX6_init_9 0 rfl rfl ?_
  refine wn_iconst (v := 1) dX6_init_10 rfl ?_
  refine wn_pi dX6_init_11 fkX6_15 fmX6_1 rfl rfl (by decide) rfl rfl ?_
  refine wn_aload_n dX6_init_14 0 rfl rfl ?_
  refine wn_bipush (v := 13) dX6_init_15 rfl ?_
  refine wn_pi dX6_init_17 fkX6_19 fmX6_2 rfl rfl (by decide) rfl rfl ?_
  refine wn_aload_n dX6_init_20 0 rfl rfl ?_
  refine wn_iconst (v := 1) dX6_init_21 rfl ?_
  refine wn_pi dX6_init_22 fkX6_22 fmX6_3 rfl rfl (by decide) rfl rfl ?_
  refine wn_aload_n dX6_init_25 0 rfl rfl ?_
  refine wn_iconst (v := 1) dX6_init_26 rfl ?_
  refine wn_pi dX6_init_27 fkX6_25 fmX6_4 rfl rfl (by decide) rfl rfl ?_
  exact wn_vret dX6_init_30 rfl rfl ⟨congrArg (mw M) rfl, congrArg (pw P) rfl⟩
theorem ct33 {X : a_X} {ad : Nat → Nat} {ca : Nat → ClassId} {M : a_M} {P : a_P}  : Mb X ad ca 34 2 7 143 yX3_init cX3_init 1 [.ref 33] M P 41 (fun M1 P1 => M1 = mw M [(33, 1, 0), (34, 4, 1), (34, 3, 1), (34, 2, 13), (34, 1, 1), (34, 0, 2)] ∧ P1 = pw P [(33, 7, 41), (33, 6, 40), (33, 5, 39), (33, 4, 38), (33, 3, 37), (33, 2, 36), (33, 0, 35)]) := by
  refine Mb.of (lv := [(0, .ref 33)]) (by decide +kernel) rfl rfl rfl rfl (wn_start ?_)
  refine wn_aload_n dX3_init_0 0 rfl rfl ?_
  refine wn_obj dX3_init_1 olX3_3 oi_in oi_cd rfl rfl ?_
  refine wn_aload_n dX3_init_4 0 rfl rfl ?_
  refine wn_new dX3_init_5 rfl ckX6 clX3_9 isRX6 inX6 okX6 rfl rfl rfl rfl ?_
  refine wn_dup dX3_init_8 rfl ?_
  refine wn_ctorN [] dX3_init_9 (mmX6_init _ _) mkX3_11 mnX6_init rfl rfl (by decide) rfl rfl rfl rfl rfl rfl (fun ad ca => ct34 ) ?_
  rintro M1 P1 ⟨hM1, hP1⟩
  rw [hM1, hP1, mw_app, pw_app]
  clear hM1 hP1
  refine wn_pf dX3_init_12 fkX3_12 ffX3_0 trivial rfl rfl (by decide) (fun _ => rfl) (fun _ => rfl) (by decide) ?_
  refine wn_aload_n dX3_init_15 0 rfl rfl ?_
  refine wn_iconst (v := 0) dX3_init_16 rfl ?_
  refine wn_pi dX3_init_17 fkX3_18 fmX3_1 rfl rfl (by decide) rfl rfl ?_
  refine wn_aload_n dX3_init_20 0 rfl rfl ?_
  refine wn_bipush (v := 97) dX3_init_21 rfl ?_
  refine wn_newa (kd := 100) (N := 97) dX3_init_23 rfl rfl ⟨rfl, rfl⟩ arrc_int rfl (by decide) rfl rfl rfl rfl rfl rfl ?_
  refine wn_pf dX3_init_25 fkX3_22 ffX3_2 trivial rfl rfl (by decide) (fun _ => rfl) (fun _ => rfl) (by decide) ?_
  refine wn_aload_n dX3_init_28 0 rfl rfl ?_
  refine wn_bipush (v := 8) dX3_init_29 rfl ?_
  refine wn_newa (kd := 100) (N := 8) dX3_init_31 rfl rfl ⟨rfl, rfl⟩ arrc_int rfl (by decide) rfl rfl rfl rfl rfl rfl ?_
  refine wn_pf dX3_init_33 fkX3_26 ffX3_3 trivial rfl rfl (by decide) (fun _ => rfl) (fun _ => rfl) (by decide) ?_
  refine wn_aload_n dX3_init_36 0 rfl rfl ?_
  refine wn_bipush (v := 11) dX3_init_37 rfl ?_
  refine wn_newa (kd := 100) (N := 11) dX3_init_39 rfl rfl ⟨rfl, rfl⟩ arrc_int rfl (by decide) rfl rfl rfl rfl rfl rfl ?_
  refine wn_pf dX3_init_41 fkX3_29 ffX3_4 trivial rfl rfl (by decide) (fun _ => rfl) (fun _ => rfl) (by decide) ?_
  refine wn_aload_n dX3_init_44 0 rfl rfl ?_
  refine wn_bipush (v := 11) dX3_init_45 rfl ?_
  refine wn_newa (kd := 100) (N := 11) dX3_init_47 rfl rfl ⟨rfl, rfl⟩ arrc_int rfl (by decide) rfl rfl rfl rfl rfl rfl ?_
  refine wn_pf dX3_init_49 fkX3_32 ffX3_5 trivial rfl rfl (by decide) (fun _ => rfl) (fun _ => rfl) (by decide) ?_
  refine wn_aload_n dX3_init_52 0 rfl rfl ?_
  refine wn_iconst (v := 3) dX3_init_53 rfl ?_
  refine wn_newa (kd := 100) (N := 3) dX3_init_54 rfl rfl ⟨rfl, rfl⟩ arrc_int rfl (by decide) rfl rfl rfl rfl rfl rfl ?_
  refine wn_pf dX3_init_56 fkX3_35 ffX3_6 trivial rfl rfl (by decide) (fun _ => rfl) (fun _ => rfl) (by decide) ?_
  refine wn_aload_n dX3_init_59 0 rfl rfl ?_
  refine wn_bipush (v := 8) dX3_init_60 rfl ?_
  refine wn_newa (kd := 100) (N := 8) dX3_init_62 rfl rfl ⟨rfl, rfl⟩ arrc_int rfl (by decide) rfl rfl rfl rfl rfl rfl ?_
  refine wn_pf dX3_init_64 fkX3_38 ffX3_7 trivial rfl rfl (by decide) (fun _ => rfl) (fun _ => rfl) (by decide) ?_
  exact wn_vret dX3_init_67 rfl rfl ⟨congrArg (mw M) rfl, congrArg (pw P) rfl⟩
theorem ct41 {X : a_X} {ad : Nat → Nat} {ca : Nat → ClassId} {M : a_M} {P : a_P}  : Mb X ad ca 42 1 0 0 yX6_init cX6_init 1 [.ref 41] M P 42 (fun M1 P1 => M1 = mw M [(41, 4, 1), (41, 3, 1), (41, 2, 13), (41, 1, 1), (41, 0, 2)] ∧ P1 = pw P []) := by
  refine Mb.of (lv := [(0, .ref 41)]) (by decide +kernel) rfl rfl rfl rfl (wn_start ?_)
  refine wn_aload_n dX6_init_0 0 rfl rfl ?_
  refine wn_obj dX6_init_1 olX6_3 oi_in oi_cd rfl rfl ?_
  refine wn_aload_n dX6_init_4 0 rfl rfl ?_
  refine wn_iconst (v := 2) dX6_init_5 rfl ?_
  refine wn_pi dX6_init_6 fkX6_9 fmX6_0 rfl rfl (by decide) rfl rfl ?_
  refine wn_aload_n dX6_init_9 0 rfl rfl ?_
  refine wn_iconst (v := 1) dX6_init_10 rfl ?_
  refine wn_pi dX6_init_11 fkX6_15 fmX6_1 rfl rfl (by decide) rfl rfl ?_
  refine wn_aload_n dX6_init_14 0 rfl rfl ?_
  refine wn_bipush (v := 13) dX6_init_15 rfl ?_
  refine wn_pi dX6_init_17 fkX6_19 fmX6_2 rfl rfl (by decide) rfl rfl ?_
  refine wn_aload_n dX6_init_20 0 rfl rfl ?_
  refine wn_iconst (v := 1) dX6_init_21 rfl ?_
  refine wn_pi dX6_init_22 fkX6_22 fmX6_3 rfl rfl (by decide) rfl rfl ?_
  refine wn_aload_n dX6_init_25 0 rfl rfl ?_
  refine wn_iconst (v := 1) dX6_init_26 rfl ?_
  refine wn_pi dX6_init_27 fkX6_25 fmX6_4 rfl rfl (by decide) rfl rfl ?_
  exact wn_vret dX6_init_30 rfl rfl ⟨congrArg (mw M) rfl, congrArg (pw P) rfl⟩
theorem ct45 {X : a_X} {ad : Nat → Nat} {ca : Nat → ClassId} {M : a_M} {P : a_P}  : Mb X ad ca 46 1 0 0 yX6_init cX6_init 1 [.ref 45] M P 46 (fun M1 P1 => M1 = mw M [(45, 4, 1), (45, 3, 1), (45, 2, 13), (45, 1, 1), (45, 0, 2)] ∧ P1 = pw P []) := by
  refine Mb.of (lv := [(0, .ref 45)]) (by decide +kernel) rfl rfl rfl rfl (wn_start ?_)
  refine wn_aload_n dX6_init_0 0 rfl rfl ?_
  refine wn_obj dX6_init_1 olX6_3 oi_in oi_cd rfl rfl ?_
  refine wn_aload_n dX6_init_4 0 rfl rfl ?_
  refine wn_iconst (v := 2) dX6_init_5 rfl ?_
  refine wn_pi dX6_init_6 fkX6_9 fmX6_0 rfl rfl (by decide) rfl rfl ?_
  refine wn_aload_n dX6_init_9 0 rfl rfl ?_
  refine wn_iconst (v := 1) dX6_init_10 rfl ?_
  refine wn_pi dX6_init_11 fkX6_15 fmX6_1 rfl rfl (by decide) rfl rfl ?_
  refine wn_aload_n dX6_init_14 0 rfl rfl ?_
  refine wn_bipush (v := 13) dX6_init_15 rfl ?_
  refine wn_pi dX6_init_17 fkX6_19 fmX6_2 rfl rfl (by decide) rfl rfl ?_
  refine wn_aload_n dX6_init_20 0 rfl rfl ?_
  refine wn_iconst (v := 1) dX6_init_21 rfl ?_
  refine wn_pi dX6_init_22 fkX6_22 fmX6_3 rfl rfl (by decide) rfl rfl ?_
  refine wn_aload_n dX6_init_25 0 rfl rfl ?_
  refine wn_iconst (v := 1) dX6_init_26 rfl ?_
  refine wn_pi dX6_init_27 fkX6_25 fmX6_4 rfl rfl (by decide) rfl rfl ?_
  exact wn_vret dX6_init_30 rfl rfl ⟨congrArg (mw M) rfl, congrArg (pw P) rfl⟩
theorem ct46 {X : a_X} {ad : Nat → Nat} {ca : Nat → ClassId} {M : a_M} {P : a_P}  : Mb X ad ca 47 1 22 2709 yX2_init cX2_init 1 [.ref 46] M P 69 (fun M1 P1 => M1 = mw M [(46, 3, 0), (46, 2, 0), (46, 1, 0)] ∧ P1 = pw P [(46, 0, 48), (47, 20, 69), (47, 19, 68), (47, 18, 67), (47, 17, 66), (47, 16, 65), (47, 15, 64), (47, 14, 63), (47, 13, 62), (47, 12, 61), (47, 11, 60), (47, 10, 59), (47, 9, 58), (47, 8, 57), (47, 7, 56), (47, 6, 55), (47, 5, 54), (47, 4, 53), (47, 3, 52), (47, 2, 51), (47, 1, 50), (47, 0, 49)]) := by
  refine Mb.of (lv := [(0, .ref 46)]) (by decide +kernel) rfl rfl rfl rfl (wn_start ?_)
  refine wn_aload_n dX2_init_0 0 rfl rfl ?_
  refine wn_obj dX2_init_1 olX2_3 oi_in oi_cd rfl rfl ?_
  refine wn_aload_n dX2_init_4 0 rfl rfl ?_
  refine wn_bipush (v := 21) dX2_init_5 rfl ?_
  refine wn_sipush (v := 128) dX2_init_7 rfl ?_
  refine wn_mna dX2_init_10 clX2_11 arrc_int rfl rfl rfl rfl rfl ?_
  rw [pw_app]
  refine wn_pf dX2_init_14 fkX2_13 ffX2_0 trivial rfl rfl (by decide) (fun _ => rfl) (fun _ => rfl) (by decide) ?_
  refine wn_aload_n dX2_init_17 0 rfl rfl ?_
  refine wn_iconst (v := 0) dX2_init_18 rfl ?_
  refine wn_pi dX2_init_19 fkX2_16 fmX2_1 rfl rfl (by decide) rfl rfl ?_
  refine wn_aload_n dX2_init_22 0 rfl rfl ?_
  refine wn_iconst (v := 0) dX2_init_23 rfl ?_
  refine wn_pi dX2_init_24 fkX2_20 fmX2_2 rfl rfl (by decide) rfl rfl ?_
  refine wn_aload_n dX2_init_27 0 rfl rfl ?_
  refine wn_iconst (v := 0) dX2_init_28 rfl ?_
  refine wn_pi dX2_init_29 fkX2_23 fmX2_3 rfl rfl (by decide) rfl rfl ?_
  exact wn_vret dX2_init_32 rfl rfl ⟨congrArg (mw M) rfl, congrArg (pw P) rfl⟩
theorem ct44 {X : a_X} {ad : Nat → Nat} {ca : Nat → ClassId} {M : a_M} {P : a_P} (x1 : Int32) : Mb X ad ca 45 2 24 2718 yX9_init cX9_init 2 [.ref 44, .int x1] M P 69 (fun M1 P1 => M1 = mw M [(45, 0, x1), (44, 3, (-1)), (44, 2, 0), (46, 3, 0), (46, 2, 0), (46, 1, 0), (45, 4, 1), (45, 3, 1), (45, 2, 13), (45, 1, 1), (45, 0, 2)] ∧ P1 = pw P [(44, 1, 47), (46, 0, 48), (47, 20, 69), (47, 19, 68), (47, 18, 67), (47, 17, 66), (47, 16, 65), (47, 15, 64), (47, 14, 63), (47, 13, 62), (47, 12, 61), (47, 11, 60), (47, 10, 59), (47, 9, 58), (47, 8, 57), (47, 7, 56), (47, 6, 55), (47, 5, 54), (47, 4, 53), (47, 3, 52), (47, 2, 51), (47, 1, 50), (47, 0, 49), (44, 0, 46)]) := by
  refine Mb.of (lv := [(0, .ref 44), (1, .int x1)]) (by decide +kernel) rfl rfl rfl rfl (wn_start ?_)
  refine wn_aload_n dX9_init_0 0 rfl rfl ?_
  refine wn_obj dX9_init_1 olX9_3 oi_in oi_cd rfl rfl ?_
  refine wn_aload_n dX9_init_4 0 rfl rfl ?_
  refine wn_new dX9_init_5 rfl ckX6 clX9_9 isRX6 inX6 okX6 rfl rfl rfl rfl ?_
  refine wn_dup dX9_init_8 rfl ?_
  refine wn_ctorN [] dX9_init_9 (mmX6_init _ _) mkX9_11 mnX6_init rfl rfl (by decide) rfl rfl rfl rfl rfl rfl (fun ad ca => ct45 ) ?_
  rintro M1 P1 ⟨hM1, hP1⟩
  rw [hM1, hP1, mw_app, pw_app]
  clear hM1 hP1
  refine wn_pf dX9_init_12 fkX9_12 ffX9_0 trivial rfl rfl (by decide) (fun _ => rfl) (fun _ => rfl) (by decide) ?_
  refine wn_aload_n dX9_init_15 0 rfl rfl ?_
  refine wn_new dX9_init_16 rfl ckX2 clX9_18 isRX2 inX2 okX2 rfl rfl rfl rfl ?_
  refine wn_dup dX9_init_19 rfl ?_
  refine wn_ctorN [] dX9_init_20 (mmX2_init _ _) mkX9_20 mnX2_init rfl rfl (by decide) rfl rfl rfl rfl rfl rfl (fun ad ca => ct46 ) ?_
  rintro M1 P1 ⟨hM1, hP1⟩
  rw [hM1, hP1, mw_app, pw_app]
  clear hM1 hP1
  refine wn_pf dX9_init_23 fkX9_21 ffX9_1 trivial rfl rfl (by decide) (fun _ => rfl) (fun _ => rfl) (by decide) ?_
  refine wn_aload_n dX9_init_26 0 rfl rfl ?_
  refine wn_iconst (v := 0) dX9_init_27 rfl ?_
  refine wn_pi dX9_init_28 fkX9_25 fmX9_2 rfl rfl (by decide) rfl rfl ?_
  refine wn_aload_n dX9_init_31 0 rfl rfl ?_
  refine wn_iconst (v := (-1)) dX9_init_32 rfl ?_
  refine wn_pi dX9_init_33 fkX9_29 fmX9_3 rfl rfl (by decide) rfl rfl ?_
  refine wn_aload_n dX9_init_36 0 rfl rfl ?_
  refine wn_getr (r := 45) dX9_init_37 fkX9_12 rfl rfl (by decide) rfl ?_
  refine wn_iload_n dX9_init_40 1 rfl rfl ?_
  refine wn_pi dX9_init_41 fkX9_32 fmX6_0 rfl rfl (by decide) rfl rfl ?_
  exact wn_vret dX9_init_44 rfl rfl ⟨congrArg (mw M) rfl, congrArg (pw P) rfl⟩
theorem ct70 {X : a_X} {ad : Nat → Nat} {ca : Nat → ClassId} {M : a_M} {P : a_P}  : Mb X ad ca 71 1 0 0 yX6_init cX6_init 1 [.ref 70] M P 71 (fun M1 P1 => M1 = mw M [(70, 4, 1), (70, 3, 1), (70, 2, 13), (70, 1, 1), (70, 0, 2)] ∧ P1 = pw P []) := by
  refine Mb.of (lv := [(0, .ref 70)]) (by decide +kernel) rfl rfl rfl rfl (wn_start ?_)
  refine wn_aload_n dX6_init_0 0 rfl rfl ?_
  refine wn_obj dX6_init_1 olX6_3 oi_in oi_cd rfl rfl ?_
  refine wn_aload_n dX6_init_4 0 rfl rfl ?_
  refine wn_iconst (v := 2) dX6_init_5 rfl ?_
  refine wn_pi dX6_init_6 fkX6_9 fmX6_0 rfl rfl (by decide) rfl rfl ?_
  refine wn_aload_n dX6_init_9 0 rfl rfl ?_
  refine wn_iconst (v := 1) dX6_init_10 rfl ?_
  refine wn_pi dX6_init_11 fkX6_15 fmX6_1 rfl rfl (by decide) rfl rfl ?_
  refine wn_aload_n dX6_init_14 0 rfl rfl ?_
  refine wn_bipush (v := 13) dX6_init_15 rfl ?_
  refine wn_pi dX6_init_17 fkX6_19 fmX6_2 rfl rfl (by decide) rfl rfl ?_
  refine wn_aload_n dX6_init_20 0 rfl rfl ?_
  refine wn_iconst (v := 1) dX6_init_21 rfl ?_
  refine wn_pi dX6_init_22 fkX6_22 fmX6_3 rfl rfl (by decide) rfl rfl ?_
  refine wn_aload_n dX6_init_25 0 rfl rfl ?_
  refine wn_iconst (v := 1) dX6_init_26 rfl ?_
  refine wn_pi dX6_init_27 fkX6_25 fmX6_4 rfl rfl (by decide) rfl rfl ?_
  exact wn_vret dX6_init_30 rfl rfl ⟨congrArg (mw M) rfl, congrArg (pw P) rfl⟩
theorem ct71 {X : a_X} {ad : Nat → Nat} {ca : Nat → ClassId} {M : a_M} {P : a_P}  : Mb X ad ca 72 1 22 2709 yX2_init cX2_init 1 [.ref 71] M P 94 (fun M1 P1 => M1 = mw M [(71, 3, 0), (71, 2, 0), (71, 1, 0)] ∧ P1 = pw P [(71, 0, 73), (72, 20, 94), (72, 19, 93), (72, 18, 92), (72, 17, 91), (72, 16, 90), (72, 15, 89), (72, 14, 88), (72, 13, 87), (72, 12, 86), (72, 11, 85), (72, 10, 84), (72, 9, 83), (72, 8, 82), (72, 7, 81), (72, 6, 80), (72, 5, 79), (72, 4, 78), (72, 3, 77), (72, 2, 76), (72, 1, 75), (72, 0, 74)]) := by
  refine Mb.of (lv := [(0, .ref 71)]) (by decide +kernel) rfl rfl rfl rfl (wn_start ?_)
  refine wn_aload_n dX2_init_0 0 rfl rfl ?_
  refine wn_obj dX2_init_1 olX2_3 oi_in oi_cd rfl rfl ?_
  refine wn_aload_n dX2_init_4 0 rfl rfl ?_
  refine wn_bipush (v := 21) dX2_init_5 rfl ?_
  refine wn_sipush (v := 128) dX2_init_7 rfl ?_
  refine wn_mna dX2_init_10 clX2_11 arrc_int rfl rfl rfl rfl rfl ?_
  rw [pw_app]
  refine wn_pf dX2_init_14 fkX2_13 ffX2_0 trivial rfl rfl (by decide) (fun _ => rfl) (fun _ => rfl) (by decide) ?_
  refine wn_aload_n dX2_init_17 0 rfl rfl ?_
  refine wn_iconst (v := 0) dX2_init_18 rfl ?_
  refine wn_pi dX2_init_19 fkX2_16 fmX2_1 rfl rfl (by decide) rfl rfl ?_
  refine wn_aload_n dX2_init_22 0 rfl rfl ?_
  refine wn_iconst (v := 0) dX2_init_23 rfl ?_
  refine wn_pi dX2_init_24 fkX2_20 fmX2_2 rfl rfl (by decide) rfl rfl ?_
  refine wn_aload_n dX2_init_27 0 rfl rfl ?_
  refine wn_iconst (v := 0) dX2_init_28 rfl ?_
  refine wn_pi dX2_init_29 fkX2_23 fmX2_3 rfl rfl (by decide) rfl rfl ?_
  exact wn_vret dX2_init_32 rfl rfl ⟨congrArg (mw M) rfl, congrArg (pw P) rfl⟩
theorem ct69 {X : a_X} {ad : Nat → Nat} {ca : Nat → ClassId} {M : a_M} {P : a_P} (x1 : Int32) : Mb X ad ca 70 2 24 2718 yX9_init cX9_init 2 [.ref 69, .int x1] M P 94 (fun M1 P1 => M1 = mw M [(70, 0, x1), (69, 3, (-1)), (69, 2, 0), (71, 3, 0), (71, 2, 0), (71, 1, 0), (70, 4, 1), (70, 3, 1), (70, 2, 13), (70, 1, 1), (70, 0, 2)] ∧ P1 = pw P [(69, 1, 72), (71, 0, 73), (72, 20, 94), (72, 19, 93), (72, 18, 92), (72, 17, 91), (72, 16, 90), (72, 15, 89), (72, 14, 88), (72, 13, 87), (72, 12, 86), (72, 11, 85), (72, 10, 84), (72, 9, 83), (72, 8, 82), (72, 7, 81), (72, 6, 80), (72, 5, 79), (72, 4, 78), (72, 3, 77), (72, 2, 76), (72, 1, 75), (72, 0, 74), (69, 0, 71)]) := by
  refine Mb.of (lv := [(0, .ref 69), (1, .int x1)]) (by decide +kernel) rfl rfl rfl rfl (wn_start ?_)
  refine wn_aload_n dX9_init_0 0 rfl rfl ?_
  refine wn_obj dX9_init_1 olX9_3 oi_in oi_cd rfl rfl ?_
  refine wn_aload_n dX9_init_4 0 rfl rfl ?_
  refine wn_new dX9_init_5 rfl ckX6 clX9_9 isRX6 inX6 okX6 rfl rfl rfl rfl ?_
  refine wn_dup dX9_init_8 rfl ?_
  refine wn_ctorN [] dX9_init_9 (mmX6_init _ _) mkX9_11 mnX6_init rfl rfl (by decide) rfl rfl rfl rfl rfl rfl (fun ad ca => ct70 ) ?_
  rintro M1 P1 ⟨hM1, hP1⟩
  rw [hM1, hP1, mw_app, pw_app]
  clear hM1 hP1
  refine wn_pf dX9_init_12 fkX9_12 ffX9_0 trivial rfl rfl (by decide) (fun _ => rfl) (fun _ => rfl) (by decide) ?_
  refine wn_aload_n dX9_init_15 0 rfl rfl ?_
  refine wn_new dX9_init_16 rfl ckX2 clX9_18 isRX2 inX2 okX2 rfl rfl rfl rfl ?_
  refine wn_dup dX9_init_19 rfl ?_
  refine wn_ctorN [] dX9_init_20 (mmX2_init _ _) mkX9_20 mnX2_init rfl rfl (by decide) rfl rfl rfl rfl rfl rfl (fun ad ca => ct71 ) ?_
  rintro M1 P1 ⟨hM1, hP1⟩
  rw [hM1, hP1, mw_app, pw_app]
  clear hM1 hP1
  refine wn_pf dX9_init_23 fkX9_21 ffX9_1 trivial rfl rfl (by decide) (fun _ => rfl) (fun _ => rfl) (by decide) ?_
  refine wn_aload_n dX9_init_26 0 rfl rfl ?_
  refine wn_iconst (v := 0) dX9_init_27 rfl ?_
  refine wn_pi dX9_init_28 fkX9_25 fmX9_2 rfl rfl (by decide) rfl rfl ?_
  refine wn_aload_n dX9_init_31 0 rfl rfl ?_
  refine wn_iconst (v := (-1)) dX9_init_32 rfl ?_
  refine wn_pi dX9_init_33 fkX9_29 fmX9_3 rfl rfl (by decide) rfl rfl ?_
  refine wn_aload_n dX9_init_36 0 rfl rfl ?_
  refine wn_getr (r := 70) dX9_init_37 fkX9_12 rfl rfl (by decide) rfl ?_
  refine wn_iload_n dX9_init_40 1 rfl rfl ?_
  refine wn_pi dX9_init_41 fkX9_32 fmX6_0 rfl rfl (by decide) rfl rfl ?_
  exact wn_vret dX9_init_44 rfl rfl ⟨congrArg (mw M) rfl, congrArg (pw P) rfl⟩
theorem ct94 {X : a_X} {ad : Nat → Nat} {ca : Nat → ClassId} {M : a_M} {P : a_P}  : Mb X ad ca 95 1 5 404 yX7_init cX7_init 1 [.ref 94] M P 100 (fun M1 P1 => M1 = mw M [(94, 6, 0), (98, 2, (-1)), (98, 1, (-1)), (98, 0, (-1)), (94, 0, 0)] ∧ P1 = pw P [(94, 5, 100), (94, 4, 99), (94, 3, 98), (94, 2, 97), (94, 1, 96)]) := by
  refine Mb.of (lv := [(0, .ref 94)]) (by decide +kernel) rfl rfl rfl rfl (wn_start ?_)
  refine wn_aload_n dX7_init_0 0 rfl rfl ?_
  refine wn_obj dX7_init_1 olX7_3 oi_in oi_cd rfl rfl ?_
  refine wn_aload_n dX7_init_4 0 rfl rfl ?_
  refine wn_iconst (v := 0) dX7_init_5 rfl ?_
  refine wn_pi dX7_init_6 fkX7_9 fmX7_0 rfl rfl (by decide) rfl rfl ?_
  refine wn_aload_n dX7_init_9 0 rfl rfl ?_
  refine wn_bipush (v := 30) dX7_init_10 rfl ?_
  refine wn_newa (kd := 100) (N := 30) dX7_init_12 rfl rfl ⟨rfl, rfl⟩ arrc_int rfl (by decide) rfl rfl rfl rfl rfl rfl ?_
  refine wn_pf dX7_init_14 fkX7_15 ffX7_1 trivial rfl rfl (by decide) (fun _ => rfl) (fun _ => rfl) (by decide) ?_
  refine wn_aload_n dX7_init_17 0 rfl rfl ?_
  refine wn_bipush (v := 31) dX7_init_18 rfl ?_
  refine wn_newa (kd := 100) (N := 31) dX7_init_20 rfl rfl ⟨rfl, rfl⟩ arrc_int rfl (by decide) rfl rfl rfl rfl rfl rfl ?_
  refine wn_pf dX7_init_22 fkX7_19 ffX7_2 trivial rfl rfl (by decide) (fun _ => rfl) (fun _ => rfl) (by decide) ?_
  refine wn_aload_n dX7_init_25 0 rfl rfl ?_
  refine wn_sipush (v := 300) dX7_init_26 rfl ?_
  refine wn_newa (kd := 100) (N := 300) dX7_init_29 rfl rfl ⟨rfl, rfl⟩ arrc_int rfl (by decide) rfl rfl rfl rfl rfl rfl ?_
  refine wn_pf dX7_init_31 fkX7_24 ffX7_3 trivial rfl rfl (by decide) (fun _ => rfl) (fun _ => rfl) (by decide) ?_
  refine wn_aload_n dX7_init_34 0 rfl rfl ?_
  refine wn_iconst (v := 3) dX7_init_35 rfl ?_
  refine wn_newa (kd := 100) (N := 3) dX7_init_36 rfl rfl ⟨rfl, rfl⟩ arrc_int rfl (by decide) rfl rfl rfl rfl rfl rfl ?_
  refine wn_dup dX7_init_38 rfl ?_
  refine wn_iconst (v := 0) dX7_init_39 rfl ?_
  refine wn_iconst (v := (-1)) dX7_init_40 rfl ?_
  refine wn_is (j := 0) dX7_init_41 rfl (by decide) (by unfold vp_in; decide) rfl ?_
  refine wn_dup dX7_init_42 rfl ?_
  refine wn_iconst (v := 1) dX7_init_43 rfl ?_
  refine wn_iconst (v := (-1)) dX7_init_44 rfl ?_
  refine wn_is (j := 1) dX7_init_45 rfl (by decide) (by unfold vp_in; decide) rfl ?_
  refine wn_dup dX7_init_46 rfl ?_
  refine wn_iconst (v := 2) dX7_init_47 rfl ?_
  refine wn_iconst (v := (-1)) dX7_init_48 rfl ?_
  refine wn_is (j := 2) dX7_init_49 rfl (by decide) (by unfold vp_in; decide) rfl ?_
  refine wn_pf dX7_init_50 fkX7_27 ffX7_4 trivial rfl rfl (by decide) (fun _ => rfl) (fun _ => rfl) (by decide) ?_
  refine wn_aload_n dX7_init_53 0 rfl rfl ?_
  refine wn_bipush (v := 40) dX7_init_54 rfl ?_
  refine wn_newa (kd := 100) (N := 40) dX7_init_56 rfl rfl ⟨rfl, rfl⟩ arrc_int rfl (by decide) rfl rfl rfl rfl rfl rfl ?_
  refine wn_pf dX7_init_58 fkX7_30 ffX7_5 trivial rfl rfl (by decide) (fun _ => rfl) (fun _ => rfl) (by decide) ?_
  refine wn_aload_n dX7_init_61 0 rfl rfl ?_
  refine wn_iconst (v := 0) dX7_init_62 rfl ?_
  refine wn_pi dX7_init_63 fkX7_33 fmX7_6 rfl rfl (by decide) rfl rfl ?_
  exact wn_vret dX7_init_66 rfl rfl ⟨congrArg (mw M) rfl, congrArg (pw P) rfl⟩
theorem ct100 {X : a_X} {ad : Nat → Nat} {ca : Nat → ClassId} {M : a_M} {P : a_P}  : Mb X ad ca 101 1 5 404 yX7_init cX7_init 1 [.ref 100] M P 106 (fun M1 P1 => M1 = mw M [(100, 6, 0), (104, 2, (-1)), (104, 1, (-1)), (104, 0, (-1)), (100, 0, 0)] ∧ P1 = pw P [(100, 5, 106), (100, 4, 105), (100, 3, 104), (100, 2, 103), (100, 1, 102)]) := by
  refine Mb.of (lv := [(0, .ref 100)]) (by decide +kernel) rfl rfl rfl rfl (wn_start ?_)
  refine wn_aload_n dX7_init_0 0 rfl rfl ?_
  refine wn_obj dX7_init_1 olX7_3 oi_in oi_cd rfl rfl ?_
  refine wn_aload_n dX7_init_4 0 rfl rfl ?_
  refine wn_iconst (v := 0) dX7_init_5 rfl ?_
  refine wn_pi dX7_init_6 fkX7_9 fmX7_0 rfl rfl (by decide) rfl rfl ?_
  refine wn_aload_n dX7_init_9 0 rfl rfl ?_
  refine wn_bipush (v := 30) dX7_init_10 rfl ?_
  refine wn_newa (kd := 100) (N := 30) dX7_init_12 rfl rfl ⟨rfl, rfl⟩ arrc_int rfl (by decide) rfl rfl rfl rfl rfl rfl ?_
  refine wn_pf dX7_init_14 fkX7_15 ffX7_1 trivial rfl rfl (by decide) (fun _ => rfl) (fun _ => rfl) (by decide) ?_
  refine wn_aload_n dX7_init_17 0 rfl rfl ?_
  refine wn_bipush (v := 31) dX7_init_18 rfl ?_
  refine wn_newa (kd := 100) (N := 31) dX7_init_20 rfl rfl ⟨rfl, rfl⟩ arrc_int rfl (by decide) rfl rfl rfl rfl rfl rfl ?_
  refine wn_pf dX7_init_22 fkX7_19 ffX7_2 trivial rfl rfl (by decide) (fun _ => rfl) (fun _ => rfl) (by decide) ?_
  refine wn_aload_n dX7_init_25 0 rfl rfl ?_
  refine wn_sipush (v := 300) dX7_init_26 rfl ?_
  refine wn_newa (kd := 100) (N := 300) dX7_init_29 rfl rfl ⟨rfl, rfl⟩ arrc_int rfl (by decide) rfl rfl rfl rfl rfl rfl ?_
  refine wn_pf dX7_init_31 fkX7_24 ffX7_3 trivial rfl rfl (by decide) (fun _ => rfl) (fun _ => rfl) (by decide) ?_
  refine wn_aload_n dX7_init_34 0 rfl rfl ?_
  refine wn_iconst (v := 3) dX7_init_35 rfl ?_
  refine wn_newa (kd := 100) (N := 3) dX7_init_36 rfl rfl ⟨rfl, rfl⟩ arrc_int rfl (by decide) rfl rfl rfl rfl rfl rfl ?_
  refine wn_dup dX7_init_38 rfl ?_
  refine wn_iconst (v := 0) dX7_init_39 rfl ?_
  refine wn_iconst (v := (-1)) dX7_init_40 rfl ?_
  refine wn_is (j := 0) dX7_init_41 rfl (by decide) (by unfold vp_in; decide) rfl ?_
  refine wn_dup dX7_init_42 rfl ?_
  refine wn_iconst (v := 1) dX7_init_43 rfl ?_
  refine wn_iconst (v := (-1)) dX7_init_44 rfl ?_
  refine wn_is (j := 1) dX7_init_45 rfl (by decide) (by unfold vp_in; decide) rfl ?_
  refine wn_dup dX7_init_46 rfl ?_
  refine wn_iconst (v := 2) dX7_init_47 rfl ?_
  refine wn_iconst (v := (-1)) dX7_init_48 rfl ?_
  refine wn_is (j := 2) dX7_init_49 rfl (by decide) (by unfold vp_in; decide) rfl ?_
  refine wn_pf dX7_init_50 fkX7_27 ffX7_4 trivial rfl rfl (by decide) (fun _ => rfl) (fun _ => rfl) (by decide) ?_
  refine wn_aload_n dX7_init_53 0 rfl rfl ?_
  refine wn_bipush (v := 40) dX7_init_54 rfl ?_
  refine wn_newa (kd := 100) (N := 40) dX7_init_56 rfl rfl ⟨rfl, rfl⟩ arrc_int rfl (by decide) rfl rfl rfl rfl rfl rfl ?_
  refine wn_pf dX7_init_58 fkX7_30 ffX7_5 trivial rfl rfl (by decide) (fun _ => rfl) (fun _ => rfl) (by decide) ?_
  refine wn_aload_n dX7_init_61 0 rfl rfl ?_
  refine wn_iconst (v := 0) dX7_init_62 rfl ?_
  refine wn_pi dX7_init_63 fkX7_33 fmX7_6 rfl rfl (by decide) rfl rfl ?_
  exact wn_vret dX7_init_66 rfl rfl ⟨congrArg (mw M) rfl, congrArg (pw P) rfl⟩
theorem ct106 {X : a_X} {ad : Nat → Nat} {ca : Nat → ClassId} {M : a_M} {P : a_P}  : Mb X ad ca 107 1 5 404 yX7_init cX7_init 1 [.ref 106] M P 112 (fun M1 P1 => M1 = mw M [(106, 6, 0), (110, 2, (-1)), (110, 1, (-1)), (110, 0, (-1)), (106, 0, 0)] ∧ P1 = pw P [(106, 5, 112), (106, 4, 111), (106, 3, 110), (106, 2, 109), (106, 1, 108)]) := by
  refine Mb.of (lv := [(0, .ref 106)]) (by decide +kernel) rfl rfl rfl rfl (wn_start ?_)
  refine wn_aload_n dX7_init_0 0 rfl rfl ?_
  refine wn_obj dX7_init_1 olX7_3 oi_in oi_cd rfl rfl ?_
  refine wn_aload_n dX7_init_4 0 rfl rfl ?_
  refine wn_iconst (v := 0) dX7_init_5 rfl ?_
  refine wn_pi dX7_init_6 fkX7_9 fmX7_0 rfl rfl (by decide) rfl rfl ?_
  refine wn_aload_n dX7_init_9 0 rfl rfl ?_
  refine wn_bipush (v := 30) dX7_init_10 rfl ?_
  refine wn_newa (kd := 100) (N := 30) dX7_init_12 rfl rfl ⟨rfl, rfl⟩ arrc_int rfl (by decide) rfl rfl rfl rfl rfl rfl ?_
  refine wn_pf dX7_init_14 fkX7_15 ffX7_1 trivial rfl rfl (by decide) (fun _ => rfl) (fun _ => rfl) (by decide) ?_
  refine wn_aload_n dX7_init_17 0 rfl rfl ?_
  refine wn_bipush (v := 31) dX7_init_18 rfl ?_
  refine wn_newa (kd := 100) (N := 31) dX7_init_20 rfl rfl ⟨rfl, rfl⟩ arrc_int rfl (by decide) rfl rfl rfl rfl rfl rfl ?_
  refine wn_pf dX7_init_22 fkX7_19 ffX7_2 trivial rfl rfl (by decide) (fun _ => rfl) (fun _ => rfl) (by decide) ?_
  refine wn_aload_n dX7_init_25 0 rfl rfl ?_
  refine wn_sipush (v := 300) dX7_init_26 rfl ?_
  refine wn_newa (kd := 100) (N := 300) dX7_init_29 rfl rfl ⟨rfl, rfl⟩ arrc_int rfl (by decide) rfl rfl rfl rfl rfl rfl ?_
  refine wn_pf dX7_init_31 fkX7_24 ffX7_3 trivial rfl rfl (by decide) (fun _ => rfl) (fun _ => rfl) (by decide) ?_
  refine wn_aload_n dX7_init_34 0 rfl rfl ?_
  refine wn_iconst (v := 3) dX7_init_35 rfl ?_
  refine wn_newa (kd := 100) (N := 3) dX7_init_36 rfl rfl ⟨rfl, rfl⟩ arrc_int rfl (by decide) rfl rfl rfl rfl rfl rfl ?_
  refine wn_dup dX7_init_38 rfl ?_
  refine wn_iconst (v := 0) dX7_init_39 rfl ?_
  refine wn_iconst (v := (-1)) dX7_init_40 rfl ?_
  refine wn_is (j := 0) dX7_init_41 rfl (by decide) (by unfold vp_in; decide) rfl ?_
  refine wn_dup dX7_init_42 rfl ?_
  refine wn_iconst (v := 1) dX7_init_43 rfl ?_
  refine wn_iconst (v := (-1)) dX7_init_44 rfl ?_
  refine wn_is (j := 1) dX7_init_45 rfl (by decide) (by unfold vp_in; decide) rfl ?_
  refine wn_dup dX7_init_46 rfl ?_
  refine wn_iconst (v := 2) dX7_init_47 rfl ?_
  refine wn_iconst (v := (-1)) dX7_init_48 rfl ?_
  refine wn_is (j := 2) dX7_init_49 rfl (by decide) (by unfold vp_in; decide) rfl ?_
  refine wn_pf dX7_init_50 fkX7_27 ffX7_4 trivial rfl rfl (by decide) (fun _ => rfl) (fun _ => rfl) (by decide) ?_
  refine wn_aload_n dX7_init_53 0 rfl rfl ?_
  refine wn_bipush (v := 40) dX7_init_54 rfl ?_
  refine wn_newa (kd := 100) (N := 40) dX7_init_56 rfl rfl ⟨rfl, rfl⟩ arrc_int rfl (by decide) rfl rfl rfl rfl rfl rfl ?_
  refine wn_pf dX7_init_58 fkX7_30 ffX7_5 trivial rfl rfl (by decide) (fun _ => rfl) (fun _ => rfl) (by decide) ?_
  refine wn_aload_n dX7_init_61 0 rfl rfl ?_
  refine wn_iconst (v := 0) dX7_init_62 rfl ?_
  refine wn_pi dX7_init_63 fkX7_33 fmX7_6 rfl rfl (by decide) rfl rfl ?_
  exact wn_vret dX7_init_66 rfl rfl ⟨congrArg (mw M) rfl, congrArg (pw P) rfl⟩
theorem ct112 {X : a_X} {ad : Nat → Nat} {ca : Nat → ClassId} {M : a_M} {P : a_P}  : Mb X ad ca 113 1 5 404 yX7_init cX7_init 1 [.ref 112] M P 118 (fun M1 P1 => M1 = mw M [(112, 6, 0), (116, 2, (-1)), (116, 1, (-1)), (116, 0, (-1)), (112, 0, 0)] ∧ P1 = pw P [(112, 5, 118), (112, 4, 117), (112, 3, 116), (112, 2, 115), (112, 1, 114)]) := by
  refine Mb.of (lv := [(0, .ref 112)]) (by decide +kernel) rfl rfl rfl rfl (wn_start ?_)
  refine wn_aload_n dX7_init_0 0 rfl rfl ?_
  refine wn_obj dX7_init_1 olX7_3 oi_in oi_cd rfl rfl ?_
  refine wn_aload_n dX7_init_4 0 rfl rfl ?_
  refine wn_iconst (v := 0) dX7_init_5 rfl ?_
  refine wn_pi dX7_init_6 fkX7_9 fmX7_0 rfl rfl (by decide) rfl rfl ?_
  refine wn_aload_n dX7_init_9 0 rfl rfl ?_
  refine wn_bipush (v := 30) dX7_init_10 rfl ?_
  refine wn_newa (kd := 100) (N := 30) dX7_init_12 rfl rfl ⟨rfl, rfl⟩ arrc_int rfl (by decide) rfl rfl rfl rfl rfl rfl ?_
  refine wn_pf dX7_init_14 fkX7_15 ffX7_1 trivial rfl rfl (by decide) (fun _ => rfl) (fun _ => rfl) (by decide) ?_
  refine wn_aload_n dX7_init_17 0 rfl rfl ?_
  refine wn_bipush (v := 31) dX7_init_18 rfl ?_
  refine wn_newa (kd := 100) (N := 31) dX7_init_20 rfl rfl ⟨rfl, rfl⟩ arrc_int rfl (by decide) rfl rfl rfl rfl rfl rfl ?_
  refine wn_pf dX7_init_22 fkX7_19 ffX7_2 trivial rfl rfl (by decide) (fun _ => rfl) (fun _ => rfl) (by decide) ?_
  refine wn_aload_n dX7_init_25 0 rfl rfl ?_
  refine wn_sipush (v := 300) dX7_init_26 rfl ?_
  refine wn_newa (kd := 100) (N := 300) dX7_init_29 rfl rfl ⟨rfl, rfl⟩ arrc_int rfl (by decide) rfl rfl rfl rfl rfl rfl ?_
  refine wn_pf dX7_init_31 fkX7_24 ffX7_3 trivial rfl rfl (by decide) (fun _ => rfl) (fun _ => rfl) (by decide) ?_
  refine wn_aload_n dX7_init_34 0 rfl rfl ?_
  refine wn_iconst (v := 3) dX7_init_35 rfl ?_
  refine wn_newa (kd := 100) (N := 3) dX7_init_36 rfl rfl ⟨rfl, rfl⟩ arrc_int rfl (by decide) rfl rfl rfl rfl rfl rfl ?_
  refine wn_dup dX7_init_38 rfl ?_
  refine wn_iconst (v := 0) dX7_init_39 rfl ?_
  refine wn_iconst (v := (-1)) dX7_init_40 rfl ?_
  refine wn_is (j := 0) dX7_init_41 rfl (by decide) (by unfold vp_in; decide) rfl ?_
  refine wn_dup dX7_init_42 rfl ?_
  refine wn_iconst (v := 1) dX7_init_43 rfl ?_
  refine wn_iconst (v := (-1)) dX7_init_44 rfl ?_
  refine wn_is (j := 1) dX7_init_45 rfl (by decide) (by unfold vp_in; decide) rfl ?_
  refine wn_dup dX7_init_46 rfl ?_
  refine wn_iconst (v := 2) dX7_init_47 rfl ?_
  refine wn_iconst (v := (-1)) dX7_init_48 rfl ?_
  refine wn_is (j := 2) dX7_init_49 rfl (by decide) (by unfold vp_in; decide) rfl ?_
  refine wn_pf dX7_init_50 fkX7_27 ffX7_4 trivial rfl rfl (by decide) (fun _ => rfl) (fun _ => rfl) (by decide) ?_
  refine wn_aload_n dX7_init_53 0 rfl rfl ?_
  refine wn_bipush (v := 40) dX7_init_54 rfl ?_
  refine wn_newa (kd := 100) (N := 40) dX7_init_56 rfl rfl ⟨rfl, rfl⟩ arrc_int rfl (by decide) rfl rfl rfl rfl rfl rfl ?_
  refine wn_pf dX7_init_58 fkX7_30 ffX7_5 trivial rfl rfl (by decide) (fun _ => rfl) (fun _ => rfl) (by decide) ?_
  refine wn_aload_n dX7_init_61 0 rfl rfl ?_
  refine wn_iconst (v := 0) dX7_init_62 rfl ?_
  refine wn_pi dX7_init_63 fkX7_33 fmX7_6 rfl rfl (by decide) rfl rfl ?_
  exact wn_vret dX7_init_66 rfl rfl ⟨congrArg (mw M) rfl, congrArg (pw P) rfl⟩
set_option maxRecDepth 100000 in
theorem ct0 {X : a_X} {ad : Nat → Nat} {ca : Nat → ClassId} {M : a_M} {P : a_P} (x1 : Int32) : Mb X ad ca 1 3 117 14847 yX11_init cX11_init 4 [.ref 0, .int x1] M P 118 (fun M1 P1 => M1 = mw M [(112, 6, 0), (116, 2, (-1)), (116, 1, (-1)), (116, 0, (-1)), (112, 0, 0), (106, 6, 0), (110, 2, (-1)), (110, 1, (-1)), (110, 0, (-1)), (106, 0, 0), (100, 6, 0), (104, 2, (-1)), (104, 1, (-1)), (104, 0, (-1)), (100, 0, 0), (94, 6, 0), (98, 2, (-1)), (98, 1, (-1)), (98, 0, (-1)), (94, 0, 0), (70, 0, (zmax 2 (zmin 7 x1))), (69, 3, (-1)), (69, 2, 0), (71, 3, 0), (71, 2, 0), (71, 1, 0), (70, 4, 1), (70, 3, 1), (70, 2, 13), (70, 1, 1), (70, 0, 2), (45, 0, (zmax 2 (zmin 7 x1))), (44, 3, (-1)), (44, 2, 0), (46, 3, 0), (46, 2, 0), (46, 1, 0), (45, 4, 1), (45, 3, 1), (45, 2, 13), (45, 1, 1), (45, 0, 2), (41, 4, 1), (41, 3, 1), (41, 2, 13), (41, 1, 1), (41, 0, 2), (33, 1, 0), (34, 4, 1), (34, 3, 1), (34, 2, 13), (34, 1, 1), (34, 0, 2), (23, 9, 0), (23, 3, (-1)), (23, 2, (-1)), (24, 4, 1), (24, 3, 1), (24, 2, 13), (24, 1, 1), (24, 0, 2), (19, 3, 0), (13, 9, (-1)), (13, 8, (-1)), (13, 7, 0), (13, 6, 0), (13, 5, (-1)), (18, 4, 1), (18, 3, 1), (18, 2, 13), (18, 1, 1), (18, 0, 2), (12, 7, (-1)), (12, 6, 0), (12, 5, 0), (12, 4, 0), (12, 3, (-1)), (12, 2, 0), (6, 6, 0), (10, 2, (-1)), (10, 1, (-1)), (10, 0, (-1)), (6, 0, 0), (1, 3, 0)] ∧ P1 = pw P [(5, 3, 113), (112, 5, 118), (112, 4, 117), (112, 3, 116), (112, 2, 115), (112, 1, 114), (5, 2, 107), (106, 5, 112), (106, 4, 111), (106, 3, 110), (106, 2, 109), (106, 1, 108), (5, 1, 101), (100, 5, 106), (100, 4, 105), (100, 3, 104), (100, 2, 103), (100, 1, 102), (5, 0, 95), (94, 5, 100), (94, 4, 99), (94, 3, 98), (94, 2, 97), (94, 1, 96), (0, 1, 70), (69, 1, 72), (71, 0, 73), (72, 20, 94), (72, 19, 93), (72, 18, 92), (72, 17, 91), (72, 16, 90), (72, 15, 89), (72, 14, 88), (72, 13, 87), (72, 12, 86), (72, 11, 85), (72, 10, 84), (72, 9, 83), (72, 8, 82), (72, 7, 81), (72, 6, 80), (72, 5, 79), (72, 4, 78), (72, 3, 77), (72, 2, 76), (72, 1, 75), (72, 0, 74), (69, 0, 71), (0, 0, 45), (44, 1, 47), (46, 0, 48), (47, 20, 69), (47, 19, 68), (47, 18, 67), (47, 17, 66), (47, 16, 65), (47, 15, 64), (47, 14, 63), (47, 13, 62), (47, 12, 61), (47, 11, 60), (47, 10, 59), (47, 9, 58), (47, 8, 57), (47, 7, 56), (47, 6, 55), (47, 5, 54), (47, 4, 53), (47, 3, 52), (47, 2, 51), (47, 1, 50), (47, 0, 49), (44, 0, 46), (0, 13, 44), (0, 12, 43), (0, 11, 42), (0, 10, 34), (33, 7, 41), (33, 6, 40), (33, 5, 39), (33, 4, 38), (33, 3, 37), (33, 2, 36), (33, 0, 35), (0, 9, 31), (30, 0, 20), (30, 2, 33), (30, 1, 32), (0, 8, 24), (23, 0, 20), (23, 8, 30), (23, 7, 29), (23, 6, 28), (23, 5, 27), (23, 4, 26), (23, 1, 25), (0, 7, 20), (19, 2, 23), (19, 1, 22), (19, 0, 21), (0, 6, 14), (13, 4, 19), (13, 3, 18), (13, 2, 17), (13, 1, 16), (13, 0, 15), (0, 5, 13), (12, 1, 7), (12, 0, 2), (0, 4, 7), (6, 5, 12), (6, 4, 11), (6, 3, 10), (6, 2, 9), (6, 1, 8), (0, 3, 6), (0, 2, 2), (1, 2, 5), (1, 1, 4), (1, 0, 3)]) := by
  refine Mb.of (lv := [(0, .ref 0), (1, .int x1)]) (by decide +kernel) rfl rfl rfl rfl (wn_start ?_)
  refine wn_aload_n dX11_init_0 0 rfl rfl ?_
  refine wn_obj dX11_init_1 olX11_1 oi_in oi_cd rfl rfl ?_
  refine wn_aload_n dX11_init_4 0 rfl rfl ?_
  refine wn_new dX11_init_5 rfl ckX10 clX11_7 isRX10 inX10 okX10 rfl rfl rfl rfl ?_
  refine wn_dup dX11_init_8 rfl ?_
  refine wn_ctorN [] dX11_init_9 (mmX10_init _ _) mkX11_9 mnX10_init rfl rfl (by decide) rfl rfl rfl rfl rfl rfl (fun ad ca => ct1 ) ?_
  rintro M1 P1 ⟨hM1, hP1⟩
  rw [hM1, hP1, mw_app, pw_app]
  clear hM1 hP1
  refine wn_pf dX11_init_12 fkX11_10 ffX11_2 trivial rfl rfl (by decide) (fun _ => rfl) (fun _ => rfl) (by decide) ?_
  refine wn_aload_n dX11_init_15 0 rfl rfl ?_
  refine wn_iconst (v := 4) dX11_init_16 rfl ?_
  refine wn_newq (N := 4) dX11_init_17 clX11_16 rfl (by decide) rfl rfl rfl rfl rfl rfl ?_
  refine wn_pf dX11_init_20 fkX11_18 ffX11_3 trivial rfl rfl (by decide) (fun _ => rfl) (fun _ => rfl) (by decide) ?_
  refine wn_aload_n dX11_init_23 0 rfl rfl ?_
  refine wn_new dX11_init_24 rfl ckX7 clX11_16 isRX7 inX7 okX7 rfl rfl rfl rfl ?_
  refine wn_dup dX11_init_27 rfl ?_
  refine wn_ctorN [] dX11_init_28 (mmX7_init _ _) mkX11_22 mnX7_init rfl rfl (by decide) rfl rfl rfl rfl rfl rfl (fun ad ca => ct6 ) ?_
  rintro M1 P1 ⟨hM1, hP1⟩
  rw [hM1, hP1, mw_app, pw_app]
  clear hM1 hP1
  refine wn_pf dX11_init_31 fkX11_23 ffX11_4 trivial rfl rfl (by decide) (fun _ => rfl) (fun _ => rfl) (by decide) ?_
  refine wn_aload_n dX11_init_34 0 rfl rfl ?_
  refine wn_new dX11_init_35 rfl ckX5 clX11_27 isRX5 inX5 okX5 rfl rfl rfl rfl ?_
  refine wn_dup dX11_init_38 rfl ?_
  refine wn_aload_n dX11_init_39 0 rfl rfl ?_
  refine wn_getr (r := 1) dX11_init_40 fkX11_10 rfl rfl (by decide) rfl ?_
  refine wn_aload_n dX11_init_43 0 rfl rfl ?_
  refine wn_getr (r := 6) dX11_init_44 fkX11_23 rfl rfl (by decide) rfl ?_
  refine wn_ctor [.ref 1, .ref 6] dX11_init_47 (mmX5_init _ _) mlX11_29 mnX5_init rfl rfl (by decide) rfl rfl rfl rfl rfl rfl (fun ad ca => ct12 ) ?_
  rintro M1 P1 ⟨hM1, hP1⟩
  rw [hM1, hP1, mw_app, pw_app]
  clear hM1 hP1
  refine wn_pf dX11_init_50 fkX11_32 ffX11_5 trivial rfl rfl (by decide) (fun _ => rfl) (fun _ => rfl) (by decide) ?_
  refine wn_aload_n dX11_init_53 0 rfl rfl ?_
  refine wn_new dX11_init_54 rfl ckX1 clX11_36 isRX1 inX1 okX1 rfl rfl rfl rfl ?_
  refine wn_dup dX11_init_57 rfl ?_
  refine wn_ctorN [] dX11_init_58 (mmX1_init _ _) mkX11_38 mnX1_init rfl rfl (by decide) rfl rfl rfl rfl rfl rfl (fun ad ca => ct13 ) ?_
  rintro M1 P1 ⟨hM1, hP1⟩
  rw [hM1, hP1, mw_app, pw_app]
  clear hM1 hP1
  refine wn_pf dX11_init_61 fkX11_39 ffX11_6 trivial rfl rfl (by decide) (fun _ => rfl) (fun _ => rfl) (by decide) ?_
  refine wn_aload_n dX11_init_64 0 rfl rfl ?_
  refine wn_new dX11_init_65 rfl ckX0 clX11_43 isRX0 inX0 okX0 rfl rfl rfl rfl ?_
  refine wn_dup dX11_init_68 rfl ?_
  refine wn_ctorN [] dX11_init_69 (mmX0_init _ _) mkX11_45 mnX0_init rfl rfl (by decide) rfl rfl rfl rfl rfl rfl (fun ad ca => ct19 ) ?_
  rintro M1 P1 ⟨hM1, hP1⟩
  rw [hM1, hP1, mw_app, pw_app]
  clear hM1 hP1
  refine wn_pf dX11_init_72 fkX11_46 ffX11_7 trivial rfl rfl (by decide) (fun _ => rfl) (fun _ => rfl) (by decide) ?_
  refine wn_aload_n dX11_init_75 0 rfl rfl ?_
  refine wn_new dX11_init_76 rfl ckX8 clX11_50 isRX8 inX8 okX8 rfl rfl rfl rfl ?_
  refine wn_dup dX11_init_79 rfl ?_
  refine wn_aload_n dX11_init_80 0 rfl rfl ?_
  refine wn_getr (r := 19) dX11_init_81 fkX11_46 rfl rfl (by decide) rfl ?_
  refine wn_ctor [.ref 19] dX11_init_84 (mmX8_init _ _) mlX11_52 mnX8_init rfl rfl (by decide) rfl rfl rfl rfl rfl rfl (fun ad ca => ct23 ) ?_
  rintro M1 P1 ⟨hM1, hP1⟩
  rw [hM1, hP1, mw_app, pw_app]
  clear hM1 hP1
  refine wn_pf dX11_init_87 fkX11_55 ffX11_8 trivial rfl rfl (by decide) (fun _ => rfl) (fun _ => rfl) (by decide) ?_
  refine wn_aload_n dX11_init_90 0 rfl rfl ?_
  refine wn_new dX11_init_91 rfl ckX4 clX11_59 isRX4 inX4 okX4 rfl rfl rfl rfl ?_
  refine wn_dup dX11_init_94 rfl ?_
  refine wn_aload_n dX11_init_95 0 rfl rfl ?_
  refine wn_getr (r := 19) dX11_init_96 fkX11_46 rfl rfl (by decide) rfl ?_
  refine wn_ctor [.ref 19] dX11_init_99 (mmX4_init _ _) mlX11_61 mnX4_init rfl rfl (by decide) rfl rfl rfl rfl rfl rfl (fun ad ca => ct30 ) ?_
  rintro M1 P1 ⟨hM1, hP1⟩
  rw [hM1, hP1, mw_app, pw_app]
  clear hM1 hP1
  refine wn_pf dX11_init_102 fkX11_62 ffX11_9 trivial rfl rfl (by decide) (fun _ => rfl) (fun _ => rfl) (by decide) ?_
  refine wn_aload_n dX11_init_105 0 rfl rfl ?_
  refine wn_new dX11_init_106 rfl ckX3 clX11_66 isRX3 inX3 okX3 rfl rfl rfl rfl ?_
  refine wn_dup dX11_init_109 rfl ?_
  refine wn_ctorN [] dX11_init_110 (mmX3_init _ _) mkX11_68 mnX3_init rfl rfl (by decide) rfl rfl rfl rfl rfl rfl (fun ad ca => ct33 ) ?_
  rintro M1 P1 ⟨hM1, hP1⟩
  rw [hM1, hP1, mw_app, pw_app]
  clear hM1 hP1
  refine wn_pf dX11_init_113 fkX11_69 ffX11_10 trivial rfl rfl (by decide) (fun _ => rfl) (fun _ => rfl) (by decide) ?_
  refine wn_aload_n dX11_init_116 0 rfl rfl ?_
  refine wn_new dX11_init_117 rfl ckX6 clX11_73 isRX6 inX6 okX6 rfl rfl rfl rfl ?_
  refine wn_dup dX11_init_120 rfl ?_
  refine wn_ctorN [] dX11_init_121 (mmX6_init _ _) mkX11_75 mnX6_init rfl rfl (by decide) rfl rfl rfl rfl rfl rfl (fun ad ca => ct41 ) ?_
  rintro M1 P1 ⟨hM1, hP1⟩
  rw [hM1, hP1, mw_app, pw_app]
  clear hM1 hP1
  refine wn_pf dX11_init_124 fkX11_76 ffX11_11 trivial rfl rfl (by decide) (fun _ => rfl) (fun _ => rfl) (by decide) ?_
  refine wn_aload_n dX11_init_127 0 rfl rfl ?_
  refine wn_sipush (v := 128) dX11_init_128 rfl ?_
  refine wn_newa (kd := 100) (N := 128) dX11_init_131 rfl rfl ⟨rfl, rfl⟩ arrc_int rfl (by decide) rfl rfl rfl rfl rfl rfl ?_
  refine wn_pf dX11_init_133 fkX11_80 ffX11_12 trivial rfl rfl (by decide) (fun _ => rfl) (fun _ => rfl) (by decide) ?_
  refine wn_aload_n dX11_init_136 0 rfl rfl ?_
  refine wn_sipush (v := 128) dX11_init_137 rfl ?_
  refine wn_newa (kd := 100) (N := 128) dX11_init_140 rfl rfl ⟨rfl, rfl⟩ arrc_int rfl (by decide) rfl rfl rfl rfl rfl rfl ?_
  refine wn_pf dX11_init_142 fkX11_84 ffX11_13 trivial rfl rfl (by decide) (fun _ => rfl) (fun _ => rfl) (by decide) ?_
  refine wn_iconst (v := 2) dX11_init_145 rfl ?_
  refine wn_bipush (v := 7) dX11_init_146 rfl ?_
  refine wn_iload_n dX11_init_148 1 rfl rfl ?_
  refine wn_callS (d9 := 1) [.int 7, .int x1] dX11_init_149 (mmJ9_min_7cf53 _ _) mlX11_87 mstJ9_min_7cf53 rfl (by decide) rfl rfl rfl rfl (fun ad ca => k_zmin _ _) (fun r M1 P1 h hz => by obtain ⟨-, rfl, rfl⟩ := h; exact hz) ?_
  rintro r M1 P1 ⟨rfl, rfl, rfl⟩
  simp only [Option.toList, List.cons_append, List.nil_append]
  refine wn_callS (d9 := 1) [.int 2, .int (zmin 7 x1)] dX11_init_152 (mmJ9_max_7cf53 _ _) mlX11_93 mstJ9_max_7cf53 rfl (by decide) rfl rfl rfl rfl (fun ad ca => k_zmax _ _) (fun r M1 P1 h hz => by obtain ⟨-, rfl, rfl⟩ := h; exact hz) ?_
  rintro r M1 P1 ⟨rfl, rfl, rfl⟩
  simp only [Option.toList, List.cons_append, List.nil_append]
  refine wn_istore_n (lv' := [(2, .int (zmax 2 (zmin 7 x1))), (0, .ref 0), (1, .int x1)]) dX11_init_155 rfl rfl rfl ?_
  refine wn_aload_n dX11_init_156 1 rfl rfl ?_
  refine wn_new dX11_init_157 rfl ckX9 clX11_96 isRX9 inX9 okX9 rfl rfl rfl rfl ?_
  refine wn_dup dX11_init_160 rfl ?_
  refine wn_iload_n dX11_init_161 0 rfl rfl ?_
  refine wn_ctor [.int (zmax 2 (zmin 7 x1))] dX11_init_162 (mmX9_init _ _) mlX11_98 mnX9_init rfl rfl (by decide) rfl rfl rfl rfl rfl rfl (fun ad ca => ct44 (zmax 2 (zmin 7 x1))) ?_
  rintro M1 P1 ⟨hM1, hP1⟩
  rw [hM1, hP1, mw_app, pw_app]
  clear hM1 hP1
  refine wn_pf dX11_init_165 fkX11_101 ffX11_0 trivial rfl rfl (by decide) (fun _ => rfl) (fun _ => rfl) (by decide) ?_
  refine wn_aload_n dX11_init_168 1 rfl rfl ?_
  refine wn_new dX11_init_169 rfl ckX9 clX11_96 isRX9 inX9 okX9 rfl rfl rfl rfl ?_
  refine wn_dup dX11_init_172 rfl ?_
  refine wn_iload_n dX11_init_173 0 rfl rfl ?_
  refine wn_ctor [.int (zmax 2 (zmin 7 x1))] dX11_init_174 (mmX9_init _ _) mlX11_98 mnX9_init rfl rfl (by decide) rfl rfl rfl rfl rfl rfl (fun ad ca => ct69 (zmax 2 (zmin 7 x1))) ?_
  rintro M1 P1 ⟨hM1, hP1⟩
  rw [hM1, hP1, mw_app, pw_app]
  clear hM1 hP1
  refine wn_pf dX11_init_177 fkX11_105 ffX11_1 trivial rfl rfl (by decide) (fun _ => rfl) (fun _ => rfl) (by decide) ?_
  refine wn_iconst (v := 0) dX11_init_180 rfl ?_
  refine wn_istore_n (lv' := [(3, .int 0), (2, .int (zmax 2 (zmin 7 x1))), (0, .ref 0), (1, .int x1)]) dX11_init_181 rfl rfl rfl ?_
  refine wn_iload_n dX11_init_182 0 rfl rfl ?_
  refine wn_aload_n dX11_init_183 2 rfl rfl ?_
  refine wn_getr (r := 5) dX11_init_184 fkX11_18 rfl rfl (by decide) rfl ?_
  refine wn_alen (v := 4) dX11_init_187 rfl (by decide) (by decide) rfl ?_
  refine wn_icmp_ge (tgt := 210) dX11_init_188 rfl (fun hc => absurd hc (by decide)) (fun _ => ?_)
  refine wn_aload_n dX11_init_191 2 rfl rfl ?_
  refine wn_getr (r := 5) dX11_init_192 fkX11_18 rfl rfl (by decide) rfl ?_
  refine wn_iload_n dX11_init_195 0 rfl rfl ?_
  refine wn_new dX11_init_196 rfl ckX7 clX11_16 isRX7 inX7 okX7 rfl rfl rfl rfl ?_
  refine wn_dup dX11_init_199 rfl ?_
  refine wn_ctorN [] dX11_init_200 (mmX7_init _ _) mkX11_22 mnX7_init rfl rfl (by decide) rfl rfl rfl rfl rfl rfl (fun ad ca => ct94 ) ?_
  rintro M1 P1 ⟨hM1, hP1⟩
  rw [hM1, hP1, mw_app, pw_app]
  clear hM1 hP1
  refine wn_as (j := 0) dX11_init_203 rfl (by decide) rfl (by decide) (by unfold vp_in; decide) rfl ?_
  refine wn_iinc (v := 1) (lv' := [(3, .int 1), (2, .int (zmax 2 (zmin 7 x1))), (0, .ref 0), (1, .int x1)]) dX11_init_204 0 rfl rfl rfl rfl ?_
  refine wn_goto (tgt := 182) dX11_init_207 rfl ?_
  refine wn_iload_n dX11_init_182 0 rfl rfl ?_
  refine wn_aload_n dX11_init_183 2 rfl rfl ?_
  refine wn_getr (r := 5) dX11_init_184 fkX11_18 rfl rfl (by decide) rfl ?_
  refine wn_alen (v := 4) dX11_init_187 rfl (by decide) (by decide) rfl ?_
  refine wn_icmp_ge (tgt := 210) dX11_init_188 rfl (fun hc => absurd hc (by decide)) (fun _ => ?_)
  refine wn_aload_n dX11_init_191 2 rfl rfl ?_
  refine wn_getr (r := 5) dX11_init_192 fkX11_18 rfl rfl (by decide) rfl ?_
  refine wn_iload_n dX11_init_195 0 rfl rfl ?_
  refine wn_new dX11_init_196 rfl ckX7 clX11_16 isRX7 inX7 okX7 rfl rfl rfl rfl ?_
  refine wn_dup dX11_init_199 rfl ?_
  refine wn_ctorN [] dX11_init_200 (mmX7_init _ _) mkX11_22 mnX7_init rfl rfl (by decide) rfl rfl rfl rfl rfl rfl (fun ad ca => ct100 ) ?_
  rintro M1 P1 ⟨hM1, hP1⟩
  rw [hM1, hP1, mw_app, pw_app]
  clear hM1 hP1
  refine wn_as (j := 1) dX11_init_203 rfl (by decide) rfl (by decide) (by unfold vp_in; decide) rfl ?_
  refine wn_iinc (v := 2) (lv' := [(3, .int 2), (2, .int (zmax 2 (zmin 7 x1))), (0, .ref 0), (1, .int x1)]) dX11_init_204 0 rfl rfl rfl rfl ?_
  refine wn_goto (tgt := 182) dX11_init_207 rfl ?_
  refine wn_iload_n dX11_init_182 0 rfl rfl ?_
  refine wn_aload_n dX11_init_183 2 rfl rfl ?_
  refine wn_getr (r := 5) dX11_init_184 fkX11_18 rfl rfl (by decide) rfl ?_
  refine wn_alen (v := 4) dX11_init_187 rfl (by decide) (by decide) rfl ?_
  refine wn_icmp_ge (tgt := 210) dX11_init_188 rfl (fun hc => absurd hc (by decide)) (fun _ => ?_)
  refine wn_aload_n dX11_init_191 2 rfl rfl ?_
  refine wn_getr (r := 5) dX11_init_192 fkX11_18 rfl rfl (by decide) rfl ?_
  refine wn_iload_n dX11_init_195 0 rfl rfl ?_
  refine wn_new dX11_init_196 rfl ckX7 clX11_16 isRX7 inX7 okX7 rfl rfl rfl rfl ?_
  refine wn_dup dX11_init_199 rfl ?_
  refine wn_ctorN [] dX11_init_200 (mmX7_init _ _) mkX11_22 mnX7_init rfl rfl (by decide) rfl rfl rfl rfl rfl rfl (fun ad ca => ct106 ) ?_
  rintro M1 P1 ⟨hM1, hP1⟩
  rw [hM1, hP1, mw_app, pw_app]
  clear hM1 hP1
  refine wn_as (j := 2) dX11_init_203 rfl (by decide) rfl (by decide) (by unfold vp_in; decide) rfl ?_
  refine wn_iinc (v := 3) (lv' := [(3, .int 3), (2, .int (zmax 2 (zmin 7 x1))), (0, .ref 0), (1, .int x1)]) dX11_init_204 0 rfl rfl rfl rfl ?_
  refine wn_goto (tgt := 182) dX11_init_207 rfl ?_
  refine wn_iload_n dX11_init_182 0 rfl rfl ?_
  refine wn_aload_n dX11_init_183 2 rfl rfl ?_
  refine wn_getr (r := 5) dX11_init_184 fkX11_18 rfl rfl (by decide) rfl ?_
  refine wn_alen (v := 4) dX11_init_187 rfl (by decide) (by decide) rfl ?_
  refine wn_icmp_ge (tgt := 210) dX11_init_188 rfl (fun hc => absurd hc (by decide)) (fun _ => ?_)
  refine wn_aload_n dX11_init_191 2 rfl rfl ?_
  refine wn_getr (r := 5) dX11_init_192 fkX11_18 rfl rfl (by decide) rfl ?_
  refine wn_iload_n dX11_init_195 0 rfl rfl ?_
  refine wn_new dX11_init_196 rfl ckX7 clX11_16 isRX7 inX7 okX7 rfl rfl rfl rfl ?_
  refine wn_dup dX11_init_199 rfl ?_
  refine wn_ctorN [] dX11_init_200 (mmX7_init _ _) mkX11_22 mnX7_init rfl rfl (by decide) rfl rfl rfl rfl rfl rfl (fun ad ca => ct112 ) ?_
  rintro M1 P1 ⟨hM1, hP1⟩
  rw [hM1, hP1, mw_app, pw_app]
  clear hM1 hP1
  refine wn_as (j := 3) dX11_init_203 rfl (by decide) rfl (by decide) (by unfold vp_in; decide) rfl ?_
  refine wn_iinc (v := 4) (lv' := [(3, .int 4), (2, .int (zmax 2 (zmin 7 x1))), (0, .ref 0), (1, .int x1)]) dX11_init_204 0 rfl rfl rfl rfl ?_
  refine wn_goto (tgt := 182) dX11_init_207 rfl ?_
  refine wn_iload_n dX11_init_182 0 rfl rfl ?_
  refine wn_aload_n dX11_init_183 2 rfl rfl ?_
  refine wn_getr (r := 5) dX11_init_184 fkX11_18 rfl rfl (by decide) rfl ?_
  refine wn_alen (v := 4) dX11_init_187 rfl (by decide) (by decide) rfl ?_
  refine wn_icmp_ge (tgt := 210) dX11_init_188 rfl (fun _ => ?_) (fun hc => absurd (by decide) hc)
  exact wn_vret dX11_init_210 rfl rfl ⟨congrArg (mw M) rfl, congrArg (pw P) rfl⟩
