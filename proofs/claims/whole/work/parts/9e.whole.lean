/-! THE CLAIM OUT OF ONE WALK OF THE LAW'S BODY. Your part is whole_start (and what it stands on); all else here is the same for every law, but numbers. -/
def R_law : String := "SolvedChainsLaw"
def lw_P (b : Addr) (xs : List Int32) (args : Array Value) (s : State) : Prop := args = #[.ref b] ∧ s.IntsAt b xs ∧ xs.length ≤ 3073 ∧ (Jvm.Cond.and given_1 narrow_1).before args s = true
def lw_Q (_ : Array Value) (s : State) (o : Outcome) (t : State) : Prop := o = .returned (some (.int 1)) ∧ Framed s o t [] 600000 7302250
def lw_Z (below : List Frame) (a : Array Value) (s : State) : State → Prop := fun t => ∃ o, t.status = .running ∧ Ended t below o ∧ lw_Q a s o t
/-- the law's own end, with 1 on the stack, nothing written that was there before, its room as the claim has it -/
theorem lw_ret {p : Program} {l : Launch} {e : Env} {s : State} {m : MethodId} {below : List Frame} {meth : Method} {c : Code} {b : Nat} (hx : p.tables.exec = Jvm.exec) (hb : c.code = code) (hr : meth.sig.returnType = ret) (hlocks : meth.locks = false) {pc : Nat} {H : Heap} {ls : Array Slot} (hdg : decode code pc = .ok (.ireturn, 1)) : W p l e room_1 s m #[Value.ref b] below meth c H [] 600000 7302250 (lw_Z below #[Value.ref b] s) (F0 m pc ls [.int 1]) := by
  intro T hT X
  obtain ⟨fs, hret, hrun, hended, hW, hframe⟩ := X.leave (v := some (.int 1)) (hlocks := hlocks) (fun h => by rw [hr] at h; cases h)
  have hmeth' : T.vm.method? m = some meth := X.method'
  refine ⟨T.setFrames fs, ?_, .returned (some (.int 1)), hrun, hended, rfl, ⟨_, rfl⟩, hW, hframe⟩
  jvm_step X.here [X.here.top, hx, hb, hdg, hmeth', hr, ret, narrow_b1]
  (try refine ⟨rfl, ?_⟩); (try refine ⟨rfl, ?_⟩)
  first | (intro acts; rw [hret _ acts rfl rfl rfl]) | rw [hret _ _ rfl rfl rfl]
  exact Steps.refl _
/-- what holds at the law's entry: the machine, the code, the tables' words (any of lw_tbl by 'hts w (by decide +kernel)'), the script of L ints xs at the cell b, what the Statement gives of the start (any of its parts by flat_of_before) -/
def lw_At (p : Program) (s : State) (m : MethodId) (meth : Method) (c : Code) (b L : Nat) (xs : Nat → Int32) : Prop :=
  p.tables.exec = Jvm.exec ∧ c.code = code ∧ meth.sig.returnType = ret ∧ c.maxLocals = 4 ∧ s.vm.findClass R_law = some m.cls ∧ (∀ w ∈ lw_tbl, w.before #[Value.ref b] s = true) ∧ va_X b L xs s s.heap ∧ b < s.heap.size ∧ meth.locks = false ∧ (Jvm.Cond.and given_1 narrow_1).before #[Value.ref b] s = true
/-- the law's end in any room -/
theorem lw_retG {p : Program} {l : Launch} {e : Env} {R : Room} {s : State} {m : MethodId} {args : Array Value} {below : List Frame} {meth : Method} {c : Code} (hx : p.tables.exec = Jvm.exec) (hb : c.code = code) (hr : meth.sig.returnType = ret) (hlocks : meth.locks = false) {pc : Nat} {H : Heap} {ls : Array Slot} (hdg : decode code pc = .ok (.ireturn, 1)) : W p l e R s m args below meth c H [] 600000 7302250 (lw_Z below args s) (F0 m pc ls [.int 1]) := by
  intro T hT X
  obtain ⟨fs, hret, hrun, hended, hW, hframe⟩ := X.leave (v := some (.int 1)) (hlocks := hlocks) (fun h => by rw [hr] at h; cases h)
  have hmeth' : T.vm.method? m = some meth := X.method'
  refine ⟨T.setFrames fs, ?_, .returned (some (.int 1)), hrun, hended, rfl, ⟨_, rfl⟩, hW, hframe⟩
  jvm_step X.here [X.here.top, hx, hb, hdg, hmeth', hr, ret, narrow_b1]
  (try refine ⟨rfl, ?_⟩); (try refine ⟨rfl, ?_⟩)
  first | (intro acts; rw [hret _ acts rfl rfl rfl]) | rw [hret _ _ rfl rfl rfl]
  exact Steps.refl _
/-- lw_Z, where all objects are new -/
def lw_Y (ad : Nat → Nat) : List Frame → Array Value → State → State → Prop := fun below a s t => (∀ i, i < 153 → s.heap.size ≤ ad i) → lw_Z below a s t
theorem lw_last {X : a_X} {ad : Nat → Nat} {ca : Nat → ClassId} (i : Int32) (M : a_M) (x : Nat) : wL X ad ca 99 153 29373 (lw_Y ad) 1129 i M x := by
  refine wa_iconst (v := 1) dL_law_1129 rfl ?_
  intro R p l e s m args below meth c H locs ls hR F w S hl
  by_cases hc : ∀ i, i < 153 → s.heap.size ≤ ad i
  · have K : W p l e R s m args below meth c H locs 153 29373 (lw_Z below args s) (F0 m 1130 ls [.int 1]) := by
      refine va_forget (fun q hq => ?_) (W.widen (k := 600000) (n := 7302250) (by omega) (by omega) (lw_retG F.1 F.2.1 F.2.2.1 F.2.2.2.2.2.2.2.2.2 dL_law_1130))
      rcases S.2.2 q hq with ⟨j, hj, h9⟩ | h9
      · rw [LY_len] at hj
        rw [h9]
        exact hc j hj
      · exact h9
    intro T hT X0
    obtain ⟨t, a, b⟩ := K T hT X0
    exact ⟨t, a, fun _ => b⟩
  · intro T hT X0
    exact ⟨_, Steps.refl _, fun h => absurd h hc⟩
theorem lw_kn {s : State} {args : Array Value} {ci N : Nat} {C : String} {T : u_T} (htb : ∀ w ∈ a_tb, w.before args s = true) (hck : a_CK ci C T N) (hi : Cond.instantiable C N ∈ a_tb) : ∃ q : ClassId × (Nat → Nat), ∀ r : vw_C, a_cls[ci]? = some r → u_Kn s r.1 r.2.1 r.2.2 q.1 q.2 := by
  obtain ⟨cC, iS, h⟩ := u_known htb hck.2.2.1 (htb _ hi)
  refine ⟨(cC, iS), fun r hr => ?_⟩
  rw [hck.1] at hr
  cases hr
  exact h
theorem lw_D {s : State} {args : Array Value} (htb : ∀ w ∈ a_tb, w.before args s = true) : ∃ D : va_G, va_K D a_cls [] s := by
  have h : ∀ i : Nat, ∃ q : ClassId × (Nat → Nat), ∀ r : vw_C, a_cls[i]? = some r → u_Kn s r.1 r.2.1 r.2.2 q.1 q.2 := by
    intro i
    match i with
    | 0 => exact lw_kn htb ckX0 isRX0
    | 1 => exact lw_kn htb ckX1 isRX1
    | 2 => exact lw_kn htb ckX2 isRX2
    | 3 => exact lw_kn htb ckX3 isRX3
    | 4 => exact lw_kn htb ckX4 isRX4
    | 5 => exact lw_kn htb ckX5 isRX5
    | 6 => exact lw_kn htb ckX6 isRX6
    | 7 => exact lw_kn htb ckX7 isRX7
    | 8 => exact lw_kn htb ckX8 isRX8
    | 9 => exact lw_kn htb ckX9 isRX9
    | 10 => exact lw_kn htb ckX10 isRX10
    | 11 => exact lw_kn htb ckX11 is11
    | 12 => exact lw_kn htb ckX12 is12
    | n + 13 =>
      obtain ⟨q, -⟩ := lw_kn htb ckX0 isRX0
      exact ⟨q, fun r hr => by cases hr⟩
  exact ⟨(fun i => (Classical.choose (h i)).1, fun i => (Classical.choose (h i)).2), fun c q hq => Classical.choose_spec (h c) q hq, fun k q hk => by cases hk⟩
def lw_tm (i : Nat) : Term := Term.string "SolvedChains$Tape" ((a_sk.getD i (0, "")).1)
theorem lw_five {Q : Nat → Prop} (h0 : Q 0) (h1 : Q 1) (h2 : Q 2) (h3 : Q 3) (h4 : Q 4) : ∀ i, i < 5 → Q i := fun i hi => by
  rcases (show i = 0 ∨ i = 1 ∨ i = 2 ∨ i = 3 ∨ i = 4 by omega) with rfl | rfl | rfl | rfl | rfl
  · exact h0
  · exact h1
  · exact h2
  · exact h3
  · exact h4
theorem lw_len : ∀ i, i < 5 → a_sl.getD i 0 < 2 ^ 31 := by decide
theorem lw_str {args : Array Value} {s : State} (hg : ∀ w ∈ flatC (Jvm.Cond.and given_1 narrow_1), w.before args s = true) : ∃ adK adV : Nat → Nat, vk_S 5 a_sl a_sb adK adV (fun q => s.heap.size ≤ q) s s.heap ∧ ∀ i, i < 5 → (lw_tm i).eval args s none [] s = some (.ref (adK i)) := by
  have hel : ∀ i, i < 5 → ∀ j, j < a_sl.getD i 0 → Cond.eq (.elem (.field (lw_tm i) "java/lang/String" "value" "[B") (.int (Int32.ofNat j))) (.int ((a_sb.getD i []).getD j 0)) ∈ flatC (Jvm.Cond.and given_1 narrow_1) := by decide +kernel
  have hne : ∀ i, i < 5 → ∀ j, j < 5 → i ≠ j → (Cond.not (Cond.eq (lw_tm i) (lw_tm j)) ∈ flatC (Jvm.Cond.and given_1 narrow_1)) ∨ (Cond.not (Cond.eq (lw_tm j) (lw_tm i)) ∈ flatC (Jvm.Cond.and given_1 narrow_1)) := by decide +kernel
  have hex : ∀ i, i < 5 → Cond.exactly (lw_tm i) "java/lang/String" ∈ flatC (Jvm.Cond.and given_1 narrow_1) := by decide +kernel
  have hco : ∀ i, i < 5 → Cond.eq (.field (lw_tm i) "java/lang/String" "coder" "B") (.int 0) ∈ flatC (Jvm.Cond.and given_1 narrow_1) := by decide +kernel
  have har : ∀ i, i < 5 → Cond.arrayOf (.field (lw_tm i) "java/lang/String" "value" "[B") .byte ∈ flatC (Jvm.Cond.and given_1 narrow_1) := by decide +kernel
  have hle : ∀ i, i < 5 → Cond.eq (.length (.field (lw_tm i) "java/lang/String" "value" "[B")) (.int (Int32.ofNat (a_sl.getD i 0))) ∈ flatC (Jvm.Cond.and given_1 narrow_1) := by decide +kernel
  exact vk_Sof (tm := lw_tm) lw_len (fun i hi => hg _ (hex i hi)) (fun i hi => hg _ (hco i hi)) (fun i hi => hg _ (har i hi)) (fun i hi => hg _ (hle i hi)) (fun i hi j hj => hg _ (hel i hi j hj)) (fun i j hi hj hij => (hne i hi j hj hij).imp (fun h => hg _ h) (fun h => hg _ h)) (fun a ha => by omega)
theorem lw_sref : ∀ k, k < 5 → Cond.stringRef "SolvedChains$Tape" (a_sk.getD k (0, "")).1 (a_sk.getD k (0, "")).2 ∈ lw_tbl := by decide +kernel
def lw_ad (b : Nat) (adK adV : Nat → Nat) : Nat → Nat := fun i => if i = 1000000 then b else if i < 2000100 then adK (i - 2000000) else adV (i - 2000100)
def lw_K (adK adV : Nat → Nat) : Nat → Nat := fun k => if k < 100 then adK k else adV (k - 100)
/-- the world at the law's start -/
theorem lw_world {s : State} {b L : Nat} {xs : Nat → Int32} (hts : ∀ w ∈ lw_tbl, w.before #[Value.ref b] s = true) (hX : va_X b L xs s s.heap) (hbl : b < s.heap.size) (hgv : (Jvm.Cond.and given_1 narrow_1).before #[Value.ref b] s = true) (ca : Nat → ClassId) : ∃ (X : a_X) (ad : Nat → Nat), X.2.1 = (b, L, xs) ∧ a_kd X ca (LY.take 0) s ∧ a_cx X (a_A ad (LY.take 0) s.heap.size) s s.heap ∧ a_sp X ad := by
  have hg := flat_of_before _ hgv
  have htb : ∀ w ∈ a_tb, w.before #[Value.ref b] s = true := fun w hw => hts w (List.mem_filter.mp hw).1
  obtain ⟨D, hD⟩ := lw_D htb
  obtain ⟨adK, adV, hS, hev⟩ := lw_str hg
  have hA : ∀ q, a_A (lw_ad b adK adV) (LY.take 0) s.heap.size q → s.heap.size ≤ q := fun q hq => by
    rcases hq with ⟨i, hi, -⟩ | hq
    · exact absurd hi (Nat.not_lt_zero _)
    · exact hq
  have hS' : vk_S 5 a_sl a_sb (lw_K adK adV) adV (fun q => s.heap.size ≤ q) s s.heap := by
    have e : ∀ i, i < 5 → lw_K adK adV i = adK i := fun i hi => if_pos (by omega)
    refine ⟨fun i hi => by rw [e i hi]; exact hS.1 i hi, fun i j hi hj h => ?_⟩
    rw [e i hi, e j hj] at h
    exact hS.2 i j hi hj h
  refine ⟨(D, (b, L, xs), lw_K adK adV, adV), lw_ad b adK adV, rfl, ⟨hD, fun i q hi => by cases hi⟩, ⟨hX, hbl, fun h => ?_, hS'.narrow hA, fun k q hq => ?_, fun w hw hn => ?_, (va_Zof (hts _ (by decide +kernel)) (hts _ (by decide +kernel)) (va_eqi (hg _ (by decide +kernel))) (fun a ha => by omega)).narrow hA, (va_Zqof (hts _ (by decide +kernel)) (hts _ (by decide +kernel)) (hg _ (by decide +kernel)) (fun a ha => by omega)).narrow hA⟩, ?_, ?_, ?_⟩
  · exact absurd hbl (Nat.not_lt.mpr (hA _ h))
  · have hk : k < 5 := (List.getElem?_eq_some_iff.mp hq).1
    have h1 := hts _ (lw_sref k hk)
    have h2 := hev k hk
    have hd : a_sk.getD k (0, "") = q := by rw [List.getD_eq_getElem?_getD, hq]; rfl
    unfold lw_tm at h2
    rw [hd] at h1 h2
    have e : lw_K adK adV k = adK k := if_pos (by omega)
    show vk_R _ _ _ (lw_K adK adV k) s
    rw [e]
    exact vk_R.of h1 h2
  · cases w <;> first | (exact va_Nw.of rfl (hts _ hw)) | (cases hn)
  · exact if_pos rfl
  · intro k
    show lw_ad b adK adV (2000000 + k) = lw_K adK adV k
    unfold lw_ad lw_K
    rw [if_neg (by omega)]
    by_cases c : k < 100
    · rw [if_pos (by omega), if_pos c, Nat.add_sub_cancel_left]
    · rw [if_neg (by omega), if_neg c, show 2000000 + k - 2000100 = k - 100 by omega]
  · intro k
    show lw_ad b adK adV (2000100 + k) = adV k
    unfold lw_ad
    rw [if_neg (by omega), if_neg (by omega), Nat.add_sub_cancel_left]
theorem whole_start {p : Program} {e : Env} {s : State} {m : MethodId} {below : List Frame} {meth : Method} {c : Code} (l : Launch) {b L : Nat} {xs : Nat → Int32} (hL : L ≤ 3073) (C0 : lw_At p s m meth c b L xs) : W p l e room_1 s m #[Value.ref b] below meth c s.heap [] 0 0 (lw_Z below #[Value.ref b] s) (entryFrame m ([Value.ref b] : List Value).toArray 4) := by
  obtain ⟨hx, hb, hr, hml, hown, hts, hX, hbl, hlk, hgv⟩ := C0
  have htb : ∀ w ∈ a_tb, w.before #[Value.ref b] s = true := fun w hw => hts w (List.mem_filter.mp hw).1
  obtain ⟨X, ad0, hX1, hkd, hcx, hsp⟩ := lw_world hts hX hbl hgv (fun _ => m.cls)
  have hb0 : ad0 1000000 = b := by rw [hsp.1, hX1]
  have hov : b_ov s := ⟨va_AO.of (hts (Cond.arrayOver (.object "SolvedChains$Script")) (by decide +kernel)), hts (Cond.arrayOver (.array .int)) (by decide +kernel)⟩
  have hl := lv_entry ([Value.ref b] : List Value) (n := 4) (Nat.le_of_ble_eq_true rfl)
  rw [lg_entry_eq]
  have F : a_fx X ad0 (fun _ => m.cls) (LY.take 0) RL cL_law 4 (some .boolean) p s m #[Value.ref b] meth c := ⟨hx, hb, hr, hml, hown, htb, hkd, hcx, hsp, hlk⟩
  refine wn_law (X := X) (ad0 := ad0) (ca0 := fun _ => m.cls) (QF := fun below a s => lw_Z below a s) (fun N hN2 hN7 => ?_) ad0 (fun _ => m.cls) room_1 p l e s m #[Value.ref b] below meth c s.heap [] _ ⟨by decide, by decide, by decide, by decide⟩ (fun h => h.elim) F hov ⟨Nat.le_refl _, by omega, fun _ _ => rfl, fun i h1 h2 => by omega⟩ (fun i hi => by omega) hkd ⟨fun _ _ _ => rfl, fun _ _ _ => rfl, fun _ _ => Nat.le_refl _⟩ ⟨fun k q hk => (by cases hk), fun i j p q hp => (by cases hp), fun k q hk => (by cases hk)⟩ va_S.rf ?_
  · intro ad ca R p l e s m args below meth c H locs ls hR hI F hov hb hca hk9 hz w S hl
    have hbig : ∀ i, i < 153 → s.heap.size ≤ ad i := fun i hi => hb.2.2.2 i (Nat.zero_le _) hi
    have hLX : X.2.1.2.1 ≤ 3073 := by rw [hX1]; exact hL
    have K := lw_loop (X := X) (ad := ad) (ca := ca) (d := 99) (kc := 153) (ks := 29373) (QF := lw_Y ad) (by omega) hLX (fun i M x => lw_last i M x) 3073 1 (zM0 N) 6 (by omega) (by omega) (zM0_LI N hN2 hN7)
    rw [tk_all] at w hk9
    have hAs : ∀ q, a_A ad LY s.heap.size q → a_A ad0 (LY.take 0) s.heap.size q := fun q hq => by
      rcases hq with ⟨i, hi, rfl⟩ | hq
      · rw [LY_len] at hi
        exact Or.inr (hbig i hi)
      · exact Or.inr hq
    have hAs2 : ∀ q, a_A ad0 (LY.take 0) s.heap.size q → a_A ad LY s.heap.size q := fun q hq => by
      rcases hq with ⟨i, hi, -⟩ | hq
      · exact absurd hi (Nat.not_lt_zero _)
      · exact Or.inr hq
    have hcx2 : a_cx X (a_A ad LY s.heap.size) s s.heap := by
      obtain ⟨h1, h2, h3, h4, h5, h6, h7, h8⟩ := F.2.2.2.2.2.2.2.1
      exact ⟨h1, h2, fun z => h3 (hAs _ z), h4.narrow hAs, h5, h6, h7.narrow hAs, h8.narrow hAs⟩
    have F2 : a_fx X ad ca LY RL cL_law 4 (some .boolean) p s m args meth c := ⟨F.1, F.2.1, F.2.2.1, F.2.2.2.1, F.2.2.2.2.1, F.2.2.2.2.2.1, hk9, hcx2, hb.sp F.2.2.2.2.2.2.2.2.1, F.2.2.2.2.2.2.2.2.2⟩
    intro T hT X0
    obtain ⟨t, a, b9⟩ := K R p l e s m args below meth c H locs ls ⟨hR.1, hR.2.1, by have := hR.2.2.1; omega, by have := hR.2.2.2; omega⟩ F2 w ⟨S.1, fun q h1 h2 => S.2.1 q h1 (fun z => h2 (hAs2 q z)), fun q hq => hAs2 _ (S.2.2 q hq)⟩ hl T hT X0
    exact ⟨t, a, b9 hbig⟩
  · have e : a_mp ad0 [(0, .ref 1000000)] = [(0, .ref b)] := by
      show [(0, Value.ref (ad0 1000000))] = _
      rw [hb0]
    rw [e]
    exact hl
set_option maxHeartbeats 4000000 in
theorem lw_walk (l : Launch) (b : Addr) (xs : List Int32) : MetFree l x (headSpec (Jvm.Cond.code x code maxLocals ret :: tables_1) room_1) (lw_P b xs) (fun _ _ _ _ _ => True) lw_Q := by
  refine MetFree.of_bodyS (code := code) (maxLocals := maxLocals) (ret := ret) (by decide) ?_ ?_
  · intro args s m h hn
    obtain ⟨meth, c, h1, h2, h3, h4, h5, h6, -, -⟩ := Cond.code_spec hn (atoms_spec (ws := Jvm.Cond.code x code maxLocals ret :: tables_1) h _ List.mem_cons_self)
    exact ⟨meth, c, h1, h2, h3, h4, h5, h6⟩
  · intro p e s m args below meth c s₁ B hml0 hP _
    obtain ⟨rfl, hx, hbd, hgv⟩ := hP
    obtain ⟨scr, harrAt, hlist, hof, hsmall⟩ := hx
    obtain ⟨hcb, hkn, -, -⟩ := State.arrayAt?_spec harrAt
    have hown : s.vm.findClass R_law = some m.cls := findClass_of_methodNamed B.named
    have hts0 : ∀ c ∈ (Jvm.Cond.code x code maxLocals ret :: tables_1), c.before #[Value.ref b] s = true := atoms_spec (ws := Jvm.Cond.code x code maxLocals ret :: tables_1) B.pre
    have hts : ∀ w ∈ lw_tbl, w.before #[Value.ref b] s = true := k2_hts_sels lw_privs (fun w hw => hts0 w (List.mem_cons_of_mem _ hw)) lw_privs_ok
    have hml : c.maxLocals = 4 := B.maxLocals_eq (hts0 _ List.mem_cons_self)
    have X₀ : Stand p l e room_1 s m #[Value.ref b] below meth c s₁ [] 0 0 := Stand.of_body B
    have hh0 : s₁.heap = s.heap := by rw [B.state]; rfl
    have hsz : scr.slots.size = xs.length := by rw [← Array.length_toList, hlist, List.length_map]
    have hval : ∀ j : Nat, j < xs.length → scr.slots[j]? = some (.int (xs.getD j 0)) := fun j hj => by
      rw [← Array.getElem?_toList, hlist]
      simp [hj]
    have hbl : b < s.heap.size := (Array.getElem?_eq_some_iff.mp hcb).1
    have hX : va_X b xs.length (fun j => xs.getD j 0) s s.heap := ⟨scr, hcb, hof, hkn, hsz, hval⟩
    have K : W p l e room_1 s m #[Value.ref b] below meth c s₁.heap [] 0 0 (lw_Z below #[Value.ref b] s) (entryFrame m ([Value.ref b] : List Value).toArray 4) := by
      rw [hh0]
      exact whole_start l hbd ⟨B.exec, B.bytes, B.returns, hml, hown, hts, hX, hbl, B.notSynchronized, hgv⟩
    obtain ⟨t, a1, o, b1, b2, b3⟩ := K s₁ rfl X₀
    exact ⟨t, o, a1, b1, b2, b3⟩
theorem lw_pre_spec {args : Array Value} {s : State} (h : (Jvm.Cond.and given_1 narrow_1).before args s = true) (hr : rest_1_c.before args s = true) : ∃ (b : Addr) (xs : List Int32), lw_P b xs args s := by
  have hs := flat_of_before _ h
  have hq := flat_of_before _ hr
  have hc : (Cond.count 1).before args s = true := hs _ (by decide +kernel)
  have harr : (Cond.arrayOf (.arg 0) .int).before args s = true := hs _ (by decide +kernel)
  have hle : (Cond.le (.length (.arg 0)) (.int 3073)).before args s = true := hs _ (by decide +kernel)
  have hlen : (Cond.isInt (.length (.arg 0))).before args s = true := hq _ (by decide +kernel)
  have hall : (Cond.all (.arg 0) (.isInt (.elem (.arg 0) (.index 0)))).before args s = true := hq _ (by decide +kernel)
  obtain ⟨b, xs, hb, hx⟩ := State.ints_of_pre rfl harr hlen hall
  have hsm : xs.length < 2 ^ 31 := hx.choose_spec.2.2.2
  have hev : (Term.length (.arg 0)).eval args s none [] s = some (.int xs.length.toInt32) := hx.length_eval hb
  have hv := Cond.le_ints hev (show (Term.int 3073).eval args s none [] s = some (.int 3073) from rfl)
  have hd : xs.length.toInt32 ≤ 3073 := by
    simpa [Cond.before, Cond.holds, hv] using hle
  have hN : xs.length ≤ 3073 := (Int32.ofNat_le_ofNat hsm (by decide)).mp (show Int32.ofNat xs.length ≤ Int32.ofNat 3073 from hd)
  exact ⟨b, xs, Cond.one_arg hc (show args[0]? = some (.ref b) from hb), hx, hN, h⟩
theorem lw_comes (l : Launch) : Comes l x (Jvm.Cond.code x code maxLocals ret :: tables_1) room_1 (fun tb e args s => Calls_1 tb e args s ∧ rest_1 tb e args s ∧ Pre_1 tb e args s)
    (fun _ _ args s o t => lw_Q args s o t) := by
  intro p e ha hc hk s m args below hf hfit hheap happ hpre
  obtain ⟨b, xs, hP⟩ := lw_pre_spec hpre.2.2 hpre.2.1
  obtain ⟨k, o, h1, h2, h3, hQ⟩ := lw_walk l b xs p e ha hc hk s m args below hf ((Spec.applies_iff_loose hf).mp happ).1 hP trivial
  exact ⟨k, o, h1, h2, h3, hQ⟩
theorem lw_frame {s t : State} {o : Outcome} {args : Array Value} (h : Framed s o t [] 600000 7302250) :
    Framed s o t (fieldLocs frame_1_writes args s ++ arrayLocs frame_1_arrays args s ++ staticLocs frame_1_statics s) 600000 7302250 := h
theorem lw_limb (L : Cond) (hL : ∀ (args : Array Value) (s t : State), L.after args s (.returned (some (.int 1))) t = true) :
    ArmFor flags0 classFile x code maxLocals ret World_1 tables_1 room_1 Calls_1 rest_1 Pre_1
      (fun tb e a s o t => postC L tb e a s o t ∧ Framed s o t (fieldLocs frame_1_writes a s ++ arrayLocs frame_1_arrays a s ++ staticLocs frame_1_statics s) 600000 7302250) := by
  intro l _ _ _ p e ha hc hk s m args below hf hfit hheap happ hpre
  obtain ⟨k, o, h1, h2, h3, rfl, hF⟩ := lw_comes l p e ha hc hk s m args below hf hfit hheap happ hpre
  exact ⟨k, _, h1, h2, h3, hL args s _, lw_frame hF⟩
theorem i_vc : Claimed_1_1 ∧ Claimed_1_2 := ⟨lw_limb limb_1_1 (fun args s t => by simp [limb_1_1, Cond.after, Cond.holds, Cond.value]), lw_limb limb_1_2 (fun args s t => Cond.after_iff.mpr (by
  first | (rw [show limb_1_2 = Cond.eq .result (.int 1) from rfl, Cond.eq_ints (x := 1) (y := 1) rfl rfl]; simp; done) | (simp [limb_1_2, Cond.value, Term.eval]; done)))⟩
