/-! CONTRACTS 9: what a call does to the state, told once for both sides; then the class's side -/
def zC (S : Nat → Nat) (n r : Nat) : Nat → Nat := va_up (va_up (va_up (va_up S 0 n) 1 r) 7 0) 8 0
def rChain (S : Nat → Nat) (V : Nat → Nat → Nat) (u : Int32) (r : Nat) (s : Int32) (S' : Nat → Nat) (V' : Nat → Nat → Nat) : Prop :=
  (∃ n, 2 ≤ n ∧ n ≤ 7 ∧ u = nI n ∧ s = 1 ∧ S' = zC S n r ∧ V' = fun _ _ => 0) ∨ ((¬ ∃ n, 2 ≤ n ∧ n ≤ 7 ∧ u = nI n) ∧ s = 0 ∧ S' = S ∧ V' = V)
def zPr (S : Nat → Nat) (p : Nat) : Nat → Nat := va_up (va_up (va_up S 2 p) 3 (if S 3 % p = 0 then 1 else S 3 % p)) 4 (S 4 % p)
def rPrime (S : Nat → Nat) (V : Nat → Nat → Nat) (u : Int32) (s : Int32) (S' : Nat → Nat) (V' : Nat → Nat → Nat) : Prop :=
  (∃ p, p ∈ zpl ∧ u = nI p ∧ s = 1 ∧ S' = zPr S p ∧ V' = fun k a => V k a % p) ∨ ((¬ ∃ p, p ∈ zpl ∧ u = nI p) ∧ s = 0 ∧ S' = S ∧ V' = V)
def rNumbers (S : Nat → Nat) (u w : Int32) (s : Int32) (S' : Nat → Nat) : Prop :=
  (∃ t e, 1 ≤ t ∧ t < S 2 ∧ e < S 2 ∧ u = nI t ∧ w = nI e ∧ s = 1 ∧ S' = va_up (va_up S 3 t) 4 e) ∨ ((¬ ∃ t e, 1 ≤ t ∧ t < S 2 ∧ e < S 2 ∧ u = nI t ∧ w = nI e) ∧ s = 0 ∧ S' = S)
def rBy (S : Nat → Nat) (u : Int32) (s : Int32) (S' : Nat → Nat) : Prop :=
  (∃ k, k ≤ S 5 ∧ u = nI k - 1 ∧ s = 1 ∧ S' = va_up S 6 k) ∨ ((¬ ∃ k, k ≤ S 5 ∧ u = nI k - 1) ∧ s = 0 ∧ S' = S)
def rSet (S : Nat → Nat) (V : Nat → Nat → Nat) (u : Int32) (s : Int32) (S' : Nat → Nat) (V' : Nat → Nat → Nat) : Prop :=
  (∃ a, a < 2 ^ S 0 ∧ u = nI a ∧ s = 1 ∧ S' = va_up (va_up S 7 0) 8 0 ∧ V' = fun _ => zu a) ∨ ((¬ ∃ a, a < 2 ^ S 0 ∧ u = nI a) ∧ s = 0 ∧ S' = S ∧ V' = V)
def rUndo (S : Nat → Nat) (s : Int32) (S' : Nat → Nat) : Prop := (S 7 ≠ 0 ∧ s = nI (S 7 - 1) ∧ S' = va_up S 7 (S 7 - 1)) ∨ (S 7 = 0 ∧ s = -1 ∧ S' = S)
def rRedo (S : Nat → Nat) (s : Int32) (S' : Nat → Nat) : Prop := (S 7 ≠ S 8 ∧ s = nI (S 8 - (S 7 + 1)) ∧ S' = va_up S 7 (S 7 + 1)) ∨ (S 7 = S 8 ∧ s = -1 ∧ S' = S)
def rAt (S : Nat → Nat) (V : Nat → Nat → Nat) (u s : Int32) : Prop := (∃ a, a < 2 ^ S 0 ∧ u = nI a ∧ s = nI (V (S 7) a)) ∨ ((¬ ∃ a, a < 2 ^ S 0 ∧ u = nI a) ∧ s = -1)
def zNo (S : Nat → Nat) (V : Nat → Nat → Nat) : Nat := zs (fun a => V (S 7) a * V (S 7) a) (2 ^ S 0) % S 2
theorem vu {α : Type} (f : Nat → α) (k : Nat) (v : α) : va_up f k v k = v := by simp [va_up]
theorem vn {α : Type} (f : Nat → α) (k j : Nat) (v : α) (h : j ≠ k) : va_up f k v j = f j := by simp [va_up, h]
theorem zp_yes' : ∀ q, q < 98 → 5 ≤ q → ∀ i, i < 11 → q < i * i → ((List.range 11).all (fun k => !(decide (2 ≤ k) && decide (k < i) && (q % k == 0)))) = true → zpl.contains q = true := by decide +kernel
theorem zp_no' : ∀ q, q < 98 → ∀ i, i < 11 → 2 ≤ i → i * i ≤ q → q % i = 0 → zpl.contains q = false := by decide +kernel
theorem zp_yes (q : Nat) (h1 : q < 98) (h2 : 5 ≤ q) (i : Nat) (h3 : i < 11) (h4 : q < i * i) (h : ∀ k, k < 11 → 2 ≤ k → k < i → q % k ≠ 0) : q ∈ zpl := by
  have := zp_yes' q h1 h2 i h3 h4 (List.all_eq_true.mpr fun k hk => by
    have hk' := List.mem_range.mp hk
    by_cases c : 2 ≤ k ∧ k < i
    · have := h k hk' c.1 c.2
      simp [this]
    · rw [Bool.not_eq_true']
      by_cases c1 : 2 ≤ k
      · have : ¬ k < i := fun q => c ⟨c1, q⟩
        simp [this]
      · simp [c1])
  simpa using this
theorem zp_no (q : Nat) (h1 : q < 98) (i : Nat) (h2 : i < 11) (h3 : 2 ≤ i) (h4 : i * i ≤ q) (h5 : q % i = 0) : q ∉ zpl := by
  have := zp_no' q h1 i h2 h3 h4 h5
  simpa using this
section Z10
variable {X : a_X} {ad : Nat → Nat} {ca : Nat → ClassId} {d x : Nat} {M : a_M} {S : Nat → Nat} {V : Nat → Nat → Nat}
theorem kX11_isPrime (hd : 1 ≤ d) (u : Int32) : mX11_isPrime X ad ca d x [.int u] M (q_i (PT x) (fun s M' => M' = M ∧ ((s = 1 ∧ ∃ p, p ∈ zpl ∧ u = nI p) ∨ (s = 0 ∧ ¬ ∃ p, p ∈ zpl ∧ u = nI p)))) := by
  obtain ⟨d, rfl⟩ := a_d1 hd
  refine eX11_isPrime _ (bX11_isPrime_0 _ ⟨fun h => bX11_isPrime_11 ⟨_, rfl, rfl, rfl, Or.inr ⟨rfl, ?_⟩⟩, fun h => ⟨fun h2 => ?_, fun h2 => bX11_isPrime_11 ⟨_, rfl, rfl, rfl, Or.inr ⟨rfl, ?_⟩⟩⟩⟩)
  · rintro ⟨p, hp, rfl⟩
    have := zpl_b p hp
    exact nI_nlt (a := p) (b := 5) (by omega) (by omega) h
  · have hu : ∃ q, q ≤ 97 ∧ u = nI q := nI_of2 (M := 97) (n := 97) rfl (fun q => h (fa_trans q (show (0 : Int32) ≤ 5 by decide))) h2
    obtain ⟨q, hq, rfl⟩ := hu
    have hq5 : 5 ≤ q := Classical.byContradiction fun c => h (nI_lt (b := 5) (by omega) (by omega))
    have key : ∀ n i, i + n = 10 → 2 ≤ i → (∀ k, 2 ≤ k → k < i → q % k ≠ 0) → wX11_isPrime X ad ca d x (q_i (PT x) (fun s M' => M' = M ∧ ((s = 1 ∧ ∃ p, p ∈ zpl ∧ nI q = nI p) ∨ (s = 0 ∧ ¬ ∃ p, p ∈ zpl ∧ nI q = nI p)))) 15 [(0, .int (nI q)), (1, .int (nI i))] M := by
      intro n
      induction n with
      | zero =>
        intro i hi _ hk
        have : i = 10 := by omega
        subst this
        refine bX11_isPrime_15 _ _ ?_
        rw [n_mul]
        refine ⟨fun _ => ⟨_, rfl, rfl, rfl, Or.inl ⟨rfl, q, zp_yes q (by omega) hq5 10 (by omega) (by omega) (fun k _ h1 h2 => hk k h1 h2), rfl⟩⟩, fun h => absurd (nI_lt (show q < 10 * 10 by omega) (by omega)) h⟩
      | succ n ih =>
        intro i hi h2i hk
        have hii : i * i ≤ 100 := Nat.mul_le_mul (show i ≤ 10 by omega) (show i ≤ 10 by omega)
        refine bX11_isPrime_15 _ _ ?_
        rw [n_mul, n_rem (by omega) (by omega) (by omega)]
        refine ⟨fun h => ⟨_, rfl, rfl, rfl, Or.inl ⟨rfl, q, zp_yes q (by omega) hq5 i (by omega) ((nI_ltI (by omega) (by omega)).mp h) (fun k _ h1 h2 => hk k h1 h2), rfl⟩⟩, fun h => ⟨nI_ne0 (by omega) (by omega), fun h3 => ?_, fun h3 => ⟨_, rfl, rfl, rfl, Or.inr ⟨rfl, ?_⟩⟩⟩⟩
        · rw [← nI_succ]
          refine ih (i + 1) (by omega) (by omega) (fun k h1 h2 => ?_)
          by_cases e : k = i
          · subst e
            exact fun z => h3 (by rw [z]; rfl)
          · exact hk k h1 (by omega)
        · rintro ⟨p, hp, hqp⟩
          have hpb := zpl_b p hp
          have : q = p := (nI_eq (by omega) (by omega)).mp hqp
          subst this
          have hm : q % i < i := Nat.mod_lt _ (by omega)
          rw [← nI_0] at h3
          exact zp_no q (by omega) i (by omega) h2i (Classical.byContradiction fun c => h (nI_lt (by omega) (by omega))) ((nI_eq (by omega) (by omega)).mp h3) hp
    exact key 8 2 (by omega) (by omega) (fun k h1 h2 => by omega)
  · rintro ⟨p, hp, rfl⟩
    have := zpl_b p hp
    exact h2 (nI_le (b := 97) (by omega) (by omega))
theorem kX11_chain (hd : 3 ≤ d) {u : Int32} {r : Nat} (hr : r ≤ 1) (hS : cSt M 44 S V) (hw : wSt S V) : mX11_chain X ad ca d x [.ref 0, .int u, .int (nI r)] M (q_i (PT x) (fun s M' => ∃ S' V', rChain S V u r s S' V' ∧ cSt M' 44 S' V' ∧ ∀ i, (i < 44 ∨ 68 < i) → M' i = M i)) := by
  obtain ⟨d, rfl⟩ := a_d1 (show 1 ≤ d by omega)
  refine eX11_chain _ _ (bX11_chain_0 _ _ ⟨fun h => bX11_chain_11 ⟨_, rfl, rfl, S, V, Or.inr ⟨?_, rfl, rfl, rfl⟩, hS, fun _ _ => rfl⟩, fun h => ⟨fun h2 => ⟨?_, _, kX2_restart (by omega) (σ := 44) (Or.inl rfl), ?_⟩, fun h2 => bX11_chain_11 ⟨_, rfl, rfl, S, V, Or.inr ⟨?_, rfl, rfl, rfl⟩, hS, fun _ _ => rfl⟩⟩⟩)
  · rintro ⟨n, hn, hn2, rfl⟩
    exact nI_nlt (a := n) (b := 2) hn (by omega) h
  · rcases (show r = 0 ∨ r = 1 by omega) with rfl | rfl
    · exact Or.inl rfl
    · exact Or.inr rfl
  · rintro M1 ⟨q1, q2, q3, q4, q5⟩
    obtain ⟨h1, h2', h3, h4, h5, f, h6, h7, h8⟩ := hS
    obtain ⟨n, hn, rfl⟩ := nI_of2 (M := 7) (n := 7) rfl (fun q => h (fa_trans q (show (0 : Int32) ≤ 2 by decide))) h2
    have hn2 : 2 ≤ n := Classical.byContradiction fun c => h (nI_lt (b := 2) (by omega) (by omega))
    refine ⟨_, rfl, rfl, zC S n r, (fun _ _ => 0), Or.inl ⟨n, hn2, hn, rfl, rfl, rfl, rfl⟩, ⟨?_, ?_, ?_, ?_, ?_, 0, by omega, q1, fun k hk s hs => ?_⟩, fun i hi => ?_⟩
    · have e : M1 45 = (ms (ms M 45 0 (nI n)) 45 1 (nI r)) 45 := q5 45 (by decide) (by decide)
      refine ⟨?_, ?_, ?_, ?_, ?_⟩
      · show M1 45 0 = _
        rw [e, ms_no _ _ _ _ _ _ (by simp), ms_is]; rfl
      · show M1 45 1 = _
        rw [e, ms_is]; rfl
      · show M1 45 2 = _
        rw [e, ms_no _ _ _ _ _ _ (by simp), ms_no _ _ _ _ _ _ (by simp)]; exact h1.2.2.1
      · show M1 45 3 = _
        rw [e, ms_no _ _ _ _ _ _ (by simp), ms_no _ _ _ _ _ _ (by simp)]; exact h1.2.2.2.1
      · show M1 45 4 = _
        rw [e, ms_no _ _ _ _ _ _ (by simp), ms_no _ _ _ _ _ _ (by simp)]; exact h1.2.2.2.2
    · rw [q5 44 (by decide) (by decide), ms_row _ _ _ _ _ (by decide), ms_row _ _ _ _ _ (by decide)]; exact h2'
    · rw [q5 44 (by decide) (by decide), ms_row _ _ _ _ _ (by decide), ms_row _ _ _ _ _ (by decide)]; exact h3
    · exact q2
    · exact q3
    · have hk0 : k = 0 := by
        have : zC S n r 8 = 0 := by unfold zC; rw [vu]
        omega
      subst hk0
      have hsn : s < 2 ^ n := by
        have : zC S n r 0 = n := by unfold zC; rw [vn _ _ _ _ (by decide), vn _ _ _ _ (by decide), vn _ _ _ _ (by decide), vu]
        rw [this] at hs; exact hs
      have := z_p2 (n := n) (by omega)
      exact q4 s (by omega)
    · rw [q5 i (by omega) (by omega), ms_row _ _ _ _ _ (by omega), ms_row _ _ _ _ _ (by omega)]
  · rintro ⟨n, hn, hn2, rfl⟩
    exact h2 (nI_le (b := 7) hn2 (by omega))
theorem kX11_numbers (hd : 2 ≤ d) {u w : Int32} (hS : cSt M 44 S V) (hw : wSt S V) : mX11_numbers X ad ca d x [.ref 0, .int u, .int w] M (q_i (PT x) (fun s M' => ∃ S', rNumbers S u w s S' ∧ cSt M' 44 S' V ∧ ∀ i, (i < 44 ∨ 68 < i) → M' i = M i)) := by
  obtain ⟨d, rfl⟩ := a_d1 (show 1 ≤ d by omega)
  have hS' := hS
  obtain ⟨h1, h2, h3, h4, h5, f, h6, h7, h8⟩ := hS'
  have hpb := zpl_b _ hw.1.2.2.2.1
  have hno : ∀ M' : a_M, M' = M → (¬ ∃ t e, 1 ≤ t ∧ t < S 2 ∧ e < S 2 ∧ u = nI t ∧ w = nI e) → wX11_numbers X ad ca d x (q_i (PT x) (fun s M' => ∃ S', rNumbers S u w s S' ∧ cSt M' 44 S' V ∧ ∀ i, (i < 44 ∨ 68 < i) → M' i = M i)) 28 [] M' := by
    rintro M' rfl hn
    exact bX11_numbers_28 ⟨_, rfl, rfl, S, Or.inr ⟨hn, rfl, rfl⟩, hS, fun _ _ => rfl⟩
  refine eX11_numbers _ _ (bX11_numbers_0 _ _ ⟨fun h => hno _ rfl ?_, fun h => ⟨_, kX6_isNumber (by omega) rfl _ h1.2.2.1 (by omega), ?_⟩⟩)
  · rintro ⟨t, e, ht, ht2, he, rfl, rfl⟩
    exact nI_ne0 ht (by omega) h
  rintro v1 M1 ⟨rfl, rfl⟩
  refine ⟨fun h9 => hno _ rfl ?_, fun h9 => ⟨_, kX6_isNumber (by omega) rfl _ h1.2.2.1 (by omega), ?_⟩⟩
  · rintro ⟨t, e, ht, ht2, he, rfl, rfl⟩
    rw [if_pos ⟨t, ht2, rfl⟩] at h9
    exact absurd h9 (by decide)
  rintro v1 M1 ⟨rfl, rfl⟩
  refine ⟨fun h10 => ?_, fun h10 => hno _ rfl ?_⟩
  · obtain ⟨t, ht, rfl⟩ : ∃ k, k < S 2 ∧ u = nI k := Classical.byContradiction fun q => h9 (if_neg q)
    obtain ⟨e, he, rfl⟩ : ∃ k, k < S 2 ∧ w = nI k := Classical.byContradiction fun q => h10 (if_neg q)
    have ht1 : 1 ≤ t := Nat.pos_of_ne_zero fun q => h (by rw [q]; rfl)
    refine ⟨_, rfl, rfl, _, Or.inl ⟨t, e, ht1, ht, he, rfl, rfl, rfl, rfl⟩, ⟨⟨?_, ?_, ?_, ?_, ?_⟩, ?_, ?_, ?_, ?_, f, h6, ?_, fun k hk s hs => ?_⟩, fun i hi => ?_⟩
    · rw [ms_no _ _ _ _ _ _ (by simp), ms_no _ _ _ _ _ _ (by simp)]; exact h1.1
    · rw [ms_no _ _ _ _ _ _ (by simp), ms_no _ _ _ _ _ _ (by simp)]; exact h1.2.1
    · rw [ms_no _ _ _ _ _ _ (by simp), ms_no _ _ _ _ _ _ (by simp)]; exact h1.2.2.1
    · rw [ms_no _ _ _ _ _ _ (by simp), ms_is]; rfl
    · rw [ms_is]; rfl
    · rw [ms_row _ _ _ _ _ (by decide), ms_row _ _ _ _ _ (by decide)]; exact h2
    · rw [ms_row _ _ _ _ _ (by decide), ms_row _ _ _ _ _ (by decide)]; exact h3
    · rw [ms_row _ _ _ _ _ (by decide), ms_row _ _ _ _ _ (by decide)]; exact h4
    · rw [ms_row _ _ _ _ _ (by decide), ms_row _ _ _ _ _ (by decide)]; exact h5
    · rw [ms_row _ _ _ _ _ (by decide), ms_row _ _ _ _ _ (by decide)]; exact h7
    · rw [ms_row _ _ _ _ _ (by omega), ms_row _ _ _ _ _ (by omega)]; exact h8 k hk s hs
    · rw [ms_row _ _ _ _ _ (by omega), ms_row _ _ _ _ _ (by omega)]
  · rintro ⟨t, e, ht, ht2, he, rfl, rfl⟩
    rw [if_pos ⟨e, he, rfl⟩] at h10
    exact absurd h10 (by decide)
theorem kX11_isText (hd : 1 ≤ d) {u : Int32} {k : Nat} (hk : M 44 2 = nI k) (hk4 : k ≤ 4) : mX11_isText X ad ca d x [.ref 0, .int u] M (q_i (PT x) (fun s M' => M' = M ∧ s = if ∃ t, t < k ∧ u = nI t then 1 else 0)) := by
  obtain ⟨d, rfl⟩ := a_d1 hd
  have hno : (¬ ∃ t, t < k ∧ u = nI t) → wX11_isText X ad ca d x (q_i (PT x) (fun s M' => M' = M ∧ s = if ∃ t, t < k ∧ u = nI t then 1 else 0)) 28 [] M := fun h => bX11_isText_28 ⟨_, rfl, rfl, rfl, by rw [if_neg h]⟩
  refine eX11_isText _ (bX11_isText_0 _ ⟨fun h => hno ?_, fun h => ?_⟩)
  · rintro ⟨t, ht, rfl⟩
    exact nI_pos (by omega) h
  rw [hk]
  refine ⟨fun h2 => hno ?_, fun h2 => ⟨fun h3 => hno ?_, fun h3 => ⟨_, rfl, rfl, rfl, ?_⟩⟩⟩
  · rintro ⟨t, ht, rfl⟩
    exact nI_ge ht (by omega) h2
  · rintro ⟨t, ht, rfl⟩
    exact nI_ge (b := 4) (show t < 4 by omega) (by omega) h3
  · rw [if_pos]
    rcases pk_ix u (n := k) (by omega) with q | q | q
    · exact absurd q h
    · exact absurd q h2
    · exact q
theorem kX11_by (hd : 2 ≤ d) {u : Int32} (hS : cSt M 44 S V) (hw : wSt S V) : mX11_by X ad ca d x [.ref 0, .int u] M (q_i (PT x) (fun s M' => ∃ S', rBy S u s S' ∧ cSt M' 44 S' V ∧ ∀ i, (i < 44 ∨ 68 < i) → M' i = M i)) := by
  obtain ⟨d, rfl⟩ := a_d1 (show 1 ≤ d by omega)
  have hS' := hS
  obtain ⟨h1, h2, h3, h4, h5, f, h6, h7, h8⟩ := hS'
  have hyes : ∀ k, k ≤ S 5 → u = nI k - 1 → wX11_by X ad ca d x (q_i (PT x) (fun s M' => ∃ S', rBy S u s S' ∧ cSt M' 44 S' V ∧ ∀ i, (i < 44 ∨ 68 < i) → M' i = M i)) 15 [(0, .ref 0), (1, .int u)] M := by
    rintro k hk rfl
    refine bX11_by_15 _ ⟨_, rfl, rfl, _, Or.inl ⟨k, hk, rfl, rfl, rfl⟩, ⟨h1.same (ms_row _ _ _ _ _ (by decide)), ?_, ?_, ?_, ?_, f, h6, ?_, fun k' hk' s hs => ?_⟩, fun i hi => ?_⟩
    · rw [ms_no _ _ _ _ _ _ (by simp)]; exact h2
    · rw [ms_is]; rfl
    · rw [ms_row _ _ _ _ _ (by decide)]; exact h4
    · rw [ms_row _ _ _ _ _ (by decide)]; exact h5
    · rw [ms_row _ _ _ _ _ (by decide)]; exact h7
    · rw [ms_row _ _ _ _ _ (by omega)]; exact h8 k' hk' s hs
    · rw [ms_row _ _ _ _ _ (by omega)]
  refine eX11_by _ (bX11_by_0 _ ⟨fun h => hyes 0 (by omega) (by rw [h]; rfl), fun h => ⟨_, kX11_isText (by omega) h2 hw.2.1, ?_⟩⟩)
  rintro v1 M1 ⟨rfl, rfl⟩
  refine ⟨fun h9 => ?_, fun h9 => ⟨_, rfl, rfl, S, Or.inr ⟨?_, rfl, rfl⟩, hS, fun _ _ => rfl⟩⟩
  · obtain ⟨t, ht, e⟩ : ∃ t, t < S 5 ∧ u = nI t := Classical.byContradiction fun q => h9 (if_neg q)
    exact hyes (t + 1) (by omega) (by rw [nI_pred]; exact e)
  · rintro ⟨k, hk, hu⟩
    by_cases e : k = 0
    · subst e
      exact h (by rw [hu]; rfl)
    · obtain ⟨j, rfl⟩ : ∃ j, k = j + 1 := ⟨k - 1, by omega⟩
      rw [nI_pred] at hu
      rw [if_pos ⟨j, by omega, hu⟩] at h9
      exact absurd h9 (by decide)
theorem kX11_set (hd : 4 ≤ d) {u : Int32} (hS : cSt M 44 S V) (hw : wSt S V) : mX11_set X ad ca d x [.ref 0, .int u] M (q_i (PT x) (fun s M' => ∃ S' V', rSet S V u s S' V' ∧ cSt M' 44 S' V' ∧ ∀ i, (i < 44 ∨ 68 < i) → M' i = M i)) := by
  obtain ⟨d, rfl⟩ := a_d1 (show 1 ≤ d by omega)
  have hS' := hS
  obtain ⟨h1, h2, h3, h4, h5, f, h6, h7, h8⟩ := hS'
  have h2n := z_p2 hw.1.1
  refine eX11_set _ (bX11_set_0 _ ⟨_, kX6_isState (by omega) rfl _ h1.1 hw.1.1, ?_⟩)
  rintro v1 M1 ⟨rfl, rfl⟩
  refine ⟨fun h9 => ⟨_, kX2_restart (by omega) (σ := 44) (Or.inl rfl), ?_⟩, fun h9 => ⟨_, rfl, rfl, S, V, Or.inr ⟨?_, rfl, rfl, rfl⟩, hS, fun _ _ => rfl⟩⟩
  · rintro M2 ⟨q1, q2, q3, q4, q5⟩
    refine ⟨_, kX2_vector (by omega) (σ := 44) (f := 0) (k := 0) (Or.inl rfl) q1 q2 (by omega), ?_⟩
    rintro r3 M3 ⟨rfl, rfl⟩
    obtain ⟨a, ha, rfl⟩ : ∃ k, k < 2 ^ S 0 ∧ u = nI k := Classical.byContradiction fun q => h9 (if_neg q)
    refine ⟨128, rfl, n_in (by omega) (by omega), _, rfl, rfl, _, _, Or.inl ⟨a, ha, rfl, rfl, rfl, rfl⟩, ⟨h1.same ?_, ?_, ?_, ?_, ?_, 0, by omega, ?_, fun k hk s hs => ?_⟩, fun i hi => ?_⟩
    · rw [ms_row _ _ _ _ _ (by decide)]; exact q5 45 (by decide) (by decide)
    · rw [ms_row _ _ _ _ _ (by decide), q5 44 (by decide) (by decide)]; exact h2
    · rw [ms_row _ _ _ _ _ (by decide), q5 44 (by decide) (by decide)]; exact h3
    · rw [ms_row _ _ _ _ _ (by decide)]; exact q2
    · rw [ms_row _ _ _ _ _ (by decide)]; exact q3
    · rw [ms_row _ _ _ _ _ (by decide)]; exact q1
    · have hk0 : k = 0 := by
        have : va_up (va_up S 7 0) 8 0 8 = 0 := vu _ _ _
        omega
      have hsn : s < 2 ^ S 0 := hs
      subst hk0
      rw [n_cl (by omega)]
      show (ms M3 48 a 1) 48 s = nI (zu a s)
      by_cases e : s = a
      · subst e
        rw [ms_is]
        unfold zu
        rw [if_pos rfl]
        rfl
      · rw [ms_no _ _ _ _ _ _ (fun q => e q.2)]
        unfold zu
        rw [if_neg e]
        exact q4 s (by omega)
    · rw [ms_row _ _ _ _ _ (by omega), q5 i (by omega) (by omega)]
  · rintro ⟨a, ha, rfl⟩
    rw [if_pos ⟨a, ha, rfl⟩] at h9
    exact absurd h9 (by decide)
theorem kX11_undo (hd : 1 ≤ d) (hS : cSt M 44 S V) (hw : wSt S V) : mX11_undo X ad ca d x [.ref 0] M (q_i (PT x) (fun s M' => ∃ S', rUndo S s S' ∧ cSt M' 44 S' V ∧ ∀ i, (i < 44 ∨ 68 < i) → M' i = M i)) := by
  obtain ⟨d, rfl⟩ := a_d1 hd
  have hS' := hS
  obtain ⟨h1, h2, h3, h4, h5, f, h6, h7, h8⟩ := hS'
  obtain ⟨w1, w2, w3, w4, w5, w6⟩ := hw
  refine eX11_undo (bX11_undo_0 ?_)
  have e4 : M 46 2 = nI (S 7) := h4
  have e5 : M 46 3 = nI (S 8 - S 7) := h5
  rw [e4, e5]
  refine ⟨fun h => ?_, fun h => ⟨_, rfl, rfl, S, Or.inr ⟨?_, rfl, rfl⟩, hS, fun _ _ => rfl⟩⟩
  · have h0 : S 7 ≠ 0 := fun q => h (by rw [q]; rfl)
    have e9 : nI (S 7) - 1 = nI (S 7 - 1) := pk_sub (a := S 7) (b := 1) (by omega)
    have e8 : nI (S 8 - S 7) + 1 = nI (S 8 - (S 7 - 1)) := by rw [nI_1]; congr 1; omega
    rw [e9, e8]
    refine ⟨_, rfl, rfl, _, Or.inl ⟨h0, rfl, rfl⟩, ⟨h1.same ?_, ?_, ?_, ?_, ?_, f, h6, ?_, fun k hk s hs => ?_⟩, fun i hi => ?_⟩
    · rw [ms_row _ _ _ _ _ (by decide), ms_row _ _ _ _ _ (by decide)]
    · rw [ms_row _ _ _ _ _ (by decide), ms_row _ _ _ _ _ (by decide)]; exact h2
    · rw [ms_row _ _ _ _ _ (by decide), ms_row _ _ _ _ _ (by decide)]; exact h3
    · rw [ms_no _ _ _ _ _ _ (by simp), ms_is]; rfl
    · rw [ms_is]; rfl
    · rw [ms_no _ _ _ _ _ _ (by simp), ms_no _ _ _ _ _ _ (by simp)]; exact h7
    · rw [ms_row _ _ _ _ _ (by omega), ms_row _ _ _ _ _ (by omega)]; exact h8 k hk s hs
    · rw [ms_row _ _ _ _ _ (by omega), ms_row _ _ _ _ _ (by omega)]
  · rw [← nI_0] at h
    exact (nI_eq (by omega) (by omega)).mp h
theorem kX11_redo (hd : 1 ≤ d) (hS : cSt M 44 S V) (hw : wSt S V) : mX11_redo X ad ca d x [.ref 0] M (q_i (PT x) (fun s M' => ∃ S', rRedo S s S' ∧ cSt M' 44 S' V ∧ ∀ i, (i < 44 ∨ 68 < i) → M' i = M i)) := by
  obtain ⟨d, rfl⟩ := a_d1 hd
  have hS' := hS
  obtain ⟨h1, h2, h3, h4, h5, f, h6, h7, h8⟩ := hS'
  obtain ⟨w1, w2, w3, w4, w5, w6⟩ := hw
  refine eX11_redo (bX11_redo_0 ?_)
  have e4 : M 46 2 = nI (S 7) := h4
  have e5 : M 46 3 = nI (S 8 - S 7) := h5
  rw [e4, e5]
  refine ⟨fun h => ?_, fun h => ⟨_, rfl, rfl, S, Or.inr ⟨?_, rfl, rfl⟩, hS, fun _ _ => rfl⟩⟩
  · have h0 : S 7 ≠ S 8 := fun q => h (by rw [q, Nat.sub_self]; rfl)
    have e9 : nI (S 8 - S 7) - 1 = nI (S 8 - (S 7 + 1)) := pk_sub (a := S 8 - S 7) (b := 1) (by omega)
    rw [e9, nI_1]
    refine ⟨_, rfl, rfl, _, Or.inl ⟨h0, rfl, rfl⟩, ⟨h1.same ?_, ?_, ?_, ?_, ?_, f, h6, ?_, fun k hk s hs => ?_⟩, fun i hi => ?_⟩
    · rw [ms_row _ _ _ _ _ (by decide), ms_row _ _ _ _ _ (by decide)]
    · rw [ms_row _ _ _ _ _ (by decide), ms_row _ _ _ _ _ (by decide)]; exact h2
    · rw [ms_row _ _ _ _ _ (by decide), ms_row _ _ _ _ _ (by decide)]; exact h3
    · rw [ms_is]; rfl
    · rw [ms_no _ _ _ _ _ _ (by simp), ms_is]; rfl
    · rw [ms_no _ _ _ _ _ _ (by simp), ms_no _ _ _ _ _ _ (by simp)]; exact h7
    · rw [ms_row _ _ _ _ _ (by omega), ms_row _ _ _ _ _ (by omega)]; exact h8 k hk s hs
    · rw [ms_row _ _ _ _ _ (by omega), ms_row _ _ _ _ _ (by omega)]
  · rw [← nI_0] at h
    have := (nI_eq (by omega) (by omega)).mp h
    omega
theorem kX11_at (hd : 4 ≤ d) {u : Int32} (hS : cSt M 44 S V) (hw : wSt S V) : mX11_at X ad ca d x [.ref 0, .int u] M (q_i (PT x) (fun s M' => M' = M ∧ rAt S V u s)) := by
  obtain ⟨d, rfl⟩ := a_d1 (show 1 ≤ d by omega)
  obtain ⟨h1, h2, h3, h4, h5, f, h6, h7, h8⟩ := hS
  obtain ⟨w1, w2, w3, w4, w5, w6⟩ := hw
  have h2n := z_p2 w1.1
  refine eX11_at _ (bX11_at_0 _ ⟨_, kX6_isState (by omega) rfl _ h1.1 w1.1, ?_⟩)
  rintro v1 M1 ⟨rfl, rfl⟩
  refine ⟨fun h9 => ⟨_, rfl, rfl, rfl, Or.inr ⟨?_, rfl⟩⟩, fun h9 => ⟨_, kX2_vector (by omega) (σ := 44) (Or.inl rfl) h7 h4 (by omega), ?_⟩⟩
  · rintro ⟨a, ha, rfl⟩
    rw [if_pos ⟨a, ha, rfl⟩] at h9
    exact absurd h9 (by decide)
  · rintro r2 M2 ⟨rfl, rfl⟩
    obtain ⟨a, ha, rfl⟩ : ∃ k, k < 2 ^ S 0 ∧ u = nI k := Classical.byContradiction fun q => h9 (if_neg q)
    refine ⟨_, (ly_row 44 (Or.inl rfl) x _ (Nat.mod_lt _ (by omega))).2, n_in (by omega) (by omega), _, rfl, rfl, rfl, Or.inl ⟨a, ha, rfl, ?_⟩⟩
    rw [n_cl (by omega)]
    exact h8 (S 7) w4 a ha
theorem kX11_image (hd : 5 ≤ d) (hS : cSt M 44 S V) (hw : wSt S V) : mX11_image X ad ca d x [.ref 0] M (q_i (PT x) (fun s M' => s = nI (S 0) ∧ cSt M' 69 S V ∧ ∀ i, (i < 69 ∨ 93 < i) → M' i = M i)) := by
  obtain ⟨d, rfl⟩ := a_d1 (show 1 ≤ d by omega)
  refine eX11_image (bX11_image_0 ⟨_, kX9_copyFrom (by omega) (Or.inr rfl) (Or.inl rfl) (by decide) hS hw, ?_⟩)
  rintro M1 ⟨q1, q2⟩
  refine ⟨_, rfl, rfl, ?_, q1, q2⟩
  rw [q2 45 (by omega)]
  exact hS.1.1
theorem kX11_back (hd : 5 ≤ d) (hS : cSt M 69 S V) (hw : wSt S V) : mX11_back X ad ca d x [.ref 0] M (q_i (PT x) (fun s M' => s = nI (S 0) ∧ cSt M' 44 S V ∧ ∀ i, (i < 44 ∨ 68 < i) → M' i = M i)) := by
  obtain ⟨d, rfl⟩ := a_d1 (show 1 ≤ d by omega)
  refine eX11_back (bX11_back_0 ⟨_, kX9_copyFrom (by omega) (Or.inl rfl) (Or.inr rfl) (by decide) hS hw, ?_⟩)
  rintro M1 ⟨q1, q2⟩
  exact ⟨_, rfl, rfl, q1.1.1, q1, q2⟩
end Z10
