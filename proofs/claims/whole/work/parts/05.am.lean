abbrev a_M : Type := Nat → Nat → Int32
abbrev a_P : Type := Nat → Nat → Nat
abbrev a_L : Type := List (Nat × Nat)
def a_or (ad : Nat → Nat) (x : Nat) : Option Nat := if x = 0 then none else some (ad (x - 1))
def a_cv (ad : Nat → Nat) : Value → Value
  | .ref i => .ref (ad i)
  | .int x => .int x
  | .long x => .long x
  | .float x => .float x
  | .double x => .double x
  | .null => .null
  | .retAddr x => .retAddr x
theorem a_cv_cat (ad : Nat → Nat) (v : Value) : (a_cv ad v).category = v.category := by cases v <;> rfl
def a_fv (ad : Nat → Nat) (M : a_M) (P : a_P) (ci i k : Nat) : Value := if a_rf ci k = true then va_rf (a_or ad (P i k)) else .int (M i k)
def a_e (ad : Nat → Nat) (ca : Nat → ClassId) (M : a_M) (P : a_P) (q : Nat × Nat) (i : Nat) : va_E :=
  if q.1 < 50 then .inr (q.1, (List.range q.2).map (a_fv ad M P q.1 i))
  else if q.1 < 102 then .inl (ca i, q.2, .inl (M i))
  else .inl (ca i, q.2, .inr (.inr (.inr (.inr (fun j => a_or ad (P i j))))))
def a_c (ad : Nat → Nat) (ca : Nat → ClassId) (L : a_L) (M : a_M) (P : a_P) : va_W := (List.range L.length).map fun i => (ad i, a_e ad ca M P (L.getD i (0, 0)) i)
theorem a_c_at {ad : Nat → Nat} {ca : Nat → ClassId} {L : a_L} {M : a_M} {P : a_P} {i : Nat} {q : Nat × Nat} (h : L[i]? = some q) : (a_c ad ca L M P)[i]? = some (ad i, a_e ad ca M P q i) := by
  have hi : i < L.length := (List.getElem?_eq_some_iff.mp h).1
  have hd : L.getD i (0, 0) = q := by rw [List.getD_eq_getElem?_getD, h]; rfl
  unfold a_c
  rw [List.getElem?_map, List.getElem?_range hi, Option.map_some, hd]
theorem a_c_no {ad : Nat → Nat} {ca : Nat → ClassId} {L : a_L} {M : a_M} {P : a_P} {i : Nat} (h : L[i]? = none) : (a_c ad ca L M P)[i]? = none := by
  have hi : L.length ≤ i := List.getElem?_eq_none_iff.mp h
  apply List.getElem?_eq_none
  unfold a_c
  simp
  exact hi
theorem a_c_len {ad : Nat → Nat} {ca : Nat → ClassId} {L : a_L} {M : a_M} {P : a_P} : (a_c ad ca L M P).length = L.length := by unfold a_c; simp
theorem a_e_eq {ad : Nat → Nat} {ca : Nat → ClassId} {M M' : a_M} {P P' : a_P} {q : Nat × Nat} {i : Nat} (hM : M' i = M i) (hP : P' i = P i) : a_e ad ca M' P' q i = a_e ad ca M P q i := by
  have hf : ∀ ci, a_fv ad M' P' ci i = a_fv ad M P ci i := fun ci => by
    funext k
    unfold a_fv
    rw [hM, hP]
  simp only [a_e, hf, hM, hP]
theorem a_c_set {ad : Nat → Nat} {ca : Nat → ClassId} {L : a_L} {M M' : a_M} {P P' : a_P} {o : Nat} {q : Nat × Nat} (h : L[o]? = some q) (hM : ∀ i, i ≠ o → M' i = M i) (hP : ∀ i, i ≠ o → P' i = P i) : (a_c ad ca L M P).set o (ad o, a_e ad ca M' P' q o) = a_c ad ca L M' P' := by
  apply List.ext_getElem?
  intro j
  rw [List.getElem?_set]
  by_cases e : o = j
  · subst e
    have hi : o < (a_c ad ca L M P).length := by rw [a_c_len]; exact (List.getElem?_eq_some_iff.mp h).1
    rw [if_pos rfl, if_pos hi, a_c_at h]
  · rw [if_neg e]
    cases hq : L[j]? with
    | none => rw [a_c_no hq, a_c_no hq]
    | some q' => rw [a_c_at hq, a_c_at hq, a_e_eq (hM j (Ne.symm e)) (hP j (Ne.symm e))]
theorem a_e_obj {ad : Nat → Nat} {ca : Nat → ClassId} {M : a_M} {P : a_P} {ci N i : Nat} (h : ci < 50) : a_e ad ca M P (ci, N) i = .inr (ci, (List.range N).map (a_fv ad M P ci i)) := by
  unfold a_e; rw [if_pos h]
theorem a_e_int {ad : Nat → Nat} {ca : Nat → ClassId} {M : a_M} {P : a_P} {k N i : Nat} (h : ¬ k < 50) (h2 : k < 102) : a_e ad ca M P (k, N) i = .inl (ca i, N, .inl (M i)) := by
  unfold a_e; rw [if_neg h, if_pos h2]
theorem a_e_ref {ad : Nat → Nat} {ca : Nat → ClassId} {M : a_M} {P : a_P} {k N i : Nat} (h : ¬ k < 102) : a_e ad ca M P (k, N) i = .inl (ca i, N, .inr (.inr (.inr (.inr (fun j => a_or ad (P i j)))))) := by
  unfold a_e; rw [if_neg (show ¬ k < 50 by omega), if_neg h]
theorem a_map_set {α : Type} (g : Nat → α) (k : Nat) (v : α) (N : Nat) : ((List.range N).map g).set k v = (List.range N).map (fun j => if j = k then v else g j) := by
  apply List.ext_getElem?
  intro j
  rw [List.getElem?_set, List.getElem?_map, List.getElem?_map]
  by_cases e : k = j
  · subst e
    by_cases hk : k < N
    · rw [if_pos rfl, if_pos (by simpa using hk), List.getElem?_range hk]; simp
    · rw [if_pos rfl, if_neg (by simpa using hk), List.getElem?_eq_none (by simpa using hk)]; rfl
  · rw [if_neg e]
    by_cases hk : j < N
    · rw [List.getElem?_range hk]; simp [Ne.symm e]
    · rw [List.getElem?_eq_none (by simpa using hk)]; rfl
/-- the world's surroundings: the classes' numbers, the script (cell, length, values), the String constants' cells -/
abbrev a_X : Type := va_G × (Nat × Nat × (Nat → Int32)) × (Nat → Nat) × (Nat → Nat)
def a_nest : Cond → Bool
  | .methodLinkNest .. => true
  | _ => false
def a_sl : List Nat := [5, 4, 3, 5, 3]
def a_sb : List (List Int32) := [[115, 104, 105, 102, 116], [102, 108, 105, 112], [115, 117, 109], [116, 97, 98, 108, 101], [101, 116, 97]]
def a_sk : List (Nat × String) := [(48, "shift"), (56, "flip"), (58, "sum"), (60, "table"), (62, "eta")]
def a_at (k : Nat) : FieldType := if k = 100 then .int else if k = 101 then .byte else if k = 102 then .object "SolvedChains$Script" else .array .int
def a_sp (X : a_X) (ad : Nat → Nat) : Prop := ad 1000000 = X.2.1.1 ∧ (∀ k, ad (2000000 + k) = X.2.2.1 k) ∧ ∀ k, ad (2000100 + k) = X.2.2.2 k
def a_cx (X : a_X) (A : Nat → Prop) (U : State) (H : Heap) : Prop :=
  va_X X.2.1.1 X.2.1.2.1 X.2.1.2.2 U H ∧ X.2.1.1 < H.size ∧ ¬ A X.2.1.1 ∧ vk_S 5 a_sl a_sb X.2.2.1 X.2.2.2 A U H ∧ (∀ (k : Nat) (q : Nat × String), a_sk[k]? = some q → vk_R "SolvedChains$Tape" q.1 q.2 (X.2.2.1 k) U) ∧ (∀ w ∈ lw_tbl, a_nest w = true → va_Nw w U) ∧ va_Z "java/lang/String" "COMPACT_STRINGS" "Z" (.int 1) A U H ∧ va_Zq "jdk/internal/util/Preconditions" "SIOOBE_FORMATTER" "Ljava/util/function/BiFunction;" A U H
/-- what the tables say of the classes and of the arrays' classes -/
def a_kd (X : a_X) (ca : Nat → ClassId) (L : a_L) (U : State) : Prop := va_K X.1 a_cls [] U ∧ ∀ (i : Nat) (q : Nat × Nat), L[i]? = some q → 50 ≤ q.1 → ArrOfT U (ca i) (a_at q.1) ∧ va_RA U (ca i) (a_at q.1)
def a_wd (X : a_X) (ad : Nat → Nat) (ca : Nat → ClassId) (L : a_L) (M : a_M) (P : a_P) (H : Heap) : Prop := va_P X.1 a_cls (a_c ad ca L M P) H ∧ va_D (fun _ => True) (a_c ad ca L M P)
def a_A (ad : Nat → Nat) (L : a_L) (sz : Nat) : Nat → Prop := fun q => (∃ i, i < L.length ∧ q = ad i) ∨ sz ≤ q
theorem a_kd.K {X : a_X} {ca : Nat → ClassId} {L : a_L} {U : State} (h : a_kd X ca L U) {i : Nat} {q : Nat × Nat} (hi : L[i]? = some q) (hq : 50 ≤ q.1) : va_K X.1 a_cls [(ca i, a_at q.1)] U := ⟨h.1.1, fun k x hk => by
  have hk0 : k < 1 := (List.getElem?_eq_some_iff.mp hk).1
  rw [show k = 0 by omega] at hk
  cases hk
  exact h.2 i q hi hq⟩
theorem a_kd.moved {X : a_X} {ca : Nat → ClassId} {L : a_L} {u U : State} (hvm : u.vm.Alike U.vm) (h : a_kd X ca L u) : a_kd X ca L U := ⟨va_K.moved hvm h.1, fun i q hi hq => ⟨arrOfT_moved hvm (h.2 i q hi hq).1, (h.2 i q hi hq).2.moved hvm⟩⟩
theorem a_D {ad : Nat → Nat} {ca : Nat → ClassId} {L : a_L} {M : a_M} {P : a_P} {B : Nat → Prop} {sz : Nat} (h : va_D B (a_c ad ca L M P)) : va_D (a_A ad L sz) (a_c ad ca L M P) := ⟨h.1, fun k q hk => by
  have hl : k < (a_c ad ca L M P).length := (List.getElem?_eq_some_iff.mp hk).1
  rw [a_c_len] at hl
  have hq : L[k]? = some L[k] := List.getElem?_eq_getElem hl
  rw [a_c_at hq] at hk
  cases hk
  exact Or.inl ⟨k, hl, rfl⟩⟩
theorem a_A.mono {ad : Nat → Nat} {L : a_L} {s1 s2 : Nat} (h : s1 ≤ s2) {q : Nat} (hq : a_A ad L s2 q) : a_A ad L s1 q := by
  rcases hq with hq | hq
  · exact Or.inl hq
  · exact Or.inr (Nat.le_trans h hq)
theorem a_cx.to {X : a_X} {A B : Nat → Prop} {u U : State} {H H1 : Heap} (h : a_cx X A u H) (hW : u.WarmedH U.vm) (hs : H.size ≤ H1.size) (hk : ∀ q, q < H.size → ¬ A q → H1[q]? = H[q]?) (hB : ∀ q, B q → A q) : a_cx X B U H1 := by
  obtain ⟨h1, h2, h3, h4, h5, h6, h7, h8⟩ := h
  refine ⟨(h1.kept (hk _ h2 h3)).moved hW.alike, Nat.lt_of_lt_of_le h2 hs, fun q => h3 (hB _ q), ((h4.kept hk).narrow hB).moved hW.alike, fun k q hq => (h5 k q hq).warm hW, fun w hw hn => ?_, ((h7.kept hk).narrow hB).moved hW.alike, ?_⟩
  · cases w <;> first | (exact va_Nw.warmM hW (h6 _ hw hn)) | (cases hn)
  · exact h8.elim (fun h9 => Or.inl (((h9.kept hk).narrow hB).moved hW.alike)) (fun ⟨t, h9⟩ => Or.inr ⟨t, ((h9.kept hk).narrow hB).moved hW.alike⟩)
