/-! THE ABSTRACT STATE. Objects have numbers 0, 1, ..; M i k: the number in slot (or place) k of object i; P i k: the pointer there (0 null, r + 1 object r); L: kind and length of each object (kind below 50: a class of a_cls; 100 int[], 101 byte[], 102 Script[], 103 int[][]). -/
abbrev a_cls : List vw_C := [(RX0, TX0, 4), (RX1, TX1, 10), (RX2, TX2, 4), (RX3, TX3, 8), (RX4, TX4, 3), (RX5, TX5, 8), (RX6, TX6, 5), (RX7, TX7, 7), (RX8, TX8, 10), (RX9, TX9, 4), (RX10, TX10, 4), (RX11, TX11, 14), (RX12, TX12, 56)]
def a_isr : FieldType → Bool
  | .object _ => true
  | .array _ => true
  | _ => false
def a_tys : List (Nat → FieldType) := [tyX0, tyX1, tyX2, tyX3, tyX4, tyX5, tyX6, tyX7, tyX8, tyX9, tyX10, tyX11, tyX12]
def a_ty (ci k : Nat) : FieldType := (a_tys.getD ci (fun _ => .int)) k
def a_rf (ci k : Nat) : Bool := a_isr (a_ty ci k)
def a_tb : List Cond := lw_tbl.filter goodWord
def a_ws (y : MethodName) (cc : ByteArray) (nL : Nat) (ret : Option FieldType) : List Cond := Cond.code y cc nL ret :: a_tb
theorem a_in {w : Cond} (n : Nat) (h : lw_tbl[n]? = some w) (hg : goodWord w = true) : w ∈ a_tb := List.mem_filter.mpr ⟨List.mem_of_getElem? h, hg⟩
theorem a_goodIn {y y' : MethodName} {cc cc' : ByteArray} {nL nL' : Nat} {ret ret' : Option FieldType} (h : Cond.code y cc nL ret ∈ a_tb) : GoodIn (a_ws y' cc' nL' ret') (a_ws y cc nL ret) := by
  intro w hw
  have hw' : w ∈ a_tb := by
    rcases List.mem_cons.mp hw with e | hw
    · rw [e]; exact h
    · exact hw
  exact ⟨List.mem_cons_of_mem _ hw', good_of_word (List.mem_filter.mp hw').2⟩
theorem a_goodT {y : MethodName} {cc : ByteArray} {nL : Nat} {ret : Option FieldType} (h : Cond.code y cc nL ret ∈ a_tb) : GoodIn lw_tbl (a_ws y cc nL ret) := by
  intro w hw
  have hw' : w ∈ a_tb := by
    rcases List.mem_cons.mp hw with e | hw
    · rw [e]; exact h
    · exact hw
  exact ⟨(List.mem_filter.mp hw').1, good_of_word (List.mem_filter.mp hw').2⟩
/-- a class of the list, with what the tables say of its fields -/
def a_CK (ci : Nat) (C : String) (T : u_T) (N : Nat) : Prop := a_cls[ci]? = some (C, T, N) ∧ ci < 50 ∧ (∀ w ∈ u_ws C T N, w ∈ a_tb) ∧ (∀ k, k < N → parseFieldDescriptor (T k).2.2.1 = some (a_ty ci k)) ∧ (∀ a, a < N → ∀ b, b < N → a ≠ b → (T a).2.1 ≠ (T b).2.1)
/-- entry idx of own's pool is field k of class ci -/
def a_FL (own : String) (idx ci k N : Nat) : Prop := ∃ (C : String) (T : u_T), a_CK ci C T N ∧ k < N ∧ Cond.fieldLink own idx (T k).1 (T k).2.1 (T k).2.2.1 ∈ a_tb
/-- and it isn't final -/
def a_FM (ci k : Nat) : Prop := ∀ (C : String) (T : u_T) (N : Nat), a_cls[ci]? = some (C, T, N) → (T k).2.2.2 = false
/-- entry idx of own's pool is the method y, with n parameters; its code is in the tables -/
def a_ML (own : String) (idx : Nat) (y : MethodName) (cc : ByteArray) (nL : Nat) (ret : Option FieldType) (n : Nat) : Prop :=
  Cond.code y cc nL ret ∈ a_tb ∧ Cond.initialized y.cls ∈ a_tb ∧ (y.cls ≠ "java/lang/invoke/MethodHandle" ∧ y.cls ≠ "java/lang/invoke/VarHandle" ∧ (parseMethodDescriptor y.desc).map (fun d => d.parameters.length) = some n) ∧ Nat.ble nL 45 = true
