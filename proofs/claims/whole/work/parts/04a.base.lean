def TB : List Cond := lw_tbl.filter goodWord
theorem tbm {k : Nat} {w : Cond} (h : lw_tbl[k]? = some w) (hg : goodWord w = true) : w ∈ TB := List.mem_filter.mpr ⟨List.mem_of_getElem? h, hg⟩
theorem tb_good : GoodIn TB TB := fun w hw => ⟨hw, good_of_word (List.mem_filter.mp hw).2⟩
/-- a class of the worlds: its number, name, field table -/
def Cls (ci : Nat) (C : String) (T : u_T) (N : Nat) : Prop := (vwCl[ci]? = some (C, T, N) ∧ ci < 20 ∧ N = nf ci) ∧ (∀ w ∈ u_ws C T N, w ∈ TB) ∧ (∀ a, a < N → ∀ b, b < N → a ≠ b → (T a).2.1 ≠ (T b).2.1) ∧ ∃ ty : Nat → FieldType, ∀ k, k < N → parseFieldDescriptor (T k).2.2.1 = some (ty k)
/-- what the tables say of a method -/
def Mok (y : MI) (n : Nat) : Prop := ((y.2.2.2.cls ≠ "java/lang/invoke/MethodHandle" ∧ y.2.2.2.cls ≠ "java/lang/invoke/VarHandle" ∧ (parseMethodDescriptor y.2.2.2.desc).map (fun d => d.parameters.length) = some n) ∧ y.2.1 ≤ 81) ∧ Cond.initialized y.2.2.2.cls ∈ TB ∧ Cond.code y.2.2.2 y.1 y.2.1 y.2.2.1 ∈ TB
def MokV (y : MI) (n : Nat) : Prop := Mok y n ∧ Cond.instanceMethod y.2.2.2 ∈ TB ∧ Cond.selects y.2.2.2.cls y.2.2.2 y.2.2.2 ∈ TB
def MokS (y : MI) (n : Nat) : Prop := Mok y n ∧ Cond.static y.2.2.2 ∈ TB
