abbrev ja_S : Type := Nat ⊕ (Nat × Nat)
abbrev ja_H : Type := List ja_S × (Nat → Nat → Int32) × (Nat → Nat → Int64) × (Nat → Nat → Option Nat) × Nat × Nat
abbrev ja_Mt : Type := String × ByteArray × Nat × (Nat × Nat) × Bool × Option FieldType × Option (Nat × Nat × (Nat → Int32)) × Option (List (Nat × Nat × Nat × Nat))
def ja_kd : FieldType → Nat
  | .long => 1
  | .object _ => 2
  | .array _ => 2
  | .float => 3
  | .double => 3
  | _ => 0
def ja_kk (c k : Nat) : Nat := ja_kd (ja_ty c k)
def ja_At (M : ja_Mt) (pc : Nat) (i : Instr) (n pc' : Nat) : Prop := decode M.2.1 pc = .ok (i, n) ∧ pc + n = pc'
def ja_F (own : String) (idx ci k kd : Nat) (nest : Option String) : Prop := ∃ (C : String) (T : u_T) (N : Nat), vwCl[ci]? = some (C, T, N) ∧ k < N ∧ ja_kk ci k = kd ∧ (∀ w ∈ u_ws C T N, w ∈ ja_all) ∧ match nest with
  | none => Cond.fieldLink own idx (T k).1 (T k).2.1 (T k).2.2.1 ∈ ja_all
  | some host => (own, idx, (T k).1, (T k).2.1, (T k).2.2.1, host) ∈ ja_nfl
def ja_FP (ci k : Nat) (ty : FieldType) (fin : Bool) : Prop := ∃ (C : String) (T : u_T) (N : Nat), vwCl[ci]? = some (C, T, N) ∧ (∀ k, k < N → parseFieldDescriptor (T k).2.2.1 = some (ja_ty ci k)) ∧ (∀ a, a < N → ∀ b, b < N → a ≠ b → (T a).2.1 ≠ (T b).2.1) ∧ parseFieldDescriptor (T k).2.2.1 = some ty ∧ (T k).2.2.2 = fin ∧ (T k).1 = C
def ja_GN (own : String) (idx ci : Nat) : Prop := ∃ (C : String) (T : u_T) (N : Nat), vwCl[ci]? = some (C, T, N) ∧ (∀ w ∈ u_ws C T N, w ∈ ja_all) ∧ (∀ k, k < N → parseFieldDescriptor (T k).2.2.1 = some (ja_ty ci k)) ∧ Cond.classLink own idx C ∈ ja_all ∧ Cond.instantiable C N ∈ ja_all ∧ Cond.initialized C ∈ ja_all ∧ ∀ k, k < N → ja_kk ci k ≠ 3
def ja_G (own : String) (idx : Nat) (y : MethodName) (bytes : ByteArray) (maxL : Nat) (rt : Option FieldType) (n : Nat) (nest : Option String) : Prop := Cond.code y bytes maxL rt ∈ ja_all ∧ Cond.initialized y.cls ∈ ja_all ∧ (y.cls ≠ "java/lang/invoke/MethodHandle" ∧ y.cls ≠ "java/lang/invoke/VarHandle" ∧ (parseMethodDescriptor y.desc).map (fun d => d.parameters.length) = some n) ∧ match nest with
  | none => Cond.methodLink own idx y ∈ ja_all
  | some host => (own, idx, y, host) ∈ ja_nml
