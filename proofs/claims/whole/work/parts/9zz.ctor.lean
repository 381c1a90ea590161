/-! constructors: their room, what a call of one needs of the tables -/
def rmC (d mc ms : Nat) : Room := { frames := d, cells := mc, slots := ms, locals := 40 * d }
/-- all addresses from the first object on -/
def zA (g : GT) : Nat → Prop := fun q => gz g ≤ q
def okI (own : String) (idx : Nat) (M2 : MI) (n : Nat) : Prop :=
  (Cond.methodLink own idx M2.1 ∈ lwG ∧ Cond.instanceMethod M2.1 ∈ lwG ∧ Cond.initialized M2.1.cls ∈ lwG ∧ Cond.code M2.1 M2.2.1 M2.2.2.1 M2.2.2.2 ∈ lwG) ∧
  (M2.1.name = "<init>" ∧ M2.2.2.2 = none ∧ M2.1.cls ≠ "java/lang/invoke/MethodHandle" ∧ M2.1.cls ≠ "java/lang/invoke/VarHandle" ∧ (parseMethodDescriptor M2.1.desc).map (fun d => d.parameters.length) = some n) ∧ M2.2.2.1 ≤ 21
/-- the class of arrays of int arrays is there -/
def zAO (U : State) : Prop := (Cond.arrayOver (.array .int)).before #[] U = true
theorem zAO.moved {u U : State} (hvm : u.vm.Alike U.vm) (h : zAO u) : zAO U := over_moved hvm h
