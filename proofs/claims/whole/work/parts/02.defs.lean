/-- a method: its name, code, locals, answer -/
abbrev vMI : Type := MethodName × ByteArray × Nat × Option FieldType
/-- links among nest mates -/
def vNst (U : State) : Prop := va_Nw (.fieldLinkNest "BreadString$Sightings" 25 "BreadString$Trip" "tower" "LBreadString$Tower;" "BreadString") U
theorem vNst.warm {s U : State} (hW : s.WarmedH U.vm) (h : vNst s) : vNst U := va_Nw.warmF hW h
theorem vNst.same {u U : State} (hvm : u.vm = U.vm) (h : vNst u) : vNst U := va_Nw.same rfl hvm h
/-- a field's link, by the tables -/
def vFL (own : String) (idx ci k : Nat) : Prop := ∀ (C : String) (T : u_T) (N : Nat), classes[ci]? = some (C, T, N) → k < N ∧ (Cond.fieldLink own idx (T k).1 (T k).2.1 (T k).2.2.1 ∈ vTbl ∨ ∃ host, ∀ s, vNst s → va_Nw (.fieldLinkNest own idx (T k).1 (T k).2.1 (T k).2.2.1 host) s)
/-- a field's link where it isn't final -/
def vFP (own : String) (idx ci k : Nat) : Prop := ∀ (C : String) (T : u_T) (N : Nat), classes[ci]? = some (C, T, N) → k < N ∧ (T k).2.2.2 = false ∧ Cond.fieldLink own idx (T k).1 (T k).2.1 (T k).2.2.1 ∈ vTbl
/-- the tables' words of a method: code, link, class -/
def vMf (mi : vMI) (n : Nat) : Prop := plainName mi.1.cls = true ∧ Cond.code mi.1 mi.2.1 mi.2.2.1 mi.2.2.2 ∈ vTbl ∧ Cond.initialized mi.1.cls ∈ vTbl ∧ (mi.1.cls ≠ "java/lang/invoke/MethodHandle" ∧ mi.1.cls ≠ "java/lang/invoke/VarHandle" ∧ (parseMethodDescriptor mi.1.desc).map (fun d => d.parameters.length) = some n) ∧ mi.2.2.1 ≤ 21
def vMfV (mi : vMI) (n : Nat) : Prop := vMf mi n ∧ Cond.instanceMethod mi.1 ∈ vTbl ∧ Cond.selects mi.1.cls mi.1 mi.1 ∈ vTbl
def vMfS (mi : vMI) (n : Nat) : Prop := vMf mi n ∧ Cond.static mi.1 ∈ vTbl
