section DEFS
/-- the words that every method may use -/
def TB : List Cond := lw_tbl.filter goodWord
theorem TB_of {w : Cond} (h : w ∈ lw_tbl) (g : goodWord w = true) : w ∈ TB := List.mem_filter.mpr ⟨h, g⟩
theorem TB_good {w : Cond} (h : w ∈ TB) : goodWord w = true := (List.mem_filter.mp h).2
theorem TB_in {w : Cond} (h : w ∈ TB) : w ∈ lw_tbl := (List.mem_filter.mp h).1
/-- a method: its name, its bytes, its locals, what it returns -/
abbrev MD : Type := MethodName × ByteArray × Nat × Option FieldType
/-- a kind of object: its name and fields, their types, its words -/
def CF (ci : Nat) (q : vw_C) (ty : Nat → FieldType) : Prop := vwCl[ci]? = some q ∧ (∀ w ∈ u_ws q.1 q.2.1 q.2.2, w ∈ TB) ∧ (∀ k, k < q.2.2 → parseFieldDescriptor (q.2.1 k).2.2.1 = some (ty k)) ∧ ∀ a, a < q.2.2 → ∀ b, b < q.2.2 → a ≠ b → (q.2.1 a).2.1 ≠ (q.2.1 b).2.1
/-- a field: the owner's entry idx is the field j of the kind ci; its type; whether it is final (none: not asked) -/
def FL (own : String) (idx ci j : Nat) (t : FieldType) (fin : Option Bool) : Prop := ∃ (q : vw_C) (ty : Nat → FieldType), CF ci q ty ∧ j < q.2.2 ∧ ty j = t ∧ (∀ b, fin = some b → (q.2.1 j).2.2.2 = b) ∧ (fin = some true → (q.2.1 j).1 = own) ∧ Cond.fieldLink own idx (q.2.1 j).1 (q.2.1 j).2.1 (q.2.1 j).2.2.1 ∈ TB
/-- a method's words: its code, its owner made ready, its name and how many it takes -/
def MF (md : MD) (n : Nat) : Prop := Cond.code md.1 md.2.1 md.2.2.1 md.2.2.2 ∈ TB ∧ Cond.initialized md.1.cls ∈ TB ∧ (md.1.cls ≠ "java/lang/invoke/MethodHandle" ∧ md.1.cls ≠ "java/lang/invoke/VarHandle" ∧ (parseMethodDescriptor md.1.desc).map (fun d => d.parameters.length) = some n) ∧ md.2.2.1 ≤ 20
/-- .. of one that is called by an object -/
def MI (md : MD) (n : Nat) : Prop := MF md n ∧ Cond.instanceMethod md.1 ∈ TB ∧ Cond.selects md.1.cls md.1 md.1 ∈ TB
/-- .. of a static one -/
def MS (md : MD) (n : Nat) : Prop := MF md n ∧ Cond.static md.1 ∈ TB
/-- .. of a maker -/
def MN (md : MD) (n : Nat) : Prop := MF md n ∧ Cond.instanceMethod md.1 ∈ TB ∧ md.1.name = "<init>" ∧ md.2.2.2 = none
end DEFS
