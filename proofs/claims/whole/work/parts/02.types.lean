-- ===== the small machine: the same bytecode over lists of cells, places for addresses =====
abbrev aRow : Type := Nat × Instr × Nat × Nat × Nat
abbrev aC : Type := (Nat × (List Int32 ⊕ List Int64 ⊕ List (Option Nat))) ⊕ (Nat × List Value)
abbrev aH : Type := List aC
abbrev aM : Type := MethodName × ByteArray × Nat × Option FieldType × Nat × Nat × List aRow
