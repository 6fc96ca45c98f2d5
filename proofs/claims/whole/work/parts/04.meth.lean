-- ===== methods by their numbers =====
def mAt (y : Nat) : aM := mtab.getD y (yL_law, cL_law, 0, none, 0, 0, [])
def mMax (y : Nat) : Nat := (mAt y).2.2.1
def mRet (y : Nat) : Option FieldType := (mAt y).2.2.2.1
def mNA (y : Nat) : Nat := (mAt y).2.2.2.2.1
def mCi (y : Nat) : Nat := (mAt y).2.2.2.2.2.1
def mIni (y : Nat) : Option Nat := if (mAt y).1.name = "<init>" then some (mCi y) else none
def rowIn : List aRow → Nat → Option (Instr × Nat × Nat × Nat)
  | [], _ => none
  | r :: l, pc => if r.1 = pc then some r.2 else rowIn l pc
def rowAt (y pc : Nat) : Option (Instr × Nat × Nat × Nat) := rowIn (mAt y).2.2.2.2.2.2 pc
