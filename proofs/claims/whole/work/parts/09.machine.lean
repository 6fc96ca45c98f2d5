variable {scr : List Int32}
/-- array kinds: 0 byte, 1 int, 2 long, 3 boolean, 4 rows of laws, 5 rows of scenes -/
def aTy (t : Nat) : FieldType := match t with
  | 0 => .byte
  | 1 => .int
  | 2 => .long
  | 3 => .boolean
  | 4 => .object "SecondNearest$Law"
  | _ => .object "SecondNearest$Scene"
def pI {α : Type} (st : List Value) (k : Int32 → List Value → Option α) : Option α := match st with
  | .int x :: r => k x r
  | _ => none
def pL {α : Type} (st : List Value) (k : Int64 → List Value → Option α) : Option α := match st with
  | .long x :: r => k x r
  | _ => none
def pR {α : Type} (st : List Value) (k : Nat → List Value → Option α) : Option α := match st with
  | .ref x :: r => k x r
  | _ => none
theorem pI_inv {α : Type} {st : List Value} {k : Int32 → List Value → Option α} {o : α} (h : pI st k = some o) : ∃ x r, st = .int x :: r ∧ k x r = some o := by
  unfold pI at h; split at h
  · exact ⟨_, _, rfl, h⟩
  · cases h
theorem pL_inv {α : Type} {st : List Value} {k : Int64 → List Value → Option α} {o : α} (h : pL st k = some o) : ∃ x r, st = .long x :: r ∧ k x r = some o := by
  unfold pL at h; split at h
  · exact ⟨_, _, rfl, h⟩
  · cases h
theorem pR_inv {α : Type} {st : List Value} {k : Nat → List Value → Option α} {o : α} (h : pR st k = some o) : ∃ x r, st = .ref x :: r ∧ k x r = some o := by
  unfold pR at h; split at h
  · exact ⟨_, _, rfl, h⟩
  · cases h
def kl1 (x : Value) : Value := match x with
  | .long _ => .null
  | .double _ => .null
  | x => x
def s1L : List Value → Nat → Value → List Value
  | [], _, _ => []
  | _ :: r, 0, v => v :: r
  | [x], 1, _ => [x]
  | x :: _ :: r, 1, v => kl1 x :: v :: r
  | x :: r, n + 2, v => x :: s1L r (n + 1) v
def s2L (L : List Value) (i : Nat) (v : Value) : List Value := (s1L L i v).set (i + 1) .null
theorem s1L_len : ∀ (L : List Value) (i : Nat) (v : Value), (s1L L i v).length = L.length
  | [], _, _ => by simp [s1L]
  | _ :: r, 0, v => by simp [s1L]
  | [x], 1, _ => by simp [s1L]
  | x :: _ :: r, 1, v => by simp [s1L]
  | x :: r, n + 2, v => by simp [s1L, s1L_len r (n + 1) v]
theorem kl1_ne {x : Value} (h : kl1 x ≠ .null) : kl1 x = x ∧ x.category = 1 := by
  cases x <;> simp_all [kl1, Value.category]
theorem s1L_get : ∀ (L : List Value) (i : Nat) (v : Value) (j : Nat) (w : Value), i < L.length → (s1L L i v)[j]? = some w → w ≠ .null →
    (j = i ∧ w = v) ∨ (j ≠ i ∧ L[j]? = some w ∧ ¬ (j + 1 = i ∧ w.category = 2))
  | [], i, v, j, w => by intro h; simp at h
  | x :: r, 0, v, j, w => by
    intro h h1 h2
    cases j with
    | zero => simp [s1L] at h1; exact Or.inl ⟨rfl, h1.symm⟩
    | succ j => simp [s1L] at h1; exact Or.inr ⟨by omega, by simpa using h1, by omega⟩
  | [x], 1, v, j, w => by intro h; simp at h
  | x :: z :: r, 1, v, j, w => by
    intro h h1 h2
    match j, h1 with
    | 0, h1 =>
      simp [s1L] at h1
      have h3 := kl1_ne (x := x) (by rw [h1]; exact h2)
      rw [h3.1] at h1
      subst h1
      exact Or.inr ⟨by omega, rfl, fun q => by rw [h3.2] at q; omega⟩
    | 1, h1 => simp [s1L] at h1; exact Or.inl ⟨rfl, h1.symm⟩
    | j + 2, h1 => simp [s1L] at h1; exact Or.inr ⟨by omega, by simpa using h1, by omega⟩
  | x :: r, n + 2, v, j, w => by
    intro h h1 h2
    cases j with
    | zero => simp [s1L] at h1; subst h1; exact Or.inr ⟨by omega, rfl, by omega⟩
    | succ j =>
      simp [s1L] at h1
      rcases s1L_get r (n + 1) v j w (by simp at h; omega) h1 h2 with ⟨a, b⟩ | ⟨a, b, c⟩
      · exact Or.inl ⟨by omega, b⟩
      · exact Or.inr ⟨by omega, by simpa using b, fun q => c ⟨by omega, q.2⟩⟩
theorem s2L_get (L : List Value) (i : Nat) (v : Value) (j : Nat) (w : Value) (h : i < L.length) (h1 : (s2L L i v)[j]? = some w) (h2 : w ≠ .null) :
    (j = i ∧ w = v) ∨ (j ≠ i ∧ j ≠ i + 1 ∧ L[j]? = some w ∧ ¬ (j + 1 = i ∧ w.category = 2)) := by
  unfold s2L at h1
  rw [List.getElem?_set] at h1
  by_cases hj : i + 1 = j
  · rw [if_pos hj] at h1
    split at h1
    · cases h1; exact absurd rfl h2
    · cases h1
  · rw [if_neg hj] at h1
    rcases s1L_get L i v j w h h1 h2 with ⟨a, b⟩ | ⟨a, b, c⟩
    · exact Or.inl ⟨a, b⟩
    · exact Or.inr ⟨a, fun q => hj q.symm, b, c⟩
-- read-only cells: static rows of numbers, texts
def roStr : List (List Int32) := [[114, 111, 119, 32, 112, 101, 114, 115, 111, 110, 32, 104, 101, 114, 97, 108, 100], [115, 116, 97, 110, 100, 32, 102, 111, 108, 108, 111, 119], [105, 102], [110, 111, 116], [120, 32, 121, 32, 97, 103, 101, 32, 115, 111, 114, 116, 32, 115, 101, 101, 110, 32, 110, 101, 97, 114, 32, 103, 97, 116, 101, 32, 98, 101, 115, 105, 100, 101, 32, 101, 108, 100, 101, 114], [97, 110, 100, 32, 111, 114], [114, 111, 119], [112, 101, 114, 115, 111, 110], [104, 101, 114, 97, 108, 100], [102, 111, 108, 108, 111, 119], [115, 116, 97, 110, 100], [105, 102], [110, 111, 116], [120], [121], [97, 103, 101], [115, 111, 114, 116], [115, 101, 101, 110], [110, 101, 97, 114], [103, 97, 116, 101], [98, 101, 115, 105, 100, 101], [101, 108, 100, 101, 114], [97, 110, 100], [111, 114]]
def roSta : List (List Int32) := [[0, 1, 1, 1, 0, -1, -1, -1], [-1, -1, 0, 1, 1, 1, 0, -1], [1, 9, 81, 729]]
def roSt (scr : List Int32) : List (List Int32) := roSta ++ [scr]
def roC (scr : List Int32) (q : Nat) : Option aC :=
  if q < 20000 then (match (roSt scr)[q - 10000]? with | some l => some (.inl (1, .inl l)) | none => none)
  else if q < 30000 then (if q - 20000 < roStr.length then some (.inr (10, [.ref (q + 10000), .int 0])) else none)
  else (match roStr[q - 30000]? with | some l => some (.inl (0, .inl l)) | none => none)
def cellAt (scr : List Int32) (h : aH) (q : Nat) : Option aC := if q < 10000 then h[q]? else roC scr q
def rdF (scr : List Int32) (h : aH) (q ci f : Nat) : Option Value := match cellAt scr h q with
  | some (.inr (c, fs)) => if c = ci then fs[f]? else none
  | _ => none
def wrF (h : aH) (q ci f : Nat) (v : Value) : Option aH := match h[q]? with
  | some (.inr (c, fs)) => if c = ci ∧ f < fs.length ∧ q < 10000 then some (h.set q (.inr (c, fs.set f v))) else none
  | _ => none
def inB (i : Int32) (n : Nat) : Prop := ¬ (i < 0 ∨ n ≤ i.toNatClampNeg)
def inb (i : Int32) (n : Nat) : Bool := !(decide (i < 0) || decide (n ≤ i.toNatClampNeg))
theorem inb_iff {i : Int32} {n : Nat} : inb i n = true ↔ vp_in i n := by
  unfold inb vp_in; simp
def rdA (scr : List Int32) (h : aH) (q t : Nat) (i : Int32) : Option Int32 := match cellAt scr h q with
  | some (.inl (t', .inl l)) => if t' = t ∧ inb i l.length = true then some (l.getD i.toNatClampNeg 0) else none
  | _ => none
def wrA (h : aH) (q t : Nat) (i x : Int32) : Option aH := match h[q]? with
  | some (.inl (t', .inl l)) => if t' = t ∧ inb i l.length = true ∧ q < 10000 then some (h.set q (.inl (t, .inl (l.set i.toNatClampNeg x)))) else none
  | _ => none
def rdJ (h : aH) (q : Nat) (i : Int32) : Option Int64 := match h[q]? with
  | some (.inl (t', .inr (.inl l))) => if t' = 2 ∧ inb i l.length = true ∧ q < 10000 then some (l.getD i.toNatClampNeg 0) else none
  | _ => none
def wrJ (h : aH) (q : Nat) (i : Int32) (x : Int64) : Option aH := match h[q]? with
  | some (.inl (t', .inr (.inl l))) => if t' = 2 ∧ inb i l.length = true ∧ q < 10000 then some (h.set q (.inl (2, .inr (.inl (l.set i.toNatClampNeg x))))) else none
  | _ => none
def rdR (h : aH) (q : Nat) (i : Int32) : Option Nat := match h[q]? with
  | some (.inl (t', .inr (.inr l))) => if (t' = 4 ∨ t' = 5) ∧ inb i l.length = true ∧ q < 10000 then l.getD i.toNatClampNeg none else none
  | _ => none
def wrR (h : aH) (q : Nat) (i : Int32) (x : Nat) : Option aH := match h[q]? with
  | some (.inl (t', .inr (.inr l))) => (match h[x]? with
    | some (.inr (ci, _)) => if ((t' = 4 ∧ ci = 1) ∨ (t' = 5 ∧ ci = 5)) ∧ inb i l.length = true ∧ q < 10000 ∧ x < 10000 then some (h.set q (.inl (t', .inr (.inr (l.set i.toNatClampNeg (some x)))))) else none
    | _ => none)
  | _ => none
def lenA (scr : List Int32) (h : aH) (q : Nat) : Option Nat := match cellAt scr h q with
  | some (.inl (t, .inl l)) => if t < 6 then some l.length else none
  | some (.inl (t, .inr (.inl l))) => if t < 6 then some l.length else none
  | some (.inl (t, .inr (.inr l))) => if t < 6 then some l.length else none
  | _ => none
/-- a whole row of numbers into another one of its kind and length -/
def cpA (h : aH) (sq dq : Nat) (n : Int32) : Option aH := match h[sq]?, h[dq]? with
  | some (.inl (t, .inl l)), some (.inl (t', .inl l')) =>
    if t = t' ∧ (t = 0 ∨ t = 1) ∧ l.length = n.toNatClampNeg ∧ l'.length = n.toNatClampNeg ∧ ¬ n < 0 ∧ sq < 10000 ∧ dq < 10000 ∧ l.all (fun x => fits (aTy t) (.int x)) = true then some (h.set dq (.inl (t, .inl l))) else none
  | _, _ => none
def nrV (n : Nat) (v : Value) : Bool := match v with
  | .ref k => !(k == n)
  | _ => true
def nrC (n : Nat) (c : aC) : Bool := match c with
  | .inr (_, fs) => fs.all (nrV n)
  | .inl (_, .inr (.inr l)) => l.all (fun k => !(k == some n))
  | _ => true
def wfN (L st : List Value) (h : aH) : Bool := L.all (nrV h.length) && (st.all (nrV h.length) && (h.all (nrC h.length) && decide (h.length < 9000)))
/-- behind a constructor: what the caller holds isn't among the cells that came -/
def okV (lo hi : Nat) (v : Value) : Bool := match v with
  | .ref k => decide (k < lo) || decide (hi ≤ k)
  | _ => true
def aDef (ci : Nat) : List Value := match ci with
  | 0 => [.null, .null, .null, .null]
  | 1 => [.int 0, .null, .null, .int 0, .null]
  | 2 => [.null, .null, .int 0]
  | 3 => [.null, .null]
  | 4 => [.null, .null, .null, .null, .null, .null, .null, .null]
  | 5 => [.int 0, .int 0, .int 0, .int 0, .int 0, .int 0, .int 0, .int 0, .null, .null, .null, .null, .null, .null, .null, .null, .null]
  | 6 => [.null, .int 0, .int 0, .int 0]
  | 7 => [.null, .null, .null, .int 0, .int 0, .int 0, .null, .int 0]
  | 8 => [.null, .null, .null, .null, .null, .null, .int 0, .null, .null, .null, .null, .null]
  | 9 => [.int 0, .null, .null, .null, .null, .null, .null, .null, .null, .null, .null, .null, .null, .null, .null, .null, .null, .null, .int 0, .int 0, .int 0, .int 0, .int 0, .int 0, .int 0, .int 0, .int 0, .int 0, .int 0, .null, .null, .null, .null, .null, .null, .null, .null, .null, .null, .null, .int 0, .null, .null, .null, .null, .null, .null, .null, .null, .null, .null, .null, .null, .null, .int 0, .int 0]
  | _ => []
def aFty (ci k : Nat) : FieldType := match ci with
  | 0 => tyX0 k
  | 1 => tyX1 k
  | 2 => tyX2 k
  | 3 => tyX3 k
  | 4 => tyX4 k
  | 5 => tyX5 k
  | 6 => tyX6 k
  | 7 => tyX7 k
  | 8 => tyX8 k
  | 9 => tyX9 k
  | _ => .int
def fInt (a b : Nat) : Bool := if a = 10 then b == 1 else (match aFty a b with
  | .object _ => false
  | .array _ => false
  | .long => false
  | _ => true)
def fKd (a b : Nat) (v : Value) : Bool := match v with
  | .int _ => fInt a b
  | .ref _ => !(fInt a b)
  | _ => false
def aFin (ci k : Nat) : Bool := match vwCl[ci]? with
  | some q => (q.2.1 k).2.2.2
  | none => true
def jmp (pc : Nat) (off : Int) : Option Nat := if 0 ≤ (pc : Int) + off then some ((pc : Int) + off).toNat else none
theorem jmp_eq {pc t : Nat} {off : Int} (h : jmp pc off = some t) : (pc : Int) + off = (t : Int) := by
  unfold jmp at h; split at h
  · cases h; omega
  · cases h
def cmpB (c : ClassFile.Cond) (x y : Int32) : Bool := match c with
  | .eq => decide (x = y)
  | .ne => !decide (x = y)
  | .lt => decide (x < y)
  | .ge => decide (y ≤ x)
  | .gt => decide (y < x)
  | .le => decide (x ≤ y)
def lI {α : Type} (L : List Value) (i : Nat) (k : Int32 → Option α) : Option α := match L[i]? with
  | some (.int x) => k x
  | _ => none
def lJ {α : Type} (L : List Value) (i : Nat) (k : Int64 → Option α) : Option α := match L[i]? with
  | some (.long x) => k x
  | _ => none
def lR {α : Type} (L : List Value) (i : Nat) (k : Nat → Option α) : Option α := match L[i]? with
  | some (.ref x) => k x
  | _ => none
theorem lI_inv {α : Type} {L : List Value} {i : Nat} {k : Int32 → Option α} {o : α} (h : lI L i k = some o) : ∃ x, L[i]? = some (.int x) ∧ k x = some o := by
  unfold lI at h; split at h
  · exact ⟨_, by assumption, h⟩
  · cases h
theorem lJ_inv {α : Type} {L : List Value} {i : Nat} {k : Int64 → Option α} {o : α} (h : lJ L i k = some o) : ∃ x, L[i]? = some (.long x) ∧ k x = some o := by
  unfold lJ at h; split at h
  · exact ⟨_, by assumption, h⟩
  · cases h
theorem lR_inv {α : Type} {L : List Value} {i : Nat} {k : Nat → Option α} {o : α} (h : lR L i k = some o) : ∃ x, L[i]? = some (.ref x) ∧ k x = some o := by
  unfold lR at h; split at h
  · exact ⟨_, by assumption, h⟩
  · cases h
abbrev aF : Type := Nat × List Value × List Value × aH
def lenO {α : Type} (n m : Nat) (x : Option α) : Option α := if n = m then x else none
theorem lenO_inv {α : Type} {n m : Nat} {x : Option α} {o : α} (h : lenO n m x = some o) : n = m ∧ x = some o := by
  unfold lenO at h; split at h
  · exact ⟨by assumption, h⟩
  · cases h
def atL {α : Type} (c : Bool) (x : Option α) : Option α := if c = true then x else none
theorem atL_inv {α : Type} {c : Bool} {x : Option α} {o : α} (h : atL c x = some o) : c = true ∧ x = some o := by
  unfold atL at h; split at h
  · exact ⟨by assumption, h⟩
  · cases h
def oB {α β : Type} (x : Option α) (k : α → Option β) : Option β := match x with
  | some v => k v
  | none => none
theorem oB_inv {α β : Type} {x : Option α} {k : α → Option β} {o : β} (h : oB x k = some o) : ∃ v, x = some v ∧ k v = some o := by
  unfold oB at h; split at h
  · exact ⟨_, rfl, h⟩
  · cases h
/-- static fields: 0 to 2 rows, 3 a flag -/
def aSv (a : Nat) : Value := if a < 3 then .ref (10000 + a) else if a = 3 then .int 1 else .retAddr 0
/-- one instruction that is no call and no return; ini: the kind of object whose constructor this is -/
def stp (scr : List Int32) (al : Bool) (ini : Option Nat) (i : Instr) (len a b pc : Nat) (L st : List Value) (h : aH) : Option aF := match i with
  | .iconst n => lenO len 1 (some (pc + 1, L, .int (Int32.ofInt n) :: st, h))
  | .bipush n => lenO len 2 (some (pc + 2, L, .int (Int8.ofInt n).toInt32 :: st, h))
  | .sipush n => lenO len 3 (some (pc + 3, L, .int (Int16.ofInt n).toInt32 :: st, h))
  | .lconst n => lenO len 1 (some (pc + 1, L, .long (Int64.ofNat (n : Nat)) :: st, h))
  | .ldc _ => lenO len 2 (some (pc + 2, L, (if b = 0 then .int (Int32.ofNat a) else .ref (20000 + a)) :: st, h))
  | .ldc_w _ => lenO len 3 (some (pc + 3, L, (if b = 0 then .int (Int32.ofNat a) else .ref (20000 + a)) :: st, h))
  | .ldc2_w _ => lenO len 3 (some (pc + 3, L, .long (Int64.ofNat a) :: st, h))
  | .iload_n k => lenO len 1 (lI L k fun x => some (pc + 1, L, .int x :: st, h))
  | .iload k => lenO len 2 (lI L k fun x => some (pc + 2, L, .int x :: st, h))
  | .lload_n k => lenO len 1 (lJ L k fun x => some (pc + 1, L, .long x :: st, h))
  | .lload k => lenO len 2 (lJ L k fun x => some (pc + 2, L, .long x :: st, h))
  | .aload_n k => lenO len 1 (lR L k fun x => some (pc + 1, L, .ref x :: st, h))
  | .aload k => lenO len 2 (lR L k fun x => some (pc + 2, L, .ref x :: st, h))
  | .istore_n k => lenO len 1 (pI st fun x r => atL (decide ((k : Nat) < L.length)) (some (pc + 1, s1L L k (.int x), r, h)))
  | .istore k => lenO len 2 (pI st fun x r => atL (decide (k < L.length)) (some (pc + 2, s1L L k (.int x), r, h)))
  | .lstore_n k => lenO len 1 (pL st fun x r => atL (decide ((k : Nat) + 1 < L.length)) (some (pc + 1, s2L L k (.long x), r, h)))
  | .lstore k => lenO len 2 (pL st fun x r => atL (decide (k + 1 < L.length)) (some (pc + 2, s2L L k (.long x), r, h)))
  | .astore_n k => lenO len 1 (pR st fun x r => atL (decide ((k : Nat) < L.length)) (some (pc + 1, s1L L k (.ref x), r, h)))
  | .astore k => lenO len 2 (pR st fun x r => atL (decide (k < L.length)) (some (pc + 2, s1L L k (.ref x), r, h)))
  | .iinc k n => lenO len 3 (lI L k fun x => atL (decide (k < L.length)) (some (pc + 3, s1L L k (.int (x + Int32.ofInt n)), st, h)))
  | .iadd => lenO len 1 (pI st fun y r => pI r fun x r => some (pc + 1, L, .int (x + y) :: r, h))
  | .isub => lenO len 1 (pI st fun y r => pI r fun x r => some (pc + 1, L, .int (x - y) :: r, h))
  | .imul => lenO len 1 (pI st fun y r => pI r fun x r => some (pc + 1, L, .int (x * y) :: r, h))
  | .iand => lenO len 1 (pI st fun y r => pI r fun x r => some (pc + 1, L, .int (x &&& y) :: r, h))
  | .ior => lenO len 1 (pI st fun y r => pI r fun x r => some (pc + 1, L, .int (x ||| y) :: r, h))
  | .ixor => lenO len 1 (pI st fun y r => pI r fun x r => some (pc + 1, L, .int (x ^^^ y) :: r, h))
  | .idiv => lenO len 1 (pI st fun y r => pI r fun x r => atL (!decide (y = 0)) (some (pc + 1, L, .int (x / y) :: r, h)))
  | .irem => lenO len 1 (pI st fun y r => pI r fun x r => atL (!decide (y = 0)) (some (pc + 1, L, .int (x - x / y * y) :: r, h)))
  | .ineg => lenO len 1 (pI st fun x r => some (pc + 1, L, .int (-x) :: r, h))
  | .ishl => lenO len 1 (pI st fun y r => pI r fun x r => some (pc + 1, L, .int (x <<< (y &&& 31)) :: r, h))
  | .ishr => lenO len 1 (pI st fun y r => pI r fun x r => some (pc + 1, L, .int (x >>> (y &&& 31)) :: r, h))
  | .iushr => lenO len 1 (pI st fun y r => pI r fun x r => some (pc + 1, L, .int (x.toUInt32 >>> (y.toUInt32 &&& Int32.toUInt32 31)).toInt32 :: r, h))
  | .ladd => lenO len 1 (pL st fun y r => pL r fun x r => some (pc + 1, L, .long (x + y) :: r, h))
  | .lsub => lenO len 1 (pL st fun y r => pL r fun x r => some (pc + 1, L, .long (x - y) :: r, h))
  | .lmul => lenO len 1 (pL st fun y r => pL r fun x r => some (pc + 1, L, .long (x * y) :: r, h))
  | .land => lenO len 1 (pL st fun y r => pL r fun x r => some (pc + 1, L, .long (x &&& y) :: r, h))
  | .lor => lenO len 1 (pL st fun y r => pL r fun x r => some (pc + 1, L, .long (x ||| y) :: r, h))
  | .ldiv => lenO len 1 (pL st fun y r => pL r fun x r => atL (!decide (y = 0)) (some (pc + 1, L, .long (x / y) :: r, h)))
  | .lrem => lenO len 1 (pL st fun y r => pL r fun x r => atL (!decide (y = 0)) (some (pc + 1, L, .long (x - x / y * y) :: r, h)))
  | .lshl => lenO len 1 (pI st fun y r => pL r fun x r => some (pc + 1, L, .long (x <<< (y.toInt64 &&& 63)) :: r, h))
  | .lcmp => lenO len 1 (pL st fun y r => pL r fun x r => some (pc + 1, L, .int (lg_cmp x y) :: r, h))
  | .i2l => lenO len 1 (pI st fun x r => some (pc + 1, L, .long x.toInt64 :: r, h))
  | .i2b => lenO len 1 (pI st fun x r => some (pc + 1, L, .int x.toInt8.toInt32 :: r, h))
  | .i2c => lenO len 1 (pI st fun x r => some (pc + 1, L, .int (x.toUInt32 % 65536).toInt32 :: r, h))
  | .dup => lenO len 1 (match st with | v :: r => atL (decide (v.category = 1)) (some (pc + 1, L, v :: v :: r, h)) | _ => none)
  | .dup2 => lenO len 1 (match st with | v :: w :: r => atL (decide (v.category = 1) && decide (w.category = 1)) (some (pc + 1, L, v :: w :: v :: w :: r, h)) | _ => none)
  | .pop => lenO len 1 (match st with | v :: r => atL (decide (v.category = 1)) (some (pc + 1, L, r, h)) | _ => none)
  | .ifCond c off => lenO len 3 (pI st fun x r => oB (jmp pc off) fun t => some (if cmpB c x 0 then t else pc + 3, L, r, h))
  | .if_icmp c off => lenO len 3 (pI st fun y r => pI r fun x r => oB (jmp pc off) fun t => some (if cmpB c x y then t else pc + 3, L, r, h))
  | .goto off => lenO len 3 (oB (jmp pc off) fun t => some (t, L, st, h))
  | .tableswitch dflt lo hi offs => pI st fun x r => oB (if x.toInt < lo ∨ hi < x.toInt then some dflt else offs[(x.toInt - lo).toNat]?) fun off => oB (jmp pc off) fun t => some (t, L, r, h)
  | .lookupswitch dflt ps => pI st fun x r => atL ((ps.toList.zip (ps.toList.drop 1)).all (fun (a, next) => a.1 < next.1)) (oB (jmp pc (Op.lookupswitch.offset ps.toList dflt x.toInt)) fun t => some (t, L, r, h))
  | .getfield _ => lenO len 3 (pR st fun q r => oB (rdF scr h q a b) fun v => atL (fKd a b v) (some (pc + 3, L, v :: r, h)))
  | .getstatic _ => lenO len 3 (some (pc + 3, L, aSv a :: st, h))
  | .putfield _ => lenO len 3 (match st with
    | v :: .ref q :: r => atL (decide (narrow (aFty a b) v = v) && (fits (aFty a b) v && (!(aFin a b) || decide (ini = some a)))) (oB (wrF h q a b v) fun h' => some (pc + 3, L, r, h'))
    | _ => none)
  | .iaload => lenO len 1 (pI st fun x r => pR r fun q r => oB (rdA scr h q 1 x) fun v => some (pc + 1, L, .int v :: r, h))
  | .baload => lenO len 1 (pI st fun x r => pR r fun q r => oB (match rdA scr h q 0 x with | some v => some v | none => rdA scr h q 3 x) fun v => some (pc + 1, L, .int v :: r, h))
  | .laload => lenO len 1 (pI st fun x r => pR r fun q r => oB (rdJ h q x) fun v => some (pc + 1, L, .long v :: r, h))
  | .aaload => lenO len 1 (pI st fun x r => pR r fun q r => oB (rdR h q x) fun v => some (pc + 1, L, .ref v :: r, h))
  | .iastore => lenO len 1 (pI st fun v r => pI r fun x r => pR r fun q r => oB (wrA h q 1 x v) fun h' => some (pc + 1, L, r, h'))
  | .bastore => lenO len 1 (pI st fun v r => pI r fun x r => pR r fun q r => oB (match wrA h q 0 x v.toInt8.toInt32 with | some v => some v | none => wrA h q 3 x (v &&& 1)) fun h' => some (pc + 1, L, r, h'))
  | .lastore => lenO len 1 (pL st fun v r => pI r fun x r => pR r fun q r => oB (wrJ h q x v) fun h' => some (pc + 1, L, r, h'))
  | .aastore => lenO len 1 (pR st fun v r => pI r fun x r => pR r fun q r => oB (wrR h q x v) fun h' => some (pc + 1, L, r, h'))
  | .arraylength => lenO len 1 (pR st fun q r => oB (lenA scr h q) fun n => some (pc + 1, L, .int (Int32.ofNat n) :: r, h))
  | .new _ => lenO len 3 (atL (al && (wfN L st h && decide (a < 10))) (some (pc + 3, L, .ref h.length :: st, h ++ [.inr (a, aDef a)])))
  | .newarray t => lenO len 2 (pI st fun n r => atL (al && (wfN L r h && (!decide (n < 0) && decide (n.toNatClampNeg ≤ 10000)))) (match t with
    | .byte => some (pc + 2, L, .ref h.length :: r, h ++ [.inl (0, .inl (List.replicate n.toNatClampNeg 0))])
    | .int => some (pc + 2, L, .ref h.length :: r, h ++ [.inl (1, .inl (List.replicate n.toNatClampNeg 0))])
    | .boolean => some (pc + 2, L, .ref h.length :: r, h ++ [.inl (3, .inl (List.replicate n.toNatClampNeg 0))])
    | .long => some (pc + 2, L, .ref h.length :: r, h ++ [.inl (2, .inr (.inl (List.replicate n.toNatClampNeg 0)))])
    | _ => none))
  | .anewarray _ => lenO len 3 (pI st fun n r => atL (al && (wfN L r h && (!decide (n < 0) && (decide (n.toNatClampNeg ≤ 10000) && (decide (a = 4) || decide (a = 5)))))) (some (pc + 3, L, .ref h.length :: r, h ++ [.inl (a, .inr (.inr (List.replicate n.toNatClampNeg none)))])))
  | _ => none
