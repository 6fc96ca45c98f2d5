-- ===== every row of the tables decodes to its instruction, and its words stand =====
def m4 (T : List (Nat × Nat × Nat × Nat × Nat)) (a b c d : Nat) : Bool := T.any (fun q => q.1 == a && (q.2.1 == b && (q.2.2.1 == c && q.2.2.2.1 == d)))
def m3 (T : List (Nat × Nat × Nat × Nat)) (a b c : Nat) : Bool := T.any (fun q => q.1 == a && (q.2.1 == b && q.2.2.1 == c))
def okRb (own : Nat) (i : Instr) (a b : Nat) : Bool := match i with
  | .ldc k => if b = 0 then m3 ksT own k a else srT.any (fun q => q.1 == own && (q.2.1 == k && q.2.2 == a))
  | .ldc_w k => if b = 0 then m3 ksT own k a else srT.any (fun q => q.1 == own && (q.2.1 == k && q.2.2 == a))
  | .ldc2_w k => m3 klT own k a
  | .getfield k => m4 flT own k a b || (a == 10 && m3 fsT own k b)
  | .putfield k => m4 flT own k a b
  | .getstatic k => m3 nsT own k a
  | .new k => m3 clT own k a
  | .anewarray k => (a == 4 && m3 clT own k 1) || (a == 5 && m3 clT own k 5)
  | .invokevirtual k => m4 mlT own k a b && b == 0
  | .invokestatic k => m4 mlT own k a b && (b == 1 || b == 4)
  | .invokespecial k => (m4 mlT own k a b && (b == 2 || b == 3)) || (m4 mlT own k a 5 && b == 2)
  | _ => true
def chkR (q : aM) (r : aRow) : Bool := decide (decode q.2.1 r.1 = .ok (r.2.1, r.2.2.1)) && okRb q.2.2.2.2.2.1 r.2.1 r.2.2.2.1 r.2.2.2.2

theorem all_cut {α : Type} {l : List α} {p : α → Bool} (n : Nat) (h1 : (l.take n).all p = true) (h2 : (l.drop n).all p = true) : l.all p = true := by
  rw [← List.take_append_drop n l, List.all_append, h1, h2]; rfl
