variable {scr : List Int32}
-- ===== both sides: end, which laws there are =====
section SP10
variable {f : Nat → Nat → Int32} {g : Nat → List Int32} {j : Nat → List Int64} {c : Value} {d : Nat}
/-- end: the answer, and whether it happens -/
theorem sp93 {n : Int32} {T : Int32 → aH → Prop} : vI scr d 93 [.ref 0, .int n] (mk f g j c) T = (if ¬ n < 0 ∧ n ≤ f 1 1 then T n (mk (up2 f 1 1 n) g j c) else T (-1) (mk f g j c)) := by
  unfold vI
  rw [v93_ok, en93, b93_0]
  simp only [r_top_tape, i_tape_length, p_tape_length, ex_i, true_and]
  by_cases e1 : n < 0 <;> by_cases e2 : n ≤ f 1 1 <;> simp [e1, e2]
theorem sp140 {n : Int32} {T : Int32 → aH → Prop} : vI scr d 140 [.ref 125, .int n] (mk f g j c) T = (if ¬ n < 0 ∧ n ≤ f 125 19 then T n (mk (up2 f 125 19 n) g j c) else T (-1) (mk f g j c)) := by
  unfold vI
  rw [v140_ok, en140, b140_0]
  simp only [i_mo_taped, p_mo_taped, ex_i, true_and]
  by_cases e1 : n < 0 <;> by_cases e2 : n ≤ f 125 19 <;> simp [e1, e2]
def cwB (f : Nat → Nat → Int32) (l : Int32) : Bool := !decide (f 3 1 ≤ 0) && (!decide (l < 0) && (!decide (f 0 6 ≤ l) && !decide (6 ≤ l)))
theorem sp119 {l : Int32} {T : Int32 → aH → Prop} : vI scr d 119 [.ref 0, .int l] (mk f g j c) T = T (bz (cwB f l)) (mk f g j c) := by
  unfold vI
  rw [v119_ok, en119, b119_0]
  simp only [r_top_now, i_top_lawCount, i_sc_rows (p := 3) (Or.inl rfl), ex_i, true_and]
  unfold cwB bz
  repeat' split
  all_goals simp_all
def lwB (f : Nat → Nat → Int32) (l : Int32) : Bool := btw l 0 (f 125 23 - 1)
theorem sp172 {l : Int32} {T : Int32 → aH → Prop} : vI scr (d + 1) 172 [.ref 125, .int l] (mk f g j c) T = T (bz (lwB f l)) (mk f g j c) := by
  unfold vI
  rw [v172_ok, en172, b172_0]
  simp only [i_mo_laws, sp121_0, bz_and, ex_i, true_and]
  rfl
theorem sp121_200 {x : Int32} {h : aH} {T : Int32 → aH → Prop} : sI scr d 121 [.long x.toInt64, .long 0, .long 200] h T = T (bz (btw x 0 200)) h := sp121 (lo := 0) (hi := 200)
def hBm (g : Nat → List Int32) (x : Int32) : Bool := btw x 0 (lg (g 126) 3 - 1)
theorem sp185 (h6 : (g 126).length = 6) {x : Int32} {T : Int32 → aH → Prop} : vI scr (d + 1) 185 [.ref 125, .int x] (mk f g j c) T = T (bz (hBm g x)) (mk f g j c) := by
  unfold vI
  rw [v185_ok, en185, b185_0]
  simp only [r_mo_scalar, a_mo_scalar, h6, inb_lit6, sp121_0, bz_and, ex_i, true_and]
  rfl
def asB (f : Nat → Nat → Int32) (g : Nat → List Int32) (l n : Int32) : Bool := !decide (lg (g 126) 0 ≤ 0) && (lwB f l && btw n 0 200)
theorem sp195 (h6 : (g 126).length = 6) {l n : Int32} {T : Int32 → aH → Prop} : vI scr (d + 2) 195 [.ref 125, .int l, .int n] (mk f g j c) T = T (bz (asB f g l n)) (mk f g j c) := by
  unfold vI
  rw [v195_ok, en195, b195_0]
  simp only [sp124 h6, sp172, sp121_200, bz_0, ex_i, true_and]
  unfold asB
  cases lwB f l <;> cases btw n 0 200 <;> by_cases e : lg (g 126) 0 ≤ 0 <;> simp [e, bz]
end SP10
