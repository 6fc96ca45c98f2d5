variable {scr : List Int32}
-- ===== the model: the cell beside; scenes: spoors, all copied =====
section SP8
variable {f : Nat → Nat → Int32} {g : Nat → List Int32} {j : Nat → List Int64} {c : Value} {d p q : Nat}
theorem sp121_13 {x : Int32} {h : aH} {T : Int32 → aH → Prop} : sI scr d 121 [.long x.toInt64, .long 1, .long 3] h T = T (bz (btw x 1 3)) h := sp121 (lo := 1) (hi := 3)
theorem sp121_57 {x : Int32} {h : aH} {T : Int32 → aH → Prop} : sI scr d 121 [.long x.toInt64, .long 5, .long 7] h T = T (bz (btw x 5 7)) h := sp121 (lo := 5) (hi := 7)
theorem sp121_35 {x : Int32} {h : aH} {T : Int32 → aH → Prop} : sI scr d 121 [.long x.toInt64, .long 3, .long 5] h T = T (bz (btw x 3 5)) h := sp121 (lo := 3) (hi := 5)
def dxm (w : Int32) : Int32 := if btw w 1 3 = true then 1 else if btw w 5 7 = true then -1 else 0
def dym (w : Int32) : Int32 := if btw w 3 5 = true then 1 else if w = 0 ∨ w = 1 ∨ w = 7 then -1 else 0
def besm (g : Nat → List Int32) (x w : Int32) : Int32 := if cBm g (irm x 12 + dxm w) (x / 12 + dym w) = true then 12 * (x / 12 + dym w) + (irm x 12 + dxm w) else -1
theorem if_fold {b : Bool} {A B : Int32} {T : Int32 → aH → Prop} {m : aH} : (if b = false then T A m else T B m) = T (if b = true then B else A) m := by cases b <;> rfl
theorem sp132 (h6 : (g 126).length = 6) {x w : Int32} {T : Int32 → aH → Prop} : vI scr (d + 2) 132 [.ref 125, .int x, .int w] (mk f g j c) T = T (besm g x w) (mk f g j c) := by
  unfold vI
  rw [v132_ok, en132, b132_0]
  simp only [sp121_13, sp121_57, b132_39, sp121_35, b132_78, b132_83, sp125 h6, bz_0, ex_i, true_and, if_fold]
  unfold besm dxm dym
  cases btw w 1 3 <;> cases btw w 5 7 <;> cases btw w 3 5 <;> by_cases e0 : w = 0 <;> by_cases e1 : w = 1 <;> by_cases e7 : w = 7 <;> simp only [e0, e1, e7, if_true, if_false, Bool.false_eq_true, Bool.true_eq_false, or_true, true_or, or_self, or_false, false_or]
  all_goals (first | rfl | simp_all)
/-- the eight ways are the same on both sides -/
theorem way_xy : ∀ w, w < 8 → dxm (nI w) = wyX (nI w) ∧ dym (nI w) = wyY (nI w) := by decide +kernel
def spoG (f : Nat → Nat → Int32) (g : Nat → List Int32) (p : Nat) (s q o : Int32) : Nat → List Int32 := up1 (up1 (up1 g (p + 7) (ls (g (p + 7)) (f p 7) s)) (p + 8) (ls (g (p + 8)) (f p 7) q)) (p + 9) (ls (g (p + 9)) (f p 7) o)
theorem sp62 (hp : isSc p) (hl : scLen g p) (h0 : ¬ f p 7 < 0) (h1 : ¬ 40 ≤ f p 7) {s w o : Int32} {T : aH → Prop} : vV scr d 62 [.ref p, .int s, .int w, .int o] (mk f g j c) T = T (mk (up2 f p 7 (f p 7 + 1)) (spoG f g p s w o) j c) := by
  obtain ⟨-, -, -, -, -, -, h7, h8, h9⟩ := hl
  have hin : inb (f p 7) 40 = true := inb_of (n := 40) (by decide) h0 h1
  unfold vV
  rw [v62_ok hp, en62, b62_0]
  simp only [i_sc_spoors hp, p_sc_spoors hp, r_sc_spoorStep hp, r_sc_spoorPerson hp, r_sc_spoorOther hp, w_sc_spoorStep hp, w_sc_spoorPerson hp, w_sc_spoorOther hp, h0, h1, if_false, h7, h8, h9, hin, true_and, up1_ne (show ¬ p + 8 = p + 7 by omega), up1_ne (show ¬ p + 9 = p + 8 by omega), up1_ne (show ¬ p + 9 = p + 7 by omega)]
  rfl
end SP8
