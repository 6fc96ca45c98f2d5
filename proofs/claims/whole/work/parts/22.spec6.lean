variable {scr : List Int32}
-- ===== the model's small questions =====
section SP6
variable {f : Nat → Nat → Int32} {g : Nat → List Int32} {j : Nat → List Int64} {c : Value} {d : Nat}
theorem cmp_lt (x y : Int64) : lg_cmp x y < 0 ↔ x < y := by
  unfold lg_cmp
  by_cases h1 : y < x
  · have : ¬ x < y := by rw [Int64.lt_iff_toInt_lt] at h1 ⊢; omega
    simp [h1, this]
  · by_cases h2 : x = y
    · simp [h2]
    · have : x < y := by
        rw [Int64.lt_iff_toInt_lt] at h1 ⊢
        have h3 : x.toInt ≠ y.toInt := fun q => h2 (Int64.toInt_inj.mp q)
        omega
      simp [h1, h2, this]
theorem cmp_gt (x y : Int64) : 0 < lg_cmp x y ↔ y < x := by
  unfold lg_cmp
  by_cases h1 : y < x
  · simp [h1]
  · by_cases h2 : x = y
    · simp [h2]
    · simp [h1, h2]
theorem w_lt (x y : Int32) : x.toInt64 < y.toInt64 ↔ x < y := by
  rw [Int64.lt_iff_toInt_lt, Int32.lt_iff_toInt_lt, Int32.toInt_toInt64, Int32.toInt_toInt64]
/-- from lo to hi -/
def btw (x lo hi : Int32) : Bool := !decide (x < lo) && !decide (hi < x)
theorem sp121 {x lo hi : Int32} {h : aH} {T : Int32 → aH → Prop} : sI scr d 121 [.long x.toInt64, .long lo.toInt64, .long hi.toInt64] h T = T (bz (btw x lo hi)) h := by
  unfold sI
  rw [en121, b121_0]
  simp only [cmp_lt, cmp_gt, w_lt, ex_i]
  unfold btw
  by_cases h1 : x < lo <;> by_cases h2 : hi < x <;> simp [h1, h2, bz]
theorem sp121_0 {x hi : Int32} {h : aH} {T : Int32 → aH → Prop} : sI scr d 121 [.long x.toInt64, .long 0, .long hi.toInt64] h T = T (bz (btw x 0 hi)) h := sp121 (lo := 0)
theorem sp121_12 {x hi : Int32} {h : aH} {T : Int32 → aH → Prop} : sI scr d 121 [.long x.toInt64, .long 12, .long hi.toInt64] h T = T (bz (btw x 12 hi)) h := sp121 (lo := 12)
theorem sp122 {x : Int32} {h : aH} {T : Int32 → aH → Prop} : sI scr d 122 [.int x] h T = T (if 0 ≤ x then x else -x) h := by
  unfold sI
  rw [en122, b122_0]
  simp only [ex_i]
  split <;> rfl
def flr (x y : Int32) : Int32 := if 0 ≤ irm x y then x / y else x / y - 1
theorem sp123 {x y : Int32} (hy : ¬ y = 0) {h : aH} {T : Int32 → aH → Prop} : sI scr d 123 [.int x, .int y] h T = T (flr x y) h := by
  unfold sI
  rw [en123, b123_0]
  simp only [ex_i, hy, not_false_eq_true, true_and]
  unfold flr
  split <;> rfl
theorem sp129 {x : Int32} {T : Int32 → aH → Prop} {h : aH} : sI scr d 129 [.int x] h T = T (bz (gB x)) h := by
  unfold sI
  rw [en129, b129_0]
  simp only [b129_9, ex_i]
  unfold gB bz
  repeat' split
  all_goals simp_all
def apt (x y : Int32) : Int32 := (irm x 12 - irm y 12) * (irm x 12 - irm y 12) + (x / 12 - y / 12) * (x / 12 - y / 12)
theorem sp133 {x y : Int32} {T : Int32 → aH → Prop} {h : aH} : sI scr d 133 [.int x, .int y] h T = T (apt x y) h := by
  unfold sI
  rw [en133, b133_0]
  simp only [ex_i]
  rfl
theorem sp90 {x y : Int32} {T : Int32 → aH → Prop} {h : aH} : sI scr d 90 [.int x, .int y] h T = T (apt x y) h := by
  unfold sI
  rw [en90, b90_0]
  simp only [ex_i]
  rfl
-- scalars: 0 columns, 1 rows, 2 people, 3 heralds, 4 steps, 5 spoors
theorem inb_lit6 : inb 0 6 = true ∧ inb 1 6 = true ∧ inb 2 6 = true ∧ inb 3 6 = true ∧ inb 4 6 = true ∧ inb 5 6 = true := by decide
theorem sp124 (h6 : (g 126).length = 6) {T : Int32 → aH → Prop} : vI scr d 124 [.ref 125] (mk f g j c) T = T (bz (!decide (lg (g 126) 0 ≤ 0))) (mk f g j c) := by
  unfold vI
  rw [v124_ok, en124, b124_0]
  simp only [r_mo_scalar, a_mo_scalar, h6, inb_lit6, ex_i, true_and]
  by_cases e : lg (g 126) 0 ≤ 0 <;> simp [e, bz]
def cBm (g : Nat → List Int32) (x y : Int32) : Bool := btw x 0 (lg (g 126) 0 - 1) && btw y 0 (lg (g 126) 1 - 1)
theorem sp125 (h6 : (g 126).length = 6) {x y : Int32} {T : Int32 → aH → Prop} : vI scr (d + 1) 125 [.ref 125, .int x, .int y] (mk f g j c) T = T (bz (cBm g x y)) (mk f g j c) := by
  unfold vI
  rw [v125_ok, en125, b125_0]
  simp only [r_mo_scalar, a_mo_scalar, h6, inb_lit6, sp121_0, bz_0, ex_i, true_and]
  unfold cBm
  cases btw x 0 (lg (g 126) 0 - 1) <;> cases btw y 0 (lg (g 126) 1 - 1) <;> simp [bz]
theorem sp126 (h6 : (g 126).length = 6) {x : Int32} {T : Int32 → aH → Prop} : vI scr (d + 2) 126 [.ref 125, .int x] (mk f g j c) T = T (bz (cBm g (irm x 12) (x / 12))) (mk f g j c) := by
  unfold vI
  rw [v126_ok, en126, b126_0]
  simp only [sp125 h6, bz_and, ex_i, true_and]
def pBm (g : Nat → List Int32) (x : Int32) : Bool := btw x 0 (lg (g 126) 2 - 1)
theorem sp127 (h6 : (g 126).length = 6) {x : Int32} {T : Int32 → aH → Prop} : vI scr (d + 1) 127 [.ref 125, .int x] (mk f g j c) T = T (bz (pBm g x)) (mk f g j c) := by
  unfold vI
  rw [v127_ok, en127, b127_0]
  simp only [r_mo_scalar, a_mo_scalar, h6, inb_lit6, sp121_0, bz_and, ex_i, true_and]
  rfl
def whB (g : Nat → List Int32) (x : Int32) : Bool := pBm g x || btw x 12 (12 + lg (g 126) 3 - 1)
theorem sp128 (h6 : (g 126).length = 6) {x : Int32} {T : Int32 → aH → Prop} : vI scr (d + 2) 128 [.ref 125, .int x] (mk f g j c) T = T (bz (whB g x)) (mk f g j c) := by
  unfold vI
  rw [v128_ok, en128, b128_0]
  simp only [sp127 h6, r_mo_scalar, a_mo_scalar, h6, inb_lit6, sp121_12, b128_31, bz_0, ex_i, true_and]
  unfold whB
  cases pBm g x <;> cases btw x 12 (12 + lg (g 126) 3 - 1) <;> simp [bz]
end SP6
