variable {scr : List Int32}
-- ===== what methods answer: scenes =====
def bz (b : Bool) : Int32 := if b then 1 else 0
theorem bz_0 {b : Bool} : (bz b = 0) = (b = false) := by cases b <;> decide
theorem bz_t : bz true = 1 := rfl
theorem bz_f : bz false = 0 := rfl
theorem bz_and (b : Bool) : bz b &&& 1 = bz b := by cases b <;> decide
theorem ex_i {v : Int32} {T : Int32 → aH → Prop} {h : aH} : (∃ x, some (Value.int v) = some (Value.int x) ∧ T x h) = T v h := by simp
theorem ex_j {v : Int64} {T : Int64 → aH → Prop} {h : aH} : (∃ x, some (Value.long v) = some (Value.long x) ∧ T x h) = T v h := by simp
theorem ex_r {v : Nat} {T : Nat → aH → Prop} {h : aH} : (∃ x, some (Value.ref v) = some (Value.ref x) ∧ T x h) = T v h := by simp
theorem ex_v {T : aH → Prop} {h : aH} : ((none : Option Value) = none ∧ T h) = T h := by simp
/-- a number from 0 on and below n -/
theorem lit_of {x : Int32} {n : Nat} (hn : n < 2 ^ 31) (h0 : ¬ x < 0) (h1 : ¬ nI n ≤ x) : ∃ a, a < n ∧ x = nI a := by
  rcases pk_ix x hn with h | h | h
  · exact absurd h h0
  · exact absurd h h1
  · exact h
theorem inb_nI {a n : Nat} (ha : a < 2 ^ 31) : inb (nI a) n = decide (a < n) := by
  by_cases h : a < n
  · have : inb (nI a) n = true := inb_iff.mpr (by
      unfold vp_in
      rw [nI_clamp ha]
      rintro (q | q)
      · exact nI_pos ha q
      · omega)
    simp [h, this]
  · have : ¬ inb (nI a) n = true := fun q => h (by
      have := lt_of_inb q
      rwa [nI_clamp ha] at this)
    simp [h, this]
def cB (cols rows x y : Int32) : Bool := !decide (x < 0) && (!decide (y < 0) && (!decide (cols ≤ x) && (!decide (rows ≤ y) && (!decide (12 ≤ x) && !decide (12 ≤ y)))))
def pB (people q : Int32) : Bool := !decide (q < 0) && (!decide (people ≤ q) && !decide (12 ≤ q))
def hB (heralds q : Int32) : Bool := !decide (q < 0) && (!decide (heralds ≤ q) && !decide (2 ≤ q))
def anyB (people heralds q : Int32) : Bool := pB people q || (!decide (q < 12) && hB heralds (q - 12))
def gB (k : Int32) : Bool := decide (k = 0) || decide (k = 3)
theorem cB_xy {cols rows x y : Int32} (h : cB cols rows x y = true) : ∃ a b : Nat, a < 12 ∧ b < 12 ∧ x = nI a ∧ y = nI b ∧ 12 * y + x = nI (12 * b + a) := by
  simp only [cB, Bool.and_eq_true, Bool.not_eq_true', decide_eq_false_iff_not] at h
  obtain ⟨h1, h2, -, -, h5, h6⟩ := h
  obtain ⟨a, ha, rfl⟩ := lit_of (n := 12) (by decide) h1 h5
  obtain ⟨b, hb, rfl⟩ := lit_of (n := 12) (by decide) h2 h6
  refine ⟨a, b, ha, hb, rfl, rfl, ?_⟩
  rw [show (12 : Int32) = nI 12 from rfl, pk_mul, nI_add]
section SP1
variable {f : Nat → Nat → Int32} {g : Nat → List Int32} {j : Nat → List Int64} {c : Value} {d p : Nat}
theorem sp53 (hp : isSc p) {q : Int32} {T : Int32 → aH → Prop} : vI scr d 53 [.ref p, .int q] (mk f g j c) T = T (bz (pB (f p 3) q)) (mk f g j c) := by
  unfold vI
  rw [v53_ok hp, en53, b53_0]
  simp only [i_sc_people hp, ex_i, true_and]
  unfold pB bz
  repeat' split
  all_goals simp_all
theorem sp54 (hp : isSc p) {q : Int32} {T : Int32 → aH → Prop} : vI scr d 54 [.ref p, .int q] (mk f g j c) T = T (bz (hB (f p 4) q)) (mk f g j c) := by
  unfold vI
  rw [v54_ok hp, en54, b54_0]
  simp only [i_sc_heralds hp, ex_i, true_and]
  unfold hB bz
  repeat' split
  all_goals simp_all
theorem sp55 (hp : isSc p) {q : Int32} {T : Int32 → aH → Prop} : vI scr (d + 1) 55 [.ref p, .int q] (mk f g j c) T = T (bz (anyB (f p 3) (f p 4) q)) (mk f g j c) := by
  unfold vI
  rw [v55_ok hp, en55, b55_0]
  simp only [sp53 hp, sp54 hp, b55_25, ex_i, true_and, bz_0]
  unfold anyB
  cases pB (f p 3) q <;> cases hB (f p 4) (q - 12) <;> by_cases h : q < 12 <;> simp [h, bz]
theorem sp56 (hp : isSc p) {x y : Int32} {T : Int32 → aH → Prop} : vI scr d 56 [.ref p, .int x, .int y] (mk f g j c) T = T (bz (cB (f p 0) (f p 1) x y)) (mk f g j c) := by
  unfold vI
  rw [v56_ok hp, en56, b56_0]
  simp only [i_sc_columns hp, i_sc_rows hp, ex_i, true_and]
  unfold cB bz
  repeat' split
  all_goals simp_all
theorem sp63 {x : Int32} {T : Int32 → aH → Prop} {h : aH} : sI scr d 63 [.int x] h T = T (bz (gB x)) h := by
  unfold sI
  rw [en63, b63_0]
  simp only [b63_9, ex_i]
  unfold gB bz
  repeat' split
  all_goals simp_all
/-- FREE: a cell of the scene, plain or a gate, nobody there -/
def frB (f : Nat → Nat → Int32) (g : Nat → List Int32) (p : Nat) (x y : Int32) : Bool := cB (f p 0) (f p 1) x y && (gB (lg (g (p + 1)) (12 * y + x)) && decide (lg (g (p + 2)) (12 * y + x) < 0))
theorem sp57 (hp : isSc p) (h1 : (g (p + 1)).length = 144) (h2 : (g (p + 2)).length = 144) {x y : Int32} {T : Int32 → aH → Prop} : vI scr (d + 1) 57 [.ref p, .int x, .int y] (mk f g j c) T = T (bz (frB f g p x y)) (mk f g j c) := by
  unfold vI
  rw [v57_ok hp, en57, b57_0]
  simp only [sp56 hp, r_sc_kinds hp, r_sc_standing hp, a_sc_kinds hp, a_sc_standing hp, sp63, ex_i, true_and, bz_0, h1, h2]
  unfold frB
  by_cases hc : cB (f p 0) (f p 1) x y = true
  · obtain ⟨a, b, ha, hb, -, -, e⟩ := cB_xy hc
    have hin : inb (12 * y + x) 144 = true := by rw [e, inb_nI (by omega)]; simp; omega
    simp only [hc, hin, Bool.true_and, if_false, true_and, Bool.true_eq_false]
    cases gB (lg (g (p + 1)) (12 * y + x))
    · simp [bz]
    · by_cases hs : lg (g (p + 2)) (12 * y + x) < 0
      · have hs2 : ¬ 0 ≤ lg (g (p + 2)) (12 * y + x) := Int32.not_le.mpr hs
        simp [hs, hs2, bz]
      · have hs2 : 0 ≤ lg (g (p + 2)) (12 * y + x) := Int32.not_lt.mp hs
        simp [hs, hs2, bz]
  · have hc : cB (f p 0) (f p 1) x y = false := by simpa using hc
    simp [hc, bz]

def wyX (w : Int32) : Int32 := lg [0, 1, 1, 1, 0, -1, -1, -1] w
def wyY (w : Int32) : Int32 := lg [-1, -1, 0, 1, 1, 1, 0, -1] w
theorem ro_X {x : Int32} {T : Int32 → Prop} {h : aH} : aI scr h 10000 x T = (inb x 8 = true ∧ T (wyX x)) := by
  unfold aI rdA cellAt
  apply propext
  constructor
  · rintro ⟨v, hv, ht⟩
    have hv : (if 1 = 1 ∧ inb x 8 = true then some (wyX x) else none) = some v := hv
    split at hv
    · rename_i e; cases hv; exact ⟨e.2, ht⟩
    · cases hv
  · rintro ⟨e, ht⟩
    refine ⟨wyX x, ?_, ht⟩
    show (if 1 = 1 ∧ inb x 8 = true then some (wyX x) else none) = some (wyX x)
    rw [if_pos ⟨rfl, e⟩]
theorem ro_Y {x : Int32} {T : Int32 → Prop} {h : aH} : aI scr h 10001 x T = (inb x 8 = true ∧ T (wyY x)) := by
  unfold aI rdA cellAt
  apply propext
  constructor
  · rintro ⟨v, hv, ht⟩
    have hv : (if 1 = 1 ∧ inb x 8 = true then some (wyY x) else none) = some v := hv
    split at hv
    · rename_i e; cases hv; exact ⟨e.2, ht⟩
    · cases hv
  · rintro ⟨e, ht⟩
    refine ⟨wyY x, ?_, ht⟩
    show (if 1 = 1 ∧ inb x 8 = true then some (wyY x) else none) = some (wyY x)
    rw [if_pos ⟨rfl, e⟩]
/-- the cell by a way from a place; -1 beyond the rows -/
def bes (cols rows q w : Int32) : Int32 := if q < 0 ∨ 144 ≤ q ∨ w < 0 ∨ 8 ≤ w then -1 else
  if cB cols rows (irm q 12 + wyX w) (q / 12 + wyY w) then 12 * (q / 12 + wyY w) + (irm q 12 + wyX w) else -1
theorem inb_of {x : Int32} {n : Nat} (hn : n < 2 ^ 31) (h0 : ¬ x < 0) (h1 : ¬ nI n ≤ x) : inb x n = true := by
  obtain ⟨a, ha, rfl⟩ := lit_of hn h0 h1
  rw [inb_nI (by omega)]
  simp [ha]
theorem sp58 (hp : isSc p) {q w : Int32} {T : Int32 → aH → Prop} : vI scr (d + 1) 58 [.ref p, .int q, .int w] (mk f g j c) T = T (bes (f p 0) (f p 1) q w) (mk f g j c) := by
  unfold vI
  rw [v58_ok hp, en58, b58_0]
  simp only [sp56 hp, ro_X, ro_Y, ex_i, true_and, bz_0]
  unfold bes
  by_cases h1 : q < 0
  · simp [h1]
  by_cases h2 : 144 ≤ q
  · simp [h1, h2]
  by_cases h3 : w < 0
  · simp [h1, h2, h3]
  by_cases h4 : w < 8
  · have h5 : ¬ 8 ≤ w := Int32.not_le.mpr h4
    have hin : inb w 8 = true := inb_of (n := 8) (by decide) h3 h5
    simp only [h1, h2, h3, h4, h5, hin, if_true, if_false, true_and, or_self]
    cases cB (f p 0) (f p 1) (irm q 12 + wyX w) (q / 12 + wyY w) <;> simp
  · have h5 : 8 ≤ w := Int32.not_lt.mp h4
    simp [h1, h2, h3, h4, h5]
/-- somebody leaves where he is, if he is there -/
def liftG (g : Nat → List Int32) (p : Nat) (w : Int32) : Nat → List Int32 :=
  if w < 0 ∨ 14 ≤ w ∨ lg (g (p + 3)) w < 0 ∨ 144 ≤ lg (g (p + 3)) w then g else
  up1 (up1 g (p + 2) (ls (g (p + 2)) (lg (g (p + 3)) w) (-1))) (p + 3) (ls (g (p + 3)) w (-1))
theorem up1_at {α : Type} {g : Nat → α} {p : Nat} {v : α} : up1 g p v p = v := by simp [up1]
theorem up1_ne {α : Type} {g : Nat → α} {p q : Nat} {v : α} (h : ¬ q = p) : up1 g p v q = g q := by simp [up1, h]
theorem up2_at {f : Nat → Nat → Int32} {p k : Nat} {v : Int32} : up2 f p k v p k = v := by simp [up2]
theorem up2_ne {f : Nat → Nat → Int32} {p k q l : Nat} {v : Int32} (h : ¬ (q = p ∧ l = k)) : up2 f p k v q l = f q l := by simp only [up2, if_neg h]
theorem sp59 (hp : isSc p) (h2 : (g (p + 2)).length = 144) (h3 : (g (p + 3)).length = 14) {w : Int32} {T : aH → Prop} : vV scr d 59 [.ref p, .int w] (mk f g j c) T = T (mk f (liftG g p w) j c) := by
  unfold vV
  rw [v59_ok hp, en59, b59_0]
  simp only [r_sc_at hp, r_sc_standing hp, a_sc_at hp, w_sc_standing hp, w_sc_at hp, ex_v, true_and, h2, h3, up1_ne (show ¬ p + 3 = p + 2 by omega)]
  unfold liftG
  by_cases e1 : w < 0
  · simp [e1]
  by_cases e2 : 14 ≤ w
  · simp [e1, e2]
  have hin : inb w 14 = true := inb_of (n := 14) (by decide) e1 e2
  by_cases e3 : lg (g (p + 3)) w < 0
  · simp [e1, e2, e3, hin]
  by_cases e4 : 144 ≤ lg (g (p + 3)) w
  · simp [e1, e2, e3, e4, hin]
  have hin2 : inb (lg (g (p + 3)) w) 144 = true := inb_of (n := 144) (by decide) e3 e4
  simp only [e1, e2, e3, e4, hin, hin2, if_false, true_and, or_self]
  rfl
end SP1
-- ===== what follows =====
