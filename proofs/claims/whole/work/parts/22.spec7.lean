variable {scr : List Int32}
-- ===== the model: who stands where, free cells, the cell beside =====
section SP7
variable {f : Nat → Nat → Int32} {g : Nat → List Int32} {j : Nat → List Int64} {c : Value} {d : Nat}
theorem irm_id (x z : Int32) : irm x z + x / z * z = x := by unfold irm; exact Int32.sub_add_cancel x _
/-- who stands on a cell, from w on; -1: nobody -/
def whoF (g : Nat → List Int32) (q : Int32) : Nat → Nat → Int32
  | 0, _ => -1
  | k + 1, w => if whB g (nI w) = true ∧ lg (g 135) (nI w) = q then nI w else whoF g q k (w + 1)
theorem who_loop (h6 : (g 126).length = 6) (h14 : (g 135).length = 14) {q : Int32} {K : Option Value → aH → Prop} : ∀ (k w : Nat), w + k = 14 →
    E scr false (d + 3) 130 2 [.ref 125, .int q, .int (nI w)] [] (mk f g j c) K = K (some (.int (whoF g q k w))) (mk f g j c)
  | 0, w, hw => by
    have e1 : (14 : Int32) ≤ nI w := nI_le (a := 14) (b := w) (by omega) (by omega)
    rw [b130_2, if_pos e1]
    rfl
  | k + 1, w, hw => by
    have e3 : inb (nI w) 14 = true := by rw [inb_nI (by omega)]; simp; omega
    have e1 : ¬ (14 : Int32) ≤ nI w := nI_ge (a := w) (b := 14) (by omega) (by decide)
    rw [b130_2, if_neg e1]
    simp only [sp128 h6, r_mo_place, a_mo_place, h14, e3, true_and, b130_28, nI_1, bz_0, who_loop h6 h14 k (w + 1) (by omega)]
    have ew : whoF g q (k + 1) w = if whB g (nI w) = true ∧ lg (g 135) (nI w) = q then nI w else whoF g q k (w + 1) := rfl
    rw [ew]
    cases whB g (nI w)
    · simp
    · by_cases e : lg (g 135) (nI w) = q <;> simp [e]
theorem sp130 (h6 : (g 126).length = 6) (h14 : (g 135).length = 14) {q : Int32} {T : Int32 → aH → Prop} : vI scr (d + 3) 130 [.ref 125, .int q] (mk f g j c) T = T (whoF g q 14 0) (mk f g j c) := by
  unfold vI
  rw [v130_ok, en130, b130_0]
  show (true = true ∧ E scr false (d + 3) 130 2 [.ref 125, .int q, .int (nI 0)] [] (mk f g j c) _) = _
  rw [who_loop h6 h14 14 0 rfl]
  simp only [ex_i, true_and]
theorem btw_lit {x : Int32} {n : Nat} (hn : n ≤ 2 ^ 30) (h : btw x 0 (nI n - 1) = true) : ∃ a, a < n ∧ x = nI a := by
  simp only [btw, Bool.and_eq_true, Bool.not_eq_true', decide_eq_false_iff_not] at h
  obtain ⟨h1, h2⟩ := h
  obtain ⟨a, ha, rfl⟩ := nI_of h1
  refine ⟨a, ?_, rfl⟩
  cases n with
  | zero =>
    exfalso
    apply h2
    rw [Int32.lt_iff_toInt_lt, nI_toInt ha]
    have : (nI 0 - 1).toInt = -1 := by decide
    omega
  | succ n =>
    rw [nI_pred] at h2
    rcases Nat.lt_or_ge a (n + 1) with q | q
    · exact q
    · exact absurd (nI_lt (a := n) (b := a) (by omega) ha) h2
/-- columns and rows as numbers -/
def dim (g : Nat → List Int32) (cols rows : Nat) : Prop := lg (g 126) 0 = nI cols ∧ lg (g 126) 1 = nI rows ∧ cols ≤ 12 ∧ rows ≤ 12
theorem cBm_xy {cols rows : Nat} (hd : dim g cols rows) {x y : Int32} (h : cBm g x y = true) : ∃ a b : Nat, a < cols ∧ b < rows ∧ x = nI a ∧ y = nI b := by
  obtain ⟨e1, e2, e3, e4⟩ := hd
  unfold cBm at h
  rw [e1, e2, Bool.and_eq_true] at h
  obtain ⟨a, ha, rfl⟩ := btw_lit (by omega) h.1
  obtain ⟨b, hb, rfl⟩ := btw_lit (by omega) h.2
  exact ⟨a, b, ha, hb, rfl, rfl⟩
theorem there_nI {cols rows : Nat} (hd : dim g cols rows) {q : Int32} (h : cBm g (irm q 12) (q / 12) = true) : ∃ a b : Nat, a < cols ∧ b < rows ∧ q = nI (12 * b + a) := by
  obtain ⟨a, b, ha, hb, e1, e2⟩ := cBm_xy hd h
  refine ⟨a, b, ha, hb, ?_⟩
  have h1 := irm_id q 12
  rw [e1, e2, show (12 : Int32) = nI 12 from rfl, pk_mul, nI_add] at h1
  rw [← h1]
  congr 1
  omega
def frBm (g : Nat → List Int32) (q : Int32) : Bool := cBm g (irm q 12) (q / 12) && (gB (lg (g 127) q) && decide (whoF g q 14 0 = -1))
theorem sp131 {cols rows : Nat} (hd : dim g cols rows) (h6 : (g 126).length = 6) (h14 : (g 135).length = 14) (h144 : (g 127).length = 144) {q : Int32} {T : Int32 → aH → Prop} : vI scr (d + 4) 131 [.ref 125, .int q] (mk f g j c) T = T (bz (frBm g q)) (mk f g j c) := by
  unfold vI
  rw [v131_ok, en131, b131_0]
  simp only [sp126 h6, sp129, sp130 h6 h14, r_mo_kind, a_mo_kind, h144, bz_0, ex_i, true_and]
  unfold frBm
  by_cases e : cBm g (irm q 12) (q / 12) = true
  · obtain ⟨a, b, ha, hb, eq⟩ := there_nI hd e
    obtain ⟨-, -, d3, d4⟩ := hd
    have hin : inb q 144 = true := by rw [eq, inb_nI (by omega)]; simp; omega
    simp only [e, hin, Bool.true_and, if_false, true_and, Bool.true_eq_false]
    cases gB (lg (g 127) q)
    · simp [bz]
    · by_cases e5 : whoF g q 14 0 = -1 <;> simp [e5, bz]
  · have e : cBm g (irm q 12) (q / 12) = false := by simpa using e
    simp [e, bz]
end SP7
