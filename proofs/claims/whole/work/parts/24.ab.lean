variable {scr : List Int32}
section M2a
-- ===== how many stand beside: two countings =====
def sm (F : Nat → Nat) : Nat → Nat
  | 0 => 0
  | n + 1 => sm F n + F n
theorem sm_congr {F F' : Nat → Nat} {n : Nat} (h : ∀ i, i < n → F i = F' i) : sm F n = sm F' n := by
  induction n with
  | zero => rfl
  | succ n ih => simp only [sm]; rw [ih (fun i hi => h i (by omega)), h n (by omega)]
theorem sm_add {F F' : Nat → Nat} {n : Nat} : sm (fun i => F i + F' i) n = sm F n + sm F' n := by
  induction n with
  | zero => rfl
  | succ n ih => simp only [sm]; rw [ih]; omega
theorem sm_0 {n : Nat} : sm (fun _ => 0) n = 0 := by
  induction n with
  | zero => rfl
  | succ n ih => simp only [sm, ih]
theorem sm_ex {F : Nat → Nat → Nat} {a b : Nat} : sm (fun i => sm (fun j => F i j) b) a = sm (fun j => sm (fun i => F i j) a) b := by
  induction a with
  | zero => simp only [sm]; rw [sm_0]
  | succ a ih => simp only [sm]; rw [ih, ← sm_add]
def tf (p : Bool) : Nat := if p = true then 1 else 0
def bw (h t k : Nat) : Bool := decide (1 ≤ h % 12 + wX k) && (decide (1 ≤ h / 12 + wY k) && (decide (h % 12 + wX k ≤ 12) && decide (t = 12 * (h / 12 + wY k - 1) + (h % 12 + wX k - 1))))
theorem bw_all : ∀ h, h < 144 → ∀ t, t < 144 → sm (fun k => tf (bw h t k)) 8 = if t ≠ h ∧ dsN h t ≤ 2 then 1 else 0 := by decide +kernel
theorem mx_near : ∀ h, h < 144 → ∀ t, t < 144 → dsN h t ≤ 2 → mxD h t ≤ 1 := by decide +kernel
end M2a
