variable {scr : List Int32}
-- ===== isClear =====
section W1
variable {f G : Nat → Nat → Int32} {J : Nat → Nat → Int64} {c : Value} {d p : Nat} {P : Pn} {D : Dy}
theorem CK_set {a b : Nat} (hP : wfP P) (ha : thB P a = true) (hb : thB P b = true) (hab : a ≤ b) (h : CK J P) (hk : hasB (J 53 (a * 3 + b / 64)) (b % 64) = false) : CK (if clF P a b = true then upJ (upJ J 53 (a * 3 + b / 64) (J 53 (a * 3 + b / 64) ||| bJ (b % 64))) 54 (a * 3 + b / 64) (J 54 (a * 3 + b / 64) ||| bJ (b % 64)) else upJ J 53 (a * 3 + b / 64) (J 53 (a * 3 + b / 64) ||| bJ (b % 64))) P := by
  intro x y hx hy hxy
  have h1 := h x y hx hy hxy
  have b1 := th_lt hP hb
  have b2 := th_lt hP hy
  by_cases e : x * 3 + y / 64 = a * 3 + b / 64
  · have ex : x = a := by omega
    have ey : y / 64 = b / 64 := by omega
    rw [e] at h1
    subst ex
    by_cases e2 : y % 64 = b % 64
    · have eyb : y = b := by omega
      subst eyb
      rw [hk] at h1
      cases hc : clF P x y with
      | true => simp [upJ, has_or (show y % 64 < 64 by omega)]
      | false =>
        simp [upJ, has_or (show y % 64 < 64 by omega)]
        simpa using h1
    · cases hc : clF P x b with
      | true => simp [upJ, e, has_or (show b % 64 < 64 by omega), e2, h1]
      | false => simp [upJ, e, has_or (show b % 64 < 64 by omega), e2, h1]
  · split
    · simp [upJ, e, h1]
    · simp [upJ, e, h1]
theorem w2 (hp : isSc p) (hP : wfP P) (hs : RS f G p P) (hc : CK J P) {x y : Nat} (hx : thB P x = true) (hy : thB P y = true) {T : Int32 → aH → Prop}
  (hT : ∀ J', CK J' P → (∀ q k, q ≠ 53 → q ≠ 54 → J' q k = J q k) → T (bz (clB P x y)) (wo f G J' c)) : vI scr (d + 1) 2 [.ref 50, .ref (p + 1), .int (nI x), .int (nI y)] (wo f G J c) T := by
  have hx' := th_lt hP hx
  have hy' := th_lt hP hy
  unfold vI
  rw [u2_ok, en2, b2_0]
  have main : ∃ a b, thB P a = true ∧ thB P b = true ∧ a ≤ b ∧ (if nI y < nI x then nI y else nI x) = nI a ∧ (if nI x < nI y then nI y else nI x) = nI b ∧ clB P x y = clF P a b := by
    by_cases hxy : y < x
    · refine ⟨y, x, hy, hx, by omega, ?_, ?_, by simp [clB, hxy]⟩
      · simp (disch := omega) only [NC, hxy, if_true]
      · simp (disch := omega) only [NC, show ¬ x < y by omega, if_false]
    · refine ⟨x, y, hx, hy, by omega, ?_, ?_, by simp [clB, hxy]⟩
      · simp (disch := omega) only [NC, hxy, if_false]
      · by_cases h2 : x < y
        · simp (disch := omega) only [NC, h2, if_true]
        · have e : x = y := by omega
          subst e
          simp
  obtain ⟨a, b, ha, hb, hab, ea, eb, ec⟩ := main
  rw [ec] at hT
  have ha' := th_lt hP ha
  have hb' := th_lt hP hb
  have hl : ln (p + 1) = 144 := by rcases hp with rfl | rfl | rfl | rfl | rfl | rfl | rfl | rfl <;> rfl
  have e144 : (144 : Int32) ≤ Int32.ofNat 144 := by decide
  have ew : nI a * 3 + nI (b / 64) = nI (a * 3 + b / 64) := by
    rw [show (3 : Int32) = nI 3 from rfl, pk_mul, nI_add]
  obtain ⟨m1, m2, m3⟩ := mx_lt ha' hb'
  have a1 := abs_nI (a % 12) (by omega) (b % 12) (by omega)
  have a2 := abs_nI (a / 12) (by omega) (b / 12) (by omega)
  have a3 : (if nI (adf (b % 12) (a % 12)) < nI (adf (b / 12) (a / 12)) then nI (adf (b / 12) (a / 12)) else nI (adf (b % 12) (a % 12))) = nI (mxD a b) := by
    unfold mxD
    simp (disch := omega) only [NC]
    split <;> rfl
  have nb : ¬ 144 ≤ b := by omega
  have hck := hc a b ha hb hab
  simp only [sp226, sp225, ea, eb, true_and]
  simp (disch := omega) only [NC, if_false, show (144 : Int32) ≤ nI b ↔ 144 ≤ b from nI_leI (a := 144) (by decide) (by omega), nb, wo_aN (t := 0) (by decide) (by decide) (A_sc_kinds hp), hl, e144, if_true, gRr scr, sh6_of b hb', bJ_of b hb', ew, cmp_eq, has_and, show ¬ 64 ≤ b % 64 by omega, or_false]
  cases hk : hasB (J 53 (a * 3 + b / 64)) (b % 64) with
  | true =>
    rw [hk, Bool.true_and] at hck
    simp only [Bool.true_eq_false, if_false, hck, ex_i]
    have := hT J hc (fun _ _ _ _ => rfl)
    cases hf : clF P a b with
    | true => rw [hf] at this; simpa [bz] using this
    | false => rw [hf] at this; simpa [bz] using this
  | false =>
    have hset := CK_set hP ha hb hab hc hk
    simp (disch := omega) only [if_true, sp224, irm12, div12, a1, a2, sp225, a3]
    rw [show (1 : Int32) = nI 1 from rfl, clr_loop hp hP hs (by omega) ha hb (mxD a b - 1) 1 rfl (by omega) (by omega) (fun i q1 q2 _ => by omega)]
    simp only [ex_i]
    have fr : ∀ (J' : Nat → Nat → Int64), (J' = upJ J 53 (a * 3 + b / 64) (J 53 (a * 3 + b / 64) ||| bJ (b % 64)) ∨ J' = upJ (upJ J 53 (a * 3 + b / 64) (J 53 (a * 3 + b / 64) ||| bJ (b % 64))) 54 (a * 3 + b / 64) (J 54 (a * 3 + b / 64) ||| bJ (b % 64))) → ∀ q k, q ≠ 53 → q ≠ 54 → J' q k = J q k := by
      rintro J' (rfl | rfl) q k h1 h2
      · simp [upJ, h1]
      · simp [upJ, h1, h2]
    have e54 : upJ J 53 (a * 3 + b / 64) (J 53 (a * 3 + b / 64) ||| bJ (b % 64)) 54 (a * 3 + b / 64) = J 54 (a * 3 + b / 64) := by simp [upJ]
    rw [e54]
    cases hf : clF P a b with
    | true =>
      rw [hf] at hset hT
      exact hT _ hset (fr _ (Or.inr rfl))
    | false =>
      rw [hf] at hset hT
      simp only [Bool.false_eq_true, if_false] at hset ⊢
      exact hT _ hset (fr _ (Or.inl rfl))
end W1
