variable {scr : List Int32}
-- ===== scenes wiped and copied; laws written =====
section SP4
variable {f : Nat → Nat → Int32} {g : Nat → List Int32} {j : Nat → List Int64} {c : Value} {d p q : Nat}
/-- the rows of a scene are as long as they are -/
def scLen (g : Nat → List Int32) (p : Nat) : Prop := (g (p + 1)).length = 144 ∧ (g (p + 2)).length = 144 ∧ (g (p + 3)).length = 14 ∧ (g (p + 4)).length = 12 ∧ (g (p + 5)).length = 12 ∧ (g (p + 6)).length = 12 ∧ (g (p + 7)).length = 40 ∧ (g (p + 8)).length = 40 ∧ (g (p + 9)).length = 40
def scByte (g : Nat → List Int32) (p : Nat) : Prop := (g (p + 1)).all (fun x => fits .byte (.int x)) = true ∧ (g (p + 2)).all (fun x => fits .byte (.int x)) = true
def wipeF (f : Nat → Nat → Int32) (p : Nat) : Nat → Nat → Int32 := up2 (up2 (up2 (up2 (up2 (up2 (up2 (up2 f p 0 0) p 1 0) p 2 0) p 3 0) p 4 0) p 5 0) p 6 0) p 7 0
def wipeG (g : Nat → List Int32) (p : Nat) : Nat → List Int32 := up1 (up1 (up1 g (p + 2) (List.replicate 144 (-1))) (p + 3) (List.replicate 14 (-1))) (p + 6) (List.replicate 12 (-1))
theorem sp50 (hp : isSc p) (h : scLen g p) {T : aH → Prop} : vV scr (d + 1) 50 [.ref p] (mk f g j c) T = T (mk (wipeF f p) (wipeG g p) j c) := by
  obtain ⟨h1, h2, h3, h4, h5, h6, h7, h8, h9⟩ := h
  unfold vV
  rw [v50_ok hp, en50, b50_0]
  simp only [p_sc_columns hp, p_sc_rows hp, p_sc_gates hp, p_sc_people hp, p_sc_heralds hp, p_sc_steps hp, p_sc_outCount hp, p_sc_spoors hp, r_sc_standing hp, r_sc_at hp, r_sc_out hp, true_and]
  rw [sp235 (A_sc_standing hp) (n := 144) (by decide) h2 (by decide)]
  simp only [r_sc_at hp]
  rw [sp234 (A_sc_at hp) (n := 14) (by decide) (by rw [up1_ne (by omega)]; exact h3)]
  simp only [r_sc_out hp]
  rw [sp234 (A_sc_out hp) (n := 12) (by decide) (by rw [up1_ne (by omega), up1_ne (by omega)]; exact h6)]
  try simp only [ex_v]
  rfl
theorem isSc_ap (hp : isSc p) (hq : isSc q) (hne : ¬ p = q) : p + 10 ≤ q ∨ q + 10 ≤ p := by
  rcases hp with rfl | rfl | rfl | rfl | rfl | rfl | rfl | rfl <;> rcases hq with rfl | rfl | rfl | rfl | rfl | rfl | rfl | rfl <;> omega
def cpPF (f : Nat → Nat → Int32) (p q : Nat) : Nat → Nat → Int32 := up2 (up2 f p 5 (f q 5)) p 6 (f q 6)
def cpPG (g : Nat → List Int32) (p q : Nat) : Nat → List Int32 := up1 (up1 (up1 g (p + 2) (g (q + 2))) (p + 3) (g (q + 3))) (p + 6) (g (q + 6))
theorem fit_int (l : List Int32) : l.all (fun x => fits (aTy 1) (.int x)) = true := by
  rw [List.all_eq_true]
  intro x _
  rfl
theorem sp52 (hp : isSc p) (hq : isSc q) (hne : ¬ p = q) (h : scLen g p) (h' : scLen g q) (hb : scByte g q) {T : aH → Prop} : vV scr (d + 1) 52 [.ref p, .ref q] (mk f g j c) T = T (mk (cpPF f p q) (cpPG g p q) j c) := by
  obtain ⟨h1, h2, h3, h4, h5, h6, h7, h8, h9⟩ := h
  obtain ⟨k1, k2, k3, k4, k5, k6, k7, k8, k9⟩ := h'
  have hap := isSc_ap hp hq hne
  unfold vV
  rw [v52_ok hp, en52, b52_0]
  simp only [i_sc_steps hq, i_sc_outCount hq, p_sc_steps hp, p_sc_outCount hp, r_sc_standing hp, r_sc_standing hq, r_sc_at hp, r_sc_at hq, r_sc_out hp, r_sc_out hq, true_and]
  rw [cP_mk (t := 0) (by decide) (A_sc_standing hq) (A_sc_standing hp) k2 h2 (by decide) hb.2]
  simp only [r_sc_at hp, r_sc_at hq]
  rw [cP_mk (t := 1) (by decide) (A_sc_at hq) (A_sc_at hp) (by rw [up1_ne (by omega)]; exact k3) (by rw [up1_ne (by omega)]; exact h3) (by decide) (fit_int _)]
  simp only [r_sc_out hp, r_sc_out hq]
  rw [cP_mk (t := 1) (by decide) (A_sc_out hq) (A_sc_out hp) (by rw [up1_ne (by omega), up1_ne (by omega)]; exact k6) (by rw [up1_ne (by omega), up1_ne (by omega)]; exact h6) (by decide) (fit_int _)]
  try simp only [ex_v]
  unfold cpPF cpPG
  rw [up1_ne (show ¬ q + 3 = p + 2 by omega), up1_ne (show ¬ q + 6 = p + 3 by omega), up1_ne (show ¬ q + 6 = p + 2 by omega), up2_ne (show ¬ (q = p ∧ 6 = 5) by omega)]
theorem sp4 (hp : isLw p) {T : aH → Prop} : vV scr d 4 [.ref p] (mk f g j c) T = T (mk (up2 (up2 f p 0 0) p 3 0) g j c) := by
  unfold vV
  rw [v4_ok hp, en4, b4_0]
  simp only [p_lw_clauses hp, p_lw_length hp, ex_v, true_and]
theorem sp5 (hp : isLw p) {n : Nat} (hn : f p 3 = nI n) (hl : (g (p + 3)).length = 400) (h4 : n < 2 ^ 31) {s : Int32} {T : aH → Prop} : vV scr d 5 [.ref p, .int s] (mk f g j c) T =
    T (if n < 400 then mk (up2 f p 3 (nI (n + 1))) (up1 g (p + 3) ((g (p + 3)).set n s)) j c else mk f g j c) := by
  unfold vV
  rw [v5_ok hp, en5, b5_0]
  simp only [i_lw_length hp, p_lw_length hp, r_lw_code hp, w_lw_code hp, aN_mk (by decide) (by decide) (A_lw_code hp), ex_v, true_and, hn, hl, nI_pos h4, if_false, nI_1]
  by_cases e : n < 400
  · have e1 : ¬ (Int32.ofNat 400) ≤ nI n := nI_ge (a := n) (b := 400) e (by decide)
    have e2 : inb (nI n) 400 = true := by rw [inb_nI h4]; simp [e]
    simp only [e1, e2, e, if_true, if_false, true_and, ls_nI h4]
  · have e1 : (Int32.ofNat 400) ≤ nI n := nI_le (a := 400) (b := n) (by omega) h4
    simp only [e1, e, if_true, if_false]
end SP4
