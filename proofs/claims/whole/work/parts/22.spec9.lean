variable {scr : List Int32}
-- ===== scenes: all copied =====
section SP9
variable {f : Nat → Nat → Int32} {g : Nat → List Int32} {j : Nat → List Int64} {c : Value} {d p q : Nat}
theorem up2_oth (h : ¬ q = p) {k l : Nat} {v : Int32} : up2 f p k v q l = f q l := up2_ne (fun e => h e.1)
def cpBF (f : Nat → Nat → Int32) (p q : Nat) : Nat → Nat → Int32 := up2 (up2 (up2 (up2 (up2 (up2 f p 0 (f q 0)) p 1 (f q 1)) p 2 (f q 2)) p 3 (f q 3)) p 4 (f q 4)) p 7 (f q 7)
def cpBG (g : Nat → List Int32) (p q : Nat) : Nat → List Int32 := up1 (up1 (up1 (up1 (up1 (up1 g (p + 1) (g (q + 1))) (p + 4) (g (q + 4))) (p + 5) (g (q + 5))) (p + 7) (g (q + 7))) (p + 8) (g (q + 8))) (p + 9) (g (q + 9))
theorem cpBG_out {p q r : Nat} (h : r < p + 1 ∨ p + 9 < r ∨ r = p + 2 ∨ r = p + 3 ∨ r = p + 6) : cpBG g p q r = g r := by
  unfold cpBG
  rw [up1_ne (by omega), up1_ne (by omega), up1_ne (by omega), up1_ne (by omega), up1_ne (by omega), up1_ne (by omega)]
theorem cpBG_in {p q : Nat} : cpBG g p q (p + 1) = g (q + 1) ∧ cpBG g p q (p + 4) = g (q + 4) ∧ cpBG g p q (p + 5) = g (q + 5) ∧ cpBG g p q (p + 7) = g (q + 7) ∧ cpBG g p q (p + 8) = g (q + 8) ∧ cpBG g p q (p + 9) = g (q + 9) := by
  unfold cpBG up1
  refine ⟨?_, ?_, ?_, ?_, ?_, ?_⟩ <;> simp
theorem cpB_len (hap : p + 10 ≤ q ∨ q + 10 ≤ p) (h : scLen g p) (h' : scLen g q) : scLen (cpBG g p q) p ∧ scLen (cpBG g p q) q := by
  obtain ⟨h1, h2, h3, h4, h5, h6, h7, h8, h9⟩ := h
  obtain ⟨k1, k2, k3, k4, k5, k6, k7, k8, k9⟩ := h'
  obtain ⟨i1, i4, i5, i7, i8, i9⟩ := cpBG_in (g := g) (p := p) (q := q)
  refine ⟨⟨by rw [i1]; exact k1, by rw [cpBG_out (by omega)]; exact h2, by rw [cpBG_out (by omega)]; exact h3, by rw [i4]; exact k4, by rw [i5]; exact k5, by rw [cpBG_out (by omega)]; exact h6, by rw [i7]; exact k7, by rw [i8]; exact k8, by rw [i9]; exact k9⟩, ?_⟩
  exact ⟨by rw [cpBG_out (by omega)]; exact k1, by rw [cpBG_out (by omega)]; exact k2, by rw [cpBG_out (by omega)]; exact k3, by rw [cpBG_out (by omega)]; exact k4, by rw [cpBG_out (by omega)]; exact k5, by rw [cpBG_out (by omega)]; exact k6, by rw [cpBG_out (by omega)]; exact k7, by rw [cpBG_out (by omega)]; exact k8, by rw [cpBG_out (by omega)]; exact k9⟩
theorem sp51 (hp : isSc p) (hq : isSc q) (hne : ¬ p = q) (h : scLen g p) (h' : scLen g q) (hb : scByte g q) {T : aH → Prop} : vV scr (d + 2) 51 [.ref p, .ref q] (mk f g j c) T = T (mk (cpPF (cpBF f p q) p q) (cpPG (cpBG g p q) p q) j c) := by
  have hap := isSc_ap hp hq hne
  obtain ⟨l1, l2⟩ := cpB_len hap h h'
  obtain ⟨h1, h2, h3, h4, h5, h6, h7, h8, h9⟩ := h
  obtain ⟨k1, k2, k3, k4, k5, k6, k7, k8, k9⟩ := h'
  have hqp : ¬ q = p := fun e => hne e.symm
  unfold vV
  rw [v51_ok hp, en51, b51_0]
  simp only [i_sc_columns hq, i_sc_rows hq, i_sc_gates hq, i_sc_people hq, i_sc_heralds hq, i_sc_spoors hq, p_sc_columns hp, p_sc_rows hp, p_sc_gates hp, p_sc_people hp, p_sc_heralds hp, p_sc_spoors hp, up2_oth hqp, r_sc_kinds hp, r_sc_kinds hq, true_and]
  rw [cP_mk (t := 0) (by decide) (A_sc_kinds hq) (A_sc_kinds hp) k1 h1 (by decide) hb.1]
  simp only [r_sc_age hp, r_sc_age hq]
  rw [cP_mk (t := 1) (by decide) (A_sc_age hq) (A_sc_age hp) (by rw [up1_ne (by omega)]; exact k4) (by rw [up1_ne (by omega)]; exact h4) (by decide) (fit_int _)]
  simp only [r_sc_sort hp, r_sc_sort hq]
  rw [cP_mk (t := 1) (by decide) (A_sc_sort hq) (A_sc_sort hp) (by rw [up1_ne (by omega), up1_ne (by omega)]; exact k5) (by rw [up1_ne (by omega), up1_ne (by omega)]; exact h5) (by decide) (fit_int _)]
  simp only [r_sc_spoorStep hp, r_sc_spoorStep hq]
  rw [cP_mk (t := 1) (by decide) (A_sc_spoorStep hq) (A_sc_spoorStep hp) (by rw [up1_ne (by omega), up1_ne (by omega), up1_ne (by omega)]; exact k7) (by rw [up1_ne (by omega), up1_ne (by omega), up1_ne (by omega)]; exact h7) (by decide) (fit_int _)]
  simp only [r_sc_spoorPerson hp, r_sc_spoorPerson hq]
  rw [cP_mk (t := 1) (by decide) (A_sc_spoorPerson hq) (A_sc_spoorPerson hp) (by rw [up1_ne (by omega), up1_ne (by omega), up1_ne (by omega), up1_ne (by omega)]; exact k8) (by rw [up1_ne (by omega), up1_ne (by omega), up1_ne (by omega), up1_ne (by omega)]; exact h8) (by decide) (fit_int _)]
  simp only [r_sc_spoorOther hp, r_sc_spoorOther hq]
  rw [cP_mk (t := 1) (by decide) (A_sc_spoorOther hq) (A_sc_spoorOther hp) (by rw [up1_ne (by omega), up1_ne (by omega), up1_ne (by omega), up1_ne (by omega), up1_ne (by omega)]; exact k9) (by rw [up1_ne (by omega), up1_ne (by omega), up1_ne (by omega), up1_ne (by omega), up1_ne (by omega)]; exact h9) (by decide) (fit_int _)]
  have eG : up1 (up1 (up1 (up1 (up1 (up1 g (p + 1) (g (q + 1))) (p + 4) (up1 g (p + 1) (g (q + 1)) (q + 4))) (p + 5) (up1 (up1 g (p + 1) (g (q + 1))) (p + 4) (up1 g (p + 1) (g (q + 1)) (q + 4)) (q + 5))) (p + 7) (up1 (up1 (up1 g (p + 1) (g (q + 1))) (p + 4) (up1 g (p + 1) (g (q + 1)) (q + 4))) (p + 5) (up1 (up1 g (p + 1) (g (q + 1))) (p + 4) (up1 g (p + 1) (g (q + 1)) (q + 4)) (q + 5)) (q + 7))) (p + 8) (g (q + 8))) (p + 9) (g (q + 9)) = cpBG g p q := by
    unfold cpBG
    rw [up1_ne (show ¬ q + 4 = p + 1 by omega), up1_ne (show ¬ q + 5 = p + 4 by omega), up1_ne (show ¬ q + 5 = p + 1 by omega), up1_ne (show ¬ q + 7 = p + 5 by omega), up1_ne (show ¬ q + 7 = p + 4 by omega), up1_ne (show ¬ q + 7 = p + 1 by omega)]
  simp only [up1_ne (show ¬ q + 8 = p + 7 by omega), up1_ne (show ¬ q + 8 = p + 5 by omega), up1_ne (show ¬ q + 8 = p + 4 by omega), up1_ne (show ¬ q + 8 = p + 1 by omega), up1_ne (show ¬ q + 9 = p + 8 by omega), up1_ne (show ¬ q + 9 = p + 7 by omega), up1_ne (show ¬ q + 9 = p + 5 by omega), up1_ne (show ¬ q + 9 = p + 4 by omega), up1_ne (show ¬ q + 9 = p + 1 by omega)]
  rw [eG]
  rw [sp52 hp hq hne l1 l2 ⟨by rw [cpBG_out (by omega)]; exact hb.1, by rw [cpBG_out (by omega)]; exact hb.2⟩]
  rfl
end SP9
