variable {scr : List Int32}
-- ===== a course tried =====
section CT
variable {f G f' G' : Nat → Nat → Int32} {J J' : Nat → Nat → Int64} {c : Value} {d p q : Nat} {P : Pn} {D : Dy} {B : Nat → Nat} {L : Lw}
def trA (P : Pn) (B : Nat → Nat) (L : Lw) (D : Dy) (code n : Nat) : Nat → Option Dy
  | 0 => some D
  | i + 1 => match trA P B L D code n i with
    | none => none
    | some X => if chO code i n = 8 then some (stD P B L X) else match goO P (dPl X) 12 (chO code i n) with
      | none => none
      | some r => some (stD P B L (ptD X 12 r))
def coV (P : Pn) (B : Nat → Nat) (L : Lw) (D : Dy) (code n m : Nat) : Int32 := match trA P B L D code n n with
  | none => -1
  | some X => nI (dOc (wkD P B L m X))
theorem sp_12 (hP : wfP P) {v : Nat} (hv : pPe P ≤ v) : ∀ m, m ≤ pPe P → dPl (spD P B L D m) v = dPl D v := by
  intro m
  induction m with
  | zero => intro _; rfl
  | succ m ih =>
    intro hm
    rw [← ih (by omega)]
    exact tu_oth (by omega)
theorem st_12 (hP : wfP P) : dPl (stD P B L D) 12 = dPl D 12 := sp_12 (D := inS D) hP (by have := hP.2.2.2.1; omega) (pPe P) (Nat.le_refl _)
theorem go_wf (hP : wfP P) (hw : wfS P D) {y r : Nat} (hg : goO P (dPl D) 12 y = some r) : wfS P (ptD D 12 r) ∧ dPl (ptD D 12 r) 12 = some r ∧ r < 144 ∧ (∀ v, v ≠ 12 → dPl D v ≠ some r) ∧ cnP (dPl (ptD D 12 r)) (pPe P) = cnP (dPl D) (pPe P) := by
  have p12 := hP.2.2.2.1
  obtain ⟨hf, t, ht, hb⟩ := goO_some hg
  obtain ⟨f1, f2, f3⟩ := frA_th hf
  obtain ⟨-, -, -, hex⟩ := wfL_lt hP hw.1 ht
  have hr : ∀ v, v ≠ 12 → dPl D v ≠ some r := fun v _ => who_nn hP hw.1 f3 v
  have ec : cnP (dPl (ptD D 12 r)) (pPe P) = cnP (dPl D) (pPe P) := cn_pt p12
  refine ⟨⟨wfL_put hw.1 hex f1 f2 hr, ?_⟩, ?_, th_lt hP f1, hr, ec⟩
  · show dOc D + cnP (plU (dPl D) 12 (some r)) (pPe P) ≤ 12
    rw [cn_pt p12]; exact hw.2
  · show plU (dPl D) 12 (some r) 12 = some r
    simp [plU]
/-- along a course all stays well -/
theorem tr_wf (hP : wfP P) (hw : wfS P D) {hm code n : Nat} (hh : dPl D 12 = some hm) : ∀ i X, trA P B L D code n i = some X → wfS P X ∧ (∃ t, dPl X 12 = some t) ∧ dOc X + cnP (dPl X) (pPe P) = dOc D + cnP (dPl D) (pPe P) := by
  intro i
  induction i with
  | zero => intro X hX; cases hX; exact ⟨hw, ⟨hm, hh⟩, rfl⟩
  | succ i ih =>
    intro X hX
    simp only [trA] at hX
    cases hY : trA P B L D code n i with
    | none => rw [hY] at hX; cases hX
    | some Y =>
      rw [hY] at hX
      obtain ⟨y1, ⟨t, y2⟩, y3⟩ := ih Y hY
      simp only at hX
      by_cases h8 : chO code i n = 8
      · rw [if_pos h8] at hX
        cases hX
        obtain ⟨s1, s2⟩ := wfS_st (B := B) (L := L) hP y1
        exact ⟨s1, ⟨t, by rw [st_12 hP]; exact y2⟩, s2.trans y3⟩
      · rw [if_neg h8] at hX
        cases hg : goO P (dPl Y) 12 (chO code i n) with
        | none => rw [hg] at hX; cases hX
        | some r =>
          rw [hg] at hX
          cases hX
          obtain ⟨g1, g2, -, -, g5⟩ := go_wf hP y1 hg
          obtain ⟨s1, s2⟩ := wfS_st (B := B) (L := L) hP g1
          refine ⟨s1, ⟨r, by rw [st_12 hP]; exact g2⟩, s2.trans ?_⟩
          rw [g5]
          exact y3
end CT
