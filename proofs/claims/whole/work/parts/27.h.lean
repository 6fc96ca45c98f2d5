variable {scr : List Int32}
section CV
variable {f G f' G' : Nat → Nat → Int32} {J J' : Nat → Nat → Int64} {c : Value} {d p q : Nat} {P : Pn} {D : Dy} {B : Nat → Nat} {L : Lw}
theorem sR_pt (hP : wfP P) {r k : Nat} : sRc P (dPl (ptD D 12 r)) k = sRc P (dPl D) k := by
  have p12 := hP.2.2.2.1
  unfold sRc
  apply sm_congr
  intro w hw
  unfold rc
  have : dPl (ptD D 12 r) w = dPl D w := by
    show plU (dPl D) 12 (some r) w = _
    simp [plU, show w ≠ 12 by omega]
  rw [this]
theorem tr_sR (hP : wfP P) (hw : wfS P D) {hm code n : Nat} (hh : dPl D 12 = some hm) : ∀ i X, trA P B L D code n i = some X → ∀ k, sRc P (dPl X) k ≤ sRc P (dPl D) (k + i) := by
  intro i
  induction i with
  | zero => intro X hX k; cases hX; exact Nat.le_refl _
  | succ i ih =>
    intro X hX k
    simp only [trA] at hX
    cases hY : trA P B L D code n i with
    | none => rw [hY] at hX; cases hX
    | some Y =>
      rw [hY] at hX
      obtain ⟨y1, -, -⟩ := tr_wf hP hw hh i Y hY
      have h1 := ih Y hY (k + 1)
      rw [show k + (i + 1) = k + 1 + i by omega]
      simp only at hX
      by_cases h8 : chO code i n = 8
      · rw [if_pos h8] at hX
        cases hX
        exact Nat.le_trans (sR_st (subP_rf hP) y1.1) h1
      · rw [if_neg h8] at hX
        cases hg : goO P (dPl Y) 12 (chO code i n) with
        | none => rw [hg] at hX; cases hX
        | some r =>
          rw [hg] at hX
          cases hX
          have h2 := sR_st (B := B) (L := L) (n := k) (subP_rf hP) (go_wf hP y1 hg).1.1
          rw [sR_pt hP] at h2
          exact Nat.le_trans h2 h1
theorem co_bd (hP : wfP P) (hw : wfS P D) (hoc : dOc D + cnP (dPl D) (pPe P) = pPe P) {hm code n m : Nat} (hh : dPl D 12 = some hm) {X : Dy} (hX : trA P B L D code n n = some X) : dOc (wkD P B L m X) ≤ boA P D (n + m) ∧ dOc (wkD P B L m X) ≤ 12 ∧ dOc (wkD P B L m X) = pPe P - cnP (dPl (wkD P B L m X)) (pPe P) := by
  obtain ⟨x1, -, x3⟩ := tr_wf hP hw hh n X hX
  obtain ⟨⟨-, w2⟩, w3⟩ := wfS_wk (B := B) (L := L) hP m X x1
  have h1 := sR_wk (B := B) (L := L) (subP_rf hP) (n := 0) m X x1.1
  have h2 := tr_sR (B := B) (L := L) hP hw hh n X hX (0 + m)
  rw [sR_0] at h1
  rw [show 0 + m + n = n + m by omega, ← boA_sR hP hw.1 hoc] at h2
  omega
def coO (P : Pn) (B : Nat → Nat) (L : Lw) (D : Dy) (code n m : Nat) : Option Nat := match trA P B L D code n n with
  | none => none
  | some X => some (dOc (wkD P B L m X))
theorem coV_O {code n m : Nat} : coV P B L D code n m = oI (coO P B L D code n m) := by
  unfold coV coO
  cases trA P B L D code n n <;> rfl
def coA (P : Pn) (B : Nat → Nat) (L : Lw) (D : Dy) (n m : Nat) : Nat → Option (Nat × Nat)
  | 0 => none
  | k + 1 => match coO P B L D k n m with
    | none => coA P B L D n m k
    | some v => match coA P B L D n m k with
      | none => some (k, v)
      | some x => if x.2 < v then some (k, v) else some x
theorem coA_lt (hP : wfP P) (hw : wfS P D) (hoc : dOc D + cnP (dPl D) (pPe P) = pPe P) {hm n m : Nat} (hh : dPl D 12 = some hm) : ∀ k x, coA P B L D n m k = some x → x.1 < k ∧ x.2 ≤ 12 := by
  intro k
  induction k with
  | zero => intro x hx; cases hx
  | succ k ih =>
    intro x hx
    have hv : ∀ v, coO P B L D k n m = some v → v ≤ 12 := by
      intro v h
      unfold coO at h
      cases hX : trA P B L D k n n with
      | none => rw [hX] at h; cases h
      | some X => rw [hX] at h; cases h; exact (co_bd (m := m) hP hw hoc hh hX).2.1
    simp only [coA] at hx
    cases ho : coO P B L D k n m with
    | none => rw [ho] at hx; have := ih x hx; omega
    | some v =>
      have := hv v ho
      rw [ho] at hx
      simp only at hx
      cases hy : coA P B L D n m k with
      | none => rw [hy] at hx; cases hx; exact ⟨Nat.lt_succ_self _, this⟩
      | some y =>
        have h2 := ih y hy
        rw [hy] at hx
        simp only at hx
        by_cases hl : y.2 < v
        · rw [if_pos hl] at hx; cases hx; exact ⟨Nat.lt_succ_self _, this⟩
        · rw [if_neg hl] at hx; cases hx; omega
theorem co_stop (hP : wfP P) (hw : wfS P D) (hoc : dOc D + cnP (dPl D) (pPe P) = pPe P) {hm n m k : Nat} (hh : dPl D 12 = some hm) {x : Nat × Nat} (hx : coA P B L D n m k = some x) (hle : boA P D (n + m) ≤ x.2) : ∀ u, coA P B L D n m (k + u) = some x := by
  intro u
  induction u with
  | zero => exact hx
  | succ u ih =>
    rw [show k + (u + 1) = (k + u) + 1 by omega]
    simp only [coA]
    cases ho : coO P B L D (k + u) n m with
    | none => exact ih
    | some v =>
      simp only
      rw [ih]
      simp only
      rw [if_neg]
      unfold coO at ho
      cases hX : trA P B L D (k + u) n n with
      | none => rw [hX] at ho; cases ho
      | some X =>
        rw [hX] at ho
        cases ho
        have := (co_bd (m := m) hP hw hoc hh hX).1
        omega
end CV
