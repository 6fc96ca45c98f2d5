variable {scr : List Int32}
-- ===== who stands where =====
section AD
abbrev Dy : Type := (Nat → Option Nat) × (Nat → Int32) × Int32 × Nat
def dPl (D : Dy) : Nat → Option Nat := D.1
def dOu (D : Dy) : Nat → Int32 := D.2.1
def dSt (D : Dy) : Int32 := D.2.2.1
def dOc (D : Dy) : Nat := D.2.2.2
def who (pl : Nat → Option Nat) (q : Nat) : Option Nat := (List.range 14).find? (fun w => decide (pl w = some q))
def inj (pl : Nat → Option Nat) : Prop := ∀ w v q, pl w = some q → pl v = some q → w = v
def wfL (P : Pn) (pl : Nat → Option Nat) : Prop := (∀ w q, pl w = some q → exB P w = true ∧ thB P q = true ∧ gkB (pKd P q) = true) ∧ inj pl
def plU (pl : Nat → Option Nat) (w : Nat) (o : Option Nat) : Nat → Option Nat := fun v => if v = w then o else pl v
variable {P : Pn} {pl : Nat → Option Nat} {q w : Nat}
theorem who_none (h : ∀ v, v < 14 → pl v ≠ some q) : who pl q = none := by
  unfold who
  rw [List.find?_eq_none]
  intro v hv
  have := h v (List.mem_range.mp hv)
  simpa using this
theorem who_some (h : who pl q = some w) : w < 14 ∧ pl w = some q := by
  unfold who at h
  have h1 := List.find?_some h
  have h2 := List.mem_of_find?_eq_some h
  exact ⟨List.mem_range.mp h2, by simpa using h1⟩
theorem who_is (hi : inj pl) (hw : w < 14) (h : pl w = some q) : who pl q = some w := by
  cases e : who pl q with
  | none =>
    unfold who at e
    rw [List.find?_eq_none] at e
    have := e w (List.mem_range.mpr hw)
    simp [h] at this
  | some v => rw [hi v w q (who_some e).2 h]
theorem who_not (h : who pl q = none) (hw : w < 14) : pl w ≠ some q := by
  unfold who at h
  rw [List.find?_eq_none] at h
  have := h w (List.mem_range.mpr hw)
  simpa using this
theorem inj_lift (hi : inj pl) : inj (plU pl w none) := by
  intro a b r ha hb
  unfold plU at ha hb
  by_cases h1 : a = w
  · simp [h1] at ha
  · by_cases h2 : b = w
    · simp [h2] at hb
    · simp only [h1, h2, if_false] at ha hb
      exact hi a b r ha hb
theorem inj_put (hi : inj pl) {r : Nat} (hr : ∀ v, v ≠ w → pl v ≠ some r) : inj (plU pl w (some r)) := by
  intro a b s ha hb
  unfold plU at ha hb
  by_cases h1 : a = w
  · by_cases h2 : b = w
    · rw [h1, h2]
    · simp only [h1, h2, if_true, if_false] at ha hb
      cases ha
      exact absurd hb (hr b h2)
  · by_cases h2 : b = w
    · simp only [h1, h2, if_true, if_false] at ha hb
      cases hb
      exact absurd ha (hr a h1)
    · simp only [h1, h2, if_false] at ha hb
      exact hi a b s ha hb
theorem who_lift (hi : inj pl) : who (plU pl w none) q = if pl w = some q then none else who pl q := by
  by_cases h : pl w = some q
  · rw [if_pos h]
    apply who_none
    intro v _
    unfold plU
    by_cases h1 : v = w
    · simp [h1]
    · simp only [h1, if_false]
      intro h2
      exact h1 (hi v w q h2 h)
  · rw [if_neg h]
    cases e : who pl q with
    | none =>
      apply who_none
      intro v hv
      unfold plU
      by_cases h1 : v = w
      · simp [h1]
      · simp only [h1, if_false]
        exact who_not e hv
    | some v =>
      obtain ⟨h1, h2⟩ := who_some e
      apply who_is (inj_lift hi) h1
      unfold plU
      rw [if_neg (fun e => h (by rw [← e]; exact h2))]
      exact h2
theorem who_put (hi : inj pl) (hw : w < 14) {r : Nat} (hr : ∀ v, v ≠ w → pl v ≠ some r) : who (plU pl w (some r)) q = if q = r then some w else if pl w = some q then none else who pl q := by
  by_cases h : q = r
  · rw [if_pos h, h]
    exact who_is (inj_put hi hr) hw (by simp [plU])
  · rw [if_neg h, ← who_lift hi]
    cases e : who (plU pl w none) q with
    | none =>
      apply who_none
      intro v hv
      have := who_not e hv
      unfold plU at this ⊢
      by_cases h1 : v = w
      · simp [h1, Ne.symm h]
      · simpa [h1] using this
    | some v =>
      obtain ⟨h1, h2⟩ := who_some e
      apply who_is (inj_put hi hr) h1
      unfold plU at h2 ⊢
      by_cases h3 : v = w
      · simp [h3] at h2
      · simpa [h3] using h2
theorem wfL_lt (hP : wfP P) (h : wfL P pl) (hw : pl w = some q) : w < 14 ∧ q < 144 ∧ thB P q = true ∧ exB P w = true := by
  obtain ⟨h1, h2, -⟩ := h.1 w q hw
  exact ⟨ex_lt hP h1, th_lt hP h2, h2, h1⟩
theorem who_iff (hP : wfP P) (h : wfL P pl) : who pl q = some w ↔ pl w = some q := ⟨fun e => (who_some e).2, fun e => who_is h.2 (wfL_lt hP h e).1 e⟩
theorem who_nn (hP : wfP P) (h : wfL P pl) (e : who pl q = none) (v : Nat) : pl v ≠ some q := fun e2 => who_not e (wfL_lt hP h e2).1 e2
theorem wfL_lift (h : wfL P pl) : wfL P (plU pl w none) := by
  refine ⟨?_, inj_lift h.2⟩
  intro v r hv
  unfold plU at hv
  by_cases h1 : v = w
  · simp [h1] at hv
  · simp only [h1, if_false] at hv
    exact h.1 v r hv
theorem wfL_put (h : wfL P pl) (hx : exB P w = true) {r : Nat} (ht : thB P r = true) (hg : gkB (pKd P r) = true) (hr : ∀ v, v ≠ w → pl v ≠ some r) : wfL P (plU pl w (some r)) := by
  refine ⟨?_, inj_put h.2 hr⟩
  intro v s hv
  unfold plU at hv
  by_cases h1 : v = w
  · simp only [h1, if_true] at hv
    cases hv
    exact ⟨by rw [h1]; exact hx, ht, hg⟩
  · simp only [h1, if_false] at hv
    exact h.1 v s hv
def frA (P : Pn) (pl : Nat → Option Nat) (q : Nat) : Bool := thB P q && (gkB (pKd P q) && (who pl q).isNone)
end AD
-- ===== a scene of the class =====
section AE
def RS (f G : Nat → Nat → Int32) (p : Nat) (P : Pn) : Prop := (f p 0 = nI (pCo P) ∧ f p 1 = nI (pRo P) ∧ f p 2 = nI (gaL P).length ∧ f p 3 = nI (pPe P) ∧ f p 4 = nI (pHe P)) ∧ (∀ q, thB P q = true → G (p + 1) q = nI (pKd P q)) ∧ (∀ w, w < pPe P → G (p + 4) w = nI (pAg P w)) ∧ (∀ w, w < pPe P → G (p + 5) w = nI (pSo P w)) ∧ (∀ q, q < 144 → fits .byte (.int (G (p + 1) q)) = true)
def RD (f G : Nat → Nat → Int32) (p : Nat) (D : Dy) : Prop := f p 5 = dSt D ∧ f p 6 = nI (dOc D) ∧ (∀ q, q < 144 → G (p + 2) q = oI (who (dPl D) q)) ∧ (∀ w, w < 14 → G (p + 3) w = oI (dPl D w)) ∧ (∀ w, w < 12 → G (p + 6) w = dOu D w)
/-- what a step of the walker leaves as it is -/
def FR (p : Nat) (f G : Nat → Nat → Int32) (J : Nat → Nat → Int64) (f' G' : Nat → Nat → Int32) (J' : Nat → Nat → Int64) : Prop :=
  (∀ o k, o ≠ 55 → ¬ (o = p ∧ (k = 5 ∨ k = 6)) → f' o k = f o k) ∧ (∀ q k, q ≠ p + 2 → q ≠ p + 3 → q ≠ p + 6 → q ≠ 57 → q ≠ 58 → G' q k = G q k) ∧ (∀ q k, q ≠ 53 → q ≠ 54 → q ≠ 56 → J' q k = J q k)
variable {p : Nat} {f G f1 G1 f2 G2 : Nat → Nat → Int32} {J J1 J2 : Nat → Nat → Int64} {P : Pn} {D : Dy}
theorem FR_rf : FR p f G J f G J := ⟨fun _ _ _ _ => rfl, fun _ _ _ _ _ _ _ => rfl, fun _ _ _ _ _ => rfl⟩
theorem FR_tr (h : FR p f G J f1 G1 J1) (h' : FR p f1 G1 J1 f2 G2 J2) : FR p f G J f2 G2 J2 :=
  ⟨fun o k a b => (h'.1 o k a b).trans (h.1 o k a b), fun q k a b c d e => (h'.2.1 q k a b c d e).trans (h.2.1 q k a b c d e), fun q k a b c => (h'.2.2 q k a b c).trans (h.2.2 q k a b c)⟩
theorem RS_fr (hp : isSc p) (h : FR p f G J f1 G1 J1) (hs : RS f G p P) : RS f1 G1 p P := by
  obtain ⟨h1, h2, -⟩ := h
  have hp55 : p ≠ 55 := by rcases hp with rfl | rfl | rfl | rfl | rfl | rfl | rfl | rfl <;> decide
  have e : ∀ k, k < 5 → f1 p k = f p k := fun k hk => h1 p k hp55 (by omega)
  have e1 : ∀ i, (i = 1 ∨ i = 4 ∨ i = 5) → ∀ k, G1 (p + i) k = G (p + i) k := by
    intro i hi k
    apply h2 <;> rcases hp with rfl | rfl | rfl | rfl | rfl | rfl | rfl | rfl <;> omega
  unfold RS at hs ⊢
  simp only [e 0 (by omega), e 1 (by omega), e 2 (by omega), e 3 (by omega), e 4 (by omega), e1 1 (by omega), e1 4 (by omega), e1 5 (by omega)]
  exact hs
theorem by8 {a : Nat} (h : a < 128) : (nI a).toInt8.toInt32 = nI a := by
  have : ∀ a, a < 128 → (nI a).toInt8.toInt32 = nI a := by decide +kernel
  exact this a h
theorem by8o {o : Option Nat} (h : ∀ a, o = some a → a < 128) : (oI o).toInt8.toInt32 = oI o := by
  cases o with
  | none => decide
  | some a => exact by8 (h a rfl)
theorem up2_s {q k : Nat} {v : Int32} : up2 f q k v q k = v := by simp [up2]
theorem up2_k {q k i : Nat} {v : Int32} (h : i ≠ k) : up2 f q k v q i = f q i := by simp [up2, h]
theorem up2_q {q k i r : Nat} {v : Int32} (h : r ≠ q) : up2 f q k v r i = f r i := by simp [up2, h]
theorem up2_a {q k i : Nat} {v : Int32} : up2 f q k v q i = if i = k then v else f q i := by simp [up2]
theorem scne (hp : isSc p) : p ≠ 55 ∧ p ≠ 50 ∧ p ≠ 0 ∧ p ≠ 1 ∧ p ≠ 59 ∧ p ≠ 125 := by rcases hp with rfl | rfl | rfl | rfl | rfl | rfl | rfl | rfl <;> decide
end AE
section AF
theorem NC : (∀ {a b : Nat}, a < 2 ^ 31 → b < 2 ^ 31 → (nI a ≤ nI b) = (a ≤ b)) ∧ (∀ {a b : Nat}, a < 2 ^ 31 → b < 2 ^ 31 → (nI a < nI b) = (a < b)) ∧ (∀ {a b : Nat}, a < 2 ^ 31 → b < 2 ^ 31 → (nI a = nI b) = (a = b)) ∧
  (∀ {a : Nat}, a < 2 ^ 31 → (nI a < 0) = False) ∧ (∀ {a : Nat}, a < 2 ^ 31 → (nI a = 0) = (a = 0)) ∧ (∀ {a : Nat}, a < 2 ^ 31 → (nI a = 1) = (a = 1)) ∧ (∀ {a : Nat}, a < 2 ^ 31 → (nI a ≤ 0) = (a = 0)) ∧ (∀ {a : Nat}, a < 2 ^ 31 → (nI a < 1) = (a = 0)) ∧ (∀ {a : Nat}, a < 2 ^ 31 → (0 < nI a) = (0 < a)) ∧ (∀ {a : Nat}, a < 2 ^ 31 → (1 ≤ nI a) = (1 ≤ a)) ∧ (∀ {a : Nat}, a < 2 ^ 31 → (1 < nI a) = (1 < a)) ∧ (∀ {a : Nat}, a < 2 ^ 31 → (nI a ≤ 1) = (a ≤ 1)) ∧ (∀ {a : Nat}, a < 2 ^ 31 → (0 ≤ nI a) = True) ∧ (∀ {a : Nat}, a < 2 ^ 31 → (nI a = -1) = False) ∧ (∀ {a : Nat}, a < 2 ^ 31 → (-1 = nI a) = False) ∧ ((-1 : Int32) < 0) = True := by
  have z : (0 : Int32) = nI 0 := rfl
  have o : (1 : Int32) = nI 1 := rfl
  have z31 : 0 < 2 ^ 31 := by decide
  have o31 : 1 < 2 ^ 31 := by decide
  refine ⟨?_, ?_, ?_, ?_, ?_, ?_, ?_, ?_, ?_, ?_, ?_, ?_, ?_, ?_, ?_, neg1_lt⟩
  · intro a b h h'; exact propext (nI_leI h h')
  · intro a b h h'; exact propext (nI_ltI h h')
  · intro a b h h'; exact propext (nI_eq h h')
  · intro a h; exact nI_lt0 h
  · intro a h; rw [z, nI_eq h z31]
  · intro a h; rw [o, nI_eq h o31]
  · intro a h; rw [z, nI_leI h z31]; simp
  · intro a h; rw [o, nI_ltI h o31]; simp
  · intro a h; rw [z, nI_ltI z31 h]
  · intro a h; rw [o, nI_leI o31 h]
  · intro a h; rw [o, nI_ltI o31 h]
  · intro a h; rw [o, nI_leI h o31]
  · intro a h; exact eq_true (nI_pos' h)
  · intro a h; exact eq_false (nI_ne_neg h)
  · intro a h; exact eq_false (Ne.symm (nI_ne_neg h))
theorem L2 : (5 : Int32) = nI 5 ∧ (7 : Int32) = nI 7 ∧ (11 : Int32) = nI 11 ∧ (13 : Int32) = nI 13 ∧ (15 : Int32) = nI 15 ∧ (16 : Int32) = nI 16 ∧ (17 : Int32) = nI 17 ∧ (18 : Int32) = nI 18 ∧ (19 : Int32) = nI 19 ∧ (20 : Int32) = nI 20 ∧ (21 : Int32) = nI 21 ∧ (22 : Int32) = nI 22 ∧ (32 : Int32) = nI 32 ∧ (64 : Int32) = nI 64 ∧ (300 : Int32) = nI 300 ∧ (330 : Int32) = nI 330 := by decide +kernel
theorem nI_s1 {a : Nat} (h : 0 < a) : nI a - 1 = nI (a - 1) := pk_sub (b := 1) h
theorem nI_m1 {a : Nat} (h : 0 < a) : nI a + (-1) = nI (a - 1) := by
  rw [← nI_s1 h, Int32.sub_eq_add_neg]
theorem nI_s2 {a : Nat} (h : 2 ≤ a) : nI a - nI 2 = nI (a - 2) := pk_sub (b := 2) h
end AF
