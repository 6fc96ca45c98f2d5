variable {scr : List Int32}
-- ===== the plain, told =====
section RE4
def kdO (x : Nat) : Option Nat := if x = 46 then some 0 else if x = 35 then some 1 else if x = 126 then some 2 else if x = 71 then some 3 else none
theorem kdO_lt {x k : Nat} (h : kdO x = some k) : k < 4 := by
  unfold kdO at h
  repeat' split at h
  all_goals first | (cases h; decide) | cases h
def rlF (T : Tp) : Nat → Nat → Nat
  | 0, _ => 0
  | k + 1, q => match kdO (ch8 T q) with
    | none => 0
    | some _ => rlF T k (q + 1) + 1
def kdv (x : Nat) : Nat := (kdO x).getD 0
/-- a row more -/
def adR (P : Pn) (T : Tp) (q w : Nat) : Pn := fun a b => if a = 0 then w else if a = 1 then pRo P + 1 else if a = 4 ∧ 12 * pRo P ≤ b ∧ b < 12 * pRo P + w then kdv (ch8 T (q + (b - 12 * pRo P))) else P a b
def adP (P : Pn) (age sort : Nat) : Pn := fun a b => if a = 2 then pPe P + 1 else if a = 5 ∧ b = pPe P then age else if a = 6 ∧ b = pPe P then sort else P a b
def adH (P : Pn) : Pn := fun a b => if a = 3 then pHe P + 1 else P a b
variable {T : Tp} {P : Pn} {pl : Nat → Option Nat}
theorem rl_le : ∀ k q, rlF T k q ≤ k := by
  intro k
  induction k with
  | zero => intro q; exact Nat.le_refl _
  | succ k ih =>
    intro q
    simp only [rlF]
    split
    · exact Nat.zero_le _
    · have := ih (q + 1); omega
theorem rl_in : ∀ k q x, x < rlF T k q → ∃ y, kdO (ch8 T (q + x)) = some y := by
  intro k
  induction k with
  | zero => intro q x h; simp [rlF] at h
  | succ k ih =>
    intro q x h
    simp only [rlF] at h
    cases e : kdO (ch8 T q) with
    | none => rw [e] at h; simp at h
    | some y =>
      rw [e] at h
      dsimp only at h
      cases x with
      | zero => exact ⟨y, e⟩
      | succ x =>
        have := ih (q + 1) x (by omega)
        rw [show q + 1 + x = q + (x + 1) by omega] at this
        exact this
theorem rl_out : ∀ k q, rlF T k q < k → kdO (ch8 T (q + rlF T k q)) = none := by
  intro k
  induction k with
  | zero => intro q h; omega
  | succ k ih =>
    intro q h
    simp only [rlF] at h ⊢
    cases e : kdO (ch8 T q) with
    | none => simp only [Nat.add_zero]; exact e
    | some y =>
      simp only [e] at h ⊢
      rw [show q + (rlF T k (q + 1) + 1) = q + 1 + rlF T k (q + 1) by omega]
      exact ih (q + 1) (by omega)
theorem kd_in {q : Nat} {y : Nat} (h : kdO (ch8 T q) = some y) : q < T.1 := by
  apply ch8_in
  unfold kdO at h
  have := ch8_le (T := T) (p := q)
  by_cases e : ch8 T q = 256
  · rw [e] at h; simp at h
  · omega
theorem rl_tape {k q : Nat} (hq : q ≤ T.1) : q + rlF T k q ≤ T.1 := by
  cases e : rlF T k q with
  | zero => omega
  | succ n =>
    obtain ⟨y, hy⟩ := rl_in (T := T) k q n (by omega)
    have := kd_in hy
    omega
-- the fields of what is told
theorem adR_f {q w : Nat} : pCo (adR P T q w) = w ∧ pRo (adR P T q w) = pRo P + 1 ∧ pPe (adR P T q w) = pPe P ∧ pHe (adR P T q w) = pHe P ∧ (∀ b, pAg (adR P T q w) b = pAg P b) ∧ (∀ b, pSo (adR P T q w) b = pSo P b) ∧ (∀ b, pKd (adR P T q w) b = if 12 * pRo P ≤ b ∧ b < 12 * pRo P + w then kdv (ch8 T (q + (b - 12 * pRo P))) else pKd P b) := by
  refine ⟨rfl, rfl, rfl, rfl, fun _ => rfl, fun _ => rfl, ?_⟩
  intro b
  show adR P T q w 4 b = _
  unfold adR pKd
  simp only [show ¬ (4 = 0) by decide, show ¬ (4 = 1) by decide, if_false, true_and]
theorem adP_f {a s : Nat} : pCo (adP P a s) = pCo P ∧ pRo (adP P a s) = pRo P ∧ pPe (adP P a s) = pPe P + 1 ∧ pHe (adP P a s) = pHe P ∧ (∀ b, pAg (adP P a s) b = if b = pPe P then a else pAg P b) ∧ (∀ b, pSo (adP P a s) b = if b = pPe P then s else pSo P b) ∧ (∀ b, pKd (adP P a s) b = pKd P b) := by
  refine ⟨rfl, rfl, rfl, rfl, ?_, ?_, fun _ => rfl⟩
  · intro b
    show adP P a s 5 b = _
    unfold adP pAg
    simp
  · intro b
    show adP P a s 6 b = _
    unfold adP pSo
    simp
theorem adH_f : pCo (adH P) = pCo P ∧ pRo (adH P) = pRo P ∧ pPe (adH P) = pPe P ∧ pHe (adH P) = pHe P + 1 ∧ (∀ b, pAg (adH P) b = pAg P b) ∧ (∀ b, pSo (adH P) b = pSo P b) ∧ (∀ b, pKd (adH P) b = pKd P b) := ⟨rfl, rfl, rfl, rfl, fun _ => rfl, fun _ => rfl, fun _ => rfl⟩
/-- what is told so far is well told -/
def WD (P : Pn) (pl : Nat → Option Nat) : Prop := wfP P ∧ wfL P pl ∧ (∀ w, w < pPe P → ∃ t, pl w = some t) ∧ ∀ h, h < pHe P → ∃ t, pl (12 + h) = some t
theorem kdv_lt {x : Nat} : kdv x < 4 := by
  unfold kdv
  cases e : kdO x with
  | none => decide
  | some k => exact kdO_lt e
theorem WD_row {q w : Nat} (h : WD P pl) (hr : pRo P < 12) (h0 : pPe P + pHe P = 0) (hw : 0 < w) (hw12 : w ≤ 12) : WD (adR P T q w) pl := by
  obtain ⟨⟨a1, a2, a3, a4, a5, a6, a7, a8, a9⟩, hl, b1, b2⟩ := h
  obtain ⟨f1, f2, f3, f4, f5, f6, f7⟩ := adR_f (P := P) (T := T) (q := q) (w := w)
  have np : ∀ v t, pl v ≠ some t := by
    intro v t e
    have := (hl.1 v t e).1
    unfold exB at this
    simp only [Bool.or_eq_true, Bool.and_eq_true, decide_eq_true_eq] at this
    omega
  refine ⟨⟨?_, ?_, ?_, ?_, ?_, ?_, ?_, ?_, ?_⟩, ⟨fun v t e => absurd e (np v t), fun v v' t e _ => absurd e (np v t)⟩, ?_, ?_⟩
  · rw [f1]; exact hw12
  · rw [f2]; omega
  · rw [f1, f2]; omega
  · rw [f3]; exact a4
  · rw [f4]; exact a5
  · intro b
    rw [f7]
    split
    · exact kdv_lt
    · exact a6 b
  · intro b; rw [f5]; exact a7 b
  · intro b; rw [f6]; exact a8 b
  · rw [f2]; omega
  · rw [f3]; intro v hv; omega
  · rw [f4]; intro v hv; omega
theorem th_eq {P P' : Pn} (h1 : pCo P' = pCo P) (h2 : pRo P' = pRo P) (q : Nat) : thB P' q = thB P q := by
  unfold thB ceB
  rw [h1, h2]
theorem WD_pe {q a s : Nat} (h : WD P pl) (hr : 0 < pRo P) (hp : pPe P < 12) (hf : frA P pl q = true) (ha : a < 100) (hs : s < 10) : WD (adP P a s) (plU pl (pPe P) (some q)) := by
  obtain ⟨hP, hl, b1, b2⟩ := h
  obtain ⟨g1, g2, g3⟩ := frA_th hf
  have hno : ∀ v, pl v ≠ some q := fun v => who_nn hP hl g3 v
  have f5 := (adP_f (P := P) (a := a) (s := s)).2.2.2.2.1
  have f6 := (adP_f (P := P) (a := a) (s := s)).2.2.2.2.2.1
  obtain ⟨a1, a2, a3, a4, a5, a6, a7, a8, a9⟩ := hP
  refine ⟨⟨a1, a2, a3, ?_, a5, a6, ?_, ?_, ?_⟩, ⟨?_, inj_put hl.2 (fun v _ => hno v)⟩, ?_, ?_⟩
  · show pPe P + 1 ≤ 12; omega
  · intro b; rw [f5]; split
    · exact ha
    · exact a7 b
  · intro b; rw [f6]; split
    · exact hs
    · exact a8 b
  · intro e
    have e : pRo P = 0 := e
    omega
  · intro v t e
    unfold plU at e
    by_cases hv : v = pPe P
    · rw [if_pos hv] at e
      cases e
      refine ⟨?_, g1, g2⟩
      unfold exB
      have : v < pPe (adP P a s) := by show v < pPe P + 1; omega
      simp [this]
    · rw [if_neg hv] at e
      obtain ⟨x1, x2, x3⟩ := hl.1 v t e
      refine ⟨?_, x2, x3⟩
      unfold exB at x1 ⊢
      simp only [Bool.or_eq_true, Bool.and_eq_true, decide_eq_true_eq] at x1 ⊢
      show v < pPe P + 1 ∨ 12 ≤ v ∧ v < 12 + pHe P
      omega
  · intro w hw
    have hw : w < pPe P + 1 := hw
    unfold plU
    by_cases e : w = pPe P
    · exact ⟨q, by rw [if_pos e]⟩
    · rw [if_neg e]; exact b1 w (by omega)
  · intro h hh
    unfold plU
    rw [if_neg (by omega)]
    exact b2 h hh
theorem WD_he {q : Nat} (h : WD P pl) (hr : 0 < pRo P) (hp : pHe P < 2) (hf : frA P pl q = true) : WD (adH P) (plU pl (12 + pHe P) (some q)) := by
  obtain ⟨hP, hl, b1, b2⟩ := h
  obtain ⟨g1, g2, g3⟩ := frA_th hf
  have hno : ∀ v, pl v ≠ some q := fun v => who_nn hP hl g3 v
  obtain ⟨a1, a2, a3, a4, a5, a6, a7, a8, a9⟩ := hP
  refine ⟨⟨a1, a2, a3, a4, ?_, a6, a7, a8, ?_⟩, ⟨?_, inj_put hl.2 (fun v _ => hno v)⟩, ?_, ?_⟩
  · show pHe P + 1 ≤ 2; omega
  · intro e
    have e : pRo P = 0 := e
    omega
  · intro v t e
    unfold plU at e
    by_cases hv : v = 12 + pHe P
    · rw [if_pos hv] at e
      cases e
      refine ⟨?_, g1, g2⟩
      unfold exB
      have : v < 12 + pHe (adH P) := by show v < 12 + (pHe P + 1); omega
      have h12 : 12 ≤ v := by omega
      simp [this, h12]
    · rw [if_neg hv] at e
      obtain ⟨x1, x2, x3⟩ := hl.1 v t e
      refine ⟨?_, x2, x3⟩
      unfold exB at x1 ⊢
      simp only [Bool.or_eq_true, Bool.and_eq_true, decide_eq_true_eq] at x1 ⊢
      show v < pPe P ∨ 12 ≤ v ∧ v < 12 + (pHe P + 1)
      omega
  · intro w hw
    have hw : w < pPe P := hw
    unfold plU
    rw [if_neg (by omega)]
    exact b1 w hw
  · intro h hh
    have hh : h < pHe P + 1 := hh
    unfold plU
    by_cases e : h = pHe P
    · exact ⟨q, by rw [if_pos (by omega)]⟩
    · rw [if_neg (by omega)]; exact b2 h (by omega)
-- ===== what a clause comes to =====
def spR (T : Tp) (P : Pn) (pl : Nat → Option Nat) (p : Nat) : Nat ⊕ (Nat × Nat) := match nuR T p 0 11 with
  | .inl x => .inl x
  | .inr (x, e1) => match nuR T e1 0 11 with
    | .inl x => .inl x
    | .inr (y, e2) => if frA P pl (12 * y + x) = true then .inr (12 * y + x, e2) else .inl (1 + 8 * sk T p + 5)
abbrev PRs : Type := Nat ⊕ (Nat × Pn × (Nat → Option Nat))
def roR (T : Tp) (P : Pn) (pl : Nat → Option Nat) (q : Nat) : PRs := if rlF T 13 q = 13 then .inl (1 + 8 * (q + 12) + 5) else if rlF T 13 q = 0 then .inl (1 + 8 * q) else if 0 < pRo P ∧ ¬ rlF T 13 q = pCo P then .inl (1 + 8 * (q + rlF T 13 q - 1) + 5) else .inr (q + rlF T 13 q, adR P T q (rlF T 13 q), pl)
def peR (T : Tp) (P : Pn) (pl : Nat → Option Nat) (e : Nat) : PRs := match spR T P pl e with
  | .inl x => .inl x
  | .inr (q, e2) => match nuR T e2 0 99 with
    | .inl x => .inl x
    | .inr (a, e3) => match nuR T e3 0 9 with
      | .inl x => .inl x
      | .inr (s, e4) => .inr (e4, adP P a s, plU pl (pPe P) (some q))
def heR (T : Tp) (P : Pn) (pl : Nat → Option Nat) (e : Nat) : PRs := match spR T P pl e with
  | .inl x => .inl x
  | .inr (q, e2) => .inr (e2, adH P, plU pl (12 + pHe P) (some q))
def plC (T : Tp) (P : Pn) (pl : Nat → Option Nat) (p : Nat) : PRs :=
  if isW T (sk T p) (stx 6) = true then (if 12 ≤ pRo P ∨ 0 < pPe P + pHe P then .inl (1 + 8 * sk T p + 4) else roR T P pl (sk T (we T (sk T p))))
  else if isW T (sk T p) (stx 7) = true then (if pRo P = 0 ∨ 12 ≤ pPe P then .inl (1 + 8 * sk T p + 4) else peR T P pl (we T (sk T p)))
  else if isW T (sk T p) (stx 8) = true then (if pRo P = 0 ∨ 2 ≤ pHe P then .inl (1 + 8 * sk T p + 4) else heR T P pl (we T (sk T p)))
  else .inl (1 + 8 * sk T p)
def plL (T : Tp) : Nat → Nat → Pn → (Nat → Option Nat) → Nat ⊕ (Pn × (Nat → Option Nat))
  | 0, _, _, _ => .inl 0
  | u + 1, p, P, pl => match plC T P pl p with
    | .inl x => .inl x
    | .inr (p1, P1, pl1) => if T.1 ≤ sk T p1 then .inr (P1, pl1) else if ch8 T (sk T p1) = 59 then plL T u (sk T p1 + 1) P1 pl1 else .inl (1 + 8 * sk T p1)
theorem nu_le {p lo hi v e : Nat} (hp : p ≤ T.1) (h : nuR T p lo hi = .inr (v, e)) : e ≤ T.1 ∧ v ≤ hi ∧ lo ≤ v := by
  unfold nuR at h
  split at h
  · cases h
  · split at h
    · cases h
    · cases h
      exact ⟨de_le (sk_le hp), by omega, by omega⟩
theorem nu_x {p lo hi x : Nat} (hp : p < 2 ^ 20) (hT : TX T) (h : nuR T p lo hi = .inl x) : 0 < x ∧ x < 2 ^ 25 := by
  have := sk_20 hT hp
  unfold nuR at h
  split at h
  · cases h; omega
  · split at h
    · cases h; omega
    · cases h
theorem spR_ok {p q e : Nat} (hp : p ≤ T.1) (h : spR T P pl p = .inr (q, e)) : frA P pl q = true ∧ e ≤ T.1 ∧ q < 144 := by
  unfold spR at h
  split at h
  · cases h
  · rename_i x e1 h1
    obtain ⟨a1, a2, -⟩ := nu_le hp h1
    split at h
    · cases h
    · rename_i y e2 h2
      obtain ⟨b1, b2, -⟩ := nu_le a1 h2
      split at h
      · cases h
        rename_i hf
        exact ⟨hf, b1, by omega⟩
      · cases h
theorem spR_x {p x : Nat} (hp : p ≤ T.1) (hT : TX T) (h : spR T P pl p = .inl x) : 0 < x ∧ x < 2 ^ 25 := by
  have h400 := hT.1
  have := sk_le (T := T) hp
  unfold spR at h
  split at h
  · rename_i x' h1
    cases h
    exact nu_x (by omega) hT h1
  · rename_i a e1 h1
    obtain ⟨a1, a2, -⟩ := nu_le hp h1
    split at h
    · rename_i x' h2
      cases h
      exact nu_x (by omega) hT h2
    · split at h
      · cases h
      · cases h; omega
/-- a clause that is well told -/
theorem plC_ok {p p1 : Nat} {P1 : Pn} {pl1 : Nat → Option Nat} (hp : p ≤ T.1) (hW : WD P pl) (h : plC T P pl p = .inr (p1, P1, pl1)) : p1 ≤ T.1 ∧ WD P1 pl1 ∧ pRo P1 + pPe P1 + pHe P1 = pRo P + pPe P + pHe P + 1 ∧ 0 < pRo P1 := by
  have sle := sk_le (T := T) hp
  have wle := we_le (T := T) sle
  have sle2 := sk_le (T := T) wle
  unfold plC at h
  split at h
  · split at h
    · cases h
    · rename_i hx
      unfold roR at h
      have r13 := rl_le (T := T) 13 (sk T (we T (sk T p)))
      repeat' split at h
      all_goals first | cases h | skip
      refine ⟨rl_tape sle2, WD_row hW (by omega) (by omega) (by omega) (by omega), ?_, ?_⟩
      · show pRo P + 1 + pPe P + pHe P = _; omega
      · show 0 < pRo P + 1; omega
  · split at h
    · split at h
      · cases h
      · rename_i hx
        unfold peR at h
        split at h
        · cases h
        · rename_i q e2 h1
          obtain ⟨s1, s2, s3⟩ := spR_ok wle h1
          split at h
          · cases h
          · rename_i a e3 h2
            obtain ⟨n1, n2, -⟩ := nu_le s2 h2
            split at h
            · cases h
            · rename_i s e4 h3
              obtain ⟨m1, m2, -⟩ := nu_le n1 h3
              cases h
              refine ⟨m1, WD_pe hW (by omega) (by omega) s1 (by omega) (by omega), ?_, ?_⟩
              · show pRo P + (pPe P + 1) + pHe P = _; omega
              · show 0 < pRo P; omega
    · split at h
      · split at h
        · cases h
        · rename_i hx
          unfold heR at h
          split at h
          · cases h
          · rename_i q e2 h1
            obtain ⟨s1, s2, s3⟩ := spR_ok wle h1
            cases h
            refine ⟨s2, WD_he hW (by omega) (by omega) s1, ?_, ?_⟩
            · show pRo P + pPe P + (pHe P + 1) = _; omega
            · show 0 < pRo P; omega
      · cases h
theorem plC_x {p x : Nat} (hp : p ≤ T.1) (hT : TX T) (h : plC T P pl p = .inl x) : 0 < x ∧ x < 2 ^ 25 := by
  have h400 := hT.1
  have sle := sk_le (T := T) hp
  have wle := we_le (T := T) sle
  have sle2 := sk_le (T := T) wle
  have r13 := rl_le (T := T) 13 (sk T (we T (sk T p)))
  unfold plC at h
  split at h
  · split at h
    · cases h; omega
    · unfold roR at h
      repeat' split at h
      all_goals first | (cases h; omega) | cases h
  · split at h
    · split at h
      · cases h; omega
      · unfold peR at h
        split at h
        · rename_i x' h1; cases h; exact spR_x wle hT h1
        · rename_i q e2 h1
          obtain ⟨s1, s2, s3⟩ := spR_ok wle h1
          split at h
          · rename_i x' h2; cases h; exact nu_x (by omega) hT h2
          · rename_i a e3 h2
            obtain ⟨n1, n2, -⟩ := nu_le s2 h2
            split at h
            · rename_i x' h3; cases h; exact nu_x (by omega) hT h3
            · cases h
    · split at h
      · split at h
        · cases h; omega
        · unfold heR at h
          split at h
          · rename_i x' h1; cases h; exact spR_x wle hT h1
          · cases h
      · cases h; omega
theorem plL_ok : ∀ u p P pl P1 pl1, p ≤ T.1 → WD P pl → plL T u p P pl = .inr (P1, pl1) → WD P1 pl1 := by
  intro u
  induction u with
  | zero => intro p P pl P1 pl1 _ _ h; cases h
  | succ u ih =>
    intro p P pl P1 pl1 hp hW h
    simp only [plL] at h
    split at h
    · cases h
    · rename_i p1 P2 pl2 h1
      obtain ⟨x1, x2, -⟩ := plC_ok hp hW h1
      split at h
      · cases h; exact x2
      · rename_i hlt
        split at h
        · exact ih _ _ _ _ _ (by omega) x2 h
        · cases h
end RE4
