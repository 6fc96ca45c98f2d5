variable {scr : List Int32}
-- ===== nobody comes out sooner than he can =====
section BI
variable {P P' : Pn} {D : Dy} {B : Nat → Nat} {L : Lw} {s : St}
theorem bf_keep {i k q : Nat} (h : s.1 q ≠ 99) : (bfU P s i k).1 q = s.1 q := by
  unfold bfU
  split
  · rfl
  · split
    · rename_i n _ hc
      show upN s.1 n _ q = s.1 q
      rw [upN_at, if_neg (fun e => h (by rw [e]; exact hc.1))]
    · rfl
theorem bf_keepR {i q : Nat} (h : s.1 q ≠ 99) : ∀ k, (bfR P s i k).1 q = s.1 q := by
  intro k
  induction k with
  | zero => rfl
  | succ k ih =>
    show (bfU P (bfR P s i k) i k).1 q = _
    rw [bf_keep (by rw [ih]; exact h), ih]
theorem bf_keepA {q : Nat} (h : s.1 q ≠ 99) : ∀ i, (bfA P s i).1 q = s.1 q := by
  intro i
  induction i with
  | zero => rfl
  | succ i ih =>
    simp only [bfA]
    split
    · rw [bf_keepR (by rw [ih]; exact h), ih]
    · exact ih
theorem gd_gate (hP : wfP P) {q : Nat} (ht : thB P q = true) (hk : pKd P q = 3) : gdA P q = 0 := by
  have h0 := (bg_inv (P := P) 144).2.2.2.1 q (th_lt hP ht) ht hk
  unfold gdA
  rw [bf_keepA (by rw [h0]; decide), h0]
theorem gd_bv (hP : wfP P) : ∃ i, (bfA P (bg0 P 144) 144).2.2 ≤ i ∧ BV P (bfA P (bg0 P 144) 144) i 0 := by
  rcases bv_A hP (bg_bv hP) 144 with a | ⟨-, a⟩
  · exact ⟨144, bv_le hP a, a⟩
  · exact ⟨_, Nat.le_refl _, a⟩
theorem gd_le (hP : wfP P) (q : Nat) : gdA P q ≤ 99 := by
  obtain ⟨i, -, h⟩ := gd_bv hP
  have := bv_B h q
  unfold gdA
  omega
theorem gd_lip (hP : wfP P) {q n w : Nat} (hw : w < 8) (hb : beO P q w = some n) (hg : gkB (pKd P n) = true) : gdA P n ≤ gdA P q + 1 := by
  obtain ⟨i, hi, h⟩ := gd_bv hP
  have hle := gd_le hP n
  unfold gdA at hle ⊢
  rcases h.2.2.1 q with a | ⟨j, a, b⟩
  · rw [a]; omega
  · have := h.2.2.2.2.2.1 j a w hw (Or.inl (by omega)) n (by rw [b]; exact hb) hg
    rw [b] at this
    exact this
theorem bw_sym : ∀ h, h < 144 → ∀ n, n < 144 → (List.range 8).any (bw h n) = (List.range 8).any (bw n h) := by decide +kernel
theorem be_sym (hP : wfP P) {h k n : Nat} (hh : thB P h = true) (hk : k < 8) (hb : beO P h k = some n) : ∃ y, y < 8 ∧ beO P n y = some h := by
  have hn := be_th hP hb
  have e : bw h n k = true := by
    rw [← be_bw (h := h) (k := k) hP hn, hb]
    simp
  have h1 : (List.range 8).any (bw h n) = true := by
    rw [List.any_eq_true]
    exact ⟨k, List.mem_range.mpr hk, e⟩
  rw [bw_sym h (th_lt hP hh) n (th_lt hP hn), List.any_eq_true] at h1
  obtain ⟨y, hy, h2⟩ := h1
  rw [← be_bw hP hh] at h2
  exact ⟨y, List.mem_range.mp hy, by simpa using h2⟩
theorem apA_adj {pl : Nat → Option Nat} {h t : Nat} : ∀ k n, (apA P pl h t k).1 = some n → ∃ y, y < k ∧ beO P h y = some n := by
  intro k
  induction k with
  | zero => intro n hn; simp [apA] at hn
  | succ k ih =>
    intro n hn
    simp only [apA] at hn
    split at hn
    · obtain ⟨y, a, b⟩ := ih n hn
      exact ⟨y, by omega, b⟩
    · rename_i n' hn'
      split at hn
      · simp only [Option.some.injEq] at hn
        exact ⟨k, by omega, by rw [← hn]; exact hn'⟩
      · obtain ⟨y, a, b⟩ := ih n hn
        exact ⟨y, by omega, b⟩
theorem mvA_adj {pl : Nat → Option Nat} {w n h : Nat} {o : Option Nat} (hw : pl w = some h) (e : mvA P pl w o = some n) : ∃ y, y < 8 ∧ beO P h y = some n := by
  unfold mvA at e
  rw [hw] at e
  cases o with
  | none => cases e
  | some v => exact apA_adj 8 n e
/-- the same plain, or one with a wall more -/
def subP (P' P : Pn) : Prop := wfP P' ∧ wfP P ∧ (∀ q, thB P' q = thB P q) ∧ (∀ q, gkB (pKd P' q) = true → gkB (pKd P q) = true) ∧ (∀ q, pKd P' q = 3 → pKd P q = 3) ∧ pPe P' = pPe P ∧ (∀ q k, beO P' q k = beO P q k)
theorem subP_rf (hP : wfP P) : subP P P := ⟨hP, hP, fun _ => rfl, fun _ h => h, fun _ h => h, rfl, fun _ _ => rfl⟩
def rc (P : Pn) (pl : Nat → Option Nat) (n w : Nat) : Nat := match pl w with
  | none => 1
  | some h => tf (decide (1 ≤ n) && decide (gdA P h ≤ n))
theorem tf_le {a b : Bool} (h : a = true → b = true) : tf a ≤ tf b := by
  cases a <;> cases b <;> simp_all [tf]
theorem tu_oth {w m : Nat} {o : Option Nat} (h : w ≠ m) : dPl (tuD P D m o) w = dPl D w := by
  have e1 : ∀ D, dPl (lgA P D m) w = dPl D w := by
    intro D
    unfold lgA
    split
    · rfl
    · split
      · show plU (dPl D) m none w = _
        simp [plU, h]
      · rfl
  have e2 : dPl (mvD P D m o) w = dPl D w := by
    unfold mvD
    split
    · rfl
    · rename_i n _
      show plU (dPl D) m (some n) w = _
      simp [plU, h]
  unfold tuD
  rw [e1, e2]
theorem rc_tu (hsub : subP P' P) (hl : wfL P' (dPl D)) {m n : Nat} {o : Option Nat} : rc P (dPl (tuD P' D m o)) n m ≤ rc P (dPl D) (n + 1) m := by
  obtain ⟨hP', hP, s1, s2, s3, s4, s5⟩ := hsub
  have one : ∀ pl n w, rc P pl n w ≤ 1 := by
    intro pl n w
    unfold rc
    split
    · exact Nat.le_refl _
    · unfold tf; split <;> omega
  cases hm : dPl D m with
  | none =>
    have e : rc P (dPl D) (n + 1) m = 1 := by unfold rc; rw [hm]
    rw [e]; exact one _ _ _
  | some h =>
    obtain ⟨-, -, hth, -⟩ := wfL_lt hP' hl hm
    have hg := (hl.1 m h hm).2.2
    -- where he stands when he has gone
    have key : ∃ h', dPl (mvD P' D m o) m = some h' ∧ thB P' h' = true ∧ gdA P h ≤ gdA P h' + 1 := by
      unfold mvD
      cases hmv : mvA P' (dPl D) m o with
      | none => exact ⟨h, hm, hth, by omega⟩
      | some n' =>
        refine ⟨n', ?_, ?_, ?_⟩
        · show plU (dPl D) m (some n') m = _
          simp [plU]
        · exact (frA_th (mvA_some hmv).2).1
        · obtain ⟨y, hy, hb⟩ := mvA_adj hm hmv
          rw [s5] at hb
          obtain ⟨z, hz, hb2⟩ := be_sym hP (by rw [← s1]; exact hth) hy hb
          exact gd_lip hP hz hb2 (s2 h hg)
    obtain ⟨h', e1, e2, e3⟩ := key
    have eR : rc P (dPl D) (n + 1) m = tf (decide (1 ≤ n + 1) && decide (gdA P h ≤ n + 1)) := by unfold rc; rw [hm]
    rw [eR]
    unfold tuD lgA
    rw [e1]
    simp only
    split
    · rename_i h3
      have g0 : gdA P h' = 0 := gd_gate hP (by rw [← s1]; exact e2) (s3 h' h3)
      have : (decide (1 ≤ n + 1) && decide (gdA P h ≤ n + 1)) = true := by simp; omega
      rw [this]
      exact one _ _ _
    · have eL : rc P (dPl (mvD P' D m o)) n m = tf (decide (1 ≤ n) && decide (gdA P h' ≤ n)) := by unfold rc; rw [e1]
      rw [eL]
      apply tf_le
      intro hh
      simp at hh ⊢
      omega
theorem rc_mono {pl : Nat → Option Nat} {n w : Nat} : rc P pl n w ≤ rc P pl (n + 1) w := by
  unfold rc
  split
  · exact Nat.le_refl _
  · apply tf_le
    intro hh
    simp at hh ⊢
    omega
theorem rc_sp (hsub : subP P' P) (hl : wfL P' (dPl D)) {n : Nat} : ∀ m w, rc P (dPl (spD P' B L D m)) n w ≤ rc P (dPl D) (n + 1) w ∧ (m ≤ w → dPl (spD P' B L D m) w = dPl D w) := by
  intro m
  induction m with
  | zero => intro w; exact ⟨rc_mono, fun _ => rfl⟩
  | succ m ih =>
    intro w
    by_cases e : w = m
    · subst e
      refine ⟨?_, fun h => by omega⟩
      have h1 := rc_tu (n := n) (m := w) (o := fol P' B L (dPl (spD P' B L D w)) w) hsub (wfL_sp (B := B) (L := L) hsub.1 hl w)
      have h2 := (ih w).2 (Nat.le_refl _)
      have h3 : rc P (dPl (spD P' B L D w)) (n + 1) w = rc P (dPl D) (n + 1) w := by unfold rc; rw [h2]
      rw [← h3]
      exact h1
    · have ee : dPl (spD P' B L D (m + 1)) w = dPl (spD P' B L D m) w := tu_oth e
      have er : rc P (dPl (spD P' B L D (m + 1))) n w = rc P (dPl (spD P' B L D m)) n w := by unfold rc; rw [ee]
      rw [er, ee]
      exact ⟨(ih w).1, fun h => (ih w).2 (by omega)⟩
def sRc (P : Pn) (pl : Nat → Option Nat) (n : Nat) : Nat := sm (rc P pl n) (pPe P)
theorem sm_le {F F' : Nat → Nat} {n : Nat} (h : ∀ i, i < n → F i ≤ F' i) : sm F n ≤ sm F' n := by
  induction n with
  | zero => exact Nat.le_refl _
  | succ n ih =>
    simp only [sm]
    have h1 := ih (fun i hi => h i (by omega))
    have h2 := h n (by omega)
    omega
theorem sR_st (hsub : subP P' P) (hl : wfL P' (dPl D)) {n : Nat} : sRc P (dPl (stD P' B L D)) n ≤ sRc P (dPl D) (n + 1) := by
  apply sm_le
  intro w _
  exact (rc_sp (D := inS D) hsub hl (pPe P') w).1
theorem sR_wk (hsub : subP P' P) {n : Nat} : ∀ k D, wfL P' (dPl D) → sRc P (dPl (wkD P' B L k D)) n ≤ sRc P (dPl D) (n + k) := by
  intro k
  induction k with
  | zero => intro D _; exact Nat.le_refl _
  | succ k ih =>
    intro D hl
    have h1 := ih (stD P' B L D) (wfL_sp (D := inS D) hsub.1 hl (pPe P'))
    have h2 := sR_st (B := B) (L := L) hsub hl (n := n + k)
    show sRc P (dPl (wkD P' B L k (stD P' B L D))) n ≤ _
    rw [show n + (k + 1) = n + k + 1 by omega]
    omega
theorem sR_0 {pl : Nat → Option Nat} : sRc P pl 0 = pPe P - cnP pl (pPe P) := by
  unfold sRc
  generalize pPe P = m
  induction m with
  | zero => rfl
  | succ m ih =>
    simp only [sm, cnP, ih]
    have := cn_le (pl := pl) (m := m)
    unfold rc
    cases pl m with
    | none => simp; omega
    | some h => simp [tf]
/-- the bound that the class counts -/
def boA (P : Pn) (D : Dy) (n : Nat) : Nat := dOc D + sm (fun w => match dPl D w with
  | none => 0
  | some h => tf (decide (1 ≤ n) && decide (gdA P h ≤ n))) 12
theorem boA_sR (hP : wfP P) (hl : wfL P (dPl D)) (hoc : dOc D + cnP (dPl D) (pPe P) = pPe P) {n : Nat} : boA P D n = sRc P (dPl D) n := by
  have p12 := hP.2.2.2.1
  have key : ∀ k, pPe P ≤ k → k ≤ 12 → sm (fun w => match dPl D w with
    | none => 0
    | some h => tf (decide (1 ≤ n) && decide (gdA P h ≤ n))) k = sm (fun w => match dPl D w with
    | none => 0
    | some h => tf (decide (1 ≤ n) && decide (gdA P h ≤ n))) (pPe P) := by
    intro k
    induction k with
    | zero => intro h1 _; rw [show pPe P = 0 by omega]
    | succ k ih =>
      intro h1 h2
      by_cases e : pPe P = k + 1
      · rw [e]
      · have hk : dPl D k = none := by
          cases hx : dPl D k with
          | none => rfl
          | some t =>
            have := (wfL_lt hP hl hx).2.2.2
            unfold exB at this
            simp only [Bool.or_eq_true, Bool.and_eq_true, decide_eq_true_eq] at this
            omega
        simp only [sm]
        rw [ih (by omega) (by omega), hk]
        rfl
  have split' : ∀ m, sm (rc P (dPl D) n) m + cnP (dPl D) m = m + sm (fun w => match dPl D w with
    | none => 0
    | some h => tf (decide (1 ≤ n) && decide (gdA P h ≤ n))) m := by
    intro m
    induction m with
    | zero => rfl
    | succ m ih =>
      simp only [sm, cnP]
      unfold rc at ih ⊢
      cases dPl D m with
      | none => simp at ih ⊢; omega
      | some h => simp at ih ⊢; omega
  unfold boA sRc
  rw [key 12 p12 (Nat.le_refl _)]
  have := split' (pPe P)
  omega
end BI
