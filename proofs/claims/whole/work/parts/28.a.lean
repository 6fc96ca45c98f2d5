variable {scr : List Int32}
-- ===== one step back, pure =====
section AG1
theorem sm_app {F : Nat → Nat} {m : Nat} : ∀ b, sm F (m + b) = sm F m + sm (fun i => F (m + i)) b := by
  intro b
  induction b with
  | zero => simp [sm]
  | succ b ih =>
    rw [Nat.add_succ]
    simp only [sm, ih]
    omega
theorem sm_mul {F : Nat → Nat} {b : Nat} : ∀ a, sm F (a * b) = sm (fun i => sm (fun k => F (i * b + k)) b) a := by
  intro a
  induction a with
  | zero => simp [sm]
  | succ a ih =>
    rw [Nat.succ_mul, sm_app, ih]
    simp only [sm]
theorem sm_only {F : Nat → Nat} {x : Nat} : ∀ n, x < n → (∀ i, i < n → i ≠ x → F i = 0) → sm F n = F x := by
  intro n
  induction n with
  | zero => intro h; omega
  | succ n ih =>
    intro hx h
    simp only [sm]
    by_cases e : x = n
    · subst e
      have : sm F x = sm (fun _ => 0) x := sm_congr (fun i hi => h i (by omega) (by omega))
      rw [this, sm_0]
      omega
    · rw [ih (by omega) (fun i hi hne => h i (by omega) hne), h n (by omega) (Ne.symm e)]
      omega
theorem sm_z {F : Nat → Nat} {n : Nat} (h : ∀ i, i < n → F i = 0) : sm F n = 0 := by
  rw [sm_congr (F' := fun _ => 0) h, sm_0]
theorem sm_ge {F : Nat → Nat} {x : Nat} : ∀ n, x < n → F x ≤ sm F n := by
  intro n
  induction n with
  | zero => intro h; omega
  | succ n ih =>
    intro hx
    simp only [sm]
    by_cases e : x = n
    · subst e; omega
    · have := ih (by omega); omega
theorem sm_mr {F : Nat → Nat} {x : Nat} : ∀ n, sm (fun i => F i * x) n = sm F n * x := by
  intro n
  induction n with
  | zero => simp [sm]
  | succ n ih => simp only [sm, ih, Nat.add_mul]
variable {P : Pn} {D : Dy} {B : Nat → Nat} {L : Lw}
/-- he stays, or comes from beside -/
def plc (P : Pn) (h w : Nat) : Option Nat := if w = 8 then some h else beO P h w
def cOf (P : Pn) (x : Nat) : Nat := 12 * (x / pCo P) + x % pCo P
theorem cOf_th (hP : wfP P) (h0 : 0 < pCo P) {x : Nat} (hx : x < pCo P * pRo P) : thB P (cOf P x) = true ∧ cOf P x % 12 = x % pCo P ∧ cOf P x / 12 = x / pCo P := by
  have c12 := hP.1
  have h1 : x % pCo P < pCo P := Nat.mod_lt _ h0
  have h2 : x / pCo P < pRo P := Nat.div_lt_of_lt_mul hx
  have e1 : cOf P x % 12 = x % pCo P := by unfold cOf; omega
  have e2 : cOf P x / 12 = x / pCo P := by unfold cOf; omega
  refine ⟨?_, e1, e2⟩
  unfold thB ceB
  rw [e1, e2]
  simp [h1, h2]
theorem cOf_of (hP : wfP P) {q : Nat} (hq : thB P q = true) : ∃ x, x < pCo P * pRo P ∧ cOf P x = q ∧ 0 < pCo P := by
  have c12 := hP.1
  simp only [thB, ceB, Bool.and_eq_true, decide_eq_true_eq] at hq
  obtain ⟨h1, h2⟩ := hq
  have h0 : 0 < pCo P := by omega
  have hd : (q / 12 * pCo P + q % 12) / pCo P = q / 12 := by
    rw [Nat.mul_comm, Nat.mul_add_div h0, Nat.div_eq_of_lt h1]
    omega
  have hm : (q / 12 * pCo P + q % 12) % pCo P = q % 12 := by
    rw [Nat.mul_comm, Nat.mul_add_mod, Nat.mod_eq_of_lt h1]
  refine ⟨q / 12 * pCo P + q % 12, ?_, ?_, h0⟩
  · have : (q / 12 + 1) * pCo P ≤ pRo P * pCo P := Nat.mul_le_mul_right _ (by omega)
    rw [Nat.succ_mul] at this
    rw [Nat.mul_comm (pCo P)]
    omega
  · unfold cOf
    rw [hd, hm]
    omega
theorem cOf_inj (hP : wfP P) (h0 : 0 < pCo P) {x y : Nat} (hx : x < pCo P * pRo P) (hy : y < pCo P * pRo P) (e : cOf P x = cOf P y) : x = y := by
  obtain ⟨-, a1, a2⟩ := cOf_th hP h0 hx
  obtain ⟨-, b1, b2⟩ := cOf_th hP h0 hy
  rw [e] at a1 a2
  have e1 : x % pCo P = y % pCo P := by rw [← a1, b1]
  have e2 : x / pCo P = y / pCo P := by rw [← a2, b2]
  rw [← Nat.div_add_mod x (pCo P), ← Nat.div_add_mod y (pCo P), e1, e2]
theorem plc_th (hP : wfP P) {h w q : Nat} (hh : thB P h = true) (e : plc P h w = some q) : thB P q = true := by
  unfold plc at e
  split at e
  · cases e; exact hh
  · exact be_th hP e
theorem ds_self (h : Nat) : dsN h h = 0 := by unfold dsN sqD; simp
theorem plc_cnt (hP : wfP P) {h q : Nat} (hh : thB P h = true) (hq : thB P q = true) : sm (fun w => tf (decide (plc P h w = some q))) 9 = if dsN h q ≤ 2 then 1 else 0 := by
  have h1 := bw_all h (th_lt hP hh) q (th_lt hP hq)
  have e8 : sm (fun w => tf (decide (plc P h w = some q))) 8 = sm (fun k => tf (bw h q k)) 8 := by
    apply sm_congr
    intro i hi
    show tf (decide (plc P h i = some q)) = tf (bw h q i)
    rw [← be_bw hP hq]
    unfold plc
    rw [if_neg (by omega)]
  show sm (fun w => tf (decide (plc P h w = some q))) 8 + tf (decide (plc P h 8 = some q)) = _
  rw [e8, h1]
  have ep : plc P h 8 = some h := rfl
  rw [ep]
  by_cases e : h = q
  · subst e
    rw [ds_self]
    simp [tf]
  · by_cases hd : dsN h q ≤ 2
    · rw [if_pos ⟨Ne.symm e, hd⟩, if_pos hd]
      simp [tf, e]
    · rw [if_neg (fun h => hd h.2), if_neg hd]
      simp [tf, e]
theorem rx (hP : wfP P) {h : Nat} (hh : thB P h = true) {g : Nat → Nat} (hg : ∀ q, thB P q = true → ¬ dsN h q ≤ 2 → g q = 0) : sm (fun w => match plc P h w with
    | none => 0
    | some q => g q) 9 = sm (fun x => g (cOf P x)) (pCo P * pRo P) := by
  obtain ⟨x0, -, -, h0⟩ := cOf_of hP hh
  have e1 : ∀ w, (match plc P h w with
    | none => 0
    | some q => g q) = sm (fun x => tf (decide (plc P h w = some (cOf P x))) * g (cOf P x)) (pCo P * pRo P) := by
    intro w
    cases e : plc P h w with
    | none =>
      symm
      apply sm_z
      intro i _
      simp [tf]
    | some q =>
      obtain ⟨x, hx, ex, -⟩ := cOf_of hP (plc_th hP hh e)
      symm
      show _ = g q
      rw [sm_only (x := x) _ hx, ex]
      · simp [tf]
      · intro i hi hne
        have : ¬ q = cOf P i := fun e2 => hne (cOf_inj hP h0 hi hx (by rw [← e2, ex]))
        simp [tf, this]
  rw [sm_congr (F' := fun w => sm (fun x => tf (decide (plc P h w = some (cOf P x))) * g (cOf P x)) (pCo P * pRo P)) (fun i _ => e1 i), sm_ex]
  apply sm_congr
  intro x hx
  show sm (fun w => tf (decide (plc P h w = some (cOf P x))) * g (cOf P x)) 9 = g (cOf P x)
  rw [sm_mr, plc_cnt hP hh (cOf_th hP h0 hx).1]
  by_cases hd : dsN h (cOf P x) ≤ 2
  · rw [if_pos hd]; omega
  · rw [if_neg hd, hg _ (cOf_th hP h0 hx).1 hd]
-- ===== those who are there =====
def thF (pl : Nat → Option Nat) : Nat → Nat → Nat
  | 0 => fun _ => 0
  | k + 1 => if (pl k).isSome = true then upN (thF pl k) (cnP pl k) k else thF pl k
variable {pl : Nat → Option Nat}
theorem cn_s {k : Nat} : cnP pl (k + 1) = cnP pl k + (if (pl k).isSome = true then 1 else 0) := rfl
theorem thF_lt : ∀ k i, i < cnP pl k → thF pl k i < k ∧ (pl (thF pl k i)).isSome = true := by
  intro k
  induction k with
  | zero => intro i hi; simp [cnP] at hi
  | succ k ih =>
    intro i hi
    rw [cn_s] at hi
    simp only [thF]
    by_cases hk : (pl k).isSome = true
    · rw [if_pos hk] at hi ⊢
      rw [upN_at]
      by_cases e : i = cnP pl k
      · rw [if_pos e]; exact ⟨by omega, hk⟩
      · rw [if_neg e]
        have := ih i (by omega)
        exact ⟨by omega, this.2⟩
    · rw [if_neg hk] at hi ⊢
      have := ih i (by omega)
      exact ⟨by omega, this.2⟩
theorem thF_inj : ∀ k i j, i < j → j < cnP pl k → thF pl k i < thF pl k j := by
  intro k
  induction k with
  | zero => intro i j _ hj; simp [cnP] at hj
  | succ k ih =>
    intro i j hij hj
    rw [cn_s] at hj
    simp only [thF]
    by_cases hk : (pl k).isSome = true
    · rw [if_pos hk] at hj ⊢
      rw [upN_at, upN_at, if_neg (by omega)]
      by_cases e : j = cnP pl k
      · rw [if_pos e]
        exact (thF_lt k i (by omega)).1
      · rw [if_neg e]
        exact ih i j hij (by omega)
    · rw [if_neg hk] at hj ⊢
      exact ih i j hij (by omega)
theorem thF_all : ∀ k w, w < k → (pl w).isSome = true → ∃ i, i < cnP pl k ∧ thF pl k i = w := by
  intro k
  induction k with
  | zero => intro w hw; omega
  | succ k ih =>
    intro w hw hs
    rw [cn_s]
    simp only [thF]
    by_cases e : w = k
    · subst e
      rw [if_pos hs, if_pos hs]
      exact ⟨cnP pl w, by omega, by rw [upN_at, if_pos rfl]⟩
    · obtain ⟨i, hi, h2⟩ := ih w (by omega) hs
      by_cases hk : (pl k).isSome = true
      · rw [if_pos hk, if_pos hk]
        exact ⟨i, by omega, by rw [upN_at, if_neg (by omega)]; exact h2⟩
      · rw [if_neg hk, if_neg hk]
        exact ⟨i, by omega, h2⟩
/-- nobody stands behind the people -/
theorem pl_no (hP : wfP P) (hl : wfL P pl) {v : Nat} (h1 : pPe P ≤ v) (h2 : v < 12) : pl v = none := by
  cases e : pl v with
  | none => rfl
  | some q =>
    have := (wfL_lt hP hl e).2.2.2
    unfold exB at this
    simp only [Bool.or_eq_true, Bool.and_eq_true, decide_eq_true_eq] at this
    omega
theorem th_12 (hP : wfP P) (hl : wfL P pl) : ∀ k, pPe P ≤ k → k ≤ 12 → cnP pl k = cnP pl (pPe P) ∧ thF pl k = thF pl (pPe P) := by
  intro k
  induction k with
  | zero =>
    intro h _
    have e : pPe P = 0 := by omega
    rw [e]
    exact ⟨rfl, rfl⟩
  | succ k ih =>
    intro h1 h2
    by_cases e : pPe P = k + 1
    · rw [e]; exact ⟨rfl, rfl⟩
    · have hn := pl_no hP hl (v := k) (by omega) (by omega)
      obtain ⟨a, b⟩ := ih (by omega) (by omega)
      rw [cn_s]
      simp only [thF, hn, Option.isSome_none, Bool.false_eq_true, if_false]
      exact ⟨by omega, b⟩
-- ===== from where a step leads here =====
def ldB (P : Pn) (B : Nat → Nat) (L : Lw) (D : Dy) (th : Nat → Nat) (pl : Nat → Option Nat) (n : Nat) : Bool := (List.range n).all (fun i => decide (dPl (stD P B L (pl, D.2)) (th i) = dPl D (th i)))
def vC (P : Pn) (B : Nat → Nat) (L : Lw) (D : Dy) (th : Nat → Nat) (n : Nat) : Nat → Nat → (Nat → Option Nat) → Nat
  | 0, _, pl => tf (ldB P B L D th pl n)
  | r + 1, code, pl => match plc P (plG (dPl D) (th (n - 1 - r))) (code / 9 ^ r) with
    | none => 0
    | some q => if frA P pl q = true then vC P B L D th n r (code % 9 ^ r) (plU pl (th (n - 1 - r)) (some q)) else 0
def sC9 (P : Pn) (B : Nat → Nat) (L : Lw) (D : Dy) (th : Nat → Nat) (n : Nat) : Nat → (Nat → Option Nat) → Nat
  | 0, pl => tf (ldB P B L D th pl n)
  | r + 1, pl => sm (fun w => match plc P (plG (dPl D) (th (n - 1 - r))) w with
    | none => 0
    | some q => if frA P pl q = true then sC9 P B L D th n r (plU pl (th (n - 1 - r)) (some q)) else 0) 9
def vM (P : Pn) (B : Nat → Nat) (L : Lw) (D : Dy) (th : Nat → Nat) (n : Nat) : Nat → Nat → (Nat → Option Nat) → Nat
  | 0, _, pl => tf (ldB P B L D th pl n)
  | r + 1, code, pl => if frA P pl (cOf P (code % (pCo P * pRo P))) = true then vM P B L D th n r (code / (pCo P * pRo P)) (plU pl (th (n - 1 - r)) (some (cOf P (code % (pCo P * pRo P))))) else 0
def sMc (P : Pn) (B : Nat → Nat) (L : Lw) (D : Dy) (th : Nat → Nat) (n : Nat) : Nat → (Nat → Option Nat) → Nat
  | 0, pl => tf (ldB P B L D th pl n)
  | r + 1, pl => sm (fun x => if frA P pl (cOf P x) = true then sMc P B L D th n r (plU pl (th (n - 1 - r)) (some (cOf P x))) else 0) (pCo P * pRo P)
variable {th : Nat → Nat} {n : Nat}
theorem vC_sum : ∀ r pl, sm (fun code => vC P B L D th n r code pl) (9 ^ r) = sC9 P B L D th n r pl := by
  intro r
  induction r with
  | zero => intro pl; simp [sm, vC, sC9]
  | succ r ih =>
    intro pl
    have h9 : 0 < 9 ^ r := Nat.pow_pos (by decide)
    rw [Nat.pow_succ, Nat.mul_comm, sm_mul]
    show _ = sm _ 9
    apply sm_congr
    intro i hi
    have e : ∀ k, k < 9 ^ r → vC P B L D th n (r + 1) (i * 9 ^ r + k) pl = (match plc P (plG (dPl D) (th (n - 1 - r))) i with
      | none => 0
      | some q => if frA P pl q = true then vC P B L D th n r k (plU pl (th (n - 1 - r)) (some q)) else 0) := by
      intro k hk
      have e1 : (i * 9 ^ r + k) / 9 ^ r = i := by
        rw [Nat.mul_comm, Nat.mul_add_div h9, Nat.div_eq_of_lt hk, Nat.add_zero]
      have e2 : (i * 9 ^ r + k) % 9 ^ r = k := by
        rw [Nat.mul_comm, Nat.mul_add_mod, Nat.mod_eq_of_lt hk]
      simp only [vC, e1, e2]
    rw [sm_congr (fun k hk => e k hk)]
    cases plc P (plG (dPl D) (th (n - 1 - r))) i with
    | none => exact sm_0
    | some q =>
      dsimp only
      by_cases hf : frA P pl q = true
      · simp only [hf, if_true]
        exact ih _
      · simp only [hf, if_false]
        exact sm_0
theorem vM_sum (h0 : 0 < pCo P * pRo P) : ∀ r pl, sm (fun code => vM P B L D th n r code pl) ((pCo P * pRo P) ^ r) = sMc P B L D th n r pl := by
  intro r
  induction r with
  | zero => intro pl; simp [sm, vM, sMc]
  | succ r ih =>
    intro pl
    rw [Nat.pow_succ, sm_mul]
    have e : ∀ i, i < (pCo P * pRo P) ^ r → sm (fun k => vM P B L D th n (r + 1) (i * (pCo P * pRo P) + k) pl) (pCo P * pRo P) = sm (fun k => if frA P pl (cOf P k) = true then vM P B L D th n r i (plU pl (th (n - 1 - r)) (some (cOf P k))) else 0) (pCo P * pRo P) := by
      intro i _
      apply sm_congr
      intro k hk
      have e1 : (i * (pCo P * pRo P) + k) / (pCo P * pRo P) = i := by
        rw [Nat.mul_comm, Nat.mul_add_div h0, Nat.div_eq_of_lt hk, Nat.add_zero]
      have e2 : (i * (pCo P * pRo P) + k) % (pCo P * pRo P) = k := by
        rw [Nat.mul_comm, Nat.mul_add_mod, Nat.mod_eq_of_lt hk]
      simp only [vM, e1, e2]
    rw [sm_congr e, sm_ex]
    show _ = sm _ (pCo P * pRo P)
    apply sm_congr
    intro k _
    by_cases hf : frA P pl (cOf P k) = true
    · simp only [hf, if_true]
      exact ih _
    · simp only [hf, if_false]
      exact sm_0
theorem be_ds (hP : wfP P) {q h y : Nat} (hq : thB P q = true) (hy : y < 8) (e : beO P q y = some h) : dsN h q ≤ 2 := by
  have ht := be_th hP e
  have h1 := bw_all q (th_lt hP hq) h (th_lt hP ht)
  have h2 := be_bw hP (h := q) (k := y) ht
  rw [e] at h2
  have h3 := sm_ge (F := fun k => tf (bw q h k)) 8 hy
  rw [h1] at h3
  have h4 : tf (bw q h y) = 1 := by rw [← h2]; simp [tf]
  rw [h4] at h3
  by_cases hd : h ≠ q ∧ dsN q h ≤ 2
  · rw [ds_cm]; exact hd.2
  · rw [if_neg hd] at h3; omega
theorem near_tu {X : Dy} (hP : wfP P) (hl : wfL P (dPl X)) {w h : Nat} {o : Option Nat} (e : dPl (tuD P X w o) w = some h) : ∃ q, dPl X w = some q ∧ dsN h q ≤ 2 := by
  have e1 : dPl (mvD P X w o) w = some h := by
    unfold tuD lgA at e
    split at e
    · rename_i hn
      rw [hn] at e
      cases e
    · split at e
      · exfalso
        have : plU (dPl (mvD P X w o)) w none w = some h := e
        simp [plU] at this
      · exact e
  unfold mvD at e1
  split at e1
  · exact ⟨h, e1, by rw [ds_self]; omega⟩
  · rename_i m hm
    obtain ⟨⟨q, hq⟩, -⟩ := mvA_some hm
    obtain ⟨y, hy, hb⟩ := mvA_adj hq hm
    have e2 : plU (dPl X) w (some m) w = some h := e1
    simp only [plU, if_true] at e2
    cases e2
    exact ⟨q, hq, be_ds hP (wfL_lt hP hl hq).2.2.1 hy hb⟩
theorem near_sp {X : Dy} (hP : wfP P) (hl : wfL P (dPl X)) {w h : Nat} : ∀ m, dPl (spD P B L X m) w = some h → ∃ q, dPl X w = some q ∧ dsN h q ≤ 2 := by
  intro m
  induction m generalizing h with
  | zero => intro e; exact ⟨h, e, by rw [ds_self]; omega⟩
  | succ m ih =>
    intro e
    simp only [spD] at e
    by_cases hm : w = m
    · subst hm
      obtain ⟨q, hq, hd⟩ := near_tu hP (wfL_sp hP hl w) e
      have := (rc_sp (subP_rf hP) hl (B := B) (L := L) (n := 0) w w).2 (Nat.le_refl _)
      rw [this] at hq
      exact ⟨q, hq, hd⟩
    · rw [tu_oth hm] at e
      exact ih e
theorem near_st {X : Dy} (hP : wfP P) (hl : wfL P (dPl X)) {w h : Nat} (e : dPl (stD P B L X) w = some h) : ∃ q, dPl X w = some q ∧ dsN h q ≤ 2 := near_sp (X := inS X) hP hl (pPe P) e
/-- the people that are asked of -/
def okH (P : Pn) (D : Dy) (th : Nat → Nat) (n : Nat) : Prop := (∀ i, i < n → th i < pPe P ∧ ∃ h, dPl D (th i) = some h ∧ thB P h = true) ∧ ∀ i k, i < k → k < n → th i < th k
theorem wfL_fr (hP : wfP P) (hl : wfL P pl) {w q : Nat} (hw : w < pPe P) (hf : frA P pl q = true) : wfL P (plU pl w (some q)) := by
  obtain ⟨h1, h2, h3⟩ := frA_th hf
  exact wfL_put hl (by simp [exB, hw]) h1 h2 (fun v _ => who_nn hP hl h3 v)
theorem sM_z (hP : wfP P) (hth : okH P D th n) : ∀ r pl, r ≤ n → wfL P pl → (∃ i q h, i < n - r ∧ pl (th i) = some q ∧ dPl D (th i) = some h ∧ ¬ dsN h q ≤ 2) → sMc P B L D th n r pl = 0 := by
  intro r
  induction r with
  | zero =>
    rintro pl - hl ⟨i, q, h, hi, hq, hh, hd⟩
    show tf (ldB P B L D th pl n) = 0
    cases hb : ldB P B L D th pl n with
    | false => rfl
    | true =>
      exfalso
      unfold ldB at hb
      rw [List.all_eq_true] at hb
      have := hb i (List.mem_range.mpr (by omega))
      rw [decide_eq_true_eq, hh] at this
      obtain ⟨q', hq', hd'⟩ := near_st (X := (pl, D.2)) hP hl this
      have e : pl (th i) = some q' := hq'
      rw [hq] at e
      cases e
      exact hd hd'
  | succ r ih =>
    rintro pl hr hl ⟨i, q, h, hi, hq, hh, hd⟩
    apply sm_z
    intro x _
    by_cases hf : frA P pl (cOf P x) = true
    · simp only [hf, if_true]
      have hw := (hth.1 (n - 1 - r) (by omega)).1
      apply ih _ (by omega) (wfL_fr hP hl hw hf)
      refine ⟨i, q, h, by omega, ?_, hh, hd⟩
      unfold plU
      have := hth.2 i (n - 1 - r) (by omega) (by omega)
      rw [if_neg (by omega)]
      exact hq
    · simp only [hf, Bool.false_eq_true, if_false]
theorem sC_sM (hP : wfP P) (hth : okH P D th n) : ∀ r pl, r ≤ n → wfL P pl → sC9 P B L D th n r pl = sMc P B L D th n r pl := by
  intro r
  induction r with
  | zero => intro pl _ _; rfl
  | succ r ih =>
    intro pl hr hl
    obtain ⟨hw, h, hh, ht⟩ := hth.1 (n - 1 - r) (by omega)
    have eh : plG (dPl D) (th (n - 1 - r)) = h := by unfold plG; rw [hh]; rfl
    show sm _ 9 = sm _ _
    rw [eh]
    rw [← rx hP ht (g := fun q => if frA P pl q = true then sMc P B L D th n r (plU pl (th (n - 1 - r)) (some q)) else 0)]
    · apply sm_congr
      intro w _
      cases plc P h w with
      | none => rfl
      | some q =>
        dsimp only
        by_cases hf : frA P pl q = true
        · simp only [hf, if_true]
          exact ih _ (by omega) (wfL_fr hP hl hw hf)
        · simp only [hf, Bool.false_eq_true, if_false]
    · intro q _ hd
      by_cases hf : frA P pl q = true
      · simp only [hf, if_true]
        apply sM_z hP hth r _ (by omega) (wfL_fr hP hl hw hf)
        exact ⟨n - 1 - r, q, h, by omega, by simp [plU], hh, hd⟩
      · simp only [hf, Bool.false_eq_true, if_false]
end AG1
