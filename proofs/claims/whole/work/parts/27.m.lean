variable {scr : List Int32}
-- ===== files and rings: the class =====
section FI2
variable {f G f' G' : Nat → Nat → Int32} {J J' : Nat → Nat → Int64} {c : Value} {d : Nat} {P : Pn} {D : Dy} {t : Nat → Option Nat}
def pO (P : Pn) (o : Option Nat) : Bool := match o with
  | none => false
  | some v => decide (v < pPe P)
theorem w53o (hP : wfP P) (hs : RS f G 3 P) {o : Option Nat} (ho : ∀ v, o = some v → v < 14) {T : Int32 → aH → Prop} : vI scr d 53 [.ref 3, .int (oI o)] (wo f G J c) T = T (bz (pO P o)) (wo f G J c) := by
  cases o with
  | none =>
    unfold wo
    rw [sp53 isS3]
    congr 1
  | some v =>
    have := ho v rfl
    exact w53 isS3 hP hs (by omega)
/-- whom each follows: people who are there, or heralds -/
def okT (P : Pn) (t : Nat → Option Nat) : Prop := ∀ v u, t v = some u → u < 14 ∧ (u < 12 → u < pPe P)
def okO (P : Pn) (o : Option Nat) : Prop := ∀ u, o = some u → u < 14 ∧ (u < 12 → u < pPe P)
theorem fi_lt : ∀ u m (o : Option Nat), m < 4096 → fiA t u m o < 4096 := by
  intro u
  induction u with
  | zero => intro m o hm; exact hm
  | succ u ih =>
    intro m o hm
    cases o with
    | none => exact hm
    | some v =>
      simp only [fiA]
      split
      · rename_i hv
        exact ih _ _ (Nat.or_lt_two_pow (n := 12) hm (sh_ok v hv.1).2.2)
      · exact hm
theorem fl_in (hP : wfP P) (hs : RS f G 3 P) (ht : okT P t) (h58 : ∀ w, w < pPe P → G 58 w = oI (t w)) {l1 l2 : Int32} {K : Option Value → aH → Prop} : ∀ u i m (o : Option Nat), 12 - i = u → i ≤ 12 → m < 4096 → okO P o → (∀ l4 l5 : Int32, E scr false (d + 1) 31 98 [.ref 59, .int l1, .int l2, .int (nI (fiA t u m o)), .int l4, .int l5] [] (wo f G J c) K) → E scr false (d + 1) 31 45 [.ref 59, .int l1, .int l2, .int (nI m), .int (oI o), .int (nI i)] [] (wo f G J c) K := by
  have p12 := hP.2.2.2.1
  intro u
  induction u with
  | zero =>
    intro i m o hu hi hm ho hK
    have e : i = 12 := by omega
    subst e
    rw [b31_45]
    simp (disch := omega) only [LI, NC, Nat.le_refl, if_true]
    exact hK _ _
  | succ u ih =>
    intro i m o hu hi hm ho hK
    rw [b31_45]
    simp (disch := omega) only [LI, NC, show ¬ 12 ≤ i by omega, if_false, pLr scr]
    rw [w53o hP hs (fun v hv => (ho v hv).1)]
    cases o with
    | none =>
      simp only [pO, bz_f, if_true]
      exact hK _ _
    | some v =>
      obtain ⟨v14, hv⟩ := ho v rfl
      by_cases v12 : v < 12
      · have hvp := hv v12
        simp only [pO, hvp, decide_true, bz_t, show ¬ ((1 : Int32) = 0) by decide, if_false, oI_s]
        simp only [ibit (m := m) (v := v) (by omega) v12]
        by_cases hbit : m.testBit v = false
        · rw [if_pos hbit]
          obtain ⟨s1, s2⟩ := iset (m := m) (v := v) hm v12
          have e58 := h58 v hvp
          simp (disch := omega) only [pLr scr, wK scr, e58, s1, nI_1]
          apply ih (i + 1) _ (t v) (by omega) (by omega) s2 (ht v)
          intro l4 l5
          have := hK l4 l5
          simp only [fiA, v12, hbit, and_self, if_true] at this
          exact this
        · rw [if_neg hbit]
          have := hK (nI v) (nI i)
          simp only [fiA, v12, hbit, and_false, if_false] at this
          exact this
      · have hvp : ¬ v < pPe P := by omega
        simp only [pO, hvp, decide_false, bz_f, if_true]
        have := hK (oI (some v)) (nI i)
        simp only [fiA, v12, false_and, if_false] at this
        exact this
def stO (pl : Nat → Option Nat) (p : Nat) : Option Nat := match pl p with
  | none => none
  | some _ => some p
def mxF (pl t : Nat → Option Nat) : Nat → Nat
  | 0 => 0
  | p + 1 => if mxF pl t p < bcN (fiA t 12 0 (stO pl p)) then bcN (fiA t 12 0 (stO pl p)) else mxF pl t p
theorem mxf_le {pl : Nat → Option Nat} : ∀ p, mxF pl t p ≤ 12 := by
  intro p
  induction p with
  | zero => exact Nat.zero_le _
  | succ p ih =>
    simp only [mxF]
    split
    · exact bc_le
    · exact ih
theorem fl_out (hP : wfP P) (hs : RS f G 3 P) (hd : RD f G 3 D) (hl : wfL P (dPl D)) (ht : okT P t) (h58 : ∀ w, w < pPe P → G 58 w = oI (t w)) {K : Option Value → aH → Prop} (hK : K (some (.int (nI (mxF (dPl D) t (pPe P))))) (wo f G J c)) : ∀ u p, pPe P - p = u → p ≤ pPe P → ∀ l3 l4 l5 : Value, E scr false (d + 1) 31 4 [.ref 59, .int (nI (mxF (dPl D) t p)), .int (nI p), l3, l4, l5] [] (wo f G J c) K := by
  have p12 := hP.2.2.2.1
  have e3 := hs.1.2.2.2.1
  intro u
  induction u with
  | zero =>
    intro p hu hp l3 l4 l5
    have e : p = pPe P := by omega
    subst e
    rw [b31_4]
    simp (disch := omega) only [pLr scr, sC scr isS3, e3, NC, Nat.le_refl, if_true]
    exact hK
  | succ u ih =>
    intro p hu hp l3 l4 l5
    have e1 := hd.2.2.2.1 p (by omega)
    rw [b31_4]
    simp (disch := omega) only [pLr scr, sC scr isS3, e3, LI, NC, show ¬ pPe P ≤ p by omega, show ¬ 12 ≤ p by omega, if_false, e1]
    have go : ∀ o : Option Nat, o = stO (dPl D) p → okO P o → ∀ l4 l5 : Value, E scr false (d + 1) 31 40 [.ref 59, .int (nI (mxF (dPl D) t p)), .int (nI p), .int 0, l4, l5] [.int (oI o)] (wo f G J c) K := by
      intro o ho hok l4 l5
      rw [b31_40, show (0 : Int32) = nI 0 from rfl]
      apply fl_in hP hs ht h58 12 0 0 o rfl (by omega) (by decide) hok
      intro l4 l5
      have hb := mxf_le (t := t) (pl := dPl D) p
      have hb2 := bc_le (m := fiA t 12 0 o)
      rw [b31_98, sp222 (fi_lt 12 0 o (by decide)), sp225, nI_1]
      simp (disch := omega) only [NC]
      have es : (if mxF (dPl D) t p < bcN (fiA t 12 0 o) then nI (bcN (fiA t 12 0 o)) else nI (mxF (dPl D) t p)) = nI (mxF (dPl D) t (p + 1)) := by
        simp only [mxF, ← ho]
        split <;> rfl
      rw [es]
      exact ih (p + 1) (by omega) (by omega) _ _ _
    cases ho : dPl D p with
    | none =>
      simp only [oI_n, show ¬ ((0 : Int32) ≤ -1) by decide, if_false]
      exact go none (by simp only [stO, ho]) (fun u hu => by cases hu) _ _
    | some q =>
      have := (wfL_lt hP hl ho).2.1
      simp (disch := omega) only [oI_s, NC, if_true]
      exact go (some p) (by simp only [stO, ho]) (fun u hu => by cases hu; omega) _ _
theorem w31 (hP : wfP P) (hs : RS f G 3 P) (hd : RD f G 3 D) (hl : wfL P (dPl D)) (ht : okT P t) (h58 : ∀ w, w < pPe P → G 58 w = oI (t w)) {T : Int32 → aH → Prop} (hT : T (nI (mxF (dPl D) t (pPe P))) (wo f G J c)) : vI scr (d + 1) 31 [.ref 59] (wo f G J c) T := by
  unfold vI
  rw [u31_ok, en31, b31_0]
  refine ⟨rfl, ?_⟩
  exact fl_out hP hs hd hl ht h58 (K := fun r h => ∃ x, r = some (Value.int x) ∧ T x h) ⟨_, rfl, hT⟩ (pPe P) 0 rfl (by omega) _ _ _
theorem it_ok (ht : okT P t) {p : Nat} (hp : p < pPe P) (hP : wfP P) : ∀ i, okO P (itT t p i) := by
  have p12 := hP.2.2.2.1
  intro i
  cases i with
  | zero =>
    intro u hu
    cases hu
    omega
  | succ i =>
    intro u hu
    simp only [itT] at hu
    split at hu
    · cases hu
    · rename_i v hv
      split at hu
      · exact ht v u hu
      · cases hu
theorem rg_loop (hP : wfP P) (hs : RS f G 3 P) (ht : okT P t) (h58 : ∀ w, w < pPe P → G 58 w = oI (t w)) {p : Nat} (hp : p < pPe P) {K : Option Value → aH → Prop} (h1 : ∀ k, RT t p k → K (some (.int (nI (mskT t p k)))) (wo f G J c)) (h0 : ¬ inR t p → K (some (.int 0)) (wo f G J c)) : ∀ u i, 12 - i = u → i ≤ 12 → mskT t p i < 4096 → (∀ j, 1 ≤ j → j ≤ i → itT t p j ≠ some p) → E scr false (d + 1) 33 7 [.ref 59, .int (nI p), .int (nI (mskT t p i)), .int (oI (itT t p i)), .int (nI i)] [] (wo f G J c) K := by
  have p12 := hP.2.2.2.1
  intro u
  induction u with
  | zero =>
    intro i hu hi hm hn
    have e : i = 12 := by omega
    subst e
    rw [b33_7]
    simp (disch := omega) only [LI, NC, Nat.le_refl, if_true]
    apply h0
    rintro ⟨k, hk⟩
    exact hn k hk.1 (RT_le hk) hk.2.1
  | succ u ih =>
    intro i hu hi hm hn
    have hgt : ∀ k, RT t p k → i < k := by
      intro k hk
      by_cases e : i < k
      · exact e
      · exact absurd hk.2.1 (hn k hk.1 (by omega))
    rw [b33_7]
    simp (disch := omega) only [LI, NC, show ¬ 12 ≤ i by omega, if_false, pLr scr]
    rw [w53o hP hs (fun v hv => (it_ok ht hp hP i v hv).1)]
    cases e : itT t p i with
    | none =>
      simp only [pO, bz_f, if_true]
      apply h0
      rintro ⟨k, hk⟩
      obtain ⟨w, -, hw⟩ := RT_lt hk (hgt k hk)
      rw [e] at hw
      cases hw
    | some v =>
      obtain ⟨v14, hv⟩ := it_ok ht hp hP i v e
      by_cases v12 : v < 12
      · have hvp := hv v12
        have e58 := h58 v hvp
        obtain ⟨s1, s2⟩ := iset (m := mskT t p i) (v := v) hm v12
        have es := it_s e v12
        simp (disch := omega) only [pO, hvp, decide_true, bz_t, show ¬ ((1 : Int32) = 0) by decide, if_false, oI_s, pLr scr, wK scr, e58, s1, nI_1]
        have hi2 := oI_inj (o := t v) (o' := some p) (fun a ha => by have := (ht v a ha).1; omega) (fun a ha => by cases ha; omega)
        rw [oI_s] at hi2
        simp only [hi2]
        rw [← msk_s e] at s2 ⊢
        by_cases hr : t v = some p
        · rw [if_pos hr]
          apply h1
          refine ⟨by omega, by rw [es]; exact hr, ?_⟩
          intro j hj1 hj2
          exact hn j hj1 (by omega)
        · rw [if_neg hr, ← es]
          apply ih (i + 1) (by omega) (by omega) s2
          intro j hj1 hj2
          by_cases ej : j = i + 1
          · rw [ej, es]; exact hr
          · exact hn j hj1 (by omega)
      · have hvp : ¬ v < pPe P := by omega
        simp only [pO, hvp, decide_false, bz_f, if_true]
        apply h0
        rintro ⟨k, hk⟩
        obtain ⟨w, hw12, hw⟩ := RT_lt hk (hgt k hk)
        rw [e] at hw
        cases hw
        exact v12 hw12
theorem w33 (hP : wfP P) (hs : RS f G 3 P) (ht : okT P t) (h58 : ∀ w, w < pPe P → G 58 w = oI (t w)) {p : Nat} (hp : p < pPe P) {T : Int32 → aH → Prop} (h1 : ∀ k, RT t p k → T (nI (mskT t p k)) (wo f G J c)) (h0 : ¬ inR t p → T 0 (wo f G J c)) : vI scr (d + 1) 33 [.ref 59, .int (nI p)] (wo f G J c) T := by
  unfold vI
  rw [u33_ok, en33, b33_0]
  refine ⟨rfl, ?_⟩
  exact rg_loop hP hs ht h58 hp (K := fun r h => ∃ x, r = some (Value.int x) ∧ T x h) (fun k hk => ⟨_, rfl, h1 k hk⟩) (fun h => ⟨_, rfl, h0 h⟩) 12 0 rfl (by omega) (show 0 < 4096 by decide) (fun j hj1 hj2 => by omega)
-- ===== all rings =====
def lsR (t : Nat → Option Nat) (p : Nat) : Prop := inR t p ∧ ∀ i w, itT t p i = some w → p ≤ w
noncomputable def lsB (t : Nat → Option Nat) (p : Nat) : Bool := @decide (lsR t p) (Classical.propDecidable _)
noncomputable def irB (t : Nat → Option Nat) (p : Nat) : Bool := @decide (inR t p) (Classical.propDecidable _)
theorem ls_iff {p : Nat} : lsB t p = true ↔ lsR t p := by unfold lsB; exact @decide_eq_true_iff _ (Classical.propDecidable _)
theorem ir_iff {p : Nat} : irB t p = true ↔ inR t p := by unfold irB; exact @decide_eq_true_iff _ (Classical.propDecidable _)
noncomputable def rcN (t : Nat → Option Nat) (p : Nat) : Nat := sm (fun i => tf (lsB t i)) p
noncomputable def rmK (t : Nat → Option Nat) : Nat → Nat
  | 0 => 0
  | p + 1 => if irB t p = true then rmK t p ||| 2 ^ p else rmK t p
theorem rm_bit {w : Nat} : ∀ p, (rmK t p).testBit w = true ↔ w < p ∧ inR t w := by
  intro p
  induction p with
  | zero => simp [rmK]
  | succ p ih =>
    simp only [rmK]
    split
    · rename_i hp
      rw [bit_or, Bool.or_eq_true, ih, decide_eq_true_eq]
      constructor
      · rintro (⟨h1, h2⟩ | h)
        · exact ⟨by omega, h2⟩
        · exact ⟨by omega, by rw [← h]; exact ir_iff.mp hp⟩
      · rintro ⟨h1, h2⟩
        by_cases e : p = w
        · exact Or.inr e
        · exact Or.inl ⟨by omega, h2⟩
    · rename_i hp
      rw [ih]
      constructor
      · rintro ⟨h1, h2⟩; exact ⟨by omega, h2⟩
      · rintro ⟨h1, h2⟩
        by_cases e : w = p
        · exact absurd (ir_iff.mpr (by rw [← e]; exact h2)) hp
        · exact ⟨by omega, h2⟩
theorem rm_lt : ∀ p, p ≤ 12 → rmK t p < 4096 := by
  intro p
  induction p with
  | zero => intro _; show (0 : Nat) < 4096; decide
  | succ p ih =>
    intro hp
    simp only [rmK]
    split
    · exact Nat.or_lt_two_pow (n := 12) (ih (by omega)) (sh_ok p (by omega)).2.2
    · exact ih (by omega)
theorem rc_le {p : Nat} : rcN t p ≤ p := smt_le p
/-- those in the rings of the first p -/
def unR (t : Nat → Option Nat) (p w : Nat) : Prop := ∃ p', p' < p ∧ ∃ k, RT t p' k ∧ ∃ i, i < k ∧ itT t p' i = some w
theorem un_rm {M p : Nat} (hP : ∀ w, M.testBit w = true ↔ unR t p w) (hp : ∀ v u, v < p → t v = some u → u < 12 → u < p) : M = rmK t p := by
  apply Nat.eq_of_testBit_eq
  intro w
  rw [Bool.eq_iff_iff, hP, rm_bit]
  constructor
  · rintro ⟨p', h1, k, hk, i, hi, hw⟩
    refine ⟨?_, (RT_mem hk hi hw).1⟩
    have key : ∀ i w, i < k → itT t p' i = some w → w < p := by
      intro i
      induction i with
      | zero => intro w _ h; cases h; exact h1
      | succ i ih =>
        intro w hi h
        obtain ⟨v, hv, e⟩ := it_lt h
        rw [it_s e hv] at h
        obtain ⟨w', hw', e'⟩ := RT_lt hk hi
        have : itT t p' (i + 1) = some w := by rw [it_s e hv]; exact h
        rw [this] at e'
        cases e'
        exact hp v w (ih v (by omega) e) h hw'
    exact key i w hi hw
  · rintro ⟨h1, k, hk⟩
    exact ⟨w, h1, k, hk, 0, by have := hk.1; omega, rfl⟩
theorem rgs_loop (hP : wfP P) (hs : RS f G 3 P) (ht : okT P t) (h58 : ∀ w, w < pPe P → G 58 w = oI (t w)) {l1 : Int32} {K : Option Value → aH → Prop} (hK : K (some (.int (if l1 = 0 then nI (rcN t (pPe P)) else nI (rmK t (pPe P))))) (wo f G J c)) : ∀ u p, pPe P - p = u → p ≤ pPe P → ∀ M, M < 4096 → (∀ w, M.testBit w = true ↔ unR t p w) → ∀ l5 : Value, E scr false (d + 2) 32 7 [.ref 59, .int l1, .int (nI (rcN t p)), .int (nI M), .int (nI p), l5] [] (wo f G J c) K := by
  have p12 := hP.2.2.2.1
  have e3 := hs.1.2.2.2.1
  intro u
  induction u with
  | zero =>
    intro p hu hp M hM hb l5
    have e : p = pPe P := by omega
    subst e
    have eM := un_rm hb (fun v u _ h1 h2 => (ht v u h1).2 h2)
    rw [b32_7]
    simp (disch := omega) only [pLr scr, sC scr isS3, e3, NC, Nat.le_refl, if_true, b32_65, eM]
    by_cases h1 : l1 = 0
    · rw [if_pos h1] at hK ⊢; exact hK
    · rw [if_neg h1] at hK ⊢; exact hK
  | succ u ih =>
    intro p hu hp M hM hb l5
    rw [b32_7]
    simp (disch := omega) only [pLr scr, sC scr isS3, e3, LI, NC, show ¬ pPe P ≤ p by omega, show ¬ 12 ≤ p by omega, if_false]
    have rs : rcN t (p + 1) = rcN t p + tf (lsB t p) := rfl
    apply w33 hP hs ht h58 (show p < pPe P by omega)
    · intro k hk
      have hml := RT_mask_lt hk k (Nat.le_refl _)
      have hor : M ||| mskT t p k < 4096 := Nat.or_lt_two_pow (n := 12) hM hml
      have hne : ¬ mskT t p k = 0 := by
        intro e
        have := (msk_bit (t := t) (p := p) (w := p) k).mpr ⟨0, hk.1, rfl⟩
        rw [e] at this
        simp at this
      have nx : ∀ w, (M ||| mskT t p k).testBit w = true ↔ unR t (p + 1) w := by
        intro w
        rw [Nat.testBit_or, Bool.or_eq_true, hb, msk_bit]
        constructor
        · rintro (⟨p', h1, h2⟩ | ⟨i, h1, h2⟩)
          · exact ⟨p', by omega, h2⟩
          · exact ⟨p, by omega, k, hk, i, h1, h2⟩
        · rintro ⟨p', h1, k', hk', h2⟩
          by_cases e : p' = p
          · subst e
            rw [RT_uq hk hk']
            exact Or.inr h2
          · exact Or.inl ⟨p', by omega, k', hk', h2⟩
      have hand : M &&& mskT t p k ≤ M := Nat.and_le_left
      have hls : (M &&& mskT t p k = 0) ↔ lsB t p = true := by
        rw [ls_iff]
        constructor
        · intro h0
          refine ⟨⟨k, hk⟩, ?_⟩
          intro i w hw
          obtain ⟨i', hi', e'⟩ := RT_mod hk i
          rw [hw] at e'
          by_cases hwp : p ≤ w
          · exact hwp
          · exfalso
            obtain ⟨⟨k2, hk2⟩, -⟩ := RT_mem hk hi' e'.symm
            have b1 : M.testBit w = true := (hb w).mpr ⟨w, by omega, k2, hk2, 0, hk2.1, rfl⟩
            have b2 : (mskT t p k).testBit w = true := (msk_bit k).mpr ⟨i', hi', e'.symm⟩
            have b3 : (M &&& mskT t p k).testBit w = true := by rw [Nat.testBit_and, b1, b2]; rfl
            rw [h0] at b3
            simp at b3
        · rintro ⟨-, hle⟩
          apply Nat.eq_of_testBit_eq
          intro w
          rw [Nat.zero_testBit, Nat.testBit_and]
          cases b1 : M.testBit w with
          | false => rfl
          | true =>
            cases b2 : (mskT t p k).testBit w with
            | false => rfl
            | true =>
              exfalso
              obtain ⟨p', h1, k', hk', i', hi', e'⟩ := (hb w).mp b1
              obtain ⟨i, hi, e⟩ := (msk_bit k).mp b2
              obtain ⟨-, i2, -, e2⟩ := RT_mem hk' hi' e'
              have e3 := it_add e i2
              rw [e2] at e3
              have := hle _ _ e3
              omega
      simp (disch := omega) only [NC, hne, if_false, iand_nI]
      by_cases hz : M &&& mskT t p k = 0
      · have hl := hls.mp hz
        rw [if_pos hz, b32_52, ior_nI (by omega) (by omega), nI_1, nI_1]
        have er : rcN t p + 1 = rcN t (p + 1) := by rw [rs, hl]; rfl
        rw [er]
        exact ih (p + 1) (by omega) (by omega) _ hor nx _
      · have hl : lsB t p = false := by
          cases hx : lsB t p with
          | false => rfl
          | true => exact absurd (hls.mpr hx) hz
        rw [if_neg hz, b32_51, b32_52, ior_nI (by omega) (by omega), nI_1, Int32.add_zero]
        have er : rcN t p = rcN t (p + 1) := by rw [rs, hl]; rfl
        rw [er]
        exact ih (p + 1) (by omega) (by omega) _ hor nx _
    · intro hno
      have hl : lsB t p = false := by
        cases hx : lsB t p with
        | false => rfl
        | true => exact absurd (ls_iff.mp hx).1 hno
      have nx : ∀ w, M.testBit w = true ↔ unR t (p + 1) w := by
        intro w
        rw [hb]
        constructor
        · rintro ⟨p', h1, h2⟩; exact ⟨p', by omega, h2⟩
        · rintro ⟨p', h1, k', hk', h2⟩
          by_cases e : p' = p
          · subst e; exact absurd ⟨k', hk'⟩ hno
          · exact ⟨p', by omega, k', hk', h2⟩
      have er : rcN t p = rcN t (p + 1) := by rw [rs, hl]; rfl
      simp only [if_true]
      rw [b32_51, b32_52, nI_1, Int32.add_zero, er, show (0 : Int32) = nI 0 from rfl, ior_nI (by omega) (by omega), Nat.or_zero]
      exact ih (p + 1) (by omega) (by omega) _ hM nx _
theorem w32 (hP : wfP P) (hs : RS f G 3 P) (ht : okT P t) (h58 : ∀ w, w < pPe P → G 58 w = oI (t w)) {l1 : Int32} {T : Int32 → aH → Prop} (hT : T (if l1 = 0 then nI (rcN t (pPe P)) else nI (rmK t (pPe P))) (wo f G J c)) : vI scr (d + 2) 32 [.ref 59, .int l1] (wo f G J c) T := by
  unfold vI
  rw [u32_ok, en32, b32_0]
  refine ⟨rfl, ?_⟩
  have := rgs_loop (scr := scr) (f := f) (G := G) (J := J) (c := c) (d := d) hP hs ht h58 (l1 := l1) (K := fun r h => ∃ x, r = some (Value.int x) ∧ T x h) ⟨_, rfl, hT⟩ (pPe P) 0 rfl (by omega) 0 (by decide) (fun w => by
    constructor
    · intro h; simp at h
    · rintro ⟨p', h, -⟩; omega) .null
  exact this
end FI2
