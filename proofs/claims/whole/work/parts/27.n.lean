variable {scr : List Int32}
-- ===== files and rings: the model =====
section FI3
variable {f G f' G' : Nat → Nat → Int32} {J J' : Nat → Nat → Int64} {c : Value} {d : Nat} {P : Pn} {D : Dy} {B : Nat → Nat} {L : Lw} {t : Nat → Option Nat}
theorem sp121_11 {x : Int32} {h : aH} {T : Int32 → aH → Prop} : sI scr d 121 [.long x.toInt64, .long 0, .long 11] h T = T (bz (btw x 0 11)) h := sp121 (lo := 0) (hi := 11)
def bO (o : Option Nat) : Bool := match o with
  | none => false
  | some v => decide (v < 12)
theorem btw11 {o : Option Nat} (ho : ∀ v, o = some v → v < 14) : btw (oI o) 0 11 = bO o := by
  cases o with
  | none => decide
  | some v =>
    have := ho v rfl
    have key : ∀ v, v < 14 → btw (nI v) 0 11 = decide (v < 12) := by decide +kernel
    exact key v this
theorem mfl_loop (ht : okT P t) (h158 : ∀ w, w < 12 → G 158 w = oI (t w)) {l1 : Int32} {K : Option Value → aH → Prop} : ∀ u m (o : Option Nat), 12 - bcN m = u → m < 4096 → okO P o → K (some (.int (nI (bcN (fiA t u m o))))) (wo f G J c) → E scr false (d + 1) 199 7 [.ref 125, .int l1, .int (nI m), .int (nI (bcN m)), .int (oI o)] [] (wo f G J c) K := by
  intro u
  induction u with
  | zero =>
    intro m o hu hm ho hK
    have hb := bc_le (m := m)
    rw [b199_7, sp121_11, btw11 (fun v hv => (ho v hv).1)]
    cases o with
    | none => simp only [bO, bz_f, if_true]; exact hK
    | some v =>
      by_cases v12 : v < 12
      · have hbit := bc_all (m := m) (by omega) v12
        simp only [bO, v12, decide_true, bz_t, show ¬ ((1 : Int32) = 0) by decide, if_false, oI_s]
        simp only [ibit (m := m) (v := v) (by omega) v12, hbit, Bool.true_eq_false, if_false]
        exact hK
      · simp only [bO, v12, decide_false, bz_f, if_true]; exact hK
  | succ u ih =>
    intro m o hu hm ho hK
    rw [b199_7, sp121_11, btw11 (fun v hv => (ho v hv).1)]
    cases o with
    | none => simp only [bO, bz_f, if_true]; exact hK
    | some v =>
      by_cases v12 : v < 12
      · simp only [bO, v12, decide_true, bz_t, show ¬ ((1 : Int32) = 0) by decide, if_false, oI_s]
        simp only [ibit (m := m) (v := v) (by omega) v12]
        by_cases hbit : m.testBit v = false
        · rw [if_pos hbit]
          obtain ⟨s1, s2⟩ := iset (m := m) (v := v) hm v12
          have e158 := h158 v v12
          have hup := bc_up v12 hbit
          simp (disch := omega) only [mO scr, e158, s1, nI_1, ← hup]
          apply ih _ (t v) (by omega) s2 (ht v)
          simp only [fiA, v12, hbit, and_self, if_true] at hK
          exact hK
        · rw [if_neg hbit]
          simp only [fiA, v12, hbit, and_false, if_false] at hK
          exact hK
      · simp only [bO, v12, decide_false, bz_f, if_true]
        simp only [fiA, v12, false_and, if_false] at hK
        exact hK
theorem m199 (ht : okT P t) (h158 : ∀ w, w < 12 → G 158 w = oI (t w)) {p : Nat} (hp : p < pPe P) (hP : wfP P) {T : Int32 → aH → Prop} (hT : T (nI (bcN (fiA t 12 0 (some p)))) (wo f G J c)) : vI scr (d + 1) 199 [.ref 125, .int (nI p)] (wo f G J c) T := by
  have p12 := hP.2.2.2.1
  have b0 : bcN 0 = 0 := by decide +kernel
  unfold vI
  rw [u199_ok, en199, b199_0]
  refine ⟨rfl, ?_⟩
  have := mfl_loop (scr := scr) (f := f) (J := J) (c := c) (d := d) ht h158 (l1 := nI p) (K := fun r h => ∃ x, r = some (Value.int x) ∧ T x h) 12 0 (some p) (by rw [b0]) (by decide) (fun u hu => by cases hu; omega) ⟨_, rfl, hT⟩
  rw [b0] at this
  exact this
theorem mir_loop (hP : wfP P) (ht : okT P t) (h158 : ∀ w, w < 12 → G 158 w = oI (t w)) {p : Nat} (hp : p < pPe P) {K : Option Value → aH → Prop} (hK : K (some (.int (bz (irB t p)))) (wo f G J c)) : ∀ u n, 12 - n = u → n ≤ 12 → (∀ j, 1 ≤ j → j ≤ n → itT t p j ≠ some p) → E scr false (d + 1) 200 9 [.ref 125, .int (nI p), .int (oI (itT t p (n + 1))), .int (nI n)] [] (wo f G J c) K := by
  have p12 := hP.2.2.2.1
  have oin : ∀ n, (oI (itT t p n) = nI p) = (itT t p n = some p) := by
    intro n
    have := oI_inj (o := itT t p n) (o' := some p) (fun a ha => by have := (it_ok ht hp hP n a ha).1; omega) (fun a ha => by cases ha; omega)
    rw [oI_s] at this
    exact this
  have yes : inR t p → irB t p = true := ir_iff.mpr
  have no : ¬ inR t p → irB t p = false := by
    intro h
    cases hx : irB t p with
    | false => rfl
    | true => exact absurd (ir_iff.mp hx) h
  intro u
  induction u with
  | zero =>
    intro n hu hn hno
    have e : n = 12 := by omega
    subst e
    have hnr : ¬ inR t p := by
      rintro ⟨k, hk⟩
      exact hno k hk.1 (RT_le hk) hk.2.1
    rw [b200_9]
    simp (disch := omega) only [LI, NC, Nat.le_refl, if_true]
    rw [b200_45]
    simp only [oin]
    rw [if_neg (nR hnr (by omega))]
    rw [no hnr] at hK
    exact hK
  | succ u ih =>
    intro n hu hn hno
    have hgt : ∀ k, RT t p k → n < k := by
      intro k hk
      by_cases e : n < k
      · exact e
      · exact absurd hk.2.1 (hno k hk.1 (by omega))
    rw [b200_9]
    simp (disch := omega) only [LI, NC, show ¬ 12 ≤ n by omega, if_false]
    rw [sp121_11, btw11 (fun v hv => (it_ok ht hp hP (n + 1) v hv).1)]
    have out : bO (itT t p (n + 1)) = false → E scr false (d + 1) 200 45 [.ref 125, .int (nI p), .int (oI (itT t p (n + 1))), .int (nI n)] [] (wo f G J c) K := by
      intro hb
      have hnr : ¬ inR t p := by
        rintro ⟨k, hk⟩
        have h1 := hgt k hk
        by_cases ek : k = n + 1
        · rw [ek] at hk
          rw [hk.2.1] at hb
          simp only [bO, decide_eq_false_iff_not] at hb
          omega
        · obtain ⟨w, hw, e⟩ := RT_lt hk (i := n + 1) (by omega)
          rw [e] at hb
          simp [bO, hw] at hb
      rw [b200_45]
      simp only [oin]
      rw [if_neg (nR hnr (by omega))]
      rw [no hnr] at hK
      exact hK
    cases hb : bO (itT t p (n + 1)) with
    | false =>
      simp only [bz_f, if_true]
      exact out hb
    | true =>
      simp only [bz_t, show ¬ ((1 : Int32) = 0) by decide, if_false]
      simp only [oin]
      by_cases hr : itT t p (n + 1) = some p
      · rw [if_pos hr, b200_45]
        simp only [oin]
        rw [if_pos hr]
        have hin : inR t p := RT_of (n + 1) ⟨n + 1, by omega, Nat.le_refl _, hr⟩
        rw [yes hin] at hK
        exact hK
      · rw [if_neg hr]
        cases e : itT t p (n + 1) with
        | none => rw [e] at hb; cases hb
        | some v =>
          rw [e] at hb
          have v12 : v < 12 := by simpa [bO] using hb
          have e158 := h158 v v12
          simp (disch := omega) only [oI_s, mO scr, e158, nI_1]
          rw [← it_s e v12]
          apply ih (n + 1) (by omega) (by omega)
          intro j h1 h2
          by_cases ej : j = n + 1
          · rw [ej]; exact hr
          · exact hno j h1 (by omega)
theorem m200 (hP : wfP P) (ht : okT P t) (h158 : ∀ w, w < 12 → G 158 w = oI (t w)) {p : Nat} (hp : p < pPe P) {T : Int32 → aH → Prop} (hT : T (bz (irB t p)) (wo f G J c)) : vI scr (d + 1) 200 [.ref 125, .int (nI p)] (wo f G J c) T := by
  have p12 := hP.2.2.2.1
  have e158 := h158 p (by omega)
  unfold vI
  rw [u200_ok, en200, b200_0]
  simp (disch := omega) only [mO scr, e158, true_and]
  have e1 : itT t p (0 + 1) = t p := it_s (k := 0) rfl (by omega)
  rw [← e1]
  exact mir_loop hP ht h158 hp (K := fun r h => ∃ x, r = some (Value.int x) ∧ T x h) ⟨_, rfl, hT⟩ 12 0 rfl (by omega) (fun j h1 h2 => by omega)
noncomputable def flR (P : Pn) (pl t : Nat → Option Nat) (what : Nat) : Int32 := if what = 0 then nI (mxF pl t (pPe P)) else if what = 1 then nI (rcN t (pPe P)) else nI (rmK t (pPe P))
theorem mls_loop (hP : wfP P) (ht : okT P t) (h158 : ∀ w, w < 12 → G 158 w = oI (t w)) {p k : Nat} (hp : p < pPe P) (hk : RT t p k) {l1 l2 l3 l4 l5 : Int32} {K : Option Value → aH → Prop} (h1 : lsB t p = true → ∀ l8 : Int32, E scr false d 201 232 [.ref 125, .int l1, .int l2, .int l3, .int l4, .int l5, .int (nI p), .int 1, .int l8] [] (wo f G J c) K) (h0 : lsB t p = false → ∀ l8 : Int32, E scr false d 201 232 [.ref 125, .int l1, .int l2, .int l3, .int l4, .int l5, .int (nI p), .int 0, .int l8] [] (wo f G J c) K) : ∀ u i, k - i = u → 1 ≤ i → i ≤ k → (∀ j w, j < i → itT t p j = some w → p ≤ w) → E scr false d 201 194 [.ref 125, .int l1, .int l2, .int l3, .int l4, .int l5, .int (nI p), .int 1, .int (oI (itT t p i))] [] (wo f G J c) K := by
  have p12 := hP.2.2.2.1
  intro u
  induction u with
  | zero =>
    intro i hu h1i hi hle
    have e : i = k := by omega
    subst e
    rw [b201_194]
    simp only [show ¬ ((1 : Int32) = 0) by decide, if_false, hk.2.1, oI_s, if_true]
    apply h1
    rw [ls_iff]
    refine ⟨⟨i, hk⟩, ?_⟩
    intro n w hw
    obtain ⟨j, hj, e⟩ := RT_mod hk n
    rw [hw] at e
    exact hle j w hj e.symm
  | succ u ih =>
    intro i hu h1i hi hle
    obtain ⟨w, w12, e⟩ := RT_lt hk (i := i) (by omega)
    have hne : ¬ w = p := fun e2 => hk.2.2 i h1i (by omega) (by rw [e, e2])
    have e158 := h158 w w12
    rw [b201_194, e]
    simp (disch := omega) only [show ¬ ((1 : Int32) = 0) by decide, if_false, oI_s, NC, hne]
    by_cases hw : w ≤ p
    · rw [if_pos hw, b201_218]
      simp (disch := omega) only [mO scr, e158]
      rw [b201_194]
      simp only [if_true]
      apply h0
      cases hx : lsB t p with
      | false => rfl
      | true =>
        have := (ls_iff.mp hx).2 i w e
        omega
    · rw [if_neg hw, b201_218]
      simp (disch := omega) only [mO scr, e158]
      rw [← it_s e w12]
      apply ih (i + 1) (by omega) (by omega) (by omega)
      intro j w' hj hw'
      by_cases ej : j = i
      · rw [ej, e] at hw'
        cases hw'
        omega
      · exact hle j w' (by omega) hw'
theorem mrc_loop (hP : wfP P) (hms : MS G P) (ht : okT P t) (h158 : ∀ w, w < 12 → G 158 w = oI (t w)) {l1 : Int32} {pl : Nat → Option Nat} {what : Nat} (hwh : what < 3) {K : Option Value → aH → Prop} (hK : K (some (.int (flR P pl t what))) (wo f G J c)) : ∀ u p, pPe P - p = u → p ≤ pPe P → ∀ l7 l8 : Value, E scr false d 201 156 [.ref 125, .int l1, .int (nI what), .int (nI (mxF pl t (pPe P))), .int (nI (rmK t (pPe P))), .int (nI (rcN t p)), .int (nI p), l7, l8] [] (wo f G J c) K := by
  have p12 := hP.2.2.2.1
  have e126 := hms.1.2.2.1
  intro u
  induction u with
  | zero =>
    intro p hu hp l7 l8
    have e : p = pPe P := by omega
    subst e
    rw [b201_156]
    simp (disch := omega) only [mO scr, LI, e126, NC, Nat.le_refl, if_true]
    unfold flR at hK
    by_cases h0 : what = 0
    · rw [if_pos h0] at hK ⊢; exact hK
    · rw [if_neg h0] at hK ⊢
      by_cases h1 : what = 1
      · rw [if_pos h1] at hK ⊢; exact hK
      · rw [if_neg h1] at hK ⊢; exact hK
  | succ u ih =>
    intro p hu hp l7 l8
    have e158 := h158 p (by omega)
    have hrm := rm_lt (t := t) (pPe P) p12
    have rs : rcN t (p + 1) = rcN t p + tf (lsB t p) := rfl
    have hb := ibit1 (m := rmK t (pPe P)) (v := p) (by omega) (by omega)
    rw [b201_156]
    simp (disch := omega) only [mO scr, LI, e126, NC, show ¬ pPe P ≤ p by omega, if_false, hb]
    have nx1 : lsB t p = true → ∀ l8 : Int32, E scr false d 201 232 [.ref 125, .int l1, .int (nI what), .int (nI (mxF pl t (pPe P))), .int (nI (rmK t (pPe P))), .int (nI (rcN t p)), .int (nI p), .int 1, .int l8] [] (wo f G J c) K := by
      intro hl l8
      rw [b201_232]
      simp only [show ¬ ((1 : Int32) = 0) by decide, if_false]
      have er : rcN t p + 1 = rcN t (p + 1) := by rw [rs, hl]; rfl
      rw [b201_244, nI_1, nI_1, er]
      exact ih (p + 1) (by omega) (by omega) _ _
    have nx0 : lsB t p = false → ∀ l8 : Int32, E scr false d 201 232 [.ref 125, .int l1, .int (nI what), .int (nI (mxF pl t (pPe P))), .int (nI (rmK t (pPe P))), .int (nI (rcN t p)), .int (nI p), .int 0, .int l8] [] (wo f G J c) K := by
      intro hl l8
      rw [b201_232]
      simp only [if_true]
      have er : rcN t p = rcN t (p + 1) := by rw [rs, hl]; rfl
      rw [b201_244, nI_1, Int32.add_zero, er]
      exact ih (p + 1) (by omega) (by omega) _ _
    by_cases hin : inR t p
    · rw [if_pos ((rm_bit (pPe P)).mpr ⟨by omega, hin⟩), b201_183]
      simp (disch := omega) only [mO scr, e158]
      obtain ⟨k, hk⟩ := hin
      have e1 : itT t p (0 + 1) = t p := it_s (k := 0) rfl (by omega)
      rw [← e1]
      exact mls_loop hP ht h158 (by omega) hk nx1 nx0 (k - 1) 1 rfl (by omega) hk.1 (fun j w hj hw => by
        have ej : j = 0 := by omega
        subst ej
        cases hw
        exact Nat.le_refl _)
    · rw [if_neg (fun h => hin ((rm_bit (pPe P)).mp h).2), b201_183]
      simp (disch := omega) only [mO scr, e158]
      rw [b201_194]
      simp only [if_true]
      apply nx0
      cases hx : lsB t p with
      | false => rfl
      | true => exact absurd (ls_iff.mp hx).1 hin
theorem mfs_loop (hP : wfP P) (hms : MS G P) (hd : MD G P D) (hl : wfL P (dPl D)) (ht : okT P t) (hn : ∀ p, dPl D p = none → t p = none) (h158 : ∀ w, w < 12 → G 158 w = oI (t w)) {l1 : Int32} {what : Nat} (hwh : what < 3) {K : Option Value → aH → Prop} (hK : K (some (.int (flR P (dPl D) t what))) (wo f G J c)) : ∀ u p, pPe P - p = u → p ≤ pPe P → E scr false (d + 2) 201 79 [.ref 125, .int l1, .int (nI what), .int (nI (mxF (dPl D) t p)), .int (nI (rmK t p)), .int (nI p), .null, .null, .null] [] (wo f G J c) K := by
  have p12 := hP.2.2.2.1
  have e126 := hms.1.2.2.1
  intro u
  induction u with
  | zero =>
    intro p hu hp
    have e : p = pPe P := by omega
    subst e
    rw [b201_79]
    simp (disch := omega) only [mO scr, LI, e126, NC, Nat.le_refl, if_true]
    exact mrc_loop hP hms ht h158 hwh hK (pPe P) 0 rfl (by omega) .null .null
  | succ u ih =>
    intro p hu hp
    have e1 := hd.2.1 p (by simp [exB, show p < pPe P by omega])
    have hrm := rm_lt (t := t) p (by omega)
    have hmx := mxf_le (t := t) (pl := dPl D) p
    rw [b201_79]
    simp (disch := omega) only [mO scr, LI, e126, NC, show ¬ pPe P ≤ p by omega, if_false, e1]
    have nx : ∀ a b, a = mxF (dPl D) t (p + 1) → b = rmK t (p + 1) → E scr false (d + 2) 201 144 [.ref 125, .int l1, .int (nI what), .int (nI a), .int (nI b), .int (nI p), .null, .null, .null] [] (wo f G J c) K := by
      intro a b ha hb
      rw [b201_144, nI_1, ha, hb]
      exact ih (p + 1) (by omega) (by omega)
    cases ho : dPl D p with
    | none =>
      simp only [oI_n, if_true]
      apply nx
      · have b0 : bcN 0 = 0 := by decide +kernel
        simp only [mxF, stO, ho, fiA, b0, Nat.not_lt_zero, if_false]
      · have : ¬ inR t p := by
          rintro ⟨k, hk⟩
          have e1 : itT t p (0 + 1) = t p := it_s (k := 0) rfl (by omega)
          rw [hn p ho] at e1
          by_cases ek : k = 1
          · rw [ek] at hk
            have := hk.2.1
            rw [e1] at this
            cases this
          · obtain ⟨w, -, e⟩ := RT_lt hk (i := 1) (by have := hk.1; omega)
            rw [e1] at e
            cases e
        simp only [rmK]
        rw [if_neg (fun h => this (ir_iff.mp h))]
    | some q =>
      have q144 := (wfL_lt hP hl ho).2.1
      simp (disch := omega) only [oI_s, NC, if_false]
      apply m199 ht h158 (show p < pPe P by omega) hP
      have hb2 := bc_le (m := fiA t 12 0 (some p))
      have last : ∀ a, a = mxF (dPl D) t (p + 1) → E scr false (d + 1 + 1) 201 121 [.ref 125, .int l1, .int (nI what), .int (nI (mxF (dPl D) t p)), .int (nI (rmK t p)), .int (nI p), .null, .null, .null] [.int (nI a)] (wo f G J c) K := by
        intro a ha
        rw [b201_121]
        apply m200 hP ht h158 (show p < pPe P by omega)
        cases hb : irB t p with
        | false =>
          simp only [bz_f, if_true]
          rw [b201_141, show (0 : Int32) = nI 0 from rfl, ior_nI (by omega) (by omega), Nat.or_zero]
          apply nx a _ ha
          simp only [rmK, hb, Bool.false_eq_true, if_false]
        | true =>
          obtain ⟨s1, s2⟩ := iset (m := rmK t p) (v := p) hrm (by omega)
          simp only [bz_t, show ¬ ((1 : Int32) = 0) by decide, if_false]
          rw [b201_141, s1]
          apply nx a _ ha
          simp only [rmK, hb, if_true]
      simp (disch := omega) only [NC]
      by_cases hle : bcN (fiA t 12 0 (some p)) ≤ mxF (dPl D) t p
      · rw [if_pos hle]
        apply last
        simp only [mxF, stO, ho]
        rw [if_neg (by omega)]
      · rw [if_neg hle]
        apply m199 ht h158 (show p < pPe P by omega) hP
        apply last
        simp only [mxF, stO, ho]
        rw [if_pos (by omega)]
theorem mtg_loop {r : Nat} (hP : wfP P) (hL : wfLw L) (hr : r < 6) (hl : wfL P (dPl D)) {l2 : Int32} {K : Option Value → aH → Prop} : ∀ u p, 12 - p = u → p ≤ 12 → ∀ f G J, CM G r P B L → MD G P D → (∀ w, w < p → G 158 w = oI (fol P B L (dPl D) w)) → (∀ f' G' J', FQ f G J f' G' J' → (∀ k, G' 140 k = G 140 k) → (∀ w, w < 12 → G' 158 w = oI (fol P B L (dPl D) w)) → E scr false (d + 6) 201 79 [.ref 125, .int (nI r), .int l2, .int 0, .int 0, .int 0, .null, .null, .null] [] (wo f' G' J' c) K) → E scr false (d + 6) 201 25 [.ref 125, .int (nI r), .int l2, .int (nI p), .null, .null, .null, .null, .null] [] (wo f G J c) K := by
  have p12 := hP.2.2.2.1
  intro u
  induction u with
  | zero =>
    intro p hu hp f G J hx hd h158 hK
    have e : p = 12 := by omega
    subst e
    rw [b201_25]
    simp (disch := omega) only [LI, NC, Nat.le_refl, if_true]
    exact hK f G J FQ_rf (fun _ => rfl) h158
  | succ u ih =>
    intro p hu hp f G J hx hd h158 hK
    have next : ∀ f1 G1 J1 (o : Option Nat), o = fol P B L (dPl D) p → (∀ o k, ¬ (o = 125 ∧ k = 18) → f1 o k = f o k) → (∀ q k, q ≠ 142 → G1 q k = G q k) → (∀ q k, q ≠ 151 → q ≠ 152 → J1 q k = J q k) → E scr false (d + 6) 201 64 [.ref 125, .int (nI r), .int l2, .int (nI p), .null, .null, .null, .null, .null] [.int (oI o), .int (nI p), .ref 158] (wo f1 G1 J1 c) K := by
      intro f1 G1 J1 o ho a1 a2 a3
      rw [b201_64]
      simp (disch := omega) only [mO scr, nI_1]
      have g2 : ∀ q k, q ≠ 142 → q ≠ 158 → up2 G1 158 p (oI o) q k = G q k := fun q k b1 b2 => by rw [up2_q b2, a2 q k b1]
      apply ih (p + 1) (by omega) (by omega) f1 _ J1
      · exact CM_cg (fun q k h => g2 q k (by omega) (by omega)) hx
      · exact MD_cg (g2 126 4 (by decide) (by decide)) (fun k => ⟨g2 135 k (by decide) (by decide), g2 136 k (by decide) (by decide)⟩) hd
      · intro w hw
        rw [up2_a]
        by_cases e : w = p
        · rw [if_pos e, ho, e]
        · rw [if_neg e, a2 158 w (by decide)]
          exact h158 w (by omega)
      · intro f2 G2 J2 fq h140 h2
        apply hK f2 G2 J2 _ (fun k => by rw [h140, g2 140 k (by decide) (by decide)]) h2
        refine FQ_tr (f1 := f1) (G1 := up2 G1 158 p (oI o)) (J1 := J1) ⟨fun o k b => a1 o k (fun e => b ⟨e.1, Or.inl e.2⟩), fun q k _ _ b1 b2 => g2 q k b1 (by omega), a3⟩ fq
    rw [b201_25]
    simp (disch := omega) only [LI, NC, show ¬ 12 ≤ p by omega, if_false, mO scr, m127 hP hx.1]
    have fnone : dPl D p = none → fol P B L (dPl D) p = none := by
      intro h
      simp only [fol, h]
    by_cases hpp : p < pPe P
    · have e1 := hd.2.1 p (by simp [exB, hpp])
      simp only [hpp, decide_true, bz_t, show ¬ ((1 : Int32) = 0) by decide, if_false, e1]
      cases ho : dPl D p with
      | none =>
        simp only [oI_n, if_true]
        rw [b201_63]
        exact next f G J none (fnone ho).symm (fun _ _ _ => rfl) (fun _ _ _ => rfl) (fun _ _ _ _ => rfl)
      | some q =>
        have q144 := (wfL_lt hP hl ho).2.1
        simp (disch := omega) only [oI_s, NC, if_false]
        apply m177 hP hL hr hl hx.1 hd hx.2.1 hx.2.2 ho hpp
        intro f1 G1 J1 a1 a2 a3
        exact next f1 G1 J1 _ (by simp only [fol, ho]) a1 a2 a3
    · simp only [hpp, decide_false, bz_f, if_true]
      rw [b201_63]
      refine next f G J none (fnone ?_).symm (fun _ _ _ => rfl) (fun _ _ _ => rfl) (fun _ _ _ _ => rfl)
      cases e : dPl D p with
      | none => rfl
      | some q =>
        have := (wfL_lt hP hl e).2.2.2
        unfold exB at this
        simp only [Bool.or_eq_true, Bool.and_eq_true, decide_eq_true_eq] at this
        omega
theorem fol_ok (hP : wfP P) (hl : wfL P (dPl D)) : okT P (fol P B L (dPl D)) := by
  intro v u h
  obtain ⟨h1, -, ⟨q, h3⟩⟩ := fol_some h
  refine ⟨h1, ?_⟩
  intro u12
  have := (wfL_lt hP hl h3).2.2.2
  unfold exB at this
  simp only [Bool.or_eq_true, Bool.and_eq_true, decide_eq_true_eq] at this
  omega
theorem files_25 {r what : Nat} (hP : wfP P) (hL : wfLw L) (hr : r < 6) (hl : wfL P (dPl D)) (hwh : what < 3) (hx : CM G r P B L) (hd : MD G P D) {K : Option Value → aH → Prop} (hK : ∀ f' G' J', FQ f G J f' G' J' → (∀ k, G' 140 k = G 140 k) → K (some (.int (flR P (dPl D) (fol P B L (dPl D)) what))) (wo f' G' J' c)) : E scr false (d + 6) 201 25 [.ref 125, .int (nI r), .int (nI what), .int 0, .null, .null, .null, .null, .null] [] (wo f G J c) K := by
  apply mtg_loop hP hL hr hl 12 0 rfl (by omega) f G J hx hd (fun w hw => by omega)
  intro f1 G1 J1 fq h140 h158
  have := mfs_loop (scr := scr) (f := f1) (J := J1) (c := c) (d := d + 4) hP (CM_fq fq (fun q hq => by rw [h140]; exact hx.2.2 q hq) hx).1 (MD_fq fq hd) hl (fol_ok hP hl) (fun p hp => by simp only [fol, hp]) h158 (l1 := nI r) hwh (hK f1 G1 J1 fq h140) (pPe P) 0 rfl (by omega)
  exact this
end FI3
