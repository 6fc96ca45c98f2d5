variable {scr : List Int32}
-- ===== one step back: the model =====
section AG3
variable {f G f' G' : Nat → Nat → Int32} {J J' : Nat → Nat → Int64} {c : Value} {d : Nat} {P : Pn} {D : Dy} {B : Nat → Nat} {L : Lw} {th : Nat → Nat} {n : Nat}
def clA (P : Pn) (code i : Nat) : Nat := cOf P (code / (pCo P * pRo P) ^ i % (pCo P * pRo P))
def halB (P : Pn) (D : Dy) (x k : Nat) : Bool := (List.range k).all (fun h => !decide (dPl D (12 + h) = some x))
def jalB (cl : Nat → Nat) (x k : Nat) : Bool := (List.range k).all (fun i => !decide (cl i = x))
theorem all_s {F : Nat → Bool} {k : Nat} : (List.range (k + 1)).all F = ((List.range k).all F && F k) := by
  rw [List.range_succ, List.all_append]
  simp
theorem bz_n0 {b : Bool} : (bz b = 0) = (b = false) := bz_0
theorem mh_loop (hP : wfP P) (hms : MS G P) (hl : wfL P (dPl D)) (hH : ∀ h, h < pHe P → G 135 (12 + h) = oI (dPl D (12 + h))) {x : Nat} (hx : x < 144) {b : Bool} {l1 l3 : Int32} {K : Option Value → aH → Prop} (hK : E scr false d 211 102 [.ref 125, .int l1, .int (bz (b && halB P D x (pHe P))), .int l3, .int (nI x), .int 0] [] (wo f G J c) K) : ∀ u k, pHe P - k = u → k ≤ pHe P → E scr false d 211 57 [.ref 125, .int l1, .int (bz (b && halB P D x k)), .int l3, .int (nI x), .int (nI k)] [] (wo f G J c) K := by
  have h2 := hP.2.2.2.2.1
  have e126 := hms.1.2.2.2
  intro u
  induction u with
  | zero =>
    intro k hu hk
    have e : k = pHe P := by omega
    subst e
    rw [b211_57]
    simp (disch := omega) only [mO scr, LI, e126, NC, Nat.le_refl, if_true]
    exact hK
  | succ u ih =>
    intro k hu hk
    have e1 := hH k (by omega)
    have es : halB P D x (k + 1) = (halB P D x k && !decide (dPl D (12 + k) = some x)) := all_s
    have hi := oI_inj (o := dPl D (12 + k)) (o' := some x) (fun a ha => by have := (wfL_lt hP hl ha).2.1; omega) (fun a ha => by cases ha; omega)
    rw [oI_s] at hi
    have nx : ∀ b' : Bool, b' = (b && halB P D x (k + 1)) → E scr false d 211 92 [.ref 125, .int l1, .int (bz (b && halB P D x k)), .int l3, .int (nI x), .int (nI k)] [.int (bz b')] (wo f G J c) K := by
      intro b' hb
      rw [b211_92, nI_1, hb]
      exact ih (k + 1) (by omega) (by omega)
    rw [b211_57]
    simp (disch := omega) only [mO scr, LI, e126, NC, show ¬ pHe P ≤ k by omega, if_false, bz_n0, nI_add]
    cases hb : (b && halB P D x k) with
    | false =>
      rw [hb] at nx
      simp only [if_true]
      rw [b211_91]
      exact nx false (by rw [es, ← Bool.and_assoc, hb]; rfl)
    | true =>
      rw [hb] at nx
      simp (disch := omega) only [Bool.true_eq_false, if_false, mO scr, e1, hi]
      by_cases h : dPl D (12 + k) = some x
      · rw [if_pos h, b211_91]
        exact nx false (by rw [es, ← Bool.and_assoc, hb]; simp [h])
      · rw [if_neg h]
        exact nx true (by rw [es, ← Bool.and_assoc, hb]; simp [h])
theorem mj_loop {cl : Nat → Nat} (h12 : ∀ i, i < 3 → th i < 12) (hcl : ∀ i, cl i < 144) {x : Nat} (hx : x < 144) {i : Nat} (hi3 : i < 3) (h163 : ∀ k, k ≤ i → G 163 k = nI (th k)) (hC : ∀ k, k ≤ i → G 135 (th k) = nI (cl k)) {b : Bool} {l1 : Int32} {K : Option Value → aH → Prop} (hK : ∀ l5 : Int32, E scr false d 211 4 [.ref 125, .int l1, .int (bz (b && jalB cl x i)), .int (nI (i + 1)), .int (nI x), .int l5] [] (wo f G J c) K) : ∀ u k, i - k = u → k ≤ i → E scr false d 211 102 [.ref 125, .int l1, .int (bz (b && jalB cl x k)), .int (nI i), .int (nI x), .int (nI k)] [] (wo f G J c) K := by
  intro u
  induction u with
  | zero =>
    intro k hu hk
    have e : k = i := by omega
    subst e
    rw [b211_102]
    simp (disch := omega) only [NC, Nat.le_refl, if_true, nI_1]
    exact hK _
  | succ u ih =>
    intro k hu hk
    have e1 := h163 k (by omega)
    have e2 := hC k (by omega)
    have t12 := h12 k (by omega)
    have c144 := hcl k
    have es : jalB cl x (k + 1) = (jalB cl x k && !decide (cl k = x)) := all_s
    have nx : ∀ b' : Bool, b' = (b && jalB cl x (k + 1)) → E scr false d 211 134 [.ref 125, .int l1, .int (bz (b && jalB cl x k)), .int (nI i), .int (nI x), .int (nI k)] [.int (bz b')] (wo f G J c) K := by
      intro b' hb
      rw [b211_134, nI_1, hb]
      exact ih (k + 1) (by omega) (by omega)
    rw [b211_102]
    simp (disch := omega) only [NC, show ¬ i ≤ k by omega, if_false, bz_n0]
    cases hb : (b && jalB cl x k) with
    | false =>
      rw [hb] at nx
      simp only [if_true]
      rw [b211_133]
      exact nx false (by rw [es, ← Bool.and_assoc, hb]; rfl)
    | true =>
      rw [hb] at nx
      simp (disch := omega) only [Bool.true_eq_false, if_false, mO scr, e1, e2, NC]
      by_cases h : cl k = x
      · rw [if_pos h, b211_133]
        exact nx false (by rw [es, ← Bool.and_assoc, hb]; simp [h])
      · rw [if_neg h]
        exact nx true (by rw [es, ← Bool.and_assoc, hb]; simp [h])
/-- who stands there, when some are placed -/
theorem fr_may (hP : wfP P) (hth : okH P D th n) {cl : Nat → Nat} {pl : Nat → Option Nat} {i x : Nat} (hi : i ≤ n) (ht : thB P x = true) (h1 : ∀ k, k < i → pl (th k) = some (cl k)) (h2 : ∀ v, (∀ k, k < i → th k ≠ v) → pl v = pl0 (dPl D) v) (hl : wfL P (dPl D)) (hlp : wfL P pl) : frA P pl x = ((gkB (pKd P x) && halB P D x (pHe P)) && jalB cl x i) := by
  have p12 := hP.2.2.2.1
  unfold frA
  rw [ht, Bool.true_and, Bool.and_assoc]
  congr 1
  rw [Bool.eq_iff_iff]
  rw [Option.isNone_iff_eq_none]
  constructor
  · intro hw
    have hno : ∀ v, pl v ≠ some x := fun v => who_nn hP hlp hw v
    rw [Bool.and_eq_true]
    refine ⟨?_, ?_⟩
    · unfold halB
      rw [List.all_eq_true]
      intro h _
      have := hno (12 + h)
      rw [h2 (12 + h) (fun k hk => by have := (hth.1 k (by omega)).1; omega)] at this
      unfold pl0 at this
      rw [if_neg (by omega)] at this
      simp [this]
    · unfold jalB
      rw [List.all_eq_true]
      intro k hk
      have hk' := List.mem_range.mp hk
      have := hno (th k)
      rw [h1 k hk'] at this
      simp only [Bool.not_eq_true', decide_eq_false_iff_not]
      intro e
      exact this (by rw [e])
  · intro hb
    rw [Bool.and_eq_true] at hb
    obtain ⟨b1, b2⟩ := hb
    unfold halB at b1
    unfold jalB at b2
    rw [List.all_eq_true] at b1 b2
    apply who_none
    intro v hv e
    by_cases hx : ∃ k, k < i ∧ th k = v
    · obtain ⟨k, hk, ek⟩ := hx
      have := b2 k (List.mem_range.mpr hk)
      rw [← ek, h1 k hk] at e
      cases e
      simp at this
    · have e2 := h2 v (fun k hk ek => hx ⟨k, hk, ek⟩)
      rw [e2] at e
      unfold pl0 at e
      split at e
      · cases e
      · rename_i hv12
        have hex := (wfL_lt hP hl e).2.2.2
        unfold exB at hex
        simp only [Bool.or_eq_true, Bool.and_eq_true, decide_eq_true_eq] at hex
        have := b1 (v - 12) (List.mem_range.mpr (by omega))
        rw [show 12 + (v - 12) = v by omega, e] at this
        simp at this
theorem may_loop {code : Nat} (hP : wfP P) (h0 : 0 < pCo P * pRo P) (hth : okH P D th n) (hn : n ≤ 3) (hms : MS G P) (hl : wfL P (dPl D)) (hH : ∀ h, h < pHe P → G 135 (12 + h) = oI (dPl D (12 + h))) (h163 : ∀ k, k < n → G 163 k = nI (th k)) (hC : ∀ k, k < n → G 135 (th k) = nI (clA P code k)) {K : Option Value → aH → Prop}
    (h1 : ∀ pl', wfL P pl' → (∀ k, k < n → pl' (th k) = some (clA P code k)) → (∀ v, (∀ k, k < n → th k ≠ v) → pl' v = pl0 (dPl D) v) → vM P B L D th n n code (pl0 (dPl D)) = tf (ldB P B L D th pl' n) → K (some (.int 1)) (wo f G J c))
    (hz : vM P B L D th n n code (pl0 (dPl D)) = 0 → K (some (.int 0)) (wo f G J c)) : ∀ u i, n - i = u → i ≤ n → ∀ pl, wfL P pl → (∀ k, k < i → pl (th k) = some (clA P code k)) → (∀ v, (∀ k, k < i → th k ≠ v) → pl v = pl0 (dPl D) v) → vM P B L D th n n code (pl0 (dPl D)) = vM P B L D th n u (code / (pCo P * pRo P) ^ i) pl → ∀ l4 l5 : Value, E scr false (d + 3) 211 4 [.ref 125, .int (nI n), .int 1, .int (nI i), l4, l5] [] (wo f G J c) K := by
  have p12 := hP.2.2.2.1
  have hco : 0 < pCo P := Nat.pos_of_mul_pos_right h0
  have cth : ∀ i, thB P (clA P code i) = true := fun i => (cOf_th hP hco (Nat.mod_lt _ h0)).1
  have c144 : ∀ i, clA P code i < 144 := fun i => th_lt hP (cth i)
  intro u
  induction u with
  | zero =>
    intro i hu hi pl hlp a1 a2 hv l4 l5
    have e : i = n := by omega
    subst e
    rw [b211_4]
    simp (disch := omega) only [NC, Nat.le_refl, if_true, show (1 : Int32) &&& 1 = 1 by decide, true_and]
    exact h1 pl hlp a1 a2 hv
  | succ u ih =>
    intro i hu hi pl hlp a1 a2 hv l4 l5
    have e1 := h163 i (by omega)
    have e2 := hC i (by omega)
    have ti := (hth.1 i (by omega)).1
    have hc := c144 i
    have e127 := hms.2.1 (clA P code i) (cth i)
    have k4 := hP.2.2.2.2.2.1 (clA P code i)
    have ei : n - 1 - u = i := by omega
    have hf := fr_may (cl := clA P code) hP hth (by omega) (cth i) a1 a2 hl hlp
    have ev : vM P B L D th n (u + 1) (code / (pCo P * pRo P) ^ i) pl = if frA P pl (clA P code i) = true then vM P B L D th n u (code / (pCo P * pRo P) ^ (i + 1)) (plU pl (th i) (some (clA P code i))) else 0 := by
      simp only [vM, ei, Nat.div_div_eq_div_mul, ← Nat.pow_succ]
      rfl
    rw [b211_4]
    simp (disch := omega) only [NC, show ¬ n ≤ i by omega, if_false, show ¬ ((1 : Int32) = 0) by decide, mO scr, e1, e2, m126 hP hms, cth i, bz_t, e127]
    have last : ∀ l4 l5 : Value, ∀ b : Bool, b = gkB (pKd P (clA P code i)) → E scr false (d + 3) 211 53 [.ref 125, .int (nI n), .int 1, .int (nI i), .int (nI (clA P code i)), l5] [.int (bz b)] (wo f G J c) K := by
      intro l4 l5 b hb
      rw [b211_53, show (0 : Int32) = nI 0 from rfl]
      have hb0 : bz b = bz (b && halB P D (clA P code i) 0) := by simp [halB]
      rw [hb0]
      apply mh_loop hP hms hl hH hc _ (pHe P) 0 rfl (by omega)
      have hb1 : bz (b && halB P D (clA P code i) (pHe P)) = bz ((b && halB P D (clA P code i) (pHe P)) && jalB (clA P code) (clA P code i) 0) := by simp [jalB]
      rw [hb1, show (0 : Int32) = nI 0 from rfl]
      have th3 : ∀ k, k ≤ i → th k < 12 := fun k hk => by have := (hth.1 k (by omega)).1; omega
      apply mj_loop (th := fun k => if k ≤ i then th k else 0) (cl := clA P code) (fun k _ => by by_cases h : k ≤ i <;> simp only [h, if_true, if_false] <;> first | exact th3 k h | decide) c144 hc (by omega) (fun k hk => by simp only [hk, if_true]; exact h163 k (by omega)) (fun k hk => by simp only [hk, if_true]; exact hC k (by omega)) _ i 0 rfl (by omega)
      intro l5
      rw [hb, ← hf]
      cases hfr : frA P pl (clA P code i) with
      | true =>
        rw [hfr, if_pos rfl] at ev
        rw [ev] at hv
        apply ih (i + 1) (by omega) (by omega) (plU pl (th i) (some (clA P code i)))
        · exact wfL_fr hP hlp ti hfr
        · intro k hk
          unfold plU
          by_cases e : k = i
          · subst e; simp
          · have := hth.2 k i (by omega) (by omega)
            rw [if_neg (by omega)]
            exact a1 k (by omega)
        · intro v hv2
          unfold plU
          rw [if_neg (fun e => hv2 i (by omega) e.symm)]
          exact a2 v (fun k hk => hv2 k (by omega))
        · exact hv
      | false =>
        rw [hfr, if_neg (by decide)] at ev
        rw [ev] at hv
        rw [b211_4]
        simp only [bz_f, if_true, show (0 : Int32) &&& 1 = 0 by decide, true_and, ite_self]
        exact hz hv
    simp only [show ¬ ((1 : Int32) = 0) by decide, if_false, sp129, gB_nI k4]
    cases hg : gkB (pKd P (clA P code i)) with
    | false =>
      simp only [bz_f, if_true]
      rw [b211_52]
      exact last .null _ false hg.symm
    | true =>
      simp only [bz_t, show ¬ ((1 : Int32) = 0) by decide, if_false]
      exact last .null _ true hg.symm
theorem m211 {code : Nat} (hP : wfP P) (h0 : 0 < pCo P * pRo P) (hth : okH P D th n) (hall : allT D th n) (hn : n ≤ 3) (hms : MS G P) (hl : wfL P (dPl D)) (hH : ∀ h, h < pHe P → G 135 (12 + h) = oI (dPl D (12 + h))) (h163 : ∀ k, k < n → G 163 k = nI (th k)) (hC : ∀ k, k < n → G 135 (th k) = nI (clA P code k)) {T : Int32 → aH → Prop}
    (h1 : ∀ pl', wfL P pl' → (∀ k, k < n → pl' (th k) = some (clA P code k)) → (∀ v, (∀ k, k < n → th k ≠ v) → pl' v = pl0 (dPl D) v) → vM P B L D th n n code (pl0 (dPl D)) = tf (ldB P B L D th pl' n) → T 1 (wo f G J c))
    (hz : vM P B L D th n n code (pl0 (dPl D)) = 0 → T 0 (wo f G J c)) : vI scr (d + 3) 211 [.ref 125, .int (nI n)] (wo f G J c) T := by
  have hw0 : wfL P (pl0 (dPl D)) := by
    rw [← lfT_0 hP hth hall]
    exact wfL_lfT hl n
  unfold vI
  rw [u211_ok, en211, b211_0]
  refine ⟨rfl, ?_⟩
  exact may_loop hP h0 hth hn hms hl hH h163 hC (K := fun r h => ∃ x, r = some (Value.int x) ∧ T x h) (fun pl' a b c e => ⟨_, rfl, h1 pl' a b c e⟩) (fun h => ⟨_, rfl, hz h⟩) n 0 rfl (by omega) (pl0 (dPl D)) hw0 (fun k hk => by omega) (fun _ _ => rfl) (by rw [Nat.pow_zero, Nat.div_one]) _ _
theorem mld_loop (hP : wfP P) (hth : okH P D th n) (hn : n ≤ 3) (hl : wfL P (dPl D)) {X : Dy} {pl : Nat → Option Nat} (hX : X = stD P B L (pl, D.2)) (hlX : wfL P (dPl X)) (hd : MD G P X) (h164 : ∀ w, w < pPe P → G 164 w = oI (dPl D w)) (h163 : ∀ k, k < n → G 163 k = nI (th k)) {l1 : Int32} {K : Option Value → aH → Prop} (hK : K (some (.int (bz (ldB P B L D th pl n)))) (wo f G J c)) : ∀ u i, n - i = u → i ≤ n → E scr false d 212 20 [.ref 125, .int l1, .int (nI n), .int (bz (ldB P B L D th pl i)), .int (nI i)] [] (wo f G J c) K := by
  have p12 := hP.2.2.2.1
  intro u
  induction u with
  | zero =>
    intro i hu hi
    have e : i = n := by omega
    subst e
    rw [b212_20]
    simp (disch := omega) only [NC, Nat.le_refl, if_true, bz_and, true_and]
    exact hK
  | succ u ih =>
    intro i hu hi
    have e1 := h163 i (by omega)
    have ti := (hth.1 i (by omega)).1
    have e2 := hd.2.1 (th i) (by simp [exB, ti])
    have e3 := h164 (th i) ti
    have hi2 := oI_inj (o := dPl X (th i)) (o' := dPl D (th i)) (fun a ha => by have := (wfL_lt hP hlX ha).2.1; omega) (fun a ha => by have := (wfL_lt hP hl ha).2.1; omega)
    have nx : ∀ b' : Bool, b' = ldB P B L D th pl (i + 1) → E scr false d 212 62 [.ref 125, .int l1, .int (nI n), .int (bz (ldB P B L D th pl i)), .int (nI i)] [.int (bz b')] (wo f G J c) K := by
      intro b' hb
      rw [b212_62, nI_1, hb]
      exact ih (i + 1) (by omega) (by omega)
    rw [b212_20]
    simp (disch := omega) only [NC, show ¬ n ≤ i by omega, if_false, bz_n0]
    cases hb : ldB P B L D th pl i with
    | false =>
      rw [hb] at nx
      simp only [if_true]
      rw [b212_61]
      exact nx false (by rw [ld_s, hb]; rfl)
    | true =>
      rw [hb] at nx
      simp (disch := omega) only [Bool.true_eq_false, if_false, mO scr, e1, e2, e3, hi2]
      by_cases h : dPl X (th i) = dPl D (th i)
      · rw [if_pos h]
        exact nx true (by rw [ld_s, hb, ← hX]; simp [h])
      · rw [if_neg h, b212_61]
        exact nx false (by rw [ld_s, hb, ← hX]; simp [h])
theorem m212 {code r : Nat} (hP : wfP P) (hL : wfLw L) (hr : r < 6) (h0 : 0 < pCo P * pRo P) (hth : okH P D th n) (hall : allT D th n) (hn : n ≤ 3) (hw : wfS P D) (hx : CM G r P B L) (hst : G 126 4 = dSt D) (hou : ∀ w, w < pPe P → G 136 w = dOu D w) (h163 : ∀ k, k < n → G 163 k = nI (th k)) (h164 : ∀ w, w < pPe P → G 164 w = oI (dPl D w)) (hC : ∀ k, k < n → G 135 (th k) = nI (clA P code k)) (hO : ∀ v, exB P v = true → (∀ k, k < n → th k ≠ v) → G 135 v = oI (dPl D v)) {T : Int32 → aH → Prop} (hT : ∀ f' G' J' (b : Bool), FRm f G J f' G' J' → vM P B L D th n n code (pl0 (dPl D)) = tf b → T (bz b) (wo f' G' J' c)) : vI scr (d + 8) 212 [.ref 125, .int (nI r), .int (nI n)] (wo f G J c) T := by
  have p12 := hP.2.2.2.1
  have h2 := hP.2.2.2.2.1
  unfold vI
  rw [u212_ok, en212, b212_0]
  refine ⟨rfl, ?_⟩
  apply m211 (d := d + 4) (code := code) (B := B) (L := L) hP h0 hth hall hn hx.1 hw.1 (fun h hh => hO (12 + h) (by simp [exB]; omega) (fun k hk => by have := (hth.1 k hk).1; omega)) h163 hC
  · intro pl' hlp a1 a2 hv
    simp only [show ¬ ((1 : Int32) = 0) by decide, if_false]
    have hmd : MD G P (pl', D.2) := by
      refine ⟨hst, ?_, hou⟩
      intro v hv2
      show G 135 v = oI (pl' v)
      by_cases e : ∃ k, k < n ∧ th k = v
      · obtain ⟨k, hk, ek⟩ := e
        rw [← ek, hC k hk, a1 k hk]
        rfl
      · have hno : ∀ k, k < n → th k ≠ v := fun k hk ek => e ⟨k, hk, ek⟩
        rw [hO v hv2 hno, a2 v hno]
        unfold pl0
        by_cases v12 : v < 12
        · rw [if_pos v12]
          cases e2 : dPl D v with
          | none => rfl
          | some t =>
            obtain ⟨k, hk, ek⟩ := hall v v12 (by rw [e2]; rfl)
            exact absurd ek (hno k hk)
        · rw [if_neg v12]
    have hwS : wfS P (pl', D.2) := ⟨hlp, by
      have : cnP pl' (pPe P) ≤ cnP (dPl D) (pPe P) := by
        apply cn_mono
        intro v hs
        by_cases e : ∃ k, k < n ∧ th k = v
        · obtain ⟨k, hk, ek⟩ := e
          obtain ⟨-, h, hh, -⟩ := hth.1 k hk
          rw [← ek, hh]
          rfl
        · rw [a2 v (fun k hk ek => e ⟨k, hk, ek⟩)] at hs
          unfold pl0 at hs
          split at hs
          · cases hs
          · exact hs
      have := hw.2
      show dOc D + cnP pl' (pPe P) ≤ 12
      omega⟩
    apply m180 (D := (pl', D.2)) hP hL hr hlp hx hmd
    intro f1 G1 J1 hd1 hfr1 _ _
    have q163 : ∀ k, k < n → G1 163 k = nI (th k) := fun k hk => by rw [hfr1.2.1 163 k (by decide) (by decide) (by decide) (by decide) (by omega)]; exact h163 k hk
    have q164 : ∀ w, w < pPe P → G1 164 w = oI (dPl D w) := fun w hw => by rw [hfr1.2.1 164 w (by decide) (by decide) (by decide) (by decide) (by omega)]; exact h164 w hw
    have := mld_loop (scr := scr) (f := f1) (G := G1) (J := J1) (c := c) (d := d + 8) hP hth hn hw.1 rfl (wfS_st hP hwS).1.1 hd1 q164 q163 (l1 := nI r) (K := fun r h => ∃ x, r = some (Value.int x) ∧ T x h) ⟨_, rfl, hT f1 G1 J1 _ hfr1 hv⟩ n 0 rfl (by omega)
    have e0 : ldB P B L D th pl' 0 = true := by simp [ldB]
    rw [e0] at this
    exact this
  · intro hv
    simp only [if_true]
    exact ⟨_, rfl, hT f G J false FRm_rf hv⟩
theorem set_loop {code : Nat} {l1 l4 l5 l6 : Int32} (hP : wfP P) (h0 : 0 < pCo P * pRo P) (hth : okH P D th n) (hn : n ≤ 3) (hc : code < 2 ^ 31) {K : Option Value → aH → Prop} : ∀ u i, n - i = u → i ≤ n → ∀ G, MS G P → (∀ k, k < n → G 163 k = nI (th k)) → (∀ G', (∀ q k, q ≠ 135 → G' q k = G q k) → (∀ k, i ≤ k → k < n → G' 135 (th k) = nI (clA P code k)) → (∀ v, (∀ k, i ≤ k → k < n → th k ≠ v) → G' 135 v = G 135 v) → ∀ (l8 : Int32) (l10 : Value), E scr false (d + 1) 213 156 [.ref 125, .int l1, .int (nI n), .int (nI (pCo P * pRo P)), .int l4, .int l5, .int l6, .int (nI code), .int l8, .int (nI n), l10] [] (wo f G' J c) K) → ∀ l10 : Value, E scr false (d + 1) 213 156 [.ref 125, .int l1, .int (nI n), .int (nI (pCo P * pRo P)), .int l4, .int l5, .int l6, .int (nI code), .int (nI (code / (pCo P * pRo P) ^ i)), .int (nI i), l10] [] (wo f G J c) K := by
  have p12 := hP.2.2.2.1
  have hcells : pCo P * pRo P ≤ 144 := Nat.mul_le_mul hP.1 hP.2.1
  have hco : 0 < pCo P := Nat.pos_of_mul_pos_right h0
  have hco12 := hP.1
  intro u
  induction u with
  | zero =>
    intro i hu hi G hms h163 hK l10
    have e : i = n := by omega
    subst e
    exact hK G (fun _ _ _ => rfl) (fun k h1 h2 => by omega) (fun _ _ => rfl) _ _
  | succ u ih =>
    intro i hu hi G hms h163 hK l10
    have e1 := h163 i (by omega)
    have ti := (hth.1 i (by omega)).1
    have s0 := hms.1.1
    have hle : code / (pCo P * pRo P) ^ i ≤ code := Nat.div_le_self _ _
    have hlt : code / (pCo P * pRo P) ^ i % (pCo P * pRo P) < pCo P * pRo P := Nat.mod_lt _ h0
    have r1 := irm_nI (a := code / (pCo P * pRo P) ^ i) (d := pCo P * pRo P) (by omega) h0 (by omega)
    have r2 := pk_div (a := code / (pCo P * pRo P) ^ i) (d := pCo P * pRo P) (by omega) h0 (by omega)
    have r3 := irm_nI (a := code / (pCo P * pRo P) ^ i % (pCo P * pRo P)) (d := pCo P) (by omega) hco (by omega)
    have r4 := pk_div (a := code / (pCo P * pRo P) ^ i % (pCo P * pRo P)) (d := pCo P) (by omega) hco (by omega)
    have ecl : nI 12 * nI (code / (pCo P * pRo P) ^ i % (pCo P * pRo P) / pCo P) + nI (code / (pCo P * pRo P) ^ i % (pCo P * pRo P) % pCo P) = nI (clA P code i) := by
      rw [pk_mul, nI_add]
      rfl
    have ene : ¬ pCo P * pRo P = 0 := by omega
    have ene2 : ¬ pCo P = 0 := by omega
    rw [b213_156]
    simp (disch := omega) only [NC, show ¬ n ≤ i by omega, if_false, ene, not_false_eq_true, true_and, mO scr, z126, e1, s0, ene2, show (12 : Int32) = nI 12 from rfl, r1, r2, r3, r4, ecl, nI_1]
    rw [Nat.div_div_eq_div_mul, ← Nat.pow_succ]
    apply ih (i + 1) (by omega) (by omega)
    · exact MS_cg (fun q k a _ _ _ _ => up2_q a) hms
    · intro k hk
      rw [up2_q (by decide)]
      exact h163 k hk
    · intro G' a1 a2 a3 l8 l10
      apply hK G'
      · intro q k hq
        rw [a1 q k hq, up2_q hq]
      · intro k k1 k2
        by_cases e : k = i
        · subst e
          rw [a3 (th k) (fun j j1 j2 => by have := hth.2 k j (by omega) (by omega); omega), up2_s]
        · exact a2 k (by omega) k2
      · intro v hv
        rw [a3 v (fun j j1 j2 => hv j (by omega) j2), up2_k (fun e => hv i (Nat.le_refl _) (by omega) e.symm)]
/-- what is kept, is as it was -/
def KPT (G : Nat → Nat → Int32) : Prop := ∀ k, G 154 k = G 126 k ∧ G 155 k = G 135 k ∧ G 156 k = G 136 k
theorem mag_loop {r : Nat} {l4 : Int32} (hP : wfP P) (hL : wfLw L) (hr : r < 6) (h0 : 0 < pCo P * pRo P) (h36 : pCo P * pRo P ≤ 36) (hth : okH P D th n) (hall : allT D th n) (hn : n ≤ 3) (hw : wfS P D) {K : Option Value → aH → Prop} : ∀ u k, (pCo P * pRo P) ^ n - k = u → k ≤ (pCo P * pRo P) ^ n → ∀ f G J, CM G r P B L → MD G P D → KPT G → (∀ k, k < n → G 163 k = nI (th k)) → (∀ w, w < pPe P → G 164 w = oI (dPl D w)) → (∀ f' G' J', FQ f G J f' G' J' → (∀ k, G' 140 k = G 140 k) → K (some (.int (nI (sMc P B L D th n n (pl0 (dPl D)))))) (wo f' G' J' c)) → ∀ l8 l9 l10 : Value, E scr false (d + 9) 213 142 [.ref 125, .int (nI r), .int (nI n), .int (nI (pCo P * pRo P)), .int l4, .int (nI ((pCo P * pRo P) ^ n)), .int (nI (sm (fun code => vM P B L D th n n code (pl0 (dPl D))) k)), .int (nI k), l8, l9, l10] [] (wo f G J c) K := by
  have p12 := hP.2.2.2.1
  have pw : (pCo P * pRo P) ^ n ≤ 46656 := by
    have e1 : (pCo P * pRo P) ^ n ≤ 36 ^ n := Nat.pow_le_pow_left h36 n
    have e2 : 36 ^ n ≤ 36 ^ 3 := Nat.pow_le_pow_right (by decide) hn
    have e3 : (36 : Nat) ^ 3 = 46656 := by decide
    omega
  intro u
  induction u with
  | zero =>
    intro k hu hk f G J hx hd hkp h163 h164 hK l8 l9 l10
    have e : k = (pCo P * pRo P) ^ n := by omega
    subst e
    rw [b213_142]
    simp (disch := omega) only [NC, Nat.le_refl, if_true]
    rw [vM_sum h0]
    exact hK f G J FQ_rf (fun _ => rfl)
  | succ u ih =>
    intro k hu hk f G J hx hd hkp h163 h164 hK l8 l9 l10
    have es : sm (fun code => vM P B L D th n n code (pl0 (dPl D))) (k + 1) = sm (fun code => vM P B L D th n n code (pl0 (dPl D))) k + vM P B L D th n n k (pl0 (dPl D)) := rfl
    rw [b213_142]
    simp (disch := omega) only [NC, show ¬ (pCo P * pRo P) ^ n ≤ k by omega, if_false]
    have st0 := set_loop (scr := scr) (f := f) (J := J) (c := c) (d := d + 8) (D := D) (th := th) (n := n) (code := k) (l1 := nI r) (l4 := l4) (l5 := nI ((pCo P * pRo P) ^ n)) (l6 := nI (sm (fun code => vM P B L D th n n code (pl0 (dPl D))) k)) hP h0 hth hn (by omega) (K := K) n 0 rfl (by omega) G hx.1 h163
    rw [Nat.pow_zero, Nat.div_one] at st0
    apply st0
    intro G1 a1 a2 a3 l8 l10
    have x1 : CM G1 r P B L := CM_cg (fun q k h => a1 q k (by omega)) hx
    rw [b213_156]
    simp (disch := omega) only [NC, Nat.le_refl, if_true]
    apply m212 hP hL hr h0 hth hall hn hw x1 (by rw [a1 126 4 (by decide)]; exact hd.1) (fun w hw => by rw [a1 136 w (by decide)]; exact hd.2.2 w hw) (fun k hk => by rw [a1 163 k (by decide)]; exact h163 k hk) (fun w hw => by rw [a1 164 w (by decide)]; exact h164 w hw) (fun k hk => a2 k (by omega) hk) (fun v hv hno => by rw [a3 v (fun j _ j2 => hno j j2)]; exact hd.2.1 v hv)
    intro f2 G2 J2 b fr2 hv
    have kp2 : ∀ k, G2 154 k = G 126 k ∧ G2 155 k = G 135 k ∧ G2 156 k = G 136 k := by
      intro k
      rw [fr2.2.1 154 k (by decide) (by decide) (by decide) (by decide) (by omega), fr2.2.1 155 k (by decide) (by decide) (by decide) (by decide) (by omega), fr2.2.1 156 k (by decide) (by decide) (by decide) (by decide) (by omega), a1 154 k (by decide), a1 155 k (by decide), a1 156 k (by decide)]
      exact hkp k
    have oth : ∀ q k, q ≠ 126 → q ≠ 135 → q ≠ 136 → q ≠ 142 → q ≠ 153 → G2 q k = G q k := fun q k b1 b2 b3 b4 b5 => by
      rw [fr2.2.1 q k b2 b3 b4 b5 (by omega), a1 q k b2]
    have fq2 : FQ f G J f2 (lbG G2) J2 := FQ_end fr2.1 fr2.2.2 kp2 (fun q k b1 b2 b3 _ _ b6 b7 => oth q k b1 b2 b3 b6 (by omega))
    have h140 : ∀ k, lbG G2 140 k = G 140 k := fun k => by rw [lb_140 (by decide) (by decide) (by decide), oth 140 k (by decide) (by decide) (by decide) (by decide) (by decide)]
    have nx : ∀ (x : Nat) (s0 : Int32) (l8 l9 : Int32) (l10 : Value), nI (sm (fun code => vM P B L D th n n code (pl0 (dPl D))) k) + s0 = nI x → x = sm (fun code => vM P B L D th n n code (pl0 (dPl D))) (k + 1) → E scr false (d + 9) 213 230 [.ref 125, .int (nI r), .int (nI n), .int (nI (pCo P * pRo P)), .int l4, .int (nI ((pCo P * pRo P) ^ n)), .int (nI (sm (fun code => vM P B L D th n n code (pl0 (dPl D))) k)), .int (nI k), .int l8, .int l9, l10] [.int s0, .int (nI (sm (fun code => vM P B L D th n n code (pl0 (dPl D))) k))] (wo f2 G2 J2 c) K := by
      intro x s0 l8 l9 l10 hs hx2
      rw [b213_230, m194, nI_1, hs, hx2]
      apply ih (k + 1) (by omega) (by omega) f2 (lbG G2) J2 (CM_fq fq2 (fun q hq => by rw [h140]; exact hx.2.2 q hq) hx) (MD_fq fq2 hd)
      · intro k
        have q1 : lbG G2 126 k = G2 154 k := by rw [lb_at]; rfl
        have q2 : lbG G2 135 k = G2 155 k := by rw [lb_at]; rfl
        have q3 : lbG G2 136 k = G2 156 k := by rw [lb_at]; rfl
        rw [q1, q2, q3, lb_140 (q := 154) (by decide) (by decide) (by decide), lb_140 (q := 155) (by decide) (by decide) (by decide), lb_140 (q := 156) (by decide) (by decide) (by decide)]
        exact ⟨rfl, rfl, rfl⟩
      · intro k hk
        rw [lb_140 (by decide) (by decide) (by decide), oth 163 k (by decide) (by decide) (by decide) (by decide) (by decide)]
        exact h163 k hk
      · intro w hw
        rw [lb_140 (by decide) (by decide) (by decide), oth 164 w (by decide) (by decide) (by decide) (by decide) (by decide)]
        exact h164 w hw
      · intro f3 G3 J3 fq3 h140b
        exact hK f3 G3 J3 (FQ_tr fq2 fq3) (fun k => by rw [h140b, h140])
    cases b with
    | false =>
      simp only [bz_f, if_true]
      exact nx _ 0 _ _ _ (Int32.add_zero _) (by rw [es, hv]; rfl)
    | true =>
      simp only [bz_t, show ¬ ((1 : Int32) = 0) by decide, if_false]
      exact nx _ 1 _ _ _ (nI_1 _) (by rw [es, hv]; rfl)
theorem pw_loop {l1 l4 : Int32} {x : Nat} (hx : x ≤ 36) (hn : n ≤ 3) {h : aH} {K : Option Value → aH → Prop} (hK : E scr false d 213 142 [.ref 125, .int l1, .int (nI n), .int (nI x), .int l4, .int (nI (x ^ n)), .int 0, .int 0, .null, .null, .null] [] h K) : ∀ u i, n - i = u → i ≤ n → E scr false d 213 118 [.ref 125, .int l1, .int (nI n), .int (nI x), .int l4, .int (nI (x ^ i)), .int (nI i), .null, .null, .null, .null] [] h K := by
  intro u
  induction u with
  | zero =>
    intro i hu hi
    have e : i = n := by omega
    subst e
    rw [b213_118]
    simp (disch := omega) only [NC, Nat.le_refl, if_true]
    exact hK
  | succ u ih =>
    intro i hu hi
    rw [b213_118]
    simp (disch := omega) only [NC, show ¬ n ≤ i by omega, if_false, pk_mul, nI_1, ← Nat.pow_succ]
    exact ih (i + 1) (by omega) (by omega)
theorem MS_163 (h : ∀ q k, q ≠ 163 → G' q k = G q k) (hm : MS G P) : MS G' P := by
  unfold MS at hm ⊢
  simp only [h 126 _ (by decide), h 127 _ (by decide), h 128 _ (by decide), h 129 _ (by decide)]
  exact hm
theorem cn_up {pl : Nat → Option Nat} {k : Nat} : ∀ m, cnP pl k ≤ cnP pl (k + m) := by
  intro m
  induction m with
  | zero => exact Nat.le_refl _
  | succ m ih =>
    rw [show k + (m + 1) = (k + m) + 1 from rfl, cn_s]
    omega
theorem mac_loop {l1 l2 l3 : Int32} (hP : wfP P) (hl : wfL P (dPl D)) (hn : cnP (dPl D) (pPe P) ≤ 3) {K : Option Value → aH → Prop} : ∀ u k, pPe P - k = u → k ≤ pPe P → ∀ G, MS G P → MD G P D → (∀ i, i < cnP (dPl D) k → G 163 i = nI (thF (dPl D) k i)) → (∀ G', (∀ q k, q ≠ 163 → G' q k = G q k) → (∀ i, i < cnP (dPl D) (pPe P) → G' 163 i = nI (thF (dPl D) (pPe P) i)) → E scr false (d + 1) 213 57 [.ref 125, .int l1, .int l2, .int l3, .int (nI (cnP (dPl D) (pPe P))), .int (nI (pPe P)), .null, .null, .null, .null, .null] [] (wo f G' J c) K) → E scr false (d + 1) 213 57 [.ref 125, .int l1, .int l2, .int l3, .int (nI (cnP (dPl D) k)), .int (nI k), .null, .null, .null, .null, .null] [] (wo f G J c) K := by
  have p12 := hP.2.2.2.1
  intro u
  induction u with
  | zero =>
    intro k hu hk G hms hd h163 hK
    have e : k = pPe P := by omega
    subst e
    exact hK G (fun _ _ _ => rfl) h163
  | succ u ih =>
    intro k hu hk G hms hd h163 hK
    have e126 := hms.1.2.2.1
    have e1 := hd.2.1 k (by simp [exB, show k < pPe P by omega])
    rw [b213_57]
    simp (disch := omega) only [mO scr, LI, e126, NC, show ¬ pPe P ≤ k by omega, if_false, e1]
    cases ho : dPl D k with
    | none =>
      simp only [oI_n, if_true]
      rw [b213_91, nI_1]
      have en : cnP (dPl D) (k + 1) = cnP (dPl D) k := by rw [cn_s, ho]; rfl
      have et : thF (dPl D) (k + 1) = thF (dPl D) k := by simp only [thF, ho, Option.isSome_none, Bool.false_eq_true, if_false]
      rw [← en]
      apply ih (k + 1) (by omega) (by omega) G hms hd
      · rw [en, et]; exact h163
      · exact hK
    | some t =>
      have := (wfL_lt hP hl ho).2.1
      have en : cnP (dPl D) (k + 1) = cnP (dPl D) k + 1 := by rw [cn_s, ho]; rfl
      have cu := cn_up (pl := dPl D) (k := k + 1) (pPe P - (k + 1))
      rw [show k + 1 + (pPe P - (k + 1)) = pPe P by omega] at cu
      simp (disch := omega) only [oI_s, NC, if_false, mO scr, nI_1]
      rw [b213_91, nI_1]
      have et : thF (dPl D) (k + 1) = upN (thF (dPl D) k) (cnP (dPl D) k) k := by simp only [thF, ho, Option.isSome_some, if_true]
      rw [← en]
      apply ih (k + 1) (by omega) (by omega)
      · exact MS_163 (fun q k b => up2_q b) hms
      · exact MD_cg (up2_q (by decide)) (fun k => ⟨up2_q (by decide), up2_q (by decide)⟩) hd
      · intro i hi
        rw [et, up2_a, upN_at]
        by_cases e : i = cnP (dPl D) k
        · rw [if_pos e, if_pos e]
        · rw [if_neg e, if_neg e]
          exact h163 i (by omega)
      · intro G' a1 a2
        exact hK G' (fun q k b => by rw [a1 q k b, up2_q b]) a2
end AG3
