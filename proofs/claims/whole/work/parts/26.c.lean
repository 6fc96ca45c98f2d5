variable {scr : List Int32}
-- ===== the model's questions: ahead, without, leader =====
section M7
variable {f G f' G' f1 G1 f2 G2 : Nat → Nat → Int32} {J J' J1 J2 : Nat → Nat → Int64} {c : Value} {d : Nat} {P : Pn} {D : Dy} {B : Nat → Nat} {L : Lw}
theorem FQ_end {f4 G4 : Nat → Nat → Int32} {J4 : Nat → Nat → Int64} (hf : ∀ o k, ¬ (o = 125 ∧ (k = 18 ∨ k = 40)) → f4 o k = f o k) (hJ : ∀ q k, q ≠ 151 → q ≠ 152 → J4 q k = J q k) (hk : ∀ k, G4 154 k = G 126 k ∧ G4 155 k = G 135 k ∧ G4 156 k = G 136 k) (hG : ∀ q k, q ≠ 126 → q ≠ 135 → q ≠ 136 → q ≠ 140 → q ≠ 141 → q ≠ 142 → ¬ (153 ≤ q ∧ q ≤ 164) → G4 q k = G q k) : FQ f G J f4 (lbG G4) J4 := by
  refine ⟨hf, ?_, hJ⟩
  intro q k a1 a2 a3 a4
  rw [lb_at]
  by_cases b1 : q = 126
  · rw [if_pos b1, (hk k).1, b1]
  · rw [if_neg b1]
    by_cases b2 : q = 135
    · rw [if_pos b2, (hk k).2.1, b2]
    · rw [if_neg b2]
      by_cases b3 : q = 136
      · rw [if_pos b3, (hk k).2.2, b3]
      · rw [if_neg b3]; exact hG q k b1 b2 b3 a1 a2 a3 a4
theorem lb_140 {q k : Nat} (h : q ≠ 126) (h1 : q ≠ 135) (h2 : q ≠ 136) : lbG G q k = G q k := by rw [lb_at, if_neg h, if_neg h1, if_neg h2]
/-- kept and walked -/
theorem kept_fr (h : FRm f1 (kpG G) J f2 G2 J2) : (∀ k, G2 154 k = G 126 k ∧ G2 155 k = G 135 k ∧ G2 156 k = G 136 k) ∧ (∀ q k, q ≠ 126 → q ≠ 135 → q ≠ 136 → q ≠ 142 → q ≠ 153 → ¬ (154 ≤ q ∧ q ≤ 156) → G2 q k = G q k) := by
  obtain ⟨-, h2, -⟩ := h
  refine ⟨fun k => ⟨?_, ?_, ?_⟩, ?_⟩
  · rw [h2 154 k (by decide) (by decide) (by decide) (by decide) (by omega), kp_at]; rfl
  · rw [h2 155 k (by decide) (by decide) (by decide) (by decide) (by omega), kp_at]; rfl
  · rw [h2 156 k (by decide) (by decide) (by decide) (by decide) (by omega), kp_at]; rfl
  · intro q k a1 a2 a3 a4 a5 a6
    rw [h2 q k a2 a3 a4 a5 (by omega), kp_n a6]
theorem m205 {r n : Nat} (hP : wfP P) (hL : wfLw L) (hr : r < 6) (hn : n < 2 ^ 20) (hw : wfS P D) (hx : CM G r P B L) (hd : MD G P D) {T : Int32 → aH → Prop} (hT : ∀ f' G' J', FQ f G J f' G' J' → (∀ k, G' 140 k = G 140 k) → T (nI (pPe P - cnP (dPl (wkD P B L n D)) (pPe P))) (wo f' G' J' c)) : vI scr (d + 9) 205 [.ref 125, .int (nI r), .int (nI n)] (wo f G J c) T := by
  unfold vI
  rw [u205_ok, en205, b205_0]
  simp only [m193, true_and]
  apply m181 hP hL hn hr hw (CM_kp hx) (MD_kp hd)
  intro f2 G2 J2 hd2 hfr2 _
  have hms2 := (CM_fr hfr2 (CM_kp hx)).1
  rw [m182 hP (wfS_wk hP n D hw).1.1 hms2 hd2]
  rw [m194]
  obtain ⟨k1, k2⟩ := kept_fr hfr2
  refine ⟨_, rfl, hT f2 _ J2 (FQ_kl hfr2 (fun _ _ _ => rfl)) ?_⟩
  intro k
  rw [lb_140 (by decide) (by decide) (by decide), k2 140 k (by decide) (by decide) (by decide) (by decide) (by decide) (by omega)]
theorem ahead_31 {r n what : Nat} (hP : wfP P) (hL : wfLw L) (hr : r < 6) (hn : n < 2 ^ 20) (hw : wfS P D) (hoc : dOc D + cnP (dPl D) (pPe P) = pPe P) (hx : CM G r P B L) (hd : MD G P D) (hwh : what < 2 ∨ what - 2 < pPe P) {K : Option Value → aH → Prop} (hK : ∀ f' G' J', FQ f G J f' G' J' → (∀ k, G' 140 k = G 140 k) → K (some (.int (fsA P B L D n what))) (wo f' G' J' c)) : E scr false (d + 9) 196 31 [.ref 125, .int (nI r), .int (nI n), .int (nI what), .null, .null] [] (wo f G J c) K := by
  have p12 := hP.2.2.2.1
  rw [b196_31]
  simp only [m193, mO scr]
  apply m181 hP hL hn hr hw (CM_kp hx) (MD_kp hd)
  intro f2 G2 J2 hd2 hfr2 h40
  have hms2 := (CM_fr hfr2 (CM_kp hx)).1
  obtain ⟨hws2, hoc2⟩ := wfS_wk (B := B) (L := L) hP n D hw
  obtain ⟨k1, k2⟩ := kept_fr hfr2
  have fq : FQ f G J f2 (lbG G2) J2 := FQ_kl hfr2 (fun o k a => by
    unfold up2
    rw [if_neg (fun e => a ⟨e.1, Or.inr e.2⟩)])
  have fin := hK f2 (lbG G2) J2 fq (fun k => by rw [lb_140 (by decide) (by decide) (by decide), k2 140 k (by decide) (by decide) (by decide) (by decide) (by decide) (by omega)])
  have h40' : f2 125 40 = nI (wkW P B L n D) := by
    rw [h40]
    split
    · rename_i e; rw [up2_s, e]; rfl
    · rfl
  unfold fsA at fin
  simp (disch := omega) only [NC]
  by_cases h0 : what = 0
  · rw [if_pos h0]
    rw [if_pos h0] at fin
    rw [m182 hP hws2.1 hms2 hd2, b196_61]
    simp (disch := omega) only [NC, show what ≤ 1 by omega, if_true, b196_120, m194]
    rw [show pPe P - cnP (dPl (wkD P B L n D)) (pPe P) = dOc (wkD P B L n D) by omega]
    exact fin
  · rw [if_neg h0]
    rw [if_neg h0] at fin
    simp only [mO scr, h40']
    rw [b196_61]
    by_cases h1 : what = 1
    · rw [if_pos h1] at fin
      simp (disch := omega) only [NC, show what ≤ 1 by omega, if_true, b196_120, m194]
      exact fin
    · rw [if_neg h1] at fin
      have hp2 : what - 2 < pPe P := by omega
      have hex : exB P (what - 2) = true := by simp [exB, hp2]
      have e1 : G2 155 (what - 2) = oI (dPl D (what - 2)) := by rw [(k1 _).2.1]; exact hd.2.1 _ hex
      have e2 := hd2.2.1 _ hex
      have e3 := hd2.2.2 (what - 2) (by omega)
      have e4 : G2 154 4 = dSt D := by rw [(k1 4).1]; exact hd.1
      rw [show nI what - 2 = nI (what - 2) from pk_sub (b := 2) (by omega)]
      simp (disch := omega) only [NC, show ¬ what ≤ 1 by omega, if_false, mO scr, e1]
      cases ho : dPl D (what - 2) with
      | none =>
        have hn2 := wk_none (P := P) (B := B) (L := L) n D ho
        rw [hn2, ho] at fin
        simp only [oI_n, if_true, b196_118, b196_120, m194]
        exact fin
      | some t =>
        have t144 := (wfL_lt hP hw.1 ho).2.1
        simp (disch := omega) only [oI_s, NC, if_false, mO scr, e2]
        cases ho2 : dPl (wkD P B L n D) (what - 2) with
        | none =>
          rw [ho2, ho] at fin
          simp (disch := omega) only [oI_n, if_true, mO scr, e3, LI, e4, b196_118, b196_120, m194]
          exact fin
        | some t2 =>
          rw [ho2] at fin
          have t2144 := (wfL_lt hP hws2.1 ho2).2.1
          simp (disch := omega) only [oI_s, NC, if_false, b196_118, b196_120, m194]
          exact fin
theorem him_loop {l1 l2 l3 : Int32} {K : Option Value → aH → Prop} : ∀ m k, 12 - k = m → k ≤ 12 → ∀ G, (∀ G', (∀ q, q < 12 → k ≤ q → G' 159 q = G 135 q) → (∀ q, q < k → G' 159 q = G 159 q) → (∀ q i, q ≠ 159 → G' q i = G q i) → E scr false (d + 1) 202 13 [.ref 125, .int l1, .int l2, .int l3, .int (nI 12), .null] [] (wo f G' J c) K) → E scr false (d + 1) 202 13 [.ref 125, .int l1, .int l2, .int l3, .int (nI k), .null] [] (wo f G J c) K := by
  intro m
  induction m with
  | zero =>
    intro k hm hk G hK
    have e : k = 12 := by omega
    subst e
    exact hK G (fun q h1 h2 => by omega) (fun _ _ => rfl) (fun _ _ _ => rfl)
  | succ m ih =>
    intro k hm hk G hK
    rw [b202_13]
    simp (disch := omega) only [LI, NC, show ¬ 12 ≤ k by omega, if_false, mO scr, nI_1]
    apply ih (k + 1) (by omega) (by omega)
    intro G' a1 a2 a3
    apply hK G'
    · intro q h1 h2
      by_cases e : q = k
      · rw [a2 q (by omega), e, up2_s]
      · rw [a1 q h1 (by omega), up2_q (by decide)]
    · intro q hq
      rw [a2 q (by omega), up2_k (by omega)]
    · intro q i hq
      rw [a3 q i hq, up2_q hq]
theorem elN_pe (hP : wfP P) {a b : Nat → Option Nat} (ha : wfL P a) (hb : wfL P b) {w : Nat} : elN a b w 12 = elN a b w (pPe P) := by
  have p12 := hP.2.2.2.1
  have key : ∀ k, pPe P ≤ k → k ≤ 12 → elN a b w k = elN a b w (pPe P) := by
    intro k
    induction k with
    | zero => intro h1 _; rw [show pPe P = 0 by omega]
    | succ k ih =>
      intro h1 h2
      by_cases e : pPe P = k + 1
      · rw [e]
      · have none' : ∀ pl : Nat → Option Nat, wfL P pl → pl k = none := by
          intro pl hl
          cases hx : pl k with
          | none => rfl
          | some t =>
            have := (wfL_lt hP hl hx).2.2.2
            unfold exB at this
            simp only [Bool.or_eq_true, Bool.and_eq_true, decide_eq_true_eq] at this
            omega
        show elN a b w k + tf (!decide (k = w) && !decide (a k = b k)) = _
        rw [ih (by omega) (by omega), none' a ha, none' b hb]
        simp [tf]
  exact key 12 p12 (Nat.le_refl _)
theorem unl_loop (hP : wfP P) (hms : MS G P) {l1 l3 : Int32} {a b : Nat → Option Nat} {w : Nat} (hw : w < 2 ^ 31) (ha : ∀ v t, a v = some t → t < 144) (hb : ∀ v t, b v = some t → t < 144) (h1 : ∀ v, v < pPe P → G 135 v = oI (a v)) (h2 : ∀ v, v < pPe P → G 159 v = oI (b v)) {K : Option Value → aH → Prop} : ∀ m k, pPe P - k = m → k ≤ pPe P → E scr false (d + 2) 202 63 [.ref 125, .int l1, .int (nI w), .int l3, .int (nI (elN a b w k)), .int (nI k)] [] (wo f G J c) K = K (some (.int (nI (elN a b w (pPe P))))) (wo f (lbG G) J c) := by
  have p12 := hP.2.2.2.1
  have e126 := hms.1.2.2.1
  intro m
  induction m with
  | zero =>
    intro k hm hk
    have e : k = pPe P := by omega
    subst e
    rw [b202_63]
    simp (disch := omega) only [mO scr, LI, e126, NC, Nat.le_refl, if_true, m194]
  | succ m ih =>
    intro k hm hk
    have es : elN a b w (k + 1) = elN a b w k + tf (!decide (k = w) && !decide (a k = b k)) := rfl
    have e1 := h1 k (by omega)
    have e2 := h2 k (by omega)
    have hi := oI_inj (o := a k) (o' := b k) (fun t ht => by have := ha k t ht; omega) (fun t ht => by have := hb k t ht; omega)
    rw [b202_63]
    simp (disch := omega) only [mO scr, LI, e126, NC, show ¬ pPe P ≤ k by omega, if_false, e1, e2, hi]
    by_cases hkw : k = w
    · simp only [hkw, if_true]
      rw [b202_103, b202_104, Int32.add_zero, nI_1, ← ih (k + 1) (by omega) (by omega), es, hkw]
      simp [tf]
    · simp only [hkw, if_false]
      by_cases hab : a k = b k
      · simp only [hab, if_true]
        rw [b202_103, b202_104, Int32.add_zero, nI_1, ← ih (k + 1) (by omega) (by omega), es]
        simp [tf, hab]
      · simp only [hab, if_false]
        rw [b202_104, nI_1, nI_1, ← ih (k + 1) (by omega) (by omega), es]
        simp [tf, hab, hkw]
theorem m202 {r n w : Nat} (hP : wfP P) (hL : wfLw L) (hr : r < 6) (hn : n < 2 ^ 20) (hw : wfS P D) (hx : CM G r P B L) (hd : MD G P D) (hex : exB P w = true) {T : Int32 → aH → Prop} (hT : ∀ f' G' J', FQ f G J f' G' J' → (∀ k, G' 140 k = G 140 k) → T (nI (miN P B L D n w)) (wo f' G' J' c)) : vI scr (d + 9) 202 [.ref 125, .int (nI r), .int (nI w), .int (nI n)] (wo f G J c) T := by
  have p12 := hP.2.2.2.1
  have w14 := ex_lt hP hex
  unfold vI
  rw [u202_ok, en202, b202_0]
  simp only [m193, true_and]
  apply m181 hP hL hn hr hw (CM_kp hx) (MD_kp hd)
  intro f2 G2 J2 hd2 hfr2 _
  obtain ⟨k1, k2⟩ := kept_fr hfr2
  rw [show (0 : Int32) = nI 0 from rfl]
  apply him_loop 12 0 rfl (by omega)
  intro G3 a1 _ a3
  rw [b202_13]
  simp (disch := omega) only [LI, NC, Nat.le_refl, if_true, m194, mO scr]
  have kk : ∀ k, G3 154 k = G 126 k ∧ G3 155 k = G 135 k ∧ G3 156 k = G 136 k := by
    intro k
    rw [a3 154 k (by decide), a3 155 k (by decide), a3 156 k (by decide)]
    exact k1 k
  have fq3 : FQ f G J f2 (lbG G3) J2 := FQ_end hfr2.1 hfr2.2.2 kk (fun q k b1 b2 b3 b4 b5 b6 b7 => by
    rw [a3 q k (by omega)]
    exact k2 q k b1 b2 b3 b6 (by omega) (by omega))
  have h140 : ∀ k, lbG G3 140 k = G 140 k := fun k => by
    rw [lb_140 (by decide) (by decide) (by decide), a3 140 k (by decide), k2 140 k (by decide) (by decide) (by decide) (by decide) (by decide) (by omega)]
  have hx3 : CM (lbG G3) r P B L := CM_fq fq3 (fun q hq => by rw [h140]; exact hx.2.2 q hq) hx
  have hd3 : MD (lbG G3) P D := MD_fq fq3 hd
  -- he is taken away
  have hx4 : CM (up2 (lbG G3) 135 w (-1)) r P B L := CM_cg (fun q k hq => up2_q (by omega)) hx3
  have hd4 : MD (up2 (lbG G3) 135 w (-1)) P (lfD D w) := by
    refine ⟨by rw [up2_q (by decide)]; exact hd3.1, ?_, fun v hv => by rw [up2_q (by decide)]; exact hd3.2.2 v hv⟩
    intro v hv
    rw [up2_a]
    show _ = oI (plU (dPl D) w none v)
    unfold plU
    by_cases e : v = w
    · simp [e, oI]
    · simp only [e, if_false]; exact hd3.2.1 v hv
  apply m181 hP hL hn hr (wfS_lf hw) hx4 hd4
  intro f5 G5 J5 hd5 hfr5 _
  have hms5 := (CM_fr hfr5 hx4).1
  have kp5 : ∀ q, (154 ≤ q ∧ q ≤ 156) ∨ q = 159 → ∀ k, G5 q k = G3 q k := by
    intro q hq k
    rw [hfr5.2.1 q k (by omega) (by omega) (by omega) (by omega) (by omega), up2_q (by omega), lb_140 (by omega) (by omega) (by omega)]
  have ha := (wfS_wk (B := B) (L := L) hP n (lfD D w) (wfS_lf hw)).1.1
  have hb := (wfS_wk (B := B) (L := L) hP n D hw).1.1
  have := unl_loop (scr := scr) (f := f5) (J := J5) (c := c) (d := d + 7) hP hms5 (l1 := nI r) (l3 := nI n) (a := dPl (wkD P B L n (lfD D w))) (b := dPl (wkD P B L n D)) (w := w) (by omega) (fun v t h => (wfL_lt hP ha h).2.1) (fun v t h => (wfL_lt hP hb h).2.1) (fun v hv => hd5.2.1 v (by simp [exB, hv])) (fun v hv => by
    rw [kp5 159 (by omega) v, a1 v (by omega) (by omega)]
    exact hd2.2.1 v (by simp [exB, hv])) (K := fun r h => ∃ x, r = some (Value.int x) ∧ T x h) (pPe P) 0 rfl (by omega)
  have e0 : elN (dPl (wkD P B L n (lfD D w))) (dPl (wkD P B L n D)) w 0 = 0 := rfl
  rw [e0] at this
  show E scr false (d + 7 + 2) 202 63 [.ref 125, .int (nI r), .int (nI w), .int (nI n), .int (nI 0), .int (nI 0)] [] (wo f5 G5 J5 c) (fun r h => ∃ x, r = some (Value.int x) ∧ T x h)
  rw [this, ← elN_pe hP ha hb]
  refine ⟨_, rfl, hT f5 (lbG G5) J5 (FQ_end (fun o k a => (hfr5.1 o k a).trans (hfr2.1 o k a)) (fun q k a b => (hfr5.2.2 q k a b).trans (hfr2.2.2 q k a b)) ?_ ?_) ?_⟩
  · intro k
    rw [kp5 154 (by omega), kp5 155 (by omega), kp5 156 (by omega)]
    exact kk k
  · intro q k b1 b2 b3 b4 b5 b6 b7
    rw [hfr5.2.1 q k b2 b3 b6 (by omega) (by omega), up2_q b2]
    exact fq3.2.1 q k b4 b5 b6 b7
  · intro k
    rw [lb_140 (by decide) (by decide) (by decide), hfr5.2.1 140 k (by decide) (by decide) (by decide) (by decide) (by omega), up2_q (by decide), h140]
def ldZ (o : Option (Nat × Nat)) : Int32 := match o with
  | none => 0
  | some x => nI x.2
theorem mlead_loop {r n what : Nat} (hP : wfP P) (hL : wfLw L) (hr : r < 6) (hn : n < 2 ^ 20) (hw : wfS P D) (hwh : what < 2) {K : Option Value → aH → Prop} : ∀ m k, 14 - k = m → k ≤ 14 → ∀ f G J, CM G r P B L → MD G P D → (∀ f' G' J', FQ f G J f' G' J' → (∀ k, G' 140 k = G 140 k) → K (some (.int (ldR (ldA P B L D n 14) what))) (wo f' G' J' c)) → ∀ l7 : Value, E scr false (d + 10) 204 31 [.ref 125, .int (nI r), .int (nI n), .int (nI what), .int (ldL (ldA P B L D n k)), .int (ldZ (ldA P B L D n k)), .int (nI k), l7] [] (wo f G J c) K := by
  intro m
  induction m with
  | zero =>
    intro k hm hk f G J hx hd hK l7
    have e : k = 14 := by omega
    subst e
    have fin := hK f G J FQ_rf (fun _ => rfl)
    rw [b204_31]
    simp (disch := omega) only [show (14 : Int32) = nI 14 from rfl, NC, Nat.le_refl, if_true, b204_107]
    cases ho : ldA P B L D n 14 with
    | none =>
      rw [ho] at fin
      simp only [ldL, if_true]
      exact fin
    | some x =>
      rw [ho] at fin
      obtain ⟨x1, x2⟩ := ld_lt 14 x ho
      have ne : ¬ nI x.1 = -2 := fun e => nI_pos (show x.1 < 2 ^ 31 by omega) (by rw [e]; decide)
      simp only [ldL, ldZ, ne, if_false]
      unfold ldR at fin
      by_cases h0 : what = 0
      · simp only [h0, if_true] at fin ⊢; exact fin
      · simp only [h0, if_false] at fin ⊢; exact fin
  | succ m ih =>
    intro k hm hk f G J hx hd hK l7
    have next : ∀ f' G' J', FQ f G J f' G' J' → (∀ k, G' 140 k = G 140 k) → ∀ (a b : Int32) (l7 : Value), a = ldL (ldA P B L D n (k + 1)) → b = ldZ (ldA P B L D n (k + 1)) → E scr false (d + 10) 204 90 [.ref 125, .int (nI r), .int (nI n), .int (nI what), .int a, .int b, .int (nI k), l7] [] (wo f' G' J' c) K := by
      intro f' G' J' fq h140 a b l7 ha hb
      rw [b204_90, nI_1, ha, hb]
      apply ih (k + 1) (by omega) (by omega) f' G' J' (CM_fq fq (fun q hq => by rw [h140]; exact hx.2.2 q hq) hx) (MD_fq fq hd)
      intro f2 G2 J2 fq2 h140b
      exact hK f2 G2 J2 (FQ_tr fq fq2) (fun k => by rw [h140b, h140])
    rw [b204_31]
    simp (disch := omega) only [show (14 : Int32) = nI 14 from rfl, NC, show ¬ 14 ≤ k by omega, if_false, m128 hP hx.1]
    have skip : dPl D k = none → ∀ l7 : Value, E scr false (d + 10) 204 90 [.ref 125, .int (nI r), .int (nI n), .int (nI what), .int (ldL (ldA P B L D n k)), .int (ldZ (ldA P B L D n k)), .int (nI k), l7] [] (wo f G J c) K := by
      intro ho l7
      have es : ldA P B L D n (k + 1) = ldA P B L D n k := by simp only [ldA, ho]
      rw [es] at next
      exact next f G J FQ_rf (fun _ => rfl) _ _ _ rfl rfl
    cases hex : exB P k with
    | false =>
      simp only [bz_f, if_true]
      apply skip
      cases e : dPl D k with
      | none => rfl
      | some t => rw [(wfL_lt hP hw.1 e).2.2.2] at hex; cases hex
    | true =>
      have e1 := hd.2.1 k hex
      simp (disch := omega) only [bz_t, show ¬ ((1 : Int32) = 0) by decide, if_false, mO scr, e1]
      cases ho : dPl D k with
      | none =>
        simp only [oI_n, if_true]
        exact skip ho _
      | some t =>
        have t144 := (wfL_lt hP hw.1 ho).2.1
        simp (disch := omega) only [oI_s, NC, if_false]
        apply m202 hP hL hr hn hw hx hd hex
        intro f1 G1 J1 fq1 h140
        have hle : miN P B L D n k ≤ 12 := elN_le
        cases hxx : ldA P B L D n k with
        | none =>
          have es : ldA P B L D n (k + 1) = some (k, miN P B L D n k) := by simp only [ldA, ho, hxx]
          rw [es] at next
          simp only [ldL, if_true]
          rw [b204_82]
          exact next f1 G1 J1 fq1 h140 _ _ _ rfl rfl
        | some x =>
          obtain ⟨x1, x2⟩ := ld_lt k x hxx
          have ne : ¬ nI x.1 = -2 := fun e => nI_pos (show x.1 < 2 ^ 31 by omega) (by rw [e]; decide)
          simp (disch := omega) only [ldL, ldZ, ne, if_false, NC]
          by_cases hlt : x.2 < miN P B L D n k
          · have es : ldA P B L D n (k + 1) = some (k, miN P B L D n k) := by simp only [ldA, ho, hxx, hlt, if_true]
            rw [es] at next
            rw [if_neg (by omega), b204_82]
            exact next f1 G1 J1 fq1 h140 _ _ _ rfl rfl
          · have es : ldA P B L D n (k + 1) = some x := by simp only [ldA, ho, hxx, hlt, if_false]
            rw [es] at next
            rw [if_pos (by omega)]
            exact next f1 G1 J1 fq1 h140 _ _ _ rfl rfl
end M7
