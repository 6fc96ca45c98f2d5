variable {scr : List Int32}
section CX6
variable {f G f' G' f1 G1 f2 G2 : Nat → Nat → Int32} {J J' J1 J2 : Nat → Nat → Int64} {c : Value} {d : Nat} {P : Pn} {D : Dy} {B : Nat → Nat} {L : Lw}
def kqG (G : Nat → Nat → Int32) : Nat → Nat → Int32 := cpR (cpR (cpR G 126 160) 135 161) 136 162
def lqG (G : Nat → Nat → Int32) : Nat → Nat → Int32 := cpR (cpR (cpR G 160 126) 161 135) 162 136
theorem kq_at {q k : Nat} : kqG G q k = if q = 160 then G 126 k else if q = 161 then G 135 k else if q = 162 then G 136 k else G q k := by
  unfold kqG cpR
  by_cases h1 : q = 162
  · subst h1; rfl
  · by_cases h2 : q = 161
    · subst h2; rfl
    · by_cases h3 : q = 160
      · subst h3; rfl
      · simp [h1, h2, h3]
theorem lq_at {q k : Nat} : lqG G q k = if q = 126 then G 160 k else if q = 135 then G 161 k else if q = 136 then G 162 k else G q k := by
  unfold lqG cpR
  by_cases h1 : q = 136
  · subst h1; rfl
  · by_cases h2 : q = 135
    · subst h2; rfl
    · by_cases h3 : q = 126
      · subst h3; rfl
      · simp [h1, h2, h3]
theorem kq_n {q k : Nat} (h : ¬ (160 ≤ q ∧ q ≤ 162)) : kqG G q k = G q k := by rw [kq_at, if_neg (by omega), if_neg (by omega), if_neg (by omega)]
theorem FQ_kq (h : FRm f (kqG G) J f2 G2 J2) : FQ f G J f2 (lqG G2) J2 ∧ ∀ k, lqG G2 140 k = G 140 k := by
  obtain ⟨h1, h2, h3⟩ := h
  have e0 : ∀ k, G2 160 k = G 126 k := fun k => by rw [h2 160 k (by decide) (by decide) (by decide) (by decide) (by omega), kq_at]; rfl
  have e1 : ∀ k, G2 161 k = G 135 k := fun k => by rw [h2 161 k (by decide) (by decide) (by decide) (by decide) (by omega), kq_at]; rfl
  have e2 : ∀ k, G2 162 k = G 136 k := fun k => by rw [h2 162 k (by decide) (by decide) (by decide) (by decide) (by omega), kq_at]; rfl
  refine ⟨⟨h1, ?_, h3⟩, ?_⟩
  · intro q k a1 a2 a3 a4
    rw [lq_at]
    by_cases b1 : q = 126
    · rw [if_pos b1, e0, b1]
    · rw [if_neg b1]
      by_cases b2 : q = 135
      · rw [if_pos b2, e1, b2]
      · rw [if_neg b2]
        by_cases b3 : q = 136
        · rw [if_pos b3, e2, b3]
        · rw [if_neg b3, h2 q k b2 b3 a3 (by omega) (by omega), kq_n (by omega)]
  · intro k
    rw [lq_at, if_neg (by decide), if_neg (by decide), if_neg (by decide), h2 140 k (by decide) (by decide) (by decide) (by decide) (by omega), kq_n (by omega)]
theorem MD_go (hP : wfP P) (hd : MD G P D) {r : Nat} : MD (hgG G 12 (some r)) P (ptD D 12 r) := by
  refine ⟨by show up2 G 135 12 (nI r) 126 4 = _; rw [up2_q (by decide)]; exact hd.1, ?_, fun v hv => by show up2 G 135 12 (nI r) 136 v = _; rw [up2_q (by decide)]; exact hd.2.2 v hv⟩
  intro v hv
  show up2 G 135 12 (nI r) 135 v = oI (plU (dPl D) 12 (some r) v)
  rw [up2_a]
  unfold plU
  by_cases e : v = 12
  · simp [e, oI]
  · simp only [e, if_false]; exact hd.2.1 v hv
theorem ob_loop {r hm code n m : Nat} (hP : wfP P) (hL : wfLw L) (hr : r < 6) (hw : wfS P D) (hh : dPl D 12 = some hm) (hc : code < 2 ^ 31) (hn : n ≤ 3) {K : Option Value → aH → Prop} : ∀ u i, n - i = u → i ≤ n → ∀ f G J X, trA P B L D code n i = some X → CM G r P B L → MD G P X → (∀ f' G' J' X', FRm f G J f' G' J' → trA P B L D code n n = some X' → MD G' P X' → ∀ (l6 : Int32) (l7 : Value), E scr false (d + 9) 208 99 [.ref 125, .int (nI r), .int (nI code), .int (nI n), .int (nI m), .int 1, .int l6, l7] [] (wo f' G' J' c) K) → (∀ f' G' J', FRm f G J f' G' J' → trA P B L D code n n = none → ∀ (l6 : Int32) (l7 : Value), E scr false (d + 9) 208 99 [.ref 125, .int (nI r), .int (nI code), .int (nI n), .int (nI m), .int 0, .int l6, l7] [] (wo f' G' J' c) K) → ∀ l7 : Value, E scr false (d + 9) 208 39 [.ref 125, .int (nI r), .int (nI code), .int (nI n), .int (nI m), .int 1, .int (nI i), l7] [] (wo f G J c) K := by
  intro u
  induction u with
  | zero =>
    intro i hu hi f G J X hX hx hd h1 h0 l7
    have e : i = n := by omega
    subst e
    rw [b208_39]
    simp (disch := omega) only [NC, Nat.le_refl, if_true]
    exact h1 f G J X FRm_rf hX hd _ _
  | succ u ih =>
    intro i hu hi f G J X hX hx hd h1 h0 l7
    obtain ⟨x1, ⟨t, xt⟩, -⟩ := tr_wf hP hw hh i X hX
    have c9 := ch_lt (code := code) (i := i) (n := n)
    have es : trA P B L D code n (i + 1) = if chO code i n = 8 then some (stD P B L X) else match goO P (dPl X) 12 (chO code i n) with
      | none => none
      | some r => some (stD P B L (ptD X 12 r)) := by
      simp only [trA, hX]
      rfl
    rw [b208_39]
    simp (disch := omega) only [NC, show ¬ n ≤ i by omega, if_false, show ¬ ((1 : Int32) = 0) by decide]
    rw [m207 hc (by omega) (by omega)]
    have step : ∀ G1 Y (l7 : Int32), trA P B L D code n (i + 1) = some (stD P B L Y) → wfS P Y → CM G1 r P B L → MD G1 P Y → FRm f G J f G1 J → E scr false (d + 8 + 1) 208 76 [.ref 125, .int (nI r), .int (nI code), .int (nI n), .int (nI m), .int 1, .int (nI i), .int l7] [] (wo f G1 J c) K := by
      intro G1 Y l7 hY wY xY dY frY
      rw [b208_76, b208_81]
      simp only [show ¬ ((1 : Int32) = 0) by decide, if_false]
      apply m180 hP hL hr wY.1 xY dY
      intro f2 G2 J2 hd2 hfr2 _ _
      rw [b208_93, nI_1]
      apply ih (i + 1) (by omega) (by omega) f2 G2 J2 _ hY (CM_fr hfr2 xY) hd2
      · intro f3 G3 J3 X' fr3 a b l6 l7
        exact h1 f3 G3 J3 X' (FRm_tr frY (FRm_tr hfr2 fr3)) a b l6 l7
      · intro f3 G3 J3 fr3 a l6 l7
        exact h0 f3 G3 J3 (FRm_tr frY (FRm_tr hfr2 fr3)) a l6 l7
    simp (disch := omega) only [show (8 : Int32) = nI 8 from rfl, NC]
    by_cases h8 : chO code i n = 8
    · rw [if_pos h8] at es ⊢
      exact step G X _ es x1 hx hd FRm_rf
    · rw [if_neg h8] at es ⊢
      rw [show (0 : Int32) = nI 0 from rfl, m190 (w := 0) hP x1.1 hx.1 hd xt (by omega)]
      show (if bz (goO P (dPl X) 12 (chO code i n)).isSome = nI 0 then _ else _)
      cases hg : goO P (dPl X) 12 (chO code i n) with
      | none =>
        rw [hg] at es
        have hn2 := tr_none es (n - (i + 1))
        rw [show i + 1 + (n - (i + 1)) = n by omega] at hn2
        rw [if_pos (show bz (none : Option Nat).isSome = nI 0 by rfl), b208_81]
        simp only [show (nI 0 = 0) from rfl, if_true]
        rw [b208_93, b208_39]
        simp only [if_true, ite_self]
        exact h0 f G J FRm_rf hn2 _ _
      | some r' =>
        rw [hg] at es
        obtain ⟨g1, g2, g3, g4, -⟩ := go_wf hP x1 hg
        rw [if_neg (show ¬ bz (some r').isSome = nI 0 from (show ¬ ((1 : Int32) = nI 0) by decide))]
        exact step _ (ptD X 12 r') _ es g1 (CM_cg (fun q k h => up2_q (by omega)) hx) (MD_go hP hd) ⟨fun _ _ _ => rfl, fun q k a _ _ _ _ => up2_q a, fun _ _ _ _ => rfl⟩
theorem m208 {r hm code n m : Nat} (hP : wfP P) (hL : wfLw L) (hr : r < 6) (hw : wfS P D) (hoc : dOc D + cnP (dPl D) (pPe P) = pPe P) (hh : dPl D 12 = some hm) (hc : code < 2 ^ 31) (hn : n ≤ 3) (hm20 : m < 2 ^ 20) (hx : CM G r P B L) (hd : MD G P D) {T : Int32 → aH → Prop} (hT : ∀ f' G' J', FQ f G J f' G' J' → (∀ k, G' 140 k = G 140 k) → T (coV P B L D code n m) (wo f' G' J' c)) : vI scr (d + 9) 208 [.ref 125, .int (nI r), .int (nI code), .int (nI n), .int (nI m)] (wo f G J c) T := by
  unfold vI
  rw [u208_ok, en208, b208_0]
  simp only [mO scr, m166 A_mo_scalar A_mo_keptLead (by decide) rfl, m166 A_mo_place A_mo_leadPlace (by decide) rfl, m166 A_mo_outAt A_mo_leadOut (by decide) rfl, true_and]
  show E scr false (d + 8 + 1) 208 39 [.ref 125, .int (nI r), .int (nI code), .int (nI n), .int (nI m), .int 1, .int (nI 0), .null] [] (wo f (kqG G) J c) _
  have hx1 : CM (kqG G) r P B L := CM_cg (fun q k h => kq_n (by omega)) hx
  have hd1 : MD (kqG G) P D := MD_cg (kq_n (by omega)) (fun k => ⟨kq_n (by omega), kq_n (by omega)⟩) hd
  have last : ∀ f2 G2 J2, FRm f (kqG G) J f2 G2 J2 → ∀ (s0 : Int32) (l5 l6 : Int32) (l7 : Value), s0 = coV P B L D code n m → E scr false (d + 8 + 1) 208 124 [.ref 125, .int (nI r), .int (nI code), .int (nI n), .int (nI m), .int l5, .int l6, l7] [.int s0] (wo f2 G2 J2 c) (fun r h => ∃ x, r = some (Value.int x) ∧ T x h) := by
    intro f2 G2 J2 fr2 s0 l5 l6 l7 hs0
    rw [b208_124]
    simp only [mO scr, m166 A_mo_keptLead A_mo_scalar (by decide) rfl, m166 A_mo_leadPlace A_mo_place (by decide) rfl, m166 A_mo_leadOut A_mo_outAt (by decide) rfl]
    obtain ⟨fq, h140⟩ := FQ_kq fr2
    rw [hs0]
    exact ⟨_, rfl, hT f2 (lqG G2) J2 fq h140⟩
  apply ob_loop hP hL hr hw hh hc hn n 0 rfl (by omega) f (kqG G) J D rfl hx1 hd1
  · intro f2 G2 J2 X fr2 hX hd2 l6 l7
    obtain ⟨x1, -, -⟩ := tr_wf hP hw hh n X hX
    rw [b208_99]
    simp only [show ¬ ((1 : Int32) = 0) by decide, if_false]
    apply m181 hP hL hm20 hr x1 (CM_fr fr2 hx1) hd2
    intro f3 G3 J3 hd3 fr3 _
    rw [b208_111]
    simp only [show ¬ ((1 : Int32) = 0) by decide, if_false]
    rw [m182 hP (wfS_wk hP m X x1).1.1 (CM_fr (FRm_tr fr2 fr3) hx1).1 hd3]
    apply last f3 G3 J3 (FRm_tr fr2 fr3)
    unfold coV
    rw [hX]
    simp only
    rw [← (co_bd (m := m) hP hw hoc hh hX).2.2]
  · intro f2 G2 J2 fr2 hX l6 l7
    rw [b208_99]
    simp only [if_true]
    rw [b208_111]
    simp only [if_true]
    apply last f2 G2 J2 fr2
    unfold coV
    rw [hX]
end CX6
