variable {scr : List Int32}
-- ===== the model's round: the loop =====
section RT
variable {f G f' G' f1 G1 f2 G2 : Nat → Nat → Int32} {J J' J1 J2 : Nat → Nat → Int64} {c : Value} {d : Nat} {P : Pn} {D : Dy} {B : Nat → Nat} {L : Lw}
def FRr (f G : Nat → Nat → Int32) (J : Nat → Nat → Int64) (f' G' : Nat → Nat → Int32) (J' : Nat → Nat → Int64) : Prop :=
  (∀ o k, ¬ (o = 125 ∧ (k = 18 ∨ k = 40)) → f' o k = f o k) ∧ (∀ q k, q ≠ 135 → q ≠ 136 → q ≠ 142 → q ≠ 153 → q ≠ 157 → ¬ (q = 126 ∧ k = 4) → G' q k = G q k) ∧ (∀ q k, q ≠ 151 → q ≠ 152 → J' q k = J q k)
theorem FRr_rf : FRr f G J f G J := ⟨fun _ _ _ => rfl, fun _ _ _ _ _ _ _ _ => rfl, fun _ _ _ _ => rfl⟩
theorem FRr_tr (h : FRr f G J f1 G1 J1) (h' : FRr f1 G1 J1 f2 G2 J2) : FRr f G J f2 G2 J2 :=
  ⟨fun o k a => (h'.1 o k a).trans (h.1 o k a), fun q k a b c d e g => (h'.2.1 q k a b c d e g).trans (h.2.1 q k a b c d e g), fun q k a b => (h'.2.2 q k a b).trans (h.2.2 q k a b)⟩
theorem FRr_m (h : FRm f G J f1 G1 J1) : FRr f G J f1 G1 J1 := ⟨h.1, fun q k a b c d _ e => h.2.1 q k a b c d e, h.2.2⟩
def RX (S : Nat → Nat → Option Nat) (first again : Int32) : Prop := (∃ t e, 1 ≤ t ∧ t ≤ 400 ∧ e < t ∧ eqB (S e) (S t) = true ∧ (∀ u v, u < t → v < u → eqB (S v) (S u) = false) ∧ first = nI e ∧ again = nI t) ∨ ((∀ u v, u ≤ 400 → v < u → eqB (S v) (S u) = false) ∧ first = -2 ∧ again = -2)
theorem e_loop (hP : wfP P) (hms : MS G P) {S : Nat → Nat → Option Nat} (hS : ∀ k w r, S k w = some r → r < 144) (hN : ∀ k w, pPe P ≤ w → w < 12 → S k w = none) {t : Nat} {l1 l2 : Int32} (ht : t ≤ 400) (h157 : ∀ k, k ≤ t → ∀ w, w < pPe P → G 157 (12 * k + w) = oI (S k w)) {K : Option Value → aH → Prop} (h0 : (∀ v, v < t → eqB (S v) (S t) = false) → ∀ l6 : Int32, E scr false (d + 1) 198 125 [.ref 125, .int l1, .int l2, .int (-2), .int (-2), .int (nI t), .int l6] [] (wo f G J c) K) (h1 : ∀ e, e < t → eqB (S e) (S t) = true → ∀ l6 : Int32, E scr false (d + 1) 198 125 [.ref 125, .int l1, .int l2, .int (nI e), .int (nI t), .int (nI t), .int l6] [] (wo f G J c) K) : ∀ m e, t - e = m → e ≤ t → (∀ v, v < e → eqB (S v) (S t) = false) → E scr false (d + 1) 198 88 [.ref 125, .int l1, .int l2, .int (-2), .int (-2), .int (nI t), .int (nI e)] [] (wo f G J c) K := by
  intro m
  induction m with
  | zero =>
    intro e hm he hno
    have ee : e = t := by omega
    subst ee
    rw [b198_88]
    simp (disch := omega) only [NC, Nat.le_refl, if_true]
    exact h0 hno _
  | succ m ih =>
    intro e hm he hno
    rw [b198_88]
    simp (disch := omega) only [NC, show ¬ t ≤ e by omega, if_false, if_true]
    rw [m197 hP hms hS hN (by omega) ht (fun k hk w hw => h157 k (by omega) w hw)]
    cases heq : eqB (S e) (S t) with
    | false =>
      simp only [bz_f, if_true]
      rw [b198_119, nI_1]
      apply ih (e + 1) (by omega) (by omega)
      intro v hv
      by_cases ev : v = e
      · rw [ev]; exact heq
      · exact hno v (by omega)
    | true =>
      simp only [bz_t, show ¬ ((1 : Int32) = 0) by decide, if_false]
      rw [b198_119, nI_1, b198_88]
      have ne : ¬ nI e = -2 := fun h => nI_pos (show e < 2 ^ 31 by omega) (by rw [h]; decide)
      simp only [ne, if_false, ite_self]
      exact h1 e (by omega) heq _
theorem mr_loop {r : Nat} {l2 : Int32} (hP : wfP P) (hL : wfLw L) (hr : r < 6) (hw : wfS P D) {K : Option Value → aH → Prop} : ∀ m t, 401 - t = m → t ≤ 401 → ∀ f G J, CM G r P B L → MD G P (wkD P B L t D) → (∀ k, k < t → ∀ w, w < pPe P → G 157 (12 * k + w) = oI (dPl (wkD P B L k D) w)) → (∀ u v, u < t → v < u → eqB (dPl (wkD P B L v D)) (dPl (wkD P B L u D)) = false) → (∀ f' G' J' first again, FRr f G J f' G' J' → RX (fun k => dPl (wkD P B L k D)) first again → ∀ (l5 : Int32) (l6 : Value), E scr false (d + 8) 198 136 [.ref 125, .int (nI r), .int l2, .int first, .int again, .int l5, l6] [] (wo f' G' J' c) K) → ∀ l6 : Value, E scr false (d + 8) 198 35 [.ref 125, .int (nI r), .int l2, .int (-2), .int (-2), .int (nI t), l6] [] (wo f G J c) K := by
  have p12 := hP.2.2.2.1
  have hS : ∀ k w r, dPl (wkD P B L k D) w = some r → r < 144 := fun k w r h => (wfL_lt hP (wfS_wk hP k D hw).1.1 h).2.1
  have hN : ∀ k w, pPe P ≤ w → w < 12 → dPl (wkD P B L k D) w = none := by
    intro k w h1 h2
    cases hx : dPl (wkD P B L k D) w with
    | none => rfl
    | some q =>
      have := (wfL_lt hP (wfS_wk (B := B) (L := L) hP k D hw).1.1 hx).2.2.2
      unfold exB at this
      simp only [Bool.or_eq_true, Bool.and_eq_true, decide_eq_true_eq] at this
      omega
  intro m
  induction m with
  | zero =>
    intro t hm ht f G J hx hd h157 hno hK l6
    rw [b198_35]
    simp (disch := omega) only [show (400 : Int32) = nI 400 from rfl, NC, show 400 < t by omega, if_true]
    exact hK f G J _ _ FRr_rf (Or.inr ⟨fun u v hu hv => hno u v (by omega) hv, rfl, rfl⟩) _ _
  | succ m ih =>
    intro t hm ht f G J hx hd h157 hno hK l6
    rw [b198_35]
    simp (disch := omega) only [show (400 : Int32) = nI 400 from rfl, NC, show ¬ 400 < t by omega, if_false, if_true]
    rw [show (0 : Int32) = nI 0 from rfl]
    apply st_loop (by omega) 12 0 rfl (by omega)
    intro G1 a1 a2 a3
    have fr1 : FRr f G J f G1 J := ⟨fun _ _ _ => rfl, fun q k _ _ _ _ a _ => a3 q k a, fun _ _ _ _ => rfl⟩
    have hx1 : CM G1 r P B L := CM_cg (fun q k h => a3 q k (by omega)) hx
    have hd1 : MD G1 P (wkD P B L t D) := MD_cg (a3 126 4 (by decide)) (fun k => ⟨a3 135 k (by decide), a3 136 k (by decide)⟩) hd
    have h157b : ∀ k, k ≤ t → ∀ w, w < pPe P → G1 157 (12 * k + w) = oI (dPl (wkD P B L k D) w) := by
      intro k hk w hw'
      by_cases e : k = t
      · subst e
        rw [a1 w (by omega) (by omega)]
        exact hd.2.1 w (by simp [exB, hw'])
      · rw [a2 (12 * k + w) (by omega)]
        exact h157 k (by omega) w hw'
    rw [show (0 : Int32) = nI 0 from rfl]
    refine e_loop (S := fun k => dPl (wkD P B L k D)) hP hx1.1 hS hN (by omega) h157b ?_ ?_ t 0 rfl (by omega) (fun v hv => by omega)
    · intro hno2 l6'
      rw [b198_125]
      apply m180 hP hL hr (wfS_wk hP t D hw).1.1 hx1 hd1
      intro f2 G2 J2 hd2 hfr2 _ _
      rw [nI_1]
      apply ih (t + 1) (by omega) (by omega) f2 G2 J2 (CM_fr hfr2 hx1) (by rw [wk_succ]; exact hd2) _ _ _ _
      · intro k hk w hw'
        rw [hfr2.2.1 157 _ (by decide) (by decide) (by decide) (by decide) (by omega)]
        exact h157b k (by omega) w hw'
      · intro u v hu hv
        by_cases e : u = t
        · subst e; exact hno2 v hv
        · exact hno u v (by omega) hv
      · intro f3 G3 J3 first again fr3 hrx l5 l6
        exact hK f3 G3 J3 first again (FRr_tr fr1 (FRr_tr (FRr_m hfr2) fr3)) hrx l5 l6
    · intro e he heq l6'
      rw [b198_125]
      apply m180 hP hL hr (wfS_wk hP t D hw).1.1 hx1 hd1
      intro f2 G2 J2 hd2 hfr2 _ _
      rw [b198_35]
      have ne : ¬ nI e = -2 := fun h => nI_pos (show e < 2 ^ 31 by omega) (by rw [h]; decide)
      simp only [ne, if_false, ite_self]
      exact hK f2 G2 J2 _ _ (FRr_tr fr1 (FRr_m hfr2)) (Or.inl ⟨t, e, by omega, by omega, he, heq, hno, rfl, rfl⟩) _ _
theorem round_35 {r what : Nat} (hP : wfP P) (hL : wfLw L) (hr : r < 6) (hw : wfS P D) (hwh : what < 2) (hx : CM G r P B L) (hd : MD G P D) {K : Option Value → aH → Prop} (hK : ∀ f' G' J' ans, FQ f G J f' G' J' → (∀ k, G' 140 k = G 140 k) → RA (fun k => dPl (wkD P B L k D)) what ans → K (some (.int ans)) (wo f' G' J' c)) : E scr false (d + 8) 198 35 [.ref 125, .int (nI r), .int (nI what), .int (-2), .int (-2), .int 0, .null] [] (wo f (kpG G) J c) K := by
  rw [show (0 : Int32) = nI 0 from rfl]
  apply mr_loop hP hL hr hw 401 0 (by omega) (by omega) f (kpG G) J (CM_kp hx) (MD_kp hd) (fun k hk => by omega) (fun u v hu => by omega)
  intro f2 G2 J2 first again fr2 hrx l5 l6
  have kk : ∀ k, G2 154 k = G 126 k ∧ G2 155 k = G 135 k ∧ G2 156 k = G 136 k := by
    intro k
    rw [fr2.2.1 154 k (by decide) (by decide) (by decide) (by decide) (by decide) (by omega), fr2.2.1 155 k (by decide) (by decide) (by decide) (by decide) (by decide) (by omega), fr2.2.1 156 k (by decide) (by decide) (by decide) (by decide) (by decide) (by omega)]
    rw [kp_at, kp_at, kp_at]
    exact ⟨rfl, rfl, rfl⟩
  have oth : ∀ q k, q ≠ 126 → q ≠ 135 → q ≠ 136 → q ≠ 142 → ¬ (153 ≤ q ∧ q ≤ 164) → G2 q k = G q k := by
    intro q k b1 b2 b3 b4 b5
    rw [fr2.2.1 q k b2 b3 b4 (by omega) (by omega) (by omega), kp_n (by omega)]
  have fq : FQ f G J f2 (lbG G2) J2 := FQ_end fr2.1 fr2.2.2 kk (fun q k b1 b2 b3 _ _ b6 b7 => oth q k b1 b2 b3 b6 b7)
  have h140 : ∀ k, lbG G2 140 k = G 140 k := fun k => by rw [lb_140 (by decide) (by decide) (by decide)]; exact oth 140 k (by decide) (by decide) (by decide) (by decide) (by omega)
  rw [b198_136]
  simp only [m194]
  rcases hrx with ⟨t, e, a1, a2, a3, a4, a5, a6, a7⟩ | ⟨a1, a2, a3⟩
  · have ne : ¬ nI e = -2 := fun h => nI_pos (show e < 2 ^ 31 by omega) (by rw [h]; decide)
    have fin := hK f2 (lbG G2) J2 (if what = 0 then nI e else nI (t - e)) fq h140 (Or.inl ⟨t, e, a1, a2, a3, a4, a5, rfl⟩)
    rw [a6, a7]
    simp (disch := omega) only [ne, if_false, NC]
    by_cases h0 : what = 0
    · rw [if_pos h0] at fin ⊢; exact fin
    · rw [if_neg h0] at fin ⊢
      rw [pk_sub (by omega)]
      exact fin
  · rw [a2]
    simp only [if_true]
    exact hK f2 (lbG G2) J2 _ fq h140 (Or.inr ⟨a1, rfl⟩)
end RT
