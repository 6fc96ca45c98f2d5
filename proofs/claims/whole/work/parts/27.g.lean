variable {scr : List Int32}
section CU
variable {f G f' G' : Nat → Nat → Int32} {J J' : Nat → Nat → Int64} {c : Value} {d p q : Nat} {P : Pn} {D : Dy} {B : Nat → Nat} {L : Lw}
theorem tr_none {code n i : Nat} (h : trA P B L D code n i = none) : ∀ k, trA P B L D code n (i + k) = none := by
  intro k
  induction k with
  | zero => exact h
  | succ k ih =>
    rw [show i + (k + 1) = (i + k) + 1 by omega]
    simp only [trA]
    rw [ih]
theorem ch_lt {code i n : Nat} : chO code i n < 9 := Nat.mod_lt _ (by decide)
theorem try_loop {hm code n m : Nat} (hq : isLw q) (hP : wfP P) (hL : wfLw L) (hw : wfS P D) (hh : dPl D 12 = some hm) (hc : code < 2 ^ 31) (hn : n ≤ 3) (hm20 : m < 2 ^ 20) {K : Option Value → aH → Prop} : ∀ u i, n - i = u → i ≤ n → ∀ f G J X, trA P B L D code n i = some X → KC f G J q P B L D → RS f G 60 P → RD f G 60 X → (∀ f' G' J', FP f G J f' G' J' → KC f' G' J' q P B L D → RS f' G' 60 P → K (some (.int (coV P B L D code n m))) (wo f' G' J' c)) → ∀ l6 : Value, E scr false (d + 5) 41 14 [.ref 59, .ref q, .int (nI code), .int (nI n), .int (nI m), .int (nI i), l6] [] (wo f G J c) K := by
  intro u
  induction u with
  | zero =>
    intro i hu hi f G J X hX hk hs hd hK l6
    have e : i = n := by omega
    subst e
    obtain ⟨x1, -, -⟩ := tr_wf hP hw hh i X hX
    rw [b41_14]
    simp (disch := omega) only [NC, Nat.le_refl, if_true, pLr scr]
    apply w78 isS60 hq hP hL x1 hd (KC_x hk hs) hm20
    intro f2 G2 J2 hd2 hc2 hfr2 _
    have fp2 : FP f G J f2 G2 J2 := FP_60 hfr2
    have fin := hK f2 G2 J2 fp2 (KC_fp hq fp2 hc2 (TG_fr isS60 hfr2 hk.2.2.2.1) hk) (RS_fr isS60 hfr2 hs)
    unfold coV at fin
    rw [hX] at fin
    simp only [pLr scr, sC scr isS60, hd2.2.1]
    exact fin
  | succ u ih =>
    intro i hu hi f G J X hX hk hs hd hK l6
    obtain ⟨x1, ⟨t, xt⟩, -⟩ := tr_wf hP hw hh i X hX
    have c9 := ch_lt (code := code) (i := i) (n := n)
    have es : trA P B L D code n (i + 1) = if chO code i n = 8 then some (stD P B L X) else match goO P (dPl X) 12 (chO code i n) with
      | none => none
      | some r => some (stD P B L (ptD X 12 r)) := by
      simp only [trA, hX]
      rfl
    rw [b41_14, w42 hc (by omega) (by omega)]
    simp (disch := omega) only [show (8 : Int32) = nI 8 from rfl, NC, show ¬ n ≤ i by omega, if_false]
    have step : ∀ G1 Y (l6 : Int32), trA P B L D code n (i + 1) = some (stD P B L Y) → wfS P Y → RD f G1 60 Y → RS f G1 60 P → FP f G J f G1 J → KC f G1 J q P B L D → E scr false (d + 4 + 1) 41 52 [.ref 59, .ref q, .int (nI code), .int (nI n), .int (nI m), .int (nI i), .int l6] [] (wo f G1 J c) K := by
      intro G1 Y l6 hY wY dY sY fpY kY
      rw [b41_52]
      simp only [pLr scr]
      apply w79 isS60 hq hP hL wY dY (KC_x kY sY)
      intro f2 G2 J2 hd2 hc2 hfr2 _ _
      have fp2 : FP f G J f2 G2 J2 := FP_tr fpY (FP_60 hfr2)
      have hk2 : KC f2 G2 J2 q P B L D := KC_fp hq fp2 hc2 (TG_fr isS60 hfr2 kY.2.2.2.1) hk
      rw [nI_1]
      apply ih (i + 1) (by omega) (by omega) f2 G2 J2 _ hY hk2 (RS_fr isS60 hfr2 sY) hd2
      intro f3 G3 J3 fp3 hk3 hs3
      exact hK f3 G3 J3 (FP_tr fp2 fp3) hk3 hs3
    by_cases h8 : chO code i n = 8
    · rw [if_pos h8] at es
      rw [if_pos (show 8 ≤ chO code i n by omega)]
      exact step G X _ es x1 hd hs FP_rf hk
    · rw [if_neg h8] at es
      rw [if_neg (show ¬ 8 ≤ chO code i n by omega)]
      simp only [pLr scr]
      rw [show (12 : Int32) = nI 12 from rfl, w61 isS60 hP x1.1 hs hd xt (by omega)]
      cases hg : goO P (dPl X) 12 (chO code i n) with
      | none =>
        rw [hg] at es
        have hn2 := tr_none es (n - (i + 1))
        rw [show i + 1 + (n - (i + 1)) = n by omega] at hn2
        have fin := hK f G J FP_rf hk hs
        unfold coV at fin
        rw [hn2] at fin
        simp only [Option.isSome_none, bz_f, if_true, mvG]
        exact fin
      | some r =>
        rw [hg] at es
        obtain ⟨g1, g2, g3, g4, -⟩ := go_wf hP x1 hg
        simp only [Option.isSome_some, bz_t, show ¬ ((1 : Int32) = 0) by decide, if_false, mvG]
        have hpt : ∀ v k, v ≠ 62 → v ≠ 63 → ptG G 60 12 (dPl X 12) r v k = G v k := fun v k a b => pt_fr v k a b
        have fp1 : FP f G J f (ptG G 60 12 (dPl X 12) r) J := ⟨fun _ _ _ _ _ => rfl, fun v k a _ _ _ _ _ _ => hpt v k (by omega) (by omega), fun _ _ _ _ _ _ _ => rfl⟩
        apply step _ (ptD X 12 r) _ es g1 (RD_put hd x1.1.2 (by omega) g4) _ fp1 (KC_fp hq fp1 hk.2.2.1 (fun v hv => by rw [hpt 51 v (by decide) (by decide)]; exact hk.2.2.2.1 v hv) hk)
        unfold RS at hs ⊢
        simp only [hpt (60 + 1) _ (by decide) (by decide), hpt (60 + 4) _ (by decide) (by decide), hpt (60 + 5) _ (by decide) (by decide)]
        exact hs
theorem w41 {hm code n m : Nat} (hq : isLw q) (hP : wfP P) (hL : wfLw L) (hw : wfS P D) (hh : dPl D 12 = some hm) (hc : code < 2 ^ 31) (hn : n ≤ 3) (hm20 : m < 2 ^ 20) (hk : KC f G J q P B L D) (hs : RS f G 60 P) {T : Int32 → aH → Prop} (hT : ∀ f' G' J', FP f G J f' G' J' → KC f' G' J' q P B L D → RS f' G' 60 P → T (coV P B L D code n m) (wo f' G' J' c)) : vI scr (d + 5) 41 [.ref 59, .ref q, .int (nI code), .int (nI n), .int (nI m)] (wo f G J c) T := by
  unfold vI
  rw [u41_ok, en41, b41_0]
  simp only [pLr scr, true_and]
  apply cpP hq hk hs
  intro f1 G1 hs1 hd1 fp1 hk1 _ _
  rw [show (0 : Int32) = nI 0 from rfl]
  apply try_loop hq hP hL hw hh hc hn hm20 n 0 rfl (by omega) f1 G1 J D rfl hk1 hs1 hd1
  intro f2 G2 J2 fp2 hk2 hs2
  exact ⟨_, rfl, hT f2 G2 J2 (FP_tr fp1 fp2) hk2 hs2⟩
end CU
