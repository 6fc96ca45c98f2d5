variable {scr : List Int32}
-- ===== the planner =====
section PB
variable {f G f' G' f1 G1 f2 G2 : Nat → Nat → Int32} {J J' J1 J2 : Nat → Nat → Int64} {c : Value} {d p q : Nat} {P : Pn} {D : Dy} {B : Nat → Nat} {L : Lw}
def FP (f G : Nat → Nat → Int32) (J : Nat → Nat → Int64) (f' G' : Nat → Nat → Int32) (J' : Nat → Nat → Int64) : Prop :=
  (∀ o k, o ≠ 55 → o ≠ 60 → o ≠ 70 → f' o k = f o k) ∧ (∀ r k, ¬ (61 ≤ r ∧ r ≤ 69) → ¬ (71 ≤ r ∧ r ≤ 79) → r ≠ 51 → r ≠ 52 → r ≠ 57 → r ≠ 58 → r ≠ 82 → G' r k = G r k) ∧ (∀ q k, q ≠ 53 → q ≠ 54 → q ≠ 56 → q ≠ 80 → q ≠ 81 → J' q k = J q k)
theorem FP_rf : FP f G J f G J := ⟨fun _ _ _ _ _ => rfl, fun _ _ _ _ _ _ _ _ _ => rfl, fun _ _ _ _ _ _ _ => rfl⟩
theorem FP_tr (h : FP f G J f1 G1 J1) (h' : FP f1 G1 J1 f2 G2 J2) : FP f G J f2 G2 J2 :=
  ⟨fun o k a b c => (h'.1 o k a b c).trans (h.1 o k a b c), fun r k a b c d e g i => (h'.2.1 r k a b c d e g i).trans (h.2.1 r k a b c d e g i), fun q k a b c d e => (h'.2.2 q k a b c d e).trans (h.2.2 q k a b c d e)⟩
theorem FP_60 (h : FR 60 f G J f1 G1 J1) : FP f G J f1 G1 J1 :=
  ⟨fun o k a b _ => h.1 o k a (fun e => b e.1), fun r k a _ _ _ d e _ => h.2.1 r k (by omega) (by omega) (by omega) d e, fun q k a b c _ _ => h.2.2 q k a b c⟩
theorem FP_70 (h : FR 70 f G J f1 G1 J1) : FP f G J f1 G1 J1 :=
  ⟨fun o k a _ b => h.1 o k a (fun e => b e.1), fun r k _ a _ _ d e _ => h.2.1 r k (by omega) (by omega) (by omega) d e, fun q k a b c _ _ => h.2.2 q k a b c⟩
/-- what the planner wants: the scene now, and a law -/
def KC (f G : Nat → Nat → Int32) (J : Nat → Nat → Int64) (q : Nat) (P : Pn) (B : Nat → Nat) (L : Lw) (D : Dy) : Prop := RS f G 3 P ∧ RD f G 3 D ∧ CK J P ∧ (∀ q, q < 144 → G 51 q = nI (B q)) ∧ LRl f G q L
theorem isS3 : isSc 3 := Or.inl rfl
theorem isS60 : isSc 60 := Or.inr (Or.inr (Or.inl rfl))
theorem isS70 : isSc 70 := Or.inr (Or.inr (Or.inr (Or.inl rfl)))
theorem RS_fp (h : FP f G J f1 G1 J1) (hs : RS f G 3 P) : RS f1 G1 3 P := by
  obtain ⟨h1, h2, -⟩ := h
  have e : ∀ k, f1 3 k = f 3 k := fun k => h1 3 k (by decide) (by decide) (by decide)
  have e1 : ∀ i, i < 13 → ∀ k, G1 i k = G i k := fun i hi k => h2 i k (by omega) (by omega) (by omega) (by omega) (by omega) (by omega) (by omega)
  unfold RS at hs ⊢
  simp only [e, e1 (3 + 1) (by omega), e1 (3 + 4) (by omega), e1 (3 + 5) (by omega)]
  exact hs
theorem RD_fp (h : FP f G J f1 G1 J1) (hd : RD f G 3 D) : RD f1 G1 3 D := by
  obtain ⟨h1, h2, -⟩ := h
  have e1 : ∀ i, i < 13 → ∀ k, G1 i k = G i k := fun i hi k => h2 i k (by omega) (by omega) (by omega) (by omega) (by omega) (by omega) (by omega)
  exact RD_cg (h1 3 5 (by decide) (by decide) (by decide)) (h1 3 6 (by decide) (by decide) (by decide)) (e1 5 (by omega)) (e1 6 (by omega)) (e1 9 (by omega)) hd
theorem LR_fp (hq : isLw q) (h : FP f G J f1 G1 J1) (hL : LRl f G q L) : LRl f1 G1 q L := by
  obtain ⟨h1, h2, -⟩ := h
  have hq2 : 26 ≤ q ∧ q ≤ 46 := by rcases hq with rfl | rfl | rfl | rfl | rfl | rfl <;> omega
  have e0 : f1 q 0 = f q 0 := h1 q 0 (by omega) (by omega) (by omega)
  have e : ∀ i, i < 4 → ∀ k, G1 (q + i) k = G (q + i) k := fun i hi k => h2 (q + i) k (by omega) (by omega) (by omega) (by omega) (by omega) (by omega) (by omega)
  unfold LRl at hL ⊢
  simp only [e0, e 1 (by omega), e 2 (by omega), e 3 (by omega)]
  exact hL
theorem KC_fp (hq : isLw q) (h : FP f G J f1 G1 J1) (hc : CK J1 P) (hB : ∀ q, q < 144 → G1 51 q = nI (B q)) (hk : KC f G J q P B L D) : KC f1 G1 J1 q P B L D := ⟨RS_fp h hk.1, RD_fp h hk.2.1, hc, hB, LR_fp hq h hk.2.2.2.2⟩
theorem RS_cp {p' : Nat} (hf : ∀ k, k < 8 → f' p' k = f p k) (hG : ∀ i k, 1 ≤ i → i ≤ 9 → G' (p' + i) k = G (p + i) k) (hs : RS f G p P) : RS f' G' p' P := by
  unfold RS at hs ⊢
  simp only [hf 0 (by omega), hf 1 (by omega), hf 2 (by omega), hf 3 (by omega), hf 4 (by omega), hG 1 _ (by omega) (by omega), hG 4 _ (by omega) (by omega), hG 5 _ (by omega) (by omega)]
  exact hs
theorem RD_cp {p' : Nat} (hf : ∀ k, k < 8 → f' p' k = f p k) (hG : ∀ i k, 1 ≤ i → i ≤ 9 → G' (p' + i) k = G (p + i) k) (hd : RD f G p D) : RD f' G' p' D := by
  unfold RD at hd ⊢
  simp only [hf 5 (by omega), hf 6 (by omega), hG 2 _ (by omega) (by omega), hG 3 _ (by omega) (by omega), hG 6 _ (by omega) (by omega)]
  exact hd
/-- now is copied to the trial -/
theorem cpT (hq : isLw q) (hk : KC f G J q P B L D) {T : aH → Prop} (hT : ∀ f' G', RS f' G' 60 P → RD f' G' 60 D → FP f G J f' G' J → KC f' G' J q P B L D → (∀ r k, ¬ (61 ≤ r ∧ r ≤ 69) → G' r k = G r k) → (∀ o k, o ≠ 60 → f' o k = f o k) → T (wo f' G' J c)) : vV scr (d + 2) 51 [.ref 60, .ref 3] (wo f G J c) T := by
  apply w51 isS60 isS3 (by decide) hk.1 hk.2.1
  intro f' G' h1 h2 h3 h4
  have fp : FP f G J f' G' J := ⟨fun o k _ a _ => h2 o k a, fun r k a _ _ _ _ _ _ => h4 r k a, fun _ _ _ _ _ _ _ => rfl⟩
  exact hT f' G' (RS_cp h1 h3 hk.1) (RD_cp h1 h3 hk.2.1) fp (KC_fp hq fp hk.2.2.1 (fun q hq => by rw [h4 51 q (by omega)]; exact hk.2.2.2.1 q hq) hk) h4 h2
theorem cpU (hq : isLw q) (hk : KC f G J q P B L D) {T : aH → Prop} (hT : ∀ f' G', RS f' G' 70 P → RD f' G' 70 D → FP f G J f' G' J → KC f' G' J q P B L D → (∀ r k, ¬ (71 ≤ r ∧ r ≤ 79) → G' r k = G r k) → (∀ o k, o ≠ 70 → f' o k = f o k) → T (wo f' G' J c)) : vV scr (d + 2) 51 [.ref 70, .ref 3] (wo f G J c) T := by
  apply w51 isS70 isS3 (by decide) hk.1 hk.2.1
  intro f' G' h1 h2 h3 h4
  have fp : FP f G J f' G' J := ⟨fun o k _ _ a => h2 o k a, fun r k _ a _ _ _ _ _ => h4 r k a, fun _ _ _ _ _ _ _ => rfl⟩
  exact hT f' G' (RS_cp h1 h3 hk.1) (RD_cp h1 h3 hk.2.1) fp (KC_fp hq fp hk.2.2.1 (fun q hq => by rw [h4 51 q (by omega)]; exact hk.2.2.2.1 q hq) hk) h4 h2
theorem KC_x (hk : KC f G J q P B L D) (hs : RS f G p P) : CX f G J p q P B L := ⟨hs, hk.2.2.1, hk.2.2.2.1, hk.2.2.2.2⟩
theorem w53 (hp : isSc p) (hP : wfP P) (hs : RS f G p P) {w : Nat} (hw : w < 2 ^ 31) {T : Int32 → aH → Prop} : vI scr d 53 [.ref p, .int (nI w)] (wo f G J c) T = T (bz (decide (w < pPe P))) (wo f G J c) := by
  have p12 := hP.2.2.2.1
  unfold wo
  rw [sp53 hp, hs.1.2.2.2.1]
  congr 2
  unfold pB
  rw [show (12 : Int32) = nI 12 from rfl, Bool.eq_iff_iff]
  have h1 := nI_leI (a := pPe P) (b := w) (by omega) hw
  have h2 := nI_leI (a := 12) (b := w) (by omega) hw
  simp only [h1, h2, nI_pos hw]
  simp
  omega
/-- who is out stays out -/
theorem lg_none {w v : Nat} (h : dPl D v = none) : dPl (lgA P D w) v = none := by
  unfold lgA
  split
  · exact h
  · split
    · show plU (dPl D) w none v = none
      unfold plU
      split
      · rfl
      · exact h
    · exact h
theorem mv_none {w v : Nat} {o : Option Nat} (h : dPl D v = none) : dPl (mvD P D w o) v = none := by
  unfold mvD
  split
  · exact h
  · rename_i n hn
    obtain ⟨⟨h', hw⟩, -⟩ := mvA_some hn
    show plU (dPl D) w (some n) v = none
    unfold plU
    rw [if_neg (fun e => by rw [e, hw] at h; cases h)]
    exact h
theorem sp_none {v : Nat} (h : dPl D v = none) : ∀ m, dPl (spD P B L D m) v = none := by
  intro m
  induction m with
  | zero => exact h
  | succ m ih => exact lg_none (mv_none ih)
theorem wk_none {v : Nat} : ∀ n D, dPl D v = none → dPl (wkD P B L n D) v = none := by
  intro n
  induction n with
  | zero => intro D h; exact h
  | succ n ih => intro D h; exact ih _ (sp_none (D := inS D) h (pPe P))
theorem spW_le {m : Nat} : spW P B L D m ≤ m := by
  induction m with
  | zero => exact Nat.le_refl _
  | succ m ih => simp only [spW]; split <;> omega
theorem wkW_le {n : Nat} : wkW P B L n D ≤ pPe P := by
  induction n generalizing D with
  | zero => exact Nat.zero_le _
  | succ n ih =>
    simp only [wkW]
    split
    · exact spW_le
    · exact ih
def fsA (P : Pn) (B : Nat → Nat) (L : Lw) (D : Dy) (n what : Nat) : Int32 := if what = 0 then nI (dOc (wkD P B L n D)) else if what = 1 then nI (wkW P B L n D) else match dPl (wkD P B L n D) (what - 2) with
  | some _ => -2
  | none => match dPl D (what - 2) with
    | none => 0
    | some _ => dOu (wkD P B L n D) (what - 2) - dSt D
theorem w27 (hq : isLw q) (hP : wfP P) (hL : wfLw L) (hw : wfS P D) (hk : KC f G J q P B L D) {n what : Nat} (hn : n < 2 ^ 20) (hwh : what < 2 ∨ what - 2 < pPe P) {T : Int32 → aH → Prop} (hT : ∀ f' G' J', FP f G J f' G' J' → KC f' G' J' q P B L D → T (fsA P B L D n what) (wo f' G' J' c)) : vI scr (d + 5) 27 [.ref 59, .ref q, .int (nI n), .int (nI what)] (wo f G J c) T := by
  have p12 := hP.2.2.2.1
  unfold vI
  rw [u27_ok, en27, b27_0]
  simp only [pLr scr, true_and]
  apply cpT hq hk
  intro f1 G1 hs1 hd1 fp1 hk1 _ _
  simp only [pLr scr]
  apply w78 isS60 hq hP hL hw hd1 (KC_x hk1 hs1) hn
  intro f2 G2 J2 hd2 hc2 hfr2 h7
  have fp2 : FP f G J f2 G2 J2 := FP_tr fp1 (FP_60 hfr2)
  have hk2 : KC f2 G2 J2 q P B L D := KC_fp hq fp2 hc2 (TG_fr isS60 hfr2 hk1.2.2.2.1) hk
  have fin := hT f2 G2 J2 fp2 hk2
  unfold fsA at fin
  simp (disch := omega) only [NC]
  by_cases h0 : what = 0
  · rw [if_pos h0]
    rw [if_pos h0] at fin
    simp only [pLr scr, sC scr isS60, hd2.2.1, ex_i]
    exact fin
  · rw [if_neg h0]
    rw [if_neg h0] at fin
    by_cases h1 : what = 1
    · rw [if_pos h1]
      rw [if_pos h1] at fin
      simp only [pLr scr, wK scr, h7, ex_i]
      exact fin
    · rw [if_neg h1]
      rw [if_neg h1] at fin
      have hp2 : what - 2 < pPe P := by omega
      have e1 := hd2.2.2.2.1 (what - 2) (by omega)
      have e2 := hk2.2.1.2.2.2.1 (what - 2) (by omega)
      have e3 := hd2.2.2.2.2 (what - 2) (by omega)
      have e4 := hk2.2.1.1
      rw [show nI what - 2 = nI (what - 2) from pk_sub (b := 2) (by omega)]
      simp (disch := omega) only [pLr scr]
      rw [w53 isS3 hP hk2.1 (by omega)]
      simp (disch := omega) only [hp2, decide_true, bz_t, show ¬ ((1 : Int32) = 0) by decide, if_false, pLr scr, sC scr isS60, sC scr isS3, e1, e2, e3, e4]
      have hl2 := (wfS_wk (B := B) (L := L) hP n D hw).1.1
      cases ho : dPl (wkD P B L n D) (what - 2) with
      | some t =>
        rw [ho] at fin
        have := (wfL_lt hP hl2 ho).2.1
        simp (disch := omega) only [oI_s, NC, if_false, ex_i]
        exact fin
      | none =>
        rw [ho] at fin
        simp only [oI_n, neg1_lt, if_true]
        cases ho2 : dPl D (what - 2) with
        | none =>
          rw [ho2] at fin
          simp only [oI_n, show ¬ ((0 : Int32) ≤ -1) by decide, if_false, ex_i]
          exact fin
        | some t =>
          rw [ho2] at fin
          have := (wfL_lt hP hw.1 ho2).2.1
          simp (disch := omega) only [oI_s, NC, if_true, ex_i]
          exact fin
-- ===== one taken away =====
def lfD (D : Dy) (w : Nat) : Dy := (plU (dPl D) w none, D.2)
theorem wfS_lf (hw : wfS P D) {w : Nat} : wfS P (lfD D w) := by
  refine ⟨wfL_lift hw.1, ?_⟩
  have h2 := hw.2
  have : cnP (plU (dPl D) w none) (pPe P) ≤ cnP (dPl D) (pPe P) := by
    generalize pPe P = m
    induction m with
    | zero => exact Nat.le_refl _
    | succ m ih =>
      simp only [cnP]
      have : (if (plU (dPl D) w none m).isSome = true then 1 else 0) ≤ (if (dPl D m).isSome = true then 1 else 0) := by
        unfold plU
        by_cases e : m = w
        · simp [e]
        · simp [e]
      omega
  show dOc D + cnP (plU (dPl D) w none) (pPe P) ≤ 12
  omega
def elN (a b : Nat → Option Nat) (w m : Nat) : Nat := sm (fun v => tf (!decide (v = w) && !decide (a v = b v))) m
theorem elN_le {a b : Nat → Option Nat} {w m : Nat} : elN a b w m ≤ m := by
  unfold elN
  induction m with
  | zero => exact Nat.le_refl _
  | succ m ih =>
    simp only [sm]
    have : tf (!decide (m = w) && !decide (a m = b m)) ≤ 1 := by unfold tf; split <;> omega
    omega
theorem else_loop {l1 : Nat} {l3 : Int32} {a b : Nat → Option Nat} {w : Nat} (hw : w < 2 ^ 31) (ha : ∀ v t, a v = some t → t < 144) (hb : ∀ v t, b v = some t → t < 144) (h1 : ∀ v, v < 14 → G 63 v = oI (a v)) (h2 : ∀ v, v < 14 → G 73 v = oI (b v)) {K : Option Value → aH → Prop} : ∀ m k, 12 - k = m → k ≤ 12 → E scr false d 37 38 [.ref 59, .ref l1, .int (nI w), .int l3, .int (nI (elN a b w k)), .int (nI k)] [] (wo f G J c) K = K (some (.int (nI (elN a b w 12)))) (wo f G J c) := by
  intro m
  induction m with
  | zero =>
    intro k hm hk
    have e : k = 12 := by omega
    subst e
    rw [b37_38]
    simp (disch := omega) only [LI, NC, Nat.le_refl, if_true]
  | succ m ih =>
    intro k hm hk
    have es : elN a b w (k + 1) = elN a b w k + tf (!decide (k = w) && !decide (a k = b k)) := rfl
    have e1 := h1 k (by omega)
    have e2 := h2 k (by omega)
    have hi := oI_inj (o := a k) (o' := b k) (fun t ht => by have := ha k t ht; omega) (fun t ht => by have := hb k t ht; omega)
    rw [b37_38]
    simp (disch := omega) only [LI, NC, show ¬ 12 ≤ k by omega, if_false, pLr scr, sC scr isS60, sC scr isS70, show (60 + 3 : Nat) = 63 from rfl, show (70 + 3 : Nat) = 73 from rfl, e1, e2, hi]
    by_cases hkw : k = w
    · simp only [hkw, if_true]
      rw [b37_80, b37_81, Int32.add_zero, nI_1, ← ih (k + 1) (by omega) (by omega), es, hkw]
      simp [tf]
    · simp only [hkw, if_false]
      by_cases hab : a k = b k
      · simp only [hab, if_true]
        rw [b37_80, b37_81, Int32.add_zero, nI_1, ← ih (k + 1) (by omega) (by omega), es]
        simp [tf, hab]
      · simp only [hab, if_false]
        rw [b37_81, nI_1, nI_1, ← ih (k + 1) (by omega) (by omega), es]
        simp [tf, hab, hkw]
/-- how many stand elsewhere without him -/
def miN (P : Pn) (B : Nat → Nat) (L : Lw) (D : Dy) (n w : Nat) : Nat := elN (dPl (wkD P B L n (lfD D w))) (dPl (wkD P B L n D)) w 12
theorem RS_cgx (hf : ∀ k, f' p k = f p k) (hG : ∀ i, i < 10 → ∀ k, G' (p + i) k = G (p + i) k) (hs : RS f G p P) : RS f' G' p P := by
  unfold RS at hs ⊢
  simp only [hf, hG 1 (by omega), hG 4 (by omega), hG 5 (by omega)]
  exact hs
/-- the trial is laid as now is -/
theorem cpP (hq : isLw q) (hk : KC f G J q P B L D) (hs : RS f G 60 P) {T : aH → Prop} (hT : ∀ f' G', RS f' G' 60 P → RD f' G' 60 D → FP f G J f' G' J → KC f' G' J q P B L D → (∀ r k, r ≠ 62 → r ≠ 63 → r ≠ 66 → G' r k = G r k) → (∀ o k, ¬ (o = 60 ∧ (k = 5 ∨ k = 6)) → f' o k = f o k) → T (wo f' G' J c)) : vV scr (d + 1) 52 [.ref 60, .ref 3] (wo f G J c) T := by
  apply w52 isS60 isS3 (by decide) hk.1 hk.2.1
  intro f1 G1 h1 h2 h3 h4
  have h4' : ∀ r k, r ≠ 62 → r ≠ 63 → r ≠ 66 → G1 r k = G r k := h4
  have fp : FP f G J f1 G1 J := ⟨fun o k _ a _ => h2 o k (fun e => a e.1), fun r k a _ _ _ _ _ _ => h4' r k (by omega) (by omega) (by omega), fun _ _ _ _ _ _ _ => rfl⟩
  have hs1 : RS f1 G1 60 P := by
    unfold RS at hs ⊢
    simp only [h2 60 0 (by omega), h2 60 1 (by omega), h2 60 2 (by omega), h2 60 3 (by omega), h2 60 4 (by omega), h4' (60 + 1) _ (by decide) (by decide) (by decide), h4' (60 + 4) _ (by decide) (by decide) (by decide), h4' (60 + 5) _ (by decide) (by decide) (by decide)]
    exact hs
  have hd1 : RD f1 G1 60 D := by
    obtain ⟨a1, a2, a3, a4, a5⟩ := hk.2.1
    refine ⟨by rw [h1.1]; exact a1, by rw [h1.2]; exact a2, ?_, ?_, ?_⟩
    · intro r hr; rw [(h3 r).1]; exact a3 r hr
    · intro v hv; rw [(h3 v).2.1]; exact a4 v hv
    · intro v hv; rw [(h3 v).2.2]; exact a5 v hv
  exact hT f1 G1 hs1 hd1 fp (KC_fp hq fp hk.2.2.1 (fun r hr => by rw [h4' 51 r (by decide) (by decide) (by decide)]; exact hk.2.2.2.1 r hr) hk) h4' h2
theorem w37 {n w : Nat} (hq : isLw q) (hP : wfP P) (hL : wfLw L) (hw : wfS P D) (hk : KC f G J q P B L D) (hs : RS f G 60 P) (hu : ∀ v, v < 14 → G 73 v = oI (dPl (wkD P B L n D) v)) (hn : n < 2 ^ 20) (hw14 : w < 14) {T : Int32 → aH → Prop} (hT : ∀ f' G' J', FP f G J f' G' J' → KC f' G' J' q P B L D → RS f' G' 60 P → (∀ v, G' 73 v = G 73 v) → T (nI (miN P B L D n w)) (wo f' G' J' c)) : vI scr (d + 5) 37 [.ref 59, .ref q, .int (nI w), .int (nI n)] (wo f G J c) T := by
  unfold vI
  rw [u37_ok, en37, b37_0]
  simp only [pLr scr, true_and]
  apply cpP hq hk hs
  intro f1 G1 hs1 hd1 fp1 hk1 hG1 hf1
  simp only [pLr scr]
  rw [w59 isS60 hP hd1 hw.1 hw14]
  have hlf : ∀ r k, r ≠ 62 → r ≠ 63 → lfG G1 60 w (dPl D w) r k = G1 r k := fun r k a b => lf_fr r k a b
  have hd2 : RD f1 (lfG G1 60 w (dPl D w)) 60 (lfD D w) := RD_lift hd1 hw.1.2 hw14
  have hs2 : RS f1 (lfG G1 60 w (dPl D w)) 60 P := by
    unfold RS at hs1 ⊢
    simp only [hlf (60 + 1) _ (by decide) (by decide), hlf (60 + 4) _ (by decide) (by decide), hlf (60 + 5) _ (by decide) (by decide)]
    exact hs1
  have fp2 : FP f1 G1 J f1 (lfG G1 60 w (dPl D w)) J := ⟨fun _ _ _ _ _ => rfl, fun r k a _ _ _ _ _ _ => hlf r k (by omega) (by omega), fun _ _ _ _ _ _ _ => rfl⟩
  have hk2 : KC f1 (lfG G1 60 w (dPl D w)) J q P B L D := KC_fp hq fp2 hk1.2.2.1 (fun r hr => by rw [hlf 51 r (by decide) (by decide)]; exact hk1.2.2.2.1 r hr) hk1
  simp only [pLr scr]
  apply w78 isS60 hq hP hL (wfS_lf hw) hd2 (KC_x hk2 hs2) hn
  intro f3 G3 J3 hd3 hc3 hfr3 h7
  have fp3 : FP f G J f3 G3 J3 := FP_tr fp1 (FP_tr fp2 (FP_60 hfr3))
  have hk3 : KC f3 G3 J3 q P B L D := KC_fp hq fp3 hc3 (TG_fr isS60 hfr3 hk2.2.2.2.1) hk
  have e73 : ∀ v, G3 73 v = G 73 v := by
    intro v
    rw [hfr3.2.1 73 v (by decide) (by decide) (by decide) (by decide) (by decide), hlf 73 v (by decide) (by decide), hG1 73 v (by decide) (by decide) (by decide)]
  have ha := (wfS_wk (B := B) (L := L) hP n (lfD D w) (wfS_lf hw)).1.1
  have hb := (wfS_wk (B := B) (L := L) hP n D hw).1.1
  have := else_loop (scr := scr) (f := f3) (G := G3) (J := J3) (c := c) (d := d + 4 + 1) (l1 := q) (l3 := nI n) (a := dPl (wkD P B L n (lfD D w))) (b := dPl (wkD P B L n D)) (w := w) (by omega) (fun v t h => (wfL_lt hP ha h).2.1) (fun v t h => (wfL_lt hP hb h).2.1) (fun v hv => hd3.2.2.2.1 v hv) (fun v hv => by rw [e73 v]; exact hu v hv) (K := fun r h => ∃ x, r = some (Value.int x) ∧ T x h) 12 0 rfl (by omega)
  rw [show (0 : Int32) = nI 0 from rfl]
  have e0 : elN (dPl (wkD P B L n (lfD D w))) (dPl (wkD P B L n D)) w 0 = 0 := rfl
  rw [e0] at this
  rw [this]
  exact ⟨_, rfl, hT f3 G3 J3 fp3 hk3 (RS_fr isS60 hfr3 hs2) e73⟩
theorem w36 {n : Nat} (hq : isLw q) (hP : wfP P) (hL : wfLw L) (hw : wfS P D) (hk : KC f G J q P B L D) (hn : n < 2 ^ 20) {T : aH → Prop} (hT : ∀ f' G' J', FP f G J f' G' J' → KC f' G' J' q P B L D → RS f' G' 60 P → (∀ v, v < 14 → G' 73 v = oI (dPl (wkD P B L n D) v)) → T (wo f' G' J' c)) : vV scr (d + 5) 36 [.ref 59, .ref q, .int (nI n)] (wo f G J c) T := by
  unfold vV
  rw [u36_ok, en36, b36_0]
  simp only [pLr scr, true_and]
  apply cpU hq hk
  intro f1 G1 hs1 hd1 fp1 hk1 hG1 hf1
  simp only [pLr scr]
  apply cpT hq hk1
  intro f2 G2 hs2 hd2 fp2 hk2 hG2 hf2
  have hs1' : RS f2 G2 70 P := RS_cgx (fun k => hf2 70 k (by decide)) (fun i hi k => hG2 (70 + i) k (by omega)) hs1
  have hd1' : RD f2 G2 70 D := RD_cg (hf2 70 5 (by decide)) (hf2 70 6 (by decide)) (fun k => hG2 (70 + 2) k (by omega)) (fun k => hG2 (70 + 3) k (by omega)) (fun k => hG2 (70 + 6) k (by omega)) hd1
  simp only [pLr scr]
  apply w78 isS70 hq hP hL hw hd1' (KC_x hk2 hs1') hn
  intro f3 G3 J3 hd3 hc3 hfr3 h7
  have fp3 : FP f G J f3 G3 J3 := FP_tr fp1 (FP_tr fp2 (FP_70 hfr3))
  have hk3 : KC f3 G3 J3 q P B L D := KC_fp hq fp3 hc3 (TG_fr isS70 hfr3 hk2.2.2.2.1) hk
  refine hT f3 G3 J3 fp3 hk3 ?_ ?_
  · exact RS_cgx (fun k => hfr3.1 60 k (by decide) (by omega)) (fun i hi k => hfr3.2.1 (60 + i) k (by omega) (by omega) (by omega) (by omega) (by omega)) hs2
  · intro v hv; exact hd3.2.2.2.1 v hv
theorem w34 {n w : Nat} (hq : isLw q) (hP : wfP P) (hL : wfLw L) (hw : wfS P D) (hk : KC f G J q P B L D) (hn : n < 2 ^ 20) (hw14 : w < 14) {T : Int32 → aH → Prop} (hT : ∀ f' G' J', FP f G J f' G' J' → KC f' G' J' q P B L D → T (nI (miN P B L D n w)) (wo f' G' J' c)) : vI scr (d + 6) 34 [.ref 59, .ref q, .int (nI w), .int (nI n)] (wo f G J c) T := by
  unfold vI
  rw [u34_ok, en34, b34_0]
  refine ⟨rfl, ?_⟩
  apply w36 hq hP hL hw hk hn
  intro f1 G1 J1 fp1 hk1 hs1 hu1
  apply w37 hq hP hL hw hk1 hs1 hu1 hn hw14
  intro f2 G2 J2 fp2 hk2 _ _
  exact ⟨_, rfl, hT f2 G2 J2 (FP_tr fp1 fp2) hk2⟩
def ldA (P : Pn) (B : Nat → Nat) (L : Lw) (D : Dy) (n : Nat) : Nat → Option (Nat × Nat)
  | 0 => none
  | k + 1 => match dPl D k with
    | none => ldA P B L D n k
    | some _ => match ldA P B L D n k with
      | none => some (k, miN P B L D n k)
      | some x => if x.2 < miN P B L D n k then some (k, miN P B L D n k) else some x
def ldL (o : Option (Nat × Nat)) : Int32 := match o with
  | none => -2
  | some x => nI x.1
def ldM (o : Option (Nat × Nat)) : Int32 := match o with
  | none => -1
  | some x => nI x.2
def ldR (o : Option (Nat × Nat)) (what : Nat) : Int32 := match o with
  | none => -2
  | some x => if what = 0 then nI x.1 else nI x.2
theorem ld_lt {n : Nat} : ∀ k x, ldA P B L D n k = some x → x.1 < k ∧ x.2 ≤ 12 := by
  intro k
  induction k with
  | zero => intro x hx; cases hx
  | succ k ih =>
    intro x hx
    simp only [ldA] at hx
    split at hx
    · have := ih x hx; omega
    · split at hx
      · cases hx; exact ⟨by show k < k + 1; omega, elN_le⟩
      · rename_i y hy
        have := ih y hy
        split at hx
        · cases hx; exact ⟨by show k < k + 1; omega, elN_le⟩
        · cases hx; omega
theorem lead_loop {n what : Nat} (hq : isLw q) (hP : wfP P) (hL : wfLw L) (hw : wfS P D) (hn : n < 2 ^ 20) (hwh : what < 2) {K : Option Value → aH → Prop} : ∀ m k, 14 - k = m → k ≤ 14 → ∀ f G J, KC f G J q P B L D → RS f G 60 P → (∀ v, v < 14 → G 73 v = oI (dPl (wkD P B L n D) v)) → (∀ f' G' J', FP f G J f' G' J' → KC f' G' J' q P B L D → K (some (.int (ldR (ldA P B L D n 14) what))) (wo f' G' J' c)) → ∀ l7 : Value, E scr false (d + 6) 35 16 [.ref 59, .ref q, .int (nI n), .int (nI what), .int (ldL (ldA P B L D n k)), .int (ldM (ldA P B L D n k)), .int (nI k), l7] [] (wo f G J c) K := by
  intro m
  induction m with
  | zero =>
    intro k hm hk f G J hkc hs hu hK l7
    have e : k = 14 := by omega
    subst e
    have fin := hK f G J FP_rf hkc
    rw [b35_16]
    simp (disch := omega) only [LI, NC, Nat.le_refl, if_true, b35_80]
    cases ho : ldA P B L D n 14 with
    | none =>
      rw [ho] at fin
      simp only [ldL, ldM, show ¬ ((0 : Int32) ≤ -2) by decide, if_false, ite_self]
      exact fin
    | some x =>
      rw [ho] at fin
      obtain ⟨x1, x2⟩ := ld_lt 14 x ho
      simp (disch := omega) only [ldL, ldM, NC, if_true]
      unfold ldR at fin
      by_cases h0 : what = 0
      · simp only [h0, if_true] at fin ⊢; exact fin
      · simp only [h0, if_false] at fin ⊢; exact fin
  | succ m ih =>
    intro k hm hk f G J hkc hs hu hK l7
    have e1 := hkc.2.1.2.2.2.1 k (by omega)
    have next : ∀ f' G' J', FP f G J f' G' J' → KC f' G' J' q P B L D → RS f' G' 60 P → (∀ v, G' 73 v = G 73 v) → ∀ (a b s0 : Int32), a = ldL (ldA P B L D n (k + 1)) → b = ldM (ldA P B L D n (k + 1)) → E scr false (d + 6) 35 65 [.ref 59, .ref q, .int (nI n), .int (nI what), .int a, .int b, .int (nI k), .int s0] [] (wo f' G' J' c) K := by
      intro f' G' J' fp hk' hs' h73 a b s0 ha hb
      rw [b35_65, nI_1, ha, hb]
      apply ih (k + 1) (by omega) (by omega) f' G' J' hk' hs' (fun v hv => by rw [h73 v]; exact hu v hv)
      intro f2 G2 J2 fp2 hk2
      exact hK f2 G2 J2 (FP_tr fp fp2) hk2
    rw [b35_16]
    simp (disch := omega) only [LI, NC, show ¬ 14 ≤ k by omega, if_false, pLr scr, sC scr isS3, e1]
    cases ho : dPl D k with
    | none =>
      have es : ldA P B L D n (k + 1) = ldA P B L D n k := by simp only [ldA, ho]
      rw [es] at next
      simp only [oI_n, show ¬ ((0 : Int32) ≤ -1) by decide, if_false]
      rw [b35_48, if_pos]
      · exact next f G J FP_rf hkc hs (fun _ => rfl) _ _ _ rfl rfl
      · cases hx : ldA P B L D n k with
        | none => decide
        | some x =>
          have := (ld_lt k x hx).2
          exact Int32.le_of_lt (Int32.lt_of_lt_of_le (by decide : (-1 : Int32) < 0) (nI_pos' (show x.2 < 2 ^ 31 by omega)))
    | some t =>
      have t144 := (wfL_lt hP hw.1 ho).2.1
      simp (disch := omega) only [oI_s, NC, if_true]
      apply w37 hq hP hL hw hkc hs hu hn (by omega)
      intro f1 G1 J1 fp1 hk1 hs1 h73
      have hle : miN P B L D n k ≤ 12 := elN_le
      rw [b35_48]
      cases hx : ldA P B L D n k with
      | none =>
        have es : ldA P B L D n (k + 1) = some (k, miN P B L D n k) := by simp only [ldA, ho, hx]
        rw [es] at next
        rw [if_neg]
        · exact next f1 G1 J1 fp1 hk1 hs1 h73 _ _ _ rfl rfl
        · intro e
          have : nI (miN P B L D n k) < 0 := Int32.lt_of_le_of_lt e (by decide)
          exact nI_pos (by omega) this
      | some x =>
        have x2 := (ld_lt k x hx).2
        simp (disch := omega) only [ldM, NC]
        by_cases hlt : x.2 < miN P B L D n k
        · have es : ldA P B L D n (k + 1) = some (k, miN P B L D n k) := by simp only [ldA, ho, hx, hlt, if_true]
          rw [es] at next
          rw [if_neg (by omega)]
          exact next f1 G1 J1 fp1 hk1 hs1 h73 _ _ _ rfl rfl
        · have es : ldA P B L D n (k + 1) = some x := by simp only [ldA, ho, hx, hlt, if_false]
          rw [es] at next
          rw [if_pos (by omega)]
          exact next f1 G1 J1 fp1 hk1 hs1 h73 _ _ _ rfl rfl
theorem w35 {n what : Nat} (hq : isLw q) (hP : wfP P) (hL : wfLw L) (hw : wfS P D) (hk : KC f G J q P B L D) (hn : n < 2 ^ 20) (hwh : what < 2) {T : Int32 → aH → Prop} (hT : ∀ f' G' J', FP f G J f' G' J' → KC f' G' J' q P B L D → T (ldR (ldA P B L D n 14) what) (wo f' G' J' c)) : vI scr (d + 6) 35 [.ref 59, .ref q, .int (nI n), .int (nI what)] (wo f G J c) T := by
  unfold vI
  rw [u35_ok, en35, b35_0]
  refine ⟨rfl, ?_⟩
  apply w36 hq hP hL hw hk hn
  intro f1 G1 J1 fp1 hk1 hs1 hu1
  have := lead_loop (scr := scr) (c := c) (d := d) hq hP hL hw hn hwh (K := fun r h => ∃ x, r = some (Value.int x) ∧ T x h) 14 0 rfl (by omega) f1 G1 J1 hk1 hs1 hu1 (fun f2 G2 J2 fp2 hk2 => ⟨_, rfl, hT f2 G2 J2 (FP_tr fp1 fp2) hk2⟩) .null
  exact this
end PB
