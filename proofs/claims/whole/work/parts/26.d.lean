variable {scr : List Int32}
-- ===== where a herald is to stand =====
section PC
variable {f G f' G' f1 G1 f2 G2 : Nat → Nat → Int32} {J J' J1 J2 : Nat → Nat → Int64} {c : Value} {d p q : Nat} {P : Pn} {D : Dy} {B : Nat → Nat} {L : Lw}
theorem sm_le1 {F : Nat → Nat} {n : Nat} (h : ∀ i, F i ≤ 1) : sm F n ≤ n := by
  induction n with
  | zero => exact Nat.le_refl _
  | succ n ih =>
    simp only [sm]
    have := h n
    omega
def boF (P : Pn) (D : Dy) (n : Nat) : Nat → Nat := fun w => match dPl D w with
  | none => 0
  | some h => tf (decide (1 ≤ n) && decide (gdA P h ≤ n))
theorem boF_1 {n i : Nat} : boF P D n i ≤ 1 := by
  unfold boF
  split
  · omega
  · unfold tf; split <;> omega
theorem bo_loop (hP : wfP P) (hl : wfL P (dPl D)) (hd : RD f G 3 D) (hB : ∀ q, q < 144 → G 51 q = nI (gdA P q)) (hoc : dOc D ≤ 12) {n : Nat} (hn : n < 2 ^ 31) {K : Option Value → aH → Prop} : ∀ m k, 12 - k = m → k ≤ 12 → ∀ l4 : Value, E scr false (d + 1) 38 10 [.ref 59, .int (nI n), .int (nI (dOc D + sm (boF P D n) k)), .int (nI k), l4] [] (wo f G J c) K = K (some (.int (nI (boA P D n)))) (wo f G J c) := by
  intro m
  induction m with
  | zero =>
    intro k hm hk l4
    have e : k = 12 := by omega
    subst e
    rw [b38_10]
    simp (disch := omega) only [LI, NC, Nat.le_refl, if_true]
    rfl
  | succ m ih =>
    intro k hm hk l4
    have es : sm (boF P D n) (k + 1) = sm (boF P D n) k + boF P D n k := rfl
    have e1 := hd.2.2.2.1 k (by omega)
    rw [b38_10]
    simp (disch := omega) only [LI, NC, show ¬ 12 ≤ k by omega, if_false, pLr scr, sC scr isS3, e1]
    cases ho : dPl D k with
    | none =>
      have eF : boF P D n k = 0 := by unfold boF; rw [ho]
      simp only [oI_n, neg1_lt, if_true]
      rw [b38_55, b38_56, Int32.add_zero, nI_1, ← ih (k + 1) (by omega) (by omega) (.int (-1)), es, eF]
      rfl
    | some h =>
      have h144 := (wfL_lt hP hl ho).2.1
      have g99 := gd_le hP h
      have eF : boF P D n k = tf (decide (1 ≤ n) && decide (gdA P h ≤ n)) := by unfold boF; rw [ho]
      have emx : (if (1 : Int32) < nI (gdA P h) then nI (gdA P h) else 1) = nI (if 1 < gdA P h then gdA P h else 1) := by
        simp (disch := omega) only [NC]
        split <;> rfl
      have mxl : (if 1 < gdA P h then gdA P h else 1) ≤ 99 := by split <;> omega
      simp (disch := omega) only [oI_s, NC, if_false, pLr scr, gRr scr, hB h h144, sp225]
      rw [show (if 1 < gdA P h then nI (gdA P h) else 1) = nI (if 1 < gdA P h then gdA P h else 1) by split <;> rfl]
      simp (disch := omega) only [NC]
      by_cases hlt : n < (if 1 < gdA P h then gdA P h else 1)
      · rw [if_pos hlt, b38_55, b38_56, Int32.add_zero, nI_1, ← ih (k + 1) (by omega) (by omega) (.int (nI h)), es, eF]
        have : (decide (1 ≤ n) && decide (gdA P h ≤ n)) = false := by
          split at hlt
          · simp; omega
          · simp; omega
        rw [this]
        rfl
      · rw [if_neg hlt, b38_56, nI_1, nI_1, ← ih (k + 1) (by omega) (by omega) (.int (nI h)), es, eF]
        have : (decide (1 ≤ n) && decide (gdA P h ≤ n)) = true := by
          split at hlt
          · simp; omega
          · simp; omega
        rw [this]
        rfl
theorem w38 (hP : wfP P) (hl : wfL P (dPl D)) (hd : RD f G 3 D) (hB : ∀ q, q < 144 → G 51 q = nI (gdA P q)) (hoc : dOc D ≤ 12) {n : Nat} (hn : n < 2 ^ 31) {T : Int32 → aH → Prop} : vI scr (d + 1) 38 [.ref 59, .int (nI n)] (wo f G J c) T = T (nI (boA P D n)) (wo f G J c) := by
  unfold vI
  rw [u38_ok, en38, b38_0]
  simp only [pLr scr, sC scr isS3, hd.2.1, true_and]
  have := bo_loop (scr := scr) (J := J) (c := c) (d := d) hP hl hd hB hoc hn (K := fun r h => ∃ x, r = some (Value.int x) ∧ T x h) 12 0 rfl (by omega) .null
  refine Eq.trans this ?_
  simp only [ex_i]
def ptD (D : Dy) (w r : Nat) : Dy := (plU (dPl D) w (some r), D.2)
def eliB (P : Pn) (D : Dy) (hm r : Nat) : Bool := decide (r = hm) || frA P (dPl D) r
def poA (P : Pn) (L : Lw) (D : Dy) (n hm : Nat) : Nat → Option (Nat × Nat)
  | 0 => none
  | k + 1 => if eliB P D hm k = true then (match poA P L D n hm k with
      | none => some (k, dOc (wkD P (gdA P) L n (ptD D 12 k)))
      | some x => if x.2 < dOc (wkD P (gdA P) L n (ptD D 12 k)) then some (k, dOc (wkD P (gdA P) L n (ptD D 12 k))) else some x) else poA P L D n hm k
theorem cn_pt {pl : Nat → Option Nat} {r : Nat} {m : Nat} (hm : m ≤ 12) : cnP (plU pl 12 (some r)) m = cnP pl m := by
  apply cn_congr
  intro v hv
  simp [plU, show v ≠ 12 by omega]
theorem eli_pt (hP : wfP P) (hw : wfS P D) {hm r : Nat} (hh : dPl D 12 = some hm) (he : eliB P D hm r = true) : wfS P (ptD D 12 r) ∧ r < 144 ∧ thB P r = true ∧ (∀ v, v ≠ 12 → dPl D v ≠ some r) := by
  have p12 := hP.2.2.2.1
  obtain ⟨-, -, hth, hex⟩ := wfL_lt hP hw.1 hh
  have hg := (hw.1.1 12 hm hh).2.2
  have key : thB P r = true ∧ gkB (pKd P r) = true ∧ (∀ v, v ≠ 12 → dPl D v ≠ some r) := by
    unfold eliB at he
    simp only [Bool.or_eq_true, decide_eq_true_eq] at he
    rcases he with rfl | he
    · exact ⟨hth, hg, fun v hv e => hv (hw.1.2 v 12 r e hh)⟩
    · obtain ⟨f1, f2, f3⟩ := frA_th he
      exact ⟨f1, f2, fun v _ => who_nn hP hw.1 f3 v⟩
  obtain ⟨a, b, e⟩ := key
  refine ⟨⟨wfL_put hw.1 hex a b e, ?_⟩, th_lt hP a, a, e⟩
  show dOc D + cnP (plU (dPl D) 12 (some r)) (pPe P) ≤ 12
  rw [cn_pt p12]
  exact hw.2
theorem po_bd (hP : wfP P) (hw : wfS P D) (hoc : dOc D + cnP (dPl D) (pPe P) = pPe P) {n hm r : Nat} (hh : dPl D 12 = some hm) (he : eliB P D hm r = true) : dOc (wkD P (gdA P) L n (ptD D 12 r)) ≤ boA P D n := by
  have p12 := hP.2.2.2.1
  obtain ⟨hwp, -, -, -⟩ := eli_pt hP hw hh he
  have h1 := (wfS_wk (B := gdA P) (L := L) hP n (ptD D 12 r) hwp).2
  have h2 : dOc (ptD D 12 r) + cnP (dPl (ptD D 12 r)) (pPe P) = pPe P := by
    show dOc D + cnP (plU (dPl D) 12 (some r)) (pPe P) = pPe P
    rw [cn_pt p12]
    exact hoc
  have h3 := sR_wk (B := gdA P) (L := L) (subP_rf hP) (n := 0) n (ptD D 12 r) hwp.1
  rw [sR_0] at h3
  have h4 : sRc P (dPl (ptD D 12 r)) (0 + n) = sRc P (dPl D) n := by
    unfold sRc
    rw [Nat.zero_add]
    apply sm_congr
    intro w hw'
    unfold rc
    have : dPl (ptD D 12 r) w = dPl D w := by
      show plU (dPl D) 12 (some r) w = _
      simp [plU, show w ≠ 12 by omega]
    rw [this]
  rw [h4, ← boA_sR hP hw.1 hoc] at h3
  omega
theorem po_stop {n hm bd k : Nat} {x : Nat × Nat} (hbd : ∀ r, eliB P D hm r = true → dOc (wkD P (gdA P) L n (ptD D 12 r)) ≤ bd) (hx : poA P L D n hm k = some x) (hle : bd ≤ x.2) : ∀ m, poA P L D n hm (k + m) = some x := by
  intro m
  induction m with
  | zero => exact hx
  | succ m ih =>
    rw [show k + (m + 1) = (k + m) + 1 by omega]
    simp only [poA]
    by_cases he : eliB P D hm (k + m) = true
    · rw [if_pos he, ih]
      have := hbd _ he
      simp only
      rw [if_neg (by omega)]
    · rw [if_neg he]; exact ih
theorem po_lt (hP : wfP P) (hw : wfS P D) {n hm : Nat} (hh : dPl D 12 = some hm) : ∀ k x, poA P L D n hm k = some x → x.1 < k ∧ x.2 ≤ 12 := by
  intro k
  induction k with
  | zero => intro x hx; cases hx
  | succ k ih =>
    intro x hx
    have v12 : eliB P D hm k = true → dOc (wkD P (gdA P) L n (ptD D 12 k)) ≤ 12 := by
      intro he
      have := (wfS_wk (B := gdA P) (L := L) hP n (ptD D 12 k) (eli_pt hP hw hh he).1).1.2
      omega
    simp only [poA] at hx
    split at hx
    · rename_i he
      have := v12 he
      split at hx
      · cases hx; exact ⟨Nat.lt_succ_self _, this⟩
      · rename_i y hy
        have h2 := ih y hy
        split at hx
        · cases hx; exact ⟨Nat.lt_succ_self _, this⟩
        · cases hx; omega
    · have := ih x hx; omega
theorem po_some {n hm : Nat} : ∀ k, hm < k → ∃ x, poA P L D n hm k = some x := by
  intro k
  induction k with
  | zero => intro h; omega
  | succ k ih =>
    intro h
    simp only [poA]
    by_cases he : eliB P D hm k = true
    · rw [if_pos he]
      cases hx : poA P L D n hm k with
      | none => exact ⟨_, rfl⟩
      | some x =>
        simp only
        by_cases hl : x.2 < dOc (wkD P (gdA P) L n (ptD D 12 k))
        · exact ⟨_, if_pos hl⟩
        · exact ⟨_, if_neg hl⟩
    · rw [if_neg he]
      apply ih
      by_cases e : hm = k
      · exact absurd (by simp [eliB, e]) he
      · omega
def poP (hm : Nat) (o : Option (Nat × Nat)) : Int32 := match o with
  | none => nI hm
  | some x => nI x.1
theorem post_loop {n what hm bd : Nat} (hq : isLw q) (hP : wfP P) (hL : wfLw L) (hw : wfS P D) (hh : dPl D 12 = some hm) (hn : n < 2 ^ 20) (hbd : ∀ r, eliB P D hm r = true → dOc (wkD P (gdA P) L n (ptD D 12 r)) ≤ bd) (hb31 : bd < 2 ^ 31) (hwh : what < 2) {K : Option Value → aH → Prop} : ∀ m k, 144 - k = m → k ≤ 144 → ∀ f G J, KC f G J q P (gdA P) L D → RS f G 60 P → (∀ f' G' J', FP f G J f' G' J' → KC f' G' J' q P (gdA P) L D → K (some (.int (ldR (poA P L D n hm 144) what))) (wo f' G' J' c)) → E scr false (d + 6) 39 40 [.ref 59, .ref q, .int (nI n), .int (nI what), .int (nI hm), .int (nI bd), .int (poP hm (poA P L D n hm k)), .int (ldM (poA P L D n hm k)), .int (nI k)] [] (wo f G J c) K := by
  have p12 := hP.2.2.2.1
  obtain ⟨-, hm144, -, -⟩ := wfL_lt hP hw.1 hh
  have fin : ∀ k x f G J, poA P L D n hm k = some x → poA P L D n hm 144 = some x → k ≤ 144 → (∀ f' G' J', FP f G J f' G' J' → KC f' G' J' q P (gdA P) L D → K (some (.int (ldR (poA P L D n hm 144) what))) (wo f' G' J' c)) → KC f G J q P (gdA P) L D → E scr false (d + 6) 39 151 [.ref 59, .ref q, .int (nI n), .int (nI what), .int (nI hm), .int (nI bd), .int (poP hm (poA P L D n hm k)), .int (ldM (poA P L D n hm k)), .int (nI k)] [] (wo f G J c) K := by
    intro k x f G J hx h144 hk hK hkc
    have := hK f G J FP_rf hkc
    rw [h144] at this
    rw [b39_151, hx]
    unfold ldR at this
    simp (disch := omega) only [NC, poP, ldM]
    by_cases h0 : what = 0
    · simp only [h0, if_true] at this ⊢; exact this
    · simp only [h0, if_false] at this ⊢; exact this
  intro m
  induction m with
  | zero =>
    intro k hm' hk f G J hkc hs hK
    have e : k = 144 := by omega
    subst e
    obtain ⟨x, hx⟩ := po_some (P := P) (L := L) (D := D) (n := n) (hm := hm) 144 hm144
    rw [b39_40]
    simp (disch := omega) only [LI, NC, Nat.le_refl, if_true]
    exact fin 144 x f G J hx hx (by omega) hK hkc
  | succ m ih =>
    intro k hm' hk f G J hkc hs hK
    rw [b39_40]
    by_cases hstop : ∃ x, poA P L D n hm k = some x ∧ bd ≤ x.2
    · obtain ⟨x, hx, hle⟩ := hstop
      have x12 := (po_lt hP hw hh k x hx).2
      have h144 := po_stop hbd hx hle (144 - k)
      rw [show k + (144 - k) = 144 by omega] at h144
      have hc : nI bd ≤ ldM (poA P L D n hm k) := by
        rw [hx]
        show nI bd ≤ nI x.2
        exact nI_le hle (by omega)
      simp (disch := omega) only [LI, NC, show ¬ 144 ≤ k by omega, if_false, hc, if_true]
      exact fin k x f G J hx h144 (by omega) hK hkc
    · have hc : ¬ nI bd ≤ ldM (poA P L D n hm k) := by
        intro h
        cases hx : poA P L D n hm k with
        | none =>
          rw [hx] at h
          have : nI bd < 0 := Int32.lt_of_le_of_lt h (by decide)
          exact nI_pos hb31 this
        | some x =>
          rw [hx] at h
          have x12 := (po_lt hP hw hh k x hx).2
          have h' : nI bd ≤ nI x.2 := h
          rw [nI_leI hb31 (by omega)] at h'
          exact hstop ⟨x, hx, h'⟩
      have next : ∀ f' G' J', FP f G J f' G' J' → KC f' G' J' q P (gdA P) L D → RS f' G' 60 P → ∀ a b : Int32, a = poP hm (poA P L D n hm (k + 1)) → b = ldM (poA P L D n hm (k + 1)) → E scr false (d + 6) 39 145 [.ref 59, .ref q, .int (nI n), .int (nI what), .int (nI hm), .int (nI bd), .int a, .int b, .int (nI k)] [] (wo f' G' J' c) K := by
        intro f' G' J' fp hk' hs' a b ha hb
        rw [b39_145, nI_1, ha, hb]
        apply ih (k + 1) (by omega) (by omega) f' G' J' hk' hs'
        intro f2 G2 J2 fp2 hk2
        exact hK f2 G2 J2 (FP_tr fp fp2) hk2
      have go : eliB P D hm k = true → E scr false (d + 5 + 1) 39 85 [.ref 59, .ref q, .int (nI n), .int (nI what), .int (nI hm), .int (nI bd), .int (poP hm (poA P L D n hm k)), .int (ldM (poA P L D n hm k)), .int (nI k)] [] (wo f G J c) K := by
        intro he
        obtain ⟨hwp, k144, kth, kr⟩ := eli_pt hP hw hh he
        have es : poA P L D n hm (k + 1) = (match poA P L D n hm k with
          | none => some (k, dOc (wkD P (gdA P) L n (ptD D 12 k)))
          | some x => if x.2 < dOc (wkD P (gdA P) L n (ptD D 12 k)) then some (k, dOc (wkD P (gdA P) L n (ptD D 12 k))) else some x) := by
          simp only [poA, he, if_true]
        rw [b39_85]
        simp only [pLr scr]
        apply cpP hq hkc hs
        intro f1 G1 hs1 hd1 fp1 hk1 hG1 hf1
        simp only [pLr scr]
        rw [show (12 : Int32) = nI 12 from rfl, w60 isS60 hP hd1 hw.1 (by omega) k144]
        have hpt : ∀ r i, r ≠ 62 → r ≠ 63 → ptG G1 60 12 (dPl D 12) k r i = G1 r i := fun r i a b => pt_fr r i a b
        have hd2 : RD f1 (ptG G1 60 12 (dPl D 12) k) 60 (ptD D 12 k) := RD_put hd1 hw.1.2 (by omega) kr
        have hs2 : RS f1 (ptG G1 60 12 (dPl D 12) k) 60 P := by
          unfold RS at hs1 ⊢
          simp only [hpt (60 + 1) _ (by decide) (by decide), hpt (60 + 4) _ (by decide) (by decide), hpt (60 + 5) _ (by decide) (by decide)]
          exact hs1
        have fp2 : FP f1 G1 J f1 (ptG G1 60 12 (dPl D 12) k) J := ⟨fun _ _ _ _ _ => rfl, fun r i a _ _ _ _ _ _ => hpt r i (by omega) (by omega), fun _ _ _ _ _ _ _ => rfl⟩
        have hk2 : KC f1 (ptG G1 60 12 (dPl D 12) k) J q P (gdA P) L D := KC_fp hq fp2 hk1.2.2.1 (fun r hr => by rw [hpt 51 r (by decide) (by decide)]; exact hk1.2.2.2.1 r hr) hk1
        simp only [pLr scr]
        apply w78 isS60 hq hP hL hwp hd2 (KC_x hk2 hs2) hn
        intro f3 G3 J3 hd3 hc3 hfr3 _
        have fp3 : FP f G J f3 G3 J3 := FP_tr fp1 (FP_tr fp2 (FP_60 hfr3))
        have hk3 : KC f3 G3 J3 q P (gdA P) L D := KC_fp hq fp3 hc3 (TG_fr isS60 hfr3 hk2.2.2.2.1) hkc
        have hs3 := RS_fr isS60 hfr3 hs2
        have v12 := (wfS_wk (B := gdA P) (L := L) hP n (ptD D 12 k) hwp).1.2
        simp only [pLr scr, sC scr isS60, hd3.2.1]
        cases hx : poA P L D n hm k with
        | none =>
          rw [hx] at es
          rw [es] at next
          have hno : ¬ nI (dOc (wkD P (gdA P) L n (ptD D 12 k))) ≤ ldM none := by
            intro e
            have : nI (dOc (wkD P (gdA P) L n (ptD D 12 k))) < 0 := Int32.lt_of_le_of_lt e (by decide)
            exact nI_pos (by omega) this
          rw [if_neg hno]
          exact next f3 G3 J3 fp3 hk3 hs3 _ _ rfl rfl
        | some x =>
          have x12 := (po_lt hP hw hh k x hx).2
          rw [hx] at es
          simp only at es
          simp (disch := omega) only [ldM, NC]
          by_cases hlt : x.2 < dOc (wkD P (gdA P) L n (ptD D 12 k))
          · rw [if_pos hlt] at es
            rw [es] at next
            rw [if_neg (by omega)]
            exact next f3 G3 J3 fp3 hk3 hs3 _ _ rfl rfl
          · rw [if_neg hlt] at es
            rw [es] at next
            rw [if_pos (by omega)]
            exact next f3 G3 J3 fp3 hk3 hs3 _ _ rfl rfl
      simp (disch := omega) only [LI, NC, show ¬ 144 ≤ k by omega, if_false, hc]
      by_cases hkh : k = hm
      · subst hkh
        simp only [if_true]
        exact go (by simp [eliB])
      · simp (disch := omega) only [hkh, if_false, pLr scr, irm_nI]
        rw [show nI k / nI 12 = nI (k / 12) from div12 (by omega), w57 isS3 hP hkc.1 hkc.2.1 (by omega)]
        cases hf : frA P (dPl D) k with
        | true =>
          simp only [bz_t, show ¬ ((1 : Int32) = 0) by decide, if_false]
          exact go (by simp [eliB, hf])
        | false =>
          simp only [bz_f, if_true]
          have es : poA P L D n hm (k + 1) = poA P L D n hm k := by
            simp only [poA]
            rw [if_neg (by simp [eliB, hkh, hf])]
          rw [es] at next
          exact next f G J FP_rf hkc hs _ _ rfl rfl
theorem w39 {n what hm : Nat} (hq : isLw q) (hP : wfP P) (hL : wfLw L) (hw : wfS P D) (hoc : dOc D + cnP (dPl D) (pPe P) = pPe P) (hh : dPl D 12 = some hm) (hk : KC f G J q P (gdA P) L D) (hn : n < 2 ^ 20) (hwh : what < 2) {T : Int32 → aH → Prop} (hT : ∀ f' G' J', FP f G J f' G' J' → KC f' G' J' q P (gdA P) L D → T (ldR (poA P L D n hm 144) what) (wo f' G' J' c)) : vI scr (d + 6) 39 [.ref 59, .ref q, .int (nI n), .int (nI what)] (wo f G J c) T := by
  have hb : boA P D n ≤ 24 := by
    have h1 := hw.2
    have h2 := sm_le1 (F := boF P D n) (n := 12) (fun i => boF_1)
    show dOc D + sm (boF P D n) 12 ≤ 24
    omega
  unfold vI
  rw [u39_ok, en39, b39_0]
  simp only [pLr scr, true_and]
  apply cpT hq hk
  intro f1 G1 hs1 hd1 fp1 hk1 _ _
  have e12 := hk1.2.1.2.2.2.1 12 (by omega)
  rw [hh] at e12
  have h2 := hw.2
  simp (disch := omega) only [pLr scr, sC scr isS3, show (12 : Int32) = nI 12 from rfl, e12]
  rw [w38 hP hw.1 hk1.2.1 hk1.2.2.2.1 (by omega) (by omega)]
  have := post_loop (scr := scr) (c := c) (d := d) (what := what) hq hP hL hw hh hn (fun r he => po_bd (L := L) (n := n) hP hw hoc hh he) (by omega) hwh (K := fun r h => ∃ x, r = some (Value.int x) ∧ T x h) 144 0 rfl (by omega) f1 G1 J hk1 hs1 (fun f2 G2 J2 fp2 hk2 => ⟨_, rfl, hT f2 G2 J2 (FP_tr fp1 fp2) hk2⟩)
  exact this
end PC
