variable {scr : List Int32}
-- ===== one wall more =====
section PD
variable {f G f' G' f1 G1 f2 G2 : Nat → Nat → Int32} {J J' J1 J2 : Nat → Nat → Int64} {c : Value} {d p q : Nat} {P : Pn} {D : Dy} {B : Nat → Nat} {L : Lw}
def wallP (P : Pn) (k : Nat) : Pn := fun a b => if a = 4 ∧ b = k then 1 else P a b
theorem wl_num {k : Nat} : pCo (wallP P k) = pCo P ∧ pRo (wallP P k) = pRo P ∧ pPe (wallP P k) = pPe P ∧ pHe (wallP P k) = pHe P ∧ (∀ w, pAg (wallP P k) w = pAg P w) ∧ (∀ w, pSo (wallP P k) w = pSo P w) := by
  refine ⟨?_, ?_, ?_, ?_, ?_, ?_⟩
  · simp [pCo, wallP]
  · simp [pRo, wallP]
  · simp [pPe, wallP]
  · simp [pHe, wallP]
  · intro w; simp [pAg, wallP]
  · intro w; simp [pSo, wallP]
theorem wl_kd {k q : Nat} : pKd (wallP P k) q = if q = k then 1 else pKd P q := by simp [pKd, wallP]
theorem wl_ce {k x y : Nat} : ceB (wallP P k) x y = ceB P x y := by
  unfold ceB
  rw [wl_num.1, wl_num.2.1]
theorem wl_th {k q : Nat} : thB (wallP P k) q = thB P q := wl_ce
theorem wl_ex {k w : Nat} : exB (wallP P k) w = exB P w := by
  unfold exB
  rw [wl_num.2.2.1, wl_num.2.2.2.1]
theorem wl_be {k q w : Nat} : beO (wallP P k) q w = beO P q w := by
  unfold beO
  simp only [wl_ce]
theorem wl_wf (hP : wfP P) {k : Nat} : wfP (wallP P k) := by
  obtain ⟨h1, h2, h3, h4, h5, h6, h7, h8, h9⟩ := hP
  obtain ⟨a1, a2, a3, a4, a5, a6⟩ := wl_num (P := P) (k := k)
  unfold wfP
  rw [a1, a2, a3, a4]
  refine ⟨h1, h2, h3, h4, h5, ?_, fun w => by rw [a5]; exact h7 w, fun w => by rw [a6]; exact h8 w, h9⟩
  intro q
  rw [wl_kd]
  split
  · omega
  · exact h6 q
theorem wl_sub (hP : wfP P) {k : Nat} : subP (wallP P k) P := by
  refine ⟨wl_wf hP, hP, fun q => wl_th, ?_, ?_, wl_num.2.2.1, fun q w => wl_be⟩
  · intro q h
    rw [wl_kd] at h
    split at h
    · cases h
    · exact h
  · intro q h
    rw [wl_kd] at h
    split at h
    · omega
    · exact h
theorem wl_ga {k : Nat} (h0 : pKd P k = 0) : gaL (wallP P k) = gaL P := by
  unfold gaL
  apply List.filter_congr
  intro q _
  rw [wl_th, wl_kd]
  by_cases e : q = k
  · simp [e, h0]
  · simp [e]
theorem wl_L (hP : wfP P) {k : Nat} {pl : Nat → Option Nat} (hl : wfL P pl) (hk : who pl k = none) : wfL (wallP P k) pl := by
  refine ⟨?_, hl.2⟩
  intro w q hw
  obtain ⟨a, b, e⟩ := hl.1 w q hw
  refine ⟨by rw [wl_ex]; exact a, by rw [wl_th]; exact b, ?_⟩
  rw [wl_kd, if_neg (fun e => by rw [e] at hw; exact who_nn hP hl hk w hw)]
  exact e
theorem wl_S (hP : wfP P) {k : Nat} (hw : wfS P D) (hk : who (dPl D) k = none) : wfS (wallP P k) D := ⟨wl_L hP hw.1 hk, by rw [wl_num.2.2.1]; exact hw.2⟩
theorem wl_RS (hp : isSc p) {k : Nat} (hk : k < 144) (h0 : pKd P k = 0) (hs : RS f G p P) : RS f (up2 G (p + 1) k 1) p (wallP P k) := by
  obtain ⟨a1, a2, a3, a4, a5, a6⟩ := wl_num (P := P) (k := k)
  obtain ⟨b1, b2, b3, b4, b5⟩ := hs
  unfold RS
  rw [a1, a2, a3, a4, wl_ga h0]
  refine ⟨b1, ?_, ?_, ?_, ?_⟩
  · intro q hq
    rw [wl_th] at hq
    rw [up2_a, wl_kd]
    split
    · rfl
    · exact b2 q hq
  · intro w hw
    rw [up2_q (by omega), a5]
    exact b3 w hw
  · intro w hw
    rw [up2_q (by omega), a6]
    exact b4 w hw
  · intro q hq
    rw [up2_a]
    split
    · decide
    · exact b5 q hq
theorem wl_RSb (hp : isSc p) {k : Nat} (hk : k < 144) (h0 : pKd P k = 0) (hs : RS f G p (wallP P k)) : RS f (up2 G (p + 1) k 0) p P := by
  obtain ⟨a1, a2, a3, a4, a5, a6⟩ := wl_num (P := P) (k := k)
  unfold RS at hs
  rw [a1, a2, a3, a4, wl_ga h0] at hs
  obtain ⟨b1, b2, b3, b4, b5⟩ := hs
  refine ⟨b1, ?_, ?_, ?_, ?_⟩
  · intro q hq
    rw [up2_a]
    by_cases e : q = k
    · rw [if_pos e, e, h0]; rfl
    · rw [if_neg e, b2 q (by rw [wl_th]; exact hq), wl_kd, if_neg e]
  · intro w hw
    rw [up2_q (by omega), b3 w hw, a5]
  · intro w hw
    rw [up2_q (by omega), b4 w hw, a6]
  · intro q hq
    rw [up2_a]
    split
    · decide
    · exact b5 q hq
def waE (P : Pn) (L : Lw) (D : Dy) (n k : Nat) : Bool := frA P (dPl D) k && (decide (pKd P k = 0) && decide (dOc (wkD (wallP P k) (gdA (wallP P k)) L n D) = pPe P))
def waA (P : Pn) (L : Lw) (D : Dy) (n : Nat) : Nat → Option Nat
  | 0 => none
  | k + 1 => match waA P L D n k with
    | some x => some x
    | none => if waE P L D n k = true then some k else none
def waI (o : Option Nat) : Int32 := match o with
  | none => -2
  | some x => nI x
theorem wa_lt {n : Nat} : ∀ k x, waA P L D n k = some x → x < k := by
  intro k
  induction k with
  | zero => intro x hx; cases hx
  | succ k ih =>
    intro x hx
    simp only [waA] at hx
    split at hx
    · rename_i y hy
      cases hx
      have := ih _ hy
      omega
    · split at hx
      · cases hx; omega
      · cases hx
theorem wa_keep {n k x : Nat} (hx : waA P L D n k = some x) : ∀ m, waA P L D n (k + m) = some x := by
  intro m
  induction m with
  | zero => exact hx
  | succ m ih =>
    rw [show k + (m + 1) = (k + m) + 1 by omega]
    simp only [waA]
    rw [ih]
theorem wa_bd (hP : wfP P) (hw : wfS P D) (hoc : dOc D + cnP (dPl D) (pPe P) = pPe P) {n k : Nat} (hk : who (dPl D) k = none) : dOc (wkD (wallP P k) (gdA (wallP P k)) L n D) = pPe P - cnP (dPl (wkD (wallP P k) (gdA (wallP P k)) L n D)) (pPe P) ∧ dOc (wkD (wallP P k) (gdA (wallP P k)) L n D) ≤ boA P D n := by
  have hP' := wl_wf hP (k := k)
  have hw' := wl_S hP hw hk
  have h1 := (wfS_wk (B := gdA (wallP P k)) (L := L) hP' n D hw').2
  rw [wl_num.2.2.1] at h1
  have h3 := sR_wk (B := gdA (wallP P k)) (L := L) (wl_sub hP (k := k)) (n := 0) n D hw'.1
  rw [sR_0, Nat.zero_add, ← boA_sR hP hw.1 hoc] at h3
  omega
theorem wa_none (hP : wfP P) (hw : wfS P D) (hoc : dOc D + cnP (dPl D) (pPe P) = pPe P) {n : Nat} (hlt : boA P D n < pPe P) : ∀ k, waA P L D n k = none := by
  intro k
  induction k with
  | zero => rfl
  | succ k ih =>
    simp only [waA]
    rw [ih]
    simp only
    rw [if_neg]
    intro he
    unfold waE at he
    simp only [Bool.and_eq_true, decide_eq_true_eq] at he
    have := (wa_bd (L := L) (n := n) hP hw hoc (frA_th he.1).2.2).2
    omega
theorem cpP0 (hs3 : RS f G 3 P) (hd3 : RD f G 3 D) (hs : RS f G 60 P) {T : aH → Prop} (hT : ∀ f' G', RS f' G' 60 P → RD f' G' 60 D → FP f G J f' G' J → T (wo f' G' J c)) : vV scr (d + 1) 52 [.ref 60, .ref 3] (wo f G J c) T := by
  apply w52 isS60 isS3 (by decide) hs3 hd3
  intro f1 G1 h1 h2 h3 h4
  have h4' : ∀ r k, r ≠ 62 → r ≠ 63 → r ≠ 66 → G1 r k = G r k := h4
  have fp : FP f G J f1 G1 J := ⟨fun o k _ a _ => h2 o k (fun e => a e.1), fun r k a _ _ _ _ _ _ => h4' r k (by omega) (by omega) (by omega), fun _ _ _ _ _ _ _ => rfl⟩
  have hs1 : RS f1 G1 60 P := by
    unfold RS at hs ⊢
    simp only [h2 60 0 (by omega), h2 60 1 (by omega), h2 60 2 (by omega), h2 60 3 (by omega), h2 60 4 (by omega), h4' (60 + 1) _ (by decide) (by decide) (by decide), h4' (60 + 4) _ (by decide) (by decide) (by decide), h4' (60 + 5) _ (by decide) (by decide) (by decide)]
    exact hs
  have hd1 : RD f1 G1 60 D := by
    obtain ⟨a1, a2, a3, a4, a5⟩ := hd3
    refine ⟨by rw [h1.1]; exact a1, by rw [h1.2]; exact a2, ?_, ?_, ?_⟩
    · intro r hr; rw [(h3 r).1]; exact a3 r hr
    · intro v hv; rw [(h3 v).2.1]; exact a4 v hv
    · intro v hv; rw [(h3 v).2.2]; exact a5 v hv
  exact hT f1 G1 hs1 hd1 fp
theorem wall_loop {n : Nat} (hq : isLw q) (hP : wfP P) (hL : wfLw L) (hw : wfS P D) (hn : n < 2 ^ 20) {K : Option Value → aH → Prop} : ∀ m k, 144 - k = m → k ≤ 144 → ∀ f G J, RS f G 3 P → RD f G 3 D → LRl f G q L → RS f G 60 P → (∀ f' G' J', FP f G J f' G' J' → RS f' G' 3 P → RD f' G' 3 D → LRl f' G' q L → ∀ l4 : Int32, E scr false (d + 6) 43 166 [.ref 59, .ref q, .int (nI n), .int (waI (waA P L D n 144)), .int l4] [] (wo f' G' J' c) K) → E scr false (d + 6) 43 35 [.ref 59, .ref q, .int (nI n), .int (waI (waA P L D n k)), .int (nI k)] [] (wo f G J c) K := by
  have p12 := hP.2.2.2.1
  intro m
  induction m with
  | zero =>
    intro k hm hk f G J h3 hd3 hLR hs hK
    have e : k = 144 := by omega
    subst e
    rw [b43_35]
    simp (disch := omega) only [LI, NC, Nat.le_refl, if_true]
    exact hK f G J FP_rf h3 hd3 hLR _
  | succ m ih =>
    intro k hm hk f G J h3 hd3 hLR hs hK
    have next : ∀ f' G' J', FP f G J f' G' J' → RS f' G' 60 P → ∀ a : Int32, a = waI (waA P L D n (k + 1)) → E scr false (d + 6) 43 160 [.ref 59, .ref q, .int (nI n), .int a, .int (nI k)] [] (wo f' G' J' c) K := by
      intro f' G' J' fp hs' a ha
      rw [b43_160, nI_1, ha]
      apply ih (k + 1) (by omega) (by omega) f' G' J' (RS_fp fp h3) (RD_fp fp hd3) (LR_fp hq fp hLR) hs'
      intro f2 G2 J2 fp2 c1 c2 c3 l4
      exact hK f2 G2 J2 (FP_tr fp fp2) c1 c2 c3 l4
    rw [b43_35]
    cases hwa : waA P L D n k with
    | some x =>
      have hx := wa_lt k x hwa
      have h144 := wa_keep hwa (144 - k)
      rw [show k + (144 - k) = 144 by omega] at h144
      simp (disch := omega) only [LI, NC, show ¬ 144 ≤ k by omega, if_false, waI, if_true]
      have := hK f G J FP_rf h3 hd3 hLR (nI k)
      rw [h144] at this
      exact this
    | none =>
      have es : waA P L D n (k + 1) = if waE P L D n k = true then some k else none := by simp only [waA, hwa]
      have no : waE P L D n k = false → E scr false (d + 6) 43 160 [.ref 59, .ref q, .int (nI n), .int (-2), .int (nI k)] [] (wo f G J c) K := by
        intro h
        apply next f G J FP_rf hs
        rw [es, h]
        rfl
      simp (disch := omega) only [LI, NC, show ¬ 144 ≤ k by omega, if_false, waI, show ¬ ((0 : Int32) ≤ -2) by decide, pLr scr, sC scr isS3]
      by_cases hk0 : G 4 k = 0
      · have hk0' : G (3 + 1) k = 0 := hk0
        simp (disch := omega) only [hk0', if_true, irm_nI]
        rw [show nI k / nI 12 = nI (k / 12) from div12 (by omega), w57 isS3 hP h3 hd3 (by omega)]
        cases hf : frA P (dPl D) k with
        | false =>
          simp only [bz_f, if_true]
          exact no (by unfold waE; rw [hf]; rfl)
        | true =>
          obtain ⟨f1', f2', f3'⟩ := frA_th hf
          have kd0 : pKd P k = 0 := by
            have h1 := h3.2.1 k f1'
            rw [show (3 + 1 : Nat) = 4 from rfl, hk0] at h1
            have h4 := hP.2.2.2.2.2.1 k
            have := (nI_eq (a := 0) (b := pKd P k) (by omega) (by omega)).mp h1
            omega
          simp only [bz_t, show ¬ ((1 : Int32) = 0) by decide, if_false, pLr scr]
          apply cpP0 h3 hd3 hs
          intro g1 G1 hs1 hd1 fp1
          have m1 : Int8.toInt32 (Int32.toInt8 1) = 1 := by decide
          have m0 : Int8.toInt32 (Int32.toInt8 0) = 0 := by decide
          simp (disch := omega) only [pLr scr, sC scr isS60, m1]
          have hs2 : RS g1 (up2 G1 (60 + 1) k 1) 60 (wallP P k) := wl_RS isS60 (by omega) kd0 hs1
          have hd2 : RD g1 (up2 G1 (60 + 1) k 1) 60 D := RD_cg rfl rfl (fun i => up2_q (by decide)) (fun i => up2_q (by decide)) (fun i => up2_q (by decide)) hd1
          have fp2 : FP f G J g1 (up2 G1 (60 + 1) k 1) J := FP_tr fp1 ⟨fun _ _ _ _ _ => rfl, fun r i a _ _ _ _ _ _ => up2_q (by omega), fun _ _ _ _ _ _ _ => rfl⟩
          apply w1 isS60 (wl_wf hP) hs2
          intro G3 J3 hB3 hc3 hG3 hJ3
          have fp3 : FP f G J g1 G3 J3 := FP_tr fp2 ⟨fun _ _ _ _ _ => rfl, fun r i _ _ a b _ _ _ => hG3 r i a b, fun q i a b _ _ _ => hJ3 q i a b⟩
          have hs3 : RS g1 G3 60 (wallP P k) := RS_51 isS60 hG3 hs2
          have hd3' : RD g1 G3 60 D := RD_cg rfl rfl (fun i => hG3 _ i (by decide) (by decide)) (fun i => hG3 _ i (by decide) (by decide)) (fun i => hG3 _ i (by decide) (by decide)) hd2
          simp only [pLr scr]
          apply w78 (P := wallP P k) (B := gdA (wallP P k)) isS60 hq (wl_wf hP) hL (wl_S hP hw f3') hd3' ⟨hs3, hc3, hB3, LR_fp hq fp3 hLR⟩ hn
          intro f4 G4 J4 hd4 hc4 hfr4 _
          have fp4 : FP f G J f4 G4 J4 := FP_tr fp3 (FP_60 hfr4)
          have hs4 : RS f4 G4 60 (wallP P k) := RS_fr isS60 hfr4 hs3
          have hs5 : RS f4 (up2 G4 (60 + 1) k 0) 60 P := wl_RSb isS60 (by omega) kd0 hs4
          have fp5 : FP f G J f4 (up2 G4 (60 + 1) k 0) J4 := FP_tr fp4 ⟨fun _ _ _ _ _ => rfl, fun r i a _ _ _ _ _ _ => up2_q (by omega), fun _ _ _ _ _ _ _ => rfl⟩
          have v12 := (wfS_wk (B := gdA (wallP P k)) (L := L) (wl_wf hP) n D (wl_S hP hw f3')).1.2
          have e3 := hs5.1.2.2.2.1
          simp (disch := omega) only [pLr scr, sC scr isS60, m0, hd4.2.1, e3, NC]
          by_cases hv : dOc (wkD (wallP P k) (gdA (wallP P k)) L n D) = pPe P
          · simp only [hv, if_true]
            apply next f4 _ J4 fp5 hs5
            rw [es, if_pos (by unfold waE; simp [hf, kd0, hv])]
            rfl
          · simp only [hv, if_false]
            apply next f4 _ J4 fp5 hs5
            rw [es, if_neg (by unfold waE; simp [hv])]
            rfl
      · have hk0' : ¬ G (3 + 1) k = 0 := hk0
        simp only [hk0', if_false]
        apply no
        unfold waE
        cases hf : frA P (dPl D) k with
        | false => rfl
        | true =>
          have : ¬ pKd P k = 0 := by
            intro e
            apply hk0
            have h1 := h3.2.1 k (frA_th hf).1
            rw [e] at h1
            exact h1
          simp [this]
theorem w43 {n : Nat} (hq : isLw q) (hP : wfP P) (hL : wfLw L) (hw : wfS P D) (hoc : dOc D + cnP (dPl D) (pPe P) = pPe P) (hk : KC f G J q P (gdA P) L D) (hn : n < 2 ^ 20) {T : Int32 → aH → Prop} (hT : ∀ f' G' J', FP f G J f' G' J' → KC f' G' J' q P (gdA P) L D → T (waI (waA P L D n 144)) (wo f' G' J' c)) : vI scr (d + 6) 43 [.ref 59, .ref q, .int (nI n)] (wo f G J c) T := by
  have p12 := hP.2.2.2.1
  have h2 := hw.2
  have hb : boA P D n ≤ 24 := by
    have h2 := sm_le1 (F := boF P D n) (n := 12) (fun i => boF_1)
    show dOc D + sm (boF P D n) 12 ≤ 24
    omega
  unfold vI
  rw [u43_ok, en43, b43_0]
  rw [w38 hP hw.1 hk.2.1 hk.2.2.2.1 (by omega) (by omega)]
  have e3 := hk.1.1.2.2.2.1
  simp (disch := omega) only [pLr scr, sC scr isS3, e3, NC, true_and]
  by_cases hle : pPe P ≤ boA P D n
  · rw [if_pos hle]
    apply cpT hq hk
    intro f1 G1 hs1 _ fp1 hk1 _ _
    rw [show (0 : Int32) = nI 0 from rfl]
    have := wall_loop (scr := scr) (c := c) (d := d) (P := P) (D := D) (L := L) hq hP hL hw hn (K := fun r h => ∃ x, r = some (Value.int x) ∧ T x h) 144 0 rfl (by omega) f1 G1 J hk1.1 hk1.2.1 hk1.2.2.2.2 hs1 (by
      intro f2 G2 J2 fp2 c1 c2 c3 l4
      rw [b43_166]
      simp only [pLr scr]
      apply w1 isS3 hP c1
      intro G3 J3 hB3 hc3 hG3 hJ3
      have fp3 : FP f2 G2 J2 f2 G3 J3 := ⟨fun _ _ _ _ _ => rfl, fun r i _ _ a b _ _ _ => hG3 r i a b, fun q i a b _ _ _ => hJ3 q i a b⟩
      refine ⟨_, rfl, hT f2 G3 J3 (FP_tr fp1 (FP_tr fp2 fp3)) ?_⟩
      exact ⟨RS_fp fp3 c1, RD_fp fp3 c2, hc3, hB3, LR_fp hq fp3 c3⟩)
    exact this
  · rw [if_neg hle]
    refine ⟨_, rfl, ?_⟩
    have := hT f G J FP_rf hk
    rw [wa_none hP hw hoc (by omega)] at this
    exact this
end PD
