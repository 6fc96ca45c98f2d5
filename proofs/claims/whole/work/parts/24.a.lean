variable {scr : List Int32}
-- ===== the model's state =====
section M1
def MS (G : Nat → Nat → Int32) (P : Pn) : Prop := (G 126 0 = nI (pCo P) ∧ G 126 1 = nI (pRo P) ∧ G 126 2 = nI (pPe P) ∧ G 126 3 = nI (pHe P)) ∧ (∀ q, thB P q = true → G 127 q = nI (pKd P q)) ∧ (∀ w, w < pPe P → G 128 w = nI (pAg P w)) ∧ (∀ w, w < pPe P → G 129 w = nI (pSo P w))
def MD (G : Nat → Nat → Int32) (P : Pn) (D : Dy) : Prop := G 126 4 = dSt D ∧ (∀ w, exB P w = true → G 135 w = oI (dPl D w)) ∧ (∀ w, w < pPe P → G 136 w = dOu D w)
theorem btw0 {a b : Nat} (ha : a < 2 ^ 31) (hb : b < 2 ^ 31) : btw (nI a) 0 (nI b - 1) = decide (a < b) := by
  unfold btw
  rw [show decide (nI a < 0) = false by simp [nI_pos ha]]
  by_cases h : 0 < b
  · rw [nI_s1 h]
    have := nI_ltI (a := b - 1) (b := a) (by omega) ha
    simp only [this]
    rw [Bool.eq_iff_iff]
    simp
    omega
  · have e : b = 0 := by omega
    subst e
    have : nI 0 - 1 < nI a := by
      rw [show nI 0 - 1 = -1 by decide]
      exact Int32.lt_of_lt_of_le (by decide : (-1 : Int32) < 0) (nI_pos' ha)
    simp [this]
theorem btw12 {a b : Nat} (ha : a < 2 ^ 31) (hb : b < 2 ^ 20) : btw (nI a) 12 (12 + nI b - 1) = (decide (12 ≤ a) && decide (a < 12 + b)) := by
  unfold btw
  rw [show (12 : Int32) = nI 12 from rfl, nI_add, nI_s1 (by omega)]
  have h1 := nI_ltI (a := a) (b := 12) ha (by decide)
  have h2 := nI_ltI (a := 12 + b - 1) (b := a) (by omega) ha
  simp only [h1, h2]
  rw [Bool.eq_iff_iff]
  simp
  omega
variable {f G f' G' : Nat → Nat → Int32} {J J' : Nat → Nat → Int64} {c : Value} {d : Nat} {P : Pn} {D : Dy}
theorem l126 : lg (rwN (ln 126) (G 126)) 0 = G 126 0 ∧ lg (rwN (ln 126) (G 126)) 1 = G 126 1 ∧ lg (rwN (ln 126) (G 126)) 2 = G 126 2 ∧ lg (rwN (ln 126) (G 126)) 3 = G 126 3 := by
  have h : ∀ k, k < 4 → k < ln 126 := by decide
  exact ⟨lg_rw (k := 0) (h 0 (by decide)), lg_rw (k := 1) (h 1 (by decide)), lg_rw (k := 2) (h 2 (by decide)), lg_rw (k := 3) (h 3 (by decide))⟩
theorem n126 : (rwN (ln 126) (G 126)).length = 6 := by rw [rwN_len]; rfl
theorem z126 : (∀ {T : Int32 → Prop}, aI scr (wo f G J c) 126 0 T = T (G 126 0)) ∧ (∀ {T : Int32 → Prop}, aI scr (wo f G J c) 126 1 T = T (G 126 1)) := ⟨wo_aI (k := 0) A_mo_scalar (by decide), wo_aI (k := 1) A_mo_scalar (by decide)⟩
theorem cBm_nI (hP : wfP P) (hm : MS G P) {x y : Nat} (hx : x < 2 ^ 31) (hy : y < 2 ^ 31) : cBm (fun q => rwN (ln q) (G q)) (nI x) (nI y) = ceB P x y := by
  obtain ⟨h1, h2, -⟩ := hP
  unfold cBm ceB
  rw [l126.1, l126.2.1, hm.1.1, hm.1.2.1, btw0 hx (by omega), btw0 hy (by omega)]
theorem m124 (hP : wfP P) (hm : MS G P) {T : Int32 → aH → Prop} : vI scr d 124 [.ref 125] (wo f G J c) T = T (bz (decide (0 < pCo P))) (wo f G J c) := by
  obtain ⟨h1, h2, -⟩ := hP
  unfold wo
  rw [sp124 n126, l126.1, hm.1.1]
  congr 2
  rw [Bool.eq_iff_iff]
  have := nI_leI (a := pCo P) (b := 0) (by omega) (by decide)
  rw [show (0 : Int32) = nI 0 from rfl]
  simp only [this]
  simp
  omega
theorem m125 (hP : wfP P) (hm : MS G P) {x y : Nat} (hx : x < 2 ^ 31) (hy : y < 2 ^ 31) {T : Int32 → aH → Prop} : vI scr (d + 1) 125 [.ref 125, .int (nI x), .int (nI y)] (wo f G J c) T = T (bz (ceB P x y)) (wo f G J c) := by
  unfold wo
  rw [sp125 n126, cBm_nI hP hm hx hy]
theorem m126 (hP : wfP P) (hm : MS G P) {q : Nat} (hq : q < 2 ^ 31) {T : Int32 → aH → Prop} : vI scr (d + 2) 126 [.ref 125, .int (nI q)] (wo f G J c) T = T (bz (thB P q)) (wo f G J c) := by
  unfold wo
  rw [sp126 n126, irm12 hq, div12 hq, cBm_nI hP hm (by omega) (by omega)]
  rfl
theorem m127 (hP : wfP P) (hm : MS G P) {w : Nat} (hw : w < 2 ^ 31) {T : Int32 → aH → Prop} : vI scr (d + 1) 127 [.ref 125, .int (nI w)] (wo f G J c) T = T (bz (decide (w < pPe P))) (wo f G J c) := by
  have := hP.2.2.2.1
  unfold wo
  rw [sp127 n126]
  unfold pBm
  rw [l126.2.2.1, hm.1.2.2.1, btw0 hw (by omega)]
theorem whB_nI (hP : wfP P) (hm : MS G P) {w : Nat} (hw : w < 2 ^ 31) : whB (fun q => rwN (ln q) (G q)) (nI w) = exB P w := by
  have := hP.2.2.2.1
  have := hP.2.2.2.2.1
  unfold whB pBm exB
  rw [l126.2.2.1, hm.1.2.2.1, btw0 hw (by omega), l126.2.2.2, hm.1.2.2.2, btw12 hw (by omega)]
theorem m128 (hP : wfP P) (hm : MS G P) {w : Nat} (hw : w < 2 ^ 31) {T : Int32 → aH → Prop} : vI scr (d + 2) 128 [.ref 125, .int (nI w)] (wo f G J c) T = T (bz (exB P w)) (wo f G J c) := by
  unfold wo
  rw [sp128 n126, whB_nI hP hm hw]
theorem whoF_nI (hP : wfP P) (hm : MS G P) (hd : MD G P D) (hl : wfL P (dPl D)) {q : Nat} (hq : q < 144) : ∀ k w, w + k = 14 → (∀ v, v < w → dPl D v ≠ some q) → whoF (fun q => rwN (ln q) (G q)) (nI q) k w = oI (who (dPl D) q) := by
  intro k
  induction k with
  | zero =>
    intro w hw hn
    rw [who_none (fun v hv => hn v (by omega))]
    rfl
  | succ k ih =>
    intro w hw hn
    unfold whoF
    have e : lg (rwN (ln 135) (G 135)) (nI w) = G 135 w := lg_rw (show w < 14 by omega)
    simp only [whB_nI hP hm (show w < 2 ^ 31 by omega), e]
    by_cases hc : dPl D w = some q
    · obtain ⟨-, -, -, hex⟩ := wfL_lt hP hl hc
      rw [hd.2.1 w hex, hc, if_pos ⟨hex, rfl⟩, (who_iff hP hl).mpr hc]
      rfl
    · rw [if_neg]
      · apply ih (w + 1) (by omega)
        intro v hv
        by_cases e2 : v = w
        · rw [e2]; exact hc
        · exact hn v (by omega)
      · rintro ⟨hex, he⟩
        rw [hd.2.1 w hex] at he
        apply hc
        have : oI (dPl D w) = oI (some q) := he
        rwa [oI_inj (fun a ha => by have := (wfL_lt hP hl ha).2.1; omega) (fun a ha => by cases ha; omega)] at this
theorem m130 (hP : wfP P) (hm : MS G P) (hd : MD G P D) (hl : wfL P (dPl D)) {q : Nat} (hq : q < 144) {T : Int32 → aH → Prop} : vI scr (d + 3) 130 [.ref 125, .int (nI q)] (wo f G J c) T = T (oI (who (dPl D) q)) (wo f G J c) := by
  unfold wo
  rw [sp130 n126 (by rw [rwN_len]; rfl), whoF_nI hP hm hd hl hq 14 0 rfl (fun v hv => by omega)]
theorem m131 (hP : wfP P) (hm : MS G P) (hd : MD G P D) (hl : wfL P (dPl D)) {q : Nat} (hq : q < 144) {T : Int32 → aH → Prop} : vI scr (d + 4) 131 [.ref 125, .int (nI q)] (wo f G J c) T = T (bz (frA P (dPl D) q)) (wo f G J c) := by
  have c1 := hP.1
  have r1 := hP.2.1
  unfold wo
  rw [sp131 (cols := pCo P) (rows := pRo P) ⟨by rw [l126.1, hm.1.1], by rw [l126.2.1, hm.1.2.1], c1, r1⟩ n126 (by rw [rwN_len]; rfl) (by rw [rwN_len]; rfl)]
  congr 2
  unfold frBm frA
  rw [irm12 (by omega), div12 (by omega), cBm_nI hP hm (by omega) (by omega), whoF_nI hP hm hd hl hq 14 0 rfl (fun v hv => by omega)]
  show (thB P q && _) = (thB P q && _)
  cases ht : thB P q with
  | false => rfl
  | true =>
    rw [show lg (rwN (ln 127) (G 127)) (nI q) = G 127 q from lg_rw hq, hm.2.1 q ht, gB_nI (hP.2.2.2.2.2.1 q)]
    congr 2
    cases hw : who (dPl D) q with
    | none => simp [oI]
    | some w =>
      have := (who_some hw).1
      simp [oI, nI_ne_neg (show w < 2 ^ 31 by omega)]
theorem way_m : ∀ w, w < 8 → dxm (nI w) = wyX (nI w) ∧ dym (nI w) = wyY (nI w) := by decide +kernel
theorem m132 (hP : wfP P) (hm : MS G P) {q w : Nat} (hq : q < 144) (hw : w < 8) {T : Int32 → aH → Prop} : vI scr (d + 2) 132 [.ref 125, .int (nI q), .int (nI w)] (wo f G J c) T = T (oI (beO P q w)) (wo f G J c) := by
  unfold wo
  rw [sp132 n126]
  congr 1
  obtain ⟨e1, e2⟩ := way_m w hw
  unfold besm
  rw [e1, e2]
  rw [irm12 (by omega), div12 (by omega), (wy_nI w hw (q % 12) (by omega)).1, (wy_nI w hw (q / 12) (by omega)).2]
  have hx : wX w ≤ 2 := by
    have : ∀ w, w < 8 → wX w ≤ 2 := by decide
    exact this w hw
  have hy : wY w ≤ 2 := by
    have : ∀ w, w < 8 → wY w ≤ 2 := by decide
    exact this w hw
  have n1 : ∀ b, btw (-1) 0 b = false := by intro b; simp [btw, neg1_lt]
  unfold beO
  by_cases c1 : 1 ≤ q % 12 + wX w
  · by_cases c2 : 1 ≤ q / 12 + wY w
    · simp only [c1, c2, if_true, true_and, cBm_nI hP hm (show q % 12 + wX w - 1 < 2 ^ 31 by omega) (show q / 12 + wY w - 1 < 2 ^ 31 by omega)]
      split
      · simp only [LI, NU, oI]
      · rfl
    · simp only [c1, c2, if_true, if_false, cBm, n1, Bool.and_false, Bool.false_eq_true, false_and, and_false]
      rfl
  · simp only [c1, if_false, cBm, n1, Bool.false_and, Bool.false_eq_true, false_and]
    rfl
-- ===== lines =====
theorem mcl_loop (hP : wfP P) (hm : MS G P) {a b : Nat} (ha : thB P a = true) (hb : thB P b = true) {l1 l2 : Int32} {K : Option Value → aH → Prop} :
  ∀ m k, mxD a b - k = m → k ≤ 12 → 0 < k → (∀ i, 0 < i → i < k → i < mxD a b → pKd P (lcell a b i) ≠ 1) → ∀ l10 l11 : Value, E scr false (d + 1) 134 81 [.ref 125, .int l1, .int l2, .int (nI a), .int (nI b), .int (nI (b % 12) - nI (a % 12)), .int (nI (b / 12) - nI (a / 12)), .int (nI (mxD a b)), .int 1, .int (nI k), l10, l11] [] (wo f G J c) K = K (some (.int (bz (clF P a b)))) (wo f G J c) := by
  have ha' := th_lt hP ha
  have hb' := th_lt hP hb
  obtain ⟨h1, h2, h3⟩ := mx_lt ha' hb'
  have e11 : (1 : Int32) &&& 1 = 1 := by decide
  have e00 : (0 : Int32) &&& 1 = 0 := by decide
  intro m
  induction m with
  | zero =>
    intro k hm' hk12 h0 hi l10 l11
    rw [b134_81]
    have hk : mxD a b ≤ k := by omega
    rw [clF_of (fun i q1 q2 => hi i q1 (by omega) q2)]
    simp (disch := omega) only [NC, hk, if_true, e11, true_and, bz_t]
  | succ m ih =>
    intro k hm' hk12 h0 hi l10 l11
    rw [b134_81]
    have hk : ¬ mxD a b ≤ k := by omega
    obtain ⟨-, e1, -, -⟩ := lx_i (mxD a b) h1 k (by omega) h0 (a % 12) (by omega) (b % 12) (by omega) h2
    obtain ⟨-, e2, -, -⟩ := lx_i (mxD a b) h1 k (by omega) h0 (a / 12) (by omega) (b / 12) (by omega) h3
    obtain ⟨t1, t2⟩ := lc_th hP ha hb (by omega : k < mxD a b) h0
    have ne : ¬ (2 : Int32) * nI (mxD a b) = 0 := by
      rw [show (2 : Int32) = nI 2 from rfl, pk_mul]
      intro e
      have := (nI_eq (a := 2 * mxD a b) (b := 0) (by omega) (by omega)).mp e
      omega
    have ec : 12 * (nI (lx (a / 12) (b / 12) (mxD a b) k)) + nI (lx (a % 12) (b % 12) (mxD a b) k) = nI (lcell a b k) := by
      rw [show (12 : Int32) = nI 12 from rfl, pk_mul, nI_add]
      rfl
    have ek := hm.2.1 _ t1
    have hkd := hP.2.2.2.2.2.1 (lcell a b k)
    simp (disch := omega) only [NC, hk, if_false, sp123 ne, irm12, div12, e1, e2, ec, show ¬ ((1 : Int32) = 0) by decide]
    simp (disch := omega) only [NC, mO scr, ek]
    by_cases hx : pKd P (lcell a b k) = 1
    · rw [clF_no h0 (by omega) hx]
      simp only [hx, if_true]
      rw [b134_163, b134_81]
      simp only [if_true, e00, true_and, ite_self, bz_f]
    · simp only [hx, if_false]
      rw [b134_163, nI_1]
      apply ih (k + 1) (by omega) (by omega) (by omega)
      intro i q1 q2 q3
      by_cases e : i = k
      · rw [e]; exact hx
      · exact hi i q1 (by omega) q3
theorem m134 (hP : wfP P) (hm : MS G P) {x y : Nat} (hx : thB P x = true) (hy : thB P y = true) {T : Int32 → aH → Prop} : vI scr (d + 1) 134 [.ref 125, .int (nI x), .int (nI y)] (wo f G J c) T = T (bz (clB P x y)) (wo f G J c) := by
  have hx' := th_lt hP hx
  have hy' := th_lt hP hy
  unfold vI
  rw [u134_ok, en134, b134_0]
  have main : ∀ a b : Nat, thB P a = true → thB P b = true → clB P x y = clF P a b → E scr false (d + 1) 134 21 [.ref 125, .int (nI x), .int (nI y), .int (nI a), .null, .null, .null, .null, .null, .null, .null, .null] [.int (nI b)] (wo f G J c) (fun r h => ∃ x, r = some (Value.int x) ∧ T x h) = T (bz (clB P x y)) (wo f G J c) := by
    intro a b ha hb ec
    have ha' := th_lt hP ha
    have hb' := th_lt hP hb
    obtain ⟨m1, m2, m3⟩ := mx_lt ha' hb'
    have a1 := abs_nI (a % 12) (by omega) (b % 12) (by omega)
    have a2 := abs_nI (a / 12) (by omega) (b / 12) (by omega)
    rw [b134_21]
    simp (disch := omega) only [sp122, irm12, div12, a1, a2, NC, b134_73]
    have fin := mcl_loop (scr := scr) (f := f) (J := J) (c := c) (d := d) hP hm ha hb (l1 := nI x) (l2 := nI y) (K := fun r h => ∃ x, r = some (Value.int x) ∧ T x h) (mxD a b - 1) 1 rfl (by omega) (by omega) (fun i q1 q2 _ => by omega) .null .null
    rw [ec]
    by_cases hle : adf (b % 12) (a % 12) ≤ adf (b / 12) (a / 12)
    · rw [if_pos hle]
      have em : adf (b / 12) (a / 12) = mxD a b := by unfold mxD; split <;> omega
      rw [em]
      refine Eq.trans fin ?_
      simp only [ex_i]
    · rw [if_neg hle]
      have em : adf (b % 12) (a % 12) = mxD a b := by unfold mxD; split <;> omega
      rw [em]
      refine Eq.trans fin ?_
      simp only [ex_i]
  simp (disch := omega) only [b134_10, NC, true_and]
  by_cases h : y ≤ x
  · simp only [h, if_true]
    apply main y x hy hx
    unfold clB
    by_cases h2 : y < x
    · rw [if_pos h2]
    · have : x = y := by omega
      rw [if_neg h2, this]
  · simp only [h, if_false]
    apply main x y hx hy
    unfold clB
    rw [if_neg (by omega)]
-- ===== looking =====
theorem sq_cm (x y : Nat) : sqD x y = sqD y x := by unfold sqD; omega
theorem ds_cm (x y : Nat) : dsN x y = dsN y x := by unfold dsN; rw [sq_cm, sq_cm (x / 12)]
theorem m136 (hP : wfP P) (hm : MS G P) (hd : MD G P D) (hl : wfL P (dPl D)) {a b h ta tb : Nat} (hh : h < 144) (ha : dPl D a = some ta) (hb : dPl D b = some tb) {T : Int32 → aH → Prop} : vI scr (d + 1) 136 [.ref 125, .int (nI a), .int (nI b), .int (nI h)] (wo f G J c) T = T (bz (kyL P (dPl D) h a b)) (wo f G J c) := by
  obtain ⟨a14, ta144, -, aex⟩ := wfL_lt hP hl ha
  obtain ⟨b14, tb144, -, bex⟩ := wfL_lt hP hl hb
  have e1 := hd.2.1 a aex
  have e2 := hd.2.1 b bex
  rw [ha] at e1
  rw [hb] at e2
  unfold vI
  rw [u136_ok, en136, b136_0]
  have d1 := ds_lt ta144 hh
  have d2 := ds_lt tb144 hh
  have g1 : plG (dPl D) a = ta := by simp [plG, ha]
  have g2 : plG (dPl D) b = tb := by simp [plG, hb]
  simp (disch := omega) only [mO scr, e1, e2, oI_s, sp133, apt_nI, NC, LI, b136_71, true_and]
  have k1 : ky P (dPl D) h a = 4096 * dsN ta h + 16 * rk P a + a := by unfold ky; rw [g1, ds_cm, Nat.mod_eq_of_lt (by omega)]
  have k2 : ky P (dPl D) h b = 4096 * dsN tb h + 16 * rk P b + b := by unfold ky; rw [g2, ds_cm, Nat.mod_eq_of_lt (by omega)]
  have r1 := rk_le (P := P) (o := a)
  have r2 := rk_le (P := P) (o := b)
  unfold kyL
  rw [k1, k2]
  have pe12 := hP.2.2.2.1
  have x1 : a < 12 → a < pPe P := by
    intro h
    unfold exB at aex
    simp only [Bool.or_eq_true, Bool.and_eq_true, decide_eq_true_eq] at aex
    omega
  have x2 : b < 12 → b < pPe P := by
    intro h
    unfold exB at bex
    simp only [Bool.or_eq_true, Bool.and_eq_true, decide_eq_true_eq] at bex
    omega
  have g3 := hP.2.2.2.2.2.2.1 a
  have g4 := hP.2.2.2.2.2.2.1 b
  by_cases hds : dsN ta h = dsN tb h
  · rw [if_pos hds]
    by_cases a12 : 12 ≤ a
    · have ra : rk P a = 100 := by simp [rk, show ¬ a < 12 by omega]
      simp only [a12, if_true, ex_i]
      by_cases hba : b ≤ a
      · rw [if_pos hba, decide_eq_false (by
          rw [hds, ra]
          by_cases b12 : 12 ≤ b
          · have rb : rk P b = 100 := by simp [rk, show ¬ b < 12 by omega]
            omega
          · omega)]
        rfl
      · have rb : rk P b = 100 := by simp [rk, show ¬ b < 12 by omega]
        rw [if_neg hba, decide_eq_true (by omega)]
        rfl
    · by_cases b12 : 12 ≤ b
      · have rb : rk P b = 100 := by simp [rk, show ¬ b < 12 by omega]
        have ra : rk P a = 99 - pAg P a := by simp [rk, show a < 12 by omega]
        simp only [a12, b12, if_true, if_false, ex_i]
        rw [if_neg (by omega), decide_eq_true (by omega)]
        rfl
      · have ra : rk P a = 99 - pAg P a := by simp [rk, show a < 12 by omega]
        have rb : rk P b = 99 - pAg P b := by simp [rk, show b < 12 by omega]
        simp (disch := omega) only [a12, b12, if_false, mO scr, hm.2.2.1 a (x1 (by omega)), hm.2.2.1 b (x2 (by omega)), NC, ex_i]
        by_cases hag : pAg P a = pAg P b
        · simp only [hag, if_true]
          by_cases hba : b ≤ a
          · rw [if_pos hba, decide_eq_false (by omega)]
            rfl
          · rw [if_neg hba, decide_eq_true (by omega)]
            rfl
        · simp only [hag, if_false]
          by_cases hle : pAg P a ≤ pAg P b
          · rw [if_pos hle, decide_eq_false (by omega)]
            rfl
          · rw [if_neg hle, decide_eq_true (by omega)]
            rfl
  · rw [if_neg hds]
    simp only [ex_i]
    by_cases hle : dsN tb h ≤ dsN ta h
    · rw [if_pos hle, decide_eq_false (by omega)]
      rfl
    · rw [if_neg hle, decide_eq_true (by omega)]
      rfl
end M1
