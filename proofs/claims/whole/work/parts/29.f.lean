variable {scr : List Int32}
-- ===== more questions =====
section TV
variable {f G f' G' : Nat → Nat → Int32} {J J' : Nat → Nat → Int64} {c : Value} {d : Nat} {T T' : Tp} {S S' : Sn} {Z Z' : Lz} {I I' : Im} {P : Pn} {D : Dy} {B : Nat → Nat} {L : Lw}
theorem z0 : dc 0 = 0 := by decide
-- ===== post =====
theorem op17 {l n w : Int32} {C F : aH → Prop} (hI : IC f G J T S Z I) (hM : IM f G T S Z I) (hA : WA T S Z I) (hC : NX C) : vI scr (d + 20) 109 [.ref 0, .int l, .int n, .int w] (wo f G J c) (fun x1 h => vI scr (d + 20) 206 [.ref 125, .int l, .int n, .int w] h (fun x' h' => if x1 = x' then C h' else F h')) := by
  obtain ⟨hP, hwS, hoc, hQ, hH⟩ := hA.2.1
  have hZ := hA.2.2.1.1
  have p2 := hP.2.2.2.2.1
  have bl := dc_le l
  have bn := dc_le n
  have bw := dc_le w
  obtain ⟨hs, hd, -⟩ := hI.2.1
  obtain ⟨ms, md, -⟩ := hM.2.1
  have e4 := hs.1.2.2.2.2
  have eh : (nI (pHe S.1) = 0) = (pHe S.1 = 0) := by rw [show (0 : Int32) = nI 0 from rfl, nI_eq (by omega) (by decide)]
  by_cases h : (0 < pRo S.1 ∧ dc l < Z.1) ∧ dc n ≤ 60 ∧ dc w ≤ 1 ∧ 0 < pHe S.1
  · obtain ⟨⟨h0, h1⟩, h2, h3, h5⟩ := h
    obtain ⟨r, hr, rfl, er⟩ := dc_ex h1 (by omega)
    obtain ⟨j, hj, rfl, ej⟩ := dc_ex (show dc n < 61 by omega) (by omega)
    obtain ⟨k, hk, rfl, ek⟩ := dc_ex (show dc w < 2 by omega) (by omega)
    rw [ej] at h2
    obtain ⟨hm, hh⟩ := hH 0 h5
    have hh : dPl S.2.1 12 = some hm := hh
    have hm144 := (wfL_lt hP hwS.1 hh).2.1
    have hL := hA.2.2.1.2 r hr
    have hkc := KC_of hI hr h0
    apply op_all (ans := ldR (poA S.1 (Z.2 r) S.2.1 j hm 144) k) (T' := T) (S' := S) (Z' := Z) (I' := I) hM hA _ _ hC
    · intro K hK
      unfold vI
      rw [u109_ok, en109, b109_0]
      simp (disch := omega) only [c119 hI hA, er, h0, hr, and_self, decide_true, bz_t, n10, if_false, NC, show (60 : Int32) = nI 60 from rfl, show ¬ 60 < j by omega, show k ≤ 1 by omega, if_true, tO scr, sC scr isS3, e4, show ¬ pHe S.1 = 0 by omega, laR, true_and]
      apply w39 (isL (by omega)) hP hL hwS hoc hh hkc (by omega) hk
      intro f1 G1 J1 fp hk1
      exact ⟨_, rfl, cq hI hA hK f1 G1 J1 fp hk1⟩
    · intro f G J c hM K hK
      have hx := CM_of hM hr h0
      obtain ⟨ms, md, -⟩ := hM.2.1
      have g1 := md.2.1 12 (by simp [exB]; omega)
      rw [hh, oI_s] at g1
      unfold vI
      rw [u206_ok, en206, b206_0]
      simp (disch := omega) only [m195 hA hM, m185 hP ms, s121, z0, er, ej, ek, h0, hr, h5, show j ≤ 200 by omega, show k ≤ 1 by omega, and_self, decide_true, bz_t, n10, if_false, NC, show (60 : Int32) = nI 60 from rfl, show ¬ 60 < j by omega, show (12 : Int32) = nI 12 from rfl, mO scr, g1, true_and]
      have := mpost_loop (scr := scr) (c := c) (d := d + 10) hP hL (by omega) (by omega) hwS hoc hh hk (K := fun r h => ∃ x, r = some (Value.int x) ∧ K x h) 144 0 rfl (by omega) f G J hx md (fun f1 G1 J1 fq h140 => ⟨_, rfl, mq hM hK f1 G1 J1 fq h140⟩) .null
      exact this
  · apply op_no (ans := -1) hI hM hA _ _ hC
    · intro K
      unfold vI
      rw [u109_ok, en109, b109_0]
      simp only [c119 hI hA, tO scr, sC scr isS3, e4, eh, bz_0, decide_eq_false_iff_not, DB n, DB w, ex_i, true_and]
      repeat' split
      all_goals first | rfl | (exfalso; omega)
    · intro K
      unfold vI
      rw [u206_ok, en206, b206_0]
      simp only [m195 hA hM, m185 hP ms, s121, z0, bz_0, decide_eq_false_iff_not, DB n, ex_i, true_and]
      repeat' split
      all_goals first | rfl | (exfalso; omega)
-- ===== lead =====
theorem p9_loop {l1 l3 l4 : Int32} {n : Nat} (hn : n ≤ 3) {h : aH} {K : Option Value → aH → Prop} (hK : E scr false d 209 96 [.ref 125, .int l1, .int (nI n), .int l3, .int l4, .int (nI (9 ^ n)), .int 0, .int (-1), .int 0, .null] [] h K) : ∀ u i, n - i = u → i ≤ n → E scr false d 209 68 [.ref 125, .int l1, .int (nI n), .int l3, .int l4, .int (nI (9 ^ i)), .int (nI i), .null, .null, .null] [] h K := by
  intro u
  induction u with
  | zero =>
    intro i hu hi
    have e : i = n := by omega
    subst e
    rw [b209_68]
    simp (disch := omega) only [NC, Nat.le_refl, if_true]
    exact hK
  | succ u ih =>
    intro i hu hi
    rw [b209_68]
    simp (disch := omega) only [NC, show ¬ n ≤ i by omega, if_false, show (9 : Int32) = nI 9 from rfl, pk_mul, nI_1, ← Nat.pow_succ]
    exact ih (i + 1) (by omega) (by omega)
theorem op18 {l n m w : Int32} {C F : aH → Prop} (hI : IC f G J T S Z I) (hM : IM f G T S Z I) (hA : WA T S Z I) (hC : NX C) : vI scr (d + 20) 110 [.ref 0, .int l, .int n, .int m, .int w] (wo f G J c) (fun x1 h => vI scr (d + 20) 209 [.ref 125, .int l, .int n, .int m, .int w] h (fun x' h' => if x1 = x' then C h' else F h')) := by
  obtain ⟨hP, hwS, hoc, hQ, hH⟩ := hA.2.1
  have hZ := hA.2.2.1.1
  have p2 := hP.2.2.2.2.1
  have bl := dc_le l
  have bn := dc_le n
  have bm := dc_le m
  have bw := dc_le w
  obtain ⟨hs, hd, -⟩ := hI.2.1
  obtain ⟨ms, md, -⟩ := hM.2.1
  have e4 := hs.1.2.2.2.2
  have eh : (nI (pHe S.1) = 0) = (pHe S.1 = 0) := by rw [show (0 : Int32) = nI 0 from rfl, nI_eq (by omega) (by decide)]
  by_cases h : (0 < pRo S.1 ∧ dc l < Z.1) ∧ dc n ≤ 3 ∧ dc m ≤ 12 ∧ dc w ≤ 3 ∧ 0 < pHe S.1
  · obtain ⟨⟨h0, h1⟩, h2, h3, h4, h5⟩ := h
    obtain ⟨r, hr, rfl, er⟩ := dc_ex h1 (by omega)
    obtain ⟨j, hj, rfl, ej⟩ := dc_ex (show dc n < 4 by omega) (by omega)
    obtain ⟨i, hi, rfl, ei⟩ := dc_ex (show dc m < 13 by omega) (by omega)
    obtain ⟨k, hk, rfl, ek⟩ := dc_ex (show dc w < 4 by omega) (by omega)
    obtain ⟨hm, hh⟩ := hH 0 h5
    have hh : dPl S.2.1 12 = some hm := hh
    have hL := hA.2.2.1.2 r hr
    have hkc := KC_of hI hr h0
    apply op_all (ans := if k = 0 ∨ k ≤ j then coR (coA S.1 (gdA S.1) (Z.2 r) S.2.1 j i (9 ^ j)) j k else -2) (T' := T) (S' := S) (Z' := Z) (I' := I) hM hA _ _ hC
    · intro K hK
      unfold vI
      rw [u110_ok, en110, b110_0]
      simp (disch := omega) only [c119 hI hA, er, h0, hr, and_self, decide_true, bz_t, n10, if_false, NC, LI, show ¬ 3 < j by omega, show i ≤ 12 by omega, show ¬ 3 < k by omega, if_true, tO scr, sC scr isS3, e4, show ¬ pHe S.1 = 0 by omega, laR, true_and]
      by_cases hkj : k ≤ j
      · rw [if_pos (Or.inr hkj)] at hK
        rw [if_pos hkj]
        apply w40 (isL (by omega)) hP hL hwS hoc hh (by omega) (by omega) hkj hkc
        intro f1 G1 J1 fp hk1
        exact ⟨_, rfl, cq hI hA hK f1 G1 J1 fp hk1⟩
      · rw [if_neg (by omega)] at hK
        rw [if_neg hkj]
        exact ⟨_, rfl, hK f G J c CF_rf hI⟩
    · intro f G J c hM K hK
      have hx := CM_of hM hr h0
      obtain ⟨ms, md, -⟩ := hM.2.1
      unfold vI
      rw [u209_ok, en209, b209_0]
      simp (disch := omega) only [m124' hA hM, m172 hA hM, m185 hP ms, s121, z0, er, ej, ei, ek, h0, hr, h5, show j ≤ 3 by omega, show i ≤ 12 by omega, show k ≤ 3 by omega, decide_true, bz_t, n10, if_false, true_and]
      have := mcrs_loop (scr := scr) (c := c) (d := d + 10) hP hL (show r < 6 by omega) hwS hoc hh (show j ≤ 3 by omega) (show i < 2 ^ 20 by omega) (show k ≤ 3 by omega) (K := fun r h => ∃ x, r = some (Value.int x) ∧ K x h) (9 ^ j) 0 rfl (Nat.zero_le _) f G J hx md (fun f1 G1 J1 fq h140 => ⟨_, rfl, mq hM hK f1 G1 J1 fq h140⟩) .null
      exact p9_loop (show j ≤ 3 by omega) this j 0 rfl (by omega)
  · apply op_no (ans := -1) hI hM hA _ _ hC
    · intro K
      unfold vI
      rw [u110_ok, en110, b110_0]
      simp only [c119 hI hA, tO scr, sC scr isS3, e4, eh, bz_0, decide_eq_false_iff_not, DB n, DB m, DB w, ex_i, true_and]
      repeat' split
      all_goals first | rfl | (exfalso; omega)
    · intro K
      unfold vI
      rw [u209_ok, en209, b209_0]
      simp only [m124' hA hM, m172 hA hM, m185 hP ms, s121, z0, bz_0, decide_eq_false_iff_not, ex_i, true_and]
      repeat' split
      all_goals first | rfl | (exfalso; omega)
-- ===== wall =====
theorem op19 {l n : Int32} {C F : aH → Prop} (hI : IC f G J T S Z I) (hM : IM f G T S Z I) (hA : WA T S Z I) (hC : NX C) : vI scr (d + 20) 111 [.ref 0, .int l, .int n] (wo f G J c) (fun x1 h => vI scr (d + 20) 210 [.ref 125, .int l, .int n] h (fun x' h' => if x1 = x' then C h' else F h')) := by
  obtain ⟨hP, hwS, hoc, hQ, hH⟩ := hA.2.1
  have hZ := hA.2.2.1.1
  have bl := dc_le l
  have bn := dc_le n
  by_cases h : (0 < pRo S.1 ∧ dc l < Z.1) ∧ dc n ≤ 60
  · obtain ⟨⟨h0, h1⟩, h2⟩ := h
    obtain ⟨r, hr, rfl, er⟩ := dc_ex h1 (by omega)
    obtain ⟨j, hj, rfl, ej⟩ := dc_ex (show dc n < 61 by omega) (by omega)
    rw [ej] at h2
    have hL := hA.2.2.1.2 r hr
    have hkc := KC_of hI hr h0
    apply op_all (ans := waI (waA S.1 (Z.2 r) S.2.1 j 144)) (T' := T) (S' := S) (Z' := Z) (I' := I) hM hA _ _ hC
    · intro K hK
      unfold vI
      rw [u111_ok, en111, b111_0]
      simp (disch := omega) only [c119 hI hA, er, h0, hr, and_self, decide_true, bz_t, n10, if_false, NC, show (60 : Int32) = nI 60 from rfl, h2, if_true, tO scr, laR, true_and]
      apply w43 (isL (by omega)) hP hL hwS hoc hkc (by omega)
      intro f1 G1 J1 fp hk1
      exact ⟨_, rfl, cq hI hA hK f1 G1 J1 fp hk1⟩
    · intro f G J c hM K hK
      have hx := CM_of hM hr h0
      obtain ⟨ms, md, -⟩ := hM.2.1
      unfold vI
      rw [u210_ok, en210, b210_0]
      simp (disch := omega) only [m195 hA hM, er, ej, h0, hr, show j ≤ 200 by omega, and_self, decide_true, bz_t, n10, if_false, NC, show (60 : Int32) = nI 60 from rfl, h2, if_true, true_and]
      have := wall_23 (scr := scr) (f := f) (J := J) (c := c) (d := d + 10) hP hL (show r < 6 by omega) (show j < 2 ^ 20 by omega) hwS hoc hx md (K := fun r h => ∃ x, r = some (Value.int x) ∧ K x h) (fun f1 G1 J1 fq h140 => ⟨_, rfl, hK f1 G1 J1 (MF_fq fq) (IM_fq fq (fun _ => h140) hM)⟩)
      exact this
  · apply op_no (ans := -1) hI hM hA _ _ hC
    · intro K
      unfold vI
      rw [u111_ok, en111, b111_0]
      simp only [c119 hI hA, bz_0, decide_eq_false_iff_not, DB n, ex_i, true_and]
      repeat' split
      all_goals first | rfl | (exfalso; omega)
    · intro K
      unfold vI
      rw [u210_ok, en210, b210_0]
      simp only [m195 hA hM, bz_0, decide_eq_false_iff_not, DB n, ex_i, true_and]
      repeat' split
      all_goals first | rfl | (exfalso; omega)
-- ===== ago =====
theorem m213 {r : Nat} (hA : WA T S Z I) (hM : IM f G T S Z I) (hr : r < Z.1) (h0 : 0 < pRo S.1) {K : Int32 → aH → Prop} (hK : ∀ f' G' J', MF f G J f' G' J' → IM f' G' T S Z I → K (agA S.1 (gdA S.1) (Z.2 r) S.2.1) (wo f' G' J' c)) : vI scr (d + 20) 213 [.ref 125, .int (nI r)] (wo f G J c) K := by
  obtain ⟨hP, hwS, hoc, hQ, hH⟩ := hA.2.1
  have hZ := hA.2.2.1.1
  have p12 := hP.2.2.2.1
  have hco := hP.1
  have hro := hP.2.1
  have hiff := hP.2.2.1
  have hmul : pCo S.1 * pRo S.1 ≤ 12 * 12 := Nat.mul_le_mul hco hro
  have hpos : 0 < pCo S.1 * pRo S.1 := Nat.mul_pos (by omega) h0
  have hL := hA.2.2.1.2 r hr
  have hx := CM_of hM hr h0
  have er := dc_I (k := r) (by omega)
  obtain ⟨ms, md, -⟩ := hM.2.1
  have cl := cn_le (pl := dPl S.2.1) (m := pPe S.1)
  have s0 := ms.1.1
  have s1 := ms.1.2.1
  have s2 := ms.1.2.2.1
  have es : nI (pPe S.1) - nI (pPe S.1 - cnP (dPl S.2.1) (pPe S.1)) = nI (cnP (dPl S.2.1) (pPe S.1)) := by
    rw [pk_sub (by omega)]
    congr 1
    omega
  have fin0 := hK f G J MF_rf hM
  unfold agA at fin0
  unfold vI
  rw [u213_ok, en213, b213_0]
  simp (disch := omega) only [m195 hA hM, z0, er, h0, hr, Nat.zero_le, and_self, decide_true, bz_t, n10, if_false, mO scr, z126, show (2 : Int32) = nI 2 from rfl, s0, s1, s2, m182 hP hwS.1 ms md, es, LI, NC, pk_mul, true_and]
  by_cases h3 : 3 < cnP (dPl S.2.1) (pPe S.1)
  · rw [if_pos h3] at fin0 ⊢
    exact ⟨_, rfl, fin0⟩
  · rw [if_neg h3] at fin0 ⊢
    by_cases h36 : pCo S.1 * pRo S.1 ≤ 36
    · rw [if_pos h36]
      obtain ⟨o1, o2⟩ := okH_th hP hwS.1
      apply mac_loop hP hwS.1 (by omega) (pPe S.1) 0 rfl (by omega) G ms md (fun i hi => by simp [cnP] at hi)
      intro G1 a1 a2
      have ms1 : MS G1 S.1 := MS_163 a1 ms
      have s2' := ms1.1.2.2.1
      rw [b213_57]
      simp (disch := omega) only [mO scr, show (2 : Int32) = nI 2 from rfl, s2', NC, Nat.le_refl, if_true, m166 A_mo_place A_mo_goal (by decide) rfl, m193]
      have cp : ∀ q k, q ≠ 164 → cpR G1 135 164 q k = G1 q k := fun q k hq => by unfold cpR; rw [if_neg hq]
      have kg : ∀ q k, ¬ (154 ≤ q ∧ q ≤ 156) → q ≠ 163 → q ≠ 164 → kpG (cpR G1 135 164) q k = G q k := fun q k b1 b2 b3 => by rw [kp_n b1, cp q k b3, a1 q k b2]
      have fq0 : FQ f G J f (kpG (cpR G1 135 164)) J := ⟨fun _ _ _ => rfl, fun q k _ _ _ b => kg q k (by omega) (by omega) (by omega), fun _ _ _ _ => rfl⟩
      have hx2 : CM (kpG (cpR G1 135 164)) r S.1 (gdA S.1) (Z.2 r) := CM_cg (fun q k hq => kg q k (by omega) (by omega) (by omega)) hx
      have md2 : MD (kpG (cpR G1 135 164)) S.1 S.2.1 := MD_fq fq0 md
      have kp2 : KPT (kpG (cpR G1 135 164)) := by
        intro k
        have q1 : kpG (cpR G1 135 164) 154 k = cpR G1 135 164 126 k := by rw [kp_at]; rfl
        have q2 : kpG (cpR G1 135 164) 155 k = cpR G1 135 164 135 k := by rw [kp_at]; rfl
        have q3 : kpG (cpR G1 135 164) 156 k = cpR G1 135 164 136 k := by rw [kp_at]; rfl
        rw [q1, q2, q3, kp_n (q := 126) (by omega), kp_n (q := 135) (by omega), kp_n (q := 136) (by omega)]
        exact ⟨rfl, rfl, rfl⟩
      have last := mag_loop (scr := scr) (c := c) (d := d + 11) (l4 := nI (cnP (dPl S.2.1) (pPe S.1))) hP hL (show r < 6 by omega) hpos h36 o1 o2 (by omega) hwS (K := fun r h => ∃ x, r = some (Value.int x) ∧ K x h) ((pCo S.1 * pRo S.1) ^ cnP (dPl S.2.1) (pPe S.1)) 0 rfl (Nat.zero_le _) f (kpG (cpR G1 135 164)) J hx2 md2 kp2 (fun k hk => by rw [kp_n (q := 163) (by omega), cp 163 k (by decide)]; exact a2 k hk) (fun w hw => by
        have q4 : kpG (cpR G1 135 164) 164 w = G1 135 w := by rw [kp_n (q := 164) (by omega)]; rfl
        rw [q4, a1 135 w (by decide)]
        exact md.2.1 w (by simp [exB, hw])) (fun f3 G3 J3 fq3 h140 => by
        have fq := FQ_tr fq0 fq3
        have this := hK f3 G3 J3 (MF_fq fq) (IM_fq fq (fun h0 q hq => by rw [h140, kg 140 q (by omega) (by omega) (by omega)]; exact hM.2.2.2.2 h0 q hq) hM)
        unfold agA at this
        rw [if_neg h3, if_pos h36, sC_sM hP o1 _ _ (Nat.le_refl _) (by
          rw [← lfT_0 hP o1 o2]
          exact wfL_lfT hwS.1 _)] at this
        exact ⟨_, rfl, this⟩) .null .null .null
      exact pw_loop h36 (by omega) last _ 0 rfl (by omega)
    · rw [if_neg h36] at fin0 ⊢
      exact ⟨_, rfl, fin0⟩
theorem op20 {l : Int32} {C F : aH → Prop} (hI : IC f G J T S Z I) (hM : IM f G T S Z I) (hA : WA T S Z I) (hC : NX C) : vI scr (d + 20) 112 [.ref 0, .int l] (wo f G J c) (fun x1 h => vI scr (d + 20) 213 [.ref 125, .int l] h (fun x' h' => if x1 = x' then C h' else F h')) := by
  obtain ⟨hP, hwS, hoc, hQ, hH⟩ := hA.2.1
  have hZ := hA.2.2.1.1
  have bl := dc_le l
  by_cases h : 0 < pRo S.1 ∧ dc l < Z.1
  · obtain ⟨h0, h1⟩ := h
    obtain ⟨r, hr, rfl, er⟩ := dc_ex h1 (by omega)
    have hL := hA.2.2.1.2 r hr
    have hkc := KC_of hI hr h0
    apply op_all (ans := agA S.1 (gdA S.1) (Z.2 r) S.2.1) (T' := T) (S' := S) (Z' := Z) (I' := I) hM hA _ _ hC
    · intro K hK
      unfold vI
      rw [u112_ok, en112, b112_0]
      simp (disch := omega) only [c119 hI hA, er, h0, hr, and_self, decide_true, bz_t, n10, if_false, tO scr, laR, true_and]
      apply w44 (isL (by omega)) hP hL hwS hkc
      intro f1 G1 J1 fp hk1
      exact ⟨_, rfl, cq hI hA hK f1 G1 J1 fp hk1⟩
    · intro f G J c hM K hK
      exact m213 hA hM hr h0 hK
  · apply op_no (ans := -1) hI hM hA _ _ hC
    · intro K
      unfold vI
      rw [u112_ok, en112, b112_0]
      simp only [c119 hI hA, h, decide_false, bz_f, if_true, ex_i, true_and]
    · intro K
      unfold vI
      rw [u213_ok, en213, b213_0]
      simp only [m195 hA hM, z0, h, false_and, decide_false, bz_f, if_true, ex_i, true_and]
-- ===== judged =====
theorem op22 {l : Int32} {C F : aH → Prop} (hI : IC f G J T S Z I) (hM : IM f G T S Z I) (hA : WA T S Z I) (hC : NX C) : vI scr (d + 20) 114 [.ref 0, .int l] (wo f G J c) (fun x1 h => vI scr (d + 20) 215 [.ref 125, .int l] h (fun x' h' => if x1 = x' then C h' else F h')) := by
  obtain ⟨hP, hwS, hoc, hQ, hH⟩ := hA.2.1
  have hZ := hA.2.2.1.1
  have bl := dc_le l
  by_cases h : 0 < pRo S.1 ∧ dc l < Z.1
  · obtain ⟨h0, h1⟩ := h
    obtain ⟨r, hr, rfl, er⟩ := dc_ex h1 (by omega)
    have hL := hA.2.2.1.2 r hr
    have hkc := KC_of hI hr h0
    apply op_rel (R := fun ans => ∃ x, JC S.1 (gdA S.1) (Z.2 r) S.2.1 S.2.2 (mxQ S.2.2 (qN S.2.2)) x ∧ ans = jgI S.2.2 x) (T' := T) (S' := S) (Z' := Z) (I' := I) _ hM hA _ _ hC
    · rintro x x' ⟨a, ha, rfl⟩ ⟨b, hb, rfl⟩
      rw [JC_uniq ha hb]
    · intro K hK
      unfold vI
      rw [u114_ok, en114, b114_0]
      simp (disch := omega) only [c119 hI hA, er, h0, hr, and_self, decide_true, bz_t, n10, if_false, tO scr, laR, true_and]
      apply w47 (isL (by omega)) hP hL hQ hwS hkc hI.2.1.2.2.1
      intro f1 G1 J1 x fp hk1 hJ
      exact ⟨_, rfl, hK f1 G1 J1 c _ ⟨x, hJ, rfl⟩ (CF_fp fp) (IC_fp fp hk1 hZ hI)⟩
    · intro f G J c hM K hK
      have hx := CM_of hM hr h0
      obtain ⟨ms, md, mq⟩ := hM.2.1
      unfold vI
      rw [u215_ok, en215, b215_0]
      simp (disch := omega) only [m195 hA hM, z0, er, h0, hr, Nat.zero_le, and_self, decide_true, bz_t, n10, if_false, true_and]
      apply judged_15 hP hL hQ (by omega) hwS hx md mq
      intro f1 G1 J1 x fq h140 hJ
      exact ⟨_, rfl, hK f1 G1 J1 _ ⟨x, hJ, rfl⟩ (MF_fq fq) (IM_fq fq (fun h0 q hq => by rw [h140]; exact hM.2.2.2.2 h0 q hq) hM)⟩
  · apply op_no (ans := -1) hI hM hA _ _ hC
    · intro K
      unfold vI
      rw [u114_ok, en114, b114_0]
      simp only [c119 hI hA, h, decide_false, bz_f, if_true, ex_i, true_and]
    · intro K
      unfold vI
      rw [u215_ok, en215, b215_0]
      simp only [m195 hA hM, z0, h, false_and, decide_false, bz_f, if_true, ex_i, true_and]
end TV
