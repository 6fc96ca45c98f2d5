variable {scr : List Int32}
-- ===== questions =====
section TU
variable {f G f' G' : Nat → Nat → Int32} {J J' : Nat → Nat → Int64} {c : Value} {d : Nat} {T T' : Tp} {S S' : Sn} {Z Z' : Lz} {I I' : Im} {P : Pn} {D : Dy} {B : Nat → Nat} {L : Lw}
theorem dc_m2 {x : Int32} (h : dc x = 2147483648) : ¬ dc (x - 2) < 12 := by
  intro h2
  obtain ⟨k, hk, e, -⟩ := dc_ex h2 (by decide)
  have e2 : x = nI (k + 2) := by
    rw [← nI_add, ← e]
    show x = x - 2 + 2
    rw [Int32.sub_add_cancel]
  rw [e2, dc_I (by omega)] at h
  omega
/-- a question of the class, as it is told -/
theorem cq {r : Nat} {ans : Int32} {K : Int32 → aH → Prop} (hI : IC f G J T S Z I) (hA : WA T S Z I) (hK : ∀ f' G' J' c', CF f G J f' G' J' → IC f' G' J' T S Z I → K ans (wo f' G' J' c')) : ∀ f' G' J', FP f G J f' G' J' → KC f' G' J' (26 + 4 * r) S.1 (gdA S.1) (Z.2 r) S.2.1 → K ans (wo f' G' J' c) :=
  fun f' G' J' fp hk => hK f' G' J' c (CF_fp fp) (IC_fp fp hk hA.2.2.1.1 hI)
theorem mq {ans : Int32} {K : Int32 → aH → Prop} (hM : IM f G T S Z I) (hK : ∀ f' G' J', MF f G J f' G' J' → IM f' G' T S Z I → K ans (wo f' G' J' c)) : ∀ f' G' J', FQ f G J f' G' J' → (∀ k, G' 140 k = G 140 k) → K ans (wo f' G' J' c) :=
  fun f' G' J' fq h140 => hK f' G' J' (MF_fq fq) (IM_fq fq (fun h0 q hq => by rw [h140]; exact hM.2.2.2.2 h0 q hq) hM)
-- ===== ahead =====
theorem op12 {l n w : Int32} {C F : aH → Prop} (hI : IC f G J T S Z I) (hM : IM f G T S Z I) (hA : WA T S Z I) (hC : NX C) : vI scr (d + 20) 104 [.ref 0, .int l, .int n, .int w] (wo f G J c) (fun x1 h => vI scr (d + 20) 196 [.ref 125, .int l, .int n, .int w] h (fun x' h' => if x1 = x' then C h' else F h')) := by
  obtain ⟨hP, hwS, hoc, hQ, hH⟩ := hA.2.1
  have hZ := hA.2.2.1.1
  have p12 := hP.2.2.2.1
  have bl := dc_le l
  have bn := dc_le n
  have bw := dc_le w
  obtain ⟨hs, hd, -⟩ := hI.2.1
  obtain ⟨ms, md, -⟩ := hM.2.1
  by_cases h : (0 < pRo S.1 ∧ dc l < Z.1) ∧ dc n ≤ 200 ∧ (dc w ≤ 1 ∨ (2 ≤ dc w ∧ dc w - 2 < pPe S.1))
  · obtain ⟨⟨h0, h1⟩, h2, h3⟩ := h
    obtain ⟨r, hr, rfl, er⟩ := dc_ex h1 (by omega)
    obtain ⟨j, hj, rfl, ej⟩ := dc_ex (show dc n < 201 by omega) (by omega)
    obtain ⟨k, hk, rfl, ek⟩ := dc_ex (show dc w < 14 by omega) (by omega)
    rw [ej] at h2
    rw [ek] at h3
    have hL := hA.2.2.1.2 r hr
    have hkc := KC_of hI hr h0
    have hwh : k < 2 ∨ k - 2 < pPe S.1 := by omega
    apply op_all (ans := fsA S.1 (gdA S.1) (Z.2 r) S.2.1 j k) (T' := T) (S' := S) (Z' := Z) (I' := I) hM hA _ _ hC
    · intro K hK
      have fin : E scr false (d + 20) 104 45 [.ref 0, .int (nI r), .int (nI j), .int (nI k)] [] (wo f G J c) (fun r h => ∃ x, r = some (Value.int x) ∧ K x h) := by
        rw [b104_45]
        simp (disch := omega) only [tO scr, laR]
        apply w27 (isL (by omega)) hP hL hwS hkc (by omega) hwh
        intro f1 G1 J1 fp hk1
        exact ⟨_, rfl, cq hI hA hK f1 G1 J1 fp hk1⟩
      unfold vI
      rw [u104_ok, en104, b104_0]
      simp (disch := omega) only [c119 hI hA, er, h0, hr, and_self, decide_true, bz_t, n10, if_false, NC, show (200 : Int32) = nI 200 from rfl, show ¬ 200 < j by omega, if_true, tO scr, true_and]
      by_cases hk1 : k ≤ 1
      · rw [if_pos hk1]; exact fin
      · have hk2 : k - 2 < pPe S.1 := by omega
        rw [if_neg hk1, show nI k - 2 = nI (k - 2) from pk_sub (b := 2) (by omega), c53 hP hs, dc_I (by omega)]
        simp only [hk2, decide_true, bz_t, n10, if_false]
        exact fin
    · intro f G J c hM K hK
      have hx := CM_of hM hr h0
      obtain ⟨ms, md, -⟩ := hM.2.1
      have fin : E scr false (d + 20) 196 31 [.ref 125, .int (nI r), .int (nI j), .int (nI k), .null, .null] [] (wo f G J c) (fun r h => ∃ x, r = some (Value.int x) ∧ K x h) := by
        apply ahead_31 hP hL (by omega) (by omega) hwS hoc hx md hwh
        intro f1 G1 J1 fq h140
        exact ⟨_, rfl, mq hM hK f1 G1 J1 fq h140⟩
      unfold vI
      rw [u196_ok, en196, b196_0]
      simp (disch := omega) only [m195 hA hM, s121, er, ej, ek, h0, hr, h2, and_self, decide_true, bz_t, n10, if_false, true_and]
      by_cases hk1 : k ≤ 1
      · simp only [hk1, decide_true, bz_t, n10, if_false]; exact fin
      · have hk2 : k - 2 < pPe S.1 := by omega
        simp only [hk1, decide_false, bz_f, if_true]
        rw [show nI k - 2 = nI (k - 2) from pk_sub (b := 2) (by omega), m127' hP ms, dc_I (by omega)]
        simp only [hk2, decide_true, bz_t, n10, if_false]
        exact fin
  · have hw2 : dc w = 2147483648 ∨ dc w ≤ 1 ∨ (2 ≤ dc w ∧ dc w < 2147483648 ∧ dc (w - 2) = dc w - 2) := by
      rcases dc_c w with hw | ⟨k, hk, rfl⟩
      · exact Or.inl (dc_n hw)
      · rw [dc_I hk]
        by_cases e : k ≤ 1
        · exact Or.inr (Or.inl e)
        · refine Or.inr (Or.inr ⟨by omega, by omega, ?_⟩)
          rw [show nI k - 2 = nI (k - 2) from pk_sub (b := 2) (by omega), dc_I (by omega)]
    have hw3 : dc w = 2147483648 → ¬ dc (w - 2) < 12 := dc_m2
    apply op_no (ans := -1) hI hM hA _ _ hC
    · intro K
      unfold vI
      rw [u104_ok, en104, b104_0]
      simp only [c119 hI hA, tO scr, c53 hP hs, bz_0, decide_eq_false_iff_not, DB n, DB w, ex_i, true_and]
      repeat' split
      all_goals first | rfl | (exfalso; omega)
    · intro K
      unfold vI
      rw [u196_ok, en196, b196_0]
      simp only [m195 hA hM, m127' hP ms, s121, bz_0, decide_eq_false_iff_not, ex_i, true_and]
      repeat' split
      all_goals first | rfl | (exfalso; omega)
-- ===== round =====
theorem op13 {l w : Int32} {C F : aH → Prop} (hI : IC f G J T S Z I) (hM : IM f G T S Z I) (hA : WA T S Z I) (hC : NX C) : vI scr (d + 20) 105 [.ref 0, .int l, .int w] (wo f G J c) (fun x1 h => vI scr (d + 20) 198 [.ref 125, .int l, .int w] h (fun x' h' => if x1 = x' then C h' else F h')) := by
  obtain ⟨hP, hwS, hoc, hQ, hH⟩ := hA.2.1
  have hZ := hA.2.2.1.1
  have bl := dc_le l
  have bw := dc_le w
  have z0 : dc 0 = 0 := by decide
  by_cases h : (0 < pRo S.1 ∧ dc l < Z.1) ∧ dc w ≤ 1
  · obtain ⟨⟨h0, h1⟩, h2⟩ := h
    obtain ⟨r, hr, rfl, er⟩ := dc_ex h1 (by omega)
    obtain ⟨k, hk, rfl, ek⟩ := dc_ex (show dc w < 2 by omega) (by omega)
    have hL := hA.2.2.1.2 r hr
    have hkc := KC_of hI hr h0
    apply op_rel (R := RA (fun i => dPl (wkD S.1 (gdA S.1) (Z.2 r) i S.2.1)) k) (T' := T) (S' := S) (Z' := Z) (I' := I) (fun x x' hx hx' => RA_uniq hx hx') hM hA _ _ hC
    · intro K hK
      unfold vI
      rw [u105_ok, en105, b105_0]
      simp (disch := omega) only [c119 hI hA, er, h0, hr, and_self, decide_true, bz_t, n10, if_false, NC, show k ≤ 1 by omega, if_true, tO scr, laR, true_and]
      apply w28 (isL (by omega)) hP hL hwS hkc hk
      intro f1 G1 J1 ans fp hk1 hR
      exact ⟨_, rfl, hK f1 G1 J1 c ans hR (CF_fp fp) (IC_fp fp hk1 hZ hI)⟩
    · intro f G J c hM K hK
      have hx := CM_of hM hr h0
      obtain ⟨ms, md, -⟩ := hM.2.1
      unfold vI
      rw [u198_ok, en198, b198_0]
      simp (disch := omega) only [m195 hA hM, s121, er, ek, z0, h0, hr, show k ≤ 1 by omega, show 0 ≤ 200 by omega, and_self, decide_true, bz_t, n10, if_false, m193, true_and]
      apply round_35 hP hL (by omega) hwS hk hx md
      intro f1 G1 J1 ans fq h140 hR
      exact ⟨_, rfl, hK f1 G1 J1 ans hR (MF_fq fq) (IM_fq fq (fun h0 q hq => by rw [h140]; exact hM.2.2.2.2 h0 q hq) hM)⟩
  · apply op_no (ans := -1) hI hM hA _ _ hC
    · intro K
      unfold vI
      rw [u105_ok, en105, b105_0]
      simp only [c119 hI hA, bz_0, decide_eq_false_iff_not, DB w, ex_i, true_and]
      repeat' split
      all_goals first | rfl | (exfalso; omega)
    · intro K
      unfold vI
      rw [u198_ok, en198, b198_0]
      simp only [m195 hA hM, s121, z0, bz_0, decide_eq_false_iff_not, ex_i, true_and]
      repeat' split
      all_goals first | rfl | (exfalso; omega)
-- ===== files =====
theorem op14 {l w : Int32} {C F : aH → Prop} (hI : IC f G J T S Z I) (hM : IM f G T S Z I) (hA : WA T S Z I) (hC : NX C) : vI scr (d + 20) 106 [.ref 0, .int l, .int w] (wo f G J c) (fun x1 h => vI scr (d + 20) 201 [.ref 125, .int l, .int w] h (fun x' h' => if x1 = x' then C h' else F h')) := by
  obtain ⟨hP, hwS, hoc, hQ, hH⟩ := hA.2.1
  have hZ := hA.2.2.1.1
  have bl := dc_le l
  have bw := dc_le w
  have z0 : dc 0 = 0 := by decide
  obtain ⟨hs, hd, hq, hck, hB⟩ := hI.2.1
  by_cases h : (0 < pRo S.1 ∧ dc l < Z.1) ∧ dc w ≤ 2
  · obtain ⟨⟨h0, h1⟩, h2⟩ := h
    obtain ⟨r, hr, rfl, er⟩ := dc_ex h1 (by omega)
    obtain ⟨k, hk, rfl, ek⟩ := dc_ex (show dc w < 3 by omega) (by omega)
    have hL := hA.2.2.1.2 r hr
    have hkc := KC_of hI hr h0
    apply op_all (ans := flR S.1 (dPl S.2.1) (fol S.1 (gdA S.1) (Z.2 r) (dPl S.2.1)) k) (T' := T) (S' := S) (Z' := Z) (I' := I) hM hA _ _ hC
    · intro K hK
      unfold vI
      rw [u106_ok, en106, b106_0]
      simp (disch := omega) only [c119 hI hA, er, h0, hr, and_self, decide_true, bz_t, n10, if_false, NC, LI, show k ≤ 2 by omega, if_true, tO scr, laR, true_and]
      apply w80 isS3 (isL (by omega)) hP hL hwS.1 hd (KC_x hkc hs)
      intro f1 G1 J1 hd1 ck1 fr1 h58 hf1 hG1
      have fin := hK f1 G1 J1 c ⟨fun o k ho => hf1 o k (by omega), fun q k hq => hG1 q k (by omega) (by omega), fun q k hq => fr1.2.2 q k (by omega) (by omega) (by omega)⟩ (IC_cg (fun o k ho => hf1 o k (by omega)) (fun q k hq => hG1 q k (by omega) (by omega)) hZ ⟨RS_fr isS3 fr1 hs, hd1, RQ_e (fun k => hf1 3 k (by omega)) (fun i hi k => hG1 _ k (by omega) (by omega)) hq, ck1, fun _ => TG_fr isS3 fr1 (hB h0)⟩ hI)
      have hs1 := RS_fr isS3 fr1 hs
      have ok := fol_ok (B := gdA S.1) (L := Z.2 r) hP hwS.1
      unfold flR at fin
      by_cases k0 : k = 0
      · rw [if_pos k0] at fin ⊢
        simp only [tO scr]
        apply w31 hP hs1 hd1 hwS.1 ok h58
        exact ⟨_, rfl, fin⟩
      · rw [if_neg k0] at fin ⊢
        simp only [tO scr]
        by_cases k2 : k = 2
        · rw [if_neg (by omega)] at fin
          rw [if_pos k2, b106_62]
          apply w32 hP hs1 ok h58
          rw [if_neg n10]
          exact ⟨_, rfl, fin⟩
        · rw [if_pos (by omega)] at fin
          rw [if_neg k2, b106_62]
          apply w32 hP hs1 ok h58
          rw [if_pos rfl]
          exact ⟨_, rfl, fin⟩
    · intro f G J c hM K hK
      have hx := CM_of hM hr h0
      obtain ⟨ms, md, -⟩ := hM.2.1
      unfold vI
      rw [u201_ok, en201, b201_0]
      simp (disch := omega) only [m195 hA hM, s121, er, ek, z0, h0, hr, show k ≤ 2 by omega, show 0 ≤ 200 by omega, and_self, decide_true, bz_t, n10, if_false, true_and]
      apply files_25 hP hL (by omega) hwS.1 hk hx md
      intro f1 G1 J1 fq h140
      exact ⟨_, rfl, mq hM hK f1 G1 J1 fq h140⟩
  · apply op_no (ans := -1) hI hM hA _ _ hC
    · intro K
      unfold vI
      rw [u106_ok, en106, b106_0]
      simp only [c119 hI hA, bz_0, decide_eq_false_iff_not, DB w, ex_i, true_and]
      repeat' split
      all_goals first | rfl | (exfalso; omega)
    · intro K
      unfold vI
      rw [u201_ok, en201, b201_0]
      simp only [m195 hA hM, s121, z0, bz_0, decide_eq_false_iff_not, ex_i, true_and]
      repeat' split
      all_goals first | rfl | (exfalso; omega)
-- ===== without =====
theorem op15 {l q n : Int32} {C F : aH → Prop} (hI : IC f G J T S Z I) (hM : IM f G T S Z I) (hA : WA T S Z I) (hC : NX C) : vI scr (d + 20) 107 [.ref 0, .int l, .int q, .int n] (wo f G J c) (fun x1 h => vI scr (d + 20) 203 [.ref 125, .int l, .int q, .int n] h (fun x' h' => if x1 = x' then C h' else F h')) := by
  obtain ⟨hP, hwS, hoc, hQ, hH⟩ := hA.2.1
  have hZ := hA.2.2.1.1
  have bl := dc_le l
  have bn := dc_le n
  obtain ⟨hs, hd, hq, hck, hB⟩ := hI.2.1
  obtain ⟨ms, md, -⟩ := hM.2.1
  by_cases h : (0 < pRo S.1 ∧ dc l < Z.1) ∧ dc n ≤ 200
  · obtain ⟨⟨h0, h1⟩, h2⟩ := h
    obtain ⟨r, hr, rfl, er⟩ := dc_ex h1 (by omega)
    obtain ⟨j, hj, rfl, ej⟩ := dc_ex (show dc n < 201 by omega) (by omega)
    rw [ej] at h2
    have hL := hA.2.2.1.2 r hr
    have hkc := KC_of hI hr h0
    cases hex : exB S.1 (dc q) with
    | false =>
      apply op_no (ans := -1) hI hM hA _ _ hC
      · intro K
        unfold vI
        rw [u107_ok, en107, b107_0]
        simp (disch := omega) only [c119 hI hA, er, h0, hr, and_self, decide_true, bz_t, n10, if_false, NC, show (200 : Int32) = nI 200 from rfl, h2, if_true, tO scr, c55 hP hs, hex, bz_f, ex_i, true_and]
      · intro K
        unfold vI
        rw [u203_ok, en203, b203_0]
        simp (disch := omega) only [m195 hA hM, m128' hP ms, er, ej, h0, hr, h2, and_self, decide_true, bz_t, n10, if_false, hex, bz_f, if_true, b203_27, ex_i, true_and]
    | true =>
      have h14 := ex_lt hP hex
      obtain ⟨w, hw, rfl, ew⟩ := dc_ex h14 (by omega)
      have hex' : exB S.1 w = true := by rw [ew] at hex; exact hex
      have e1 := hd.2.2.2.1 w hw
      have g1 := md.2.1 w hex'
      cases ho : dPl S.2.1 w with
      | none =>
        rw [ho, oI_n] at e1 g1
        apply op_no (ans := -1) hI hM hA _ _ hC
        · intro K
          unfold vI
          rw [u107_ok, en107, b107_0]
          simp (disch := omega) only [c119 hI hA, er, h0, hr, and_self, decide_true, bz_t, n10, if_false, NC, show (200 : Int32) = nI 200 from rfl, h2, if_true, tO scr, c55 hP hs, hex, sC scr isS3, e1, show ¬ ((0 : Int32) ≤ -1) by decide, ex_i, true_and]
        · intro K
          unfold vI
          rw [u203_ok, en203, b203_0]
          simp (disch := omega) only [m195 hA hM, m128' hP ms, er, ej, h0, hr, h2, and_self, decide_true, bz_t, n10, if_false, hex, mO scr, g1, if_true, b203_27, ex_i, true_and]
      | some t =>
        have t144 := (wfL_lt hP hwS.1 ho).2.1
        rw [ho, oI_s] at e1
        apply op_all (ans := nI (miN S.1 (gdA S.1) (Z.2 r) S.2.1 j w)) (T' := T) (S' := S) (Z' := Z) (I' := I) hM hA _ _ hC
        · intro K hK
          unfold vI
          rw [u107_ok, en107, b107_0]
          simp (disch := omega) only [c119 hI hA, er, h0, hr, and_self, decide_true, bz_t, n10, if_false, NC, show (200 : Int32) = nI 200 from rfl, h2, if_true, tO scr, c55 hP hs, hex, sC scr isS3, e1, laR, true_and]
          apply w34 (isL (by omega)) hP hL hwS hkc (by omega) hw
          intro f1 G1 J1 fp hk1
          exact ⟨_, rfl, cq hI hA hK f1 G1 J1 fp hk1⟩
        · intro f G J c hM K hK
          have hx := CM_of hM hr h0
          obtain ⟨ms, md, -⟩ := hM.2.1
          have g1 := md.2.1 w hex'
          rw [ho, oI_s] at g1
          unfold vI
          rw [u203_ok, en203, b203_0]
          simp (disch := omega) only [m195 hA hM, m128' hP ms, er, ej, h0, hr, h2, and_self, decide_true, bz_t, n10, if_false, hex, mO scr, g1, NC, true_and]
          apply m202 hP hL (by omega) (by omega) hwS hx md hex'
          intro f1 G1 J1 fq h140
          exact ⟨_, rfl, mq hM hK f1 G1 J1 fq h140⟩
  · apply op_no (ans := -1) hI hM hA _ _ hC
    · intro K
      unfold vI
      rw [u107_ok, en107, b107_0]
      simp only [c119 hI hA, bz_0, decide_eq_false_iff_not, DB n, ex_i, true_and]
      repeat' split
      all_goals first | rfl | (exfalso; omega)
    · intro K
      unfold vI
      rw [u203_ok, en203, b203_0]
      simp only [m195 hA hM, bz_0, decide_eq_false_iff_not, b203_27, ex_i, true_and]
      repeat' split
      all_goals first | rfl | (exfalso; omega)
-- ===== leader =====
theorem op16 {l n w : Int32} {C F : aH → Prop} (hI : IC f G J T S Z I) (hM : IM f G T S Z I) (hA : WA T S Z I) (hC : NX C) : vI scr (d + 20) 108 [.ref 0, .int l, .int n, .int w] (wo f G J c) (fun x1 h => vI scr (d + 20) 204 [.ref 125, .int l, .int n, .int w] h (fun x' h' => if x1 = x' then C h' else F h')) := by
  obtain ⟨hP, hwS, hoc, hQ, hH⟩ := hA.2.1
  have hZ := hA.2.2.1.1
  have bl := dc_le l
  have bn := dc_le n
  have bw := dc_le w
  by_cases h : (0 < pRo S.1 ∧ dc l < Z.1) ∧ dc n ≤ 200 ∧ dc w ≤ 1
  · obtain ⟨⟨h0, h1⟩, h2, h3⟩ := h
    obtain ⟨r, hr, rfl, er⟩ := dc_ex h1 (by omega)
    obtain ⟨j, hj, rfl, ej⟩ := dc_ex (show dc n < 201 by omega) (by omega)
    obtain ⟨k, hk, rfl, ek⟩ := dc_ex (show dc w < 2 by omega) (by omega)
    rw [ej] at h2
    have hL := hA.2.2.1.2 r hr
    have hkc := KC_of hI hr h0
    apply op_all (ans := ldR (ldA S.1 (gdA S.1) (Z.2 r) S.2.1 j 14) k) (T' := T) (S' := S) (Z' := Z) (I' := I) hM hA _ _ hC
    · intro K hK
      unfold vI
      rw [u108_ok, en108, b108_0]
      simp (disch := omega) only [c119 hI hA, er, h0, hr, and_self, decide_true, bz_t, n10, if_false, NC, show (200 : Int32) = nI 200 from rfl, show ¬ 200 < j by omega, show k ≤ 1 by omega, if_true, tO scr, laR, true_and]
      apply w35 (isL (by omega)) hP hL hwS hkc (by omega) hk
      intro f1 G1 J1 fp hk1
      exact ⟨_, rfl, cq hI hA hK f1 G1 J1 fp hk1⟩
    · intro f G J c hM K hK
      have hx := CM_of hM hr h0
      obtain ⟨ms, md, -⟩ := hM.2.1
      unfold vI
      rw [u204_ok, en204, b204_0]
      simp (disch := omega) only [m195 hA hM, s121, er, ej, ek, h0, hr, h2, show k ≤ 1 by omega, and_self, decide_true, bz_t, n10, if_false, true_and]
      have := mlead_loop (scr := scr) (c := c) (d := d + 10) hP hL (by omega) (by omega) hwS hk (K := fun r h => ∃ x, r = some (Value.int x) ∧ K x h) 14 0 rfl (by omega) f G J hx md (fun f1 G1 J1 fq h140 => ⟨_, rfl, mq hM hK f1 G1 J1 fq h140⟩) .null
      exact this
  · apply op_no (ans := -1) hI hM hA _ _ hC
    · intro K
      unfold vI
      rw [u108_ok, en108, b108_0]
      simp only [c119 hI hA, bz_0, decide_eq_false_iff_not, DB n, DB w, ex_i, true_and]
      repeat' split
      all_goals first | rfl | (exfalso; omega)
    · intro K
      unfold vI
      rw [u204_ok, en204, b204_0]
      simp only [m195 hA hM, s121, bz_0, decide_eq_false_iff_not, ex_i, true_and]
      repeat' split
      all_goals first | rfl | (exfalso; omega)
end TU
