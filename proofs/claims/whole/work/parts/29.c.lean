variable {scr : List Int32}
-- ===== a call of both =====
section TR
variable {f G f' G' : Nat → Nat → Int32} {J J' : Nat → Nat → Int64} {c : Value} {d : Nat} {T T' : Tp} {S S' : Sn} {Z Z' : Lz} {I I' : Im}
/-- what comes behind a call -/
def NX (C : aH → Prop) : Prop := ∀ f G J c T S Z I, IC f G J T S Z I → IM f G T S Z I → WA T S Z I → C (wo f G J c)
theorem op_all {y z : Nat} {a : List Value} {ans : Int32} {C F : aH → Prop} (hM : IM f G T S Z I) (hA' : WA T' S' Z' I')
    (hc : ∀ K : Int32 → aH → Prop, (∀ f' G' J' c', CF f G J f' G' J' → IC f' G' J' T' S' Z' I' → K ans (wo f' G' J' c')) → vI scr d y (.ref 0 :: a) (wo f G J c) K)
    (hm : ∀ f G J c, IM f G T S Z I → ∀ K : Int32 → aH → Prop, (∀ f' G' J', MF f G J f' G' J' → IM f' G' T' S' Z' I' → K ans (wo f' G' J' c)) → vI scr d z (.ref 125 :: a) (wo f G J c) K) (hC : NX C) :
    vI scr d y (.ref 0 :: a) (wo f G J c) (fun x h => vI scr d z (.ref 125 :: a) h (fun x' h' => if x = x' then C h' else F h')) := by
  apply hc
  intro f1 G1 J1 c1 cf hI1
  apply hm f1 G1 J1 c1 (IM_cf cf hM)
  intro f2 G2 J2 mf hM2
  rw [if_pos rfl]
  exact hC f2 G2 J2 c1 T' S' Z' I' (IC_mf mf hA'.2.2.1.1 hI1) hM2 hA'
/-- the same where the answer is told by what it must be -/
theorem op_rel {y z : Nat} {a : List Value} {R : Int32 → Prop} {C F : aH → Prop} (hu : ∀ x x', R x → R x' → x = x') (hM : IM f G T S Z I) (hA' : WA T' S' Z' I')
    (hc : ∀ K : Int32 → aH → Prop, (∀ f' G' J' c' ans, R ans → CF f G J f' G' J' → IC f' G' J' T' S' Z' I' → K ans (wo f' G' J' c')) → vI scr d y (.ref 0 :: a) (wo f G J c) K)
    (hm : ∀ f G J c, IM f G T S Z I → ∀ K : Int32 → aH → Prop, (∀ f' G' J' ans, R ans → MF f G J f' G' J' → IM f' G' T' S' Z' I' → K ans (wo f' G' J' c)) → vI scr d z (.ref 125 :: a) (wo f G J c) K) (hC : NX C) :
    vI scr d y (.ref 0 :: a) (wo f G J c) (fun x h => vI scr d z (.ref 125 :: a) h (fun x' h' => if x = x' then C h' else F h')) := by
  apply hc
  intro f1 G1 J1 c1 x hx cf hI1
  apply hm f1 G1 J1 c1 (IM_cf cf hM)
  intro f2 G2 J2 x' hx' mf hM2
  rw [if_pos (hu x x' hx hx')]
  exact hC f2 G2 J2 c1 T' S' Z' I' (IC_mf mf hA'.2.2.1.1 hI1) hM2 hA'
/-- nothing happens -/
theorem op_no {y z : Nat} {a : List Value} {ans : Int32} {C F : aH → Prop} (hI : IC f G J T S Z I) (hM : IM f G T S Z I) (hA : WA T S Z I)
    (hc : ∀ K : Int32 → aH → Prop, vI scr d y (.ref 0 :: a) (wo f G J c) K = K ans (wo f G J c))
    (hm : ∀ K : Int32 → aH → Prop, vI scr d z (.ref 125 :: a) (wo f G J c) K = K ans (wo f G J c)) (hC : NX C) :
    vI scr d y (.ref 0 :: a) (wo f G J c) (fun x h => vI scr d z (.ref 125 :: a) h (fun x' h' => if x = x' then C h' else F h')) := by
  rw [hc, hm, if_pos rfl]
  exact hC f G J c T S Z I hI hM hA
theorem dc_ex {x : Int32} {n : Nat} (h : dc x < n) (hn : n ≤ 2 ^ 31) : ∃ j, j < n ∧ x = nI j ∧ dc x = j := ⟨dc x, h, dc_of (n := n - 1) (by omega) (by omega), rfl⟩
theorem DW (w : Int32) : (w = 0) = (dc w = 0) ∧ (w = 1) = (dc w = 1) ∧ (w = 2) = (dc w = 2) ∧ (w = 3) = (dc w = 3) ∧ (w = 4) = (dc w = 4) ∧ (w = 5) = (dc w = 5) ∧ (w = 6) = (dc w = 6) ∧ (w = 7) = (dc w = 7) ∧ (w = 8) = (dc w = 8) ∧ (w = 9) = (dc w = 9) :=
  ⟨(DC w).2.2.2.2.1, (DC w).2.2.2.2.2.1, (DK w (n := 2) (by decide)).2.2.2.2, (DK w (n := 3) (by decide)).2.2.2.2, (DK w (n := 4) (by decide)).2.2.2.2, (DK w (n := 5) (by decide)).2.2.2.2, (DK w (n := 6) (by decide)).2.2.2.2, (DK w (n := 7) (by decide)).2.2.2.2, (DK w (n := 8) (by decide)).2.2.2.2, (DK w (n := 9) (by decide)).2.2.2.2⟩
theorem iteK (K : Int32 → aH → Prop) {h : aH} {p : Prop} [Decidable p] {a b : Int32} : K (if p then a else b) h = if p then K a h else K b h := by split <;> rfl
-- ===== person =====
def peA (P : Pn) (D : Dy) (j w : Nat) : Int32 := if w = 0 then (match dPl D j with
    | none => -1
    | some t => nI (t % 12)) else if w = 1 then (match dPl D j with
    | none => -1
    | some t => nI (t / 12)) else if w = 2 then nI (pAg P j) else if w = 3 then nI (pSo P j) else if w = 4 then dOu D j else -1
theorem op4 {q w : Int32} {C F : aH → Prop} (hI : IC f G J T S Z I) (hM : IM f G T S Z I) (hA : WA T S Z I) (hC : NX C) : vI scr (d + 20) 96 [.ref 0, .int q, .int w] (wo f G J c) (fun x h => vI scr (d + 20) 184 [.ref 125, .int q, .int w] h (fun x' h' => if x = x' then C h' else F h')) := by
  obtain ⟨hP, hwS, hoc, hQ, hH⟩ := hA.2.1
  have p12 := hP.2.2.2.1
  obtain ⟨hs, hd, -⟩ := hI.2.1
  obtain ⟨ms, md, -⟩ := hM.2.1
  by_cases h : dc q < pPe S.1
  · obtain ⟨j, hj, rfl, -⟩ := dc_ex h (by omega)
    have ej := dc_I (k := j) (by omega)
    have e1 := hd.2.2.2.1 j (by omega)
    have e2 := hs.2.2.1 j hj
    have e3 := hs.2.2.2.1 j hj
    have e4 := hd.2.2.2.2 j (by omega)
    have g1 := md.2.1 j (by simp [exB, hj])
    have g2 := ms.2.2.1 j hj
    have g3 := ms.2.2.2 j hj
    have g4 := md.2.2 j (by omega)
    have t144 : ∀ t, dPl S.2.1 j = some t → t < 144 := fun t ht => (wfL_lt hP hwS.1 ht).2.1
    apply op_no (ans := peA S.1 S.2.1 j (dc w)) hI hM hA _ _ hC
    · intro K
      unfold vI
      rw [u96_ok, en96, b96_0]
      simp (disch := omega) only [tO scr, c53 hP hs, ej, hj, decide_true, bz_t, show ¬ ((1 : Int32) = 0) by decide, if_false, sC scr isS3, e1, DW w, b96_60, b96_73, b96_86, b96_96, b96_106, b96_116, e2, e3, e4, ex_i, true_and]
      unfold peA
      cases ho : dPl S.2.1 j with
      | none => simp only [oI_n, show ¬ ((0 : Int32) ≤ -1) by decide, if_false, iteK K]
      | some t =>
        have := t144 t ho
        simp (disch := omega) only [oI_s, NC, if_true, irm12, div12, iteK K]
    · intro K
      unfold vI
      rw [u184_ok, en184, b184_0]
      simp (disch := omega) only [m127' hP ms, ej, hj, decide_true, bz_t, show ¬ ((1 : Int32) = 0) by decide, if_false, mO scr, g1, DW w, b184_44, b184_68, b184_92, b184_99, b184_106, b184_113, g2, g3, g4, ex_i, true_and]
      unfold peA
      cases ho : dPl S.2.1 j with
      | none => simp only [oI_n, if_true, iteK K]
      | some t =>
        have := t144 t ho
        simp (disch := omega) only [oI_s, NC, if_false, irm12, div12, iteK K]
  · apply op_no (ans := -1) hI hM hA _ _ hC
    · intro K
      unfold vI
      rw [u96_ok, en96, b96_0]
      simp only [tO scr, c53 hP hs, h, decide_false, bz_f, if_true, ex_i, true_and]
    · intro K
      unfold vI
      rw [u184_ok, en184, b184_0]
      simp only [m127' hP ms, h, decide_false, bz_f, if_true, ex_i, true_and]
-- ===== herald =====
theorem op5 {q w : Int32} {C F : aH → Prop} (hI : IC f G J T S Z I) (hM : IM f G T S Z I) (hA : WA T S Z I) (hC : NX C) : vI scr (d + 20) 97 [.ref 0, .int q, .int w] (wo f G J c) (fun x h => vI scr (d + 20) 186 [.ref 125, .int q, .int w] h (fun x' h' => if x = x' then C h' else F h')) := by
  obtain ⟨hP, hwS, hoc, hQ, hH⟩ := hA.2.1
  have p2 := hP.2.2.2.2.1
  obtain ⟨hs, hd, -⟩ := hI.2.1
  obtain ⟨ms, md, -⟩ := hM.2.1
  by_cases h : dc q < pHe S.1
  · obtain ⟨j, hj, rfl, -⟩ := dc_ex h (by omega)
    have ej := dc_I (k := j) (by omega)
    obtain ⟨t, ht⟩ := hH j hj
    have t144 := (wfL_lt hP hwS.1 ht).2.1
    have e1 := hd.2.2.2.1 (12 + j) (by omega)
    have g1 := md.2.1 (12 + j) (by simp [exB]; omega)
    rw [ht, oI_s] at e1 g1
    apply op_no (ans := if dc w = 0 then nI (t % 12) else if dc w = 1 then nI (t / 12) else -1) hI hM hA _ _ hC
    · intro K
      unfold vI
      rw [u97_ok, en97, b97_0]
      simp (disch := omega) only [tO scr, c54 hP hs, ej, hj, decide_true, bz_t, show ¬ ((1 : Int32) = 0) by decide, if_false, show (12 : Int32) = nI 12 from rfl, nI_add, sC scr isS3, e1, irm_nI, pk_div, ex_i, true_and]
      simp only [DC w]
      rcases dc_c w with hw | ⟨k, hk, rfl⟩
      · rw [dc_n hw]; simp
      · rw [dc_I hk]
        by_cases h0 : k = 0
        · simp [h0]
        · by_cases h1 : k = 1
          · simp [h1]
          · rw [if_neg (by omega), if_neg (by omega), if_neg h0, if_neg h1]
    · intro K
      unfold vI
      rw [u186_ok, en186, b186_0]
      simp (disch := omega) only [m185 hP ms, s121, ej, hj, decide_true, bz_t, show ¬ ((1 : Int32) = 0) by decide, if_false, show (12 : Int32) = nI 12 from rfl, nI_add, mO scr, g1, irm_nI, pk_div, ex_i, true_and, b186_18, bz_0, decide_eq_false_iff_not]
      simp only [DC w]
      by_cases h0 : dc w = 0
      · simp [h0]
      · by_cases h1 : dc w = 1
        · simp [h1]
        · rw [if_pos (by omega), if_neg h0, if_neg h1]
  · apply op_no (ans := -1) hI hM hA _ _ hC
    · intro K
      unfold vI
      rw [u97_ok, en97, b97_0]
      simp only [tO scr, c54 hP hs, h, decide_false, bz_f, if_true, ex_i, true_and]
    · intro K
      unfold vI
      rw [u186_ok, en186, b186_0]
      simp only [m185 hP ms, h, decide_false, bz_f, if_true, ex_i, true_and, b186_18]
-- ===== cell =====
theorem op6 {x y w : Int32} {C F : aH → Prop} (hI : IC f G J T S Z I) (hM : IM f G T S Z I) (hA : WA T S Z I) (hC : NX C) : vI scr (d + 20) 98 [.ref 0, .int x, .int y, .int w] (wo f G J c) (fun x1 h => vI scr (d + 20) 187 [.ref 125, .int x, .int y, .int w] h (fun x' h' => if x1 = x' then C h' else F h')) := by
  obtain ⟨hP, hwS, hoc, hQ, hH⟩ := hA.2.1
  have c12 := hP.1
  have r12 := hP.2.1
  obtain ⟨hs, hd, -, -, hB⟩ := hI.2.1
  obtain ⟨ms, md, -⟩ := hM.2.1
  have hB' := hM.2.2.2.2
  by_cases h : ceB S.1 (dc x) (dc y) = true
  · have h' := h
    simp only [ceB, Bool.and_eq_true, decide_eq_true_eq] at h'
    obtain ⟨a, ha, rfl, ea⟩ := dc_ex h'.1 (by omega)
    obtain ⟨b, hb, rfl, eb⟩ := dc_ex h'.2 (by omega)
    have h0 : 0 < pRo S.1 := by omega
    have q144 : 12 * b + a < 144 := by omega
    have ht : thB S.1 (12 * b + a) = true := by
      unfold thB
      rw [show (12 * b + a) % 12 = a by omega, show (12 * b + a) / 12 = b by omega]
      rw [ea, eb] at h
      exact h
    have e1 := hs.2.1 _ ht
    have e2 := hd.2.2.1 _ q144
    have e3 := hB h0 _ q144
    have g1 := ms.2.1 _ ht
    have g3 := hB' h0 _ q144
    apply op_no (ans := if dc w = 0 then nI (pKd S.1 (12 * b + a)) else if dc w = 1 then oI (who (dPl S.2.1) (12 * b + a)) else if dc w = 2 then nI (gdA S.1 (12 * b + a)) else -1) hI hM hA _ _ hC
    · intro K
      unfold vI
      rw [u98_ok, en98, b98_0]
      simp (disch := omega) only [tO scr, c56 hP hs, h, bz_t, show ¬ ((1 : Int32) = 0) by decide, if_false, DW w, b98_48, b98_59, b98_70, b98_81, show (12 : Int32) = nI 12 from rfl, pk_mul, nI_add, sC scr isS3, gRr scr, e1, e2, e3, ex_i, true_and, iteK K]
    · intro K
      unfold vI
      rw [u187_ok, en187, b187_0]
      simp (disch := omega) only [m125' hP ms, s121, h, bz_t, show ¬ ((1 : Int32) = 0) by decide, if_false, DW w, show (12 : Int32) = nI 12 from rfl, pk_mul, nI_add, mO scr, g1, g3, m130 hP ms md hwS.1, ex_i, true_and, bz_0, decide_eq_false_iff_not]
      by_cases h0 : dc w = 0
      · simp [h0]
      · by_cases h1 : dc w = 1
        · simp [h1]
        · by_cases h2 : dc w = 2
          · simp [h2]
          · rw [if_pos (by omega), if_neg h0, if_neg h1, if_neg h2]
  · have h : ceB S.1 (dc x) (dc y) = false := by simpa using h
    apply op_no (ans := -1) hI hM hA _ _ hC
    · intro K
      unfold vI
      rw [u98_ok, en98, b98_0]
      simp only [tO scr, c56 hP hs, h, bz_f, if_true, ex_i, true_and]
    · intro K
      unfold vI
      rw [u187_ok, en187, b187_0]
      simp only [m125' hP ms, h, bz_f, if_true, ex_i, true_and]
-- ===== sees, seen =====
theorem IC_fl (h : FRl f G J f' G' J') (hc : CK J' S.1) (hZ : Z.1 ≤ 6) (hI : IC f G J T S Z I) : CF f G J f' G' J' ∧ IC f' G' J' T S Z I := by
  obtain ⟨h1, h2, h3⟩ := h
  obtain ⟨b1, b2, b3, b4, b5⟩ := hI.2.1
  refine ⟨⟨fun o k ho => h1 o k (by omega), fun q k hq => h2 q k (by omega), fun q k hq => h3 q k (by omega) (by omega)⟩, ?_⟩
  refine IC_cg (fun o k ho => h1 o k (by omega)) (fun q k hq => h2 q k (by omega)) hZ ⟨RS_e (fun k => h1 3 k (by omega)) (fun i hi k => h2 _ k (by omega)) b1, RD_e (fun k => h1 3 k (by omega)) (fun i hi k => h2 _ k (by omega)) b2, RQ_e (fun k => h1 3 k (by omega)) (fun i hi k => h2 _ k (by omega)) b3, hc, ?_⟩ hI
  intro h0 q hq
  rw [h2 51 q (by omega)]
  exact b5 h0 q hq
theorem IM_lk (h1 : ∀ o k, ¬ (o = 125 ∧ k = 18) → f' o k = f o k) (h2 : ∀ q k, q ≠ 142 → G' q k = G q k) (h3 : ∀ q k, q ≠ 151 → q ≠ 152 → J' q k = J q k) (hM : IM f G T S Z I) : MF f G J f' G' J' ∧ IM f' G' T S Z I := by
  have fq : FQ f G J f' G' J' := ⟨fun o k a => h1 o k (by omega), fun q k _ _ a _ => h2 q k a, h3⟩
  refine ⟨MF_fq fq, IM_fq fq ?_ hM⟩
  intro h0 q hq
  rw [h2 140 q (by omega)]
  exact hM.2.2.2.2 h0 q hq
theorem op7 {q : Int32} {C F : aH → Prop} (hI : IC f G J T S Z I) (hM : IM f G T S Z I) (hA : WA T S Z I) (hC : NX C) : vI scr (d + 20) 99 [.ref 0, .int q] (wo f G J c) (fun x h => vI scr (d + 20) 188 [.ref 125, .int q] h (fun x' h' => if x = x' then C h' else F h')) := by
  obtain ⟨hP, hwS, hoc, hQ, hH⟩ := hA.2.1
  have hZ := hA.2.2.1.1
  obtain ⟨hs, hd, -, hck, -⟩ := hI.2.1
  obtain ⟨ms, md, -⟩ := hM.2.1
  cases h : exB S.1 (dc q) with
  | false =>
    apply op_no (ans := -1) hI hM hA _ _ hC
    · intro K
      unfold vI
      rw [u99_ok, en99, b99_0]
      simp only [tO scr, c55 hP hs, h, bz_f, if_true, ex_i, true_and]
    · intro K
      unfold vI
      rw [u188_ok, en188, b188_0]
      simp only [m128' hP ms, h, bz_f, if_true, ex_i, true_and]
  | true =>
    have h14 := ex_lt hP h
    obtain ⟨j, hj, rfl, ej⟩ := dc_ex h14 (by omega)
    have e1 := hd.2.2.2.1 j hj
    have g1 := md.2.1 j (by rw [ej] at h; exact h)
    cases ho : dPl S.2.1 j with
    | none =>
      rw [ho, oI_n] at e1 g1
      apply op_no (ans := -2) hI hM hA _ _ hC
      · intro K
        unfold vI
        rw [u99_ok, en99, b99_0]
        simp (disch := omega) only [tO scr, c55 hP hs, h, bz_t, show ¬ ((1 : Int32) = 0) by decide, if_false, sC scr isS3, e1, show ¬ ((0 : Int32) ≤ -1) by decide, ex_i, true_and]
      · intro K
        unfold vI
        rw [u188_ok, en188, b188_0]
        simp (disch := omega) only [m128' hP ms, h, bz_t, show ¬ ((1 : Int32) = 0) by decide, if_false, mO scr, g1, if_true, ex_i, true_and]
    | some t =>
      have t144 := (wfL_lt hP hwS.1 ho).2.1
      rw [ho, oI_s] at e1 g1
      apply op_all (ans := nI (lkC S.1 (dPl S.2.1) t j 14)) (T' := T) (S' := S) (Z' := Z) (I' := I) hM hA _ _ hC
      · intro K hK
        unfold vI
        rw [u99_ok, en99, b99_0]
        simp (disch := omega) only [tO scr, c55 hP hs, h, bz_t, show ¬ ((1 : Int32) = 0) by decide, if_false, sC scr isS3, e1, NC, if_true, true_and]
        apply w81 isS3 hP hwS.1 hs hd hck ho
        intro f1 G1 J1 lk ck fl
        obtain ⟨cf, hI1⟩ := IC_fl fl ck hZ hI
        simp only [tO scr, wK scr, lk.1]
        exact ⟨_, rfl, hK f1 G1 J1 c cf hI1⟩
      · intro f G J c hM K hK
        obtain ⟨ms, md, -⟩ := hM.2.1
        have g1 := md.2.1 j (by rw [ej] at h; exact h)
        rw [ho, oI_s] at g1
        unfold vI
        rw [u188_ok, en188, b188_0]
        simp (disch := omega) only [m128' hP ms, h, bz_t, show ¬ ((1 : Int32) = 0) by decide, if_false, mO scr, g1, NC, true_and]
        apply m137 hP hwS.1 ms md ho
        intro f1 G1 lk a1 a2
        obtain ⟨mf, hM1⟩ := IM_lk (J := J) (J' := J) a1 a2 (fun _ _ _ _ => rfl) hM
        simp only [mO scr, lk.1]
        exact ⟨_, rfl, hK f1 G1 J mf hM1⟩
def seA (P : Pn) (pl : Nat → Option Nat) (h w n : Nat) : Int32 := match siA P pl h w n with
  | none => -2
  | some v => nI v
theorem op8 {q x : Int32} {C F : aH → Prop} (hI : IC f G J T S Z I) (hM : IM f G T S Z I) (hA : WA T S Z I) (hC : NX C) : vI scr (d + 20) 100 [.ref 0, .int q, .int x] (wo f G J c) (fun x1 h => vI scr (d + 20) 189 [.ref 125, .int q, .int x] h (fun x' h' => if x1 = x' then C h' else F h')) := by
  obtain ⟨hP, hwS, hoc, hQ, hH⟩ := hA.2.1
  have hZ := hA.2.2.1.1
  obtain ⟨hs, hd, -, hck, -⟩ := hI.2.1
  obtain ⟨ms, md, -⟩ := hM.2.1
  cases h : exB S.1 (dc q) with
  | false =>
    apply op_no (ans := -1) hI hM hA _ _ hC
    · intro K
      unfold vI
      rw [u100_ok, en100, b100_0]
      simp only [tO scr, c55 hP hs, h, bz_f, if_true, ex_i, true_and]
    · intro K
      unfold vI
      rw [u189_ok, en189, b189_0]
      simp only [m128' hP ms, h, bz_f, if_true, ex_i, true_and]
  | true =>
    have h14 := ex_lt hP h
    obtain ⟨j, hj, rfl, ej⟩ := dc_ex h14 (by omega)
    have e1 := hd.2.2.2.1 j hj
    have g1 := md.2.1 j (by rw [ej] at h; exact h)
    by_cases hx : 1 ≤ dc x ∧ dc x < 2147483648
    · obtain ⟨n, hn, rfl, en⟩ := dc_ex hx.2 (by omega)
      rw [en] at hx
      cases ho : dPl S.2.1 j with
      | none =>
        rw [ho, oI_n] at e1 g1
        apply op_no (ans := -2) hI hM hA _ _ hC
        · intro K
          unfold vI
          rw [u100_ok, en100, b100_0]
          simp (disch := omega) only [tO scr, c55 hP hs, h, bz_t, show ¬ ((1 : Int32) = 0) by decide, if_false, NC, hx.1, if_true, sC scr isS3, e1, show ¬ ((0 : Int32) ≤ -1) by decide, ex_i, true_and]
        · intro K
          unfold vI
          rw [u189_ok, en189, b189_0]
          simp (disch := omega) only [m128' hP ms, h, bz_t, show ¬ ((1 : Int32) = 0) by decide, if_false, NC, hx.1, mO scr, g1, if_true, ex_i, true_and]
      | some t =>
        have t144 := (wfL_lt hP hwS.1 ho).2.1
        rw [ho, oI_s] at e1 g1
        apply op_all (ans := seA S.1 (dPl S.2.1) t j n) (T' := T) (S' := S) (Z' := Z) (I' := I) hM hA _ _ hC
        · intro K hK
          unfold vI
          rw [u100_ok, en100, b100_0]
          simp (disch := omega) only [tO scr, c55 hP hs, h, bz_t, show ¬ ((1 : Int32) = 0) by decide, if_false, sC scr isS3, e1, NC, hx.1, if_true, true_and]
          apply w81 isS3 hP hwS.1 hs hd hck ho
          intro f1 G1 J1 lk ck fl
          obtain ⟨cf, hI1⟩ := IC_fl fl ck hZ hI
          simp only [tO scr]
          rw [w83 hP hwS.1 t144 lk (by omega)]
          have := hK f1 G1 J1 c cf hI1
          unfold seA at this
          cases hsi : siA S.1 (dPl S.2.1) t j n with
          | none =>
            rw [hsi] at this
            simp only [oI_n, show ¬ ((0 : Int32) ≤ -1) by decide, if_false]
            exact ⟨_, rfl, this⟩
          | some v =>
            rw [hsi] at this
            have v14 := (siA_some hsi).1
            simp (disch := omega) only [oI_s, NC, if_true]
            exact ⟨_, rfl, this⟩
        · intro f G J c hM K hK
          obtain ⟨ms, md, -⟩ := hM.2.1
          have g1 := md.2.1 j (by rw [ej] at h; exact h)
          rw [ho, oI_s] at g1
          unfold vI
          rw [u189_ok, en189, b189_0]
          simp (disch := omega) only [m128' hP ms, h, bz_t, show ¬ ((1 : Int32) = 0) by decide, if_false, mO scr, g1, NC, hx.1, if_true, true_and]
          apply m137 hP hwS.1 ms md ho
          intro f1 G1 lk a1 a2
          obtain ⟨mf, hM1⟩ := IM_lk (J := J) (J' := J) a1 a2 (fun _ _ _ _ => rfl) hM
          have l14 : lkC S.1 (dPl S.2.1) t j 14 ≤ 14 := lkC_le
          have := hK f1 G1 J mf hM1
          unfold seA siA at this
          simp (disch := omega) only [mO scr, lk.1, NC]
          by_cases hle : n ≤ lkC S.1 (dPl S.2.1) t j 14
          · rw [if_pos ⟨hx.1, hle⟩] at this
            have e2 := lk.2 (n - 1) (by omega)
            rw [if_pos hle, nI_s1 (by omega)]
            simp (disch := omega) only [mO scr, e2]
            exact ⟨_, rfl, this⟩
          · rw [if_neg (fun e => hle e.2)] at this
            rw [if_neg hle]
            exact ⟨_, rfl, this⟩
    · have hx' : (1 ≤ x) = False := by rw [(DC x).2.2.2.1]; exact eq_false hx
      apply op_no (ans := -1) hI hM hA _ _ hC
      · intro K
        unfold vI
        rw [u100_ok, en100, b100_0]
        simp only [tO scr, c55 hP hs, h, bz_t, show ¬ ((1 : Int32) = 0) by decide, if_false, hx', ex_i, true_and]
      · intro K
        unfold vI
        rw [u189_ok, en189, b189_0]
        simp only [m128' hP ms, h, bz_t, show ¬ ((1 : Int32) = 0) by decide, if_false, hx', ex_i, true_and]
end TR
