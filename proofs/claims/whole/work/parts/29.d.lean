variable {scr : List Int32}
-- ===== calls that go, and first questions =====
section TS
variable {f G f' G' : Nat → Nat → Int32} {J J' : Nat → Nat → Int64} {c : Value} {d : Nat} {T T' : Tp} {S S' : Sn} {Z Z' : Lz} {I I' : Im} {P : Pn} {D : Dy} {B : Nat → Nat} {L : Lw}
theorem dc_le (x : Int32) : dc x ≤ 2147483648 := (DC x).2.2.2.2.2.2.2.2
theorem DB (x : Int32) : (x < 0) = (dc x = 2147483648) ∧ (0 ≤ x) = (dc x < 2147483648) ∧ (x < 1) = (dc x = 2147483648 ∨ dc x = 0) ∧ (x ≤ 1) = (dc x ≤ 1 ∨ dc x = 2147483648) ∧ (x ≤ 2) = (dc x ≤ 2 ∨ dc x = 2147483648) ∧ (x ≤ 12) = (dc x ≤ 12 ∨ dc x = 2147483648) ∧ (x ≤ 60) = (dc x ≤ 60 ∨ dc x = 2147483648) ∧ (x ≤ 200) = (dc x ≤ 200 ∨ dc x = 2147483648) ∧ (3 < x) = (3 < dc x ∧ dc x < 2147483648) ∧ (60 < x) = (60 < dc x ∧ dc x < 2147483648) ∧ (200 < x) = (200 < dc x ∧ dc x < 2147483648) ∧ (x < 4) = (dc x < 4 ∨ dc x = 2147483648) ∧ (4 ≤ x) = (4 ≤ dc x ∧ dc x < 2147483648) :=
  ⟨(DC x).1, (DC x).2.1, (DC x).2.2.1, (DC x).2.2.2.2.2.2.1, (DK x (n := 2) (by decide)).2.1, (DK x (n := 12) (by decide)).2.1, (DK x (n := 60) (by decide)).2.1, (DK x (n := 200) (by decide)).2.1, (DK x (n := 3) (by decide)).1, (DK x (n := 60) (by decide)).1, (DK x (n := 200) (by decide)).1, (DK x (n := 4) (by decide)).2.2.2.1, (DK x (n := 4) (by decide)).2.2.1⟩
theorem n10 : ¬ ((1 : Int32) = 0) := by decide
-- ===== goes =====
theorem go_wf2 (hP : wfP P) (hw : wfS P D) {w y r : Nat} (hw12 : 12 ≤ w) (hg : goO P (dPl D) w y = some r) : wfS P (ptD D w r) ∧ (∀ v, v ≠ w → dPl D v ≠ some r) ∧ cnP (dPl (ptD D w r)) (pPe P) = cnP (dPl D) (pPe P) ∧ w < 14 ∧ r < 144 := by
  have p12 := hP.2.2.2.1
  obtain ⟨h1, t, ht, -⟩ := goO_some hg
  obtain ⟨f1, f2, f3⟩ := frA_th h1
  obtain ⟨w14, -, -, hex⟩ := wfL_lt hP hw.1 ht
  have hno : ∀ v, v ≠ w → dPl D v ≠ some r := fun v _ => who_nn hP hw.1 f3 v
  have hcn : cnP (dPl (ptD D w r)) (pPe P) = cnP (dPl D) (pPe P) := by
    apply cn_congr
    intro v hv
    show (plU (dPl D) w (some r) v).isSome = _
    unfold plU
    rw [if_neg (by omega)]
  refine ⟨⟨wfL_put hw.1 hex f1 f2 hno, ?_⟩, hno, hcn, w14, th_lt hP f1⟩
  have := hw.2
  show dOc D + cnP (dPl (ptD D w r)) (pPe P) ≤ 12
  omega
theorem k61b (hs : RS f G 3 P) (hd : RD f G 3 D) {w t : Nat} (hw : w < 14) (ht : dPl D w = some t) (t144 : t < 144) {x : Int32} (hx : ¬ dc x ≤ 7) {K : Int32 → aH → Prop} : vI scr (d + 3) 61 [.ref 3, .int (nI w), .int x] (wo f G J c) K = K 0 (wo f G J c) := by
  have e1 := hd.2.2.2.1 w hw
  rw [ht, oI_s] at e1
  have k58 : ∀ K : Int32 → aH → Prop, vI scr (d + 2) 58 [.ref 3, .int (nI t), .int x] (wo f G J c) K = K (-1) (wo f G J c) := by
    intro K
    unfold wo
    rw [sp58 isS3]
    unfold bes
    rw [if_pos]
    right; right
    have h0 := DC x
    have h8 := (DK x (n := 8) (by decide)).2.2.1
    have hle := dc_le x
    rw [h0.1, show (8 : Int32) = nI 8 from rfl, h8]
    omega
  unfold vI
  rw [u61_ok isS3, en61, b61_0]
  simp (disch := omega) only [LI, NC, hw, if_false, if_true, sC scr isS3, e1, k58, neg1_lt, ex_i, true_and]
theorem op9 {q x : Int32} {C F : aH → Prop} (hI : IC f G J T S Z I) (hM : IM f G T S Z I) (hA : WA T S Z I) (hC : NX C) : vI scr (d + 20) 101 [.ref 0, .int q, .int x] (wo f G J c) (fun x1 h => vI scr (d + 20) 191 [.ref 125, .int q, .int x] h (fun x' h' => if x1 = x' then C h' else F h')) := by
  obtain ⟨hP, hwS, hoc, hQ, hH⟩ := hA.2.1
  have p2 := hP.2.2.2.2.1
  have p12 := hP.2.2.2.1
  have hZ := hA.2.2.1.1
  obtain ⟨hs, hd, hq, hck, hB⟩ := hI.2.1
  obtain ⟨ms, md, mq⟩ := hM.2.1
  by_cases h : dc q < pHe S.1
  · obtain ⟨j, hj, rfl, -⟩ := dc_ex h (by omega)
    have ej := dc_I (k := j) (by omega)
    obtain ⟨t, ht⟩ := hH j hj
    have t144 := (wfL_lt hP hwS.1 ht).2.1
    by_cases hx : dc x ≤ 7
    · obtain ⟨y, hy, rfl, ey⟩ := dc_ex (show dc x < 8 by omega) (by omega)
      cases hg : goO S.1 (dPl S.2.1) (12 + j) y with
      | none =>
        apply op_no (ans := 0) hI hM hA _ _ hC
        · intro K
          unfold vI
          rw [u101_ok, en101, b101_0]
          simp (disch := omega) only [tO scr, c54 hP hs, ej, hj, decide_true, bz_t, n10, if_false, show (12 : Int32) = nI 12 from rfl, nI_add, true_and]
          rw [w61 isS3 hP hwS.1 hs hd ht hy, hg]
          simp only [Option.isSome_none, bz_f, if_true, ex_i]
          rfl
        · intro K
          unfold vI
          rw [u191_ok, en191, b191_0]
          simp (disch := omega) only [m185 hP ms, s121, ej, ey, hj, show y ≤ 7 by omega, decide_true, bz_t, n10, if_false, true_and]
          rw [m190 hP hwS.1 ms md ht hy, hg]
          simp only [Option.isSome_none, bz_f, if_true, ex_i]
          rfl
      | some r =>
        obtain ⟨g1, g2, g3, g4, g5⟩ := go_wf2 hP hwS (by omega) hg
        have hA' : WA T (S.1, ptD S.2.1 (12 + j) r, S.2.2) Z I := by
          refine ⟨hA.1, ⟨hP, g1, ?_, hQ, ?_⟩, hA.2.2⟩
          · show dOc S.2.1 + cnP (dPl (ptD S.2.1 (12 + j) r)) (pPe S.1) = pPe S.1
            rw [g3]; exact hoc
          · intro h hh
            show ∃ t, plU (dPl S.2.1) (12 + j) (some r) (12 + h) = some t
            unfold plU
            by_cases e : 12 + h = 12 + j
            · exact ⟨r, by rw [if_pos e]⟩
            · rw [if_neg e]; exact hH h hh
        apply op_all (ans := 1) (T' := T) (S' := (S.1, ptD S.2.1 (12 + j) r, S.2.2)) (Z' := Z) (I' := I) hM hA' _ _ hC
        · intro K hK
          unfold vI
          rw [u101_ok, en101, b101_0]
          simp (disch := omega) only [tO scr, c54 hP hs, ej, hj, decide_true, bz_t, n10, if_false, show (12 : Int32) = nI 12 from rfl, nI_add, true_and]
          rw [w61 isS3 hP hwS.1 hs hd ht hy, hg]
          simp only [Option.isSome_some, bz_t, n10, if_false]
          have pf : ∀ r' k, r' ≠ 5 → r' ≠ 6 → mvG G 3 (12 + j) (dPl S.2.1 (12 + j)) (some r) r' k = G r' k := fun r' k b1 b2 => pt_fr (p := 3) r' k b1 b2
          refine ⟨_, rfl, hK f _ J c ⟨fun _ _ _ => rfl, fun q k hq => pf q k (by omega) (by omega), fun _ _ _ => rfl⟩ ?_⟩
          refine IC_cg (fun _ _ _ => rfl) (fun q k hq => pf q k (by omega) (by omega)) hZ ⟨?_, ?_, ?_, hck, ?_⟩ hI
          · unfold RS at hs ⊢
            simp only [pf (3 + 1) _ (by decide) (by decide), pf (3 + 4) _ (by decide) (by decide), pf (3 + 5) _ (by decide) (by decide)]
            exact hs
          · exact RD_put hd hwS.1.2 g4 g2
          · unfold RQ at hq ⊢
            simp only [pf (3 + 7) _ (by decide) (by decide), pf (3 + 8) _ (by decide) (by decide), pf (3 + 9) _ (by decide) (by decide)]
            exact hq
          · intro h0 q hq2
            rw [pf 51 q (by decide) (by decide)]
            exact hB h0 q hq2
        · intro f G J c hM K hK
          obtain ⟨ms, md, mq⟩ := hM.2.1
          unfold vI
          rw [u191_ok, en191, b191_0]
          simp (disch := omega) only [m185 hP ms, s121, ej, ey, hj, show y ≤ 7 by omega, decide_true, bz_t, n10, if_false, true_and]
          rw [m190 hP hwS.1 ms md ht hy, hg]
          simp only [Option.isSome_some, bz_t, n10, if_false]
          have pf : ∀ r' k, r' ≠ 135 → hgG G (12 + j) (some r) r' k = G r' k := fun r' k b1 => up2_q b1
          refine ⟨_, rfl, hK f _ J ⟨fun _ _ _ => rfl, fun q k hq => pf q k (by omega), fun _ _ _ => rfl⟩ ?_⟩
          obtain ⟨a1, a2, a3, a4, a5⟩ := hM
          refine ⟨ITm_e (fun _ => rfl) (fun k => pf 143 k (by decide)) a1, ⟨MS_e (fun k => ⟨pf 126 k (by decide), pf 127 k (by decide), pf 128 k (by decide), pf 129 k (by decide)⟩) ms, ?_, MSq_e (fun k => ⟨pf 126 k (by decide), pf 137 k (by decide), pf 138 k (by decide), pf 139 k (by decide)⟩) mq⟩, ILm_e rfl (fun q k hq => pf q k (by omega)) a3, IIm_e (fun k => ⟨pf 165 k (by decide), pf 166 k (by decide)⟩) a4, ?_⟩
          · refine ⟨by rw [pf 126 4 (by decide)]; exact md.1, ?_, fun v hv => by rw [pf 136 v (by decide)]; exact md.2.2 v hv⟩
            intro v hv
            show up2 G 135 (12 + j) (nI r) 135 v = oI (plU (dPl S.2.1) (12 + j) (some r) v)
            rw [up2_a]
            unfold plU
            by_cases e : v = 12 + j
            · simp [e, oI]
            · simp only [e, if_false]; exact md.2.1 v hv
          · intro h0 q hq2
            rw [pf 140 q (by decide)]
            exact a5 h0 q hq2
    · apply op_no (ans := 0) hI hM hA _ _ hC
      · intro K
        unfold vI
        rw [u101_ok, en101, b101_0]
        simp (disch := omega) only [tO scr, c54 hP hs, ej, hj, decide_true, bz_t, n10, if_false, show (12 : Int32) = nI 12 from rfl, nI_add, true_and]
        rw [k61b hs hd (by omega) ht t144 hx]
        simp only [if_true, ex_i]
      · intro K
        unfold vI
        rw [u191_ok, en191, b191_0]
        simp (disch := omega) only [m185 hP ms, s121, ej, hj, hx, decide_true, decide_false, bz_t, bz_f, n10, if_false, if_true, ex_i, true_and]
  · apply op_no (ans := 0) hI hM hA _ _ hC
    · intro K
      unfold vI
      rw [u101_ok, en101, b101_0]
      simp only [tO scr, c54 hP hs, h, decide_false, bz_f, if_true, ex_i, true_and]
    · intro K
      unfold vI
      rw [u191_ok, en191, b191_0]
      simp only [m185 hP ms, h, decide_false, bz_f, if_true, ex_i, true_and]
-- ===== tick =====
theorem st_her (hP : wfP P) (hl : wfL P (dPl D)) {v : Nat} (hv : pPe P ≤ v) : dPl (stD P B L D) v = dPl D v := (rc_sp (subP_rf hP) (D := inS D) hl (B := B) (L := L) (n := 0) (pPe P) v).2 hv
theorem wk_her (hP : wfP P) {v : Nat} (hv : pPe P ≤ v) : ∀ n D, wfS P D → dPl (wkD P B L n D) v = dPl D v := by
  intro n
  induction n with
  | zero => intro D _; rfl
  | succ n ih =>
    intro D hw
    show dPl (wkD P B L n (stD P B L D)) v = dPl D v
    rw [ih _ (wfS_st hP hw).1, st_her hP hw.1 hv]
theorem WA_wk {r n : Nat} (hA : WA T S Z I) : WA T (S.1, wkD S.1 B (Z.2 r) n S.2.1, S.2.2) Z I := by
  obtain ⟨hP, hwS, hoc, hQ, hH⟩ := hA.2.1
  have p12 := hP.2.2.2.1
  obtain ⟨w1, w2⟩ := wfS_wk (B := B) (L := Z.2 r) hP n S.2.1 hwS
  refine ⟨hA.1, ⟨hP, w1, w2.trans hoc, hQ, ?_⟩, hA.2.2⟩
  intro h hh
  show ∃ t, dPl (wkD S.1 B (Z.2 r) n S.2.1) (12 + h) = some t
  rw [wk_her hP (by omega) n S.2.1 hwS]
  exact hH h hh
theorem op10 {l n : Int32} {C F : aH → Prop} (hI : IC f G J T S Z I) (hM : IM f G T S Z I) (hA : WA T S Z I) (hC : NX C) : vI scr (d + 20) 102 [.ref 0, .int l, .int n] (wo f G J c) (fun x1 h => vI scr (d + 20) 183 [.ref 125, .int l, .int n] h (fun x' h' => if x1 = x' then C h' else F h')) := by
  have hW := hA.2.1
  obtain ⟨hP, hwS, hoc, hQ, hH⟩ := hW
  have hZ := hA.2.2.1.1
  have bl := dc_le l
  have bn := dc_le n
  by_cases h : (0 < pRo S.1 ∧ dc l < Z.1) ∧ (1 ≤ dc n ∧ dc n ≤ 200)
  · obtain ⟨⟨h0, h1⟩, h2, h3⟩ := h
    obtain ⟨r, hr, rfl, er⟩ := dc_ex h1 (by omega)
    obtain ⟨j, hj, rfl, ej⟩ := dc_ex (show dc n < 201 by omega) (by omega)
    rw [ej] at h2 h3
    have hL := hA.2.2.1.2 r hr
    have hk := KC_of hI hr h0
    obtain ⟨hs, hd, hq, hck, hB⟩ := hI.2.1
    apply op_all (ans := dSt (wkD S.1 (gdA S.1) (Z.2 r) j S.2.1)) (T' := T) (S' := (S.1, wkD S.1 (gdA S.1) (Z.2 r) j S.2.1, S.2.2)) (Z' := Z) (I' := I) hM (WA_wk hA) _ _ hC
    · intro K hK
      unfold vI
      rw [u102_ok, en102, b102_0]
      simp (disch := omega) only [c119 hI hA, er, h0, hr, and_self, decide_true, bz_t, n10, if_false, NC, show ¬ j = 0 by omega, LI, h3, if_true, tO scr, laR, true_and]
      apply w78 isS3 (isL (by omega)) hP hL hwS hd (KC_x hk hs) (by omega)
      intro f1 G1 J1 hd1 ck1 fr1 _
      simp only [tO scr, sC scr isS3, hd1.1]
      refine ⟨_, rfl, hK f1 G1 J1 c ⟨fun o k ho => fr1.1 o k (by omega) (by omega), fun q k hq => fr1.2.1 q k (by omega) (by omega) (by omega) (by omega) (by omega), fun q k hq => fr1.2.2 q k (by omega) (by omega) (by omega)⟩ ?_⟩
      refine IC_cg (fun o k ho => fr1.1 o k (by omega) (by omega)) (fun q k hq => fr1.2.1 q k (by omega) (by omega) (by omega) (by omega) (by omega)) hZ ⟨RS_fr isS3 fr1 hs, hd1, ?_, ck1, fun _ => TG_fr isS3 fr1 (hB h0)⟩ hI
      unfold RQ at hq ⊢
      simp only [fr1.1 3 7 (by decide) (by omega), fr1.2.1 (3 + 7) _ (by decide) (by decide) (by decide) (by decide) (by decide), fr1.2.1 (3 + 8) _ (by decide) (by decide) (by decide) (by decide) (by decide), fr1.2.1 (3 + 9) _ (by decide) (by decide) (by decide) (by decide) (by decide)]
      exact hq
    · intro f G J c hM K hK
      have hx := CM_of hM hr h0
      obtain ⟨ms, md, mq⟩ := hM.2.1
      unfold vI
      rw [u183_ok, en183, b183_0]
      simp (disch := omega) only [m124' hA hM, m172 hA hM, s121, er, ej, h0, hr, h2, h3, and_self, decide_true, bz_t, n10, if_false, true_and]
      apply m181 hP hL (by omega) (by omega) hwS hx md
      intro f1 G1 J1 hd1 fr1 _
      have e4 := hd1.1
      simp (disch := omega) only [mO scr, show (4 : Int32) = nI 4 from rfl, e4]
      refine ⟨_, rfl, hK f1 G1 J1 ⟨fun o k ho => fr1.1 o k (by omega), fun q k hq => fr1.2.1 q k (by omega) (by omega) (by omega) (by omega) (by omega), fun q k hq => fr1.2.2 q k (by omega) (by omega)⟩ ?_⟩
      obtain ⟨a1, a2, a3, a4, a5⟩ := hM
      have hx1 := CM_fr fr1 hx
      refine ⟨?_, ⟨hx1.1, hd1, ?_⟩, ILm_e (fr1.1 125 23 (by omega)) (fun q k hq => fr1.2.1 q k (by omega) (by omega) (by omega) (by omega) (by omega)) a3, IIm_e (fun k => ⟨fr1.2.1 165 k (by omega) (by omega) (by omega) (by omega) (by omega), fr1.2.1 166 k (by omega) (by omega) (by omega) (by omega) (by omega)⟩) a4, fun _ => hx1.2.2⟩
      · unfold ITm at a1 ⊢
        rw [fr1.1 125 19 (by omega), fr1.1 125 28 (by omega)]
        refine ⟨a1.1, fun i hi => ?_, a1.2.2⟩
        rw [fr1.2.1 143 i (by omega) (by omega) (by omega) (by omega) (by omega)]
        exact a1.2.1 i hi
      · have e5 : G1 126 5 = G 126 5 := fr1.2.1 126 5 (by omega) (by omega) (by omega) (by omega) (by omega)
        have e7 : ∀ q k, 137 ≤ q → q ≤ 139 → G1 q k = G q k := fun q k x1 x2 => fr1.2.1 q k (by omega) (by omega) (by omega) (by omega) (by omega)
        unfold MSq at mq ⊢
        simp only [e5, e7 137 _ (by decide) (by decide), e7 138 _ (by decide) (by decide), e7 139 _ (by decide) (by decide)]
        exact mq
  · apply op_no (ans := -1) hI hM hA _ _ hC
    · intro K
      unfold vI
      rw [u102_ok, en102, b102_0]
      simp only [c119 hI hA, bz_0, decide_eq_false_iff_not, DB n, ex_i, true_and]
      repeat' split
      all_goals first | rfl | (exfalso; omega)
    · intro K
      unfold vI
      rw [u183_ok, en183, b183_0]
      simp only [m124' hA hM, m172 hA hM, s121, bz_0, decide_eq_false_iff_not, ex_i, true_and]
      repeat' split
      all_goals first | rfl | (exfalso; omega)
-- ===== follows =====
def foA (P : Pn) (B : Nat → Nat) (L : Lw) (pl : Nat → Option Nat) (w : Nat) : Int32 := match fol P B L pl w with
  | none => -2
  | some v => nI v
theorem op11 {l q : Int32} {C F : aH → Prop} (hI : IC f G J T S Z I) (hM : IM f G T S Z I) (hA : WA T S Z I) (hC : NX C) : vI scr (d + 20) 103 [.ref 0, .int l, .int q] (wo f G J c) (fun x1 h => vI scr (d + 20) 192 [.ref 125, .int l, .int q] h (fun x' h' => if x1 = x' then C h' else F h')) := by
  obtain ⟨hP, hwS, hoc, hQ, hH⟩ := hA.2.1
  have hZ := hA.2.2.1.1
  have p12 := hP.2.2.2.1
  have hpr := hP.2.2.2.2.2.2.2.2
  have bl := dc_le l
  have bn := dc_le q
  obtain ⟨hs, hd, hq, hck, hB⟩ := hI.2.1
  obtain ⟨ms, md, mq⟩ := hM.2.1
  by_cases h : (0 < pRo S.1 ∧ dc l < Z.1) ∧ dc q < pPe S.1
  · obtain ⟨⟨h0, h1⟩, h2⟩ := h
    obtain ⟨r, hr, rfl, er⟩ := dc_ex h1 (by omega)
    obtain ⟨j, hj, rfl, ej⟩ := dc_ex h2 (by omega)
    have hL := hA.2.2.1.2 r hr
    have hk := KC_of hI hr h0
    have fl14 : ∀ v, fol S.1 (gdA S.1) (Z.2 r) (dPl S.2.1) j = some v → v < 14 := fun v hv => (fol_some hv).1
    apply op_all (ans := foA S.1 (gdA S.1) (Z.2 r) (dPl S.2.1) j) (T' := T) (S' := S) (Z' := Z) (I' := I) hM hA _ _ hC
    · intro K hK
      unfold vI
      rw [u103_ok, en103, b103_0]
      simp (disch := omega) only [c119 hI hA, c53 hP hs, er, ej, h0, hr, hj, and_self, decide_true, bz_t, n10, if_false, tO scr, laR, true_and]
      apply w80 isS3 (isL (by omega)) hP hL hwS.1 hd (KC_x hk hs)
      intro f1 G1 J1 hd1 ck1 fr1 h58 hf1 hG1
      have e58 := h58 j hj
      have fin := hK f1 G1 J1 c ⟨fun o k ho => hf1 o k (by omega), fun q k hq => hG1 q k (by omega) (by omega), fun q k hq => fr1.2.2 q k (by omega) (by omega) (by omega)⟩ (IC_cg (fun o k ho => hf1 o k (by omega)) (fun q k hq => hG1 q k (by omega) (by omega)) hZ ⟨RS_fr isS3 fr1 hs, hd1, RQ_e (fun k => hf1 3 k (by omega)) (fun i hi k => hG1 _ k (by omega) (by omega)) hq, ck1, fun _ => TG_fr isS3 fr1 (hB h0)⟩ hI)
      simp (disch := omega) only [tO scr, wK scr, e58]
      unfold foA at fin
      cases ho : fol S.1 (gdA S.1) (Z.2 r) (dPl S.2.1) j with
      | none =>
        rw [ho] at fin
        simp only [oI_n, show ¬ ((0 : Int32) ≤ -1) by decide, if_false]
        exact ⟨_, rfl, fin⟩
      | some v =>
        rw [ho] at fin
        have := fl14 v ho
        simp (disch := omega) only [oI_s, NC, if_true]
        exact ⟨_, rfl, fin⟩
    · intro f G J c hM K hK
      have hx := CM_of hM hr h0
      obtain ⟨ms, md, mq⟩ := hM.2.1
      have g1 := md.2.1 j (by simp [exB, hj])
      unfold vI
      rw [u192_ok, en192, b192_0]
      simp (disch := omega) only [m172 hA hM, m127' hP ms, er, ej, hr, hj, decide_true, bz_t, n10, if_false, mO scr, g1, true_and]
      cases ho : dPl S.2.1 j with
      | none =>
        have fin := hK f G J MF_rf hM
        unfold foA fol at fin
        rw [ho] at fin
        simp only [oI_n, if_true, b192_38]
        exact ⟨_, rfl, fin⟩
      | some t =>
        have t144 := (wfL_lt hP hwS.1 ho).2.1
        simp (disch := omega) only [oI_s, NC, if_false]
        apply m177 hP hL (by omega) hwS.1 ms md hx.2.1 hx.2.2 ho hj
        intro f1 G1 J1 a1 a2 a3
        obtain ⟨mf, hM1⟩ := IM_lk (J := J) (J' := J1) a1 a2 a3 hM
        have fin := hK f1 G1 J1 mf hM1
        have ef : fol S.1 (gdA S.1) (Z.2 r) (dPl S.2.1) j = folA S.1 (gdA S.1) (Z.2 r) (dPl S.2.1) t j := by simp only [fol, ho]
        unfold foA at fin
        rw [ef] at fin fl14
        rw [b192_38]
        cases ho2 : folA S.1 (gdA S.1) (Z.2 r) (dPl S.2.1) t j with
        | none =>
          rw [ho2] at fin
          simp only [oI_n, if_true]
          exact ⟨_, rfl, fin⟩
        | some v =>
          rw [ho2] at fin
          have := fl14 v ho2
          simp (disch := omega) only [oI_s, NC, if_false]
          exact ⟨_, rfl, fin⟩
  · apply op_no (ans := -1) hI hM hA _ _ hC
    · intro K
      unfold vI
      rw [u103_ok, en103, b103_0]
      simp only [c119 hI hA, tO scr, c53 hP hs, bz_0, decide_eq_false_iff_not, ex_i, true_and]
      repeat' split
      all_goals first | rfl | (exfalso; omega)
    · intro K
      unfold vI
      rw [u192_ok, en192, b192_0]
      simp only [m172 hA hM, m127' hP ms, bz_0, decide_eq_false_iff_not, ex_i, true_and]
      repeat' split
      all_goals first | rfl | (exfalso; omega)
end TS
