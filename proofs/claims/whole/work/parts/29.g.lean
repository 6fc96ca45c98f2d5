variable {scr : List Int32}
-- ===== best law, count, end, spoor =====
section TX
variable {f G f' G' : Nat → Nat → Int32} {J J' : Nat → Nat → Int64} {c : Value} {d : Nat} {T T' : Tp} {S S' : Sn} {Z Z' : Lz} {I I' : Im} {P : Pn} {D : Dy} {B : Nat → Nat} {L : Lw}
def blA (o : Nat → Nat) : Nat → Option (Nat × Nat)
  | 0 => none
  | k + 1 => match blA o k with
    | none => some (k, o k)
    | some x => if x.2 < o k then some (k, o k) else some x
theorem bl_lt {o : Nat → Nat} (ho : ∀ k, o k ≤ 12) : ∀ k x, blA o k = some x → x.1 < k ∧ x.2 ≤ 12 := by
  intro k
  induction k with
  | zero => intro x hx; cases hx
  | succ k ih =>
    intro x hx
    simp only [blA] at hx
    split at hx
    · cases hx; exact ⟨by show k < k + 1; omega, ho k⟩
    · rename_i y hy
      have := ih y hy
      split at hx
      · cases hx; exact ⟨by show k < k + 1; omega, ho k⟩
      · cases hx; omega
def ocN (S : Sn) (Z : Lz) (n k : Nat) : Nat := dOc (wkD S.1 (gdA S.1) (Z.2 k) n S.2.1)
theorem oc_le (hA : WA T S Z I) {n k : Nat} : ocN S Z n k ≤ 12 := by
  obtain ⟨hP, hwS, hoc, hQ, hH⟩ := hA.2.1
  have := (wfS_wk (B := gdA S.1) (L := Z.2 k) hP n S.2.1 hwS).1.2
  unfold ocN
  omega
theorem cbl_loop {n : Nat} (hA : WA T S Z I) (h0 : 0 < pRo S.1) (hn : n ≤ 200) {K : Option Value → aH → Prop} : ∀ u k, Z.1 - k = u → k ≤ Z.1 → ∀ f G J, IC f G J T S Z I → (∀ f' G' J', CF f G J f' G' J' → IC f' G' J' T S Z I → K (some (.int (ldL (blA (ocN S Z n) Z.1)))) (wo f' G' J' c)) → ∀ l5 : Value, E scr false (d + 6) 115 31 [.ref 0, .int (nI n), .int (ldL (blA (ocN S Z n) k)), .int (ldM (blA (ocN S Z n) k)), .int (nI k), l5] [] (wo f G J c) K := by
  obtain ⟨hP, hwS, hoc, hQ, hH⟩ := hA.2.1
  have hZ := hA.2.2.1.1
  intro u
  induction u with
  | zero =>
    intro k hu hk f G J hI hK l5
    have e : k = Z.1 := by omega
    have e6 := hI.2.2.1.1
    rw [b115_31]
    simp (disch := omega) only [tO scr, e6, NC, show Z.1 ≤ k by omega, if_true]
    rw [e]
    exact hK f G J CF_rf hI
  | succ u ih =>
    intro k hu hk f G J hI hK l5
    have e6 := hI.2.2.1.1
    have hL := hA.2.2.1.2 k (by omega)
    have hkc := KC_of hI (r := k) (by omega) h0
    have hle := oc_le hA (n := n) (k := k)
    rw [b115_31]
    simp (disch := omega) only [tO scr, e6, show (6 : Int32) = nI 6 from rfl, NC, show ¬ Z.1 ≤ k by omega, show ¬ 6 ≤ k by omega, if_false, laR]
    rw [show (0 : Int32) = nI 0 from rfl]
    apply w27 (isL (by omega)) hP hL hwS hkc (by omega) (Or.inl (by omega))
    intro f1 G1 J1 fp hk1
    have hI1 := IC_fp fp hk1 hZ hI
    have ef : fsA S.1 (gdA S.1) (Z.2 k) S.2.1 n 0 = nI (ocN S Z n k) := rfl
    rw [ef]
    have next : ∀ (a b s0 : Int32), a = ldL (blA (ocN S Z n) (k + 1)) → b = ldM (blA (ocN S Z n) (k + 1)) → E scr false (d + 6) 115 77 [.ref 0, .int (nI n), .int a, .int b, .int (nI k), .int s0] [] (wo f1 G1 J1 c) K := by
      intro a b s0 ha hb
      rw [b115_77, nI_1, ha, hb]
      apply ih (k + 1) (by omega) (by omega) f1 G1 J1 hI1
      intro f2 G2 J2 cf hI2
      refine hK f2 G2 J2 ?_ hI2
      have c1 := CF_fp fp
      exact ⟨fun o k ho => (cf.1 o k ho).trans (c1.1 o k ho), fun q k hq => (cf.2.1 q k hq).trans (c1.2.1 q k hq), fun q k hq => (cf.2.2 q k hq).trans (c1.2.2 q k hq)⟩
    cases hx : blA (ocN S Z n) k with
    | none =>
      have es : blA (ocN S Z n) (k + 1) = some (k, ocN S Z n k) := by simp only [blA, hx]
      rw [es] at next
      rw [if_neg]
      · exact next _ _ _ rfl rfl
      · intro e
        have : nI (ocN S Z n k) < 0 := Int32.lt_of_le_of_lt e (by decide)
        exact nI_pos (by omega) this
    | some x =>
      have x2 := (bl_lt (fun k => oc_le hA (n := n) (k := k)) k x hx).2
      simp (disch := omega) only [ldM, NC]
      by_cases hlt : x.2 < ocN S Z n k
      · have es : blA (ocN S Z n) (k + 1) = some (k, ocN S Z n k) := by simp only [blA, hx, hlt, if_true]
        rw [es] at next
        rw [if_neg (by omega)]
        exact next _ _ _ rfl rfl
      · have es : blA (ocN S Z n) (k + 1) = some x := by simp only [blA, hx, hlt, if_false]
        rw [es] at next
        rw [if_pos (by omega)]
        exact next _ _ _ rfl rfl
theorem mbl_loop {n : Nat} (hA : WA T S Z I) (h0 : 0 < pRo S.1) (hn : n ≤ 200) {K : Option Value → aH → Prop} : ∀ u k, Z.1 - k = u → k ≤ Z.1 → ∀ f G J, IM f G T S Z I → (∀ f' G' J', MF f G J f' G' J' → IM f' G' T S Z I → K (some (.int (ldL (blA (ocN S Z n) Z.1)))) (wo f' G' J' c)) → ∀ l5 : Value, E scr false (d + 10) 216 29 [.ref 125, .int (nI n), .int (ldL (blA (ocN S Z n) k)), .int (ldZ (blA (ocN S Z n) k)), .int (nI k), l5] [] (wo f G J c) K := by
  obtain ⟨hP, hwS, hoc, hQ, hH⟩ := hA.2.1
  have hZ := hA.2.2.1.1
  intro u
  induction u with
  | zero =>
    intro k hu hk f G J hM hK l5
    have e : k = Z.1 := by omega
    have e6 := hM.2.2.1.1
    rw [b216_29]
    simp (disch := omega) only [mO scr, e6, NC, show Z.1 ≤ k by omega, if_true]
    rw [e]
    exact hK f G J MF_rf hM
  | succ u ih =>
    intro k hu hk f G J hM hK l5
    have e6 := hM.2.2.1.1
    have hL := hA.2.2.1.2 k (by omega)
    have hx := CM_of hM (r := k) (by omega) h0
    obtain ⟨ms, md, -⟩ := hM.2.1
    have hle := oc_le hA (n := n) (k := k)
    rw [b216_29]
    simp (disch := omega) only [mO scr, e6, NC, show ¬ Z.1 ≤ k by omega, if_false]
    apply m205 hP hL (by omega) (by omega) hwS hx md
    intro f1 G1 J1 fq h140
    have mf1 := MF_fq fq
    have hM1 := IM_fq fq (fun h0 q hq => by rw [h140]; exact hM.2.2.2.2 h0 q hq) hM
    have ef : pPe S.1 - cnP (dPl (wkD S.1 (gdA S.1) (Z.2 k) n S.2.1)) (pPe S.1) = ocN S Z n k := by
      have := (wfS_wk (B := gdA S.1) (L := Z.2 k) hP n S.2.1 hwS).2
      unfold ocN
      omega
    rw [ef]
    have next : ∀ (a b : Int32) (s0 : Int32), a = ldL (blA (ocN S Z n) (k + 1)) → b = ldZ (blA (ocN S Z n) (k + 1)) → E scr false (d + 10) 216 65 [.ref 125, .int (nI n), .int a, .int b, .int (nI k), .int s0] [] (wo f1 G1 J1 c) K := by
      intro a b s0 ha hb
      rw [b216_65, nI_1, ha, hb]
      apply ih (k + 1) (by omega) (by omega) f1 G1 J1 hM1
      intro f2 G2 J2 cf hI2
      refine hK f2 G2 J2 ?_ hI2
      exact ⟨fun o k ho => (cf.1 o k ho).trans (mf1.1 o k ho), fun q k hq => (cf.2.1 q k hq).trans (mf1.2.1 q k hq), fun q k hq => (cf.2.2 q k hq).trans (mf1.2.2 q k hq)⟩
    cases hx : blA (ocN S Z n) k with
    | none =>
      have es : blA (ocN S Z n) (k + 1) = some (k, ocN S Z n k) := by simp only [blA, hx]
      rw [es] at next
      simp only [ldL, if_true]
      rw [b216_59]
      exact next _ _ _ rfl rfl
    | some x =>
      obtain ⟨x1, x2⟩ := bl_lt (fun k => oc_le hA (n := n) (k := k)) k x hx
      have ne : ¬ nI x.1 = -2 := fun e => nI_pos (show x.1 < 2 ^ 31 by omega) (by rw [e]; decide)
      simp (disch := omega) only [ldL, ldZ, ne, if_false, NC]
      by_cases hlt : x.2 < ocN S Z n k
      · have es : blA (ocN S Z n) (k + 1) = some (k, ocN S Z n k) := by simp only [blA, hx, hlt, if_true]
        rw [es] at next
        rw [if_neg (by omega), b216_59]
        exact next _ _ _ rfl rfl
      · have es : blA (ocN S Z n) (k + 1) = some x := by simp only [blA, hx, hlt, if_false]
        rw [es] at next
        rw [if_pos (by omega)]
        exact next _ _ _ rfl rfl
theorem op23 {n : Int32} {C F : aH → Prop} (hI : IC f G J T S Z I) (hM : IM f G T S Z I) (hA : WA T S Z I) (hC : NX C) : vI scr (d + 20) 115 [.ref 0, .int n] (wo f G J c) (fun x1 h => vI scr (d + 20) 216 [.ref 125, .int n] h (fun x' h' => if x1 = x' then C h' else F h')) := by
  obtain ⟨hP, hwS, hoc, hQ, hH⟩ := hA.2.1
  have r12 := hP.2.1
  have bn := dc_le n
  have e1 := hI.2.1.1.1.2.1
  have eh : (nI (pRo S.1) = 0) = (pRo S.1 = 0) := by rw [show (0 : Int32) = nI 0 from rfl, nI_eq (by omega) (by decide)]
  by_cases h : 0 < pRo S.1 ∧ dc n ≤ 200
  · obtain ⟨h0, h2⟩ := h
    obtain ⟨j, hj, rfl, ej⟩ := dc_ex (show dc n < 201 by omega) (by omega)
    rw [ej] at h2
    apply op_all (ans := ldL (blA (ocN S Z j) Z.1)) (T' := T) (S' := S) (Z' := Z) (I' := I) hM hA _ _ hC
    · intro K hK
      unfold vI
      rw [u115_ok, en115, b115_0]
      simp (disch := omega) only [tO scr, sC scr isS3, e1, eh, show ¬ pRo S.1 = 0 by omega, if_false, NC, show (200 : Int32) = nI 200 from rfl, h2, if_true, true_and]
      exact cbl_loop (c := c) (d := d + 14) hA h0 h2 (K := fun r h => ∃ x, r = some (Value.int x) ∧ K x h) Z.1 0 rfl (by omega) f G J hI (fun f1 G1 J1 cf hI1 => ⟨_, rfl, hK f1 G1 J1 c cf hI1⟩) .null
    · intro f G J c hM K hK
      unfold vI
      rw [u216_ok, en216, b216_0]
      simp (disch := omega) only [m124' hA hM, s121, ej, h0, h2, decide_true, bz_t, n10, if_false, true_and]
      exact mbl_loop (c := c) (d := d + 10) hA h0 h2 (K := fun r h => ∃ x, r = some (Value.int x) ∧ K x h) Z.1 0 rfl (by omega) f G J hM (fun f1 G1 J1 mf hM1 => ⟨_, rfl, hK f1 G1 J1 mf hM1⟩) .null
  · apply op_no (ans := -1) hI hM hA _ _ hC
    · intro K
      unfold vI
      rw [u115_ok, en115, b115_0]
      simp only [tO scr, sC scr isS3, e1, eh, DB n, ex_i, true_and]
      repeat' split
      all_goals first | rfl | (exfalso; omega)
    · intro K
      unfold vI
      rw [u216_ok, en216, b216_0]
      simp only [m124' hA hM, s121, bz_0, decide_eq_false_iff_not, ex_i, true_and]
      repeat' split
      all_goals first | rfl | (exfalso; omega)
-- ===== count =====
def ctA (T : Tp) (S : Sn) (Z : Lz) (w : Nat) : Int32 := if w = 0 then nI (pCo S.1) else if w = 1 then nI (pRo S.1) else if w = 2 then nI (pPe S.1) else if w = 3 then nI (pHe S.1) else if w = 4 then dSt S.2.1 else if w = 5 then nI (dOc S.2.1) else if w = 6 then nI (qN S.2.2) else if w = 7 then nI Z.1 else if w = 8 then nI T.1 else if w = 9 then nI (gaL S.1).length else -1
def gaN (P : Pn) (k : Nat) : Nat := ((List.range k).filter (fun q => thB P q && decide (pKd P q = 3))).length
theorem ga_s {k : Nat} : gaN P (k + 1) = gaN P k + (if (thB P k && decide (pKd P k = 3)) = true then 1 else 0) := by
  unfold gaN
  rw [List.range_succ, List.filter_append, List.length_append]
  congr 1
  simp only [List.filter_cons, List.filter_nil]
  split <;> rfl
theorem mct_loop {w : Int32} (hP : wfP P) (ms : MS G P) {K : Option Value → aH → Prop} (hK : E scr false (d + 4) 217 4 [.ref 125, .int w, .int (nI (gaN P 144)), .int (nI 144)] [] (wo f G J c) K) : ∀ u k, 144 - k = u → k ≤ 144 → E scr false (d + 4) 217 4 [.ref 125, .int w, .int (nI (gaN P k)), .int (nI k)] [] (wo f G J c) K := by
  intro u
  induction u with
  | zero =>
    intro k hu hk
    have e : k = 144 := by omega
    rw [e]
    exact hK
  | succ u ih =>
    intro k hu hk
    have k4 := hP.2.2.2.2.2.1 k
    rw [b217_4]
    simp (disch := omega) only [show (144 : Int32) = nI 144 from rfl, NC, show ¬ 144 ≤ k by omega, if_false, m126 hP ms]
    cases ht : thB P k with
    | false =>
      simp only [bz_f, if_true]
      rw [b217_34, b217_35, Int32.add_zero, nI_1]
      have := ih (k + 1) (by omega) (by omega)
      rw [ga_s, ht] at this
      exact this
    | true =>
      have e := ms.2.1 k ht
      simp (disch := omega) only [bz_t, n10, if_false, mO scr, e, show (3 : Int32) = nI 3 from rfl, NC]
      have := ih (k + 1) (by omega) (by omega)
      by_cases h3 : pKd P k = 3
      · rw [if_pos h3, b217_35, nI_1, nI_1]
        rw [ga_s, ht, h3] at this
        exact this
      · rw [if_neg h3, b217_34, b217_35, Int32.add_zero, nI_1]
        rw [ga_s, ht] at this
        simp only [h3, decide_false, Bool.and_false, Bool.false_eq_true, if_false, Nat.add_zero] at this
        exact this
theorem op24 {w : Int32} {C F : aH → Prop} (hI : IC f G J T S Z I) (hM : IM f G T S Z I) (hA : WA T S Z I) (hC : NX C) : vI scr (d + 20) 116 [.ref 0, .int w] (wo f G J c) (fun x1 h => vI scr (d + 20) 217 [.ref 125, .int w] h (fun x' h' => if x1 = x' then C h' else F h')) := by
  obtain ⟨hP, hwS, hoc, hQ, hH⟩ := hA.2.1
  obtain ⟨hs, hd, hq, -⟩ := hI.2.1
  obtain ⟨⟨s0, s1, s2, s3, s4⟩, -⟩ := hs
  have e5 := hd.1
  have e6 := hd.2.1
  have e7 := hq.1
  have e8 := hI.2.2.1.1
  have e9 := hI.1.1
  obtain ⟨ms, md, mq⟩ := hM.2.1
  obtain ⟨g0, g1, g2, g3⟩ := ms.1
  have g4 := md.1
  have g5 := mq.1
  have g6 := hM.2.2.1.1
  have g7 := hM.1.1
  have goc : pPe S.1 - cnP (dPl S.2.1) (pPe S.1) = dOc S.2.1 := by omega
  apply op_all (ans := ctA T S Z (dc w)) (T' := T) (S' := S) (Z' := Z) (I' := I) hM hA _ _ hC
  · intro K hK
    have fin := hK f G J c CF_rf hI
    unfold ctA at fin
    simp only [iteK K] at fin
    unfold vI
    rw [u116_ok, en116, b116_0]
    simp only [DW w, b116_56, b116_64, b116_72, b116_80, b116_88, b116_96, b116_104, b116_112, b116_117, b116_125, b116_133, tO scr, tA scr, sC scr isS3, s0, s1, s2, s3, s4, e5, e6, e7, e8, e9, ex_i, true_and]
    exact fin
  · intro f G J c hM K hK
    obtain ⟨ms, md, mq⟩ := hM.2.1
    obtain ⟨g0, g1, g2, g3⟩ := ms.1
    have g4 := md.1
    have g5 := mq.1
    have g6 := hM.2.2.1.1
    have g7 := hM.1.1
    have fin := hK f G J MF_rf hM
    unfold ctA at fin
    simp only [iteK K] at fin
    unfold vI
    rw [u217_ok, en217, b217_0]
    refine ⟨rfl, ?_⟩
    apply mct_loop (d := d + 16) hP ms _ 144 0 rfl (by omega)
    have L100 : ∀ l3 : Int32, E scr false (d + 16 + 4) 217 100 [.ref 125, .int w, .int (nI (gaN S.1 144)), .int l3] [] (wo f G J c) (fun r h => ∃ x, r = some (Value.int x) ∧ K x h) = K (nI (pCo S.1)) (wo f G J c) := by
      intro l3
      rw [b217_100]
      simp (disch := omega) only [mO scr, z126, g0, ex_i]
    have L107 : ∀ l3 : Int32, E scr false (d + 16 + 4) 217 107 [.ref 125, .int w, .int (nI (gaN S.1 144)), .int l3] [] (wo f G J c) (fun r h => ∃ x, r = some (Value.int x) ∧ K x h) = K (nI (pRo S.1)) (wo f G J c) := by
      intro l3
      rw [b217_107]
      simp (disch := omega) only [mO scr, z126, g1, ex_i]
    have L114 : ∀ l3 : Int32, E scr false (d + 16 + 4) 217 114 [.ref 125, .int w, .int (nI (gaN S.1 144)), .int l3] [] (wo f G J c) (fun r h => ∃ x, r = some (Value.int x) ∧ K x h) = K (nI (pPe S.1)) (wo f G J c) := by
      intro l3
      rw [b217_114]
      simp (disch := omega) only [mO scr, show (2 : Int32) = nI 2 from rfl, g2, ex_i]
    have L121 : ∀ l3 : Int32, E scr false (d + 16 + 4) 217 121 [.ref 125, .int w, .int (nI (gaN S.1 144)), .int l3] [] (wo f G J c) (fun r h => ∃ x, r = some (Value.int x) ∧ K x h) = K (nI (pHe S.1)) (wo f G J c) := by
      intro l3
      rw [b217_121]
      simp (disch := omega) only [mO scr, show (3 : Int32) = nI 3 from rfl, g3, ex_i]
    have L128 : ∀ l3 : Int32, E scr false (d + 16 + 4) 217 128 [.ref 125, .int w, .int (nI (gaN S.1 144)), .int l3] [] (wo f G J c) (fun r h => ∃ x, r = some (Value.int x) ∧ K x h) = K (dSt S.2.1) (wo f G J c) := by
      intro l3
      rw [b217_128]
      simp (disch := omega) only [mO scr, show (4 : Int32) = nI 4 from rfl, g4, ex_i]
    have L135 : ∀ l3 : Int32, E scr false (d + 16 + 4) 217 135 [.ref 125, .int w, .int (nI (gaN S.1 144)), .int l3] [] (wo f G J c) (fun r h => ∃ x, r = some (Value.int x) ∧ K x h) = K (nI (dOc S.2.1)) (wo f G J c) := by
      intro l3
      rw [b217_135]
      simp only [m182 hP hwS.1 ms md, goc, ex_i]
    have L140 : ∀ l3 : Int32, E scr false (d + 16 + 4) 217 140 [.ref 125, .int w, .int (nI (gaN S.1 144)), .int l3] [] (wo f G J c) (fun r h => ∃ x, r = some (Value.int x) ∧ K x h) = K (nI (qN S.2.2)) (wo f G J c) := by
      intro l3
      rw [b217_140]
      simp (disch := omega) only [mO scr, show (5 : Int32) = nI 5 from rfl, g5, ex_i]
    have L147 : ∀ l3 : Int32, E scr false (d + 16 + 4) 217 147 [.ref 125, .int w, .int (nI (gaN S.1 144)), .int l3] [] (wo f G J c) (fun r h => ∃ x, r = some (Value.int x) ∧ K x h) = K (nI Z.1) (wo f G J c) := by
      intro l3
      rw [b217_147]
      simp only [mO scr, g6, ex_i]
    have L152 : ∀ l3 : Int32, E scr false (d + 16 + 4) 217 152 [.ref 125, .int w, .int (nI (gaN S.1 144)), .int l3] [] (wo f G J c) (fun r h => ∃ x, r = some (Value.int x) ∧ K x h) = K (nI T.1) (wo f G J c) := by
      intro l3
      rw [b217_152]
      simp only [mO scr, g7, ex_i]
    have L157 : ∀ l3 : Int32, E scr false (d + 16 + 4) 217 157 [.ref 125, .int w, .int (nI (gaN S.1 144)), .int l3] [] (wo f G J c) (fun r h => ∃ x, r = some (Value.int x) ∧ K x h) = K (nI (gaL S.1).length) (wo f G J c) := by
      intro l3
      rw [b217_157]
      exact ex_i
    have L159 : ∀ l3 : Int32, E scr false (d + 16 + 4) 217 159 [.ref 125, .int w, .int (nI (gaN S.1 144)), .int l3] [] (wo f G J c) (fun r h => ∃ x, r = some (Value.int x) ∧ K x h) = K (-1) (wo f G J c) := by
      intro l3
      rw [b217_159]
      exact ex_i
    rw [b217_4, if_pos (show (144 : Int32) ≤ nI 144 by decide)]
    simp only [DW w, L100, L107, L114, L121, L128, L135, L140, L147, L152, L157, L159]
    exact fin
-- ===== end =====
theorem IC_tp (hf : ∀ o k, o ≠ 1 → f' o k = f o k) (hG : ∀ q k, q ≠ 2 → G' q k = G q k) (hJ : ∀ q k, J' q k = J q k) (hZ : Z.1 ≤ 6) (ht : ITc f' G' T') (hI : IC f G J T S Z I) : IC f' G' J' T' S Z I := by
  obtain ⟨-, ⟨b1, b2, b3, b4, b5⟩, a3, a4, a5⟩ := hI
  refine ⟨ht, ⟨RS_e (fun k => hf 3 k (by omega)) (fun i hi k => hG _ k (by omega)) b1, RD_e (fun k => hf 3 k (by omega)) (fun i hi k => hG _ k (by omega)) b2, RQ_e (fun k => hf 3 k (by omega)) (fun i hi k => hG _ k (by omega)) b3, ?_, ?_⟩, ILc_e (hf 0 6 (by omega)) (fun o k x1 x2 => hf o k (by omega)) (fun o k x1 x2 => hG o k (by omega)) hZ a3, IIc_e (fun o k x1 x2 => hf o k (by omega)) (fun o k x1 x2 => hG o k (by omega)) a4, ?_⟩
  · unfold CK at b4 ⊢
    simp only [hJ]
    exact b4
  · intro h0 q hq
    rw [hG 51 q (by omega)]
    exact b5 h0 q hq
  · intro q hq
    rw [hG 14 q (by omega)]
    exact a5 q hq
theorem IM_tp (hf : f' 125 23 = f 125 23) (hG : ∀ q k, q ≠ 143 → G' q k = G q k) (ht : ITm f' G' T') (hM : IM f G T S Z I) : IM f' G' T' S Z I := by
  obtain ⟨-, a2, a3, a4, a5⟩ := hM
  refine ⟨ht, SCm_e (fun q k hq => hG q k (by omega)) a2, ILm_e hf (fun q k hq => hG q k (by omega)) a3, IIm_e (fun k => ⟨hG 165 k (by omega), hG 166 k (by omega)⟩) a4, ?_⟩
  intro h0 q hq
  rw [hG 140 q (by omega)]
  exact a5 h0 q hq
theorem c93 {n : Int32} {K : Int32 → aH → Prop} : vI scr d 93 [.ref 0, .int n] (wo f G J c) K = (if ¬ n < 0 ∧ n ≤ f 1 1 then K n (wo (up2 f 1 1 n) G J c) else K (-1) (wo f G J c)) := by
  unfold wo
  exact sp93
theorem m140 {n : Int32} {K : Int32 → aH → Prop} : vI scr d 140 [.ref 125, .int n] (wo f G J c) K = (if ¬ n < 0 ∧ n ≤ f 125 19 then K n (wo (up2 f 125 19 n) G J c) else K (-1) (wo f G J c)) := by
  unfold wo
  exact sp140
theorem op1 {n : Int32} {C F : aH → Prop} (hI : IC f G J T S Z I) (hM : IM f G T S Z I) (hA : WA T S Z I) (hC : NX C) : vI scr (d + 20) 93 [.ref 0, .int n] (wo f G J c) (fun x1 h => vI scr (d + 20) 140 [.ref 125, .int n] h (fun x' h' => if x1 = x' then C h' else F h')) := by
  have hZ := hA.2.2.1.1
  have h400 := hA.1.1
  have bn := dc_le n
  have e1 := hI.1.1
  have g1 := hM.1.1
  have hcond : (¬ n < 0 ∧ n ≤ nI T.1) = (dc n ≤ T.1) := by
    rw [(DC n).1, (DK n (n := T.1) (by omega)).2.1]
    apply propext
    omega
  by_cases h : dc n ≤ T.1
  · obtain ⟨j, hj, rfl, ej⟩ := dc_ex (show dc n < 401 by omega) (by omega)
    rw [ej] at h
    have hA' : WA (j, T.2) S Z I := ⟨⟨by show j ≤ 400; omega, fun i hi => hA.1.2 i (by have hi : i < j := hi; omega)⟩, hA.2⟩
    apply op_all (ans := nI j) (T' := (j, T.2)) (S' := S) (Z' := Z) (I' := I) hM hA' _ _ hC
    · intro K hK
      rw [c93, e1, if_pos (by rw [hcond, ej]; exact h)]
      refine hK _ _ _ c ⟨fun o k ho => up2_q (by omega), fun _ _ _ => rfl, fun _ _ _ => rfl⟩ (IC_tp (fun o k ho => up2_q ho) (fun _ _ _ => rfl) (fun _ _ => rfl) hZ ⟨up2_s, fun i hi => hI.1.2 i (by have hi : i < j := hi; omega)⟩ hI)
    · intro f G J c hM K hK
      have g1 := hM.1.1
      rw [m140, g1, if_pos (by rw [hcond, ej]; exact h)]
      refine hK _ _ _ ⟨fun o k ho => up2_q (by omega), fun _ _ _ => rfl, fun _ _ _ => rfl⟩ (IM_tp (up2_k (by decide)) (fun _ _ _ => rfl) ⟨up2_s, fun i hi => hM.1.2.1 i (by have hi : i < j := hi; omega), ?_⟩ hM)
      rw [up2_k (by decide)]
      exact hM.1.2.2
  · apply op_no (ans := -1) hI hM hA _ _ hC
    · intro K
      rw [c93, e1, if_neg (by rw [hcond]; exact h)]
    · intro K
      rw [m140, g1, if_neg (by rw [hcond]; exact h)]
-- ===== spoor =====
def spA (Q : Sp) (s w o : Nat) : Sp := (qN Q + 1, upN (qS Q) (qN Q) s, upN (qW Q) (qN Q) w, upN (qO Q) (qN Q) o)
theorem c62 {n s w o : Nat} (h7 : f 3 7 = nI n) (hn : n < 40) {K : aH → Prop} : vV scr d 62 [.ref 3, .int (nI s), .int (nI w), .int (nI o)] (wo f G J c) K = K (wo (up2 f 3 7 (nI (n + 1))) (up2 (up2 (up2 G 10 n (nI s)) 11 n (nI w)) 12 n (nI o)) J c) := by
  unfold vV
  rw [u62_ok isS3, en62, b62_0]
  simp (disch := omega) only [sC scr isS3, h7, LI, NC, show n < 40 from hn, show ¬ 40 ≤ n by omega, if_true, if_false, nI_1, ex_v, true_and]
end TX
