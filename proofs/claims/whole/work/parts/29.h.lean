variable {scr : List Int32}
-- ===== spoor, feed =====
section TY
variable {f G f' G' : Nat → Nat → Int32} {J J' : Nat → Nat → Int64} {c : Value} {d : Nat} {T T' : Tp} {S S' : Sn} {Z Z' : Lz} {I I' : Im} {P : Pn} {D : Dy} {B : Nat → Nat} {L : Lw}
/-- only the spoors change: the class -/
theorem IC_sq {Q' : Sp} (hf : ∀ o k, ¬ (o = 3 ∧ k = 7) → f' o k = f o k) (hG : ∀ q k, ¬ (10 ≤ q ∧ q ≤ 12) → G' q k = G q k) (hZ : Z.1 ≤ 6) (hq : RQ f' G' 3 Q') (hI : IC f G J T S Z I) : CF f G J f' G' J ∧ IC f' G' J T (S.1, S.2.1, Q') Z I := by
  obtain ⟨b1, b2, b3, b4, b5⟩ := hI.2.1
  refine ⟨⟨fun o k ho => hf o k (by omega), fun q k hq => hG q k (by omega), fun _ _ _ => rfl⟩, ?_⟩
  refine IC_cg (fun o k ho => hf o k (by omega)) (fun q k hq => hG q k (by omega)) hZ ⟨?_, ?_, hq, b4, ?_⟩ hI
  · unfold RS at b1 ⊢
    simp only [hf 3 0 (by omega), hf 3 1 (by omega), hf 3 2 (by omega), hf 3 3 (by omega), hf 3 4 (by omega), hG (3 + 1) _ (by omega), hG (3 + 4) _ (by omega), hG (3 + 5) _ (by omega)]
    exact b1
  · exact RD_cg (hf 3 5 (by omega)) (hf 3 6 (by omega)) (fun k => hG (3 + 2) k (by omega)) (fun k => hG (3 + 3) k (by omega)) (fun k => hG (3 + 6) k (by omega)) b2
  · intro h0 q hq2
    rw [hG 51 q (by omega)]
    exact b5 h0 q hq2
theorem IM_sq {Q' : Sp} (hG : ∀ q k, ¬ (q = 126 ∧ k = 5) → ¬ (137 ≤ q ∧ q ≤ 139) → G' q k = G q k) (hq : MSq G' Q') (hM : IM f G T S Z I) : MF f G J f G' J ∧ IM f G' T (S.1, S.2.1, Q') Z I := by
  obtain ⟨a1, ⟨ms, md, -⟩, a3, a4, a5⟩ := hM
  refine ⟨⟨fun _ _ _ => rfl, fun q k hq => hG q k (by omega) (by omega), fun _ _ _ => rfl⟩, ITm_e (fun _ => rfl) (fun k => hG 143 k (by omega) (by omega)) a1, ⟨?_, ?_, hq⟩, ILm_e rfl (fun q k hq => hG q k (by omega) (by omega)) a3, IIm_e (fun k => ⟨hG 165 k (by omega) (by omega), hG 166 k (by omega) (by omega)⟩) a4, ?_⟩
  · have h1 : ∀ k, G' 127 k = G 127 k := fun k => hG 127 k (by omega) (by omega)
    have h2 : ∀ k, G' 128 k = G 128 k := fun k => hG 128 k (by omega) (by omega)
    have h3 : ∀ k, G' 129 k = G 129 k := fun k => hG 129 k (by omega) (by omega)
    unfold MS at ms ⊢
    simp only [hG 126 0 (by omega) (by omega), hG 126 1 (by omega) (by omega), hG 126 2 (by omega) (by omega), hG 126 3 (by omega) (by omega), h1, h2, h3]
    exact ms
  · have h1 : ∀ k, G' 135 k = G 135 k := fun k => hG 135 k (by omega) (by omega)
    have h2 : ∀ k, G' 136 k = G 136 k := fun k => hG 136 k (by omega) (by omega)
    unfold MD at md ⊢
    simp only [hG 126 4 (by omega) (by omega), h1, h2]
    exact md
  · intro h0 q hq2
    rw [hG 140 q (by omega) (by omega)]
    exact a5 h0 q hq2
theorem op21 {s q o : Int32} {C F : aH → Prop} (hI : IC f G J T S Z I) (hM : IM f G T S Z I) (hA : WA T S Z I) (hC : NX C) : vI scr (d + 20) 113 [.ref 0, .int s, .int q, .int o] (wo f G J c) (fun x1 h => vI scr (d + 20) 214 [.ref 125, .int s, .int q, .int o] h (fun x' h' => if x1 = x' then C h' else F h')) := by
  obtain ⟨hP, hwS, hoc, hQ, hH⟩ := hA.2.1
  have hZ := hA.2.2.1.1
  have p12 := hP.2.2.2.1
  have q40 := hQ.1
  have bs := dc_le s
  have bq := dc_le q
  obtain ⟨hs, hd, hq, hck, hB⟩ := hI.2.1
  have e7 := hq.1
  obtain ⟨ms, md, mq⟩ := hM.2.1
  have g5 := mq.1
  by_cases hq1 : q = -1
  · have hA' : WA T (S.1, S.2.1, (0, S.2.2.2)) Z I := ⟨hA.1, ⟨hP, hwS, hoc, ⟨Nat.zero_le _, fun i hi => by have hi : i < 0 := hi; omega⟩, hH⟩, hA.2.2⟩
    apply op_all (ans := 0) (T' := T) (S' := (S.1, S.2.1, (0, S.2.2.2))) (Z' := Z) (I' := I) hM hA' _ _ hC
    · intro K hK
      unfold vI
      rw [u113_ok, en113, b113_0, if_pos hq1]
      simp only [tO scr, sC scr isS3, true_and]
      obtain ⟨cf, hI1⟩ := IC_sq (f' := up2 f 3 7 0) (G' := G) (Q' := (0, S.2.2.2)) (fun o k ho => by unfold up2; rw [if_neg ho]) (fun _ _ _ => rfl) hZ ⟨up2_s, fun i hi => by have hi : i < 0 := hi; omega⟩ hI
      exact ⟨_, rfl, hK _ _ _ c cf hI1⟩
    · intro f G J c hM K hK
      unfold vI
      rw [u214_ok, en214, b214_0, if_pos hq1]
      simp (disch := omega) only [mO scr, show (5 : Int32) = nI 5 from rfl, true_and]
      obtain ⟨mf, hM1⟩ := IM_sq (J := J) (G' := up2 G 126 5 0) (Q' := (0, S.2.2.2)) (fun q k h1 _ => by unfold up2; rw [if_neg h1]) ⟨up2_s, fun i hi => by have hi : i < 0 := hi; omega⟩ hM
      exact ⟨_, rfl, hK _ _ _ mf hM1⟩
  · by_cases hoq : o = q
    · subst hoq
      apply op_no (ans := -2) hI hM hA _ _ hC
      · intro K
        unfold vI
        rw [u113_ok, en113, b113_0, if_neg hq1]
        simp only [tO scr, c53 hP hs, c55 hP hs, bz_0, if_true, ex_i, true_and, ite_self]
      · intro K
        unfold vI
        rw [u214_ok, en214, b214_0, if_neg hq1]
        simp (disch := omega) only [mO scr, show (5 : Int32) = nI 5 from rfl, g5, s121, m127' hP ms, m128' hP ms, bz_0, if_true, ex_i, true_and, ite_self]
    · by_cases h : (1 ≤ dc s ∧ dc s ≤ 200) ∧ dc q < pPe S.1 ∧ exB S.1 (dc o) = true ∧ qN S.2.2 < 40
      · obtain ⟨⟨h1, h2⟩, h3, h4, h5⟩ := h
        have o14 := ex_lt hP h4
        obtain ⟨js, hjs, rfl, es⟩ := dc_ex (show dc s < 201 by omega) (by omega)
        obtain ⟨jq, hjq, rfl, eq⟩ := dc_ex h3 (by omega)
        obtain ⟨jo, hjo, rfl, eo⟩ := dc_ex o14 (by omega)
        rw [es] at h1 h2
        have hA' : WA T (S.1, S.2.1, spA S.2.2 js jq jo) Z I := by
          refine ⟨hA.1, ⟨hP, hwS, hoc, ⟨by show qN S.2.2 + 1 ≤ 40; omega, ?_⟩, hH⟩, hA.2.2⟩
          intro i hi
          have hi : i < qN S.2.2 + 1 := hi
          show 1 ≤ upN (qS S.2.2) (qN S.2.2) js i ∧ upN (qS S.2.2) (qN S.2.2) js i ≤ 200 ∧ upN (qW S.2.2) (qN S.2.2) jq i < pPe S.1 ∧ upN (qO S.2.2) (qN S.2.2) jo i < 14
          simp only [upN_at]
          by_cases e : i = qN S.2.2
          · simp only [e, if_true]; exact ⟨h1, h2, hjq, hjo⟩
          · simp only [e, if_false]; exact hQ.2 i (by omega)
        have noq : ¬ nI jo = nI jq := hoq
        apply op_all (ans := nI (qN S.2.2 + 1)) (T' := T) (S' := (S.1, S.2.1, spA S.2.2 js jq jo)) (Z' := Z) (I' := I) hM hA' _ _ hC
        · intro K hK
          unfold vI
          rw [u113_ok, en113, b113_0, if_neg hq1]
          simp (disch := omega) only [NC, show (200 : Int32) = nI 200 from rfl, show ¬ js = 0 by omega, show ¬ 200 < js by omega, if_false, tO scr, c53 hP hs, c55 hP hs, eq, hjq, h4, decide_true, bz_t, n10, noq, sC scr isS3, e7, show (40 : Int32) = nI 40 from rfl, h5, if_true, c62 e7 h5, true_and]
          have hq' : RQ (up2 f 3 7 (nI (qN S.2.2 + 1))) (up2 (up2 (up2 G 10 (qN S.2.2) (nI js)) 11 (qN S.2.2) (nI jq)) 12 (qN S.2.2) (nI jo)) 3 (spA S.2.2 js jq jo) := by
            refine ⟨up2_s, ?_⟩
            intro i hi
            have hi : i < qN S.2.2 + 1 := hi
            show up2 (up2 (up2 G 10 (qN S.2.2) (nI js)) 11 (qN S.2.2) (nI jq)) 12 (qN S.2.2) (nI jo) 10 i = nI (upN (qS S.2.2) (qN S.2.2) js i) ∧ up2 (up2 (up2 G 10 (qN S.2.2) (nI js)) 11 (qN S.2.2) (nI jq)) 12 (qN S.2.2) (nI jo) 11 i = nI (upN (qW S.2.2) (qN S.2.2) jq i) ∧ up2 (up2 (up2 G 10 (qN S.2.2) (nI js)) 11 (qN S.2.2) (nI jq)) 12 (qN S.2.2) (nI jo) 12 i = nI (upN (qO S.2.2) (qN S.2.2) jo i)
            rw [up2_q (show 10 ≠ 12 by decide), up2_q (show 10 ≠ 11 by decide), up2_q (show 11 ≠ 12 by decide), up2_a, up2_a, up2_a, up2_q (show 11 ≠ 10 by decide), up2_q (show 12 ≠ 11 by decide), up2_q (show 12 ≠ 10 by decide)]
            simp only [upN_at]
            by_cases e : i = qN S.2.2
            · simp only [e, if_true, and_self]
            · simp only [e, if_false]; exact hq.2 i (by omega)
          obtain ⟨cf, hI1⟩ := IC_sq (f' := up2 f 3 7 (nI (qN S.2.2 + 1))) (G' := (up2 (up2 (up2 G 10 (qN S.2.2) (nI js)) 11 (qN S.2.2) (nI jq)) 12 (qN S.2.2) (nI jo))) (Q' := spA S.2.2 js jq jo) (fun o k ho => by unfold up2; rw [if_neg ho]) (fun q k hq => by rw [up2_q (by omega), up2_q (by omega), up2_q (by omega)]) hZ hq' hI
          simp only [up2_s]
          exact ⟨_, rfl, hK _ _ _ c cf hI1⟩
        · intro f G J c hM K hK
          obtain ⟨ms, md, mq⟩ := hM.2.1
          have g5 := mq.1
          unfold vI
          rw [u214_ok, en214, b214_0, if_neg hq1]
          have n40 : ¬ qN S.2.2 = 40 := by omega
          simp (disch := omega) only [mO scr, show (5 : Int32) = nI 5 from rfl, g5, show (40 : Int32) = nI 40 from rfl, NC, n40, if_false, s121, m127' hP ms, m128' hP ms, es, eq, h1, h2, hjq, h4, and_self, decide_true, bz_t, n10, noq, up2_q (show 126 ≠ 139 by decide), up2_q (show 126 ≠ 138 by decide), up2_q (show 126 ≠ 137 by decide), nI_1, true_and]
          have hq' : MSq (up2 (up2 (up2 (up2 G 137 (qN S.2.2) (nI js)) 138 (qN S.2.2) (nI jq)) 139 (qN S.2.2) (nI jo)) 126 5 (nI (qN S.2.2 + 1))) (spA S.2.2 js jq jo) := by
            refine ⟨up2_s, ?_⟩
            intro i hi
            have hi : i < qN S.2.2 + 1 := hi
            show up2 (up2 (up2 (up2 G 137 (qN S.2.2) (nI js)) 138 (qN S.2.2) (nI jq)) 139 (qN S.2.2) (nI jo)) 126 5 (nI (qN S.2.2 + 1)) 137 i = nI (upN (qS S.2.2) (qN S.2.2) js i) ∧ up2 (up2 (up2 (up2 G 137 (qN S.2.2) (nI js)) 138 (qN S.2.2) (nI jq)) 139 (qN S.2.2) (nI jo)) 126 5 (nI (qN S.2.2 + 1)) 138 i = nI (upN (qW S.2.2) (qN S.2.2) jq i) ∧ up2 (up2 (up2 (up2 G 137 (qN S.2.2) (nI js)) 138 (qN S.2.2) (nI jq)) 139 (qN S.2.2) (nI jo)) 126 5 (nI (qN S.2.2 + 1)) 139 i = nI (upN (qO S.2.2) (qN S.2.2) jo i)
            rw [up2_q (show 137 ≠ 126 by decide), up2_q (show 138 ≠ 126 by decide), up2_q (show 139 ≠ 126 by decide), up2_q (show 137 ≠ 139 by decide), up2_q (show 137 ≠ 138 by decide), up2_q (show 138 ≠ 139 by decide), up2_a, up2_a, up2_a, up2_q (show 138 ≠ 137 by decide), up2_q (show 139 ≠ 138 by decide), up2_q (show 139 ≠ 137 by decide)]
            simp only [upN_at]
            by_cases e : i = qN S.2.2
            · simp only [e, if_true, and_self]
            · simp only [e, if_false]; exact mq.2 i (by omega)
          obtain ⟨mf, hM1⟩ := IM_sq (J := J) (G' := (up2 (up2 (up2 (up2 G 137 (qN S.2.2) (nI js)) 138 (qN S.2.2) (nI jq)) 139 (qN S.2.2) (nI jo)) 126 5 (nI (qN S.2.2 + 1)))) (Q' := spA S.2.2 js jq jo) (fun q k h1 h2 => by
            unfold up2
            rw [if_neg h1, if_neg (by omega), if_neg (by omega), if_neg (by omega)]) hq' hM
          exact ⟨_, rfl, hK _ _ _ mf hM1⟩
      · have e40 : (nI (qN S.2.2) = (40 : Int32)) = (qN S.2.2 = 40) := by rw [show (40 : Int32) = nI 40 from rfl, nI_eq (by omega) (by decide)]
        have l40 : (nI (qN S.2.2) < (40 : Int32)) = (qN S.2.2 < 40) := by rw [show (40 : Int32) = nI 40 from rfl, nI_ltI (by omega) (by decide)]
        cases hex : exB S.1 (dc o) with
        | false =>
          apply op_no (ans := -2) hI hM hA _ _ hC
          · intro K
            unfold vI
            rw [u113_ok, en113, b113_0, if_neg hq1]
            simp only [tO scr, c53 hP hs, c55 hP hs, hex, bz_f, if_true, ex_i, true_and, ite_self]
          · intro K
            unfold vI
            rw [u214_ok, en214, b214_0, if_neg hq1]
            simp (disch := omega) only [mO scr, show (5 : Int32) = nI 5 from rfl, g5, s121, m127' hP ms, m128' hP ms, hex, bz_f, if_true, ex_i, true_and, ite_self]
        | true =>
          rw [hex] at h
          have h' : ¬ ((1 ≤ dc s ∧ dc s ≤ 200) ∧ dc q < pPe S.1 ∧ qN S.2.2 < 40) := fun x => h ⟨x.1, x.2.1, rfl, x.2.2⟩
          clear h
          apply op_no (ans := -2) hI hM hA _ _ hC
          · intro K
            unfold vI
            rw [u113_ok, en113, b113_0, if_neg hq1]
            simp only [tO scr, c53 hP hs, c55 hP hs, hex, bz_t, n10, if_false, hoq, sC scr isS3, e7, l40, bz_0, decide_eq_false_iff_not, DB s, ex_i, true_and]
            repeat' split
            all_goals first | rfl | (exfalso; omega)
          · intro K
            unfold vI
            rw [u214_ok, en214, b214_0, if_neg hq1]
            have e5 : ∀ K : Int32 → Prop, aI scr (wo f G J c) 126 5 K = K (nI (qN S.2.2)) := fun K => by rw [show (5 : Int32) = nI 5 from rfl, wo_aI A_mo_scalar (by decide), g5]
            have e1 : ∀ K : Nat → Prop, gR scr (wo f G J c) 125 9 1 K = K 126 := fun K => by simp only [mO scr]
            simp only [e1, e5, e40, s121, m127' hP ms, m128' hP ms, hex, bz_t, n10, if_false, hoq, bz_0, decide_eq_false_iff_not, ex_i, true_and]
            repeat' split
            all_goals first | rfl | (exfalso; omega)
-- ===== feed =====
def yB (x s : Int32) : Int32 := ((Int8.toInt32 (Int32.toInt8 (UInt32.toInt32 ((Int32.toUInt32 x : UInt32) >>> ((Int32.toUInt32 s &&& Int32.toUInt32 31) : UInt32))))) : Int32).toInt8.toInt32
def pu4 (T : Tp) (x : Int32) : Tp := (T.1 + 4, fun i => if i = T.1 + 3 then yB x 0 else if i = T.1 + 2 then yB x 8 else if i = T.1 + 1 then yB x 16 else if i = T.1 then yB x 24 else T.2 i)
theorem yB_s (x : Int32) {s : Int32} {k : Nat} (hk : k ≤ 24) (h1 : ((s.toUInt32 &&& Int32.toUInt32 31).toBitVec % 32).toNat = k) (h2 : ((s &&& 31).toBitVec.smod 32).toNat = k) : Int32.toInt8 (UInt32.toInt32 ((Int32.toUInt32 x : UInt32) >>> ((Int32.toUInt32 s &&& Int32.toUInt32 31) : UInt32))) = Int32.toInt8 ((x : Int32) >>> ((s : Int32) &&& 31) : Int32) := by
  apply Int8.toBitVec_inj.mp
  have e1 := pk_ushr x s k h1
  have e2 := pk_shr x (s &&& 31) k h2
  apply BitVec.eq_of_toNat_eq
  have q1 : ∀ y : Int32, y.toInt8.toBitVec.toNat = y.toBitVec.toNat % 256 := by
    intro y
    show (BitVec.signExtend 8 y.toBitVec).toNat = _
    rw [BitVec.signExtend_eq_setWidth_of_le _ (by decide), BitVec.toNat_setWidth]
  rw [q1, q1, e1]
  have q2 : ((x >>> (s &&& 31)).toBitVec.toNat : Int) = (x.toInt >>> k) % 4294967296 := by
    rw [← e2]
    have := BitVec.toInt_eq_toNat_bmod (x >>> (s &&& 31)).toBitVec
    show _ = (x >>> (s &&& 31)).toBitVec.toInt % 4294967296
    rw [this]
    have lt := (x >>> (s &&& 31)).toBitVec.isLt
    rw [show (4294967296 : Int) = ((2 ^ 32 : Nat) : Int) by decide, Int.bmod_emod]
    show _ = _ % (4294967296 : Int)
    omega
  have q3 : x.toInt = Int.bmod x.toBitVec.toNat 4294967296 := BitVec.toInt_eq_toNat_bmod x.toBitVec
  have lt := x.toBitVec.isLt
  have q4 : x.toInt = x.toBitVec.toNat ∨ x.toInt = (x.toBitVec.toNat : Int) - 4294967296 := by
    rw [q3]
    unfold Int.bmod
    dsimp only
    split <;> omega
  rw [Int.shiftRight_eq_div_pow] at q2
  generalize x.toBitVec.toNat = n at *
  generalize (x >>> (s &&& 31)).toBitVec.toNat = m at *
  have hk2 : k = 0 ∨ k = 1 ∨ k = 2 ∨ k = 3 ∨ k = 4 ∨ k = 5 ∨ k = 6 ∨ k = 7 ∨ k = 8 ∨ k = 9 ∨ k = 10 ∨ k = 11 ∨ k = 12 ∨ k = 13 ∨ k = 14 ∨ k = 15 ∨ k = 16 ∨ k = 17 ∨ k = 18 ∨ k = 19 ∨ k = 20 ∨ k = 21 ∨ k = 22 ∨ k = 23 ∨ k = 24 := by omega
  rcases hk2 with rfl | rfl | rfl | rfl | rfl | rfl | rfl | rfl | rfl | rfl | rfl | rfl | rfl | rfl | rfl | rfl | rfl | rfl | rfl | rfl | rfl | rfl | rfl | rfl | rfl <;> simp at q2 ⊢ <;> omega
end TY
