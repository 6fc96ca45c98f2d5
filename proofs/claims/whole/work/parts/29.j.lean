variable {scr : List Int32}
-- ===== image, back =====
section TW
variable {f G f' G' : Nat → Nat → Int32} {J J' : Nat → Nat → Int64} {c : Value} {d : Nat} {T T' : Tp} {S S' : Sn} {Z Z' : Lz} {I I' : Im} {P : Pn} {D : Dy} {B : Nat → Nat} {L : Lw}
theorem SCm_b (hW : WW S) (h0 : ∀ i, i < 6 → G' 126 i = G 126 i) (h1 : ∀ i, i < 144 → G' 127 i = G 127 i) (h2 : ∀ i, i < 12 → G' 128 i = G 128 i ∧ G' 129 i = G 129 i ∧ G' 136 i = G 136 i) (h3 : ∀ i, i < 14 → G' 135 i = G 135 i) (h4 : ∀ i, i < 40 → G' 137 i = G 137 i ∧ G' 138 i = G 138 i ∧ G' 139 i = G 139 i) (hm : SCm G S) : SCm G' S := by
  obtain ⟨hP, -, -, hQ, -⟩ := hW
  have p12 := hP.2.2.2.1
  have q40 := hQ.1
  obtain ⟨⟨⟨m0, m1, m2, m3⟩, m4, m5, m6⟩, ⟨d1, d2, d3⟩, e1, e2⟩ := hm
  refine ⟨⟨⟨?_, ?_, ?_, ?_⟩, ?_, ?_, ?_⟩, ⟨?_, ?_, ?_⟩, ?_, ?_⟩
  · rw [h0 0 (by decide)]; exact m0
  · rw [h0 1 (by decide)]; exact m1
  · rw [h0 2 (by decide)]; exact m2
  · rw [h0 3 (by decide)]; exact m3
  · intro q hq; rw [h1 q (th_lt hP hq)]; exact m4 q hq
  · intro w hw; rw [(h2 w (by omega)).1]; exact m5 w hw
  · intro w hw; rw [(h2 w (by omega)).2.1]; exact m6 w hw
  · rw [h0 4 (by decide)]; exact d1
  · intro w hw; rw [h3 w (ex_lt hP hw)]; exact d2 w hw
  · intro w hw; rw [(h2 w (by omega)).2.2]; exact d3 w hw
  · rw [h0 5 (by decide)]; exact e1
  · intro i hi; rw [(h4 i (by omega)).1, (h4 i (by omega)).2.1, (h4 i (by omega)).2.2]; exact e2 i hi
theorem GI_r {k i : Nat} : GI G k 126 i = G 165 (330 * k + i) ∧ GI G k 127 i = G 165 (330 * k + 6 + i) ∧ GI G k 128 i = G 165 (330 * k + 150 + i) ∧ GI G k 129 i = G 165 (330 * k + 162 + i) ∧ GI G k 135 i = G 165 (330 * k + 174 + i) ∧ GI G k 136 i = G 165 (330 * k + 188 + i) ∧ GI G k 137 i = G 165 (330 * k + 200 + i) ∧ GI G k 138 i = G 165 (330 * k + 240 + i) ∧ GI G k 139 i = G 165 (330 * k + 280 + i) := ⟨rfl, rfl, rfl, rfl, rfl, rfl, rfl, rfl, rfl⟩
/-- an image, as it was made -/
theorem SCm_sv {k : Nat} (hW : WW S) (hm : SCm G S) : SCm (GI (svA G k) k) S := by
  refine SCm_b hW ?_ ?_ ?_ ?_ ?_ hm
  · intro i hi; rw [GI_r.1]; exact svA_126 hi
  · intro i hi; rw [GI_r.2.1]; exact svA_127 hi
  · intro i hi
    rw [GI_r.2.2.1, GI_r.2.2.2.1, GI_r.2.2.2.2.2.1]
    exact ⟨svA_128 hi, svA_129 hi, svA_136 hi⟩
  · intro i hi; rw [GI_r.2.2.2.2.1]; exact svA_135 hi
  · intro i hi
    rw [GI_r.2.2.2.2.2.2.1, GI_r.2.2.2.2.2.2.2.1, GI_r.2.2.2.2.2.2.2.2]
    exact ⟨svA_137 hi, svA_138 hi, svA_139 hi⟩
theorem SCm_sx {k k' : Nat} (hk : k' ≠ k) (hW : WW S) (hm : SCm (GI G k') S) : SCm (GI (svA G k) k') S := by
  have o : ∀ x, x < 320 → svA G k 165 (330 * k' + x) = G 165 (330 * k' + x) := fun x hx => svA_out (by omega)
  refine SCm_b hW ?_ ?_ ?_ ?_ ?_ hm
  · intro i hi; rw [GI_r.1, GI_r.1]; exact o i (by omega)
  · intro i hi; rw [GI_r.2.1, GI_r.2.1, Nat.add_assoc]; exact o _ (by omega)
  · intro i hi
    rw [GI_r.2.2.1, GI_r.2.2.2.1, GI_r.2.2.2.2.2.1, GI_r.2.2.1, GI_r.2.2.2.1, GI_r.2.2.2.2.2.1, Nat.add_assoc, Nat.add_assoc, Nat.add_assoc]
    exact ⟨o _ (by omega), o _ (by omega), o _ (by omega)⟩
  · intro i hi; rw [GI_r.2.2.2.2.1, GI_r.2.2.2.2.1, Nat.add_assoc]; exact o _ (by omega)
  · intro i hi
    rw [GI_r.2.2.2.2.2.2.1, GI_r.2.2.2.2.2.2.2.1, GI_r.2.2.2.2.2.2.2.2, GI_r.2.2.2.2.2.2.1, GI_r.2.2.2.2.2.2.2.1, GI_r.2.2.2.2.2.2.2.2, Nat.add_assoc, Nat.add_assoc, Nat.add_assoc]
    exact ⟨o _ (by omega), o _ (by omega), o _ (by omega)⟩
theorem SCm_ld {k : Nat} (hW : WW S) (hm : SCm (GI G k) S) : SCm (ldA2 G k) S := by
  refine SCm_b hW ?_ ?_ ?_ ?_ ?_ hm
  · intro i hi; rw [GI_r.1]; exact ldA_126 hi
  · intro i hi; rw [GI_r.2.1]; exact ldA_127 hi
  · intro i hi
    rw [GI_r.2.2.1, GI_r.2.2.2.1, GI_r.2.2.2.2.2.1]
    exact ⟨ldA_128 hi, ldA_129 hi, ldA_136 hi⟩
  · intro i hi; rw [GI_r.2.2.2.2.1]; exact ldA_135 hi
  · intro i hi
    rw [GI_r.2.2.2.2.2.2.1, GI_r.2.2.2.2.2.2.2.1, GI_r.2.2.2.2.2.2.2.2]
    exact ⟨ldA_137 hi, ldA_138 hi, ldA_139 hi⟩
theorem RQ_cp {p p' : Nat} (hf : ∀ k, k < 8 → f' p' k = f p k) (hG : ∀ i k, 1 ≤ i → i ≤ 9 → G' (p' + i) k = G (p + i) k) {Q : Sp} (hd : RQ f G p Q) : RQ f' G' p' Q := by
  unfold RQ at hd ⊢
  simp only [hf 7 (by omega), hG 7 _ (by omega) (by omega), hG 8 _ (by omega) (by omega), hG 9 _ (by omega) (by omega)]
  exact hd
def upI (I : Im) (k : Nat) (S : Sn) : Im := fun i => if i = k then some S else I i
theorem op25 {k : Int32} {C F : aH → Prop} (hI : IC f G J T S Z I) (hM : IM f G T S Z I) (hA : WA T S Z I) (hC : NX C) : vI scr (d + 20) 117 [.ref 0, .int k] (wo f G J c) (fun x1 h => vI scr (d + 20) 220 [.ref 125, .int k] h (fun x' h' => if x1 = x' then C h' else F h')) := by
  have hW := hA.2.1
  have hZ := hA.2.2.1.1
  have bk := dc_le k
  obtain ⟨hs, hd, hq, hck, hB⟩ := hI.2.1
  by_cases h : dc k ≤ 3
  · obtain ⟨j, hj, rfl, ej⟩ := dc_ex (show dc k < 4 by omega) (by omega)
    have hA' : WA T S Z (upI I j S) := by
      refine ⟨hA.1, hW, hA.2.2.1, ?_⟩
      intro i x hx
      unfold upI at hx
      by_cases e : i = j
      · rw [if_pos e] at hx; cases hx; exact hW
      · rw [if_neg e] at hx; exact hA.2.2.2 i x hx
    apply op_all (ans := dSt S.2.1) (T' := T) (S' := S) (Z' := Z) (I' := upI I j S) hM hA' _ _ hC
    · intro K hK
      unfold vI
      rw [u117_ok, en117, b117_0]
      simp (disch := omega) only [NC, LI, if_false, show j < 4 from hj, if_true, tO scr, imR, true_and]
      apply w51 (isI hj) isS3 (by omega) hs hd
      intro f1 G1 a1 a2 a3 a4
      simp (disch := omega) only [tO scr, sC scr isS3]
      have pG : ∀ q i, ¬ (84 + 10 * j + 1 ≤ q ∧ q ≤ 84 + 10 * j + 9) → q ≠ 124 → up2 G1 124 j (1 &&& 1) q i = G q i := fun q i b1 b2 => by rw [up2_q b2, a4 q i b1]
      have e5 : f1 3 5 = dSt S.2.1 := by rw [a2 3 5 (by omega)]; exact hd.1
      rw [e5]
      refine ⟨_, rfl, hK f1 _ J c ⟨fun o i ho => a2 o i (by omega), fun q i hq => pG q i (by omega) (by omega), fun _ _ _ => rfl⟩ ?_⟩
      refine ⟨⟨by rw [a2 1 1 (by omega)]; exact hI.1.1, fun i hi => by rw [pG 2 i (by omega) (by omega)]; exact hI.1.2 i hi⟩, ⟨RS_e (fun i => a2 3 i (by omega)) (fun i hi x => pG _ x (by omega) (by omega)) hs, RD_e (fun i => a2 3 i (by omega)) (fun i hi x => pG _ x (by omega) (by omega)) hd, RQ_e (fun i => a2 3 i (by omega)) (fun i hi x => pG _ x (by omega) (by omega)) hq, hck, fun h0 q hq2 => by rw [pG 51 q (by omega) (by omega)]; exact hB h0 q hq2⟩, ILc_e (a2 0 6 (by omega)) (fun o i x1 x2 => a2 o i (by omega)) (fun o i x1 x2 => pG o i (by omega) (by omega)) hZ hI.2.2.1, ?_, fun q hq2 => by rw [pG 14 q (by omega) (by omega)]; exact hI.2.2.2.2 q hq2⟩
      intro i hi
      by_cases e : i = j
      · subst e
        refine ⟨by rw [up2_s]; simp only [upI, if_true, Option.isSome_some]; decide, ?_⟩
        intro x hx
        simp only [upI, if_true] at hx
        cases hx
        have a3' : ∀ m y, 1 ≤ m → m ≤ 9 → up2 G1 124 i (1 &&& 1) (84 + 10 * i + m) y = G (3 + m) y := fun m y m1 m2 => by rw [up2_q (by omega), a3 m y m1 m2]
        exact ⟨RS_cp a1 a3' hs, RD_cp a1 a3' hd, RQ_cp a1 a3' hq⟩
      · obtain ⟨x1, x2⟩ := hI.2.2.2.1 i hi
        refine ⟨by rw [up2_k e, a4 124 i (by omega)]; simp only [upI, e, if_false]; exact x1, ?_⟩
        intro x hx
        simp only [upI, e, if_false] at hx
        obtain ⟨y1, y2, y3⟩ := x2 x hx
        have ef : ∀ m, f1 (84 + 10 * i) m = f (84 + 10 * i) m := fun m => a2 _ m (by omega)
        have eG : ∀ m, m < 10 → ∀ y, up2 G1 124 j (1 &&& 1) (84 + 10 * i + m) y = G (84 + 10 * i + m) y := fun m hm y => pG _ y (by omega) (by omega)
        exact ⟨RS_e ef eG y1, RD_e ef eG y2, RQ_e ef eG y3⟩
    · intro f G J c hM K hK
      obtain ⟨a1, a2, a3, a4, a5⟩ := hM
      unfold vI
      rw [u220_ok, en220, b220_0]
      simp (disch := omega) only [s121, ej, show j ≤ 3 by omega, decide_true, bz_t, n10, if_false, mO scr, true_and]
      apply m219s hj
      intro f1 p1
      have pG : ∀ q i, q ≠ 165 → q ≠ 166 → svA (up2 G 166 j (1 &&& 1)) j q i = G q i := fun q i b1 b2 => by rw [svA_o b1, up2_q b2]
      have e4 : svA (up2 G 166 j (1 &&& 1)) j 126 4 = dSt S.2.1 := by rw [pG 126 4 (by decide) (by decide)]; exact a2.2.1.1
      simp (disch := omega) only [mO scr, show (4 : Int32) = nI 4 from rfl, e4]
      have sc0 : SCm (up2 G 166 j (1 &&& 1)) S := SCm_e (fun q i hq => up2_q (by omega)) a2
      refine ⟨_, rfl, hK f1 _ J ⟨fun o i ho => p1 o i (by omega), fun q i hq => pG q i (by omega) (by omega), fun _ _ _ => rfl⟩ ?_⟩
      refine ⟨?_, SCm_e (fun q i hq => pG q i (by omega) (by omega)) a2, ILm_e (p1 125 23 (by decide)) (fun q i hq => pG q i (by omega) (by omega)) a3, ?_, fun h0 q hq => by rw [pG 140 q (by decide) (by decide)]; exact a5 h0 q hq⟩
      · unfold ITm at a1 ⊢
        rw [p1 125 19 (by decide), p1 125 28 (by decide)]
        refine ⟨a1.1, fun i hi => ?_, a1.2.2⟩
        rw [pG 143 i (by decide) (by decide)]
        exact a1.2.1 i hi
      · intro i hi
        obtain ⟨x1, x2⟩ := a4 i hi
        by_cases e : i = j
        · subst e
          refine ⟨by rw [svA_o (by decide), up2_s]; simp only [upI, if_true, Option.isSome_some]; decide, ?_⟩
          intro x hx
          simp only [upI, if_true] at hx
          cases hx
          exact SCm_sv hW sc0
        · refine ⟨by rw [svA_o (by decide), up2_k e]; simp only [upI, e, if_false]; exact x1, ?_⟩
          intro x hx
          simp only [upI, e, if_false] at hx
          apply SCm_sx e (hA.2.2.2 i x hx)
          rw [GI_e (fun y => up2_q (by decide))]
          exact x2 x hx
  · apply op_no (ans := -1) hI hM hA _ _ hC
    · intro K
      unfold vI
      rw [u117_ok, en117, b117_0]
      simp only [DB k, ex_i, true_and]
      repeat' split
      all_goals first | rfl | (exfalso; omega)
    · intro K
      unfold vI
      rw [u220_ok, en220, b220_0]
      simp only [s121, h, decide_false, bz_f, if_true, ex_i, true_and]
theorem op26 {k : Int32} {C F : aH → Prop} (hI : IC f G J T S Z I) (hM : IM f G T S Z I) (hA : WA T S Z I) (hC : NX C) : vI scr (d + 20) 118 [.ref 0, .int k] (wo f G J c) (fun x1 h => vI scr (d + 20) 221 [.ref 125, .int k] h (fun x' h' => if x1 = x' then C h' else F h')) := by
  have hZ := hA.2.2.1.1
  have bk := dc_le k
  by_cases h : dc k ≤ 3
  · obtain ⟨j, hj, rfl, ej⟩ := dc_ex (show dc k < 4 by omega) (by omega)
    obtain ⟨i1, i2⟩ := hI.2.2.2.1 j hj
    obtain ⟨m1, m2⟩ := hM.2.2.2.1 j hj
    cases hx : I j with
    | none =>
      rw [hx] at i1 m1
      have i1 : G 124 j = 0 := i1
      have m1 : G 166 j = 0 := m1
      apply op_no (ans := -1) hI hM hA _ _ hC
      · intro K
        unfold vI
        rw [u118_ok, en118, b118_0]
        simp (disch := omega) only [NC, LI, if_false, show ¬ 4 ≤ j by omega, tO scr, i1, if_true, ex_i, true_and]
      · intro K
        unfold vI
        rw [u221_ok, en221, b221_0]
        simp (disch := omega) only [s121, ej, show j ≤ 3 by omega, decide_true, bz_t, n10, if_false, mO scr, m1, if_true, ex_i, true_and]
    | some x =>
      rw [hx] at i1 m1
      have i1 : G 124 j = 1 := i1
      obtain ⟨y1, y2, y3⟩ := i2 x hx
      have hWx := hA.2.2.2 j x hx
      have hP := hWx.1
      have hA' : WA T x Z I := ⟨hA.1, hWx, hA.2.2⟩
      apply op_all (ans := dSt x.2.1) (T' := T) (S' := x) (Z' := Z) (I' := I) hM hA' _ _ hC
      · intro K hK
        unfold vI
        rw [u118_ok, en118, b118_0]
        simp (disch := omega) only [NC, LI, if_false, show ¬ 4 ≤ j by omega, tO scr, i1, n10, imR, true_and]
        apply w51 isS3 (isI hj) (by omega) y1 y2
        intro f1 G1 a1 a2 a3 a4
        have hs1 : RS f1 G1 3 x.1 := RS_cp a1 a3 y1
        have hd1 : RD f1 G1 3 x.2.1 := RD_cp a1 a3 y2
        have hq1 : RQ f1 G1 3 x.2.2 := RQ_cp a1 a3 y3
        simp only [tO scr]
        apply w1 isS3 hP hs1
        intro G2 J2 tg ck b1 b2
        have e5 : f1 3 5 = dSt x.2.1 := hd1.1
        simp only [tO scr, sC scr isS3, e5]
        refine ⟨_, rfl, hK f1 G2 J2 c ⟨fun o i ho => a2 o i (by omega), fun q i hq => by rw [b1 q i (by omega) (by omega), a4 q i (by omega)], fun q i hq => b2 q i (by omega) (by omega)⟩ ?_⟩
        refine IC_cg (fun o i ho => a2 o i (by omega)) (fun q i hq => by rw [b1 q i (by omega) (by omega), a4 q i (by omega)]) hZ ⟨RS_e (fun _ => rfl) (fun i hi y => b1 _ y (by omega) (by omega)) hs1, RD_e (fun _ => rfl) (fun i hi y => b1 _ y (by omega) (by omega)) hd1, RQ_e (fun _ => rfl) (fun i hi y => b1 _ y (by omega) (by omega)) hq1, ck, fun _ => tg⟩ hI
      · intro f G J c hM K hK
        obtain ⟨a1, a2, a3, a4, a5⟩ := hM
        obtain ⟨m1, m2⟩ := a4 j hj
        rw [hx] at m1
        have m1 : G 166 j = 1 := m1
        unfold vI
        rw [u221_ok, en221, b221_0]
        simp (disch := omega) only [s121, ej, show j ≤ 3 by omega, decide_true, bz_t, n10, if_false, mO scr, m1, true_and]
        apply m219l hj
        intro f1 p1
        have sc1 : SCm (ldA2 G j) x := SCm_ld hWx (m2 x hx)
        apply m135 hP sc1.1
        intro G2 tg b1
        have pG : ∀ q i, ¬ (126 ≤ q ∧ q ≤ 129) ∧ ¬ (135 ≤ q ∧ q ≤ 139) → q ≠ 140 → q ≠ 141 → G2 q i = G q i := fun q i c1 c2 c3 => by rw [b1 q i c2 c3, ldA_o c1]
        have sc2 : SCm G2 x := SCm_e (fun q i hq => b1 q i (by omega) (by omega)) sc1
        have e4 := sc2.2.1.1
        simp (disch := omega) only [mO scr, show (4 : Int32) = nI 4 from rfl, e4]
        refine ⟨_, rfl, hK f1 G2 J ⟨fun o i ho => p1 o i (by omega), fun q i hq => pG q i (by omega) (by omega) (by omega), fun _ _ _ => rfl⟩ ?_⟩
        refine ⟨?_, sc2, ILm_e (p1 125 23 (by decide)) (fun q i hq => pG q i (by omega) (by omega) (by omega)) a3, IIm_e (fun i => ⟨pG 165 i (by omega) (by omega) (by omega), pG 166 i (by omega) (by omega) (by omega)⟩) a4, fun _ => tg⟩
        unfold ITm at a1 ⊢
        rw [p1 125 19 (by decide), p1 125 28 (by decide)]
        refine ⟨a1.1, fun i hi => ?_, a1.2.2⟩
        rw [pG 143 i (by omega) (by omega) (by omega)]
        exact a1.2.1 i hi
  · apply op_no (ans := -1) hI hM hA _ _ hC
    · intro K
      unfold vI
      rw [u118_ok, en118, b118_0]
      simp only [DB k, ex_i, true_and]
      repeat' split
      all_goals first | rfl | (exfalso; omega)
    · intro K
      unfold vI
      rw [u221_ok, en221, b221_0]
      simp only [s121, h, decide_false, bz_f, if_true, ex_i, true_and]
end TW
