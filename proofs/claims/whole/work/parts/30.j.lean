variable {scr : List Int32}
-- ===== the plain, read by the model: clauses, all of it =====
section RE10
variable {f G f' G' : Nat → Nat → Int32} {J J' : Nat → Nat → Int64} {c : Value} {d : Nat} {T : Tp} {p q : Nat} {P : Pn} {pl : Nat → Option Nat}
theorem DMm_e (h : ∀ q k, 130 ≤ q ∧ q ≤ 134 → G' q k = G q k) (hd : DMm G P pl) : DMm G' P pl := by
  have h0 : ∀ k, G' 130 k = G 130 k := fun k => h 130 k (by omega)
  have h1 : ∀ k, G' 131 k = G 131 k := fun k => h 131 k (by omega)
  have h2 : ∀ k, G' 132 k = G 132 k := fun k => h 132 k (by omega)
  have h3 : ∀ k, G' 133 k = G 133 k := fun k => h 133 k (by omega)
  have h4 : ∀ k, G' 134 k = G 134 k := fun k => h 134 k (by omega)
  unfold DMm at hd ⊢
  simp only [h0, h1, h2, h3, h4]
  exact hd
/-- the people's clause, behind the cell -/
theorem m165_p (hT : TX T) (mt : MT f G T q) (hq : q ≤ T.1) (h21 : f 125 21 = 0) (dm : DMm G P pl) (wd : WD P pl) (hr : 0 < pRo P) (hp : pPe P < 12) {t : Nat} (hfr : frA P pl t = true) {l1 l2 : Int32} {K : Option Value → aH → Prop}
    (hf : ∀ x f' G', (match nuR T q 0 99 with
      | .inl x => (Sum.inl x : PRs)
      | .inr (a, e3) => match nuR T e3 0 9 with
        | .inl x => .inl x
        | .inr (s, e4) => .inr (e4, adP P a s, plU pl (pPe P) (some t))) = .inl x → MX f' G' T x → FE f G f' G' → K none (wo f' G' J c))
    (hg : ∀ e P1 pl1 f' G', (match nuR T q 0 99 with
      | .inl x => (Sum.inl x : PRs)
      | .inr (a, e3) => match nuR T e3 0 9 with
        | .inl x => .inl x
        | .inr (s, e4) => .inr (e4, adP P a s, plU pl (pPe P) (some t))) = .inr (e, P1, pl1) → MC f' G' T e P1 pl1 → FE f G f' G' → K none (wo f' G' J c)) :
    gR scr (wo f G J c) 125 9 5 (fun x11 : Nat => aI scr (wo f G J c) x11 2 (fun x12 : Int32 => gR scr (wo f G J c) 125 9 7 (fun x13 : Nat => vI scr (d + 4) 160 [.ref 125, .int 0, .int 99] (wo f G J c) (fun (x15 : Int32) (h14 : aH) => wI h14 x13 x12 x15 (fun h16 : aH => gR scr h16 125 9 8 (fun x17 : Nat => vI scr (d + 4) 160 [.ref 125, .int 0, .int 9] h16 (fun (x19 : Int32) (h18 : aH) => wI h18 x17 x12 x19 (fun h20 : aH => gR scr h20 125 9 9 (fun x21 : Nat => wI h20 x21 x12 (nI t) (fun h22 : aH => gR scr h22 125 9 5 (fun x23 : Nat => aI scr h22 x23 2 (fun x24 : Int32 => wI h22 x23 2 ((x24 + 1)) (fun h25 : aH => K none h25))))))))))))) := by
  have h400 := hT.1
  have s2 := dm.1.2.2.1
  -- the end, whatever was told
  have endx : ∀ x f1 G1 (a : Int32), MX f1 G1 T x → FE f G f1 G1 → G1 130 2 = nI (pPe P) → (∀ f' G', MX f' G' T x → FE f G f' G' → K none (wo f' G' J c)) → wI (wo f1 G1 J c) 133 (nI (pPe P)) a (fun h20 : aH => gR scr h20 125 9 9 (fun x21 : Nat => wI h20 x21 (nI (pPe P)) (nI t) (fun h22 : aH => gR scr h22 125 9 5 (fun x23 : Nat => aI scr h22 x23 2 (fun x24 : Int32 => wI h22 x23 2 ((x24 + 1)) (fun h25 : aH => K none h25)))))) := by
    intro x f1 G1 a mx fe e2 hK
    simp (disch := omega) only [mO scr, z130, z130w]
    have fe2 : FE f1 G1 f1 (up2 (up2 (up2 G1 133 (pPe P) a) 134 (pPe P) (nI t)) 130 2 (up2 (up2 G1 133 (pPe P) a) 134 (pPe P) (nI t) 130 2 + 1)) := ⟨fun _ _ _ => rfl, fun q k hq => by rw [up2_q (by omega), up2_q (by omega), up2_q (by omega)]⟩
    exact hK _ _ ⟨ITm_fe fe2 mx.1, mx.2⟩ (FE_tr fe fe2)
  simp only [mO scr, z130, s2]
  rw [show (0 : Int32) = nI 0 from rfl, show (99 : Int32) = nI 99 from rfl, show (9 : Int32) = nI 9 from rfl]
  apply m160 hT mt (by omega) h21 (by decide) (by decide)
  · intro x v f1 hx hv e21 e20 fr
    rw [hx] at hf
    obtain ⟨x0, x25⟩ := nu_x (by omega) hT hx
    have mx : MX f1 G T x := MX_fe fr mt.1 e20 e21 x0 x25
    have fe1 : FE f G f1 (up2 G 132 (pPe P) (nI v)) := ⟨fr, fun q k hq => up2_q (by omega)⟩
    have mx1 : MX f1 (up2 G 132 (pPe P) (nI v)) T x := ⟨ITm_fe fe1 mt.1, mx.2⟩
    simp (disch := omega) only [mO scr]
    obtain ⟨q1, hq1, mt1⟩ := MX_MT mx1
    rw [m160x hT mt1 hq1 (MX_ne mx1)]
    exact endx x _ _ 0 (MX_mS (sk_20 hT hq1) mx1) (FE_tr fe1 FE_m) (by rw [up2_q (by decide)]; exact s2) (fun f' G' a b => hf x f' G' rfl a b)
  · intro a e3 hx
    obtain ⟨e3le, a99, -⟩ := nu_le hq hx
    rw [hx] at hf hg
    dsimp only at hf hg
    simp (disch := omega) only [mO scr]
    have mt3 : MT (mS f e3) (up2 G 132 (pPe P) (nI a)) T e3 := ⟨⟨by rw [mS_at (by decide)]; exact mt.1.1, fun i hi => by rw [up2_q (by decide)]; exact mt.1.2.1 i hi, by rw [mS_at (by decide)]; exact mt.1.2.2⟩, mS_20⟩
    have fe3 : FE f G (mS f e3) (up2 G 132 (pPe P) (nI a)) := ⟨fun o k ho => mS_at (fun e => ho ⟨e.1, Or.inl e.2⟩), fun q k hq => up2_q (by omega)⟩
    apply m160 hT mt3 (by omega) (by rw [mS_at (by decide)]; exact h21) (by decide) (by decide)
    · intro x v f1 hx3 hv e21 e20 fr
      rw [hx3] at hf
      obtain ⟨x0, x25⟩ := nu_x (by omega) hT hx3
      have mx : MX f1 (up2 G 132 (pPe P) (nI a)) T x := MX_fe fr mt3.1 e20 e21 x0 x25
      exact endx x f1 _ (nI v) mx (FE_tr fe3 ⟨fr, fun _ _ _ => rfl⟩) (by rw [up2_q (by decide)]; exact s2) (fun f' G' a b => hf x f' G' rfl a b)
    · intro s e4 hx3
      obtain ⟨e4le, s9, -⟩ := nu_le e3le hx3
      rw [hx3] at hg
      dsimp only at hg
      rw [mS_mS]
      simp (disch := omega) only [mO scr, z130, z130w]
      have e2' : up2 (up2 (up2 G 132 (pPe P) (nI a)) 133 (pPe P) (nI s)) 134 (pPe P) (nI t) 130 2 + 1 = nI (pPe P + 1) := by rw [up2_q (by decide), up2_q (by decide), up2_q (by decide), s2, nI_1]
      rw [e2']
      refine hg _ _ _ _ _ rfl ?_ ⟨fun o k ho => mS_at (fun e => ho ⟨e.1, Or.inl e.2⟩), fun q k hq => by rw [up2_q (by omega), up2_q (by omega), up2_q (by omega), up2_q (by omega)]⟩
      refine ⟨⟨⟨by rw [mS_at (by decide)]; exact mt.1.1, fun i hi => by rw [up2_q (by decide), up2_q (by decide), up2_q (by decide), up2_q (by decide)]; exact mt.1.2.1 i hi, by rw [mS_at (by decide)]; exact mt.1.2.2⟩, mS_20⟩, by rw [mS_at (by decide)]; exact h21, ?_, WD_pe wd hr hp hfr (by omega) (by omega)⟩
      obtain ⟨⟨t0, t1, t2, t3⟩, t4, t5, t6, t7⟩ := dm
      refine ⟨⟨by rw [up2_k (by decide), up2_q (by decide), up2_q (by decide), up2_q (by decide)]; exact t0, by rw [up2_k (by decide), up2_q (by decide), up2_q (by decide), up2_q (by decide)]; exact t1, by rw [up2_s]; rfl, by rw [up2_k (by decide), up2_q (by decide), up2_q (by decide), up2_q (by decide)]; exact t3⟩, fun b hb => by rw [up2_q (by decide), up2_q (by decide), up2_q (by decide), up2_q (by decide)]; exact t4 b hb, ?_, ?_, ?_⟩
      · intro w hw
        have hw : w < pPe P + 1 := hw
        rw [up2_q (by decide), up2_q (by decide), up2_q (by decide), up2_a, (adP_f (P := P) (a := a) (s := s)).2.2.2.2.1 w]
        by_cases e : w = pPe P
        · rw [if_pos e, if_pos e]
        · rw [if_neg e, if_neg e]; exact t5 w (by omega)
      · intro w hw
        have hw : w < pPe P + 1 := hw
        rw [up2_q (by decide), up2_q (by decide), up2_a, up2_q (by decide), (adP_f (P := P) (a := a) (s := s)).2.2.2.2.2.1 w]
        by_cases e : w = pPe P
        · rw [if_pos e, if_pos e]
        · rw [if_neg e, if_neg e]; exact t6 w (by omega)
      · intro w hw
        rw [up2_q (by decide), up2_a, up2_q (by decide), up2_q (by decide)]
        unfold plU
        by_cases e : w = pPe P
        · rw [if_pos e, if_pos e]; rfl
        · rw [if_neg e, if_neg e]
          apply t7 w
          unfold exB at hw ⊢
          simp only [Bool.or_eq_true, Bool.and_eq_true, decide_eq_true_eq] at hw ⊢
          have hw : w < pPe P + 1 ∨ 12 ≤ w ∧ w < 12 + pHe P := hw
          omega
theorem m165 (hT : TX T) (hC : MC f G T p P pl) (hp : p ≤ T.1) {n : Nat} (hn : n ≤ 26) {K : aH → Prop} (hf : ∀ x f' G', plC T P pl p = .inl x → MX f' G' T x → FE f G f' G' → K (wo f' G' J c)) (hg : ∀ e P1 pl1 f' G', plC T P pl p = .inr (e, P1, pl1) → MC f' G' T e P1 pl1 → FE f G f' G' → K (wo f' G' J c)) : vV scr (d + 8) 165 [.ref 125, .int (nI n)] (wo f G J c) K := by
  have hC0 := hC
  have h400 := hT.1
  have sle := sk_le (T := T) hp
  have wle := we_le (T := T) sle
  have hC1 := MC_mS (q := sk T p) hC
  obtain ⟨mt1, h21, dm, wd⟩ := hC1
  have r12 := wd.1.2.1
  have p12 := wd.1.2.2.2.1
  have p2 := wd.1.2.2.2.2.1
  have s3 := dm.1.2.2.2
  unfold plC at hf hg
  unfold vV
  rw [u165_ok, en165, b165_0]
  refine ⟨rfl, ?_⟩
  rw [m144 hT hC.1 (by omega)]
  simp only [mO scr, mS_20]
  rw [show (20006 : Nat) = 20000 + 6 from rfl, show (20007 : Nat) = 20000 + 7 from rfl, show (20008 : Nat) = 20000 + 8 from rfl, m146 hT mt1 (by omega) (by decide)]
  have fe1 : FE f G (mS f (sk T p)) G := FE_m
  -- a clause too many
  have full : ∀ (s0 : Int32), (∀ f' G', MX f' G' T (1 + 8 * sk T p + 4) → FE f G f' G' → K (wo f' G' J c)) → vV scr (d + 7) 142 [.ref 125, .int 4, .int (nI (sk T p))] (wo (mS f (sk T p)) G J c) (fun h => True ∧ K h) := by
    intro s0 h
    rw [show (4 : Int32) = nI 4 from rfl, m142 h21]
    exact ⟨trivial, h _ _ (MX_blame mt1 (by omega) (by omega) (by omega)) (FE_tr fe1 FE_x)⟩
  by_cases h6 : isW T (sk T p) (stx 6) = true
  · have ew := isW_end h6
    rw [show (stx 6).length = 3 by decide +kernel] at ew
    rw [if_pos h6] at hf hg
    simp only [h6, bz_t, n10, if_false]
    rw [b165_52]
    simp only [show ¬ ((0 : Int32) = -1) by decide, if_false]
    rw [show (0 : Int32) = nI 0 from rfl, m164 dm wd (k := 0) (by decide) hn]
    simp only [if_true]
    by_cases hx : 12 ≤ pRo P ∨ 0 < pPe P + pHe P
    · rw [if_pos hx] at hf
      simp only [hx, decide_true, bz_t, show ¬ ((1 : Int32) = nI 0) by decide, if_false]
      exact full 0 (fun f' G' a b => hf _ f' G' rfl a b)
    · rw [if_neg hx] at hf hg
      simp only [hx, decide_false, bz_f, show ((0 : Int32) = nI 0) from rfl, if_true, mO scr, mS_20]
      rw [b165_96, show (3 : Int32) = nI 3 from rfl, nI_add]
      simp only [mO scr, show ((nI 0 : Int32) = 0) from rfl, if_true]
      have e : up2 (mS f (sk T p)) 125 20 (nI (sk T p + 3)) = mS f (we T (sk T p)) := by rw [ew]; exact up_up
      rw [e]
      apply m162 hT (MC_mS (q := we T (sk T p)) hC0) wle (by omega) (by omega)
      · intro x f1 G1 hx2 mx fe
        exact ⟨trivial, hf x f1 G1 hx2 mx (FE_tr FE_m fe)⟩
      · intro e2 P1 pl1 f1 G1 hx2 mc fe
        exact ⟨trivial, hg e2 P1 pl1 f1 G1 hx2 mc (FE_tr FE_m fe)⟩
  · rw [if_neg h6] at hf hg
    have h6 : isW T (sk T p) (stx 6) = false := by simpa using h6
    simp only [h6, bz_f, if_true]
    rw [m146 hT mt1 (by omega) (by decide)]
    by_cases h7 : isW T (sk T p) (stx 7) = true
    · have ew := isW_end h7
      rw [show (stx 7).length = 6 by decide +kernel] at ew
      rw [if_pos h7] at hf hg
      simp only [h7, bz_t, n10, if_false]
      rw [b165_52]
      simp only [show ¬ ((1 : Int32) = -1) by decide, if_false]
      rw [show (1 : Int32) = nI 1 from rfl, m164 dm wd (k := 1) (by decide) hn]
      simp only [show ¬ (1 = 0) by decide, if_false, if_true]
      by_cases hx : pRo P = 0 ∨ 12 ≤ pPe P
      · rw [if_pos hx] at hf
        simp only [hx, decide_true, bz_t, n10, if_false]
        exact full 0 (fun f' G' a b => hf _ f' G' rfl a b)
      · rw [if_neg hx] at hf hg
        simp only [hx, decide_false, bz_f, if_true, mO scr, mS_20, show ¬ (nI 1 = (0 : Int32)) by decide, if_false]
        rw [b165_96, show (6 : Int32) = nI 6 from rfl, nI_add]
        have e : up2 (mS f (sk T p)) 125 20 (nI (sk T p + 6)) = mS f (we T (sk T p)) := by rw [ew]; exact up_up
        simp only [mO scr, show ¬ ((nI 1 : Int32) = 0) by decide, show ((nI 1 : Int32) = 1) from rfl, if_true, if_false, e]
        unfold peR at hf hg
        apply m163 hT (MC_mS (q := we T (sk T p)) hC0) wle
        · intro x v f1 hx2 mx fe
          rw [hx2] at hf
          -- the rest with a fault
          have s2 := dm.1.2.2.1
          obtain ⟨q1, hq1, mt2⟩ := MX_MT mx
          simp only [mO scr, z130, s2]
          rw [m160x hT mt2 hq1 (MX_ne mx)]
          have mx2 := MX_mS (q := sk T q1) (sk_20 hT hq1) mx
          simp (disch := omega) only [mO scr]
          have mx3 : MX (mS f1 (sk T q1)) (up2 G 132 (pPe P) 0) T x := ⟨ITm_fe ⟨fun _ _ _ => rfl, fun q k hq => up2_q (by omega)⟩ mx2.1, mx2.2⟩
          obtain ⟨q2, hq2, mt3⟩ := MX_MT mx3
          rw [m160x hT mt3 hq2 (MX_ne mx3)]
          have mx4 := MX_mS (q := sk T q2) (sk_20 hT hq2) mx3
          simp (disch := omega) only [mO scr, z130, z130w]
          have fe5 : FE (mS f1 (sk T q1)) (up2 G 132 (pPe P) 0) (mS (mS f1 (sk T q1)) (sk T q2)) (up2 (up2 (up2 (up2 G 132 (pPe P) 0) 133 (pPe P) 0) 134 (pPe P) v) 130 2 (up2 (up2 (up2 G 132 (pPe P) 0) 133 (pPe P) 0) 134 (pPe P) v 130 2 + 1)) := ⟨fun o k ho => mS_at (fun e => ho ⟨e.1, Or.inl e.2⟩), fun q k hq => by rw [up2_q (by omega), up2_q (by omega), up2_q (by omega)]⟩
          refine ⟨trivial, hf x _ _ rfl ⟨ITm_fe fe5 mx3.1, mx4.2⟩ (FE_tr FE_m (FE_tr fe (FE_tr (FE_m (q := sk T q1)) (FE_tr ⟨fun _ _ _ => rfl, fun q k hq => up2_q (by omega)⟩ fe5))))⟩
        · intro t e2 hx2
          obtain ⟨hfr, e2le, t144⟩ := spR_ok wle hx2
          rw [hx2] at hf hg
          dsimp only at hf hg
          rw [mS_mS]
          apply m165_p hT (MT_mS (q := e2) hC0.1) e2le (by rw [mS_at (by decide)]; exact hC0.2.1) dm wd (by omega) (by omega) hfr (l1 := 0) (l2 := 0) (K := fun _ h => True ∧ K h)
          · intro x f1 G1 hx3 mx fe
            exact ⟨trivial, hf x f1 G1 hx3 mx (FE_tr FE_m fe)⟩
          · intro e3 P1 pl1 f1 G1 hx3 mc fe
            exact ⟨trivial, hg e3 P1 pl1 f1 G1 hx3 mc (FE_tr FE_m fe)⟩
    · rw [if_neg h7] at hf hg
      have h7 : isW T (sk T p) (stx 7) = false := by simpa using h7
      simp only [h7, bz_f, if_true]
      rw [m146 hT mt1 (by omega) (by decide)]
      by_cases h8 : isW T (sk T p) (stx 8) = true
      · have ew := isW_end h8
        rw [show (stx 8).length = 6 by decide +kernel] at ew
        rw [if_pos h8] at hf hg
        simp only [h8, bz_t, n10, if_false]
        rw [b165_52]
        simp only [show ¬ ((2 : Int32) = -1) by decide, if_false]
        rw [show (2 : Int32) = nI 2 from rfl, m164 dm wd (k := 2) (by decide) hn]
        simp only [show ¬ (2 = 0) by decide, show ¬ (2 = 1) by decide, if_false]
        by_cases hx : pRo P = 0 ∨ 2 ≤ pHe P
        · rw [if_pos hx] at hf
          simp only [hx, decide_true, bz_t, n10, if_false]
          exact full 0 (fun f' G' a b => hf _ f' G' rfl a b)
        · rw [if_neg hx] at hf hg
          simp only [hx, decide_false, bz_f, if_true, mO scr, mS_20, show ¬ (nI 2 = (0 : Int32)) by decide, if_false]
          rw [b165_96, show (6 : Int32) = nI 6 from rfl, nI_add]
          have e : up2 (mS f (sk T p)) 125 20 (nI (sk T p + 6)) = mS f (we T (sk T p)) := by rw [ew]; exact up_up
          simp only [mO scr, show ¬ ((nI 2 : Int32) = 0) by decide, show ¬ ((nI 2 : Int32) = 1) by decide, if_false, e]
          unfold heR at hf hg
          apply m163 hT (MC_mS (q := we T (sk T p)) hC0) wle
          · intro x v f1 hx2 mx fe
            rw [hx2] at hf
            simp (disch := omega) only [show ¬ ((2 : Int32) = 1) by decide, if_false, mO scr, z130, z130w, s3, show (12 : Int32) = nI 12 from rfl, nI_add]
            have fe2 : FE f1 G f1 (up2 (up2 G 134 (12 + pHe P) v) 130 3 (up2 G 134 (12 + pHe P) v 130 3 + 1)) := ⟨fun _ _ _ => rfl, fun q k hq => by rw [up2_q (by omega), up2_q (by omega)]⟩
            exact ⟨trivial, hf x _ _ rfl ⟨ITm_fe fe2 mx.1, mx.2⟩ (FE_tr FE_m (FE_tr fe fe2))⟩
          · intro t e2 hx2
            obtain ⟨hfr, e2le, t144⟩ := spR_ok wle hx2
            rw [hx2] at hg
            dsimp only at hg
            rw [mS_mS]
            simp (disch := omega) only [show ¬ ((2 : Int32) = 1) by decide, if_false, mO scr, z130, z130w, s3, show (12 : Int32) = nI 12 from rfl, nI_add]
            have e3' : up2 G 134 (12 + pHe P) (nI t) 130 3 + 1 = nI (pHe P + 1) := by rw [up2_q (by decide), s3, nI_1]
            rw [e3']
            have fe2 : FE f G (mS f e2) (up2 (up2 G 134 (12 + pHe P) (nI t)) 130 3 (nI (pHe P + 1))) := ⟨fun o k ho => mS_at (fun e => ho ⟨e.1, Or.inl e.2⟩), fun q k hq => by rw [up2_q (by omega), up2_q (by omega)]⟩
            refine ⟨trivial, hg _ _ _ _ _ rfl ?_ fe2⟩
            refine ⟨⟨ITm_fe fe2 hC0.1.1, mS_20⟩, by rw [mS_at (by decide)]; exact hC0.2.1, ?_, WD_he wd (by omega) (by omega) hfr⟩
            obtain ⟨⟨t0, t1, t2, t3⟩, t4, t5, t6, t7⟩ := dm
            refine ⟨⟨by rw [up2_k (by decide), up2_q (by decide)]; exact t0, by rw [up2_k (by decide), up2_q (by decide)]; exact t1, by rw [up2_k (by decide), up2_q (by decide)]; exact t2, by rw [up2_s]; rfl⟩, fun b hb => by rw [up2_q (by decide), up2_q (by decide)]; exact t4 b hb, fun w hw => by rw [up2_q (by decide), up2_q (by decide)]; exact t5 w hw, fun w hw => by rw [up2_q (by decide), up2_q (by decide)]; exact t6 w hw, ?_⟩
            intro w hw
            rw [up2_q (by decide), up2_a]
            unfold plU
            by_cases e : w = 12 + pHe P
            · rw [if_pos e, if_pos e]; rfl
            · rw [if_neg e, if_neg e]
              apply t7 w
              unfold exB at hw ⊢
              simp only [Bool.or_eq_true, Bool.and_eq_true, decide_eq_true_eq] at hw ⊢
              have hw : w < pPe P ∨ 12 ≤ w ∧ w < 12 + (pHe P + 1) := hw
              omega
      · rw [if_neg h8] at hf
        have h8 : isW T (sk T p) (stx 8) = false := by simpa using h8
        simp only [h8, bz_f, if_true]
        rw [b165_52]
        simp only [if_true]
        rw [show (0 : Int32) = nI 0 from rfl, m142 h21]
        exact ⟨trivial, hf _ _ _ rfl (MX_blame mt1 (by omega) (by omega) (by omega)) (FE_tr fe1 FE_x)⟩
end RE10
