variable {scr : List Int32}
-- ===== the plain, read by the class =====
section RE5
variable {f G f' G' : Nat → Nat → Int32} {J J' : Nat → Nat → Int64} {c : Value} {d : Nat} {T : Tp} {p q : Nat} {P : Pn} {pl : Nat → Option Nat}
theorem isS13 : isSc 13 := Or.inr (Or.inl rfl)
def dD (pl : Nat → Option Nat) : Dy := (pl, fun _ => -1, 0, 0)
def DCs (f G : Nat → Nat → Int32) (P : Pn) (pl : Nat → Option Nat) : Prop := RS f G 13 P ∧ RD f G 13 (dD pl) ∧ f 13 7 = 0
def CS (f G : Nat → Nat → Int32) (T : Tp) (p : Nat) (P : Pn) (pl : Nat → Option Nat) : Prop := TC f G T p ∧ f 1 3 = 0 ∧ DCs f G P pl ∧ WD P pl ∧ IDc G
def FD (f G f' G' : Nat → Nat → Int32) : Prop := (∀ o k, o ≠ 1 → o ≠ 13 → f' o k = f o k) ∧ (∀ q k, ¬ (14 ≤ q ∧ q ≤ 22) → G' q k = G q k) ∧ IDc G'
def FT (f f' : Nat → Nat → Int32) : Prop := ∀ o k, ¬ (o = 1 ∧ (k = 2 ∨ k = 3)) → f' o k = f o k
theorem FD_ft (h : FT f f') (hi : IDc G) : FD f G f' G := ⟨fun o k a _ => h o k (fun e => a e.1), fun _ _ _ => rfl, hi⟩
theorem FT_pS (h : FT (pS f q) f') : FT f f' := fun o k a => by rw [h o k a, pS_at (fun e => a ⟨e.1, Or.inl e.2⟩)]
theorem FT_p {q : Nat} : FT f (pS f q) := fun o k a => pS_at (fun e => a ⟨e.1, Or.inl e.2⟩)
theorem FT_b {q : Nat} {x : Int32} : FT f (up2 (pS f q) 1 3 x) := by
  intro o k ho
  unfold pS up2
  rw [if_neg (fun e => ho ⟨e.1, Or.inr e.2⟩), if_neg (fun e => ho ⟨e.1, Or.inl e.2⟩)]
theorem DCs_ft (h : FT f f') (hd : DCs f G P pl) : DCs f' G P pl :=
  ⟨RS_e (fun k => h 13 k (by omega)) (fun _ _ _ => rfl) hd.1, RD_e (fun k => h 13 k (by omega)) (fun _ _ _ => rfl) hd.2.1, by rw [h 13 7 (by omega)]; exact hd.2.2⟩
theorem CS_pS (h : CS f G T p P pl) : CS (pS f q) G T q P pl := ⟨TC_pS h.1, by rw [pS_at (by decide)]; exact h.2.1, DCs_ft FT_p h.2.2.1, h.2.2.2⟩
theorem FD_tr {f1 G1 f2 G2 : Nat → Nat → Int32} (h : FD f G f1 G1) (h' : FD f1 G1 f2 G2) : FD f G f2 G2 := ⟨fun o k a b => (h'.1 o k a b).trans (h.1 o k a b), fun q k a => (h'.2.1 q k a).trans (h.2.1 q k a), h'.2.2⟩
theorem nuR_sk {lo hi : Nat} : nuR T (sk T p) lo hi = nuR T p lo hi := by unfold nuR; rw [sk_sk]
theorem sp25 {K : Int32 → aH → Prop} {h : aH} : sI scr d 25 [.int (hI T q)] h K = K (oI (kdO (ch8 T q))) h := by
  unfold sI
  rw [en25, b25_0]
  simp only [show (35 : Int32) = nI 35 from rfl, show (46 : Int32) = nI 46 from rfl, show (71 : Int32) = nI 71 from rfl, show (126 : Int32) = nI 126 from rfl, hI_eq (show 35 < 256 by decide), hI_eq (show 46 < 256 by decide), hI_eq (show 71 < 256 by decide), hI_eq (show 126 < 256 by decide), b25_44, b25_46, b25_48, b25_50, b25_52, ex_i]
  unfold kdO
  by_cases h1 : ch8 T q = 35
  · simp [h1, oI, show nI 1 = (1 : Int32) from rfl]
  · by_cases h2 : ch8 T q = 46
    · simp [h2, oI, show nI 0 = (0 : Int32) from rfl]
    · by_cases h3 : ch8 T q = 71
      · simp [h3, oI, show nI 3 = (3 : Int32) from rfl]
      · by_cases h4 : ch8 T q = 126
        · simp [h4, oI, show nI 2 = (2 : Int32) from rfl]
        · simp [h1, h2, h3, h4, oI]
theorem w24 (hT : TX T) (hC : CS f G T p P pl) (hp : p ≤ T.1) {K : Int32 → aH → Prop} (hf : ∀ x f', spR T P pl p = .inl x → f' 1 3 = nI x → FT f f' → K (-1) (wo f' G J c)) (hg : ∀ q e, spR T P pl p = .inr (q, e) → K (nI q) (wo (pS f e) G J c)) : vI scr (d + 3) 24 [.ref 23] (wo f G J c) K := by
  obtain ⟨tc, h3, dc', wd, -⟩ := hC
  have sle := sk_le (T := T) hp
  unfold spR at hf hg
  unfold vI
  rw [u24_ok, en24, b24_0]
  simp only [pRr scr, w69 hT tc hp, true_and]
  rw [show (0 : Int32) = nI 0 from rfl, show (11 : Int32) = nI 11 from rfl]
  apply w75 hT (TC_pS tc) sle (by rw [pS_at (by decide)]; exact h3) (by decide) (by decide)
  · intro x f1 hx e3 fr
    rw [nuR_sk] at hx
    rw [hx] at hf
    simp only [show ¬ ((0 : Int32) ≤ -1) by decide, if_false, b24_37, show (nI 0 ≤ (-1 : Int32)) = False from eq_false (by decide)]
    exact ⟨_, rfl, hf x f1 rfl e3 (FT_pS fr)⟩
  · intro x e1 hx
    rw [nuR_sk] at hx
    rw [hx] at hf hg
    obtain ⟨e1le, x11, -⟩ := nu_le hp hx
    rw [pS_pS]
    simp (disch := omega) only [NC, Nat.zero_le, if_true, pRr scr]
    apply w75 hT (TC_pS tc) e1le (by rw [pS_at (by decide)]; exact h3) (by decide) (by decide)
    · intro y f1 hy e3 fr
      dsimp only at hf
      rw [hy] at hf
      simp only [b24_37, show ¬ ((0 : Int32) ≤ -1) by decide, if_false]
      exact ⟨_, rfl, hf y f1 rfl e3 (FT_pS fr)⟩
    · intro y e2 hy
      dsimp only at hf hg
      rw [hy] at hf hg
      dsimp only at hf hg
      obtain ⟨e2le, y11, -⟩ := nu_le e1le hy
      rw [pS_pS]
      have d2 := DCs_ft (FT_p (q := e2)) dc'
      have k57 := w57 (scr := scr) (J := J) (c := c) (d := d + 1) isS13 wd.1 d2.1 d2.2.1 (q := 12 * y + x) (by omega) (T := fun x3 h2 => if x3 = 0 then gR scr h2 23 3 0 (fun x4 : Nat => vI scr (d + 2) 70 [.ref x4, .int (nI (sk T p)), .int 5] h2 (fun (x6 : Int32) (h5 : aH) => ∃ x, some (Value.int (-1)) = some (Value.int x) ∧ K x h5)) else ∃ x_1, some (Value.int (12 * nI y + nI x)) = some (Value.int x_1) ∧ K x_1 h2)
      rw [show (12 * y + x) % 12 = x by omega, show (12 * y + x) / 12 = y by omega] at k57
      rw [b24_37]
      simp (disch := omega) only [NC, if_true, pRr scr]
      rw [k57]
      show (if bz (frA P pl (12 * y + x)) = 0 then _ else _)
      cases hfr : frA P pl (12 * y + x) with
      | false =>
        rw [hfr] at hf
        simp only [bz_f, if_true, pRr scr]
        rw [show (5 : Int32) = nI 5 from rfl, w70 (by rw [pS_at (by decide)]; exact h3)]
        exact ⟨_, rfl, hf _ _ rfl up2_s FT_b⟩
      | true =>
        rw [hfr] at hg
        simp only [bz_t, n10, if_false]
        have := hg _ _ rfl
        rw [show (12 : Int32) = nI 12 from rfl, pk_mul, nI_add]
        exact ⟨_, rfl, this⟩
theorem w22 (hT : TX T) (hC : CS f G T p P pl) (hp : p ≤ T.1) {st : Nat} {K : Int32 → aH → Prop} (hf : ∀ x f', (if pRo P = 0 ∨ 12 ≤ pPe P then Sum.inl (1 + 8 * st + 4) else peR T P pl p) = .inl x → f' 1 3 = nI x → FT f f' → K 0 (wo f' G J c)) (hg : ∀ e P1 pl1 f' G', (if pRo P = 0 ∨ 12 ≤ pPe P then Sum.inl (1 + 8 * st + 4) else peR T P pl p) = .inr (e, P1, pl1) → CS f' G' T e P1 pl1 → FD f G f' G' → K 1 (wo f' G' J c)) : vI scr (d + 4) 22 [.ref 23, .int (nI st)] (wo f G J c) K := by
  have hC0 := hC
  obtain ⟨tc, h3, dc', wd, hid⟩ := hC
  have r12 := wd.1.2.1
  have p12 := wd.1.2.2.2.1
  have s1 := dc'.1.1.2.1
  have s3 := dc'.1.1.2.2.2.1
  have s3' : ∀ q, pS f q 13 3 = nI (pPe P) := fun q => by rw [pS_at (by decide)]; exact s3
  have bad : pRo P = 0 ∨ 12 ≤ pPe P → E scr false (d + 4) 22 22 [.ref 23, .int (nI st), .null, .null, .null] [] (wo f G J c) (fun r h => ∃ x, r = some (Value.int x) ∧ K x h) := by
    intro hb
    rw [if_pos hb] at hf
    rw [b22_22]
    simp only [pRr scr]
    rw [show (4 : Int32) = nI 4 from rfl, w70 h3]
    refine ⟨by decide, _, rfl, hf _ _ rfl up2_s ?_⟩
    intro o k ho
    unfold up2
    rw [if_neg (fun e => ho ⟨e.1, Or.inr e.2⟩)]
  unfold vI
  rw [u22_ok, en22, b22_0]
  simp (disch := omega) only [pRr scr, sC scr isS13, s1, s3, NC, true_and]
  by_cases h0 : pRo P = 0
  · rw [if_pos h0]; exact bad (Or.inl h0)
  · rw [if_neg h0]
    by_cases h12 : pPe P < 12
    · have hnb : ¬ (pRo P = 0 ∨ 12 ≤ pPe P) := by omega
      rw [if_neg hnb] at hf hg
      unfold peR at hf hg
      rw [if_pos (show nI (pPe P) < 12 from nI_lt (b := 12) h12 (by decide))]
      apply w24 hT hC0 hp
      · intro x f1 hx e3 fr
        rw [hx] at hf
        simp only [show ¬ ((0 : Int32) ≤ -1) by decide, if_false, b22_55, b22_74]
        exact ⟨_, rfl, hf x f1 rfl e3 fr⟩
      · intro q e2 hx
        obtain ⟨hfr, e2le, q144⟩ := spR_ok hp hx
        rw [hx] at hf hg
        dsimp only at hf hg
        simp (disch := omega) only [NC, if_true, pRr scr]
        rw [show (0 : Int32) = nI 0 from rfl, show (99 : Int32) = nI 99 from rfl]
        apply w75 hT (TC_pS tc) e2le (by rw [pS_at (by decide)]; exact h3) (by decide) (by decide)
        · intro x f1 hx2 e3 fr
          rw [hx2] at hf
          simp only [show (nI 0 ≤ (-1 : Int32)) = False from eq_false (by decide), show ¬ ((0 : Int32) ≤ -1) by decide, if_false, b22_55, b22_74]
          exact ⟨_, rfl, hf x f1 rfl e3 (FT_pS fr)⟩
        · intro a e3 hx2
          obtain ⟨e3le, a99, -⟩ := nu_le e2le hx2
          rw [hx2] at hf hg
          dsimp only at hf hg
          rw [pS_pS, b22_55]
          simp (disch := omega) only [NC, if_true, pRr scr]
          rw [show (0 : Int32) = nI 0 from rfl, show (9 : Int32) = nI 9 from rfl]
          apply w75 hT (TC_pS tc) e3le (by rw [pS_at (by decide)]; exact h3) (by decide) (by decide)
          · intro x f1 hx3 e4 fr
            rw [hx3] at hf
            simp only [show (nI 0 ≤ (-1 : Int32)) = False from eq_false (by decide), show ¬ ((0 : Int32) ≤ -1) by decide, if_false, b22_74]
            exact ⟨_, rfl, hf x f1 rfl e4 (FT_pS fr)⟩
          · intro s e4 hx3
            obtain ⟨e4le, s9, -⟩ := nu_le e3le hx3
            rw [hx3] at hf hg
            dsimp only at hf hg
            have d4 := DCs_ft (FT_p (q := e4)) dc'
            obtain ⟨g1, g2, g3⟩ := frA_th hfr
            rw [pS_pS, b22_74]
            simp (disch := omega) only [NC, if_true, pRr scr, sC scr isS13, s3']
            have hda : RD (pS f e4) (up2 (up2 G (13 + 4) (pPe P) (nI a)) (13 + 5) (pPe P) (nI s)) 13 (dD pl) := RD_cg rfl rfl (fun k => by rw [up2_q (by decide), up2_q (by decide)]) (fun k => by rw [up2_q (by decide), up2_q (by decide)]) (fun k => by rw [up2_q (by decide), up2_q (by decide)]) d4.2.1
            rw [w60 isS13 wd.1 hda wd.2.1 (show pPe P < 14 by omega) q144]
            simp only [pRr scr, sC scr isS13, s3', nI_1]
            have pf : ∀ r k, ¬ (14 ≤ r ∧ r ≤ 22) → ptG (up2 (up2 G (13 + 4) (pPe P) (nI a)) (13 + 5) (pPe P) (nI s)) 13 (pPe P) (dPl (dD pl) (pPe P)) q r k = G r k := fun r k hr => by rw [pt_fr r k (by omega) (by omega), up2_q (by omega), up2_q (by omega)]
            have p14 : ∀ k, ptG (up2 (up2 G (13 + 4) (pPe P) (nI a)) (13 + 5) (pPe P) (nI s)) 13 (pPe P) (dPl (dD pl) (pPe P)) q 14 k = G 14 k := fun k => by rw [pt_fr 14 k (by decide) (by decide), up2_q (by decide), up2_q (by decide)]
            have p17 : ∀ k, ptG (up2 (up2 G (13 + 4) (pPe P) (nI a)) (13 + 5) (pPe P) (nI s)) 13 (pPe P) (dPl (dD pl) (pPe P)) q 17 k = if k = pPe P then nI a else G 17 k := fun k => by rw [pt_fr 17 k (by decide) (by decide), up2_q (by decide), up2_a]
            have p18 : ∀ k, ptG (up2 (up2 G (13 + 4) (pPe P) (nI a)) (13 + 5) (pPe P) (nI s)) 13 (pPe P) (dPl (dD pl) (pPe P)) q 18 k = if k = pPe P then nI s else G 18 k := fun k => by rw [pt_fr 18 k (by decide) (by decide), up2_a, up2_q (by decide)]
            have hid' : IDc (ptG (up2 (up2 G (13 + 4) (pPe P) (nI a)) (13 + 5) (pPe P) (nI s)) 13 (pPe P) (dPl (dD pl) (pPe P)) q) := fun k hk => by rw [p14]; exact hid k hk
            refine ⟨_, rfl, hg _ _ _ _ _ rfl ?_ ⟨fun o k o1 o2 => by rw [up2_q o2, pS_at (fun e => o1 e.1)], pf, hid'⟩⟩
            refine ⟨⟨⟨by rw [up2_q (by decide), pS_at (by decide)]; exact tc.1.1, fun i hi => by rw [pf 2 i (by omega)]; exact tc.1.2 i hi⟩, by rw [up2_q (by decide)]; exact pS_12⟩, by rw [up2_q (by decide), pS_at (by decide)]; exact h3, ⟨?_, ?_, by rw [up2_k (by decide)]; exact d4.2.2⟩, WD_pe wd (by omega) h12 hfr (by omega) (by omega), hid'⟩
            · obtain ⟨⟨t0, t1, t2, t3, t4⟩, t5, t6, t7, t8⟩ := d4.1
              refine ⟨⟨by rw [up2_k (by decide)]; exact t0, by rw [up2_k (by decide)]; exact t1, by rw [up2_k (by decide)]; exact t2, by rw [up2_s]; rfl, by rw [up2_k (by decide)]; exact t4⟩, fun r hr => by rw [p14]; exact t5 r hr, ?_, ?_, fun r hr => by rw [p14]; exact t8 r hr⟩
              · intro w hw
                have hw : w < pPe P + 1 := hw
                rw [show (13 + 4 : Nat) = 17 from rfl, p17, (adP_f (P := P) (a := a) (s := s)).2.2.2.2.1 w]
                by_cases e : w = pPe P
                · rw [if_pos e, if_pos e]
                · rw [if_neg e, if_neg e]; exact t6 w (by omega)
              · intro w hw
                have hw : w < pPe P + 1 := hw
                rw [show (13 + 5 : Nat) = 18 from rfl, p18, (adP_f (P := P) (a := a) (s := s)).2.2.2.2.2.1 w]
                by_cases e : w = pPe P
                · rw [if_pos e, if_pos e]
                · rw [if_neg e, if_neg e]; exact t7 w (by omega)
            · have := RD_put (f := pS f e4) hda wd.2.1.2 (show pPe P < 14 by omega) (r := q) (fun v _ => who_nn wd.1 wd.2.1 g3 v)
              exact RD_cg (up2_k (by decide)) (up2_k (by decide)) (fun _ => rfl) (fun _ => rfl) (fun _ => rfl) this
    · rw [if_neg (show ¬ nI (pPe P) < 12 from nI_nlt (b := 12) (by omega) (by omega))]
      exact bad (Or.inr (by omega))
theorem w23 (hT : TX T) (hC : CS f G T p P pl) (hp : p ≤ T.1) {st : Nat} {K : Int32 → aH → Prop} (hf : ∀ x f', (if pRo P = 0 ∨ 2 ≤ pHe P then Sum.inl (1 + 8 * st + 4) else heR T P pl p) = .inl x → f' 1 3 = nI x → FT f f' → K 0 (wo f' G J c)) (hg : ∀ e P1 pl1 f' G', (if pRo P = 0 ∨ 2 ≤ pHe P then Sum.inl (1 + 8 * st + 4) else heR T P pl p) = .inr (e, P1, pl1) → CS f' G' T e P1 pl1 → FD f G f' G' → K 1 (wo f' G' J c)) : vI scr (d + 4) 23 [.ref 23, .int (nI st)] (wo f G J c) K := by
  have hC0 := hC
  obtain ⟨tc, h3, dc', wd, hid⟩ := hC
  have r12 := wd.1.2.1
  have p2 := wd.1.2.2.2.2.1
  have s1 := dc'.1.1.2.1
  have s4 := dc'.1.1.2.2.2.2
  have s4' : ∀ q, pS f q 13 4 = nI (pHe P) := fun q => by rw [pS_at (by decide)]; exact s4
  have bad : pRo P = 0 ∨ 2 ≤ pHe P → E scr false (d + 4) 23 21 [.ref 23, .int (nI st), .null] [] (wo f G J c) (fun r h => ∃ x, r = some (Value.int x) ∧ K x h) := by
    intro hb
    rw [if_pos hb] at hf
    rw [b23_21]
    simp only [pRr scr]
    rw [show (4 : Int32) = nI 4 from rfl, w70 h3]
    refine ⟨by decide, _, rfl, hf _ _ rfl up2_s ?_⟩
    intro o k ho
    unfold up2
    rw [if_neg (fun e => ho ⟨e.1, Or.inr e.2⟩)]
  unfold vI
  rw [u23_ok, en23, b23_0]
  simp (disch := omega) only [pRr scr, sC scr isS13, s1, s4, NC, true_and]
  by_cases h0 : pRo P = 0
  · rw [if_pos h0]; exact bad (Or.inl h0)
  · rw [if_neg h0]
    by_cases h12 : pHe P < 2
    · have hnb : ¬ (pRo P = 0 ∨ 2 ≤ pHe P) := by omega
      rw [if_neg hnb] at hf hg
      unfold heR at hf hg
      rw [if_pos (show nI (pHe P) < 2 from nI_lt (b := 2) h12 (by decide))]
      apply w24 hT hC0 hp
      · intro x f1 hx e3 fr
        rw [hx] at hf
        simp only [show ¬ ((0 : Int32) ≤ -1) by decide, if_false]
        exact ⟨_, rfl, hf x f1 rfl e3 fr⟩
      · intro q e2 hx
        obtain ⟨hfr, e2le, q144⟩ := spR_ok hp hx
        rw [hx] at hf hg
        dsimp only at hf hg
        have d4 := DCs_ft (FT_p (q := e2)) dc'
        obtain ⟨g1, g2, g3⟩ := frA_th hfr
        simp (disch := omega) only [NC, if_true, pRr scr, sC scr isS13, s4', show (12 : Int32) = nI 12 from rfl, nI_add]
        rw [w60 isS13 wd.1 d4.2.1 wd.2.1 (show 12 + pHe P < 14 by omega) q144]
        simp only [pRr scr, sC scr isS13, s4', nI_1]
        have pf : ∀ r k, r ≠ 15 → r ≠ 16 → ptG G 13 (12 + pHe P) (dPl (dD pl) (12 + pHe P)) q r k = G r k := fun r k h1 h2 => pt_fr r k h1 h2
        have hid' : IDc (ptG G 13 (12 + pHe P) (dPl (dD pl) (12 + pHe P)) q) := fun k hk => by rw [pf 14 k (by decide) (by decide)]; exact hid k hk
        refine ⟨_, rfl, hg _ _ _ _ _ rfl ?_ ⟨fun o k o1 o2 => by rw [up2_q o2, pS_at (fun e => o1 e.1)], fun r k hr => pf r k (by omega) (by omega), hid'⟩⟩
        refine ⟨⟨⟨by rw [up2_q (by decide), pS_at (by decide)]; exact tc.1.1, fun i hi => by rw [pf 2 i (by decide) (by decide)]; exact tc.1.2 i hi⟩, by rw [up2_q (by decide)]; exact pS_12⟩, by rw [up2_q (by decide), pS_at (by decide)]; exact h3, ⟨?_, ?_, by rw [up2_k (by decide)]; exact d4.2.2⟩, WD_he wd (by omega) h12 hfr, hid'⟩
        · obtain ⟨⟨t0, t1, t2, t3, t4⟩, t5, t6, t7, t8⟩ := d4.1
          refine ⟨⟨by rw [up2_k (by decide)]; exact t0, by rw [up2_k (by decide)]; exact t1, by rw [up2_k (by decide)]; exact t2, by rw [up2_k (by decide)]; exact t3, by rw [up2_s]; rfl⟩, fun r hr => by rw [pf (13 + 1) r (by decide) (by decide)]; exact t5 r hr, fun w hw => by rw [pf (13 + 4) w (by decide) (by decide)]; exact t6 w hw, fun w hw => by rw [pf (13 + 5) w (by decide) (by decide)]; exact t7 w hw, fun r hr => by rw [pf (13 + 1) r (by decide) (by decide)]; exact t8 r hr⟩
        · have := RD_put (f := pS f e2) d4.2.1 wd.2.1.2 (show 12 + pHe P < 14 by omega) (r := q) (fun v _ => who_nn wd.1 wd.2.1 g3 v)
          exact RD_cg (up2_k (by decide)) (up2_k (by decide)) (fun _ => rfl) (fun _ => rfl) (fun _ => rfl) this
    · rw [if_neg (show ¬ nI (pHe P) < 2 from nI_nlt (b := 2) (by omega) (by omega))]
      exact bad (Or.inr (by omega))
end RE5
