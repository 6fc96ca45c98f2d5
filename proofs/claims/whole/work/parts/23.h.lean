variable {scr : List Int32}
-- ===== look =====
section W4
def rk (P : Pn) (o : Nat) : Nat := if o < 12 then 99 - pAg P o else 100
def plG (pl : Nat → Option Nat) (o : Nat) : Nat := (pl o).getD 0
def ky (P : Pn) (pl : Nat → Option Nat) (h o : Nat) : Nat := 4096 * dsN h (plG pl o) + 16 * rk P o + o % 16
def seeB (P : Pn) (pl : Nat → Option Nat) (h w o : Nat) : Bool := !decide (o = w) && (match pl o with
  | none => false
  | some t => clB P h t)
def agW (P : Pn) (w : Nat) : Nat := if w < 12 then pAg P w else 99
def kyL (P : Pn) (pl : Nat → Option Nat) (h : Nat) (a b : Nat) : Bool := decide (ky P pl h a < ky P pl h b)
def lkC (P : Pn) (pl : Nat → Option Nat) (h w : Nat) : Nat → Nat
  | 0 => 0
  | m + 1 => lkC P pl h w m + (if seeB P pl h w m = true then 1 else 0)
def lkF (P : Pn) (pl : Nat → Option Nat) (h w : Nat) : Nat → Nat → Nat
  | 0 => fun _ => 0
  | m + 1 => if seeB P pl h w m = true then insF (kyL P pl h) (lkF P pl h w m) m (lkC P pl h w m) else lkF P pl h w m
def lkB (P : Pn) (pl : Nat → Option Nat) (h w : Nat) : Nat → Nat
  | 0 => 0
  | m + 1 => lkB P pl h w m + (if seeB P pl h w m = true ∧ dsN h (plG pl m) ≤ 2 then 1 else 0)
def lkE (P : Pn) (pl : Nat → Option Nat) (h w : Nat) : Nat → Bool
  | 0 => true
  | m + 1 => lkE P pl h w m && (!seeB P pl h w m || (decide (12 ≤ m) || decide (pAg P m ≤ agW P w)))
theorem lkC_le {P : Pn} {pl : Nat → Option Nat} {h w m : Nat} : lkC P pl h w m ≤ m := by
  induction m with
  | zero => simp [lkC]
  | succ m ih => simp only [lkC]; split <;> omega
theorem lkB_le {P : Pn} {pl : Nat → Option Nat} {h w m : Nat} : lkB P pl h w m ≤ m := by
  induction m with
  | zero => simp [lkB]
  | succ m ih => simp only [lkB]; split <;> omega
theorem plG_lt {P : Pn} {pl : Nat → Option Nat} (hP : wfP P) (hl : wfL P pl) {o : Nat} : plG pl o < 144 := by
  unfold plG
  cases e : pl o with
  | none => simp
  | some t => exact (wfL_lt hP hl e).2.1
theorem rk_le {P : Pn} {o : Nat} : rk P o ≤ 100 := by
  unfold rk
  split <;> omega
theorem ky_lt {P : Pn} {pl : Nat → Option Nat} (hP : wfP P) (hl : wfL P pl) {h : Nat} (hh : h < 144) (o : Nat) : ky P pl h o < 2 ^ 31 := by
  have h1 := ds_lt hh (plG_lt hP hl (o := o))
  have h2 := rk_le (P := P) (o := o)
  unfold ky
  omega
theorem sh12_of : ∀ x, x < 243 → ((nI x : Int32) <<< ((12 : Int32) &&& 31) : Int32) = nI (4096 * x) := by decide +kernel
theorem sh4_of : ∀ x, x < 101 → ((nI x : Int32) <<< ((4 : Int32) &&& 31) : Int32) = nI (16 * x) := by decide +kernel
theorem s99_of : ∀ x, x < 100 → (99 : Int32) - nI x = nI (99 - x) ∧ (99 : Int32) - nI (99 - x) = nI x := by decide +kernel
theorem s100 : (99 : Int32) - 100 = -1 := by decide
variable {f G f' G' : Nat → Nat → Int32} {J J' : Nat → Nat → Int64} {c : Value} {d p : Nat} {P : Pn} {D : Dy}
/-- what was looked at last -/
def LK (f G : Nat → Nat → Int32) (P : Pn) (pl : Nat → Option Nat) (h w m : Nat) : Prop := f 55 3 = nI (lkC P pl h w m) ∧ f 55 4 = nI (lkB P pl h w m) ∧ f 55 5 = bz (lkE P pl h w m) ∧ (∀ i, i < lkC P pl h w m → G 57 i = nI (ky P pl h (lkF P pl h w m i)))
def FRl (f G : Nat → Nat → Int32) (J : Nat → Nat → Int64) (f' G' : Nat → Nat → Int32) (J' : Nat → Nat → Int64) : Prop :=
  (∀ o k, ¬ (o = 55 ∧ 3 ≤ k ∧ k ≤ 5) → f' o k = f o k) ∧ (∀ q k, q ≠ 57 → G' q k = G q k) ∧ (∀ q k, q ≠ 53 → q ≠ 54 → J' q k = J q k)
theorem FRl_rf : FRl f G J f G J := ⟨fun _ _ _ => rfl, fun _ _ _ => rfl, fun _ _ _ _ => rfl⟩
theorem FRl_tr {f1 G1 f2 G2 : Nat → Nat → Int32} {J1 J2 : Nat → Nat → Int64} (h : FRl f G J f1 G1 J1) (h' : FRl f1 G1 J1 f2 G2 J2) : FRl f G J f2 G2 J2 :=
  ⟨fun o k a => (h'.1 o k a).trans (h.1 o k a), fun q k a => (h'.2.1 q k a).trans (h.2.1 q k a), fun q k a b => (h'.2.2 q k a b).trans (h.2.2 q k a b)⟩
theorem FRl_FR (h : FRl f G J f' G' J') : FR p f G J f' G' J' :=
  ⟨fun o k a _ => h.1 o k (fun e => a e.1), fun q k _ _ _ a _ => h.2.1 q k a, fun q k a b _ => h.2.2 q k a b⟩
theorem sc57 (hp : isSc p) : p ≠ 55 ∧ ∀ i, i < 10 → p + i ≠ 57 := by
  rcases hp with rfl | rfl | rfl | rfl | rfl | rfl | rfl | rfl <;> exact ⟨by decide, fun i hi => by omega⟩
theorem RD_frl (hp : isSc p) (h : FRl f G J f' G' J') (hd : RD f G p D) : RD f' G' p D := by
  obtain ⟨n1, n2⟩ := sc57 hp
  obtain ⟨h1, h2, -⟩ := h
  have e : ∀ k, f' p k = f p k := fun k => h1 p k (fun e => n1 e.1)
  unfold RD at hd ⊢
  simp only [e, h2 _ _ (n2 2 (by omega)), h2 _ _ (n2 3 (by omega)), h2 _ _ (n2 6 (by omega))]
  exact hd
theorem look_loop (hp : isSc p) (hP : wfP P) (hl : wfL P (dPl D)) {h w : Nat} (hh : thB P h = true) (hw : w < 14) {K : Option Value → aH → Prop} : ∀ r m, 14 - m = r → m ≤ 14 → ∀ f G J, RS f G p P → RD f G p D → CK J P → LK f G P (dPl D) h w m → (∀ f' G' J', LK f' G' P (dPl D) h w 14 → CK J' P → FRl f G J f' G' J' → K none (wo f' G' J' c)) → ∀ l6 l7 l8 : Value, E scr false (d + 2) 81 62 [.ref 55, .ref p, .int (nI w), .int (nI h), .int (nI (agW P w)), .int (nI m), l6, l7, l8] [] (wo f G J c) K := by
  have hh' := th_lt hP hh
  obtain ⟨n1, n2⟩ := sc57 hp
  intro r
  induction r with
  | zero =>
    intro m hr hm f G J hs hd hc hk hK l6 l7 l8
    have e : m = 14 := by omega
    subst e
    rw [b81_62]
    simp (disch := omega) only [LI, NC, if_false, Nat.le_refl, if_true]
    exact hK f G J hk hc FRl_rf
  | succ r ih =>
    intro m hr hm f G J hs hd hc hk hK l6 l7 l8
    have nm : ¬ 14 ≤ m := by omega
    obtain ⟨k1, k2, k3, k4⟩ := hk
    have em := hd.2.2.2.1 m (by omega)
    have skip : seeB P (dPl D) h w m = false → ∀ J', CK J' P → FRl f G J f G J' → ∀ l6 l7 l8, E scr false (d + 2) 81 208 [.ref 55, .ref p, .int (nI w), .int (nI h), .int (nI (agW P w)), .int (nI m), .int l6, l7, l8] [] (wo f G J' c) K := by
      intro hsee J' hc' hfr l6 l7 l8
      rw [b81_208, nI_1]
      apply ih (m + 1) (by omega) (by omega) f G J' hs hd hc'
      · refine ⟨?_, ?_, ?_, ?_⟩
        · rw [k1]; simp [lkC, hsee]
        · rw [k2]; simp [lkB, hsee]
        · rw [k3]; simp [lkE, hsee]
        · have e1 : lkC P (dPl D) h w (m + 1) = lkC P (dPl D) h w m := by simp [lkC, hsee]
          have e2 : lkF P (dPl D) h w (m + 1) = lkF P (dPl D) h w m := by simp [lkF, hsee]
          rw [e1, e2]
          exact k4
      · intro f2 G2 J2 a1 a2 a3
        exact hK f2 G2 J2 a1 a2 (FRl_tr hfr a3)
    rw [b81_62]
    simp (disch := omega) only [LI, NC, nm, if_false, sC scr hp, em]
    by_cases hmw : m = w
    · subst hmw
      simp only [if_true]
      exact skip (by simp [seeB]) J hc FRl_rf _ _ _
    · simp only [hmw, if_false]
      cases ho : dPl D m with
      | none =>
        simp only [oI_n, neg1_lt, if_true]
        exact skip (by simp [seeB, ho]) J hc FRl_rf _ _ _
      | some t =>
        obtain ⟨-, ht, htt, hex⟩ := wfL_lt hP hl ho
        simp (disch := omega) only [oI_s, NC, if_false, wK scr]
        apply w2 hp hP hs hc hh htt
        intro J' hc' hJ
        have hfr : FRl f G J f G J' := ⟨fun _ _ _ => rfl, fun _ _ _ => rfl, hJ⟩
        cases hcl : clB P h t with
        | false =>
          simp only [bz_f, if_true]
          exact skip (by simp [seeB, ho, hcl]) J' hc' hfr _ _ _
        | true =>
          have hsee : seeB P (dPl D) h w m = true := by simp [seeB, ho, hcl, hmw]
          simp only [bz_t, sp90, apt_nI (show h < 2 ^ 31 by omega) (show t < 2 ^ 31 by omega), show ¬ ((1 : Int32) = 0) by decide, if_false]
          have ds := ds_lt hh' ht
          have tail : ∀ s0 : Int32, (s0 = nI (rk P m)) → (((nI (agW P w)) < 99 - s0) ↔ ¬ (12 ≤ m ∨ pAg P m ≤ agW P w)) → ∀ l8, E scr false (d + 1 + 1) 81 143 [.ref 55, .ref p, .int (nI w), .int (nI h), .int (nI (agW P w)), .int (nI m), .int (nI t), .int (nI (dsN h t)), l8] [.int s0] (wo f G J' c) K := by
            intro s0 hs0 hel l8
            rw [b81_143]
            have ekey : ((nI (dsN h t) : Int32) <<< ((12 : Int32) &&& 31) : Int32) + ((s0 : Int32) <<< ((4 : Int32) &&& 31) : Int32) + nI m = nI (ky P (dPl D) h m) := by
              rw [hs0, sh12_of _ (by omega), sh4_of _ (by have := rk_le (P := P) (o := m); omega), nI_add, nI_add]
              unfold ky plG
              rw [ho, Nat.mod_eq_of_lt (show m < 16 by omega)]
              rfl
            rw [ekey]
            have hcm := lkC_le (P := P) (pl := dPl D) (h := h) (w := w) (m := m)
            have hbm := lkB_le (P := P) (pl := dPl D) (h := h) (w := w) (m := m)
            apply w82 (ky_lt hP hl hh') (by omega) k1 k4
            intro G2 hG2 hfr2
            have eb : up2 f 55 3 (nI (lkC P (dPl D) h w m + 1)) 55 4 = nI (lkB P (dPl D) h w m) := by rw [up2_k (by decide), k2]
            simp only [wK scr, eb]
            have fin : ∀ s1 : Nat, s1 = (if dsN h t ≤ 2 then 1 else 0) → E scr false (d + 1 + 1) 81 178 [.ref 55, .ref p, .int (nI w), .int (nI h), .int (nI (agW P w)), .int (nI m), .int (nI t), .int (nI (dsN h t)), .int s0] [.int (nI s1), .int (nI (lkB P (dPl D) h w m)), .ref 55] (wo (up2 f 55 3 (nI (lkC P (dPl D) h w m + 1))) G2 J' c) K := by
              intro s1 hs1
              rw [b81_178]
              have e5 : up2 (up2 f 55 3 (nI (lkC P (dPl D) h w m + 1))) 55 4 (nI (lkB P (dPl D) h w m + s1)) 55 5 = bz (lkE P (dPl D) h w m) := by rw [up2_k (by decide), up2_k (by decide), k3]
              simp only [wK scr, nI_add, e5]
              have fin2 : ∀ b : Bool, b = lkE P (dPl D) h w (m + 1) → E scr false (d + 1 + 1) 81 205 [.ref 55, .ref p, .int (nI w), .int (nI h), .int (nI (agW P w)), .int (nI m), .int (nI t), .int (nI (dsN h t)), .int s0] [.int (bz b), .ref 55] (wo (up2 (up2 f 55 3 (nI (lkC P (dPl D) h w m + 1))) 55 4 (nI (lkB P (dPl D) h w m + s1))) G2 J' c) K := by
                intro b hb
                rw [b81_205]
                refine ⟨by cases b <;> simp [bz], ?_⟩
                simp only [wK scr]
                rw [b81_208, nI_1]
                have hfr3 : FRl f G J (up2 (up2 (up2 f 55 3 (nI (lkC P (dPl D) h w m + 1))) 55 4 (nI (lkB P (dPl D) h w m + s1))) 55 5 (bz b)) G2 J' := by
                  refine ⟨?_, hfr2, hJ⟩
                  intro o k hok
                  unfold up2
                  rw [if_neg (by omega), if_neg (by omega), if_neg (by omega)]
                apply ih (m + 1) (by omega) (by omega) _ _ _ (RS_fr hp (FRl_FR hfr3) hs) (RD_frl hp hfr3 hd) hc'
                · refine ⟨?_, ?_, ?_, ?_⟩
                  · rw [up2_k (by decide), up2_k (by decide), up2_s]
                    simp [lkC, hsee]
                  · rw [up2_k (by decide), up2_s, hs1]
                    simp [lkB, hsee, plG, ho]
                  · rw [up2_s, hb]
                  · have e1 : lkC P (dPl D) h w (m + 1) = lkC P (dPl D) h w m + 1 := by simp [lkC, hsee]
                    have e2 : lkF P (dPl D) h w (m + 1) = insF (kyL P (dPl D) h) (lkF P (dPl D) h w m) m (lkC P (dPl D) h w m) := by simp [lkF, hsee]
                    rw [e1, e2]
                    exact hG2
                · intro f2 G3 J2 a1 a2 a3
                  exact hK f2 G3 J2 a1 a2 (FRl_tr hfr3 a3)
              have elE : lkE P (dPl D) h w (m + 1) = (lkE P (dPl D) h w m && (decide (12 ≤ m) || decide (pAg P m ≤ agW P w))) := by simp [lkE, hsee]
              cases hE : lkE P (dPl D) h w m with
              | false =>
                simp only [bz_f, if_true]
                rw [b81_204]
                exact fin2 false (by rw [elE, hE]; rfl)
              | true =>
                simp only [bz_t, show ¬ ((1 : Int32) = 0) by decide, if_false]
                by_cases hx : 12 ≤ m ∨ pAg P m ≤ agW P w
                · have : ¬ nI (agW P w) < 99 - s0 := fun e => (hel.mp e) hx
                  rw [if_neg this]
                  exact fin2 true (by rw [elE, hE]; simp [hx])
                · rw [if_pos (hel.mpr hx), b81_204]
                  exact fin2 false (by rw [elE, hE]; simp; omega)
            by_cases h2 : dsN h t ≤ 2
            · rw [if_neg (by simp (disch := omega) only [LI, NC]; omega)]
              exact fin 1 (by simp [h2])
            · rw [if_pos (by simp (disch := omega) only [LI, NC]; omega)]
              exact fin 0 (by simp [h2])
          have hag : agW P w < 100 := by
            unfold agW
            have := hP.2.2.2.2.2.2.1 w
            split <;> omega
          by_cases h12 : 12 ≤ m
          · simp only [h12, if_true]
            apply tail 100
            · simp only [rk, show ¬ m < 12 by omega, if_false]; rfl
            · rw [s100]
              have : ¬ nI (agW P w) < -1 := by
                intro e
                have := Int32.lt_trans e (by decide : (-1 : Int32) < 0)
                exact nI_pos (by omega) this
              exact ⟨fun e => absurd e this, fun e => absurd (Or.inl h12) e⟩
          · have hpe : m < pPe P := by
              unfold exB at hex
              simp only [Bool.or_eq_true, Bool.and_eq_true, decide_eq_true_eq] at hex
              omega
            have ha := hs.2.2.1 m hpe
            have hm1 := hP.2.2.2.2.2.2.1 m
            obtain ⟨s1, s2⟩ := s99_of (pAg P m) hm1
            simp (disch := omega) only [h12, if_false, sC scr hp, ha]
            apply tail
            · rw [show nI 99 = 99 from rfl, s1]; simp only [rk, show m < 12 by omega, if_true]
            · rw [show nI 99 = 99 from rfl, s1, s2, nI_ltI (by omega) (by omega)]
              omega
theorem w81 (hp : isSc p) (hP : wfP P) (hl : wfL P (dPl D)) (hs : RS f G p P) (hd : RD f G p D) (hc : CK J P) {h w : Nat} (hw : dPl D w = some h) {T : aH → Prop} (hT : ∀ f' G' J', LK f' G' P (dPl D) h w 14 → CK J' P → FRl f G J f' G' J' → T (wo f' G' J' c)) : vV scr (d + 2) 81 [.ref 55, .ref p, .int (nI w)] (wo f G J c) T := by
  obtain ⟨h14, h144, hth, hex⟩ := wfL_lt hP hl hw
  have n14 : ¬ 14 ≤ w := by omega
  have ew := hd.2.2.2.1 w h14
  rw [hw] at ew
  have hfr : FRl f G J (up2 (up2 (up2 f 55 3 0) 55 4 0) 55 5 1) G J := by
    refine ⟨?_, fun _ _ _ => rfl, fun _ _ _ _ => rfl⟩
    intro o k hok
    unfold up2
    rw [if_neg (by omega), if_neg (by omega), if_neg (by omega)]
  have hfin : ∀ l6 l7 l8 : Value, E scr false (d + 2) 81 62 [.ref 55, .ref p, .int (nI w), .int (nI h), .int (nI (agW P w)), .int (nI 0), l6, l7, l8] [] (wo (up2 (up2 (up2 f 55 3 0) 55 4 0) 55 5 1) G J c) (fun r h => r = none ∧ T h) := by
    apply look_loop hp hP hl hth h14 14 0 rfl (by omega) _ _ _ (RS_fr hp (FRl_FR hfr) hs) (RD_frl hp hfr hd) hc
    · refine ⟨?_, ?_, ?_, ?_⟩
      · rw [up2_k (by decide), up2_k (by decide), up2_s]; rfl
      · rw [up2_k (by decide), up2_s]; rfl
      · rw [up2_s]; rfl
      · intro i hi
        simp [lkC] at hi
    · intro f' G' J' a1 a2 a3
      exact ⟨rfl, hT f' G' J' a1 a2 (FRl_tr hfr a3)⟩
  unfold vV
  rw [u81_ok, en81, b81_0]
  simp (disch := omega) only [wK scr, true_and, LI, NC, n14, if_false, sC scr hp, ew, oI_s, b81_35, or_true]
  by_cases h12 : 12 ≤ w
  · simp only [h12, if_true, b81_55, b81_57]
    have e : agW P w = 99 := by simp [agW, show ¬ w < 12 by omega]
    rw [e] at hfin
    exact hfin _ _ _
  · have hpe : w < pPe P := by
      unfold exB at hex
      simp only [Bool.or_eq_true, Bool.and_eq_true, decide_eq_true_eq] at hex
      omega
    simp (disch := omega) only [h12, if_false, hs.2.2.1 w hpe, b81_57, sC scr hp]
    have e : agW P w = pAg P w := by simp [agW, show w < 12 by omega]
    rw [e] at hfin
    exact hfin _ _ _
end W4
