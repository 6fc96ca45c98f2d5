variable {scr : List Int32}
-- ===== the model's steps =====
section M6
variable {f G f' G' f1 G1 f2 G2 : Nat → Nat → Int32} {J J' J1 J2 : Nat → Nat → Int64} {c : Value} {d : Nat} {P : Pn} {D : Dy} {B : Nat → Nat} {L : Lw}
theorem ms_loop (hP : wfP P) (hL : wfLw L) {r : Nat} (hr : r < 6) (hl : wfL P (dPl D)) {K : Option Value → aH → Prop} : ∀ n m, pPe P - m = n → m ≤ pPe P → ∀ f G J, CM G r P B L → MP G P (spD P B L D m) → G 126 4 + 1 = dSt D → f 125 40 = nI (spW P B L D m) → (∀ w, w < m → G 153 w = oI (spF P B L D w)) →
  (∀ f' G' J', MP G' P (spD P B L D (pPe P)) → FRn f G J f' G' J' → f' 125 40 = nI (spW P B L D (pPe P)) → (∀ w, w < pPe P → G' 153 w = oI (spF P B L D w)) → K none (wo f' (up2 G' 126 4 (G 126 4 + 1)) J' c)) → E scr false (d + 7) 180 7 [.ref 125, .int (nI r), .int (nI m)] [] (wo f G J c) K := by
  have p12 := hP.2.2.2.1
  have dst : ∀ m, dSt (spD P B L D m) = dSt D := by
    intro m
    induction m with
    | zero => rfl
    | succ m ih =>
      rw [← ih]
      show dSt (lgA P (mvD P _ _ _) _) = _
      have e1 : ∀ D w o, dSt (mvD P D w o) = dSt D := by intro D w o; unfold mvD; split <;> rfl
      have e2 : ∀ D w, dSt (lgA P D w) = dSt D := by
        intro D w
        unfold lgA
        split
        · rfl
        · split <;> rfl
      rw [e2, e1]
  intro n
  induction n with
  | zero =>
    intro m hn hm f G J hx hmp hst h40 h153 hK
    have e : m = pPe P := by omega
    subst e
    rw [b180_7]
    have e2 := hx.1.1.2.2.1
    simp (disch := omega) only [mO scr, LI, e2, NC, Nat.le_refl, if_true]
    exact hK f G J hmp FRn_rf h40 h153
  | succ n ih =>
    intro m hn hm f G J hx hmp hst h40 h153 hK
    rw [b180_7]
    have e2 := hx.1.1.2.2.1
    have mex : exB P m = true := by simp [exB, show m < pPe P by omega]
    have e135 : up2 G 153 m (-1) 135 m = oI (dPl (spD P B L D m) m) := by rw [up2_q (by decide)]; exact hmp.1 m mex
    simp (disch := omega) only [mO scr, LI, e2, NC, show ¬ pPe P ≤ m by omega, if_false, e135]
    have next : ∀ f' G' J', MP G' P (spD P B L D (m + 1)) → FRn f G J f' G' J' → f' 125 40 = nI (spW P B L D (m + 1)) → G' 153 m = oI (spF P B L D m) → (∀ k, k ≠ m → G' 153 k = G 153 k) → E scr false (d + 7) 180 40 [.ref 125, .int (nI r), .int (nI m)] [] (wo f' G' J' c) K := by
      intro f' G' J' hmp' hfr' h40' hm153 ho153
      rw [b180_40, nI_1]
      have e126 : G' 126 4 = G 126 4 := hfr'.2.1 126 4 (by decide) (by decide) (by decide) (by decide)
      apply ih (m + 1) (by omega) (by omega) f' G' J' (CM_fr (FRn_m hfr') hx) hmp' (by rw [e126]; exact hst) h40'
      · intro w hw
        by_cases e : w = m
        · subst e; exact hm153
        · rw [ho153 w e]; exact h153 w (by omega)
      · intro f2 G2 J2 a1 a2 a3 a4
        rw [e126]
        exact hK f2 G2 J2 a1 (FRn_tr hfr' a2) a3 a4
    have fr0 : FRn f G J f (up2 G 153 m (-1)) J := ⟨fun _ _ _ => rfl, fun q k _ _ _ a => up2_q a, fun _ _ _ _ => rfl⟩
    have mp0 : MP (up2 G 153 m (-1)) P (spD P B L D m) := by
      unfold MP
      simp only [up2_q (show 135 ≠ 153 by decide), up2_q (show 136 ≠ 153 by decide)]
      exact hmp
    cases ho : dPl (spD P B L D m) m with
    | none =>
      obtain ⟨t1, t2⟩ := tu_none (P := P) (o := fol P B L (dPl (spD P B L D m)) m) ho
      simp only [oI_n, if_true]
      apply next _ _ _ _ fr0
      · have : mvA P (dPl (spD P B L D m)) m (spF P B L D m) = none := t2
        simp only [spW, this]
        simpa using h40
      · rw [up2_s]
        unfold spF fol
        rw [ho]
        rfl
      · intro k hk; rw [up2_k hk]
      · show MP _ P (tuD P (spD P B L D m) m _)
        rw [t1]; exact mp0
    | some h =>
      have h144 := (wfL_lt hP (wfL_sp (B := B) (L := L) hP hl m) ho).2.1
      simp (disch := omega) only [oI_s, NC, if_false]
      apply m179 (D := spD P B L D m) hP hL hr (wfL_sp hP hl m) (CM_fr (FRn_m fr0) hx) mp0 _ ho (by omega) h40
      · intro f' G' J' a1 a2 a3 a4 a5
        exact next f' G' J' a1 (FRn_tr fr0 a2) a3 a4 (fun k hk => by rw [a5 k hk, up2_k hk])
      · rw [up2_q (by decide), dst m]; exact hst
theorem m180 (hP : wfP P) (hL : wfLw L) {r : Nat} (hr : r < 6) (hl : wfL P (dPl D)) (hx : CM G r P B L) (hmd : MD G P D) {T : aH → Prop} (hT : ∀ f' G' J', MD G' P (stD P B L D) → FRm f G J f' G' J' → f' 125 40 = nI (stW P B L D) → (∀ w, w < pPe P → G' 153 w = oI (stF P B L D w)) → T (wo f' G' J' c)) : vV scr (d + 7) 180 [.ref 125, .int (nI r)] (wo f G J c) T := by
  unfold vV
  rw [u180_ok, en180, b180_0]
  simp only [mO scr, true_and]
  rw [show (0 : Int32) = nI 0 from rfl]
  apply ms_loop (D := inS D) hP hL hr hl (pPe P) 0 rfl (by omega) _ _ _ hx hmd.2
  · rw [hmd.1]; rfl
  · rw [up2_s]; rfl
  · intro w hw; omega
  · intro f' G' J' a1 a2 a3 a4
    refine ⟨rfl, hT _ _ _ ?_ ?_ a3 ?_⟩
    · refine ⟨?_, ?_, ?_⟩
      · rw [up2_s, hmd.1]
        have dst : ∀ m, dSt (spD P B L (inS D) m) = dSt (inS D) := by
          intro m
          induction m with
          | zero => rfl
          | succ m ih =>
            rw [← ih]
            show dSt (lgA P (mvD P _ _ _) _) = _
            have e1 : ∀ D w o, dSt (mvD P D w o) = dSt D := by intro D w o; unfold mvD; split <;> rfl
            have e2 : ∀ D w, dSt (lgA P D w) = dSt D := by
              intro D w
              unfold lgA
              split
              · rfl
              · split <;> rfl
            rw [e2, e1]
        exact (dst (pPe P)).symm
      · intro w hw; rw [up2_q (by decide)]; exact a1.1 w hw
      · intro w hw; rw [up2_q (by decide)]; exact a1.2 w hw
    · refine ⟨?_, ?_, a2.2.2⟩
      · intro o k hok
        rw [a2.1 o k hok]
        unfold up2
        rw [if_neg (fun e => hok ⟨e.1, Or.inr e.2⟩)]
      · intro q k b1 b2 b3 b4 b5
        have : up2 G' 126 4 (G 126 4 + 1) q k = G' q k := by
          unfold up2
          rw [if_neg b5]
        rw [this]
        exact a2.2.1 q k b1 b2 b3 b4
    · intro w hw; rw [up2_q (by decide)]; exact a4 w hw
theorem mw_loop (hP : wfP P) (hL : wfLw L) {r n : Nat} (hn : n < 2 ^ 20) (hr : r < 6) {K : Option Value → aH → Prop} : ∀ m i, n - i = m → i ≤ n → ∀ D f G J, wfS P D → CM G r P B L → MD G P D → (∀ f' G' J', MD G' P (wkD P B L m D) → FRm f G J f' G' J' → (f' 125 40 = if m = 0 then f 125 40 else nI (wkW P B L m D)) → K none (wo f' G' J' c)) → E scr false (d + 8) 181 2 [.ref 125, .int (nI r), .int (nI n), .int (nI i)] [] (wo f G J c) K := by
  intro m
  induction m with
  | zero =>
    intro i hm hi D f G J hw hx hmd hK
    rw [b181_2]
    simp (disch := omega) only [NC, show n ≤ i by omega, if_true]
    exact hK f G J hmd FRm_rf rfl
  | succ m ih =>
    intro i hm hi D f G J hw hx hmd hK
    rw [b181_2]
    simp (disch := omega) only [NC, show ¬ n ≤ i by omega, if_false]
    apply m180 hP hL hr hw.1 hx hmd
    intro f' G' J' a1 a2 a3 a4
    rw [nI_1]
    apply ih (i + 1) (by omega) (by omega) (stD P B L D) f' G' J' (wfS_st hP hw).1 (CM_fr a2 hx) a1
    intro f2 G2 J2 b1 b2 b3
    apply hK f2 G2 J2 b1 (FRm_tr a2 b2)
    rw [b3]
    simp only [wkW, Nat.add_one_ne_zero, if_false]
    split
    · exact a3
    · rfl
theorem m181 (hP : wfP P) (hL : wfLw L) {r n : Nat} (hn : n < 2 ^ 20) (hr : r < 6) (hw : wfS P D) (hx : CM G r P B L) (hmd : MD G P D) {T : aH → Prop} (hT : ∀ f' G' J', MD G' P (wkD P B L n D) → FRm f G J f' G' J' → (f' 125 40 = if n = 0 then f 125 40 else nI (wkW P B L n D)) → T (wo f' G' J' c)) : vV scr (d + 8) 181 [.ref 125, .int (nI r), .int (nI n)] (wo f G J c) T := by
  unfold vV
  rw [u181_ok, en181, b181_0]
  refine ⟨rfl, ?_⟩
  rw [show (0 : Int32) = nI 0 from rfl]
  apply mw_loop hP hL hn hr n 0 rfl (by omega) D f G J hw hx hmd
  intro f' G' J' a1 a2 a3
  exact ⟨rfl, hT f' G' J' a1 a2 a3⟩
theorem cn_le {pl : Nat → Option Nat} {m : Nat} : cnP pl m ≤ m := by
  induction m with
  | zero => exact Nat.le_refl _
  | succ m ih => simp only [cnP]; split <;> omega
theorem out_loop (hP : wfP P) (hl : wfL P (dPl D)) (hms : MS G P) (hmd : MD G P D) {K : Option Value → aH → Prop} : ∀ n m, pPe P - m = n → m ≤ pPe P → E scr false d 182 4 [.ref 125, .int (nI (m - cnP (dPl D) m)), .int (nI m)] [] (wo f G J c) K = K (some (.int (nI (pPe P - cnP (dPl D) (pPe P))))) (wo f G J c) := by
  have p12 := hP.2.2.2.1
  have e2 := hms.1.2.2.1
  intro n
  induction n with
  | zero =>
    intro m hn hm
    have e : m = pPe P := by omega
    subst e
    rw [b182_4]
    simp (disch := omega) only [mO scr, LI, e2, NC, Nat.le_refl, if_true]
  | succ n ih =>
    intro m hn hm
    rw [b182_4]
    have mex : exB P m = true := by simp [exB, show m < pPe P by omega]
    have e135 := hmd.2.1 m mex
    have hcm := cn_le (pl := dPl D) (m := m)
    simp (disch := omega) only [mO scr, LI, e2, NC, show ¬ pPe P ≤ m by omega, if_false, e135]
    cases ho : dPl D m with
    | none =>
      simp only [oI_n, if_true]
      rw [b182_30, nI_1, nI_1, ← ih (m + 1) (by omega) (by omega)]
      have : m + 1 - cnP (dPl D) (m + 1) = m - cnP (dPl D) m + 1 := by simp only [cnP, ho]; simp; omega
      rw [this]
    | some h =>
      have h144 := (wfL_lt hP hl ho).2.1
      simp (disch := omega) only [oI_s, NC, if_false]
      rw [b182_30, nI_1, Int32.add_zero, ← ih (m + 1) (by omega) (by omega)]
      have : m + 1 - cnP (dPl D) (m + 1) = m - cnP (dPl D) m := by simp only [cnP, ho]; simp
      rw [this]
theorem m182 (hP : wfP P) (hl : wfL P (dPl D)) (hms : MS G P) (hmd : MD G P D) {T : Int32 → aH → Prop} : vI scr d 182 [.ref 125] (wo f G J c) T = T (nI (pPe P - cnP (dPl D) (pPe P))) (wo f G J c) := by
  unfold vI
  rw [u182_ok, en182, b182_0]
  simp only [true_and]
  have := out_loop (scr := scr) (f := f) (J := J) (c := c) (d := d) hP hl hms hmd (K := fun r h => ∃ x, r = some (Value.int x) ∧ T x h) (pPe P) 0 rfl (by omega)
  refine Eq.trans this ?_
  simp only [ex_i]
end M6
