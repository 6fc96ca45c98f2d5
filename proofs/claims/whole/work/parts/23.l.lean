variable {scr : List Int32}
-- ===== steps and walks =====
section W9
variable {P : Pn} {B : Nat → Nat} {L : Lw} {D : Dy} {w : Nat} {o : Option Nat}
def wkD (P : Pn) (B : Nat → Nat) (L : Lw) : Nat → Dy → Dy
  | 0, D => D
  | n + 1, D => wkD P B L n (stD P B L D)
def wkW (P : Pn) (B : Nat → Nat) (L : Lw) : Nat → Dy → Nat
  | 0, _ => 0
  | n + 1, D => if n = 0 then stW P B L D else wkW P B L n (stD P B L D)
/-- nobody goes and nobody comes out -/
def idle (P : Pn) (B : Nat → Nat) (L : Lw) (pl : Nat → Option Nat) : Prop := ∀ m, m < pPe P → mvA P pl m (fol P B L pl m) = none ∧ (∀ h, pl m = some h → ¬ pKd P h = 3)
theorem lg_oc : dOc D ≤ dOc (lgA P D w) ∧ (dOc (lgA P D w) = dOc D → lgA P D w = D ∧ (∀ h, dPl D w = some h → ¬ pKd P h = 3)) := by
  unfold lgA
  split
  · rename_i hn
    exact ⟨Nat.le_refl _, fun _ => ⟨rfl, fun h hh => by rw [hn] at hh; cases hh⟩⟩
  · rename_i h hh
    split
    · refine ⟨Nat.le_succ _, fun e => ?_⟩
      have : dOc D + 1 = dOc D := e
      omega
    · rename_i h3
      exact ⟨Nat.le_refl _, fun _ => ⟨rfl, fun h' hh' => by rw [hh] at hh'; cases hh'; exact h3⟩⟩
theorem mv_oc : dOc (mvD P D w o) = dOc D := by
  unfold mvD
  split <;> rfl
theorem sp_oc : ∀ m, dOc (spD P B L D m) ≤ dOc (spD P B L D (m + 1)) := by
  intro m
  show _ ≤ dOc (lgA P (mvD P _ _ _) _)
  have := (lg_oc (P := P) (D := mvD P (spD P B L D m) m (fol P B L (dPl (spD P B L D m)) m)) (w := m)).1
  rw [mv_oc] at this
  exact this
theorem sp_oc0 : ∀ m, dOc D ≤ dOc (spD P B L D m) := by
  intro m
  induction m with
  | zero => exact Nat.le_refl _
  | succ m ih => exact Nat.le_trans ih (sp_oc m)
theorem sp_idle : ∀ m, spW P B L D m = 0 → dOc (spD P B L D m) = dOc D → spD P B L D m = D ∧ ∀ k, k < m → mvA P (dPl D) k (fol P B L (dPl D) k) = none ∧ (∀ h, dPl D k = some h → ¬ pKd P h = 3) := by
  intro m
  induction m with
  | zero => intro _ _; exact ⟨rfl, fun k hk => by omega⟩
  | succ m ih =>
    intro hw hoc
    have h1 := sp_oc (P := P) (B := B) (L := L) (D := D) m
    have h2 := sp_oc0 (P := P) (B := B) (L := L) (D := D) m
    simp only [spW] at hw
    obtain ⟨e, hk⟩ := ih (by omega) (by omega)
    have hm : mvA P (dPl D) m (fol P B L (dPl D) m) = none := by
      have : ¬ (mvA P (dPl (spD P B L D m)) m (spF P B L D m)).isSome = true := by
        intro hh
        rw [if_pos hh] at hw
        omega
      unfold spF at this
      rw [e] at this
      simpa using this
    have ed : spD P B L D (m + 1) = lgA P D m := by
      show lgA P (mvD P (spD P B L D m) m (fol P B L (dPl (spD P B L D m)) m)) m = _
      rw [e]
      unfold mvD
      rw [hm]
    rw [ed] at hoc ⊢
    obtain ⟨q1, q2⟩ := (lg_oc (P := P) (D := D) (w := m)).2 hoc
    refine ⟨q1, ?_⟩
    intro k hkm
    by_cases ekm : k = m
    · subst ekm; exact ⟨hm, q2⟩
    · exact hk k (by omega)
theorem idle_sp (hi : idle P B L (dPl D)) : ∀ m, m ≤ pPe P → spD P B L D m = D ∧ spW P B L D m = 0 := by
  intro m
  induction m with
  | zero => intro _; exact ⟨rfl, rfl⟩
  | succ m ih =>
    intro hm
    obtain ⟨e1, e2⟩ := ih (by omega)
    obtain ⟨i1, i2⟩ := hi m (by omega)
    constructor
    · show lgA P (mvD P (spD P B L D m) m (fol P B L (dPl (spD P B L D m)) m)) m = _
      rw [e1]
      unfold mvD
      rw [i1]
      unfold lgA
      split
      · rfl
      · rename_i h hh
        rw [if_neg (i2 h hh)]
    · have hm : mvA P (dPl (spD P B L D m)) m (spF P B L D m) = none := by
        unfold spF
        rw [e1]
        exact i1
      simp only [spW, hm, e2]
      rfl
theorem idle_st (hi : idle P B L (dPl D)) : stD P B L D = inS D ∧ stW P B L D = 0 := idle_sp (D := inS D) hi (pPe P) (Nat.le_refl _)
theorem st_idle (h1 : stW P B L D = 0) (h2 : dOc (stD P B L D) = dOc D) : idle P B L (dPl D) := (sp_idle (D := inS D) (pPe P) h1 h2).2
theorem idle_wk : ∀ r D, idle P B L (dPl D) → wkD P B L r D = (dPl D, dOu D, dSt D + nI r, dOc D) ∧ wkW P B L r D = 0 := by
  intro r
  induction r with
  | zero =>
    intro D _
    refine ⟨?_, rfl⟩
    show D = _
    rw [show nI 0 = 0 from rfl, Int32.add_zero]
    rfl
  | succ r ih =>
    intro D hi
    obtain ⟨e1, e2⟩ := idle_st hi
    obtain ⟨i1, i2⟩ := ih (inS D) hi
    constructor
    · show wkD P B L r (stD P B L D) = _
      rw [e1, i1]
      show (dPl D, dOu D, dSt D + 1 + nI r, dOc D) = _
      rw [Int32.add_assoc, Int32.add_comm 1, nI_1]
    · simp only [wkW]
      rw [e1, e2, i2]
      simp
theorem wfS_wk (hP : wfP P) : ∀ n D, wfS P D → wfS P (wkD P B L n D) ∧ dOc (wkD P B L n D) + cnP (dPl (wkD P B L n D)) (pPe P) = dOc D + cnP (dPl D) (pPe P) := by
  intro n
  induction n with
  | zero => intro D h; exact ⟨h, rfl⟩
  | succ n ih =>
    intro D h
    obtain ⟨a, b⟩ := wfS_st (B := B) (L := L) hP h
    obtain ⟨a2, b2⟩ := ih _ a
    exact ⟨a2, b2.trans b⟩
end W9
section W10
variable {f G f' G' f1 G1 : Nat → Nat → Int32} {J J' J1 : Nat → Nat → Int64} {c : Value} {d p q : Nat} {P : Pn} {D : Dy} {B : Nat → Nat} {L : Lw}
theorem step_loop (hp : isSc p) (hq : isLw q) (hP : wfP P) (hL : wfLw L) (hl : wfL P (dPl D)) {l3 : Int32} {K : Option Value → aH → Prop} : ∀ r m, pPe P - m = r → m ≤ pPe P → ∀ f G J, RD f G p (spD P B L D m) → CX f G J p q P B L → f 55 7 = nI (spW P B L D m) → (∀ w, w < m → G 58 w = oI (spF P B L D w)) →
  (∀ f' G' J', RD f' G' p (spD P B L D (pPe P)) → CK J' P → FR p f G J f' G' J' → f' 55 7 = nI (spW P B L D (pPe P)) → (∀ w, w < pPe P → G' 58 w = oI (spF P B L D w)) → E scr false (d + 3) 79 121 [.ref 55, .ref p, .ref q, .int l3, .int (nI (pPe P))] [] (wo f' G' J' c) K) → E scr false (d + 3) 79 23 [.ref 55, .ref p, .ref q, .int l3, .int (nI m)] [] (wo f G J c) K := by
  have p12 := hP.2.2.2.1
  intro r
  induction r with
  | zero =>
    intro m hr hm f G J hd hx h7 h58 hK
    have e : m = pPe P := by omega
    subst e
    rw [b79_23]
    have e3 := hx.1.1.2.2.2.1
    simp (disch := omega) only [sC scr hp, e3, NC, Nat.le_refl, if_true]
    exact hK f G J hd hx.2.1 FR_rf h7 h58
  | succ r ih =>
    intro m hr hm f G J hd hx h7 h58 hK
    apply turn_c hp hq hP hL (wfL_sp hP hl m) hd hx (by omega) h7
    intro f' G' J' hd' hc' hfr' h7' hm58 ho58
    rw [b79_115, nI_1]
    apply ih (m + 1) (by omega) (by omega) f' G' J' hd' (CX_fr hp hq hfr' hc' hx) h7'
    · intro w hw
      by_cases e : w = m
      · subst e; exact hm58
      · rw [ho58 w e]; exact h58 w (by omega)
    · intro f2 G2 J2 a1 a2 a3 a4 a5
      exact hK f2 G2 J2 a1 a2 (FR_tr hfr' a3) a4 a5
theorem w79 (hp : isSc p) (hq : isLw q) (hP : wfP P) (hL : wfLw L) (hw : wfS P D) (hd : RD f G p D) (hx : CX f G J p q P B L) {T : Int32 → aH → Prop} (hT : ∀ f' G' J', RD f' G' p (stD P B L D) → CK J' P → FR p f G J f' G' J' → f' 55 7 = nI (stW P B L D) → (∀ w, w < pPe P → G' 58 w = oI (stF P B L D w)) → T (bz (decide (0 < stW P B L D) || decide (dOc D < dOc (stD P B L D)))) (wo f' G' J' c)) : vI scr (d + 3) 79 [.ref 55, .ref p, .ref q] (wo f G J c) T := by
  obtain ⟨n1, n2⟩ := sc58 hp
  have p12 := hP.2.2.2.1
  obtain ⟨hl, h12⟩ := hw
  obtain ⟨⟨-, s12⟩, -⟩ := wfS_st (B := B) (L := L) hP ⟨hl, h12⟩
  have sW : ∀ m, spW P B L (inS D) m ≤ m := by
    intro m
    induction m with
    | zero => exact Nat.le_refl _
    | succ m ih => simp only [spW]; split <;> omega
  have sw12 : stW P B L D ≤ pPe P := sW (pPe P)
  unfold vI
  rw [u79_ok, en79, b79_0]
  have e6 := hd.2.1
  have e5 := hd.1
  simp only [sC scr hp, e5, e6, wK scr, true_and]
  have fr0 : FR p f G J (up2 (up2 f p 5 (dSt D + 1)) 55 7 0) G J := by
    refine ⟨?_, fun _ _ _ _ _ _ _ => rfl, fun _ _ _ _ _ => rfl⟩
    intro o k h1 h2
    rw [up2_q h1]
    unfold up2
    rw [if_neg (fun e => h2 ⟨e.1, Or.inl e.2⟩)]
  rw [show (0 : Int32) = nI 0 from rfl]
  apply step_loop (D := inS D) hp hq hP hL hl (pPe P) 0 rfl (by omega) _ _ _ _ (CX_fr hp hq fr0 hx.2.1 hx)
  · rw [up2_s]; rfl
  · intro w hw; omega
  · intro f' G' J' a1 a2 a3 a4 a5
    have a6 := hT f' G' J' a1 a2 (FR_tr fr0 a3) a4 a5
    have e7 : f' 55 7 = nI (stW P B L D) := a4
    have e8 : f' p 6 = nI (dOc (stD P B L D)) := a1.2.1
    rw [b79_121]
    simp (disch := omega) only [wK scr, sC scr hp, e7, e8, NC, b79_136]
    by_cases h1 : 0 < stW P B L D
    · simp only [h1, if_true, ex_i]
      simpa [h1, bz] using a6
    · by_cases h2 : dOc (stD P B L D) ≤ dOc D
      · simp only [h1, h2, if_true, if_false, ex_i]
        simpa [h1, show ¬ dOc D < dOc (stD P B L D) by omega, bz] using a6
      · simp only [h1, h2, if_false, ex_i]
        simpa [h1, show dOc D < dOc (stD P B L D) by omega, bz] using a6
  · obtain ⟨b1, b2, b3, b4, b5⟩ := hd
    refine ⟨?_, ?_, b3, b4, b5⟩
    · rw [up2_q n1, up2_s]; rfl
    · rw [up2_q n1, up2_k (by decide)]; exact b2
theorem walk_loop (hp : isSc p) (hq : isLw q) (hP : wfP P) (hL : wfLw L) {n : Nat} (hn : n < 2 ^ 20) {K : Option Value → aH → Prop} : ∀ r i, n + 1 - i = r → 1 ≤ i → i ≤ n + 1 → ∀ D f G J W, wfS P D → RD f G p D → CX f G J p q P B L → f 55 7 = nI W →
  (∀ f' G' J', RD f' G' p (wkD P B L r D) → CK J' P → FR p f G J f' G' J' → f' 55 7 = nI (if r = 0 then W else wkW P B L r D) → K none (wo f' G' J' c)) → E scr false (d + 4) 78 8 [.ref 55, .ref p, .ref q, .int (nI n), .int (nI i)] [] (wo f G J c) K := by
  obtain ⟨n1, n2⟩ := sc58 hp
  intro r
  induction r with
  | zero =>
    intro i hr h1 hi D f G J W hw hd hx h7 hK
    rw [b78_8]
    simp (disch := omega) only [NC, show n < i by omega, if_true]
    exact hK f G J hd hx.2.1 FR_rf h7
  | succ r ih =>
    intro i hr h1 hi D f G J W hw hd hx h7 hK
    rw [b78_8]
    simp (disch := omega) only [NC, show ¬ n < i by omega, if_false]
    apply w79 hp hq hP hL hw hd hx
    intro f' G' J' a1 a2 a3 a4 a5
    cases hb : (decide (0 < stW P B L D) || decide (dOc D < dOc (stD P B L D))) with
    | false =>
      simp only [Bool.or_eq_false_iff, decide_eq_false_iff_not] at hb
      have hge : dOc D ≤ dOc (stD P B L D) := sp_oc0 (D := inS D) (pPe P)
      have hi := st_idle (P := P) (B := B) (L := L) (D := D) (by omega) (by omega)
      obtain ⟨e1, e2⟩ := idle_st hi
      obtain ⟨e3, e4⟩ := idle_wk (r + 1) D hi
      have e5 := a1.1
      simp only [bz_f, if_true, sC scr hp, e5]
      rw [pk_sub (show i ≤ n by omega), show n - i = r by omega]
      apply hK
      · rw [e3]
        rw [e1] at a1 ⊢
        obtain ⟨b1, b2, b3, b4, b5⟩ := a1
        refine ⟨?_, ?_, b3, b4, b5⟩
        · rw [up2_s]
          show dSt D + 1 + nI r = dSt D + nI (r + 1)
          rw [Int32.add_assoc, Int32.add_comm 1, nI_1]
        · rw [up2_k (by decide)]; exact b2
      · exact a2
      · refine FR_tr a3 ⟨?_, fun _ _ _ _ _ _ _ => rfl, fun _ _ _ _ _ => rfl⟩
        intro o k q1 q2
        unfold up2
        rw [if_neg (fun e => q2 ⟨e.1, Or.inl e.2⟩)]
      · rw [up2_q (Ne.symm n1), a4, if_neg (by omega), e4, e2]
    | true =>
      simp only [bz_t, show ¬ ((1 : Int32) = 0) by decide, if_false, nI_1]
      apply ih (i + 1) (by omega) (by omega) (by omega) (stD P B L D) f' G' J' _ (wfS_st hP hw).1 a1 (CX_fr hp hq a3 a2 hx) a4
      intro f2 G2 J2 c1 c2 c3 c4
      apply hK f2 G2 J2 c1 c2 (FR_tr a3 c3)
      rw [c4]
      simp only [wkW, Nat.add_one_ne_zero, if_false]
theorem w78 (hp : isSc p) (hq : isLw q) (hP : wfP P) (hL : wfLw L) (hw : wfS P D) (hd : RD f G p D) (hx : CX f G J p q P B L) {n : Nat} (hn : n < 2 ^ 20) {T : aH → Prop} (hT : ∀ f' G' J', RD f' G' p (wkD P B L n D) → CK J' P → FR p f G J f' G' J' → f' 55 7 = nI (wkW P B L n D) → T (wo f' G' J' c)) : vV scr (d + 4) 78 [.ref 55, .ref p, .ref q, .int (nI n)] (wo f G J c) T := by
  obtain ⟨n1, n2⟩ := sc58 hp
  unfold vV
  rw [u78_ok, en78, b78_0]
  simp only [wK scr, true_and]
  rw [show (1 : Int32) = nI 1 from rfl]
  refine walk_loop hp hq hP hL hn n 1 (by omega) (by omega) (by omega) D _ _ _ 0 hw (RD_cg (up2_q n1) (up2_q n1) (fun _ => rfl) (fun _ => rfl) (fun _ => rfl) hd) (CX_fr hp hq FR_55 hx.2.1 hx) ?_ ?_
  · rw [up2_s]; rfl
  · intro f' G' J' a1 a2 a3 a4
    refine ⟨rfl, hT f' G' J' a1 a2 (FR_tr FR_55 a3) ?_⟩
    rw [a4]
    split
    · rename_i e; rw [e]; rfl
    · rfl
theorem ask_loop (hp : isSc p) (hq : isLw q) (hP : wfP P) (hL : wfLw L) (hl : wfL P (dPl D)) {K : Option Value → aH → Prop} : ∀ r m, pPe P - m = r → m ≤ pPe P → ∀ f G J, RD f G p D → CX f G J p q P B L → (∀ w, w < m → G 58 w = oI (fol P B L (dPl D) w)) →
  (∀ f' G' J', RD f' G' p D → CK J' P → FR p f G J f' G' J' → (∀ w, w < pPe P → G' 58 w = oI (fol P B L (dPl D) w)) → (∀ o k, o ≠ 55 → f' o k = f o k) → (∀ q k, q ≠ 57 → q ≠ 58 → G' q k = G q k) → K none (wo f' G' J' c)) → E scr false (d + 3) 80 2 [.ref 55, .ref p, .ref q, .int (nI m)] [] (wo f G J c) K := by
  obtain ⟨n1, n2⟩ := sc58 hp
  have p12 := hP.2.2.2.1
  intro r
  induction r with
  | zero =>
    intro m hr hm f G J hd hx h58 hK
    have e : m = pPe P := by omega
    subst e
    rw [b80_2]
    have e3 := hx.1.1.2.2.2.1
    simp (disch := omega) only [sC scr hp, e3, NC, Nat.le_refl, if_true]
    exact hK f G J hd hx.2.1 FR_rf h58 (fun _ _ _ => rfl) (fun _ _ _ _ => rfl)
  | succ r ih =>
    intro m hr hm f G J hd hx h58 hK
    have next : ∀ f' G' J', RD f' G' p D → CK J' P → FR p f G J f' G' J' → G' 58 m = oI (fol P B L (dPl D) m) → (∀ k, k ≠ m → G' 58 k = G 58 k) → (∀ o k, o ≠ 55 → f' o k = f o k) → (∀ q k, q ≠ 57 → q ≠ 58 → G' q k = G q k) → E scr false (d + 3) 80 51 [.ref 55, .ref p, .ref q, .int (nI m)] [] (wo f' G' J' c) K := by
      intro f' G' J' hd' hc' hfr' hm58 ho58 hf hG
      rw [b80_51, nI_1]
      apply ih (m + 1) (by omega) (by omega) f' G' J' hd' (CX_fr hp hq hfr' hc' hx)
      · intro w hw
        by_cases e : w = m
        · subst e; exact hm58
        · rw [ho58 w e]; exact h58 w (by omega)
      · intro f2 G2 J2 a1 a2 a3 a4 a5 a6
        exact hK f2 G2 J2 a1 a2 (FR_tr hfr' a3) a4 (fun o k h => (a5 o k h).trans (hf o k h)) (fun q k h h' => (a6 q k h h').trans (hG q k h h'))
    have hc := hx.2.1
    rw [b80_2]
    have e3 := hx.1.1.2.2.2.1
    have hx1 : CX f (up2 G 58 m (-1)) J p q P B L := CX_fr hp hq FR_58 hc hx
    have hd1 : RD f (up2 G 58 m (-1)) p D := RD_cg rfl rfl (fun k => up2_q (n2 2 (by omega)).2) (fun k => up2_q (n2 3 (by omega)).2) (fun k => up2_q (n2 6 (by omega)).2) hd
    have eat := hd1.2.2.2.1 m (by omega)
    simp (disch := omega) only [sC scr hp, e3, LI, NC, show ¬ pPe P ≤ m by omega, show ¬ 12 ≤ m by omega, if_false, wK scr, eat]
    cases ho : dPl D m with
    | none =>
      have ef : fol P B L (dPl D) m = none := by unfold fol; rw [ho]
      simp only [oI_n, neg1_lt, if_true]
      exact next _ _ _ hd1 hc FR_58 (by rw [ef, up2_s]; rfl) (fun k hk => up2_k hk) (fun _ _ _ => rfl) (fun q k _ h => up2_q h)
    | some h =>
      have ef : fol P B L (dPl D) m = folA P B L (dPl D) h m := by unfold fol; rw [ho]
      simp (disch := omega) only [oI_s, NC, if_false]
      have h144 := (wfL_lt hP hl ho).2.1
      simp (disch := omega) only [NC, if_false]
      apply w81 hp hP hl hx1.1 hd1 hc ho
      intro f2 G2 J2 hk2 hc2 hfr2
      have fr2 : FR p f G J f2 G2 J2 := FR_tr FR_58 (FRl_FR hfr2)
      have hx2 : CX f2 G2 J2 p q P B L := CX_fr hp hq fr2 hc2 hx
      have hd2 := RD_frl hp hfr2 hd1
      simp only [wK scr]
      apply w84 hp hq hP hl hx2.1 hd2 hx2.2.2.1 ho (by omega) hk2 hL hx2.2.2.2
      intro J3 hJ3
      have hc3 : CK J3 P := by
        intro a b ha hb hab
        rw [hJ3 54 _ (by decide), hJ3 53 _ (by decide)]
        exact hc2 a b ha hb hab
      simp (disch := omega) only [wK scr]
      apply next
      · exact RD_cg rfl rfl (fun k => up2_q (n2 2 (by omega)).2) (fun k => up2_q (n2 3 (by omega)).2) (fun k => up2_q (n2 6 (by omega)).2) hd2
      · exact hc3
      · exact FR_tr (FR_tr fr2 (FR_56 hJ3)) FR_58
      · rw [up2_s, ef]
      · intro k hk; rw [up2_k hk, hfr2.2.1 58 k (by decide), up2_k hk]
      · intro o k ho5; exact hfr2.1 o k (fun e => ho5 e.1)
      · intro q' k h1 h2; rw [up2_q h2, hfr2.2.1 q' k h1, up2_q h2]
theorem w80 (hp : isSc p) (hq : isLw q) (hP : wfP P) (hL : wfLw L) (hl : wfL P (dPl D)) (hd : RD f G p D) (hx : CX f G J p q P B L) {T : aH → Prop} (hT : ∀ f' G' J', RD f' G' p D → CK J' P → FR p f G J f' G' J' → (∀ w, w < pPe P → G' 58 w = oI (fol P B L (dPl D) w)) → (∀ o k, o ≠ 55 → f' o k = f o k) → (∀ q k, q ≠ 57 → q ≠ 58 → G' q k = G q k) → T (wo f' G' J' c)) : vV scr (d + 3) 80 [.ref 55, .ref p, .ref q] (wo f G J c) T := by
  unfold vV
  rw [u80_ok, en80, b80_0]
  refine ⟨rfl, ?_⟩
  rw [show (0 : Int32) = nI 0 from rfl]
  apply ask_loop (D := D) hp hq hP hL hl (pPe P) 0 rfl (by omega) _ _ _ hd hx (fun w hw => by omega)
  intro f' G' J' a1 a2 a3 a4 a5 a6
  exact ⟨rfl, hT f' G' J' a1 a2 a3 a4 a5 a6⟩
end W10
