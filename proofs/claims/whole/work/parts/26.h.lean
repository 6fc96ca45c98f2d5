variable {scr : List Int32}
-- ===== spoors judged =====
section PE
variable {f G f' G' f1 G1 f2 G2 : Nat → Nat → Int32} {J J' J1 J2 : Nat → Nat → Int64} {c : Value} {d p q : Nat} {P : Pn} {D : Dy} {B : Nat → Nat} {L : Lw}
abbrev Sp : Type := Nat × (Nat → Nat) × (Nat → Nat) × (Nat → Nat)
def qN (Q : Sp) : Nat := Q.1
def qS (Q : Sp) : Nat → Nat := Q.2.1
def qW (Q : Sp) : Nat → Nat := Q.2.2.1
def qO (Q : Sp) : Nat → Nat := Q.2.2.2
def RQ (f G : Nat → Nat → Int32) (p : Nat) (Q : Sp) : Prop := f p 7 = nI (qN Q) ∧ (∀ i, i < qN Q → G (p + 7) i = nI (qS Q i) ∧ G (p + 8) i = nI (qW Q i) ∧ G (p + 9) i = nI (qO Q i))
def wfQ (P : Pn) (Q : Sp) : Prop := qN Q ≤ 40 ∧ (∀ i, i < qN Q → 1 ≤ qS Q i ∧ qS Q i ≤ 200 ∧ qW Q i < pPe P ∧ qO Q i < 14)
variable {Q : Sp}
theorem RQ_fp (h : FP f G J f1 G1 J1) (hq : RQ f G 3 Q) : RQ f1 G1 3 Q := by
  obtain ⟨h1, h2, -⟩ := h
  have e1 : ∀ i, i < 13 → ∀ k, G1 i k = G i k := fun i hi k => h2 i k (by omega) (by omega) (by omega) (by omega) (by omega) (by omega) (by omega)
  unfold RQ at hq ⊢
  simp only [h1 3 7 (by decide) (by decide) (by decide), e1 (3 + 7) (by omega), e1 (3 + 8) (by omega), e1 (3 + 9) (by omega)]
  exact hq
theorem wk_succ : ∀ n D, wkD P B L (n + 1) D = stD P B L (wkD P B L n D) := by
  intro n
  induction n with
  | zero => intro D; rfl
  | succ n ih =>
    intro D
    show wkD P B L (n + 1) (stD P B L D) = _
    rw [ih]
    rfl
def badQ (P : Pn) (B : Nat → Nat) (L : Lw) (D : Dy) (Q : Sp) (i : Nat) : Bool := !decide (stF P B L (wkD P B L (qS Q i - 1) D) (qW Q i) = some (qO Q i))
/-- the first wrong spoor of those up to a step -/
def JC (P : Pn) (B : Nat → Nat) (L : Lw) (D : Dy) (Q : Sp) (t x : Nat) : Prop := x ≤ qN Q ∧ (∀ i, i < x → ¬ (qS Q i ≤ t ∧ badQ P B L D Q i = true)) ∧ (x < qN Q → qS Q x ≤ t ∧ badQ P B L D Q x = true)
theorem JC_uniq {t x y : Nat} (hx : JC P B L D Q t x) (hy : JC P B L D Q t y) : x = y := by
  rcases Nat.lt_trichotomy x y with h | h | h
  · exact absurd (hx.2.2 (by have := hy.1; omega)) (hy.2.1 x h)
  · exact h
  · exact absurd (hy.2.2 (by have := hx.1; omega)) (hx.2.1 y h)
def mxQ (Q : Sp) : Nat → Nat
  | 0 => 0
  | k + 1 => if mxQ Q k < qS Q k then qS Q k else mxQ Q k
theorem mx_ge {k : Nat} : ∀ i, i < k → qS Q i ≤ mxQ Q k := by
  induction k with
  | zero => intro i hi; omega
  | succ k ih =>
    intro i hi
    simp only [mxQ]
    by_cases e : i = k
    · subst e; split <;> omega
    · have := ih i (by omega)
      split <;> omega
theorem mx_le (hQ : wfQ P Q) {k : Nat} (hk : k ≤ qN Q) : mxQ Q k ≤ 200 := by
  induction k with
  | zero => exact Nat.zero_le _
  | succ k ih =>
    have h1 := ih (by omega)
    have h2 := (hQ.2 k (by omega)).2.1
    simp only [mxQ]
    split <;> omega
def jgI (Q : Sp) (x : Nat) : Int32 := if qN Q ≤ x then -2 else nI x
theorem stF_lt {t w v : Nat} (h : stF P B L (wkD P B L t D) w = some v) : v < 14 := (fol_some h).1
theorem w48 (hP : wfP P) (hs : RS f G 3 P) {w o : Nat} {fo : Option Nat} (hw : w < pPe P) (h58 : G 58 w = oI fo) (hfo : ∀ v, fo = some v → v < 14) (ho : o < 14) {T : Int32 → aH → Prop} : vI scr (d + 1) 48 [.ref 59, .int (nI w), .int (nI o)] (wo f G J c) T = T (bz (decide (fo = some o))) (wo f G J c) := by
  have p12 := hP.2.2.2.1
  unfold vI
  rw [u48_ok, en48, b48_0]
  simp only [pLr scr, true_and]
  rw [w53 isS3 hP hs (by omega)]
  have hi := oI_inj (o := fo) (o' := some o) (fun a ha => by have := hfo a ha; omega) (fun a ha => by cases ha; omega)
  have hi' : (oI fo = nI o) = (fo = some o) := hi
  simp (disch := omega) only [hw, decide_true, bz_t, show ¬ ((1 : Int32) = 0) by decide, if_false, pLr scr, wK scr, h58, hi', ex_i]
  by_cases h : fo = some o
  · simp [h, bz]
  · simp [h, bz]
theorem jin_loop (hP : wfP P) (hQ : wfQ P Q) {l1 : Nat} {l2 : Int32} {t x0 : Nat} (ht : 1 ≤ t) (ht2 : t < 2 ^ 20) (hx0 : JC P B L D Q (t - 1) x0) (hs : RS f G 3 P) (hq : RQ f G 3 Q) (h58 : ∀ w, w < pPe P → G 58 w = oI (stF P B L (wkD P B L (t - 1) D) w)) {K : Option Value → aH → Prop} (hK : ∀ x (l5 : Int32), JC P B L D Q t x → E scr false (d + 2) 47 157 [.ref 59, .ref l1, .int l2, .int (nI x), .int (nI t), .int l5] [] (wo f G J c) K) : ∀ m i, x0 - i = m → i ≤ x0 → (∀ j, j < i → ¬ (qS Q j = t ∧ badQ P B L D Q j = true)) → E scr false (d + 2) 47 93 [.ref 59, .ref l1, .int l2, .int (nI x0), .int (nI t), .int (nI i)] [] (wo f G J c) K := by
  have x40 := hx0.1
  have q40 := hQ.1
  intro m
  induction m with
  | zero =>
    intro i hm hi hn
    have e : i = x0 := by omega
    subst e
    rw [b47_93]
    simp (disch := omega) only [NC, Nat.le_refl, if_true]
    apply hK
    refine ⟨hx0.1, ?_, ?_⟩
    · intro j hj h
      by_cases e : qS Q j = t
      · exact hn j hj ⟨e, h.2⟩
      · exact hx0.2.1 j hj ⟨by omega, h.2⟩
    · intro h
      have := hx0.2.2 h
      exact ⟨by omega, this.2⟩
  | succ m ih =>
    intro i hm hi hn
    have hi' : i < qN Q := by omega
    obtain ⟨g1, g2, g3⟩ := hq.2 i hi'
    obtain ⟨w1, w2, w3, w4⟩ := hQ.2 i hi'
    have next : ¬ (qS Q i = t ∧ badQ P B L D Q i = true) → E scr false (d + 2) 47 151 [.ref 59, .ref l1, .int l2, .int (nI x0), .int (nI t), .int (nI i)] [] (wo f G J c) K := by
      intro h
      rw [b47_151, nI_1]
      apply ih (i + 1) (by omega) (by omega)
      intro j hj
      by_cases e : j = i
      · rw [e]; exact h
      · exact hn j (by omega)
    rw [b47_93]
    simp (disch := omega) only [NC, LI, show ¬ x0 ≤ i by omega, show ¬ 40 ≤ i by omega, if_false, pLr scr, sC scr isS3, g1, g2, g3]
    by_cases hst : qS Q i = t
    · simp only [hst, if_true]
      rw [w48 hP hs w3 (h58 _ w3) (fun v hv => stF_lt hv) w4]
      by_cases hf : stF P B L (wkD P B L (t - 1) D) (qW Q i) = some (qO Q i)
      · rw [decide_eq_true hf]
        simp only [bz_t, show ¬ ((1 : Int32) = 0) by decide, if_false]
        apply next
        rintro ⟨-, hb⟩
        unfold badQ at hb
        rw [hst] at hb
        simp [hf] at hb
      · rw [decide_eq_false hf]
        simp only [bz_f, if_true]
        have hb : badQ P B L D Q i = true := by
          unfold badQ
          rw [hst]
          simp [hf]
        rw [b47_151, nI_1, b47_93]
        simp (disch := omega) only [NC, show i ≤ i + 1 by omega, if_true]
        apply hK
        refine ⟨by omega, ?_, fun _ => ⟨by omega, hb⟩⟩
        intro j hj h
        by_cases e : qS Q j = t
        · exact hn j hj ⟨e, h.2⟩
        · exact hx0.2.1 j (by omega) ⟨by omega, h.2⟩
    · simp only [hst, if_false]
      exact next (fun h => hst h.1)
theorem jg_loop {last : Nat} (hq' : isLw q) (hP : wfP P) (hL : wfLw L) (hQ : wfQ P Q) (hw : wfS P D) (hlast : last ≤ 200) {K : Option Value → aH → Prop} : ∀ m t, last + 1 - t = m → 1 ≤ t → t ≤ last + 1 → ∀ f G J x, KC f G J q P B L D → RQ f G 3 Q → RS f G 60 P → RD f G 60 (wkD P B L (t - 1) D) → JC P B L D Q (t - 1) x → (∀ f' G' J' x, FP f G J f' G' J' → KC f' G' J' q P B L D → RQ f' G' 3 Q → JC P B L D Q last x → ∀ (l4 : Int32) (l5 : Value), E scr false (d + 5) 47 163 [.ref 59, .ref q, .int (nI last), .int (nI x), .int l4, l5] [] (wo f' G' J' c) K) → ∀ l5 : Value, E scr false (d + 5) 47 63 [.ref 59, .ref q, .int (nI last), .int (nI x), .int (nI t), l5] [] (wo f G J c) K := by
  intro m
  induction m with
  | zero =>
    intro t hm h1 h2 f G J x hk hq hs hd hx hK l5
    rw [b47_63]
    simp (disch := omega) only [NC, show last < t by omega, if_true]
    exact hK f G J x FP_rf hk hq (by rw [show last = t - 1 by omega]; exact hx) _ _
  | succ m ih =>
    intro t hm h1 h2 f G J x hk hq hs hd hx hK l5
    rw [b47_63]
    simp (disch := omega) only [NC, LI, show ¬ last < t by omega, show ¬ 200 < t by omega, if_false, pLr scr]
    apply w79 isS60 hq' hP hL (wfS_wk hP (t - 1) D hw).1 hd (KC_x hk hs)
    intro f1 G1 J1 hd1 hc1 hfr1 _ h58
    have fp1 : FP f G J f1 G1 J1 := FP_60 hfr1
    have hk1 : KC f1 G1 J1 q P B L D := KC_fp hq' fp1 hc1 (TG_fr isS60 hfr1 hk.2.2.2.1) hk
    have hq1 := RQ_fp fp1 hq
    have hs1 := RS_fr isS60 hfr1 hs
    rw [show (0 : Int32) = nI 0 from rfl]
    refine jin_loop (B := B) (L := L) (D := D) hP hQ h1 (by omega) hx hk1.1 hq1 h58 ?_ x 0 rfl (by omega) (fun j hj => by omega)
    intro x' l5' hx'
    rw [b47_157, nI_1]
    apply ih (t + 1) (by omega) (by omega) (by omega) f1 G1 J1 x' hk1 hq1 hs1 _ _ _
    · rw [show t + 1 - 1 = (t - 1) + 1 by omega, wk_succ]
      exact hd1
    · rw [show t + 1 - 1 = t by omega]; exact hx'
    · intro f2 G2 J2 y fp2 hk2 hq2 hy
      exact hK f2 G2 J2 y (FP_tr fp1 fp2) hk2 hq2 hy
theorem jmx_loop (hQ : wfQ P Q) (hq : RQ f G 3 Q) {l1 : Nat} {K : Option Value → aH → Prop} : ∀ m k, qN Q - k = m → k ≤ qN Q → E scr false (d + 1) 47 4 [.ref 59, .ref l1, .int (nI (mxQ Q k)), .int (nI k), .null, .null] [] (wo f G J c) K = E scr false (d + 1) 47 41 [.ref 59, .ref l1, .int (nI (mxQ Q (qN Q))), .int (nI (qN Q)), .null, .null] [] (wo f G J c) K := by
  have q40 := hQ.1
  intro m
  induction m with
  | zero =>
    intro k hm hk
    have e : k = qN Q := by omega
    subst e
    rw [b47_4]
    simp (disch := omega) only [pLr scr, sC scr isS3, hq.1, NC, Nat.le_refl, if_true]
  | succ m ih =>
    intro k hm hk
    obtain ⟨g1, -, -⟩ := hq.2 k (by omega)
    have h1 := mx_le hQ (show k ≤ qN Q by omega)
    have h2 := (hQ.2 k (by omega)).2.1
    rw [b47_4]
    simp (disch := omega) only [pLr scr, sC scr isS3, hq.1, NC, LI, show ¬ qN Q ≤ k by omega, show ¬ 40 ≤ k by omega, if_false, g1, sp225, nI_1]
    rw [← ih (k + 1) (by omega) (by omega)]
    have : (if mxQ Q k < qS Q k then nI (qS Q k) else nI (mxQ Q k)) = nI (mxQ Q (k + 1)) := by
      simp only [mxQ]
      split <;> rfl
    rw [this]
theorem w47 (hq' : isLw q) (hP : wfP P) (hL : wfLw L) (hQ : wfQ P Q) (hw : wfS P D) (hk : KC f G J q P B L D) (hq : RQ f G 3 Q) {T : Int32 → aH → Prop} (hT : ∀ f' G' J' x, FP f G J f' G' J' → KC f' G' J' q P B L D → JC P B L D Q (mxQ Q (qN Q)) x → T (jgI Q x) (wo f' G' J' c)) : vI scr (d + 5) 47 [.ref 59, .ref q] (wo f G J c) T := by
  have q40 := hQ.1
  unfold vI
  rw [u47_ok, en47, b47_0]
  refine ⟨rfl, ?_⟩
  have := jmx_loop (scr := scr) (f := f) (G := G) (J := J) (c := c) (d := d + 4) hQ hq (l1 := q) (K := fun r h => ∃ x, r = some (Value.int x) ∧ T x h) (qN Q) 0 rfl (by omega)
  have e0 : E scr false (d + 5) 47 4 [.ref 59, .ref q, .int 0, .int 0, .null, .null] [] (wo f G J c) (fun r h => ∃ x, r = some (Value.int x) ∧ T x h) = E scr false (d + 4 + 1) 47 4 [.ref 59, .ref q, .int (nI (mxQ Q 0)), .int (nI 0), .null, .null] [] (wo f G J c) (fun r h => ∃ x, r = some (Value.int x) ∧ T x h) := rfl
  rw [e0, this, b47_41]
  simp only [pLr scr]
  apply cpT hq' hk
  intro f1 G1 hs1 hd1 fp1 hk1 _ _
  have hq1 := RQ_fp fp1 hq
  simp only [pLr scr, sC scr isS3, hq1.1]
  rw [show (1 : Int32) = nI 1 from rfl]
  apply jg_loop hq' hP hL hQ hw (mx_le hQ (Nat.le_refl _)) (mxQ Q (qN Q)) 1 (by omega) (by omega) (by omega) f1 G1 J (qN Q) hk1 hq1 hs1 hd1
  · refine ⟨Nat.le_refl _, ?_, fun h => by omega⟩
    intro i hi h
    have := (hQ.2 i hi).1
    omega
  · intro f2 G2 J2 x fp2 hk2 hq2 hx l4 l5
    have := hT f2 G2 J2 x (FP_tr fp1 fp2) hk2 hx
    have hx1 := hx.1
    unfold jgI at this
    rw [b47_163]
    simp (disch := omega) only [pLr scr, sC scr isS3, hq2.1, NC]
    by_cases h : qN Q ≤ x
    · rw [if_pos h] at this ⊢; exact ⟨_, rfl, this⟩
    · rw [if_neg h] at this ⊢; exact ⟨_, rfl, this⟩
end PE
