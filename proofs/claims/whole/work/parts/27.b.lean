variable {scr : List Int32}
-- ===== situations kept and found =====
section RO
variable {f G f' G' f1 G1 f2 G2 : Nat → Nat → Int32} {J J' J1 J2 : Nat → Nat → Int64} {c : Value} {d p q : Nat} {P : Pn} {D : Dy} {B : Nat → Nat} {L : Lw}
def aP (pl : Nat → Option Nat) : Nat → Nat := fun w => at1 (pl w)
theorem aP_lt {pl : Nat → Option Nat} (h : ∀ w r, pl w = some r → r < 144) (i : Nat) : aP pl i < 256 := by
  unfold aP at1
  cases e : pl i with
  | none => decide
  | some r =>
    have := h i r e
    show r + 1 < 256
    omega
theorem nm_64 {a : Nat → Nat} (ha : ∀ i, a i < 256) {s k : Nat} (hk : k ≤ 8) : nmF a s k < 2 ^ 64 := by
  have h1 := nm_lt ha (s := s) k
  have h2 : 256 ^ k ≤ 256 ^ 8 := Nat.pow_le_pow_right (by decide) hk
  have h3 : (256 : Nat) ^ 8 = 2 ^ 64 := by decide
  omega
def ksJ (J : Nat → Nat → Int64) (i : Nat) (pl : Nat → Option Nat) : Nat → Nat → Int64 := upJ (upJ J 80 i (lgN (nmF (aP pl) 0 8))) 81 i (lgN (nmF (aP pl) 8 4))
theorem kp_loop {i : Nat} (hi : i ≤ 400) {pl : Nat → Option Nat} (h63 : ∀ w, w < 12 → G 63 w = oI (pl w)) (hlt : ∀ w r, pl w = some r → r < 144) {K : Option Value → aH → Prop} : ∀ m k, 12 - k = m → k ≤ 12 → ∀ l7 : Value, E scr false d 29 8 [.ref 59, .int (nI i), .long (lgN (nmF (aP pl) 0 (if k ≤ 8 then k else 8))), .null, .long (lgN (nmF (aP pl) 8 (k - 8))), .null, .int (nI k), l7, .null] [] (wo f G J c) K = K none (wo f G (ksJ J i pl) c) := by
  have ha := aP_lt hlt
  intro m
  induction m with
  | zero =>
    intro k hm hk l7
    have e : k = 12 := by omega
    subst e
    rw [b29_8]
    simp (disch := omega) only [show (12 : Int32) = nI 12 from rfl, show (400 : Int32) = nI 400 from rfl, NC, Nat.le_refl, if_true, if_false, show ¬ 400 < i by omega, pLr scr]
    rfl
  | succ m ih =>
    intro k hm hk l7
    have e1 := h63 k (by omega)
    have hb : at1 (pl k) < 256 := ha k
    rw [b29_8]
    simp (disch := omega) only [show (12 : Int32) = nI 12 from rfl, NC, show ¬ 12 ≤ k by omega, if_false, pLr scr, sC scr isS60, show (60 + 3 : Nat) = 63 from rfl, e1, oI_1]
    rw [toI64_nI _ hb]
    by_cases h8 : 8 ≤ k
    · have hs := sh8 (n := nmF (aP pl) 8 (k - 8)) (b := at1 (pl k)) hb (by
        have := nm_64 ha (s := 8) (k := k - 8 + 1) (by omega)
        simp only [nmF] at this
        rw [show 8 + (k - 8) = k by omega] at this
        exact this)
      rw [if_pos (show (8 : Int32) ≤ nI k from nI_le (a := 8) h8 (by omega)), hs, b29_58, nI_1, ← ih (k + 1) (by omega) (by omega) (.long (lgN (at1 (pl k))))]
      have e2 : nmF (aP pl) 8 (k + 1 - 8) = 256 * nmF (aP pl) 8 (k - 8) + at1 (pl k) := by
        rw [show k + 1 - 8 = (k - 8) + 1 by omega]
        simp only [nmF]
        rw [show 8 + (k - 8) = k by omega]
        rfl
      rw [e2, if_neg (show ¬ k + 1 ≤ 8 by omega)]
      by_cases e8 : k = 8
      · subst e8; rfl
      · rw [if_neg (show ¬ k ≤ 8 by omega)]
    · have hs := sh8 (n := nmF (aP pl) 0 k) (b := at1 (pl k)) hb (by
        have := nm_64 ha (s := 0) (k := k + 1) (by omega)
        simp only [nmF, Nat.zero_add] at this
        exact this)
      rw [if_pos (show k ≤ 8 by omega)]
      rw [if_neg (show ¬ (8 : Int32) ≤ nI k from fun h => h8 ((nI_leI (a := 8) (by decide) (by omega)).mp h)), hs, b29_58, nI_1, ← ih (k + 1) (by omega) (by omega) (.long (lgN (at1 (pl k))))]
      have e2 : nmF (aP pl) 0 (k + 1) = 256 * nmF (aP pl) 0 k + at1 (pl k) := by
        simp only [nmF, Nat.zero_add]
        rfl
      rw [if_pos (show k + 1 ≤ 8 by omega), e2, show k + 1 - 8 = 0 by omega, show k - 8 = 0 by omega]
theorem w29 {i : Nat} (hi : i ≤ 400) {pl : Nat → Option Nat} (h63 : ∀ w, w < 12 → G 63 w = oI (pl w)) (hlt : ∀ w r, pl w = some r → r < 144) {T : aH → Prop} : vV scr d 29 [.ref 59, .int (nI i)] (wo f G J c) T = T (wo f G (ksJ J i pl) c) := by
  unfold vV
  rw [u29_ok, en29, b29_0]
  have := kp_loop (scr := scr) (f := f) (G := G) (J := J) (c := c) (d := d) hi h63 hlt (K := fun r h => r = none ∧ T h) 12 0 rfl (by omega) .null
  simp only [true_and]
  refine Eq.trans this ?_
  simp only [true_and]
def eqB (a b : Nat → Option Nat) : Bool := (List.range 12).all (fun w => decide (a w = b w))
theorem eqB_iff {a b : Nat → Option Nat} : eqB a b = true ↔ ∀ w, w < 12 → a w = b w := by
  unfold eqB
  rw [List.all_eq_true]
  constructor
  · intro h w hw
    simpa using h w (List.mem_range.mpr hw)
  · intro h w hw
    simpa using h w (List.mem_range.mp hw)
theorem pks_eq {a b : Nat → Option Nat} (ha : ∀ w r, a w = some r → r < 144) (hb : ∀ w r, b w = some r → r < 144) : (lgN (nmF (aP a) 0 8) = lgN (nmF (aP b) 0 8) ∧ lgN (nmF (aP a) 8 4) = lgN (nmF (aP b) 8 4)) ↔ eqB a b = true := by
  have a1 := aP_lt ha
  have b1 := aP_lt hb
  rw [eqB_iff]
  constructor
  · rintro ⟨h1, h2⟩ w hw
    have e1 := nm_inj a1 b1 8 (lgN_inj (nm_64 a1 (by omega)) (nm_64 b1 (by omega)) h1)
    have e2 := nm_inj a1 b1 4 (lgN_inj (nm_64 a1 (by omega)) (nm_64 b1 (by omega)) h2)
    apply at1_inj
    by_cases h8 : w < 8
    · have := e1 w h8
      rw [Nat.zero_add] at this
      exact this
    · have := e2 (w - 8) (by omega)
      rw [show 8 + (w - 8) = w by omega] at this
      exact this
  · intro h
    refine ⟨congrArg lgN (nm_congr 8 (fun i hi => ?_)), congrArg lgN (nm_congr 4 (fun i hi => ?_))⟩
    · unfold aP; rw [h (0 + i) (by omega)]
    · unfold aP; rw [h (8 + i) (by omega)]
def fbA (e : Nat → Bool) : Nat → Option Nat
  | 0 => none
  | k + 1 => if e k = true then some k else fbA e k
def KS (J : Nat → Nat → Int64) (S : Nat → Nat → Option Nat) (i : Nat) : Prop := ∀ k, k ≤ i → J 80 k = lgN (nmF (aP (S k)) 0 8) ∧ J 81 k = lgN (nmF (aP (S k)) 8 4)
theorem fb_loop {S : Nat → Nat → Option Nat} (hS : ∀ k w r, S k w = some r → r < 144) {i : Nat} (hi : i ≤ 400) (hk : KS J S i) {K : Option Value → aH → Prop} : ∀ k, k ≤ i → E scr false d 30 10 [.ref 59, .int (nI i), .int (nI k - 1)] [] (wo f G J c) K = K (some (.int (oI (fbA (fun e => eqB (S e) (S i)) k)))) (wo f G J c) := by
  intro k
  induction k with
  | zero =>
    intro _
    rw [b30_10, show nI 0 - 1 = -1 by decide]
    simp only [neg1_lt, if_true, fbA, oI_n]
  | succ k ih =>
    intro hki
    obtain ⟨x1, x2⟩ := hk k (by omega)
    obtain ⟨y1, y2⟩ := hk i (Nat.le_refl _)
    have pe := pks_eq (hS k) (hS i)
    rw [b30_10, nI_s1 (by omega), Nat.add_sub_cancel]
    simp (disch := omega) only [NC, if_false, pLr scr, x1, x2, y1, y2, cmp_eq]
    have e30 : nI k + (-1) = nI k - 1 := by rw [Int32.sub_eq_add_neg]
    by_cases he : eqB (S k) (S i) = true
    · obtain ⟨h1, h2⟩ := pe.mpr he
      rw [if_pos h1, if_pos h2]
      simp only [fbA, he, if_true, oI_s]
    · have en : fbA (fun e => eqB (S e) (S i)) (k + 1) = fbA (fun e => eqB (S e) (S i)) k := by
        simp only [fbA]
        rw [if_neg he]
      rw [en, ← ih (by omega)]
      by_cases h1 : lgN (nmF (aP (S k)) 0 8) = lgN (nmF (aP (S i)) 0 8)
      · have h2 : ¬ lgN (nmF (aP (S k)) 8 4) = lgN (nmF (aP (S i)) 8 4) := fun h2 => he (pe.mp ⟨h1, h2⟩)
        rw [if_pos h1, if_neg h2, b30_48, e30]
      · rw [if_neg h1, b30_48, e30]
theorem w30 {S : Nat → Nat → Option Nat} (hS : ∀ k w r, S k w = some r → r < 144) {i : Nat} (hi : i ≤ 400) (hk : KS J S i) {T : Int32 → aH → Prop} : vI scr (d + 1) 30 [.ref 59, .int (nI i)] (wo f G J c) T = T (oI (fbA (fun e => eqB (S e) (S i)) i)) (wo f G J c) := by
  unfold vI
  rw [u30_ok, en30, b30_0]
  have e4 : (if (400 : Int32) < nI i then (400 : Int32) else nI i) = nI i := by
    rw [if_neg]
    rw [show (400 : Int32) = nI 400 from rfl, nI_ltI (by omega) (by omega)]
    omega
  simp only [sp226, e4, true_and]
  refine Eq.trans (fb_loop (scr := scr) (f := f) (G := G) (J := J) (c := c) (d := d + 1) hS hi hk (K := fun r h => ∃ x, r = some (Value.int x) ∧ T x h) i (Nat.le_refl _)) ?_
  simp only [ex_i]
/-- what round answers -/
def RA (S : Nat → Nat → Option Nat) (what : Nat) (ans : Int32) : Prop := (∃ t e, 1 ≤ t ∧ t ≤ 400 ∧ e < t ∧ eqB (S e) (S t) = true ∧ (∀ u v, u < t → v < u → eqB (S v) (S u) = false) ∧ ans = if what = 0 then nI e else nI (t - e)) ∨ ((∀ u v, u ≤ 400 → v < u → eqB (S v) (S u) = false) ∧ ans = -2)
theorem eqB_tr {a b e : Nat → Option Nat} (h1 : eqB a e = true) (h2 : eqB b e = true) : eqB a b = true := by
  rw [eqB_iff] at h1 h2 ⊢
  intro w hw
  rw [h1 w hw, h2 w hw]
theorem RA_uniq {S : Nat → Nat → Option Nat} {what : Nat} {x y : Int32} (hx : RA S what x) (hy : RA S what y) : x = y := by
  rcases hx with ⟨t, e, a1, a2, a3, a4, a5, a6⟩ | ⟨a1, a2⟩
  · rcases hy with ⟨t', e', b1, b2, b3, b4, b5, b6⟩ | ⟨b1, b2⟩
    · have et : t = t' := by
        rcases Nat.lt_trichotomy t t' with h | h | h
        · have := b5 t e h a3; rw [a4] at this; cases this
        · exact h
        · have := a5 t' e' h b3; rw [b4] at this; cases this
      subst et
      have ee : e = e' := by
        rcases Nat.lt_trichotomy e e' with h | h | h
        · have := a5 e' e b3 h; rw [eqB_tr a4 b4] at this; cases this
        · exact h
        · have := a5 e e' a3 h; rw [eqB_tr b4 a4] at this; cases this
      rw [a6, b6, ee]
    · have := b1 t e a2 a3; rw [a4] at this; cases this
  · rcases hy with ⟨t', e', b1, b2, b3, b4, b5, b6⟩ | ⟨b1, b2⟩
    · have := a1 t' e' b2 b3; rw [b4] at this; cases this
    · rw [a2, b2]
theorem fb_some {e : Nat → Bool} : ∀ k x, fbA e k = some x → x < k ∧ e x = true := by
  intro k
  induction k with
  | zero => intro x h; cases h
  | succ k ih =>
    intro x h
    simp only [fbA] at h
    by_cases he : e k = true
    · rw [if_pos he] at h; cases h; exact ⟨by omega, he⟩
    · rw [if_neg he] at h
      have := ih x h
      exact ⟨by omega, this.2⟩
theorem fb_none {e : Nat → Bool} : ∀ k, fbA e k = none → ∀ x, x < k → e x = false := by
  intro k
  induction k with
  | zero => intro _ x hx; omega
  | succ k ih =>
    intro h x hx
    simp only [fbA] at h
    by_cases he : e k = true
    · rw [if_pos he] at h; cases h
    · rw [if_neg he] at h
      by_cases ex : x = k
      · subst ex; simpa using he
      · exact ih h x (by omega)
theorem ks_next {S : Nat → Nat → Option Nat} {i : Nat} (h : ∀ k, k < i → J 80 k = lgN (nmF (aP (S k)) 0 8) ∧ J 81 k = lgN (nmF (aP (S k)) 8 4)) : KS (ksJ J i (S i)) S i := by
  intro k hk
  unfold ksJ
  rw [upJ_q (show 80 ≠ 81 by decide), upJ_a, upJ_a, upJ_q (show 81 ≠ 80 by decide)]
  by_cases e : k = i
  · subst e; simp
  · rw [if_neg e, if_neg e]; exact h k (by omega)
theorem ks_fr {i : Nat} {pl : Nat → Option Nat} : ∀ r k, r ≠ 80 → r ≠ 81 → ksJ J i pl r k = J r k := by
  intro r k h1 h2
  unfold ksJ
  rw [upJ_q h2, upJ_q h1]
theorem rnd_loop {what : Nat} (hq : isLw q) (hP : wfP P) (hL : wfLw L) (hw : wfS P D) (hwh : what < 2) {K : Option Value → aH → Prop} : ∀ m i, 401 - i = m → 1 ≤ i → i ≤ 401 → ∀ f G J, KC f G J q P B L D → RS f G 60 P → RD f G 60 (wkD P B L (i - 1) D) → (∀ k, k < i → J 80 k = lgN (nmF (aP (dPl (wkD P B L k D))) 0 8) ∧ J 81 k = lgN (nmF (aP (dPl (wkD P B L k D))) 8 4)) → (∀ u v, u < i → v < u → eqB (dPl (wkD P B L v D)) (dPl (wkD P B L u D)) = false) → (∀ f' G' J' ans, FP f G J f' G' J' → KC f' G' J' q P B L D → RA (fun k => dPl (wkD P B L k D)) what ans → K (some (.int ans)) (wo f' G' J' c)) → ∀ l4 : Value, E scr false (d + 4) 28 18 [.ref 59, .ref q, .int (nI what), .int (nI i), l4] [] (wo f G J c) K := by
  have hS : ∀ k w r, dPl (wkD P B L k D) w = some r → r < 144 := fun k w r h => (wfL_lt hP (wfS_wk hP k D hw).1.1 h).2.1
  intro m
  induction m with
  | zero =>
    intro i hm h1 h2 f G J hk hs hd hks hno hK l4
    rw [b28_18]
    simp (disch := omega) only [show (400 : Int32) = nI 400 from rfl, NC, show 400 < i by omega, if_true]
    exact hK f G J _ FP_rf hk (Or.inr ⟨fun u v hu hv => hno u v (by omega) hv, rfl⟩)
  | succ m ih =>
    intro i hm h1 h2 f G J hk hs hd hks hno hK l4
    rw [b28_18]
    simp (disch := omega) only [show (400 : Int32) = nI 400 from rfl, NC, show ¬ 400 < i by omega, if_false, pLr scr]
    apply w79 isS60 hq hP hL (wfS_wk hP (i - 1) D hw).1 hd (KC_x hk hs)
    intro f1 G1 J1 hd1 hc1 hfr1 _ _
    rw [← wk_succ, show i - 1 + 1 = i by omega] at hd1
    rw [w29 (pl := dPl (wkD P B L i D)) (by omega) (fun w hw' => hd1.2.2.2.1 w (by omega)) (hS i)]
    have hks1 : ∀ k, k < i → J1 80 k = lgN (nmF (aP (dPl (wkD P B L k D))) 0 8) ∧ J1 81 k = lgN (nmF (aP (dPl (wkD P B L k D))) 8 4) := fun k hki => by
      rw [hfr1.2.2 80 k (by decide) (by decide) (by decide), hfr1.2.2 81 k (by decide) (by decide) (by decide)]
      exact hks k hki
    have KS1 := ks_next (J := J1) (S := fun k => dPl (wkD P B L k D)) (i := i) hks1
    have fp1 : FP f G J f1 G1 (ksJ J1 i (dPl (wkD P B L i D))) := FP_tr (FP_60 hfr1) ⟨fun _ _ _ _ _ => rfl, fun _ _ _ _ _ _ _ _ _ => rfl, fun r k _ _ _ a b => ks_fr r k a b⟩
    have hc2 : CK (ksJ J1 i (dPl (wkD P B L i D))) P := by
      intro a b ha hb hab
      rw [ks_fr 54 _ (by decide) (by decide), ks_fr 53 _ (by decide) (by decide)]
      exact hc1 a b ha hb hab
    have hk1 : KC f1 G1 (ksJ J1 i (dPl (wkD P B L i D))) q P B L D := KC_fp hq fp1 hc2 (TG_fr isS60 hfr1 hk.2.2.2.1) hk
    rw [w30 (S := fun k => dPl (wkD P B L k D)) hS (by omega) KS1]
    cases hfb : fbA (fun e => eqB (dPl (wkD P B L e D)) (dPl (wkD P B L i D))) i with
    | none =>
      simp only [oI_n, neg1_lt, if_true, nI_1]
      have hno2 := fb_none i hfb
      apply ih (i + 1) (by omega) (by omega) (by omega) f1 G1 _ hk1 (RS_fr isS60 hfr1 hs) _ _ _ _
      · rw [show i + 1 - 1 = i by omega]; exact hd1
      · intro k hki; exact KS1 k (by omega)
      · intro u v hu hv
        by_cases e : u = i
        · subst e; exact hno2 v hv
        · exact hno u v (by omega) hv
      · intro f2 G2 J2 ans fp2 hk2 hra
        exact hK f2 G2 J2 ans (FP_tr fp1 fp2) hk2 hra
    | some x =>
      obtain ⟨hx, hxe⟩ := fb_some i x hfb
      have hra : RA (fun k => dPl (wkD P B L k D)) what (if what = 0 then nI x else nI (i - x)) := Or.inl ⟨i, x, h1, by omega, hx, hxe, hno, rfl⟩
      have fin := hK f1 G1 _ _ fp1 hk1 hra
      simp (disch := omega) only [oI_s, NC, if_false]
      by_cases h0 : what = 0
      · rw [if_pos h0] at fin ⊢; exact fin
      · rw [if_neg h0] at fin ⊢
        rw [pk_sub (by omega)]
        exact fin
theorem w28 {what : Nat} (hq : isLw q) (hP : wfP P) (hL : wfLw L) (hw : wfS P D) (hk : KC f G J q P B L D) (hwh : what < 2) {T : Int32 → aH → Prop} (hT : ∀ f' G' J' ans, FP f G J f' G' J' → KC f' G' J' q P B L D → RA (fun k => dPl (wkD P B L k D)) what ans → T ans (wo f' G' J' c)) : vI scr (d + 4) 28 [.ref 59, .ref q, .int (nI what)] (wo f G J c) T := by
  unfold vI
  rw [u28_ok, en28, b28_0]
  simp only [pLr scr, true_and]
  apply cpT hq hk
  intro f1 G1 hs1 hd1 fp1 hk1 _ _
  rw [show (0 : Int32) = nI 0 from rfl, w29 (pl := dPl D) (by omega) (fun w hw' => hd1.2.2.2.1 w (by omega)) (fun w r h => (wfL_lt hP hw.1 h).2.1)]
  have fp2 : FP f1 G1 J f1 G1 (ksJ J 0 (dPl D)) := ⟨fun _ _ _ _ _ => rfl, fun _ _ _ _ _ _ _ _ _ => rfl, fun r k _ _ _ a b => ks_fr r k a b⟩
  have hc2 : CK (ksJ J 0 (dPl D)) P := by
    intro a b ha hb hab
    rw [ks_fr 54 _ (by decide) (by decide), ks_fr 53 _ (by decide) (by decide)]
    exact hk1.2.2.1 a b ha hb hab
  have hk2 : KC f1 G1 (ksJ J 0 (dPl D)) q P B L D := KC_fp hq fp2 hc2 hk1.2.2.2.1 hk1
  have KS0 := ks_next (J := J) (S := fun k => dPl (wkD P B L k D)) (i := 0) (fun k hk => by omega)
  rw [show (1 : Int32) = nI 1 from rfl]
  apply rnd_loop hq hP hL hw hwh 400 1 (by omega) (by omega) (by omega) f1 G1 _ hk2 hs1 hd1
  · intro k hk; exact KS0 k (by omega)
  · intro u v hu hv; omega
  · intro f3 G3 J3 ans fp3 hk3 hra
    exact ⟨_, rfl, hT f3 G3 J3 ans (FP_tr fp1 (FP_tr fp2 fp3)) hk3 hra⟩
end RO
