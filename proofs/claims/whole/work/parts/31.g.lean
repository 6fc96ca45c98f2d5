variable {scr : List Int32}
-- ===== the law, read by the class: clauses, the call =====
section LW7
variable {f G f' G' : Nat → Nat → Int32} {J J' : Nat → Nat → Int64} {c : Value} {d : Nat} {T : Tp} {p q : Nat} {s : Ls} {L : Lq} {S : Sn} {Z : Lz} {I : Im}
theorem k72_1 (hT : TX T) (h : TC f G T p) (hp : p ≤ T.1) {K : Int32 → aH → Prop} : vI scr (d + 5) 72 [.ref 1, .ref 20001] (wo f G J c) K = if isW T (sk T p) (stx 10) = true then K 0 (wo (pS f (sk T p + 5)) G J c) else if isW T (sk T p) (stx 9) = true then K 1 (wo (pS f (sk T p + 6)) G J c) else K (-1) (wo (pS f (sk T p)) G J c) := by
  have := w72 (scr := scr) (J := J) (c := c) (d := d) (K := K) hT h hp (i := 1) (by decide)
  rw [tw1] at this
  refine this.trans ?_
  by_cases e : isW T (sk T p) (stx 10) = true
  · simp only [if_pos e]
    rw [isW_end e]
    rfl
  · simp only [if_neg e]
    by_cases e2 : isW T (sk T p) (stx 9) = true
    · simp only [if_pos e2]
      rw [isW_end e2]
      rfl
    · simp only [if_neg e2]
theorem k72_2 (hT : TX T) (h : TC f G T p) (hp : p ≤ T.1) {K : Int32 → aH → Prop} : vI scr (d + 5) 72 [.ref 1, .ref 20002] (wo f G J c) K = if isW T (sk T p) (stx 11) = true then K 0 (wo (pS f (sk T p + 2)) G J c) else K (-1) (wo (pS f (sk T p)) G J c) := by
  have := w72 (scr := scr) (J := J) (c := c) (d := d) (K := K) hT h hp (i := 2) (by decide)
  rw [tw2] at this
  refine this.trans ?_
  by_cases e : isW T (sk T p) (stx 11) = true
  · simp only [if_pos e]
    rw [isW_end e]
    rfl
  · simp only [if_neg e]
def LQs (f G : Nat → Nat → Int32) (q : Nat) (L : Lq) : Prop := f q 0 = nI L.1 ∧ (∀ i, i < L.1 → G (q + 1) i = nI (L.2.1 i)) ∧ (∀ i, i < L.1 → G (q + 2) i = nI (L.2.2 i))
def FL2 (q : Nat) (f G f' G' : Nat → Nat → Int32) : Prop := (∀ o k, ¬ (o = 1 ∧ (k = 2 ∨ k = 3)) → ¬ (o = 24 ∧ k = 2) → ¬ (o = q ∧ (k = 0 ∨ k = 3)) → f' o k = f o k) ∧ (∀ r k, ¬ (q + 1 ≤ r ∧ r ≤ q + 3) → G' r k = G r k)
theorem FL2_tr {f1 G1 f2 G2 : Nat → Nat → Int32} (h : FL2 q f G f1 G1) (h' : FL2 q f1 G1 f2 G2) : FL2 q f G f2 G2 := ⟨fun o k a b e => (h'.1 o k a b e).trans (h.1 o k a b e), fun r k a => (h'.2 r k a).trans (h.2 r k a)⟩
theorem FL2_of (h : FL q f G f' G') : FL2 q f G f' G' := ⟨fun o k a b e => h.1 o k a b (fun x => e ⟨x.1, Or.inr x.2⟩), fun r k a => h.2 r k (fun x => a ⟨by omega, by omega⟩)⟩
theorem LQs_fl (hq : isLw q) (h : FL q f G f' G') (hL : LQs f G q L) : LQs f' G' q L := by
  obtain ⟨ne1, ne2, ne3, ne4⟩ := lw_ne hq
  exact ⟨by rw [h.1 q 0 (by omega) (by omega) (by omega)]; exact hL.1, fun i hi => by rw [h.2 _ _ (by omega)]; exact hL.2.1 i hi, fun i hi => by rw [h.2 _ _ (by omega)]; exact hL.2.2 i hi⟩
theorem w6 (hq : isLw q) (hl : LCs f G T q s) (hL : LQs f G q L) (hn : L.1 < 12) {k : Nat} {K : aH → Prop} (hK : ∀ f' G', LCs f' G' T q s → LQs f' G' q (adL L k s.2.1.length) → FL2 q f G f' G' → K (wo f' G' J c)) : vV scr d 6 [.ref q, .int (nI k)] (wo f G J c) K := by
  obtain ⟨ne1, ne2, ne3, ne4⟩ := lw_ne hq
  obtain ⟨l1, l2, l3, l4, l5⟩ := hl
  obtain ⟨h1, h2, h3⟩ := hL
  unfold vV
  rw [u6_ok hq, en6, b6_0]
  have e12 : ¬ ((12 : Int32) ≤ nI L.1) := by rw [show (12 : Int32) = nI 12 from rfl]; simp (disch := omega) only [NC]; omega
  simp (disch := omega) only [lW scr hq, h1, nI_nn (show L.1 < 2 ^ 30 by omega), if_false, e12, l4, nI_1, ex_v, true_and]
  refine hK _ _ ⟨⟨⟨?_, ?_⟩, ?_⟩, ?_, ?_, ?_, ?_⟩ ⟨up2_s, ?_, ?_⟩ ⟨?_, ?_⟩
  · rw [up2_f (by omega)]; exact l1.1.1
  · intro i hi; rw [up2_q (by omega), up2_q (by omega)]; exact l1.1.2 i hi
  · rw [up2_f (by omega)]; exact l1.2
  · rw [up2_f (by omega)]; exact l2
  · rw [up2_f (by omega)]; exact l3
  · rw [up2_f (by omega)]; exact l4
  · intro i hi; rw [up2_q (by omega), up2_q (by omega)]; exact l5 i hi
  · intro i hi
    have hi : i < L.1 + 1 := hi
    show _ = nI (if i = L.1 then k else L.2.1 i)
    rw [up2_q (by omega)]
    by_cases e : i = L.1
    · rw [if_pos e, e, up2_s]
    · rw [if_neg e, up2_k e]; exact h2 i (by omega)
  · intro i hi
    have hi : i < L.1 + 1 := hi
    show _ = nI (if i = L.1 then s.2.1.length else L.2.2 i)
    by_cases e : i = L.1
    · rw [if_pos e, e, up2_s]
    · rw [if_neg e, up2_k e, up2_q (by omega)]; exact h3 i (by omega)
  · intro o k a b e; exact up2_f (by omega)
  · intro r k a; rw [up2_q (by omega), up2_q (by omega)]
theorem w9 (hT : TX T) (hq : isLw q) (hl : LCs f G T q s) (hL : LQs f G q L) (hp : s.1 ≤ T.1) (hz : s.2.2 ≤ 60) (hb : 3 * s.2.1.length ≤ 6 * s.2.2 + s.1) (h12 : L.1 ≤ 12) {K : Int32 → aH → Prop} (hf : ∀ x f' G', clC' T L.1 s = .inl x → XC f' G' T q x → FL q f G f' G' → K 0 (wo f' G' J (.ref q))) (hg : ∀ k s1 f' G', clC' T L.1 s = .inr (k, s1) → LCs f' G' T q s1 → LQs f' G' q (adL L k s1.2.1.length) → FL2 q f G f' G' → K 1 (wo f' G' J (.ref q))) : vI scr (d + 31) 9 [.ref 24] (wo f G J (.ref q)) K := by
  have h400 := hT.1
  obtain ⟨ne1, ne2, ne3, ne4⟩ := lw_ne hq
  have sle := sk_le (T := T) hp
  have sge := sk_ge (T := T) (p := s.1)
  have l1 := LCs_pS (a := sk T s.1) hq hl
  have tc1 : TC (pS f (sk T s.1)) G T (sk T s.1) := l1.1
  -- behind the place to follow
  have rest : ∀ k e l2, e ≤ T.1 → sk T s.1 ≤ e → k ≤ 9 → L.1 < 12 → (isW T (sk T s.1) (stx 10) = true ∨ isW T (sk T s.1) (stx 9) = true) → (if isW T (sk T s.1) (stx 10) = true then Sum.inr (0, sk T s.1 + 5) else nuR T (sk T s.1 + 6) 1 9) = Sum.inr (k, e) → E scr false (d + 31) 9 72 [.ref 24, .int (nI (sk T s.1)), .int l2, .null] [.int (nI k)] (wo (pS f e) G J (.ref q)) (fun r h => ∃ x, r = some (Value.int x) ∧ K x h) := by
    intro k e l2 he hse hk hn hw hke
    unfold clC' at hf hg
    rw [if_pos hw, if_neg (by omega), hke] at hf hg
    dsimp only at hf hg
    have la := LCs_pS (a := e) hq hl
    have ske := sk_le he
    have sge2 := sk_ge (T := T) (p := e)
    have last : ∀ f1 G1 s1 (l3 : Int32), LCs f1 G1 T q s1 → FL q f G f1 G1 → (∀ f' G', LCs f' G' T q s1 → LQs f' G' q (adL L k s1.2.1.length) → FL2 q f G f' G' → K 1 (wo f' G' J (.ref q))) → E scr false (d + 31) 9 101 [.ref 24, .int (nI (sk T s.1)), .int l2, .int (nI k)] [] (wo f1 G1 J (.ref q)) (fun r h => ∃ x, r = some (Value.int x) ∧ K x h) := by
      intro f1 G1 s1 l3 ls1 fl1 hK
      rw [b9_101, law_r]
      apply w6 hq ls1 (LQs_fl hq fl1 hL) hn
      intro f2 G2 a1 a2 a3
      exact ⟨_, rfl, hK f2 G2 a1 a2 (FL2_tr (FL2_of fl1) a3)⟩
    rw [b9_72, if_pos (nI_n9 (by omega))]
    simp only [lRr scr]
    rw [k72_2 (d := d + 25) hT la.1 he, pS_pS, pS_pS]
    by_cases hi : isW T (sk T e) (stx 11) = true
    · have hin := isW_in (by decide) (show (stx 11).length = 2 from rfl) hi ske
      simp only [if_pos hi] at hf hg
      rw [if_pos hi, if_pos rfl]
      have lb := LCs_pS (a := sk T e + 2) hq hl
      apply (lg_cl (scr := scr) (J := J) hT hq 1300).2.1 0 10 d _ _ _ _ rfl lb hin hz (by show 3 * s.2.1.length ≤ 6 * s.2.2 + (sk T e + 2); omega) (by show 3 * (T.1 - (sk T e + 2)) + 2 ≤ 1300; omega)
      · intro x f2 G2 hx xc fl
        try dsimp only at hx
        rw [hx] at hf
        rw [if_pos rfl]
        exact ⟨_, rfl, hf _ _ _ rfl xc (FL_tr FL_p fl)⟩
      · intro s2 f2 G2 hx ls2 fl
        try dsimp only at hx
        rw [hx] at hg
        rw [if_neg n10]
        exact last f2 G2 s2 0 ls2 (FL_tr FL_p fl) (fun f' G' a1 a2 a3 => hg _ _ _ _ rfl a1 a2 a3)
    · simp only [if_neg hi] at hf hg
      rw [if_neg hi, if_neg (show ¬ ((-1 : Int32) = 0) by decide)]
      have lb := LCs_pS (a := sk T e) hq hl
      exact last _ _ _ 0 lb FL_p (fun f' G' a1 a2 a3 => hg _ _ _ _ rfl a1 a2 a3)
  have many : ∀ a, ¬ L.1 < 12 → (isW T (sk T s.1) (stx 10) = true ∨ isW T (sk T s.1) (stx 9) = true) → vI scr (d + 30) 70 [.ref 1, .int (nI (sk T s.1)), .int 4] (wo (pS f a) G J (.ref q)) (fun (x14 : Int32) (h13 : aH) => (x14 &&& 1 = x14 ∧ ∃ x, some (Value.int x14) = some (Value.int x) ∧ K x h13)) := by
    intro a hn hw
    have la := LCs_pS (a := a) hq hl
    unfold clC' at hf
    rw [if_pos hw, if_pos (by omega)] at hf
    rw [show (4 : Int32) = nI 4 from rfl, w70 la.2.1]
    exact ⟨by decide, _, rfl, hf _ _ _ rfl (XC_ft hq FT_3 up2_s la (by show s.2.1.length ≤ 400; omega)) (FL_tr FL_p (FL_ft FT_3))⟩
  have e0 : ∀ a, pS f a q 0 = nI L.1 := fun a => by rw [pS_at (by omega)]; exact hL.1
  unfold vI
  rw [u9_ok, en9, b9_0]
  simp only [lRr scr, w69 hT hl.1 hp, true_and]
  rw [k72_1 (d := d + 25) hT tc1 sle, sk_sk, pS_pS, pS_pS, pS_pS]
  by_cases h10 : isW T (sk T s.1) (stx 10) = true
  · have hin := isW_in (by decide) (show (stx 10).length = 5 from rfl) h10 sle
    rw [if_pos h10, if_pos (show (0 : Int32) ≤ 0 by decide)]
    simp only [law_r, lW scr hq, e0]
    by_cases hn : L.1 < 12
    · rw [if_pos (show nI L.1 < (12 : Int32) by rw [show (12 : Int32) = nI 12 from rfl]; simp (disch := omega) only [NC]; omega), if_pos trivial]
      exact rest 0 _ 0 hin (by omega) (by omega) hn (Or.inl h10) (by rw [if_pos h10])
    · rw [if_neg (show ¬ nI L.1 < (12 : Int32) by rw [show (12 : Int32) = nI 12 from rfl]; simp (disch := omega) only [NC]; omega)]
      simp only [lRr scr]
      exact many _ hn (Or.inl h10)
  · rw [if_neg h10]
    by_cases h9 : isW T (sk T s.1) (stx 9) = true
    · have hin := isW_in (by decide) (show (stx 9).length = 6 from rfl) h9 sle
      rw [if_pos h9, if_pos (show (0 : Int32) ≤ 1 by decide)]
      simp only [law_r, lW scr hq, e0]
      by_cases hn : L.1 < 12
      · rw [if_pos (show nI L.1 < (12 : Int32) by rw [show (12 : Int32) = nI 12 from rfl]; simp (disch := omega) only [NC]; omega), if_neg n10]
        simp only [lRr scr]
        have la := LCs_pS (a := sk T s.1 + 6) hq hl
        have key := w75 (scr := scr) (J := J) (c := .ref q) (d := d + 29) hT la.1 hin la.2.1 (lo := 1) (hi := 9) (by decide) (by decide) (K := fun (x11 : Int32) (h10 : aH) => E scr false (d + 31) 9 72 [.ref 24, .int (nI (sk T s.1)), .int 1, .null] [.int x11] h10 (fun r h => ∃ x, r = some (Value.int x) ∧ K x h))
        apply key
        · intro x f1 hx e3 fr
          unfold clC' at hf
          rw [if_pos (Or.inr h9), if_neg (by omega), if_neg h10, hx] at hf
          rw [b9_72, if_neg (show ¬ ((0 : Int32) ≤ -1) by decide)]
          exact ⟨_, rfl, hf _ _ _ rfl (XC_ft hq fr e3 la (by show s.2.1.length ≤ 400; omega)) (FL_tr FL_p (FL_ft fr))⟩
        · intro v e hx
          obtain ⟨b1, b2, b3⟩ := nu_le hin hx
          have := nu_pos hx
          rw [pS_pS]
          exact rest v e 1 b1 (by omega) b2 hn (Or.inr h9) (by rw [if_neg h10]; exact hx)
      · rw [if_neg (show ¬ nI L.1 < (12 : Int32) by rw [show (12 : Int32) = nI 12 from rfl]; simp (disch := omega) only [NC]; omega)]
        simp only [lRr scr]
        exact many _ hn (Or.inr h9)
    · rw [if_neg h9, if_neg (show ¬ ((0 : Int32) ≤ -1) by decide)]
      unfold clC' at hf
      rw [if_neg (fun h => by rcases h with h | h; exact h10 h; exact h9 h)] at hf
      simp only [lRr scr]
      rw [show (0 : Int32) = nI 0 from rfl, w70 l1.2.1]
      exact ⟨by decide, _, rfl, hf _ _ _ rfl (XC_ft hq FT_3 up2_s l1 (by show s.2.1.length ≤ 400; omega)) (FL_tr FL_p (FL_ft FT_3))⟩
theorem rdl_lp (hT : TX T) (hq : isLw q) {K : Option Value → aH → Prop} : ∀ u L (s : Ls) f G i, 13 - L.1 = u → L.1 ≤ 12 → i = L.1 → LCs f G T q s → LQs f G q L → s.1 ≤ T.1 → s.2.2 ≤ 60 → 3 * s.2.1.length ≤ 6 * s.2.2 + s.1 →
    (∀ x f' G', lwL T u L s = .inl x → f' 1 3 = nI x → FL2 q f G f' G' → K (some (.int (nI x))) (wo f' G' J (.ref q))) →
    (∀ L' C' s' f' G', lwL T u L s = .inr (L', C') → s'.2.1 = C' → LCs f' G' T q s' → LQs f' G' q L' → FL2 q f G f' G' → K (some (.int 0)) (wo f' G' J (.ref q))) →
    E scr false (d + 32) 8 28 [.ref 24, .ref q, .int 1, .int (nI i)] [] (wo f G J (.ref q)) K := by
  have h400 := hT.1
  intro u
  induction u with
  | zero => intro L s f G i hu h12; omega
  | succ u ih =>
    intro L s f G i hu h12 hi hl hL hp hz hb hf hg
    subst hi
    simp only [lwL] at hf hg
    rw [b8_28, if_neg n10, show (400 : Int32) = nI 400 from rfl]
    simp (disch := omega) only [NC, show ¬ 400 ≤ L.1 by omega, if_false]
    apply w9 hT hq hl hL hp hz hb h12
    · intro x f1 G1 hx xc fl
      rw [hx] at hf
      rw [if_pos rfl]
      simp only [lRr scr, tA scr, xc.2.1]
      exact hf x f1 G1 rfl xc.2.1 (FL2_of fl)
    · intro k s1 f1 G1 hx l1 q1 fl
      obtain ⟨b1, b2, b3, b4, b5, -, b8⟩ := cl_ok hx hp hz
      have sle := sk_le b2
      have sge := sk_ge (T := T) (p := s1.1)
      rw [hx] at hf hg
      dsimp only at hf hg
      rw [if_neg n10]
      simp only [lRr scr]
      rw [show (59 : Int32) = nI 59 from rfl, w71 (d := d + 30) hT l1.1 b2 (by decide)]
      by_cases h59 : ch8 T (sk T s1.1) = 59
      · have hin := ch8_in (T := T) (p := sk T s1.1) (by omega)
        simp only [if_neg (show ¬ T.1 ≤ sk T s1.1 by omega), if_pos h59] at hf hg
        rw [if_pos h59, nI_1]
        have l2 := LCs_pS (a := sk T s1.1 + 1) hq l1
        have q2 := LQs_fl hq (FL_p (a := sk T s1.1 + 1)) q1
        apply ih (adL L k s1.2.1.length) _ _ _ (L.1 + 1) (by show 13 - (L.1 + 1) = u; omega) (by show L.1 + 1 ≤ 12; omega) rfl l2 q2 hin b3 (by show 3 * s1.2.1.length ≤ 6 * s1.2.2 + (sk T s1.1 + 1); omega)
        · intro x f2 G2 hx2 e3 fl2
          exact hf x f2 G2 hx2 e3 (FL2_tr fl (FL2_tr (FL2_of FL_p) fl2))
        · intro L' C' s' f2 G2 hx2 e3 ls lq fl2
          exact hg L' C' s' f2 G2 hx2 e3 ls lq (FL2_tr fl (FL2_tr (FL2_of FL_p) fl2))
      · rw [if_neg h59, b8_28, if_pos rfl, b8_70]
        have l2 := LCs_pS (a := sk T s1.1) hq l1
        have q2 := LQs_fl hq (FL_p (a := sk T s1.1)) q1
        simp only [lRr scr]
        rw [w76 (d := d + 30) hT l2.1 sle l2.2.1, sk_sk, pS_pS]
        by_cases he : T.1 ≤ sk T s1.1
        · simp only [if_pos he] at hg
          rw [if_pos he, if_neg n10]
          exact hg _ _ (sk T s1.1, s1.2) _ _ rfl rfl l2 q2 (FL2_tr fl (FL2_of FL_p))
        · simp only [if_neg he, if_neg h59] at hf
          rw [if_neg he, if_pos rfl]
          simp only [lRr scr, tA scr, up2_s]
          exact hf _ _ _ rfl up2_s (FL2_tr fl (FL2_tr (FL2_of FL_p) (FL2_of (FL_ft FT_3))))
theorem w4 (hq : isLw q) {K : aH → Prop} : vV scr d 4 [.ref q] (wo f G J c) K = K (wo (up2 (up2 f q 0 0) q 3 0) G J c) := by
  unfold wo
  exact sp4 hq
def lw0 : Lq := (0, fun _ => 0, fun _ => 0)
theorem w8 (hT : TX T) (hq : isLw q) (ht : ITc f G T) {K : Int32 → aH → Prop} (hf : ∀ x f' G', lwL T 13 lw0 (0, [], 0) = .inl x → FL2 q f G f' G' → K (nI x) (wo f' G' J (.ref q))) (hg : ∀ L' C' s' f' G', lwL T 13 lw0 (0, [], 0) = .inr (L', C') → s'.2.1 = C' → LCs f' G' T q s' → LQs f' G' q L' → FL2 q f G f' G' → K 0 (wo f' G' J (.ref q))) : vI scr (d + 32) 8 [.ref 24, .ref q] (wo f G J c) K := by
  obtain ⟨ne1, ne2, ne3, ne4⟩ := lw_ne hq
  unfold vI
  rw [u8_ok, en8, b8_0]
  simp only [law_p, law_r, w4 hq, lRr scr, w67, true_and]
  generalize hf1 : up2 (up2 (up2 (up2 (up2 f q 0 0) q 3 0) 24 2 0) 1 2 0) 1 3 0 = f1
  have ef : ∀ o k, ¬ (o = 1 ∧ (k = 2 ∨ k = 3)) → ¬ (o = 24 ∧ k = 2) → ¬ (o = q ∧ (k = 0 ∨ k = 3)) → f1 o k = f o k := by
    intro o k a b e
    rw [← hf1, up2_f (by omega), up2_f (by omega), up2_f (by omega), up2_f (by omega), up2_f (by omega)]
  have l0 : LCs f1 G T q (0, [], 0) := by
    refine ⟨⟨⟨by rw [ef 1 1 (by omega) (by omega) (by omega)]; exact ht.1, ht.2⟩, ?_⟩, ?_, ?_, ?_, fun k hk => by have hk : k < 0 := hk; omega⟩
    · rw [← hf1, up2_f (by omega), up2_s]; rfl
    · rw [← hf1, up2_s]
    · rw [← hf1, up2_f (by omega), up2_f (by omega), up2_s]; rfl
    · rw [← hf1, up2_f (by omega), up2_f (by omega), up2_f (by omega), up2_s]; rfl
  have q0 : LQs f1 G q lw0 := by
    refine ⟨?_, fun i hi => by have hi : i < 0 := hi; omega, fun i hi => by have hi : i < 0 := hi; omega⟩
    rw [← hf1, up2_f (by omega), up2_f (by omega), up2_f (by omega), up2_f (by omega), up2_s]; rfl
  have fl0 : FL2 q f G f1 G := ⟨ef, fun _ _ _ => rfl⟩
  rw [show (0 : Int32) = nI 0 from rfl]
  apply rdl_lp hT hq 13 lw0 (0, [], 0) f1 G 0 rfl (by show 0 ≤ 12; omega) rfl l0 q0 (Nat.zero_le _) (Nat.zero_le _) (Nat.zero_le _)
  · intro x f2 G2 hx e3 fl
    exact ⟨_, rfl, hf x f2 G2 hx (FL2_tr fl0 fl)⟩
  · intro L' C' s' f2 G2 hx e3 ls lq fl
    exact ⟨_, rfl, hg L' C' s' f2 G2 hx e3 ls lq (FL2_tr fl0 fl)⟩
end LW7
