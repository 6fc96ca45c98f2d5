variable {scr : List Int32}
-- ===== the law, read by the class: facts and tests =====
section LW6
variable {f G f' G' : Nat → Nat → Int32} {J J' : Nat → Nat → Int64} {c : Value} {d : Nat} {T : Tp} {p q : Nat} {s : Ls}
theorem k72_3 (hT : TX T) (h : TC f G T p) (hp : p ≤ T.1) {K : Int32 → aH → Prop} : vI scr (d + 5) 72 [.ref 1, .ref 20003] (wo f G J c) K = if isW T (sk T p) (stx 12) = true then K 0 (wo (pS f (sk T p + 3)) G J c) else K (-1) (wo (pS f (sk T p)) G J c) := by
  have := w72 (scr := scr) (J := J) (c := c) (d := d) (K := K) hT h hp (i := 3) (by decide)
  rw [tw3] at this
  refine this.trans ?_
  by_cases e : isW T (sk T p) (stx 12) = true
  · simp only [if_pos e]
    rw [isW_end e]
    rfl
  · simp only [if_neg e]
theorem k72_5 (hT : TX T) (h : TC f G T p) (hp : p ≤ T.1) {K : Int32 → aH → Prop} : vI scr (d + 5) 72 [.ref 1, .ref 20005] (wo f G J c) K = if isW T (sk T p) (stx 22) = true then K 0 (wo (pS f (sk T p + 3)) G J c) else if isW T (sk T p) (stx 23) = true then K 1 (wo (pS f (sk T p + 2)) G J c) else K (-1) (wo (pS f (sk T p)) G J c) := by
  have := w72 (scr := scr) (J := J) (c := c) (d := d) (K := K) hT h hp (i := 5) (by decide)
  rw [tw5] at this
  refine this.trans ?_
  by_cases e : isW T (sk T p) (stx 22) = true
  · simp only [if_pos e]
    rw [isW_end e]
    rfl
  · simp only [if_neg e]
    by_cases e2 : isW T (sk T p) (stx 23) = true
    · simp only [if_pos e2]
      rw [isW_end e2]
      rfl
    · simp only [if_neg e2]
theorem cmR_sk {z : Nat} : cmR T (sk T p) z = cmR T p z := by
  unfold cmR
  rw [sk_sk]
theorem suR_sk : suR T (sk T s.1, s.2) = suR T s := by
  unfold suR
  dsimp only
  rw [vaR_sk]
theorem coL_sk : coL T (sk T s.1, s.2) = coL T s := by
  unfold coL
  rw [suR_sk]
/-- behind a fault: what waits is told all the same -/
theorem t103x (hq : isLw q) {x : Nat} {m : Nat} (h : XC f G T q x) {dp i : Int32} {l5 : Value} {K : Option Value → aH → Prop} (hK : ∀ f' G', XC f' G' T q x → FL q f G f' G' → K (some (.int 0)) (wo f' G' J (.ref q))) : E scr false (d + 1) 10 103 [.ref 24, .int dp, .int (bz (decide (m = 3))), .int 0, .int i, l5] [] (wo f G J (.ref q)) K := by
  rw [b10_103]
  by_cases hm : m = 3
  · simp only [hm, decide_true, bz_t, n10, if_false, law_r]
    apply w5x hq h
    intro f' G' x' fl
    exact ⟨by decide, hK _ _ x' fl⟩
  · simp only [hm, decide_false, bz_f, if_true]
    exact ⟨by decide, hK _ _ h FL_rf⟩
theorem lg_cl (hT : TX T) (hq : isLw q) : ∀ u, (∀ dp e d (s : Ls) f G (K : Int32 → aH → Prop), dp + e = 10 → LCs f G T q s → s.1 ≤ T.1 → s.2.2 ≤ 60 → 3 * s.2.1.length ≤ 6 * s.2.2 + s.1 → 3 * (T.1 - s.1) + 1 ≤ u → (∀ x f' G', lgR T u 0 dp s = .inl x → XC f' G' T q x → FL q f G f' G' → K 0 (wo f' G' J (.ref q))) → (∀ s' f' G', lgR T u 0 dp s = .inr s' → LCs f' G' T q s' → FL q f G f' G' → K 1 (wo f' G' J (.ref q))) → vI scr (d + 2 * e + 9) 11 [.ref 24, .int (nI dp)] (wo f G J (.ref q)) K) ∧
    (∀ dp e d (s : Ls) f G (K : Int32 → aH → Prop), dp + e = 10 → LCs f G T q s → s.1 ≤ T.1 → s.2.2 ≤ 60 → 3 * s.2.1.length ≤ 6 * s.2.2 + s.1 → 3 * (T.1 - s.1) + 2 ≤ u → (∀ x f' G', lgR T u 1 dp s = .inl x → XC f' G' T q x → FL q f G f' G' → K 0 (wo f' G' J (.ref q))) → (∀ s' f' G', lgR T u 1 dp s = .inr s' → LCs f' G' T q s' → FL q f G f' G' → K 1 (wo f' G' J (.ref q))) → vI scr (d + 2 * e + 10) 10 [.ref 24, .int (nI dp)] (wo f G J (.ref q)) K) ∧
    (∀ m dp e d (s : Ls) f G i l5 (K : Option Value → aH → Prop), m = 2 ∨ m = 3 → dp + e = 10 → LCs f G T q s → s.1 ≤ T.1 → s.2.2 ≤ 60 → i + 1 ≤ s.1 → 3 * (s.2.1.length + (orC m).length) ≤ 6 * s.2.2 + s.1 → 3 * (T.1 - s.1) + 2 ≤ u → (∀ x f' G', lgR T u m dp s = .inl x → XC f' G' T q x → FL q f G f' G' → K (some (.int 0)) (wo f' G' J (.ref q))) → (∀ s' f' G', lgR T u m dp s = .inr s' → LCs f' G' T q s' → FL q f G f' G' → K (some (.int 1)) (wo f' G' J (.ref q))) → E scr false (d + 2 * e + 10) 10 11 [.ref 24, .int (nI dp), .int (bz (decide (m = 3))), .int 1, .int (nI i), l5] [] (wo f G J (.ref q)) K) := by
  have h400 := hT.1
  intro u
  induction u with
  | zero => exact ⟨fun _ _ _ _ _ _ _ _ _ _ _ _ h => by omega, fun _ _ _ _ _ _ _ _ _ _ _ _ h => by omega, fun _ _ _ _ _ _ _ _ _ _ _ _ _ _ _ _ _ h => by omega⟩
  | succ u ih =>
    obtain ⟨ihF, ihT, ihL⟩ := ih
    refine ⟨?_, ?_, ?_⟩
    · -- a fact
      intro dp e d s f G K he hL hp hz hb hu hf hg
      have sle := sk_le (T := T) hp
      have sge := sk_ge (T := T) (p := s.1)
      have l1 := LCs_pS (a := sk T s.1) hq hL
      have tc1 : TC (pS f (sk T s.1)) G T (sk T s.1) := l1.1
      rw [lg0] at hf hg
      have deep : ∀ a l3 l4 f1, f1 = pS f a → e = 0 → (∀ x f' G', x = 1 + 8 * sk T s.1 + 2 → XC f' G' T q x → FL q f G f' G' → K 0 (wo f' G' J (.ref q))) → E scr false (d + 2 * e + 9) 11 50 [.ref 24, .int (nI dp), .int (nI (sk T s.1)), .int l3, .int l4, .null] [] (wo f1 G J (.ref q)) (fun r h => ∃ x, r = some (Value.int x) ∧ K x h) := by
        intro a l3 l4 f1 ef h0 hf
        subst ef
        have la := LCs_pS (a := a) hq hL
        have hd : dp = 10 := by omega
        rw [b11_50, hd, if_neg (show ¬ (nI 10 < (10 : Int32)) by decide)]
        simp only [lRr scr]
        rw [show (2 : Int32) = nI 2 from rfl, w70 la.2.1]
        exact ⟨by decide, _, rfl, hf _ _ _ rfl (XC_ft hq FT_3 up2_s la (by show s.2.1.length ≤ 400; omega)) (FL_tr FL_p (FL_ft FT_3))⟩
      have shallow : 0 < e → (nI dp < (10 : Int32)) := fun h => by
        rw [show (10 : Int32) = nI 10 from rfl]; simp (disch := omega) only [NC]; omega
      unfold vI
      rw [u11_ok, en11, b11_0]
      simp only [lRr scr, w69 hT hL.1 hp, true_and]
      rw [show (91 : Int32) = nI 91 from rfl, w71 (d := d + 2 * e + 7) hT tc1 sle (by decide), sk_sk, pS_pS, pS_pS]
      by_cases h91 : ch8 T (sk T s.1) = 91
      · have hin := ch8_in (T := T) (p := sk T s.1) (by omega)
        simp only [if_pos h91] at hf hg
        rw [if_pos h91, if_neg n10, b11_38, b11_39, if_neg n10]
        cases e with
        | zero =>
          rw [if_pos (show 10 ≤ dp by omega)] at hf
          apply deep _ _ _ _ rfl rfl
          intro x f' G' hx
          subst hx
          exact hf _ f' G' rfl
        | succ e =>
          rw [if_neg (show ¬ 10 ≤ dp by omega)] at hf hg
          rw [b11_50, if_pos (shallow (by omega)), b11_66, if_neg n10, nI_1]
          have la := LCs_pS (a := sk T s.1 + 1) hq hL
          apply ihT (dp + 1) e d _ _ _ _ (by omega) la hin hz (by show 3 * s.2.1.length ≤ 6 * s.2.2 + (sk T s.1 + 1); omega) (by show 3 * (T.1 - (sk T s.1 + 1)) + 2 ≤ u; omega)
          · intro x f2 G2 hx xc fl
            try dsimp only at hx
            rw [hx] at hf
            rw [if_pos rfl]
            exact ⟨_, rfl, hf _ _ _ rfl xc (FL_tr FL_p fl)⟩
          · intro s2 f2 G2 hx l2 fl
            try dsimp only at hx
            obtain ⟨b1, b2, b3, b4, b5⟩ := lg_f (by omega) hx hin hz
            have b5 : 3 * s2.2.1.length + 9 + 6 * s.2.2 + (sk T s.1 + 1) ≤ 3 * s.2.1.length + 6 * s2.2.2 + s2.1 := b5
            rw [hx] at hf hg
            dsimp only at hf hg
            have sl2 := sk_le b2
            rw [if_neg n10]
            simp only [lRr scr]
            rw [show (93 : Int32) = nI 93 from rfl, w71 (d := d + 2 * (e + 1) + 7) hT l2.1 b2 (by decide)]
            by_cases h93 : ch8 T (sk T s2.1) = 93
            · rw [if_pos h93] at hg
              rw [if_pos h93, if_neg n10, b11_110]
              exact ⟨_, rfl, hg _ _ _ rfl (LCs_pS hq l2) (FL_tr FL_p (FL_tr fl FL_p))⟩
            · rw [if_neg h93] at hf
              have l3 := LCs_pS (a := sk T s2.1) hq l2
              rw [if_neg h93, if_pos rfl]
              simp only [lRr scr, tA scr, pS_12]
              rw [show (0 : Int32) = nI 0 from rfl, w70 l3.2.1, if_pos (show (0 : Int32) = nI 0 from rfl)]
              exact ⟨_, rfl, hf _ _ _ rfl (XC_ft hq FT_3 up2_s l3 (by show s2.2.1.length ≤ 400; omega)) (FL_tr FL_p (FL_tr fl (FL_tr FL_p (FL_ft FT_3))))⟩
      · simp only [if_neg h91] at hf hg
        rw [if_neg h91, if_pos rfl]
        simp only [lRr scr]
        rw [k72_3 (d := d + 2 * e + 3) hT tc1 sle, sk_sk, pS_pS, pS_pS]
        by_cases hn : isW T (sk T s.1) (stx 12) = true
        · have hin := isW_in (by decide) (show (stx 12).length = 3 from rfl) hn sle
          simp only [if_pos hn] at hf hg
          rw [if_pos hn, if_pos rfl, b11_39, if_pos rfl, if_neg n10]
          cases e with
          | zero =>
            rw [if_pos (show 10 ≤ dp by omega)] at hf
            apply deep _ _ _ _ rfl rfl
            intro x f' G' hx
            subst hx
            exact hf _ f' G' rfl
          | succ e =>
            rw [if_neg (show ¬ 10 ≤ dp by omega)] at hf hg
            rw [b11_50, if_pos (shallow (by omega)), b11_66, if_pos rfl, if_neg n10, nI_1]
            have la := LCs_pS (a := sk T s.1 + 3) hq hL
            have tw : d + 2 * (e + 1) + 8 = (d + 1) + 2 * e + 9 := by omega
            rw [tw]
            apply ihF (dp + 1) e (d + 1) _ _ _ _ (by omega) la hin hz (by show 3 * s.2.1.length ≤ 6 * s.2.2 + (sk T s.1 + 3); omega) (by show 3 * (T.1 - (sk T s.1 + 3)) + 1 ≤ u; omega)
            · intro x f2 G2 hx xc fl
              try dsimp only at hx
              rw [hx] at hf
              rw [law_r]
              apply w5x hq xc
              intro f3 G3 xc3 fl3
              exact ⟨by decide, _, rfl, hf _ _ _ rfl xc3 (FL_tr FL_p (FL_tr fl fl3))⟩
            · intro s2 f2 G2 hx l2 fl
              try dsimp only at hx
              obtain ⟨b1, b2, b3, b4, b5⟩ := lg_f (by omega) hx hin hz
              have b5 : 3 * s2.2.1.length + 9 + 6 * s.2.2 + (sk T s.1 + 3) ≤ 3 * s.2.1.length + 6 * s2.2.2 + s2.1 := b5
              rw [hx] at hg
              rw [law_r]
              apply w5 hq l2 (by omega)
              intro f3 G3 l3 fl3
              exact ⟨by decide, _, rfl, hg _ _ _ rfl l3 (FL_tr FL_p (FL_tr fl fl3))⟩
        · simp only [if_neg hn] at hf hg
          rw [if_neg hn, if_neg (show ¬ ((-1 : Int32) = 0) by decide), b11_38, b11_39, if_pos rfl, if_pos rfl, b11_66, if_pos rfl, if_pos rfl]
          have tw : d + 2 * e + 8 = (d + 2 * e + 1) + 7 := by omega
          have tw2 : d + 2 * e + 8 = (d + 2 * e + 6) + 2 := by omega
          rw [← coL_sk] at hf hg
          unfold coL at hf hg
          rw [tw]
          apply w13 hT hq l1 sle hz (by show 3 * s.2.1.length ≤ 6 * s.2.2 + sk T s.1; omega)
          · intro x f2 G2 hx xc fl
            rw [hx] at hf
            rw [if_pos rfl, b11_157, if_pos (show (-1 : Int32) < 0 by decide)]
            exact ⟨_, rfl, hf _ _ _ rfl xc (FL_tr FL_p fl)⟩
          · intro s2 f2 G2 hx l2 fl
            obtain ⟨b1, b2, b3, b4, b5⟩ := su_ok (s := (sk T s.1, s.2)) sle hx
            have b5 : 3 * s2.2.1.length + 3 + 6 * s.2.2 + sk T s.1 ≤ 3 * s.2.1.length + 6 * s2.2.2 + s2.1 := b5
            rw [hx] at hf hg
            dsimp only at hf hg
            rw [if_neg n10]
            apply w12 (d := d + 2 * e + 6) hT hq l2 b2 b3 (by omega)
            · intro x f3 G3 hx3 xc fl3
              rw [hx3] at hf
              rw [b11_157, if_pos (show (-1 : Int32) < 0 by decide)]
              exact ⟨_, rfl, hf _ _ _ rfl xc (FL_tr FL_p (FL_tr fl fl3))⟩
            · intro k a f3 G3 hx3 l3 fl3
              obtain ⟨c1, c2, c3, c4, c5⟩ := cm_ok hx3
              rw [hx3] at hf hg
              dsimp only at hf hg
              have tw3 : d + 2 * e + 9 = (d + 2 * e + 8) + 1 := rfl
              rw [tw3, b11_157, if_neg (nI_nn (by omega))]
              rw [tw]
              apply w13 hT hq l3 c2 (by show s2.2.2 + 1 ≤ 60; omega) (by show 3 * s2.2.1.length ≤ 6 * (s2.2.2 + 1) + a; omega)
              · intro x f4 G4 hx4 xc fl4
                rw [hx4] at hf
                rw [if_pos rfl]
                exact ⟨_, rfl, hf _ _ _ rfl xc (FL_tr FL_p (FL_tr fl (FL_tr fl3 fl4)))⟩
              · intro s4 f4 G4 hx4 l4 fl4
                obtain ⟨e1, e2, e3, e4, e5⟩ := su_ok (s := (a, s2.2.1, s2.2.2 + 1)) c2 hx4
                have e5 : 3 * s4.2.1.length + 3 + 6 * (s2.2.2 + 1) + a ≤ 3 * s2.2.1.length + 6 * s4.2.2 + s4.1 := e5
                rw [hx4] at hg
                rw [if_neg n10, law_r]
                apply w5 hq l4 (by omega)
                intro f5 G5 l5 fl5
                exact ⟨_, rfl, hg _ _ _ rfl l5 (FL_tr FL_p (FL_tr fl (FL_tr fl3 (FL_tr fl4 fl5))))⟩
    · -- a test
      intro dp e d s f G K he hL hp hz hb hu hf hg
      rw [lg1] at hf hg
      unfold vI
      rw [u10_ok, en10]
      have tw : d + 2 * e + 10 = (d + 2 * e + 9) + 1 := rfl
      rw [tw, b10_0]
      refine ⟨rfl, ?_⟩
      apply ihF dp e d s f G _ he hL hp hz hb (by omega)
      · intro x f1 G1 hx xc fl
        rw [hx] at hf
        rw [b10_11, if_pos rfl]
        apply t103x (m := 0) hq xc
        intro f2 G2 xc2 fl2
        exact ⟨_, rfl, hf _ _ _ rfl xc2 (FL_tr fl fl2)⟩
      · intro s1 f1 G1 hx l1 fl
        obtain ⟨b1, b2, b3, b4, b5⟩ := lg_f (by omega) hx hp hz
        rw [hx] at hf hg
        dsimp only at hf hg
        apply ihL 2 dp e d s1 f1 G1 0 _ _ (Or.inl rfl) he l1 b2 b3 (by omega) (by show 3 * (s1.2.1.length + 0) ≤ _; omega) (by omega)
        · intro x f2 G2 hx2 xc fl2
          exact ⟨_, rfl, hf _ _ _ hx2 xc (FL_tr fl fl2)⟩
        · intro s2 f2 G2 hx2 l2 fl2
          exact ⟨_, rfl, hg _ _ _ hx2 l2 (FL_tr fl fl2)⟩
    · -- what follows a fact
      intro m dp e d s f G i l5 K hm he hL hp hz hi hb hu hf hg
      have sle := sk_le (T := T) hp
      have sge := sk_ge (T := T) (p := s.1)
      have hm0 : ¬ m = 0 := by omega
      have hm1 : ¬ m = 1 := by omega
      rw [lg2 hm0 hm1] at hf hg
      rw [b10_11, if_neg n10, show (400 : Int32) = nI 400 from rfl]
      simp (disch := omega) only [NC, show ¬ 400 ≤ i by omega, if_false, lRr scr]
      rw [k72_5 (d := d + 2 * e + 4) hT hL.1 hp]
      by_cases ha : isW T (sk T s.1) (stx 22) = true
      · have hin := isW_in (by decide) (show (stx 22).length = 3 from rfl) ha sle
        simp only [if_pos ha] at hf hg
        have la := LCs_pS (a := sk T s.1 + 3) hq hL
        rw [if_pos ha, if_pos (show (0 : Int32) ≤ 0 by decide), if_neg (show ¬ ((0 : Int32) = 1) by decide)]
        -- the state goes on with what waits unchanged
        have to : E scr false (d + 2 * e + 10) 10 76 [.ref 24, .int (nI dp), .int (bz (decide (m = 3))), .int 1, .int (nI i), .int 0] [.int (bz (decide (m = 3)))] (wo (pS f (sk T s.1 + 3)) G J (.ref q)) K := by
          rw [b10_76]
          apply ihF dp e d _ _ _ _ he la hin hz (by show 3 * s.2.1.length ≤ 6 * s.2.2 + (sk T s.1 + 3); omega) (by show 3 * (T.1 - (sk T s.1 + 3)) + 1 ≤ u; omega)
          · intro x f2 G2 hx xc fl
            try dsimp only at hx
            rw [hx] at hf
            rw [if_pos rfl, law_r]
            apply w5x hq xc
            intro f3 G3 xc3 fl3
            rw [b10_97, b10_11, if_pos rfl]
            apply t103x hq xc3
            intro f4 G4 xc4 fl4
            exact hf _ _ _ rfl xc4 (FL_tr FL_p (FL_tr fl (FL_tr fl3 fl4)))
          · intro s2 f2 G2 hx l2 fl
            try dsimp only at hx
            obtain ⟨b1, b2, b3, b4, b5⟩ := lg_f (by omega) hx hin hz
            have b1 : sk T s.1 + 3 < s2.1 := b1
            have b5 : 3 * s2.2.1.length + 9 + 6 * s.2.2 + (sk T s.1 + 3) ≤ 3 * s.2.1.length + 6 * s2.2.2 + s2.1 := b5
            rw [hx] at hf hg
            dsimp only at hf hg
            rw [if_pos rfl, law_r]
            apply w5 hq l2 (by omega)
            intro f3 G3 l3 fl3
            rw [b10_97, nI_1]
            apply ihL m dp e d _ f3 G3 (i + 1) _ _ hm he l3 b2 b3 (by show i + 1 + 1 ≤ s2.1; omega) (by show 3 * ((s2.2.1 ++ [20]).length + (orC m).length) ≤ 6 * s2.2.2 + s2.1; simp only [List.length_append, List.length_cons, List.length_nil]; omega) (by show 3 * (T.1 - s2.1) + 2 ≤ u; omega)
            · intro x f4 G4 hx4 xc fl4
              exact hf _ _ _ hx4 xc (FL_tr FL_p (FL_tr fl (FL_tr fl3 fl4)))
            · intro s4 f4 G4 hx4 l4 fl4
              exact hg _ _ _ hx4 l4 (FL_tr FL_p (FL_tr fl (FL_tr fl3 fl4)))
        rw [b10_61]
        by_cases h3 : m = 3
        · simp only [h3, decide_true, bz_t] at to ⊢
          rw [if_neg n10, b10_71]; exact to
        · simp only [h3, decide_false, bz_f] at to ⊢
          rw [if_pos trivial, if_neg (show ¬ ((0 : Int32) = 1) by decide)]; exact to
      · simp only [if_neg ha] at hf hg
        rw [if_neg ha]
        by_cases ho : isW T (sk T s.1) (stx 23) = true
        · have hin := isW_in (by decide) (show (stx 23).length = 2 from rfl) ho sle
          simp only [if_pos ho] at hf hg
          have la := LCs_pS (a := sk T s.1 + 2) hq hL
          rw [if_pos ho, if_pos (show (0 : Int32) ≤ 1 by decide), if_pos rfl]
          have to : ∀ f1 G1 w, LCs f1 G1 T q (sk T s.1 + 2, s.2.1 ++ orC m, s.2.2) → FL q f G f1 G1 → E scr false (d + 2 * e + 10) 10 61 [.ref 24, .int (nI dp), .int w, .int 1, .int (nI i), .int 1] [] (wo f1 G1 J (.ref q)) K := by
            intro f1 G1 w l1 fl1
            have : E scr false (d + 2 * e + 10) 10 71 [.ref 24, .int (nI dp), .int w, .int 1, .int (nI i), .int 1] [] (wo f1 G1 J (.ref q)) K := by
              have hlen : (s.2.1 ++ orC m).length = s.2.1.length + (orC m).length := List.length_append
              rw [b10_71, b10_76]
              apply ihF dp e d _ _ _ _ he l1 hin hz (by show 3 * (s.2.1 ++ orC m).length ≤ 6 * s.2.2 + (sk T s.1 + 2); omega) (by show 3 * (T.1 - (sk T s.1 + 2)) + 1 ≤ u; omega)
              · intro x f2 G2 hx xc fl
                try dsimp only at hx
                rw [hx] at hf
                rw [if_neg n10, b10_97, b10_11, if_pos rfl]
                apply t103x (m := 3) hq xc
                intro f4 G4 xc4 fl4
                exact hf _ _ _ rfl xc4 (FL_tr fl1 (FL_tr fl fl4))
              · intro s2 f2 G2 hx l2 fl
                try dsimp only at hx
                obtain ⟨b1, b2, b3, b4, b5⟩ := lg_f (by omega) hx hin hz
                have b1 : sk T s.1 + 2 < s2.1 := b1
                have b5 : 3 * s2.2.1.length + 9 + 6 * s.2.2 + (sk T s.1 + 2) ≤ 3 * (s.2.1 ++ orC m).length + 6 * s2.2.2 + s2.1 := b5
                rw [hx] at hf hg
                dsimp only at hf hg
                rw [if_neg n10, b10_97, nI_1]
                apply ihL 3 dp e d s2 f2 G2 (i + 1) _ _ (Or.inr rfl) he l2 b2 b3 (by omega) (by show 3 * (s2.2.1.length + 1) ≤ 6 * s2.2.2 + s2.1; omega) (by omega)
                · intro x f4 G4 hx4 xc fl4
                  exact hf _ _ _ hx4 xc (FL_tr fl1 (FL_tr fl fl4))
                · intro s4 f4 G4 hx4 l4 fl4
                  exact hg _ _ _ hx4 l4 (FL_tr fl1 (FL_tr fl fl4))
            rw [b10_61]
            by_cases hw : w = 0
            · rw [if_pos hw, if_pos rfl]; exact this
            · rw [if_neg hw]; exact this
          by_cases h3 : m = 3
          · simp only [h3, decide_true, bz_t] at to ⊢
            rw [if_neg n10, law_r]
            apply w5 hq la (by show s.2.1.length < 400; omega)
            intro f3 G3 l3 fl3
            exact to f3 G3 1 l3 (FL_tr FL_p fl3)
          · simp only [h3, decide_false, bz_f] at to ⊢
            rw [if_pos trivial]
            apply to _ _ 0 _ FL_p
            simp only [orC, h3, if_false, List.append_nil]
            exact la
        · simp only [if_neg ho] at hf hg
          rw [if_neg ho, if_neg (show ¬ ((0 : Int32) ≤ -1) by decide), b10_103]
          have la := LCs_pS (a := sk T s.1) hq hL
          by_cases h3 : m = 3
          · simp only [h3, decide_true, bz_t] at hg ⊢
            rw [if_neg n10, law_r]
            apply w5 hq la (by show s.2.1.length < 400; omega)
            intro f3 G3 l3 fl3
            exact ⟨by decide, hg _ _ _ rfl l3 (FL_tr FL_p fl3)⟩
          · simp only [h3, decide_false, bz_f]
            rw [if_pos trivial]
            refine ⟨by decide, hg _ _ _ rfl ?_ FL_p⟩
            simp only [orC, h3, if_false, List.append_nil]
            exact la
end LW6
