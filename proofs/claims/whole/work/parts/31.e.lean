variable {scr : List Int32}
-- ===== the law, read by the class: sums, comparing =====
section LW5
variable {f G f' G' : Nat → Nat → Int32} {J J' : Nat → Nat → Int64} {c : Value} {d : Nat} {T : Tp} {p q : Nat} {s : Ls}
theorem nI_nn {k : Nat} (hk : k < 2 ^ 30) : ¬ nI k < 0 := by
  rw [show (0 : Int32) = nI 0 from rfl]
  simp (disch := omega) only [NC]
  omega
theorem nI_n9 {k : Nat} (hk : k < 2 ^ 30) : (0 : Int32) ≤ nI k := by
  rw [show (0 : Int32) = nI 0 from rfl]
  simp (disch := omega) only [NC]
  omega
theorem t109x (hq : isLw q) {x : Nat} {w : Option Nat} (hw : ∀ k, w = some k → k < 2 ^ 30) (h : XC f G T q x) {i : Int32} {l4 l5 : Value} {K : Option Value → aH → Prop} (hK : ∀ f' G', XC f' G' T q x → FL q f G f' G' → K (some (.int 0)) (wo f' G' J (.ref q))) : E scr false (d + 1) 13 109 [.ref 24, .int (oI w), .int 0, .int i, l4, l5] [] (wo f G J (.ref q)) K := by
  rw [b13_109]
  cases w with
  | none =>
    rw [show oI none = (-1 : Int32) from rfl, if_pos (show (-1 : Int32) < 0 by decide)]
    exact ⟨by decide, hK _ _ h FL_rf⟩
  | some k =>
    rw [show oI (some k) = nI k from rfl, if_neg (nI_nn (hw k rfl)), law_r]
    apply w5x hq h
    intro f' G' x' fl
    exact ⟨by decide, hK _ _ x' fl⟩
theorem su_lp (hT : TX T) (hq : isLw q) {K : Option Value → aH → Prop} : ∀ u w (s : Ls) f G i (l4 l5 : Value), (∀ k, w = some k → 10 ≤ k ∧ k ≤ 21) → LCs f G T q s → s.1 ≤ T.1 → s.2.2 ≤ 60 → i + 1 ≤ s.1 → T.1 - s.1 < u → 3 * (s.2.1.length + (oC w).length) ≤ 6 * s.2.2 + s.1 →
    (∀ x f' G', suL T u w s = .inl x → XC f' G' T q x → FL q f G f' G' → K (some (.int 0)) (wo f' G' J (.ref q))) →
    (∀ s' f' G', suL T u w s = .inr s' → LCs f' G' T q s' → FL q f G f' G' → K (some (.int 1)) (wo f' G' J (.ref q))) →
    E scr false (d + 7) 13 9 [.ref 24, .int (oI w), .int 1, .int (nI i), l4, l5] [] (wo f G J (.ref q)) K := by
  have h400 := hT.1
  intro u
  induction u with
  | zero => intro w s f G i l4 l5 _ _ _ _ _ hu; omega
  | succ u ih =>
    intro w s f G i l4 l5 hw hL hp hz hi hu hb hf hg
    have sle := sk_le (T := T) hp
    have sge := sk_ge (T := T) (p := s.1)
    have ole := oC_l (w := w)
    have hw30 : ∀ k, w = some k → k < 2 ^ 30 := fun k e => by have := hw k e; omega
    simp only [suL] at hf hg
    rw [b13_9, if_neg n10, show (400 : Int32) = nI 400 from rfl]
    simp (disch := omega) only [NC, show ¬ 400 ≤ i by omega, if_false]
    rw [w14 (d := d + 5) hT hL.1 hp]
    cases hk : wkO (ch8 T (sk T s.1)) with
    | none =>
      rw [hk] at hg
      dsimp only at hg ⊢
      have h1 := LCs_pS (a := sk T s.1) hq hL
      rw [if_neg (show ¬ ((0 : Int32) ≤ -1) by decide), b13_109]
      cases w with
      | none =>
        rw [show oI none = (-1 : Int32) from rfl, if_pos (show (-1 : Int32) < 0 by decide)]
        refine ⟨by decide, hg _ _ _ rfl ?_ FL_p⟩
        simp only [oC, List.append_nil]
        exact h1
      | some k =>
        rw [show oI (some k) = nI k from rfl, if_neg (nI_nn (hw30 k rfl)), law_r]
        apply w5 hq h1 (by show s.2.1.length < 400; omega)
        intro f' G' l' fl
        exact ⟨by decide, hg _ _ _ rfl l' (FL_tr FL_p fl)⟩
    | some k =>
      rw [hk] at hf hg
      dsimp only at hf hg ⊢
      obtain ⟨k1, k2, k3⟩ := wk_in hk
      have hin := ch8_in k1
      have h1 := LCs_pS (a := sk T s.1 + 1) hq hL
      rw [if_pos (nI_n9 (by omega))]
      by_cases k12 : k < 12
      · simp only [if_pos k12] at hf hg
        have to : E scr false (d + 7) 13 53 [.ref 24, .int (oI w), .int 1, .int (nI i), .int (nI k), l5] [.int 1] (wo (pS f (sk T s.1 + 1)) G J (.ref q)) K := by
          rw [b13_53, if_neg n10]
          -- the state behind what waited
          have rest : ∀ f1 G1, LCs f1 G1 T q (sk T s.1 + 1, s.2.1 ++ oC w, s.2.2) → FL q f G f1 G1 → E scr false (d + 7) 13 72 [.ref 24, .int (oI w), .int 1, .int (nI i), .int (nI k), .int 1] [] (wo f1 G1 J (.ref q)) K := by
            intro f1 G1 l1 fl1
            have hlen : (s.2.1 ++ oC w).length = s.2.1.length + (oC w).length := List.length_append
            rw [b13_72, if_neg n10, b13_83]
            apply w16 hT hq l1 hin hz (by show (s.2.1 ++ oC w).length < 400; omega)
            · intro x f2 G2 hx xc fl2
              dsimp only at hx
              rw [hx] at hf
              rw [if_neg n10, b13_103, b13_9, if_pos rfl]
              apply t109x (w := some k) hq (fun k' e => by cases e; omega) xc
              intro f3 G3 xc3 fl3
              exact hf x _ _ rfl xc3 (FL_tr fl1 (FL_tr fl2 fl3))
            · intro v e f2 G2 hx l2 fl2
              dsimp only at hx l2
              obtain ⟨a1, a2, a3, a4⟩ := va_ok hin hx
              rw [hx] at hf hg
              dsimp only at hf hg
              rw [if_neg n10, b13_103, nI_1]
              apply ih (some k) _ f2 G2 (i + 1) _ _ (fun k' e => by cases e; omega) l2 a2 (by show s.2.2 + 1 ≤ 60; omega) (by show i + 1 + 1 ≤ e; omega) (by show T.1 - e < u; omega)
              · show 3 * (((s.2.1 ++ oC w) ++ [v]).length + 1) ≤ 6 * (s.2.2 + 1) + e
                simp only [List.length_append, List.length_cons, List.length_nil]
                omega
              · intro x f3 G3 hx3 xc fl3
                exact hf x f3 G3 hx3 xc (FL_tr fl1 (FL_tr fl2 fl3))
              · intro s' f3 G3 hx3 l3 fl3
                exact hg s' f3 G3 hx3 l3 (FL_tr fl1 (FL_tr fl2 fl3))
          cases w with
          | none =>
            rw [show oI none = (-1 : Int32) from rfl, if_pos (show (-1 : Int32) < 0 by decide)]
            apply rest _ _ _ FL_p
            simp only [oC, List.append_nil]
            exact h1
          | some k' =>
            rw [show oI (some k') = nI k' from rfl, if_neg (nI_nn (hw30 k' rfl)), law_r]
            apply w5 hq h1 (by show s.2.1.length < 400; omega)
            intro f' G' l' fl
            exact rest _ _ l' (FL_tr FL_p fl)
        have k1011 : k = 10 ∨ k = 11 := by omega
        rcases k1011 with rfl | rfl
        · rw [if_pos (by decide), b13_48]; exact to
        · rw [if_neg (by decide), if_pos (by decide), b13_48]; exact to
      · simp only [if_neg k12] at hf hg
        have hk10 : ¬ nI k = (10 : Int32) := by rw [show (10 : Int32) = nI 10 from rfl]; simp (disch := omega) only [NC]; omega
        have hk11 : ¬ nI k = (11 : Int32) := by rw [show (11 : Int32) = nI 11 from rfl]; simp (disch := omega) only [NC]; omega
        rw [if_neg hk10, if_neg hk11, b13_53, if_pos rfl, b13_72, if_pos rfl, b13_83]
        apply w16 hT hq h1 hin hz (by show s.2.1.length < 400; omega)
        · intro x f2 G2 hx xc fl2
          dsimp only at hx
          rw [hx] at hf
          rw [if_pos rfl, law_r]
          apply w5x hq xc
          intro f3 G3 xc3 fl3
          rw [b13_103, b13_9, if_pos rfl]
          apply t109x (w := w) hq hw30 xc3
          intro f4 G4 xc4 fl4
          exact hf x _ _ rfl xc4 (FL_tr FL_p (FL_tr fl2 (FL_tr fl3 fl4)))
        · intro v e f2 G2 hx l2 fl2
          dsimp only at hx l2
          obtain ⟨a1, a2, a3, a4⟩ := va_ok hin hx
          rw [hx] at hf hg
          dsimp only at hf hg
          rw [if_pos rfl, law_r]
          apply w5 hq l2 (by show (s.2.1 ++ [v]).length < 400; rw [List.length_append]; simp only [List.length_cons, List.length_nil]; omega)
          intro f3 G3 l3 fl3
          rw [b13_103, nI_1]
          apply ih w _ f3 G3 (i + 1) _ _ hw l3 a2 (by show s.2.2 + 1 ≤ 60; omega) (by show i + 1 + 1 ≤ e; omega) (by show T.1 - e < u; omega)
          · show 3 * (((s.2.1 ++ [v]) ++ [k]).length + (oC w).length) ≤ 6 * (s.2.2 + 1) + e
            simp only [List.length_append, List.length_cons, List.length_nil]
            omega
          · intro x f4 G4 hx4 xc fl4
            exact hf x f4 G4 hx4 xc (FL_tr FL_p (FL_tr fl2 (FL_tr fl3 fl4)))
          · intro s' f4 G4 hx4 l4 fl4
            exact hg s' f4 G4 hx4 l4 (FL_tr FL_p (FL_tr fl2 (FL_tr fl3 fl4)))
theorem w13 (hT : TX T) (hq : isLw q) (h : LCs f G T q s) (hp : s.1 ≤ T.1) (hz : s.2.2 ≤ 60) (hb : 3 * s.2.1.length ≤ 6 * s.2.2 + s.1) {K : Int32 → aH → Prop} (hf : ∀ x f' G', suR T s = .inl x → XC f' G' T q x → FL q f G f' G' → K 0 (wo f' G' J (.ref q))) (hg : ∀ s' f' G', suR T s = .inr s' → LCs f' G' T q s' → FL q f G f' G' → K 1 (wo f' G' J (.ref q))) : vI scr (d + 7) 13 [.ref 24] (wo f G J (.ref q)) K := by
  have h400 := hT.1
  unfold suR at hf hg
  unfold vI
  rw [u13_ok, en13, b13_0]
  refine ⟨rfl, ?_⟩
  apply w16 hT hq h hp hz (by omega)
  · intro x f1 G1 hx xc fl1
    rw [hx] at hf
    rw [b13_9, if_pos rfl]
    apply t109x (w := none) hq (fun k e => by cases e) xc
    intro f2 G2 xc2 fl2
    exact ⟨_, rfl, hf x _ _ rfl xc2 (FL_tr fl1 fl2)⟩
  · intro v e f1 G1 hx l1 fl1
    obtain ⟨a1, a2, a3, a4⟩ := va_ok hp hx
    rw [hx] at hf hg
    dsimp only at hf hg
    apply su_lp hT hq 401 none _ f1 G1 0 _ _ (fun k e => by cases e) l1 a2 (by show s.2.2 + 1 ≤ 60; omega) (by show 0 + 1 ≤ e; omega) (by show T.1 - e < 401; omega)
    · show 3 * ((s.2.1 ++ [v]).length + 0) ≤ 6 * (s.2.2 + 1) + e
      simp only [List.length_append, List.length_cons, List.length_nil]
      omega
    · intro x f2 G2 hx2 xc fl2
      exact ⟨_, rfl, hf x f2 G2 hx2 xc (FL_tr fl1 fl2)⟩
    · intro s' f2 G2 hx2 l2 fl2
      exact ⟨_, rfl, hg s' f2 G2 hx2 l2 (FL_tr fl1 fl2)⟩
theorem w12 (hT : TX T) (hq : isLw q) (h : LCs f G T q s) (hp : s.1 ≤ T.1) (hz : s.2.2 ≤ 60) (hn : s.2.1.length < 400) {K : Int32 → aH → Prop} (hf : ∀ x f' G', cmR T s.1 s.2.2 = .inl x → XC f' G' T q x → FL q f G f' G' → K (-1) (wo f' G' J (.ref q))) (hg : ∀ k e f' G', cmR T s.1 s.2.2 = .inr (k, e) → LCs f' G' T q (e, s.2.1, s.2.2 + 1) → FL q f G f' G' → K (nI k) (wo f' G' J (.ref q))) : vI scr (d + 2) 12 [.ref 24] (wo f G J (.ref q)) K := by
  obtain ⟨ne1, ne2, ne3, ne4⟩ := lw_ne hq
  have h400 := hT.1
  have sle := sk_le (T := T) hp
  have tc1 : TC (pS f (sk T s.1)) G T (sk T s.1) := TC_pS h.1
  have fin : ∀ a b cc k e, (if b = 0 then (if cc = 0 then (17 : Int32) else if a = 0 then 19 else 18) else (if a = 0 then 15 else 16)) = nI k → (60 ≤ s.2.2 → cmR T s.1 s.2.2 = .inl (1 + 8 * sk T s.1 + 3)) → (¬ 60 ≤ s.2.2 → cmR T s.1 s.2.2 = .inr (k, e)) → E scr false (d + 2) 12 102 [.ref 24, .int (nI (sk T s.1)), .int b, .int cc, .int a] [] (wo (pS f e) G J (.ref q)) (fun r h => ∃ x, r = some (Value.int x) ∧ K x h) := by
    intro a b cc k e hk h1 h2
    have l2 := LCs_pS (a := e) hq h
    rw [b12_102, w17 l2.2.1 l2.2.2.1 hz]
    by_cases h60 : 60 ≤ s.2.2
    · rw [if_pos h60, if_pos rfl]
      exact ⟨_, rfl, hf _ _ _ (h1 h60) (XC_ft hq FT_3 up2_s l2 (by show s.2.1.length ≤ 400; omega)) (FL_tr FL_p (FL_ft FT_3))⟩
    · rw [if_neg h60, if_neg n10]
      have l3 : LCs (up2 (pS f e) 24 2 (nI (s.2.2 + 1))) G T q (e, s.2.1, s.2.2 + 1) := ⟨⟨⟨by rw [up2_f (by decide)]; exact l2.1.1.1, l2.1.1.2⟩, by rw [up2_f (by decide)]; exact l2.1.2⟩, by rw [up2_f (by decide)]; exact l2.2.1, up2_s, by rw [up2_f (by omega)]; exact l2.2.2.2.1, l2.2.2.2.2⟩
      have fl3 : FL q f G (up2 (pS f e) 24 2 (nI (s.2.2 + 1))) G := FL_tr FL_p ⟨fun o k a b e => up2_f (by omega), fun _ _ _ => rfl⟩
      have := hg k e _ _ (h2 h60) l3 fl3
      rw [← hk] at this
      by_cases hb : b = 0
      · simp only [if_pos hb] at this ⊢
        by_cases hc : cc = 0
        · simp only [if_pos hc] at this ⊢; exact ⟨_, rfl, this⟩
        · simp only [if_neg hc] at this ⊢
          by_cases ha : a = 0
          · simp only [if_pos ha] at this ⊢; exact ⟨_, rfl, this⟩
          · simp only [if_neg ha] at this ⊢; exact ⟨_, rfl, this⟩
      · simp only [if_neg hb] at this ⊢
        by_cases ha : a = 0
        · simp only [if_pos ha] at this ⊢; exact ⟨_, rfl, this⟩
        · simp only [if_neg ha] at this ⊢; exact ⟨_, rfl, this⟩
  -- behind the first sign: is there a '='
  have eqs : ∀ e b cc, e ≤ T.1 → (¬ b = 0 ∨ ¬ cc = 0 ∨ ch8 T e = 61) → (ch8 T e = 61 → E scr false (d + 2) 12 102 [.ref 24, .int (nI (sk T s.1)), .int b, .int cc, .int 1] [] (wo (pS f (e + 1)) G J (.ref q)) (fun r h => ∃ x, r = some (Value.int x) ∧ K x h)) → (¬ ch8 T e = 61 → E scr false (d + 2) 12 102 [.ref 24, .int (nI (sk T s.1)), .int b, .int cc, .int 0] [] (wo (pS f e) G J (.ref q)) (fun r h => ∃ x, r = some (Value.int x) ∧ K x h)) → E scr false (d + 2) 12 39 [.ref 24, .int (nI (sk T s.1)), .int b, .null, .null] [.int cc] (wo (pS f e) G J (.ref q)) (fun r h => ∃ x, r = some (Value.int x) ∧ K x h) := by
    intro e b cc he hb h1 h2
    rw [b12_39]
    simp only [lRr scr, w68 hT (TC_pS (q := e) h.1) he]
    simp only [show (61 : Int32) = nI 61 from rfl, hI_eq (show 61 < 256 by decide)]
    by_cases h61 : ch8 T e = 61
    · rw [if_pos h61, b12_57, if_neg n10]
      simp only [lRr scr, tA scr, pS_12, nI_1]
      have e' : up2 (pS f e) 1 2 (nI (e + 1)) = pS f (e + 1) := up_up
      rw [e', b12_77]
      have := h1 h61
      by_cases b0 : b = 0
      · rw [if_pos b0]
        by_cases c0 : cc = 0
        · rw [if_pos c0, if_neg n10]; exact this
        · rw [if_neg c0]; exact this
      · rw [if_neg b0]; exact this
    · rw [if_neg h61, b12_57, if_pos rfl, b12_77]
      have := h2 h61
      by_cases b0 : b = 0
      · rw [if_pos b0]
        by_cases c0 : cc = 0
        · exfalso
          rcases hb with hb | hb | hb
          · exact hb b0
          · exact hb c0
          · exact h61 hb
        · rw [if_neg c0]; exact this
      · rw [if_neg b0]; exact this
  unfold vI
  rw [u12_ok, en12, b12_0]
  simp only [lRr scr, w69 hT h.1 hp, true_and]
  rw [show (60 : Int32) = nI 60 from rfl, w71 hT tc1 sle (by decide), sk_sk, pS_pS, pS_pS]
  by_cases h60 : ch8 T (sk T s.1) = 60
  · have hin := ch8_in (T := T) (p := sk T s.1) (by omega)
    rw [if_pos h60, if_neg n10, b12_38]
    unfold cmR at fin
    rw [if_pos h60] at fin
    apply eqs _ 1 0 hin (Or.inl n10)
    · intro h61
      apply fin 1 1 0 16 _ (by decide)
      · intro x; rw [if_pos x]
      · intro x; rw [if_neg x, if_pos h61]
    · intro h61
      apply fin 0 1 0 15 _ (by decide)
      · intro x; rw [if_pos x]
      · intro x; rw [if_neg x, if_neg h61]
  · rw [if_neg h60, if_pos rfl]
    simp only [lRr scr]
    rw [show (62 : Int32) = nI 62 from rfl, w71 hT tc1 sle (by decide), sk_sk, pS_pS, pS_pS]
    by_cases h62 : ch8 T (sk T s.1) = 62
    · have hin := ch8_in (T := T) (p := sk T s.1) (by omega)
      rw [if_pos h62, if_neg n10]
      unfold cmR at fin
      rw [if_neg h60, if_pos h62] at fin
      apply eqs _ 0 1 hin (Or.inr (Or.inl n10))
      · intro h61
        apply fin 1 0 1 18 _ (by decide)
        · intro x; rw [if_pos x]
        · intro x; rw [if_neg x, if_pos h61]
      · intro h61
        apply fin 0 0 1 19 _ (by decide)
        · intro x; rw [if_pos x]
        · intro x; rw [if_neg x, if_neg h61]
    · rw [if_neg h62, if_pos rfl, b12_38]
      by_cases h61 : ch8 T (sk T s.1) = 61
      · unfold cmR at fin
        rw [if_neg h60, if_neg h62, if_pos h61] at fin
        apply eqs _ 0 0 sle (Or.inr (Or.inr h61))
        · intro _
          apply fin 1 0 0 17 _ (by decide)
          · intro x; rw [if_pos x]
          · intro x; rw [if_neg x]
        · intro x; exact absurd h61 x
      · unfold cmR at hf
        rw [if_neg h60, if_neg h62, if_neg h61] at hf
        have l1 := LCs_pS (a := sk T s.1) hq h
        rw [b12_39]
        simp only [lRr scr, w68 hT tc1 sle]
        simp only [show (61 : Int32) = nI 61 from rfl, hI_eq (show 61 < 256 by decide)]
        rw [if_neg h61, b12_57, if_pos rfl, b12_77, if_pos rfl, if_pos rfl, if_pos rfl]
        simp only [lRr scr]
        rw [show (0 : Int32) = nI 0 from rfl, w70 l1.2.1]
        exact ⟨_, rfl, hf _ _ _ rfl (XC_ft hq FT_3 up2_s l1 (by show s.2.1.length ≤ 400; omega)) (FL_tr FL_p (FL_ft FT_3))⟩
end LW5
