variable {scr : List Int32}
-- ===== the law, read by the class: values, sums, signs =====
section LW4
theorem no99 : ∀ p, p < 167 → p ≠ 24 → (match (LAY[p]? : Option (Nat ⊕ (Nat × List (Option Nat)))) with
    | some (.inr (_, fl)) => fl.all (fun o => decide (o ≠ some 9999))
    | _ => true) = true := by decide +kernel
variable {f G f' G' : Nat → Nat → Int32} {J J' : Nat → Nat → Int64} {c : Value} {d : Nat} {T : Tp} {p q : Nat} {s : Ls}
theorem up2_f {f : Nat → Nat → Int32} {o k o' k' : Nat} {v : Int32} (h : ¬ (o' = o ∧ k' = k)) : up2 f o k v o' k' = f o' k' := by unfold up2; rw [if_neg h]
theorem law_p {T : aH → Prop} : pF (wo f G J c) 24 2 1 (.ref q) T = T (wo f G J (.ref q)) := by
  unfold wo
  have hw : wrF (mk f (fun q => rwN (ln q) (G q)) (fun q => rwN (ln q) (J q)) c) 24 2 1 (.ref q) = some (mk f (fun q => rwN (ln q) (G q)) (fun q => rwN (ln q) (J q)) (.ref q)) := by
    unfold wrF
    rw [mk_at L_lr]
    simp only [cellW]
    rw [if_pos ⟨trivial, by simp, by decide⟩]
    refine congrArg some ?_
    rw [← mk_set L_lr (f' := f) (g' := fun q => rwN (ln q) (G q)) (j' := fun q => rwN (ln q) (J q)) (c' := .ref q)]
    · rfl
    · intro p' x' hp hx
      match x' with
      | .inl t => rfl
      | .inr (ci', fl') =>
        have hl : p' < 167 := by
          have := (List.getElem?_eq_some_iff.mp hx).1
          rw [LAY_len] at this
          exact this
        have hn := no99 p' hl hp
        rw [hx] at hn
        dsimp only at hn
        simp only [cellW]
        refine congrArg Sum.inr (congrArg (Prod.mk ci') ?_)
        apply List.ext_getElem?
        intro i
        rw [List.getElem?_mapIdx, List.getElem?_mapIdx]
        cases e : fl'[i]? with
        | none => rfl
        | some o =>
          have ho : o ∈ fl' := List.mem_of_getElem? e
          have := List.all_eq_true.mp hn o ho
          cases o with
          | none => rfl
          | some r =>
            have hr : ¬ r = 9999 := by
              intro e'
              subst e'
              simp at this
            simp only [Option.map_some, if_neg hr]
  unfold pF
  rw [hw]
  simp
theorem law_r {T : Nat → Prop} : gR scr (wo f G J (.ref q)) 24 2 1 T = T q := by
  unfold wo gR
  have h : rdF scr (mk f (fun q => rwN (ln q) (G q)) (fun q => rwN (ln q) (J q)) (.ref q)) 24 2 1 = some (.ref q) := by
    unfold rdF
    rw [mk_cell L_lr]
    rfl
  rw [h]
  simp
def LCs (f G : Nat → Nat → Int32) (T : Tp) (q : Nat) (s : Ls) : Prop := TC f G T s.1 ∧ f 1 3 = 0 ∧ f 24 2 = nI s.2.2 ∧ f q 3 = nI s.2.1.length ∧ ∀ k, k < s.2.1.length → G (q + 3) k = nI (s.2.1.getD k 0)
def FL (q : Nat) (f G f' G' : Nat → Nat → Int32) : Prop := (∀ o k, ¬ (o = 1 ∧ (k = 2 ∨ k = 3)) → ¬ (o = 24 ∧ k = 2) → ¬ (o = q ∧ k = 3) → f' o k = f o k) ∧ (∀ r k, r ≠ q + 3 → G' r k = G r k)
def XC (f G : Nat → Nat → Int32) (T : Tp) (q x : Nat) : Prop := ITc f G T ∧ f 1 3 = nI x ∧ ∃ n, n ≤ 400 ∧ f q 3 = nI n
theorem FL_tr {f1 G1 f2 G2 : Nat → Nat → Int32} (h : FL q f G f1 G1) (h' : FL q f1 G1 f2 G2) : FL q f G f2 G2 := ⟨fun o k a b e => (h'.1 o k a b e).trans (h.1 o k a b e), fun r k a => (h'.2 r k a).trans (h.2 r k a)⟩
theorem FL_ft (h : FT f f') : FL q f G f' G := ⟨fun o k a _ _ => h o k a, fun _ _ _ => rfl⟩
theorem FL_p {a : Nat} : FL q f G (pS f a) G := FL_ft FT_p
theorem FL_rf : FL q f G f G := ⟨fun _ _ _ _ _ => rfl, fun _ _ _ => rfl⟩
theorem lw_ne (hq : isLw q) : q ≠ 1 ∧ q ≠ 24 ∧ 26 ≤ q ∧ q + 3 ≤ 49 := by rcases hq with rfl | rfl | rfl | rfl | rfl | rfl <;> decide
theorem LCs_pS {a : Nat} (hq : isLw q) (h : LCs f G T q s) : LCs (pS f a) G T q (a, s.2) := ⟨TC_pS h.1, by rw [pS_at (by decide)]; exact h.2.1, by rw [pS_at (by decide)]; exact h.2.2.1, by rw [pS_at (by have := lw_ne hq; omega)]; exact h.2.2.2.1, h.2.2.2.2⟩
theorem XC_ft {x : Nat} (hq : isLw q) (h : FT f f') (h3 : f' 1 3 = nI x) (hL : LCs f G T q s) (hn : s.2.1.length ≤ 400) : XC f' G T q x := ⟨⟨by rw [h 1 1 (by omega)]; exact hL.1.1.1, hL.1.1.2⟩, h3, s.2.1.length, hn, by have := lw_ne hq; rw [h q 3 (by omega)]; exact hL.2.2.2.1⟩
theorem FT_3 {x : Int32} : FT f (up2 f 1 3 x) := fun o k ho => by unfold up2; rw [if_neg (fun e => ho ⟨e.1, Or.inr e.2⟩)]
theorem FT_tr {f1 f2 : Nat → Nat → Int32} (h : FT f f1) (h' : FT f1 f2) : FT f f2 := fun o k a => (h' o k a).trans (h o k a)
theorem w70x (h3 : ¬ f 1 3 = 0) {w k : Int32} {K : Int32 → aH → Prop} : vI scr d 70 [.ref 1, .int w, .int k] (wo f G J c) K = K 0 (wo f G J c) := by
  unfold vI
  rw [u70_ok, en70, b70_0]
  simp only [tA scr, h3, if_false, ex_i, true_and]
theorem nI_nz {x : Nat} (h0 : 0 < x) (h : x < 2 ^ 30) : ¬ nI x = 0 := by
  rw [show (0 : Int32) = nI 0 from rfl]
  simp (disch := omega) only [NC]
  omega
/-- one sign of code more -/
theorem w5 (hq : isLw q) (h : LCs f G T q s) (hn : s.2.1.length < 400) {k : Nat} {K : aH → Prop} (hK : ∀ f' G', LCs f' G' T q (s.1, s.2.1 ++ [k], s.2.2) → FL q f G f' G' → K (wo f' G' J c)) : vV scr d 5 [.ref q, .int (nI k)] (wo f G J c) K := by
  obtain ⟨ne1, ne2, ne3, ne4⟩ := lw_ne hq
  obtain ⟨h1, h2, h3, h4, h5⟩ := h
  have e1 : ¬ (Int32.ofNat (ln (q + 3))) ≤ nI s.2.1.length := by
    rw [show ln (q + 3) = 400 by rcases hq with rfl | rfl | rfl | rfl | rfl | rfl <;> rfl]
    exact nI_ge (a := s.2.1.length) (b := 400) hn (by decide)
  have e0 : ¬ nI s.2.1.length < 0 := by rw [show (0 : Int32) = nI 0 from rfl]; simp (disch := omega) only [NC]; omega
  unfold vV
  rw [u5_ok hq, en5, b5_0]
  simp (disch := omega) only [lW scr hq, h4, e0, if_false, wo_aN (t := 1) (by decide) (by decide) (A_lw_code hq), e1, nI_1, ex_v, true_and]
  refine hK _ _ ⟨⟨⟨?_, ?_⟩, ?_⟩, ?_, ?_, ?_, ?_⟩ ⟨?_, ?_⟩
  · rw [up2_f (by omega)]; exact h1.1.1
  · intro i hi; rw [up2_q (by omega)]; exact h1.1.2 i hi
  · rw [up2_f (by omega)]; exact h1.2
  · rw [up2_f (by omega)]; exact h2
  · rw [up2_f (by omega)]; exact h3
  · rw [up2_s]
    show nI _ = nI (s.2.1 ++ [k]).length
    rw [List.length_append]
    rfl
  · intro i hi
    have hi : i < (s.2.1 ++ [k]).length := hi
    rw [List.length_append] at hi
    simp only [List.length_cons, List.length_nil] at hi
    show _ = nI ((s.2.1 ++ [k]).getD i 0)
    by_cases e : i = s.2.1.length
    · subst e
      rw [up2_s, List.getD_eq_getElem?_getD, List.getElem?_append_right (Nat.le_refl _), Nat.sub_self]
      rfl
    · rw [up2_k (by omega), h5 i (by omega), List.getD_eq_getElem?_getD, List.getD_eq_getElem?_getD, List.getElem?_append_left (by omega)]
  · intro o k' a b e; exact up2_f (by omega)
  · intro r k' a; exact up2_q a
theorem w5x {x : Nat} (hq : isLw q) (h : XC f G T q x) {k : Int32} {K : aH → Prop} (hK : ∀ f' G', XC f' G' T q x → FL q f G f' G' → K (wo f' G' J c)) : vV scr d 5 [.ref q, .int k] (wo f G J c) K := by
  obtain ⟨ne1, ne2, ne3, ne4⟩ := lw_ne hq
  have h0 := h
  obtain ⟨h1, h2, n, h3, h4⟩ := h
  have eL : ln (q + 3) = 400 := by rcases hq with rfl | rfl | rfl | rfl | rfl | rfl <;> rfl
  have e0 : ¬ nI n < 0 := by rw [show (0 : Int32) = nI 0 from rfl]; simp (disch := omega) only [NC]; omega
  unfold vV
  rw [u5_ok hq, en5, b5_0]
  by_cases hn : n < 400
  · have e1 : ¬ (Int32.ofNat (ln (q + 3))) ≤ nI n := by
      rw [eL]
      exact nI_ge (a := n) (b := 400) hn (by decide)
    simp (disch := omega) only [lW scr hq, h4, e0, if_false, wo_aN (t := 1) (by decide) (by decide) (A_lw_code hq), e1, nI_1, ex_v, true_and]
    refine hK _ _ ⟨⟨?_, ?_⟩, ?_, n + 1, hn, up2_s⟩ ⟨?_, ?_⟩
    · rw [up2_f (by omega)]; exact h1.1
    · intro i hi; rw [up2_q (by omega)]; exact h1.2 i hi
    · rw [up2_f (by omega)]; exact h2
    · intro o k' a b e; exact up2_f (by omega)
    · intro r k' a; exact up2_q a
  · have e1 : (Int32.ofNat (ln (q + 3))) ≤ nI n := by
      rw [eL]
      exact nI_le (a := 400) (b := n) (by omega) (by omega)
    simp (disch := omega) only [lW scr hq, h4, e0, if_false, wo_aN (t := 1) (by decide) (by decide) (A_lw_code hq), e1, if_true, ex_v, true_and]
    exact hK _ _ h0 FL_rf
theorem w17 (h3 : f 1 3 = 0) {z a : Nat} (hz : f 24 2 = nI z) (hz6 : z ≤ 60) {K : Int32 → aH → Prop} : vI scr (d + 1) 17 [.ref 24, .int (nI a)] (wo f G J c) K = if 60 ≤ z then K 0 (wo (up2 f 1 3 (nI (1 + 8 * a + 3))) G J c) else K 1 (wo (up2 f 24 2 (nI (z + 1))) G J c) := by
  unfold vI
  rw [u17_ok, en17, b17_0]
  simp (disch := omega) only [lRr scr, hz, show (60 : Int32) = nI 60 from rfl, NC, nI_1, true_and]
  by_cases h : 60 ≤ z
  · rw [if_pos h, if_neg (by omega), show (3 : Int32) = nI 3 from rfl, w70 h3, ex_i]
    simp
  · rw [if_neg h, if_pos (by omega), ex_i]
theorem vo_oI {a : Nat} {K : Int32 → aH → Prop} (hT : TX T) (h : TC f G T p) (hp : p ≤ T.1) : vI scr (d + 5) 72 [.ref 1, .ref 20004] (wo f G J c) K = (match voO T (sk T p) with
    | none => K (-1) (wo (pS f (sk T p)) G J c)
    | some x => K (nI x) (wo (pS f (we T (sk T p))) G J c)) := by
  have := w72 (scr := scr) (J := J) (c := c) (d := d) (K := K) hT h hp (i := 4) (by decide)
  rw [tw4] at this
  exact this
theorem vaR_sk {z : Nat} : vaR T (sk T p) z = vaR T p z := by
  unfold vaR
  rw [sk_sk, nuR_sk]
theorem w16 (hT : TX T) (hq : isLw q) (h : LCs f G T q s) (hp : s.1 ≤ T.1) (hz : s.2.2 ≤ 60) (hn : s.2.1.length < 400) {K : Int32 → aH → Prop} (hf : ∀ x f' G', vaR T s.1 s.2.2 = .inl x → XC f' G' T q x → FL q f G f' G' → K 0 (wo f' G' J (.ref q))) (hg : ∀ k e f' G', vaR T s.1 s.2.2 = .inr (k, e) → LCs f' G' T q (e, s.2.1 ++ [k], s.2.2 + 1) → FL q f G f' G' → K 1 (wo f' G' J (.ref q))) : vI scr (d + 6) 16 [.ref 24] (wo f G J (.ref q)) K := by
  obtain ⟨ne1, ne2, ne3, ne4⟩ := lw_ne hq
  have sle := sk_le (T := T) hp
  have h1 := LCs_pS (a := sk T s.1) hq h
  have tc1 : TC (pS f (sk T s.1)) G T (sk T s.1) := h1.1
  -- what comes behind a value
  have fin : ∀ k e l2 v, (if l2 = 0 then nI v else 32 + nI v) = nI k → (v < 2 ^ 30) → (60 ≤ s.2.2 → vaR T s.1 s.2.2 = .inl (1 + 8 * sk T s.1 + 3)) → (¬ 60 ≤ s.2.2 → vaR T s.1 s.2.2 = .inr (k, e)) → E scr false (d + 6) 16 42 [.ref 24, .int (nI (sk T s.1)), .int l2, .null] [.int (nI v)] (wo (pS f e) G J (.ref q)) (fun r h => ∃ x, r = some (Value.int x) ∧ K x h) := by
    intro k e l2 v hk hv hb hgd
    have h2 := LCs_pS (a := e) hq h
    rw [b16_42, show (0 : Int32) = nI 0 from rfl]
    simp (disch := omega) only [NC, Nat.zero_le, if_true]
    rw [w17 (d := d + 4) h2.2.1 h2.2.2.1 hz]
    by_cases h60 : 60 ≤ s.2.2
    · rw [if_pos h60]
      simp only [show nI 0 = (0 : Int32) from rfl, if_true]
      exact ⟨_, rfl, hf _ _ _ (hb h60) (XC_ft hq FT_3 up2_s h2 (by show s.2.1.length ≤ 400; omega)) (FL_tr FL_p (FL_ft FT_3))⟩
    · rw [if_neg h60]
      simp only [show nI 0 = (0 : Int32) from rfl, n10, if_false, law_r]
      have h3 : LCs (up2 (pS f e) 24 2 (nI (s.2.2 + 1))) G T q (e, s.2.1, s.2.2 + 1) := ⟨⟨⟨by rw [up2_f (by decide)]; exact h2.1.1.1, h2.1.1.2⟩, by rw [up2_f (by decide)]; exact h2.1.2⟩, by rw [up2_f (by decide)]; exact h2.2.1, up2_s, by rw [up2_f (by omega)]; exact h2.2.2.2.1, h2.2.2.2.2⟩
      have fl3 : FL q f G (up2 (pS f e) 24 2 (nI (s.2.2 + 1))) G := FL_tr FL_p ⟨fun o k a b e => up2_f (by omega), fun _ _ _ => rfl⟩
      have last : E scr false (d + 6) 16 83 [.ref 24, .int (nI (sk T s.1)), .int l2, .int (nI v)] [.int (nI k), .ref q] (wo (up2 (pS f e) 24 2 (nI (s.2.2 + 1))) G J (.ref q)) (fun r h => ∃ x, r = some (Value.int x) ∧ K x h) := by
        rw [b16_83]
        apply w5 hq h3 hn
        intro f' G' l4 fl4
        exact ⟨_, rfl, hg k e f' G' (hgd h60) l4 (FL_tr fl3 fl4)⟩
      by_cases hl : l2 = 0
      · rw [if_pos hl] at hk ⊢; rw [hk]; rw [hk] at last; exact last
      · rw [if_neg hl] at hk ⊢; rw [hk]; exact last
  unfold vI
  rw [u16_ok, en16, b16_0]
  simp only [lRr scr, w69 hT h.1 hp, w74 hT tc1 sle, true_and]
  cases hd : dgB (ch8 T (sk T s.1)) with
  | false =>
    simp only [bz_f, if_true, vo_oI (a := 0) hT tc1 sle, sk_sk, pS_pS]
    unfold vaR at hf hg fin
    rw [hd] at hf hg fin
    simp only [Bool.false_eq_true, if_false] at hf hg fin
    cases hv : voO T (sk T s.1) with
    | none =>
      rw [hv] at hf
      dsimp only at hf ⊢
      rw [b16_42, if_neg (show ¬ ((0 : Int32) ≤ -1) by decide)]
      simp only [lRr scr]
      rw [show (0 : Int32) = nI 0 from rfl, w70 h1.2.1]
      refine ⟨by decide, _, rfl, hf _ _ _ rfl (XC_ft hq FT_3 up2_s h1 (by show s.2.1.length ≤ 400; omega)) (FL_tr FL_p (FL_ft FT_3))⟩
    | some k =>
      rw [hv] at fin
      dsimp only at fin ⊢
      have := (vo_lt hv).1
      apply fin k _ 0 k (by rw [if_pos rfl]) (by omega)
      · intro h; rw [if_pos h]
      · intro h; rw [if_neg h]
  | true =>
    simp only [bz_t, n10, if_false, lRr scr]
    rw [show (0 : Int32) = nI 0 from rfl, show (99999 : Int32) = nI 99999 from rfl]
    unfold vaR at hf hg fin
    rw [hd] at hf hg fin
    simp only [if_true] at hf hg fin
    apply w75 (d := d + 4) hT tc1 sle h1.2.1 (by decide) (by decide)
    · intro x f1 hx e3 fr
      rw [nuR_sk] at hx
      rw [hx] at hf
      dsimp only at hf
      obtain ⟨x0, x25⟩ := nu_x (by have := hT.1; omega) hT hx
      rw [b16_42, if_neg (show ¬ ((0 : Int32) ≤ -1) by decide)]
      simp only [lRr scr]
      rw [w70x (by rw [e3]; exact nI_nz x0 (by omega))]
      refine ⟨by decide, _, rfl, hf _ _ _ rfl (XC_ft hq fr e3 h1 (by show s.2.1.length ≤ 400; omega)) (FL_tr FL_p (FL_ft fr))⟩
    · intro v e hx
      rw [nuR_sk] at hx
      rw [hx] at fin
      dsimp only at fin
      have := (nu_le hp hx).2.1
      rw [pS_pS]
      apply fin (32 + v) e 1 v (by rw [if_neg n10, show (32 : Int32) = nI 32 from rfl, nI_add]) (by omega)
      · intro h; rw [if_pos h]
      · intro h; rw [if_neg h]
theorem s15 {K : Int32 → aH → Prop} {h : aH} : sI scr d 15 [.int (hI T p)] h K = K (oI (wkO (ch8 T p))) h := by
  unfold sI
  rw [en15, b15_0]
  simp only [show (37 : Int32) = nI 37 from rfl, show (38 : Int32) = nI 38 from rfl, show (39 : Int32) = nI 39 from rfl, show (40 : Int32) = nI 40 from rfl, show (41 : Int32) = nI 41 from rfl, show (42 : Int32) = nI 42 from rfl, show (43 : Int32) = nI 43 from rfl, show (44 : Int32) = nI 44 from rfl, show (45 : Int32) = nI 45 from rfl, show (46 : Int32) = nI 46 from rfl, show (47 : Int32) = nI 47 from rfl, hI_eq (show 37 < 256 by decide), hI_eq (show 38 < 256 by decide), hI_eq (show 39 < 256 by decide), hI_eq (show 40 < 256 by decide), hI_eq (show 41 < 256 by decide), hI_eq (show 42 < 256 by decide), hI_eq (show 43 < 256 by decide), hI_eq (show 44 < 256 by decide), hI_eq (show 45 < 256 by decide), hI_eq (show 46 < 256 by decide), hI_eq (show 47 < 256 by decide), b15_60, b15_63, b15_66, b15_69, b15_72, b15_75, ex_i]
  unfold wkO
  by_cases h1 : ch8 T p = 37
  · simp [h1, oI, show nI 14 = (14 : Int32) from rfl]
  · by_cases h2 : ch8 T p = 42
    · simp [h2, oI, show nI 12 = (12 : Int32) from rfl]
    · by_cases h3 : ch8 T p = 43
      · simp [h3, oI, show nI 10 = (10 : Int32) from rfl]
      · by_cases h4 : ch8 T p = 45
        · simp [h4, oI, show nI 11 = (11 : Int32) from rfl]
        · by_cases h5 : ch8 T p = 47
          · simp [h5, oI, show nI 13 = (13 : Int32) from rfl]
          · simp [h1, h2, h3, h4, h5, oI]
theorem w14 (hT : TX T) (h : TC f G T p) (hp : p ≤ T.1) {K : Int32 → aH → Prop} : vI scr (d + 1) 14 [.ref 24] (wo f G J c) K = (match wkO (ch8 T (sk T p)) with
    | none => K (-1) (wo (pS f (sk T p)) G J c)
    | some k => K (nI k) (wo (pS f (sk T p + 1)) G J c)) := by
  unfold vI
  rw [u14_ok, en14, b14_0]
  simp only [lRr scr, w69 hT h hp, w68 hT (TC_pS (q := sk T p) h) (sk_le hp), s15, true_and, tA scr, pS_12, nI_1]
  cases e : wkO (ch8 T (sk T p)) with
  | none =>
    dsimp only
    rw [show oI none = (-1 : Int32) from rfl, if_pos (show (-1 : Int32) < 0 by decide), ex_i]
  | some k =>
    dsimp only
    have := (wk_in e).2
    rw [show oI (some k) = nI k from rfl, if_neg (by rw [show (0 : Int32) = nI 0 from rfl]; simp (disch := omega) only [NC]; omega), ex_i]
    have e : up2 (pS f (sk T p)) 1 2 (nI (sk T p + 1)) = pS f (sk T p + 1) := up_up
    rw [e]
end LW4
