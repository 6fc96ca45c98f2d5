variable {scr : List Int32}
-- ===== the law, read by the model: sums, comparing =====
section LM3
variable {f G f' G' : Nat → Nat → Int32} {J J' : Nat → Nat → Int64} {c : Value} {d : Nat} {T : Tp} {p q r b : Nat} {s : Ls}
def NXs (scr : List Int32) (d : Nat) (K : Option Value → aH → Prop) (l : Value) (w : Option Nat) (h : aH) : Prop := match w with
  | none => E scr false (d + 7) 153 4 [.ref 125, l] [] h K
  | some k => vV scr (d + 6) 148 [.ref 125, .int (nI (soM k)), .int 0] h (fun h5 => E scr false (d + 7) 153 4 [.ref 125, .int (nI (soM k))] [] h5 K)
theorem nxs_x {x : Nat} {K : Option Value → aH → Prop} {l : Value} {w : Option Nat} (h : XM b f G T x) : NXs scr d K l w (wo f G J c) = K none (wo f G J c) := by
  cases w with
  | none => exact m153_4x h
  | some k =>
    show vV scr (d + 6) 148 [.ref 125, .int (nI (soM k)), .int 0] (wo f G J c) (fun h5 => E scr false (d + 7) 153 4 [.ref 125, .int (nI (soM k))] [] h5 K) = _
    rw [m148x h, m153_4x h]
theorem wk_c {x k : Nat} (h : wkO x = some k) : (k = 10 ∧ x = 43) ∨ (k = 11 ∧ x = 45) ∨ (k = 12 ∧ x = 42) ∨ (k = 13 ∧ x = 47) ∨ (k = 14 ∧ x = 37) := by
  unfold wkO at h
  repeat' split at h
  all_goals first | (cases h; omega) | cases h
theorem wk_n {x : Nat} (h : wkO x = none) : x ≠ 43 ∧ x ≠ 45 ∧ x ≠ 42 ∧ x ≠ 47 ∧ x ≠ 37 := by
  unfold wkO at h
  repeat' split at h
  all_goals first | (cases h; done) | omega
/-- a term's loop leaves with a sign that is not its own, or none -/
theorem m152_out (hT : TX T) (h : LMs f G T r s) (hp : s.1 ≤ T.1) (h42 : ch8 T s.1 ≠ 42) (h47 : ch8 T s.1 ≠ 47) (h37 : ch8 T s.1 ≠ 37) {l1 : Value} {K : Option Value → aH → Prop} : E scr false (d + 1) 152 8 [.ref 125, l1] [] (wo f G J c) K = K none (wo f G J c) := by
  have h400 := hT.1
  rw [b152_8]
  simp only [mO scr, h.2.1, if_true, m143 hT h.1 (show s.1 < 2 ^ 20 by omega), show (42 : Int32) = nI 42 from rfl, show (47 : Int32) = nI 47 from rfl, show (37 : Int32) = nI 37 from rfl, hI_eq (show 42 < 256 by decide), hI_eq (show 47 < 256 by decide), hI_eq (show 37 < 256 by decide), h42, h47, h37, if_false]
theorem sm_lp (hT : TX T) (hr : r < 6) {K : Option Value → aH → Prop} : ∀ u w (s : Ls) f G (l l1 : Value), (∀ k, w = some k → k = 10 ∨ k = 11) → LMs f G T r (sk T s.1, s.2) → s.1 ≤ T.1 → s.2.2 ≤ 60 → T.1 - s.1 < u → 3 * (s.2.1.length + (oC w).length) ≤ 6 * s.2.2 + s.1 →
    (∀ x f' G', suL T u w s = .inl x → XM 400 f' G' T x → FM r f G f' G' → K none (wo f' G' J c)) →
    (∀ s' f' G', suL T u w s = .inr s' → LMs f' G' T r s' → FM r f G f' G' → K none (wo f' G' J c)) →
    E scr false (d + 6) 152 8 [.ref 125, l1] [] (wo f G J c) (fun rr h => rr = none ∧ NXs scr d K l w h) := by
  have h400 := hT.1
  intro u
  induction u with
  | zero => intro w s f G l l1 _ _ _ _ hu; omega
  | succ u ih =>
    intro w s f G l l1 hw hL hp hz hu hb hf hg
    have sle := sk_le (T := T) hp
    have sge := sk_ge (T := T) (p := s.1)
    have ole := oC_l (w := w)
    have e20 : f 125 20 = nI (sk T s.1) := hL.1.2
    simp only [suL] at hf hg
    -- behind a value that a sign of the term's calls for
    have star : ∀ k, 12 ≤ k → k ≤ 14 → wkO (ch8 T (sk T s.1)) = some k → E scr false (d + 6) 152 72 [.ref 125, l1] [.int (nI (soM k))] (wo f G J c) (fun rr h => rr = none ∧ NXs scr d K l w h) := by
      intro k k1 k2 hk
      rw [hk] at hf hg
      dsimp only at hf hg
      have hin := ch8_in (wk_in hk).1
      rw [b152_72]
      simp only [mO scr, e20, nI_1]
      have l2 : LMs (mS f (sk T s.1 + 1)) G T r (sk T s.1 + 1, s.2) := LMs_mS (s := (sk T s.1, s.2)) (a := sk T s.1 + 1) hL
      apply m151 (d := d) hT hr l2 hin hz (by show s.2.1.length < 300; omega)
      · intro x f2 G2 hx x2 fm2
        dsimp only at hx
        rw [hx] at hf
        obtain ⟨q, hq, mt⟩ := XM_MT x2
        have x3 := XM_mS (sk_b hT (by omega) hq) x2
        rw [m148x x2, m144 hT mt (by omega), b152_8]
        simp only [mO scr, XM_ne x3, if_false]
        rw [nxs_x x3]
        exact ⟨trivial, hf x _ _ rfl x3 (FM_tr (FM_u (by omega)) (FM_tr fm2 FM_m))⟩
      · intro v e f2 G2 hx l3 fm2
        dsimp only at hx l3
        obtain ⟨a1, a2, a3, a4⟩ := va_ok hin hx
        rw [hx] at hf hg
        dsimp only at hf hg
        simp only [if_neg (show ¬ k < 12 by omega)] at hf hg
        have e0 : nuM k = 0 := by unfold nuM; rw [if_neg (by omega), if_neg (by omega)]
        have key := m148 (scr := scr) (J := J) (c := c) (d := d + 5) (k := k) hr l3 (by show (s.2.1 ++ [v]).length < 300; rw [List.length_append]; simp only [List.length_cons, List.length_nil]; omega) (K := fun h5 => vV scr (d + 5) 144 [.ref 125] h5 (fun h7 : aH => E scr false (d + 6) 152 8 [.ref 125, .int (nI (soM k))] [] h7 (fun rr h => rr = none ∧ NXs scr d K l w h)))
        rw [e0] at key
        apply key
        intro f3 G3 l4 fm3
        have mt4 : MT f3 G3 T e := l4.1
        rw [m144 hT mt4 (by omega)]
        have l5 := LMs_mS (a := sk T e) l4
        apply ih w (e, (s.2.1 ++ [v]) ++ [k], s.2.2 + 1) _ _ _ _ hw l5 a2 (by show s.2.2 + 1 ≤ 60; omega) (by show T.1 - e < u; omega)
        · show 3 * (((s.2.1 ++ [v]) ++ [k]).length + (oC w).length) ≤ 6 * (s.2.2 + 1) + e
          simp only [List.length_append, List.length_cons, List.length_nil]
          omega
        · intro x f4 G4 hx4 x4 fm4
          exact hf x f4 G4 hx4 x4 (FM_tr (FM_u (by omega)) (FM_tr fm2 (FM_tr fm3 (FM_tr FM_m fm4))))
        · intro s' f4 G4 hx4 l4 fm4
          exact hg s' f4 G4 hx4 l4 (FM_tr (FM_u (by omega)) (FM_tr fm2 (FM_tr fm3 (FM_tr FM_m fm4))))
    -- behind a term
    have tail : ∀ f1 G1 (l0 : Value), (wkO (ch8 T (sk T s.1)) = none ∨ wkO (ch8 T (sk T s.1)) = some 10 ∨ wkO (ch8 T (sk T s.1)) = some 11) → LMs f1 G1 T r (sk T s.1, s.2.1 ++ oC w, s.2.2) → FM r f G f1 G1 → E scr false (d + 7) 153 4 [.ref 125, l0] [] (wo f1 G1 J c) K := by
      intro f1 G1 l0 hk3 l1 fm1
      have mt1 : MT f1 G1 T (sk T s.1) := l1.1
      have e21 := l1.2.1
      have plus : ∀ k, wkO (ch8 T (sk T s.1)) = some k → k = 10 ∨ k = 11 → E scr false (d + 7) 153 43 [.ref 125, l0] [.int (nI (soM k))] (wo f1 G1 J c) K := by
        intro k hk k1011
        rw [hk] at hf hg
        dsimp only at hf hg
        have hin := ch8_in (wk_in hk).1
        have hlen : (s.2.1 ++ oC w).length = s.2.1.length + (oC w).length := List.length_append
        rw [b153_43]
        simp only [mO scr, mt1.2, nI_1]
        unfold vV
        rw [u152_ok, en152, b152_0]
        refine ⟨rfl, ?_⟩
        have l2 : LMs (mS f1 (sk T s.1 + 1)) G1 T r (sk T s.1 + 1, s.2.1 ++ oC w, s.2.2) := LMs_mS (a := sk T s.1 + 1) l1
        apply m151 (d := d) hT hr l2 hin hz (by show (s.2.1 ++ oC w).length < 300; omega)
        · intro x f2 G2 hx x2 fm2
          dsimp only at hx
          rw [hx] at hf
          obtain ⟨q, hq, mt⟩ := XM_MT x2
          have x3 := XM_mS (sk_b hT (by omega) hq) x2
          rw [m144 hT mt (by omega), b152_8]
          simp only [mO scr, XM_ne x3, if_false]
          refine ⟨trivial, ?_⟩
          have := nxs_x (scr := scr) (J := J) (c := c) (d := d) (K := K) (l := .null) (w := some k) x3
          refine this.mpr ?_
          exact hf x _ _ rfl x3 (FM_tr fm1 (FM_tr (FM_u (by omega)) (FM_tr fm2 FM_m)))
        · intro v e f2 G2 hx l3 fm2
          dsimp only at hx l3
          obtain ⟨a1, a2, a3, a4⟩ := va_ok hin hx
          rw [hx] at hf hg
          dsimp only at hf hg
          simp only [if_pos (show k < 12 by omega)] at hf hg
          have mt3 : MT f2 G2 T e := l3.1
          rw [m144 hT mt3 (by omega)]
          have l5 := LMs_mS (a := sk T e) l3
          have nx := ih (some k) (e, (s.2.1 ++ oC w) ++ [v], s.2.2 + 1) (mS f2 (sk T e)) G2 .null .null (fun k' e => by cases e; omega) l5 a2 (by show s.2.2 + 1 ≤ 60; omega) (by show T.1 - e < u; omega) (by
            show 3 * (((s.2.1 ++ oC w) ++ [v]).length + 1) ≤ 6 * (s.2.2 + 1) + e
            simp only [List.length_append, List.length_cons, List.length_nil]
            omega) (fun x f4 G4 hx4 x4 fm4 => hf x f4 G4 hx4 x4 (FM_tr fm1 (FM_tr (FM_u (by omega)) (FM_tr fm2 (FM_tr FM_m fm4))))) (fun s' f4 G4 hx4 l4 fm4 => hg s' f4 G4 hx4 l4 (FM_tr fm1 (FM_tr (FM_u (by omega)) (FM_tr fm2 (FM_tr FM_m fm4)))))
          exact nx
      rw [b153_4]
      simp only [mO scr, e21, if_true, m143 hT mt1 (show sk T s.1 < 2 ^ 20 by omega), show (43 : Int32) = nI 43 from rfl, show (45 : Int32) = nI 45 from rfl, hI_eq (show 43 < 256 by decide), hI_eq (show 45 < 256 by decide)]
      have to29 : ∀ k, wkO (ch8 T (sk T s.1)) = some k → k = 10 ∨ k = 11 → E scr false (d + 7) 153 29 [.ref 125, l0] [] (wo f1 G1 J c) K := by
        intro k hk k1011
        have := plus k hk k1011
        rw [b153_29]
        simp only [m143 hT mt1 (show sk T s.1 < 2 ^ 20 by omega), show (43 : Int32) = nI 43 from rfl, hI_eq (show 43 < 256 by decide)]
        rcases wk_c hk with ⟨e, ec⟩ | ⟨e, ec⟩ | ⟨e, ec⟩ | ⟨e, ec⟩ | ⟨e, ec⟩
        · subst e; rw [if_pos ec]; exact this
        · subst e; rw [if_neg (by omega)]; exact this
        · omega
        · omega
        · omega
      rcases hk3 with hk | hk | hk
      · obtain ⟨n1, n2, -⟩ := wk_n hk
        rw [hk] at hg
        rw [if_neg n1, if_neg n2]
        exact hg _ _ _ rfl l1 fm1
      · have ec : ch8 T (sk T s.1) = 43 := by rcases wk_c hk with h | h | h | h | h <;> omega
        rw [if_pos ec]
        exact to29 10 hk (Or.inl rfl)
      · have ec : ch8 T (sk T s.1) = 45 := by rcases wk_c hk with h | h | h | h | h <;> omega
        rw [if_neg (by omega), if_pos ec]
        exact to29 11 hk (Or.inr rfl)
    have leave : (wkO (ch8 T (sk T s.1)) = none ∨ wkO (ch8 T (sk T s.1)) = some 10 ∨ wkO (ch8 T (sk T s.1)) = some 11) → ch8 T (sk T s.1) ≠ 42 → ch8 T (sk T s.1) ≠ 47 → ch8 T (sk T s.1) ≠ 37 → E scr false (d + 6) 152 8 [.ref 125, l1] [] (wo f G J c) (fun rr h => rr = none ∧ NXs scr d K l w h) := by
      intro h3 n1 n2 n3
      rw [m152_out (s := (sk T s.1, s.2)) hT hL sle n1 n2 n3]
      refine ⟨rfl, ?_⟩
      cases w with
      | none =>
        show E scr false (d + 7) 153 4 [.ref 125, l] [] (wo f G J c) K
        apply tail f G l h3 _ FM_rf
        simp only [oC, List.append_nil]
        exact hL
      | some k =>
        show vV scr (d + 6) 148 [.ref 125, .int (nI (soM k)), .int 0] (wo f G J c) (fun h5 => E scr false (d + 7) 153 4 [.ref 125, .int (nI (soM k))] [] h5 K)
        have k1011 := hw k rfl
        have e0 : nuM k = 0 := by unfold nuM; rw [if_neg (by omega), if_neg (by omega)]
        have key := m148 (scr := scr) (J := J) (c := c) (d := d + 6) (k := k) hr hL (by show s.2.1.length < 300; omega) (K := fun h5 => E scr false (d + 7) 153 4 [.ref 125, .int (nI (soM k))] [] h5 K)
        rw [e0] at key
        apply key
        intro f1 G1 l2 fm1
        exact tail f1 G1 _ h3 l2 fm1
    cases hk : wkO (ch8 T (sk T s.1)) with
    | none =>
      obtain ⟨n1, n2, n3, n4, n5⟩ := wk_n hk
      exact leave (Or.inl hk) n3 n4 n5
    | some k =>
      have mt : MT f G T (sk T s.1) := hL.1
      have hh : ∀ {K : Int32 → aH → Prop}, vI scr (d + 5) 143 [.ref 125] (wo f G J c) K = K (hI T (sk T s.1)) (wo f G J c) := fun {K} => m143 hT mt (show sk T s.1 < 2 ^ 20 by omega)
      rcases wk_c hk with ⟨e, ec⟩ | ⟨e, ec⟩ | ⟨e, ec⟩ | ⟨e, ec⟩ | ⟨e, ec⟩
      · exact leave (Or.inr (Or.inl (by rw [hk, e]))) (by omega) (by omega) (by omega)
      · exact leave (Or.inr (Or.inr (by rw [hk, e]))) (by omega) (by omega) (by omega)
      · have := star k (by omega) (by omega) hk
        subst e
        rw [b152_8]
        simp only [mO scr, hL.2.1, if_true, hh, show (42 : Int32) = nI 42 from rfl, hI_eq (show 42 < 256 by decide), ec]
        rw [b152_42]
        simp only [hh, show (42 : Int32) = nI 42 from rfl, hI_eq (show 42 < 256 by decide), ec, if_true]
        exact this
      · have := star k (by omega) (by omega) hk
        subst e
        rw [b152_8]
        simp only [mO scr, hL.2.1, if_true, hh, show (42 : Int32) = nI 42 from rfl, show (47 : Int32) = nI 47 from rfl, hI_eq (show 42 < 256 by decide), hI_eq (show 47 < 256 by decide), ec, Nat.reduceEqDiff, if_false]
        rw [b152_42]
        simp only [hh, show (42 : Int32) = nI 42 from rfl, show (47 : Int32) = nI 47 from rfl, hI_eq (show 42 < 256 by decide), hI_eq (show 47 < 256 by decide), ec, Nat.reduceEqDiff, if_false, if_true]
        exact this
      · have := star k (by omega) (by omega) hk
        subst e
        rw [b152_8]
        simp only [mO scr, hL.2.1, if_true, hh, show (42 : Int32) = nI 42 from rfl, show (47 : Int32) = nI 47 from rfl, show (37 : Int32) = nI 37 from rfl, hI_eq (show 42 < 256 by decide), hI_eq (show 47 < 256 by decide), hI_eq (show 37 < 256 by decide), ec, Nat.reduceEqDiff, if_false]
        rw [b152_42]
        simp only [hh, show (42 : Int32) = nI 42 from rfl, show (47 : Int32) = nI 47 from rfl, hI_eq (show 42 < 256 by decide), hI_eq (show 47 < 256 by decide), ec, Nat.reduceEqDiff, if_false]
        exact this
theorem m153 (hT : TX T) (hr : r < 6) (h : LMs f G T r s) (hp : s.1 ≤ T.1) (hz : s.2.2 ≤ 60) (hb : 3 * s.2.1.length ≤ 6 * s.2.2 + s.1) {K : aH → Prop} (hf : ∀ x f' G', suR T s = .inl x → XM 400 f' G' T x → FM r f G f' G' → K (wo f' G' J c)) (hg : ∀ s' f' G', suR T s = .inr s' → LMs f' G' T r s' → FM r f G f' G' → K (wo f' G' J c)) : vV scr (d + 7) 153 [.ref 125] (wo f G J c) K := by
  have h400 := hT.1
  unfold suR at hf hg
  unfold vV
  rw [u153_ok, en153, b153_0]
  refine ⟨rfl, ?_⟩
  unfold vV
  rw [u152_ok, en152, b152_0]
  refine ⟨rfl, ?_⟩
  apply m151 (d := d) hT hr h hp hz (by omega)
  · intro x f2 G2 hx x2 fm2
    rw [hx] at hf
    obtain ⟨q, hq, mt⟩ := XM_MT x2
    have x3 := XM_mS (sk_b hT (by omega) hq) x2
    rw [m144 hT mt (by omega), b152_8]
    simp only [mO scr, XM_ne x3, if_false]
    refine ⟨trivial, ?_⟩
    rw [m153_4x x3]
    exact ⟨rfl, hf x _ _ rfl x3 (FM_tr fm2 FM_m)⟩
  · intro v e f2 G2 hx l3 fm2
    obtain ⟨a1, a2, a3, a4⟩ := va_ok hp hx
    rw [hx] at hf hg
    dsimp only at hf hg
    have mt3 : MT f2 G2 T e := l3.1
    rw [m144 hT mt3 (by omega)]
    have l5 := LMs_mS (a := sk T e) l3
    exact sm_lp (scr := scr) (J := J) (c := c) (d := d) hT hr (K := fun rr h => rr = none ∧ K h) 401 none (e, s.2.1 ++ [v], s.2.2 + 1) (mS f2 (sk T e)) G2 .null .null (fun k' e => by cases e) l5 a2 (by show s.2.2 + 1 ≤ 60; omega) (by show T.1 - e < 401; omega) (by
      show 3 * ((s.2.1 ++ [v]).length + 0) ≤ 6 * (s.2.2 + 1) + e
      simp only [List.length_append, List.length_cons, List.length_nil]
      omega) (fun x f4 G4 hx4 x4 fm4 => ⟨rfl, hf x f4 G4 hx4 x4 (FM_tr fm2 (FM_tr FM_m fm4))⟩) (fun s' f4 G4 hx4 l4 fm4 => ⟨rfl, hg s' f4 G4 hx4 l4 (FM_tr fm2 (FM_tr FM_m fm4))⟩)
end LM3
