variable {scr : List Int32}
-- ===== the model's gates =====
section BH
variable {f G f' G' : Nat → Nat → Int32} {J J' : Nat → Nat → Int64} {c : Value} {d : Nat} {P : Pn}
theorem MS_140 (h : ∀ q k, q ≠ 140 → q ≠ 141 → G' q k = G q k) (hm : MS G P) : MS G' P := by
  unfold MS at hm ⊢
  simp only [h 126 _ (by decide) (by decide), h 127 _ (by decide) (by decide), h 128 _ (by decide) (by decide), h 129 _ (by decide) (by decide)]
  exact hm
theorem fg_way (hP : wfP P) {s : St} {i : Nat} (hb : BV P s i 0) (hi : i < s.2.2) {K : Option Value → aH → Prop} : ∀ m k, 8 - k = m → k ≤ 8 → ∀ G, MS G P → SR 140 141 G (bfR P s i k) → (∀ G', SR 140 141 G' (bfR P s i 8) → (∀ q k, q ≠ 140 → q ≠ 141 → G' q k = G q k) → ∀ l3 l4 : Value, E scr false (d + 3) 135 73 [.ref 125, .int (nI (bfR P s i 8).2.2), .int (nI (i + 1)), l3, l4] [] (wo f G' J c) K) → ∀ l4 : Value, E scr false (d + 3) 135 80 [.ref 125, .int (nI (bfR P s i k).2.2), .int (nI i), .int (nI k), l4] [] (wo f G J c) K := by
  intro m
  induction m with
  | zero =>
    intro k hm hk G hs hr hK l4
    have e : k = 8 := by omega
    subst e
    rw [b135_80]
    simp (disch := omega) only [LI, NC, Nat.le_refl, if_true, nI_1]
    exact hK G hr (fun _ _ _ _ => rfl) _ _
  | succ m ih =>
    intro k hm hk G hs hr hK l4
    obtain ⟨bv, be, bq, bd⟩ := bv_R hP hb hi k (by omega)
    have deep := bv_deep hP hb hi
    have eQ := hr.2 i be
    have q144 := th_lt hP (bv.1 i be).1
    have e144 := bv_le hP bv
    have next : ∀ G', MS G' P → SR 140 141 G' (bfR P s i (k + 1)) → (∀ q k, q ≠ 140 → q ≠ 141 → G' q k = G q k) → ∀ l4 : Int32, E scr false (d + 3) 135 161 [.ref 125, .int (nI (bfR P s i (k + 1)).2.2), .int (nI i), .int (nI k), .int l4] [] (wo f G' J c) K := by
      intro G' hs' hr' hfr l4
      rw [b135_161, nI_1]
      apply ih (k + 1) (by omega) (by omega) G' hs' hr'
      intro G2 a b l3 l4
      exact hK G2 a (fun q k h1 h2 => (b q k h1 h2).trans (hfr q k h1 h2)) l3 l4
    have es : bfR P s i (k + 1) = bfU P (bfR P s i k) i k := rfl
    rw [es] at next
    have eB0 : (bfR P s i k).1 ((bfR P s i k).2.1 i) = s.1 (s.2.1 i) := by rw [bq]; exact bd
    generalize bfR P s i k = t at *
    rw [b135_80]
    simp (disch := omega) only [LI, NC, show ¬ 8 ≤ k by omega, if_false, mO scr, eQ, m132 hP hs q144 (show k < 8 by omega)]
    unfold bfU at next
    cases hbe : beO P (t.2.1 i) k with
    | none =>
      rw [hbe] at next
      simp only [oI_n, if_true]
      exact next G hs hr (fun _ _ _ _ => rfl) _
    | some n =>
      rw [hbe] at next
      simp only at next
      have hth := be_th hP hbe
      have n144 := th_lt hP hth
      have hkn := hs.2.1 n hth
      have hk4 := hP.2.2.2.2.2.1 n
      have hBn := bv_B bv n
      have eBn := hr.1 n n144
      simp (disch := omega) only [oI_s, NC, if_false, mO scr, hkn, sp129, gB_nI hk4]
      cases hg : gkB (pKd P n) with
      | false =>
        rw [if_neg (by rw [hg]; simp)] at next
        simp only [bz_f, if_true]
        exact next G hs hr (fun _ _ _ _ => rfl) _
      | true =>
        simp (disch := omega) only [bz_t, show ¬ ((1 : Int32) = 0) by decide, if_false, mO scr, eBn, NC]
        by_cases h99 : t.1 n = 99
        · rw [if_pos ⟨h99, hg⟩] at next
          have room := bv_room hP bv n144 h99
          have eBi := hr.1 (t.2.1 i) q144
          simp (disch := omega) only [h99, if_true, mO scr, eQ, eBi, nI_1]
          have fr : ∀ q k, q ≠ 140 → q ≠ 141 → up2 (up2 G 140 n (nI (t.1 (t.2.1 i) + 1))) 141 t.2.2 (nI n) q k = G q k := by
            intro q k h1 h2
            rw [up2_q h2, up2_q h1]
          exact next _ (MS_140 fr hs) (SR_up (by decide) hr) fr _
        · rw [if_neg (fun e => h99 e.1)] at next
          simp only [h99, if_false]
          exact next G hs hr (fun _ _ _ _ => rfl) _
theorem fg_loop (hP : wfP P) {K : Option Value → aH → Prop} : ∀ m i, 144 - i = m → i ≤ 144 → ∀ G, MS G P → SR 140 141 G (bfA P (bg0 P 144) i) → (∀ G', SR 140 141 G' (bfA P (bg0 P 144) 144) → (∀ q k, q ≠ 140 → q ≠ 141 → G' q k = G q k) → K none (wo f G' J c)) → ∀ l3 l4 : Value, E scr false (d + 3) 135 73 [.ref 125, .int (nI (bfA P (bg0 P 144) i).2.2), .int (nI i), l3, l4] [] (wo f G J c) K := by
  intro m
  induction m with
  | zero =>
    intro i hm hi G hs hr hK l3 l4
    have e : i = 144 := by omega
    subst e
    have e144 : (bfA P (bg0 P 144) 144).2.2 ≤ 144 := by
      rcases bv_A hP (bg_bv hP) 144 with a | ⟨-, a⟩ <;> exact bv_le hP a
    rw [b135_73]
    simp (disch := omega) only [NC, e144, if_true]
    exact hK G hr (fun _ _ _ _ => rfl)
  | succ m ih =>
    intro i hm hi G hs hr hK l3 l4
    have e144 : (bfA P (bg0 P 144) i).2.2 ≤ 144 := by
      rcases bv_A hP (bg_bv hP) i with a | ⟨-, a⟩ <;> exact bv_le hP a
    rw [b135_73]
    by_cases hst : (bfA P (bg0 P 144) i).2.2 ≤ i
    · simp (disch := omega) only [NC, hst, if_true]
      have := bfA_stop hst (144 - i)
      rw [show i + (144 - i) = 144 by omega] at this
      rw [← this] at hr
      exact hK G hr (fun _ _ _ _ => rfl)
    · simp (disch := omega) only [LI, NC, hst, if_false]
      have bv : BV P (bfA P (bg0 P 144) i) i 0 := by
        rcases bv_A hP (bg_bv hP) i with a | ⟨a, -⟩
        · exact a
        · omega
      have es : bfA P (bg0 P 144) (i + 1) = bfR P (bfA P (bg0 P 144) i) i 8 := by
        show (if i < (bfA P (bg0 P 144) i).2.2 then _ else _) = _
        rw [if_pos (by omega)]
      rw [show (0 : Int32) = nI 0 from rfl]
      apply fg_way hP bv (by omega) 8 0 rfl (by omega) G hs hr
      intro G' hr' hfr l3 l4
      rw [← es] at hr' ⊢
      apply ih (i + 1) (by omega) (by omega) G' (MS_140 hfr hs) hr'
      intro G2 a b
      exact hK G2 a (fun q k h1 h2 => (b q k h1 h2).trans (hfr q k h1 h2))
/-- gates told so far: the cells behind are not written yet -/
def SG (G : Nat → Nat → Int32) (s : St) (q : Nat) : Prop := (∀ r, r < q → G 140 r = nI (s.1 r)) ∧ (∀ j, j < s.2.2 → G 141 j = nI (s.2.1 j)) ∧ (∀ r, q ≤ r → s.1 r = 99)
theorem fg_gate (hP : wfP P) {K : Option Value → aH → Prop} : ∀ m q, 144 - q = m → q ≤ 144 → ∀ G, MS G P → SG G (bg0 P q) q → (∀ G' (l3 : Value), SR 140 141 G' (bg0 P 144) → (∀ q k, q ≠ 140 → q ≠ 141 → G' q k = G q k) → E scr false (d + 3) 135 73 [.ref 125, .int (nI (bg0 P 144).2.2), .int 0, l3, .null] [] (wo f G' J c) K) → ∀ l3 : Value, E scr false (d + 3) 135 4 [.ref 125, .int (nI (bg0 P q).2.2), .int (nI q), l3, .null] [] (wo f G J c) K := by
  intro m
  induction m with
  | zero =>
    intro q hm hq G hs hr hK l3
    have e : q = 144 := by omega
    subst e
    rw [b135_4]
    simp (disch := omega) only [LI, NC, Nat.le_refl, if_true]
    exact hK G _ ⟨hr.1, hr.2.1⟩ (fun _ _ _ _ => rfl)
  | succ m ih =>
    intro q hm hq G hs hr hK l3
    have he := (bg_inv (P := P) q).2.2.2.2
    have next : ∀ G', MS G' P → SG G' (bg0 P (q + 1)) (q + 1) → (∀ q k, q ≠ 140 → q ≠ 141 → G' q k = G q k) → ∀ l3 : Int32, E scr false (d + 3) 135 65 [.ref 125, .int (nI (bg0 P (q + 1)).2.2), .int (nI q), .int l3, .null] [] (wo f G' J c) K := by
      intro G' hs' hr' hfr l3
      rw [b135_65, nI_1]
      apply ih (q + 1) (by omega) (by omega) G' hs' hr'
      intro G2 l3 a b
      exact hK G2 l3 a (fun q k h1 h2 => (b q k h1 h2).trans (hfr q k h1 h2))
    have es : bg0 P (q + 1) = if thB P q = true ∧ pKd P q = 3 then (upN (bg0 P q).1 q 0, upN (bg0 P q).2.1 (bg0 P q).2.2 q, (bg0 P q).2.2 + 1) else bg0 P q := rfl
    rw [es] at next
    generalize bg0 P q = s at *
    obtain ⟨r1, r2, r3⟩ := hr
    have no : ¬ (thB P q = true ∧ pKd P q = 3) → ∀ l3, E scr false (d + 3) 135 33 [.ref 125, .int (nI s.2.2), .int (nI q), l3, .null] [] (wo f G J c) K := by
      intro hn l3
      rw [if_neg hn] at next
      rw [b135_33, b135_34]
      simp only [mO scr, if_true]
      rw [b135_50]
      simp (disch := omega) only [mO scr, if_true]
      have fr : ∀ r k, r ≠ 140 → r ≠ 141 → up2 G 140 q 99 r k = G r k := fun r k h1 _ => up2_q h1
      apply next _ (MS_140 fr hs) _ fr
      refine ⟨?_, ?_, fun r h => r3 r (by omega)⟩
      · intro r h
        rw [up2_a]
        by_cases e : r = q
        · rw [if_pos e, e, r3 q (Nat.le_refl _)]; rfl
        · rw [if_neg e]; exact r1 r (by omega)
      · intro j hj
        rw [up2_q (by decide)]; exact r2 j hj
    rw [b135_4]
    simp (disch := omega) only [LI, NC, show ¬ 144 ≤ q by omega, if_false, m126 hP hs]
    cases ht : thB P q with
    | false =>
      simp only [bz_f, if_true]
      exact no (fun e => by rw [ht] at e; cases e.1) _
    | true =>
      have hkq := hs.2.1 q ht
      have hk4 := hP.2.2.2.2.2.1 q
      simp (disch := omega) only [bz_t, show ¬ ((1 : Int32) = 0) by decide, if_false, mO scr, hkq, NC]
      by_cases h3 : pKd P q = 3
      · rw [if_pos ⟨ht, h3⟩] at next
        simp only [h3, if_true]
        rw [b135_34]
        simp only [mO scr, show ¬ ((1 : Int32) = 0) by decide, if_false]
        rw [b135_50]
        simp (disch := omega) only [mO scr, show ¬ ((1 : Int32) = 0) by decide, if_false, nI_1]
        have fr : ∀ r k, r ≠ 140 → r ≠ 141 → up2 (up2 G 140 q 0) 141 s.2.2 (nI q) r k = G r k := by
          intro r k h1 h2
          rw [up2_q h2, up2_q h1]
        apply next _ (MS_140 fr hs) _ fr
        refine ⟨?_, ?_, ?_⟩
        · intro r h
          rw [up2_q (by decide), up2_a]
          show _ = nI (upN s.1 q 0 r)
          rw [upN_at]
          by_cases e : r = q
          · rw [if_pos e, if_pos e]; rfl
          · rw [if_neg e, if_neg e]; exact r1 r (by omega)
        · intro j hj
          rw [up2_a, up2_q (by decide)]
          show _ = nI (upN s.2.1 s.2.2 q j)
          rw [upN_at]
          have hj2 : j < s.2.2 + 1 := hj
          by_cases e : j = s.2.2
          · rw [if_pos e, if_pos e]
          · rw [if_neg e, if_neg e]; exact r2 j (by omega)
        · intro r h
          show upN s.1 q 0 r = 99
          rw [upN_at, if_neg (by omega)]
          exact r3 r (by omega)
      · simp only [h3, if_false]
        exact no (fun e => h3 e.2) _
theorem m135 (hP : wfP P) (hs : MS G P) {T : aH → Prop} (hT : ∀ G', (∀ q, q < 144 → G' 140 q = nI (gdA P q)) → (∀ q k, q ≠ 140 → q ≠ 141 → G' q k = G q k) → T (wo f G' J c)) : vV scr (d + 3) 135 [.ref 125] (wo f G J c) T := by
  unfold vV
  rw [u135_ok, en135, b135_0]
  refine ⟨rfl, ?_⟩
  rw [show (0 : Int32) = nI 0 from rfl]
  apply fg_gate hP 144 0 rfl (by omega) G hs
  · exact ⟨fun r h => absurd h (Nat.not_lt_zero _), fun j h => absurd h (Nat.not_lt_zero _), fun _ _ => rfl⟩
  · intro G' l3 hr hfr
    rw [show (0 : Int32) = nI 0 from rfl]
    apply fg_loop hP 144 0 rfl (by omega) G' (MS_140 hfr hs) hr
    intro G2 a b
    exact ⟨rfl, hT G2 (fun q hq => a.1 q hq) (fun q k h1 h2 => (b q k h1 h2).trans (hfr q k h1 h2))⟩
end BH
