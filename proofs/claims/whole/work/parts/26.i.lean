variable {scr : List Int32}
-- ===== the model judges spoors =====
section M10
variable {f G f' G' f1 G1 f2 G2 : Nat → Nat → Int32} {J J' J1 J2 : Nat → Nat → Int64} {c : Value} {d : Nat} {P : Pn} {D : Dy} {B : Nat → Nat} {L : Lw} {Q : Sp}
def MSq (G : Nat → Nat → Int32) (Q : Sp) : Prop := G 126 5 = nI (qN Q) ∧ (∀ i, i < qN Q → G 137 i = nI (qS Q i) ∧ G 138 i = nI (qW Q i) ∧ G 139 i = nI (qO Q i))
theorem MSq_cg (h5 : G' 126 5 = G 126 5) (h : ∀ q k, 137 ≤ q ∧ q ≤ 139 → G' q k = G q k) (hq : MSq G Q) : MSq G' Q := by
  unfold MSq at hq ⊢
  simp only [h5, h 137 _ (by decide), h 138 _ (by decide), h 139 _ (by decide)]
  exact hq
theorem MSq_fr (h : FRm f G J f1 G1 J1) (hq : MSq G Q) : MSq G1 Q := MSq_cg (h.2.1 126 5 (by decide) (by decide) (by decide) (by decide) (by omega)) (fun q k hq => h.2.1 q k (by omega) (by omega) (by omega) (by omega) (by omega)) hq
def JM (P : Pn) (B : Nat → Nat) (L : Lw) (D : Dy) (Q : Sp) (t s x : Nat) : Prop := x ≤ qN Q ∧ (∀ i, i < x → ¬ (qS Q i ≤ t - 1 ∧ badQ P B L D Q i = true)) ∧ (∀ i, i < x → i < s → ¬ (qS Q i = t ∧ badQ P B L D Q i = true)) ∧ (x < qN Q → badQ P B L D Q x = true ∧ (qS Q x ≤ t - 1 ∨ (qS Q x = t ∧ x < s)))
theorem mjs_loop (hP : wfP P) (hQ : wfQ P Q) (hq : MSq G Q) {r last t : Nat} (ht : 1 ≤ t) (ht2 : t < 2 ^ 20) (h153 : ∀ w, w < pPe P → G 153 w = oI (stF P B L (wkD P B L (t - 1) D) w)) {K : Option Value → aH → Prop} (hK : ∀ x (l5 : Int32) (l6 : Value), JM P B L D Q t (qN Q) x → E scr false d 215 62 [.ref 125, .int (nI r), .int (nI last), .int (jgI Q x), .int (nI (t + 1)), .int l5, l6] [] (wo f G J c) K) : ∀ m s x, qN Q - s = m → s ≤ qN Q → JM P B L D Q t s x → ∀ l6 : Value, E scr false d 215 76 [.ref 125, .int (nI r), .int (nI last), .int (jgI Q x), .int (nI t), .int (nI s), l6] [] (wo f G J c) K := by
  have q40 := hQ.1
  have p12 := hP.2.2.2.1
  intro m
  induction m with
  | zero =>
    intro s x hm hs hx l6
    have e : s = qN Q := by omega
    subst e
    rw [b215_76]
    simp (disch := omega) only [mO scr, L2, hq.1, NC, Nat.le_refl, if_true, nI_1]
    exact hK x _ _ hx
  | succ m ih =>
    intro s x hm hs hx l6
    have hs' : s < qN Q := by omega
    obtain ⟨g1, g2, g3⟩ := hq.2 s hs'
    obtain ⟨w1, w2, w3, w4⟩ := hQ.2 s hs'
    obtain ⟨x1, x2, x3, x4⟩ := hx
    have next : ∀ y, JM P B L D Q t (s + 1) y → ∀ (a l6 : Int32), a = jgI Q y → ∀ b : Int32, E scr false d 215 151 [.ref 125, .int (nI r), .int (nI last), .int b, .int (nI t), .int (nI s), .int l6] [.int a] (wo f G J c) K := by
      intro y hy a l6 ha b
      rw [b215_151, nI_1, ha]
      exact ih (s + 1) y (by omega) (by omega) hy _
    have keep : (¬ (qS Q s = t ∧ badQ P B L D Q s = true) ∨ x ≤ s) → JM P B L D Q t (s + 1) x := by
      intro h
      refine ⟨x1, x2, ?_, fun h => ?_⟩
      · intro i hi his hb
        by_cases e : i = s
        · subst e
          rcases h with h | h
          · exact h hb
          · omega
        · exact x3 i hi (by omega) hb
      · obtain ⟨a, b⟩ := x4 h
        exact ⟨a, by omega⟩
    have ok : ¬ (qS Q s = t ∧ badQ P B L D Q s = true) → ∀ l6 : Value, E scr false d 215 121 [.ref 125, .int (nI r), .int (nI last), .int (jgI Q x), .int (nI t), .int (nI s), l6] [] (wo f G J c) K := by
      intro h l6
      rw [b215_121, b215_126]
      simp only [show ¬ ((1 : Int32) = 0) by decide, if_false]
      rw [b215_150]
      exact next x (keep (Or.inl h)) _ _ rfl _
    rw [b215_76]
    simp (disch := omega) only [mO scr, L2, hq.1, NC, show ¬ qN Q ≤ s by omega, if_false, g1]
    by_cases hst : qS Q s = t
    · have hi := oI_inj (o := stF P B L (wkD P B L (t - 1) D) (qW Q s)) (o' := some (qO Q s)) (fun a ha => by have := stF_lt ha; omega) (fun a ha => by cases ha; omega)
      have hi' : (oI (stF P B L (wkD P B L (t - 1) D) (qW Q s)) = nI (qO Q s)) = (stF P B L (wkD P B L (t - 1) D) (qW Q s) = some (qO Q s)) := hi
      simp (disch := omega) only [hst, if_true, mO scr, g2, g3, h153 _ w3, hi']
      by_cases hf : stF P B L (wkD P B L (t - 1) D) (qW Q s) = some (qO Q s)
      · rw [if_pos hf]
        apply ok
        rintro ⟨-, hb⟩
        unfold badQ at hb
        rw [hst] at hb
        simp [hf] at hb
      · rw [if_neg hf, b215_126]
        have hb : badQ P B L D Q s = true := by
          unfold badQ
          rw [hst]
          simp [hf]
        simp only [if_true]
        have newS : (x = qN Q ∨ s < x) → JM P B L D Q t (s + 1) s := by
          intro h
          refine ⟨by omega, fun i hi => x2 i (by omega), fun i hi _ => x3 i (by omega) hi, fun _ => ⟨hb, Or.inr ⟨hst, by omega⟩⟩⟩
        have js : jgI Q s = nI s := by unfold jgI; rw [if_neg (by omega)]
        by_cases hxn : qN Q ≤ x
        · have ej : jgI Q x = -2 := by unfold jgI; rw [if_pos hxn]
          rw [ej]
          simp only [if_true]
          rw [b215_145]
          exact next s (newS (Or.inl (by omega))) _ _ js.symm _
        · have ej : jgI Q x = nI x := by unfold jgI; rw [if_neg hxn]
          have ne : ¬ nI x = -2 := fun e => nI_pos (show x < 2 ^ 31 by omega) (by rw [e]; decide)
          rw [ej]
          simp (disch := omega) only [ne, if_false, NC]
          by_cases hle : x ≤ s
          · rw [if_pos hle, b215_150]
            exact next x (keep (Or.inr hle)) _ _ ej.symm _
          · rw [if_neg hle, b215_145]
            exact next s (newS (Or.inr (by omega))) _ _ js.symm _
    · simp only [hst, if_false]
      exact ok (fun h => hst h.1) _
theorem mjg_loop {r last : Nat} (hP : wfP P) (hL : wfLw L) (hQ : wfQ P Q) (hr : r < 6) (hw : wfS P D) (hlast : last ≤ 200) {K : Option Value → aH → Prop} : ∀ m t, last + 1 - t = m → 1 ≤ t → t ≤ last + 1 → ∀ f G J x, CM G r P B L → MD G P (wkD P B L (t - 1) D) → MSq G Q → JC P B L D Q (t - 1) x → (∀ f' G' J' x, FRm f G J f' G' J' → JC P B L D Q last x → K (some (.int (jgI Q x))) (wo f' (lbG G') J' c)) → ∀ l5 l6 : Value, E scr false (d + 8) 215 62 [.ref 125, .int (nI r), .int (nI last), .int (jgI Q x), .int (nI t), l5, l6] [] (wo f G J c) K := by
  intro m
  induction m with
  | zero =>
    intro t hm h1 h2 f G J x hx hd hq hj hK l5 l6
    rw [b215_62]
    simp (disch := omega) only [NC, show last < t by omega, if_true, m194]
    exact hK f G J x FRm_rf (by rw [show last = t - 1 by omega]; exact hj)
  | succ m ih =>
    intro t hm h1 h2 f G J x hx hd hq hj hK l5 l6
    rw [b215_62]
    simp (disch := omega) only [NC, show ¬ last < t by omega, if_false]
    apply m180 hP hL hr (wfS_wk hP (t - 1) D hw).1.1 hx hd
    intro f1 G1 J1 hd1 hfr1 _ h153
    have hq1 := MSq_fr hfr1 hq
    rw [show (0 : Int32) = nI 0 from rfl]
    refine mjs_loop (B := B) (L := L) (D := D) hP hQ hq1 h1 (by omega) h153 ?_ (qN Q) 0 x rfl (by omega) ⟨hj.1, hj.2.1, fun i _ h => by omega, fun h => ⟨(hj.2.2 h).2, Or.inl (hj.2.2 h).1⟩⟩ _
    intro y l5' l6' hy
    apply ih (t + 1) (by omega) (by omega) (by omega) f1 G1 J1 y (CM_fr hfr1 hx) _ hq1 _ _ _ _
    · rw [show t + 1 - 1 = (t - 1) + 1 by omega, wk_succ]
      exact hd1
    · rw [show t + 1 - 1 = t by omega]
      obtain ⟨y1, y2, y3, y4⟩ := hy
      refine ⟨y1, ?_, ?_⟩
      · intro i hi h
        by_cases e : qS Q i = t
        · exact y3 i hi (by omega) ⟨e, h.2⟩
        · exact y2 i hi ⟨by omega, h.2⟩
      · intro h
        obtain ⟨a, b⟩ := y4 h
        exact ⟨by omega, a⟩
    · intro f2 G2 J2 z fr2 hz
      exact hK f2 G2 J2 z (FRm_tr hfr1 fr2) hz
theorem mjx_loop (hQ : wfQ P Q) (hq : MSq G Q) {r : Nat} {K : Option Value → aH → Prop} : ∀ m k, qN Q - k = m → k ≤ qN Q → E scr false (d + 2) 215 15 [.ref 125, .int (nI r), .int (nI (mxQ Q k)), .int (nI k), .null, .null, .null] [] (wo f G J c) K = E scr false (d + 2) 215 62 [.ref 125, .int (nI r), .int (nI (mxQ Q (qN Q))), .int (-2), .int 1, .null, .null] [] (wo f (kpG G) J c) K := by
  have q40 := hQ.1
  intro m
  induction m with
  | zero =>
    intro k hm hk
    have e : k = qN Q := by omega
    subst e
    rw [b215_15]
    simp (disch := omega) only [mO scr, L2, hq.1, NC, Nat.le_refl, if_true, m193]
  | succ m ih =>
    intro k hm hk
    obtain ⟨g1, -, -⟩ := hq.2 k (by omega)
    have h1 := mx_le hQ (show k ≤ qN Q by omega)
    have h2 := (hQ.2 k (by omega)).2.1
    rw [b215_15]
    simp (disch := omega) only [mO scr, L2, hq.1, NC, show ¬ qN Q ≤ k by omega, if_false, g1]
    rw [← ih (k + 1) (by omega) (by omega)]
    by_cases hle : qS Q k ≤ mxQ Q k
    · rw [if_pos hle, b215_45, nI_1]
      simp only [mxQ]
      rw [if_neg (by omega)]
    · rw [if_neg hle, b215_45, nI_1]
      simp only [mxQ]
      rw [if_pos (by omega)]
theorem judged_15 {r : Nat} (hP : wfP P) (hL : wfLw L) (hQ : wfQ P Q) (hr : r < 6) (hw : wfS P D) (hx : CM G r P B L) (hd : MD G P D) (hq : MSq G Q) {K : Option Value → aH → Prop} (hK : ∀ f' G' J' x, FQ f G J f' G' J' → (∀ k, G' 140 k = G 140 k) → JC P B L D Q (mxQ Q (qN Q)) x → K (some (.int (jgI Q x))) (wo f' G' J' c)) : E scr false (d + 8) 215 15 [.ref 125, .int (nI r), .int 0, .int 0, .null, .null, .null] [] (wo f G J c) K := by
  have q40 := hQ.1
  have h0 := mjx_loop (scr := scr) (f := f) (G := G) (J := J) (c := c) (d := d + 6) hQ hq (r := r) (K := K) (qN Q) 0 rfl (by omega)
  have e0 : E scr false (d + 8) 215 15 [.ref 125, .int (nI r), .int 0, .int 0, .null, .null, .null] [] (wo f G J c) K = E scr false (d + 6 + 2) 215 15 [.ref 125, .int (nI r), .int (nI (mxQ Q 0)), .int (nI 0), .null, .null, .null] [] (wo f G J c) K := rfl
  rw [e0, h0]
  have ej : (-2 : Int32) = jgI Q (qN Q) := by unfold jgI; rw [if_pos (Nat.le_refl _)]
  rw [ej, show (1 : Int32) = nI 1 from rfl]
  have hq1 : MSq (kpG G) Q := MSq_cg (kp_n (by omega)) (fun q k h => kp_n (by omega)) hq
  apply mjg_loop hP hL hQ hr hw (mx_le hQ (Nat.le_refl _)) (mxQ Q (qN Q)) 1 (by omega) (by omega) (by omega) f (kpG G) J (qN Q) (CM_kp hx) (MD_kp hd) hq1
  · refine ⟨Nat.le_refl _, ?_, fun h => by omega⟩
    intro i hi h
    have := (hQ.2 i hi).1
    omega
  · intro f2 G2 J2 x fr2 hxx
    obtain ⟨k1, k2⟩ := kept_fr fr2
    apply hK f2 (lbG G2) J2 x (FQ_kl fr2 (fun _ _ _ => rfl)) _ hxx
    intro k
    rw [lb_140 (by decide) (by decide) (by decide), k2 140 k (by decide) (by decide) (by decide) (by decide) (by decide) (by omega)]
end M10
