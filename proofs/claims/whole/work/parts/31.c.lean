-- ===== the law, told: clauses =====
section LW3
variable {T : Tp}
theorem cl_ok {n k : Nat} {s s1 : Ls} (h : clC' T n s = .inr (k, s1)) (hp : s.1 ≤ T.1) (hz : s.2.2 ≤ 60) : s.1 < s1.1 ∧ s1.1 ≤ T.1 ∧ s1.2.2 ≤ 60 ∧ k ≤ 9 ∧ n < 12 ∧ (∃ l v, s1.2.1 = s.2.1 ++ l ∧ (l = [] ∨ (Pz 1 l v ∧ v ≤ 60))) ∧ 3 * s1.2.1.length + 6 * s.2.2 + s.1 ≤ 3 * s.2.1.length + 6 * s1.2.2 + s1.1 := by
  have a1 := sk_le hp
  have a2 := sk_ge (T := T) (p := s.1)
  unfold clC' at h
  split at h
  · rename_i hw
    split at h
    · cases h
    · split at h
      · cases h
      · rename_i k' e he
        have eok : s.1 < e ∧ e ≤ T.1 ∧ k' ≤ 9 := by
          split at he
          · rename_i h10
            have := isW_in (by decide) (show (stx 10).length = 5 from rfl) h10 a1
            cases he
            omega
          · rename_i h10
            have h9 : isW T (sk T s.1) (stx 9) = true := by
              rcases hw with h | h
              · exact absurd h h10
              · exact h
            have := isW_in (by decide) (show (stx 9).length = 6 from rfl) h9 a1
            obtain ⟨b1, b2, b3⟩ := nu_le this he
            have := nu_pos he
            omega
        obtain ⟨e1, e2, e3⟩ := eok
        have a3 := sk_le e2
        have a4 := sk_ge (T := T) (p := e)
        split at h
        · rename_i hi
          have hin := isW_in (by decide) (show (stx 11).length = 2 from rfl) hi a3
          split at h
          · cases h
          · rename_i t ht
            cases h
            obtain ⟨b1, b2, b3, ⟨l, v, b4, b5, b6⟩, b7⟩ := lg_f (by omega) ht hin hz
            have b1 : sk T e + 2 < s1.1 := b1
            have b6 : s.2.2 + v ≤ s1.2.2 := b6
            have b7 : 3 * s1.2.1.length + 9 + 6 * s.2.2 + (sk T e + 2) ≤ 3 * s.2.1.length + 6 * s1.2.2 + s1.1 := b7
            exact ⟨by omega, b2, b3, e3, by omega, ⟨l, v, b4, Or.inr ⟨b5, by omega⟩⟩, by omega⟩
        · cases h
          exact ⟨by show s.1 < sk T e; omega, a3, hz, e3, by omega, ⟨[], 0, by simp, Or.inl rfl⟩, by show 3 * s.2.1.length + 6 * s.2.2 + s.1 ≤ 3 * s.2.1.length + 6 * s.2.2 + sk T e; omega⟩
  · cases h
theorem cl_x {n x : Nat} {s : Ls} (hT : TX T) (h : clC' T n s = .inl x) (hp : s.1 ≤ T.1) (hz : s.2.2 ≤ 60) : 0 < x ∧ x < 2 ^ 25 := by
  have a1 := sk_le hp
  have h400 := hT.1
  unfold clC' at h
  split at h
  · rename_i hw
    split at h
    · cases h; omega
    · split at h
      · rename_i he
        cases h
        split at he
        · cases he
        · rename_i h10
          have h9 : isW T (sk T s.1) (stx 9) = true := by
            rcases hw with h | h
            · exact absurd h h10
            · exact h
          have := isW_in (by decide) (show (stx 9).length = 6 from rfl) h9 a1
          exact nu_x (by omega) hT he
      · rename_i k' e he
        have eok : e ≤ T.1 := by
          split at he
          · rename_i h10
            have := isW_in (by decide) (show (stx 10).length = 5 from rfl) h10 a1
            cases he
            exact this
          · rename_i h10
            have h9 : isW T (sk T s.1) (stx 9) = true := by
              rcases hw with h | h
              · exact absurd h h10
              · exact h
            have := isW_in (by decide) (show (stx 9).length = 6 from rfl) h9 a1
            exact (nu_le this he).1
        have a3 := sk_le eok
        split at h
        · rename_i hi
          have hin := isW_in (by decide) (show (stx 11).length = 2 from rfl) hi a3
          split at h
          · rename_i ht
            cases h
            exact lg_x hT _ _ _ _ _ ht hin hz (by show 3 * (T.1 - (sk T e + 2)) + 2 ≤ 1300; omega)
          · cases h
        · cases h
  · cases h; omega
/-- the law so far -/
def mkL (L : Lq) (C : List Nat) : Lw := (L.1, L.2.1, L.2.2, fun k => C.getD k 0)
def LJq (L : Lq) (C : List Nat) : Prop := L.1 ≤ 12 ∧ (∀ i, i < L.1 → L.2.1 i ≤ 9) ∧ (∀ i, i < L.1 → lwS (mkL L C) i ≤ L.2.2 i ∧ L.2.2 i ≤ C.length ∧ (lwS (mkL L C) i = L.2.2 i ∨ ∃ l v, lwS (mkL L C) i + l.length = L.2.2 i ∧ Pz 1 l v ∧ v ≤ 60 ∧ ∀ k, k < l.length → l[k]? = C[lwS (mkL L C) i + k]?)) ∧ C.length = (if L.1 = 0 then 0 else L.2.2 (L.1 - 1))
def adL (L : Lq) (k e : Nat) : Lq := (L.1 + 1, upN L.2.1 L.1 k, upN L.2.2 L.1 e)
theorem LJq_add {L : Lq} {C l : List Nat} {k v : Nat} (h : LJq L C) (hn : L.1 < 12) (hk : k ≤ 9) (hl : l = [] ∨ (Pz 1 l v ∧ v ≤ 60)) : LJq (adL L k (C ++ l).length) (C ++ l) := by
  obtain ⟨h1, h2, h3, h4⟩ := h
  have eS : ∀ i, i < L.1 → lwS (mkL (adL L k (C ++ l).length) (C ++ l)) i = lwS (mkL L C) i := by
    intro i hi
    unfold lwS
    by_cases e : i = 0
    · rw [if_pos e, if_pos e]
    · rw [if_neg e, if_neg e]
      show upN L.2.2 L.1 _ (i - 1) = L.2.2 (i - 1)
      rw [upN_at, if_neg (by omega)]
  have eSn : lwS (mkL (adL L k (C ++ l).length) (C ++ l)) L.1 = C.length := by
    rw [h4]
    unfold lwS
    by_cases e : L.1 = 0
    · rw [if_pos e, if_pos e]
    · rw [if_neg e, if_neg e]
      show upN L.2.2 L.1 _ (L.1 - 1) = _
      rw [upN_at, if_neg (by omega)]
  have e1 : ∀ i, (adL L k (C ++ l).length).2.1 i = if i = L.1 then k else L.2.1 i := fun i => rfl
  have e2 : ∀ i, (adL L k (C ++ l).length).2.2 i = if i = L.1 then (C ++ l).length else L.2.2 i := fun i => rfl
  have e0 : (adL L k (C ++ l).length).1 = L.1 + 1 := rfl
  refine ⟨by rw [e0]; omega, fun i hi => ?_, fun i hi => ?_, ?_⟩
  · rw [e1]
    split
    · exact hk
    · exact h2 i (by rw [e0] at hi; omega)
  · rw [e0] at hi
    rw [e2]
    by_cases e : i = L.1
    · subst e
      rw [eSn, if_pos rfl]
      refine ⟨by rw [List.length_append]; omega, Nat.le_refl _, ?_⟩
      rcases hl with rfl | ⟨pz, hv⟩
      · exact Or.inl (by rw [List.append_nil])
      · refine Or.inr ⟨l, v, by rw [List.length_append], pz, hv, fun j hj => ?_⟩
        rw [List.getElem?_append_right (by omega), show C.length + j - C.length = j by omega]
    · rw [if_neg e, eS i (by omega)]
      obtain ⟨x1, x2, x3⟩ := h3 i (by omega)
      refine ⟨x1, by rw [List.length_append]; omega, ?_⟩
      rcases x3 with x3 | ⟨l', v', y1, y2, y3, y4⟩
      · exact Or.inl x3
      · refine Or.inr ⟨l', v', y1, y2, y3, fun j hj => ?_⟩
        rw [y4 j hj, List.getElem?_append_left (by omega)]
  · rw [e0, if_neg (by omega), e2, show L.1 + 1 - 1 = L.1 by omega, if_pos rfl]
theorem LJq_wf {L : Lq} {C : List Nat} (h : LJq L C) (hC : C.length < 300) : wfLw (mkL L C) := by
  obtain ⟨h1, h2, h3, h4⟩ := h
  refine ⟨h1, h2, fun i hi => ⟨(h3 i hi).1, by have := (h3 i hi).2.1; show L.2.2 i < 300; omega⟩, fun i hi => ?_⟩
  obtain ⟨x1, x2, x3⟩ := h3 i hi
  rcases x3 with x3 | ⟨l', v', y1, y2, y3, y4⟩
  · exact Or.inl x3
  · refine Or.inr ?_
    show good (fun k => C.getD k 0) (lwS (mkL L C) i) (L.2.2 i)
    rw [← y1]
    apply good_of y2 (by omega)
    intro k hk
    have hb : lwS (mkL L C) i + k < C.length := by omega
    rw [y4 k hk]
    show C[_]? = some (C.getD _ 0)
    rw [List.getD_eq_getElem?_getD, List.getElem?_eq_getElem hb]
    rfl
theorem LJq_0 {P Q : Nat → Nat} : LJq (0, P, Q) [] := ⟨by show 0 ≤ 12; omega, fun i hi => by have hi : i < 0 := hi; omega, fun i hi => by have hi : i < 0 := hi; omega, rfl⟩
theorem lw_x (hT : TX T) : ∀ u L (s : Ls) x, lwL T u L s = .inl x → 13 - L.1 = u → LJq L s.2.1 → s.1 ≤ T.1 → s.2.2 ≤ 60 → 0 < x ∧ x < 2 ^ 25 := by
  have h400 := hT.1
  intro u
  induction u with
  | zero => intro L s x _ hu hL; have := hL.1; omega
  | succ u ih =>
    intro L s x h hu hL hp hz
    simp only [lwL] at h
    split at h
    · rename_i hc
      cases h
      exact cl_x hT hc hp hz
    · rename_i k s1 hc
      obtain ⟨b1, b2, b3, b4, b5, ⟨l, v, b6, b7⟩, b8⟩ := cl_ok hc hp hz
      have := sk_le b2
      split at h
      · cases h
      · split at h
        · have hin := ch8_in (T := T) (p := sk T s1.1) (by omega)
          have li := LJq_add hL b5 b4 b7
          rw [← b6] at li
          exact ih (adL L k s1.2.1.length) (sk T s1.1 + 1, s1.2) x h (by show 13 - (L.1 + 1) = u; omega) li hin b3
        · cases h; omega
theorem lw_ok : ∀ u L (s : Ls) L' C', lwL T u L s = .inr (L', C') → LJq L s.2.1 → s.1 ≤ T.1 → T.1 ≤ 400 → s.2.2 ≤ 60 → 3 * s.2.1.length ≤ 6 * s.2.2 + s.1 → LJq L' C' ∧ C'.length < 300 := by
  intro u
  induction u with
  | zero => intro L s L' C' h; cases h
  | succ u ih =>
    intro L s L' C' h hL hp h400 hz hb
    simp only [lwL] at h
    split at h
    · cases h
    · rename_i k s1 hc
      obtain ⟨b1, b2, b3, b4, b5, ⟨l, v, b6, b7⟩, b8⟩ := cl_ok hc hp hz
      have li := LJq_add hL b5 b4 b7
      rw [← b6] at li
      split at h
      · cases h
        exact ⟨li, by omega⟩
      · split at h
        · have hin := ch8_in (T := T) (p := sk T s1.1) (by omega)
          have s2 := sk_ge (T := T) (p := s1.1)
          exact ih (adL L k s1.2.1.length) (sk T s1.1 + 1, s1.2) L' C' h li hin h400 b3 (by show 3 * s1.2.1.length ≤ 6 * s1.2.2 + (sk T s1.1 + 1); omega)
        · cases h
end LW3
