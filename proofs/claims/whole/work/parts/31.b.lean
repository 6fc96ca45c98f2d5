-- ===== the law, told: what is read is well formed =====
section LW2
variable {T : Tp}
theorem isW_pos {a i : Nat} (hi : i < 24) (h : isW T a (stx i) = true) : a < we T a := by
  have l : ∀ i, i < 24 → 0 < (stx i).length := by decide
  have := isW_end h
  have := l i hi
  omega
theorem vo_lt {a k : Nat} (h : voO T a = some k) : k < 9 ∧ a < we T a := by
  unfold voO at h
  repeat' split at h
  all_goals first
    | (rename_i hh; cases h; exact ⟨by decide, isW_pos (by decide) hh⟩)
    | cases h
theorem nu_pos {p lo hi v e : Nat} (h : nuR T p lo hi = .inr (v, e)) : p < e := by
  unfold nuR at h
  have := sk_ge (T := T) (p := p)
  have := de_ge (T := T) (p := sk T p)
  split at h
  · cases h
  · split at h
    · cases h
    · cases h; omega
theorem va_ok {p sz k e : Nat} (hp : p ≤ T.1) (h : vaR T p sz = .inr (k, e)) : p < e ∧ e ≤ T.1 ∧ (k < 9 ∨ (32 ≤ k ∧ k < 100032)) ∧ sz < 60 := by
  unfold vaR at h
  have s1 := sk_le hp
  have s2 := sk_ge (T := T) (p := p)
  split at h
  · split at h
    · cases h
    · rename_i v e' hn
      split at h
      · cases h
      · cases h
        obtain ⟨a, b, c⟩ := nu_le hp hn
        exact ⟨nu_pos hn, a, Or.inr ⟨by omega, by omega⟩, by omega⟩
  · split at h
    · cases h
    · rename_i k' hn
      split at h
      · cases h
      · cases h
        obtain ⟨a, b⟩ := vo_lt hn
        exact ⟨by omega, we_le s1, Or.inl a, by omega⟩
theorem va_x {p sz x : Nat} (hT : TX T) (hp : p ≤ T.1) (h : vaR T p sz = .inl x) : 0 < x ∧ x < 2 ^ 25 := by
  unfold vaR at h
  have s1 := sk_le hp
  have h400 := hT.1
  split at h
  · split at h
    · rename_i hn
      cases h
      exact nu_x (by omega) hT hn
    · split at h
      · cases h; omega
      · cases h
  · split at h
    · cases h; omega
    · split at h
      · cases h; omega
      · cases h
theorem wk_in {x k : Nat} (h : wkO x = some k) : x < 256 ∧ 10 ≤ k ∧ k ≤ 14 := by
  unfold wkO at h
  repeat' split at h
  all_goals first | (cases h; omega) | cases h
theorem oC_l {w : Option Nat} : (oC w).length ≤ 1 := by cases w <;> simp [oC]
theorem su_l : ∀ u w (s s' : Ls) (C0 l : List Nat) (v z0 : Nat), suL T u w s = .inr s' → s.1 ≤ T.1 → s.2.2 ≤ 60 → (∀ k, w = some k → 10 ≤ k ∧ k ≤ 21) → s.2.1 = C0 ++ l → Pm (1 + (oC w).length) l v → z0 + v = s.2.2 →
    s.1 ≤ s'.1 ∧ s'.1 ≤ T.1 ∧ s'.2.2 ≤ 60 ∧ (∃ l' v', s'.2.1 = C0 ++ l' ∧ Pm 1 l' v' ∧ z0 + v' = s'.2.2) ∧ 3 * s'.2.1.length + 6 * s.2.2 + s.1 ≤ 3 * (s.2.1.length + (oC w).length) + 6 * s'.2.2 + s'.1 := by
  intro u
  induction u with
  | zero => intro w s s' C0 l v z0 h; cases h
  | succ u ih =>
    intro w s s' C0 l v z0 h hp hz hw hC hP hv
    have s1 := sk_le hp
    have s2 := sk_ge (T := T) (p := s.1)
    have tail : ∃ l', s.2.1 ++ oC w = C0 ++ l' ∧ Pm 1 l' v := by
      cases w with
      | none => exact ⟨l, by rw [hC]; simp [oC], hP⟩
      | some k => exact ⟨l ++ [k], by rw [hC]; simp [oC], Pm_o (m := 0) hP (hw k rfl).1 (hw k rfl).2⟩
    obtain ⟨lt, et, pt⟩ := tail
    simp only [suL] at h
    split at h
    · cases h
      refine ⟨s2, s1, hz, ⟨lt, v, et, pt, hv⟩, ?_⟩
      simp only [List.length_append]
      omega
    · rename_i k hk
      obtain ⟨k1, k2, k3⟩ := wk_in hk
      have hin := ch8_in k1
      split at h
      · cases h
      · rename_i v1 e hval
        obtain ⟨a1, a2, a3, a4⟩ := va_ok (by omega) hval
        split at h
        · rename_i k12
          obtain ⟨b1, b2, b3, b4, b5⟩ := ih (some k) (e, (s.2.1 ++ oC w) ++ [v1], s.2.2 + 1) s' C0 (lt ++ [v1]) (v + 1) z0 h a2 (by show s.2.2 + 1 ≤ 60; omega) (fun k' e' => by cases e'; omega) (by show _ ++ [v1] = _; rw [et]; simp) (Pm_v pt a3) (by show z0 + (v + 1) = s.2.2 + 1; omega)
          have b1 : e ≤ s'.1 := b1
          refine ⟨by omega, b2, b3, b4, ?_⟩
          have b5 : 3 * s'.2.1.length + 6 * (s.2.2 + 1) + e ≤ 3 * (((s.2.1 ++ oC w) ++ [v1]).length + (oC (some k)).length) + 6 * s'.2.2 + s'.1 := b5
          simp only [List.length_append, List.length_cons, List.length_nil, show (oC (some k)).length = 1 from rfl] at b5
          omega
        · have pw : Pm (1 + (oC w).length) ((l ++ [v1]) ++ [k]) (v + 1) := by
            cases w with
            | none => exact Pm_o (m := 0) (Pm_v hP a3) (by omega) (by omega)
            | some k' => exact Pm_o (m := 1) (Pm_v hP a3) (by omega) (by omega)
          obtain ⟨b1, b2, b3, b4, b5⟩ := ih w (e, (s.2.1 ++ [v1]) ++ [k], s.2.2 + 1) s' C0 ((l ++ [v1]) ++ [k]) (v + 1) z0 h a2 (by show s.2.2 + 1 ≤ 60; omega) hw (by show (s.2.1 ++ [v1]) ++ [k] = _; rw [hC]; simp) pw (by show z0 + (v + 1) = s.2.2 + 1; omega)
          have b1 : e ≤ s'.1 := b1
          refine ⟨by omega, b2, b3, b4, ?_⟩
          have b5 : 3 * s'.2.1.length + 6 * (s.2.2 + 1) + e ≤ 3 * (((s.2.1 ++ [v1]) ++ [k]).length + (oC w).length) + 6 * s'.2.2 + s'.1 := b5
          simp only [List.length_append, List.length_cons, List.length_nil] at b5
          omega
theorem su_ok {s s' : Ls} (hp : s.1 ≤ T.1) (h : suR T s = .inr s') : s.1 < s'.1 ∧ s'.1 ≤ T.1 ∧ s'.2.2 ≤ 60 ∧ (∃ l v, s'.2.1 = s.2.1 ++ l ∧ Pm 1 l v ∧ s.2.2 + v = s'.2.2) ∧ 3 * s'.2.1.length + 3 + 6 * s.2.2 + s.1 ≤ 3 * s.2.1.length + 6 * s'.2.2 + s'.1 := by
  unfold suR at h
  split at h
  · cases h
  · rename_i v e hval
    obtain ⟨a1, a2, a3, a4⟩ := va_ok hp hval
    obtain ⟨b1, b2, b3, b4, b5⟩ := su_l 401 none (e, s.2.1 ++ [v], s.2.2 + 1) s' s.2.1 [v] 1 s.2.2 h a2 (by show s.2.2 + 1 ≤ 60; omega) (fun k e => by cases e) rfl (Pm_v Pm_0 a3) rfl
    have b1 : e ≤ s'.1 := b1
    have b5 : 3 * s'.2.1.length + 6 * (s.2.2 + 1) + e ≤ 3 * ((s.2.1 ++ [v]).length + (oC none).length) + 6 * s'.2.2 + s'.1 := b5
    simp only [List.length_append, List.length_cons, List.length_nil, show (oC none).length = 0 from rfl] at b5
    exact ⟨by omega, b2, b3, b4, by omega⟩
theorem su_lx (hT : TX T) : ∀ u w (s : Ls) x, suL T u w s = .inl x → s.1 ≤ T.1 → T.1 - s.1 < u → 0 < x ∧ x < 2 ^ 25 := by
  intro u
  induction u with
  | zero => intro w s x _ _ h; omega
  | succ u ih =>
    intro w s x h hp hu
    have s1 := sk_le hp
    have s2 := sk_ge (T := T) (p := s.1)
    simp only [suL] at h
    split at h
    · cases h
    · rename_i k hk
      have hin := ch8_in (wk_in hk).1
      split at h
      · rename_i x' hval
        cases h
        exact va_x hT (by omega) hval
      · rename_i v e hval
        obtain ⟨a1, a2, a3, a4⟩ := va_ok (by omega) hval
        split at h
        · exact ih _ _ _ h a2 (by show T.1 - e < u; omega)
        · exact ih _ _ _ h a2 (by show T.1 - e < u; omega)
theorem su_x {s : Ls} {x : Nat} (hT : TX T) (hp : s.1 ≤ T.1) (h : suR T s = .inl x) : 0 < x ∧ x < 2 ^ 25 := by
  have h400 := hT.1
  unfold suR at h
  split at h
  · rename_i hval; cases h; exact va_x hT hp hval
  · rename_i v e hval
    obtain ⟨a1, a2, a3, a4⟩ := va_ok hp hval
    exact su_lx hT 401 _ _ _ h a2 (by show T.1 - e < 401; omega)
theorem cm_ok {p sz k e : Nat} (h : cmR T p sz = .inr (k, e)) : p < e ∧ e ≤ T.1 ∧ 15 ≤ k ∧ k ≤ 19 ∧ sz < 60 := by
  have s2 := sk_ge (T := T) (p := p)
  unfold cmR at h
  repeat' split at h
  all_goals first
    | (cases h; done)
    | (rename_i a b cc; cases h; have := ch8_in (T := T) (p := sk T p + 1) (by omega); omega)
    | (cases h; have := ch8_in (T := T) (p := sk T p) (by omega); omega)
theorem cm_x {p sz x : Nat} (hT : TX T) (hp : p ≤ T.1) (h : cmR T p sz = .inl x) : 0 < x ∧ x < 2 ^ 25 := by
  have s1 := sk_le hp
  have h400 := hT.1
  unfold cmR at h
  repeat' split at h
  all_goals first
    | (cases h; omega)
    | cases h
theorem co_ok {s s' : Ls} (hp : s.1 ≤ T.1) (h : coL T s = .inr s') : s.1 < s'.1 ∧ s'.1 ≤ T.1 ∧ s'.2.2 ≤ 60 ∧ (∃ l v, s'.2.1 = s.2.1 ++ l ∧ Pz 1 l v ∧ s.2.2 + v ≤ s'.2.2) ∧ 3 * s'.2.1.length + 9 + 6 * s.2.2 + s.1 ≤ 3 * s.2.1.length + 6 * s'.2.2 + s'.1 := by
  unfold coL at h
  split at h
  · cases h
  · rename_i s1 h1
    obtain ⟨a1, a2, a3, ⟨la, va, a4, a5, a6⟩, a7⟩ := su_ok hp h1
    split at h
    · cases h
    · rename_i k e h2
      obtain ⟨b1, b2, b3, b4, b5⟩ := cm_ok h2
      split at h
      · cases h
      · rename_i s2 h3
        obtain ⟨c1, c2, c3, ⟨lc, vc, c4, c5, c6⟩, c7⟩ := su_ok (s := (e, s1.2.1, s1.2.2 + 1)) b2 h3
        cases h
        have c1 : e < s2.1 := c1
        have c4 : s2.2.1 = s1.2.1 ++ lc := c4
        have c6 : s1.2.2 + 1 + vc = s2.2.2 := c6
        have c7 : 3 * s2.2.1.length + 3 + 6 * (s1.2.2 + 1) + e ≤ 3 * s1.2.1.length + 6 * s2.2.2 + s2.1 := c7
        refine ⟨by show s.1 < s2.1; omega, c2, c3, ⟨(la ++ lc) ++ [k], va + vc, ?_, Pz_c (Pm_a a5 c5) b3 b4, ?_⟩, ?_⟩
        · show s2.2.1 ++ [k] = _
          rw [c4, a4]; simp
        · show s.2.2 + (va + vc) ≤ s2.2.2
          omega
        · show 3 * (s2.2.1 ++ [k]).length + 9 + 6 * s.2.2 + s.1 ≤ 3 * s.2.1.length + 6 * s2.2.2 + s2.1
          simp only [List.length_append, List.length_cons, List.length_nil]
          omega
theorem co_x {s : Ls} {x : Nat} (hT : TX T) (hp : s.1 ≤ T.1) (h : coL T s = .inl x) : 0 < x ∧ x < 2 ^ 25 := by
  unfold coL at h
  split at h
  · rename_i h1; cases h; exact su_x hT hp h1
  · rename_i s1 h1
    obtain ⟨a1, a2, -⟩ := su_ok hp h1
    split at h
    · rename_i h2; cases h; exact cm_x hT a2 h2
    · rename_i k e h2
      obtain ⟨b1, b2, -⟩ := cm_ok h2
      split at h
      · rename_i h3; cases h; exact su_x (s := (e, s1.2.1, s1.2.2 + 1)) hT b2 h3
      · cases h
def gS (m : Nat) : Nat := if m ≤ 1 then 9 else 0
theorem isW_in {a i n : Nat} (hi : i < 24) (hn : (stx i).length = n) (h : isW T a (stx i) = true) (ha : a ≤ T.1) : a + n ≤ T.1 := by
  have := isW_end h
  have := we_le ha
  omega
theorem lg_ok : ∀ u m dp (s s' : Ls) (C0 l : List Nat) (v z0 : Nat), m ≤ 3 → lgR T u m dp s = .inr s' → s.1 ≤ T.1 → s.2.2 ≤ 60 → s.2.1 = C0 ++ l → Pz (m - 1) l v → z0 + v ≤ s.2.2 →
    (s.1 ≤ s'.1 ∧ (m ≤ 1 → s.1 < s'.1)) ∧ s'.1 ≤ T.1 ∧ s'.2.2 ≤ 60 ∧ (∃ l' v', s'.2.1 = C0 ++ l' ∧ Pz 1 l' v' ∧ z0 + v' ≤ s'.2.2) ∧ 3 * s'.2.1.length + gS m + 6 * s.2.2 + s.1 ≤ 3 * (s.2.1.length + (orC m).length) + 6 * s'.2.2 + s'.1 := by
  intro u
  induction u with
  | zero => intro m dp s s' C0 l v z0 _ h; cases h
  | succ u ih =>
    intro m dp s s' C0 l v z0 hm h hp hz hC hP hv
    have s1 := sk_le hp
    have s2 := sk_ge (T := T) (p := s.1)
    have f0 : ∀ (dp : Nat) (t t' : Ls), lgR T u 0 dp t = .inr t' → t.1 ≤ T.1 → t.2.2 ≤ 60 → t.1 < t'.1 ∧ t'.1 ≤ T.1 ∧ t'.2.2 ≤ 60 ∧ (∃ l' v', t'.2.1 = t.2.1 ++ l' ∧ Pz 1 l' v' ∧ t.2.2 + v' ≤ t'.2.2) ∧ 3 * t'.2.1.length + 9 + 6 * t.2.2 + t.1 ≤ 3 * t.2.1.length + 6 * t'.2.2 + t'.1 := by
      intro dp t t' h1 h2 h3
      obtain ⟨b1, b2, b3, b4, b5⟩ := ih 0 dp t t' t.2.1 [] 0 t.2.2 (by omega) h1 h2 h3 (by simp) Pz_0 (by omega)
      exact ⟨b1.2 (by omega), b2, b3, b4, b5⟩
    have hm4 : m = 0 ∨ m = 1 ∨ (¬ m = 0 ∧ ¬ m = 1 ∧ gS m = 0 ∧ (m = 2 ∨ m = 3)) := by
      by_cases h0 : m = 0
      · exact Or.inl h0
      · by_cases h1 : m = 1
        · exact Or.inr (Or.inl h1)
        · exact Or.inr (Or.inr ⟨h0, h1, by unfold gS; rw [if_neg (by omega)], by omega⟩)
    rcases hm4 with rfl | rfl | ⟨hm0, hm1, hg, hm23⟩
    · rw [lg0] at h
      have hP : Pz 0 l v := hP
      show (s.1 ≤ s'.1 ∧ (0 ≤ 1 → s.1 < s'.1)) ∧ s'.1 ≤ T.1 ∧ s'.2.2 ≤ 60 ∧ _ ∧ 3 * s'.2.1.length + 9 + 6 * s.2.2 + s.1 ≤ 3 * (s.2.1.length + 0) + 6 * s'.2.2 + s'.1
      split at h
      · rename_i h91
        have hin := ch8_in (T := T) (p := sk T s.1) (by omega)
        split at h
        · cases h
        · split at h
          · cases h
          · rename_i t ht
            obtain ⟨b1, b2, b3, ⟨l', v', b4, b6, b7⟩, b5⟩ := ih 1 (dp + 1) (sk T s.1 + 1, s.2) t C0 l v z0 (by omega) ht (by show sk T s.1 + 1 ≤ T.1; omega) hz hC hP hv
            have b0 : sk T s.1 + 1 ≤ t.1 := b1.1
            have b5 : 3 * t.2.1.length + 9 + 6 * s.2.2 + (sk T s.1 + 1) ≤ 3 * (s.2.1.length + 0) + 6 * t.2.2 + t.1 := b5
            have s3 := sk_ge (T := T) (p := t.1)
            split at h
            · rename_i h93
              have hin2 := ch8_in (T := T) (p := sk T t.1) (by omega)
              cases h
              refine ⟨⟨by show s.1 ≤ sk T t.1 + 1; omega, fun _ => by show s.1 < sk T t.1 + 1; omega⟩, by show sk T t.1 + 1 ≤ T.1; omega, b3, ⟨l', v', b4, b6, b7⟩, ?_⟩
              show 3 * t.2.1.length + 9 + 6 * s.2.2 + s.1 ≤ 3 * (s.2.1.length + 0) + 6 * t.2.2 + (sk T t.1 + 1)
              omega
            · cases h
      · split at h
        · rename_i hn
          have hin := isW_in (by decide) (show (stx 12).length = 3 from rfl) hn s1
          split at h
          · cases h
          · split at h
            · cases h
            · rename_i t ht
              obtain ⟨b1, b2, b3, ⟨l', v', b4, b6, b7⟩, b5⟩ := f0 _ _ _ ht hin hz
              cases h
              have b0 : sk T s.1 + 3 < t.1 := b1
              have b4 : t.2.1 = s.2.1 ++ l' := b4
              have b7 : s.2.2 + v' ≤ t.2.2 := b7
              have b5 : 3 * t.2.1.length + 9 + 6 * s.2.2 + (sk T s.1 + 3) ≤ 3 * s.2.1.length + 6 * t.2.2 + t.1 := b5
              have pz := Pz_n (m := 0) (Pz_a hP b6)
              refine ⟨⟨by show s.1 ≤ t.1; omega, fun _ => by show s.1 < t.1; omega⟩, b2, b3, ⟨(l ++ l') ++ [22], v + v', ?_, pz, ?_⟩, ?_⟩
              · show t.2.1 ++ [22] = _
                rw [b4, hC]; simp
              · show z0 + (v + v') ≤ t.2.2
                omega
              · show 3 * (t.2.1 ++ [22]).length + 9 + 6 * s.2.2 + s.1 ≤ 3 * (s.2.1.length + 0) + 6 * t.2.2 + t.1
                simp only [List.length_append, List.length_cons, List.length_nil]
                omega
        · obtain ⟨b1, b2, b3, ⟨l', v', b4, b6, b7⟩, b5⟩ := co_ok hp h
          have pz := Pz_a hP b6
          exact ⟨⟨by omega, fun _ => b1⟩, b2, b3, ⟨l ++ l', v + v', by rw [b4, hC]; simp, pz, by omega⟩, b5⟩
    · rw [lg1] at h
      have hP : Pz 0 l v := hP
      show (s.1 ≤ s'.1 ∧ (1 ≤ 1 → s.1 < s'.1)) ∧ s'.1 ≤ T.1 ∧ s'.2.2 ≤ 60 ∧ _ ∧ 3 * s'.2.1.length + 9 + 6 * s.2.2 + s.1 ≤ 3 * (s.2.1.length + 0) + 6 * s'.2.2 + s'.1
      split at h
      · cases h
      · rename_i t ht
        obtain ⟨b1, b2, b3, ⟨l', v', b4, b6, b7⟩, b5⟩ := f0 _ _ _ ht hp hz
        have pz := Pz_a hP b6
        obtain ⟨c1, c2, c3, c4, c5⟩ := ih 2 dp t s' C0 (l ++ l') (v + v') z0 (by omega) h b2 b3 (by rw [b4, hC]; simp) pz (by omega)
        have c5 : 3 * s'.2.1.length + 0 + 6 * t.2.2 + t.1 ≤ 3 * (t.2.1.length + 0) + 6 * s'.2.2 + s'.1 := c5
        exact ⟨⟨by omega, fun _ => by omega⟩, c2, c3, c4, by omega⟩
    · rw [lg2 hm0 hm1] at h
      rw [hg]
      have no1 : ¬ m ≤ 1 := by omega
      have tail : ∃ l', s.2.1 ++ orC m = C0 ++ l' ∧ Pz 1 l' v := by
        rcases hm23 with rfl | rfl
        · exact ⟨l, by rw [hC]; simp [orC], hP⟩
        · exact ⟨l ++ [21], by rw [hC]; simp [orC], Pz_o (m := 0) hP (Or.inr rfl)⟩
      obtain ⟨lt, et, pt⟩ := tail
      split at h
      · rename_i hn
        have hin := isW_in (by decide) (show (stx 22).length = 3 from rfl) hn s1
        split at h
        · cases h
        · rename_i t ht
          obtain ⟨b1, b2, b3, ⟨l', v', b4, b6, b7⟩, b5⟩ := f0 _ _ _ ht hin hz
          have b0 : sk T s.1 + 3 < t.1 := b1
          have b4 : t.2.1 = s.2.1 ++ l' := b4
          have b7 : s.2.2 + v' ≤ t.2.2 := b7
          have b5 : 3 * t.2.1.length + 9 + 6 * s.2.2 + (sk T s.1 + 3) ≤ 3 * s.2.1.length + 6 * t.2.2 + t.1 := b5
          have pz : Pz (m - 1) ((l ++ l') ++ [20]) (v + v') := by
            rcases hm23 with rfl | rfl
            · exact Pz_o (m := 0) (show Pz 2 _ _ from Pz_a (m := 1) (n := 1) hP b6) (Or.inl rfl)
            · exact Pz_o (m := 1) (show Pz 3 _ _ from Pz_a (m := 2) (n := 1) hP b6) (Or.inl rfl)
          obtain ⟨c1, c2, c3, c4, c5⟩ := ih m dp (t.1, t.2.1 ++ [20], t.2.2) s' C0 ((l ++ l') ++ [20]) (v + v') z0 hm h b2 b3 (by show t.2.1 ++ [20] = _; rw [b4, hC]; simp) pz (by show z0 + (v + v') ≤ t.2.2; omega)
          have c1 : t.1 ≤ s'.1 := c1.1
          have c5 : 3 * s'.2.1.length + gS m + 6 * t.2.2 + t.1 ≤ 3 * ((t.2.1 ++ [20]).length + (orC m).length) + 6 * s'.2.2 + s'.1 := c5
          simp only [List.length_append, List.length_cons, List.length_nil] at c5
          exact ⟨⟨by omega, fun x => absurd x no1⟩, c2, c3, c4, by omega⟩
      · split at h
        · rename_i hn
          have hin := isW_in (by decide) (show (stx 23).length = 2 from rfl) hn s1
          split at h
          · cases h
          · rename_i t ht
            obtain ⟨b1, b2, b3, ⟨l', v', b4, b6, b7⟩, b5⟩ := f0 _ _ _ ht hin hz
            have b0 : sk T s.1 + 2 < t.1 := b1
            have b4 : t.2.1 = (s.2.1 ++ orC m) ++ l' := b4
            have b7 : s.2.2 + v' ≤ t.2.2 := b7
            have b5 : 3 * t.2.1.length + 9 + 6 * s.2.2 + (sk T s.1 + 2) ≤ 3 * (s.2.1 ++ orC m).length + 6 * t.2.2 + t.1 := b5
            obtain ⟨c1, c2, c3, c4, c5⟩ := ih 3 dp t s' C0 (lt ++ l') (v + v') z0 (by omega) h b2 b3 (by rw [b4, et]; simp) (Pz_a pt b6) (by omega)
            have c5 : 3 * s'.2.1.length + 0 + 6 * t.2.2 + t.1 ≤ 3 * (t.2.1.length + 1) + 6 * s'.2.2 + s'.1 := c5
            simp only [List.length_append] at b5
            exact ⟨⟨by have := c1.1; omega, fun x => absurd x no1⟩, c2, c3, c4, by omega⟩
        · cases h
          refine ⟨⟨s2, fun x => absurd x no1⟩, s1, hz, ⟨lt, v, et, pt, hv⟩, ?_⟩
          show 3 * (s.2.1 ++ orC m).length + 0 + 6 * s.2.2 + s.1 ≤ 3 * (s.2.1.length + (orC m).length) + 6 * s.2.2 + sk T s.1
          simp only [List.length_append]
          omega
/-- what a fact or test adds -/
theorem lg_f {u m dp : Nat} {s s' : Ls} (hm : m ≤ 1) (h : lgR T u m dp s = .inr s') (hp : s.1 ≤ T.1) (hz : s.2.2 ≤ 60) : s.1 < s'.1 ∧ s'.1 ≤ T.1 ∧ s'.2.2 ≤ 60 ∧ (∃ l v, s'.2.1 = s.2.1 ++ l ∧ Pz 1 l v ∧ s.2.2 + v ≤ s'.2.2) ∧ 3 * s'.2.1.length + 9 + 6 * s.2.2 + s.1 ≤ 3 * s.2.1.length + 6 * s'.2.2 + s'.1 := by
  obtain ⟨b1, b2, b3, b4, b5⟩ := lg_ok u m dp s s' s.2.1 [] 0 s.2.2 (by omega) h hp hz (by simp) (by rw [show m - 1 = 0 by omega]; exact Pz_0) (by omega)
  refine ⟨b1.2 hm, b2, b3, b4, ?_⟩
  have e1 : gS m = 9 := by unfold gS; rw [if_pos hm]
  have e2 : (orC m).length = 0 := by unfold orC; rw [if_neg (by omega)]; rfl
  omega
theorem lg_x (hT : TX T) : ∀ u m dp (s : Ls) x, lgR T u m dp s = .inl x → s.1 ≤ T.1 → s.2.2 ≤ 60 → 3 * (T.1 - s.1) + (if m = 0 then 1 else 2) ≤ u → 0 < x ∧ x < 2 ^ 25 := by
  have h400 := hT.1
  intro u
  induction u with
  | zero => intro m dp s x _ _ _ h; split at h <;> omega
  | succ u ih =>
    intro m dp s x h hp hz hu
    have s1 := sk_le hp
    have s2 := sk_ge (T := T) (p := s.1)
    by_cases h0 : m = 0
    · subst h0
      rw [if_pos rfl] at hu
      rw [lg0] at h
      split at h
      · have hin := ch8_in (T := T) (p := sk T s.1) (by omega)
        split at h
        · cases h; omega
        · split at h
          · rename_i ht
            cases h
            exact ih 1 _ _ _ ht (by show sk T s.1 + 1 ≤ T.1; omega) hz (by show 3 * (T.1 - (sk T s.1 + 1)) + 2 ≤ u; omega)
          · rename_i t ht
            obtain ⟨b1, b2, -⟩ := lg_f (by omega) ht (by show sk T s.1 + 1 ≤ T.1; omega) hz
            have := sk_le b2
            split at h
            · cases h
            · cases h; omega
      · split at h
        · rename_i hn
          have hin := isW_in (by decide) (show (stx 12).length = 3 from rfl) hn s1
          split at h
          · cases h; omega
          · split at h
            · rename_i ht
              cases h
              exact ih 0 _ _ _ ht hin hz (by show 3 * (T.1 - (sk T s.1 + 3)) + 1 ≤ u; omega)
            · cases h
        · exact co_x hT hp h
    · rw [if_neg h0] at hu
      by_cases h1 : m = 1
      · subst h1
        rw [lg1] at h
        split at h
        · rename_i ht
          cases h
          exact ih 0 _ _ _ ht hp hz (by show 3 * (T.1 - s.1) + 1 ≤ u; omega)
        · rename_i t ht
          obtain ⟨b1, b2, b3, -⟩ := lg_f (by omega) ht hp hz
          exact ih 2 _ _ _ h b2 b3 (by show 3 * (T.1 - t.1) + 2 ≤ u; omega)
      · rw [lg2 h0 h1] at h
        split at h
        · rename_i hn
          have hin := isW_in (by decide) (show (stx 22).length = 3 from rfl) hn s1
          split at h
          · rename_i ht
            cases h
            exact ih 0 _ _ _ ht hin hz (by show 3 * (T.1 - (sk T s.1 + 3)) + 1 ≤ u; omega)
          · rename_i t ht
            obtain ⟨b1, b2, b3, -⟩ := lg_f (by omega) ht hin hz
            have b1 : sk T s.1 + 3 < t.1 := b1
            exact ih m _ _ _ h b2 b3 (by rw [if_neg h0]; show 3 * (T.1 - t.1) + 2 ≤ u; omega)
        · split at h
          · rename_i hn
            have hin := isW_in (by decide) (show (stx 23).length = 2 from rfl) hn s1
            split at h
            · rename_i ht
              cases h
              exact ih 0 _ _ _ ht hin hz (by show 3 * (T.1 - (sk T s.1 + 2)) + 1 ≤ u; omega)
            · rename_i t ht
              obtain ⟨b1, b2, b3, -⟩ := lg_f (by omega) ht hin hz
              have b1 : sk T s.1 + 2 < t.1 := b1
              exact ih 3 _ _ _ h b2 b3 (by show 3 * (T.1 - t.1) + 2 ≤ u; omega)
          · cases h
end LW2
