variable {scr : List Int32}
-- ===== steps to a gate =====
section BF
theorem pgn : ∀ m n (F : Nat → Nat), (∀ u, u < n → F u < m) → (∀ u v, u < n → v < n → F u = F v → u = v) → n ≤ m := by
  intro m
  induction m with
  | zero =>
    intro n F h1 _
    apply Nat.le_of_not_lt
    intro h
    have := h1 0 h
    omega
  | succ m ih =>
    intro n F h1 h2
    by_cases hex : ∃ u, u < n ∧ F u = m
    · obtain ⟨u0, hu0, e0⟩ := hex
      have := ih (n - 1) (fun u => F (if u < u0 then u else u + 1)) (by
        intro u hu
        have hlt : (if u < u0 then u else u + 1) < n := by split <;> omega
        have a := h1 _ hlt
        have b : F (if u < u0 then u else u + 1) ≠ m := by
          intro e
          have := h2 _ u0 hlt hu0 (by rw [e, e0])
          split at this <;> omega
        show F (if u < u0 then u else u + 1) < m
        omega) (by
        intro u v hu hv e
        have hlt : (if u < u0 then u else u + 1) < n := by split <;> omega
        have hlt2 : (if v < u0 then v else v + 1) < n := by split <;> omega
        have := h2 _ _ hlt hlt2 e
        split at this <;> split at this <;> omega)
      omega
    · have := ih n F (fun u hu => by
        have a := h1 u hu
        have b : F u ≠ m := fun e => hex ⟨u, hu, e⟩
        omega) h2
      omega
abbrev St : Type := (Nat → Nat) × (Nat → Nat) × Nat
def bfU (P : Pn) (s : St) (i k : Nat) : St := match beO P (s.2.1 i) k with
  | none => s
  | some n => if s.1 n = 99 ∧ gkB (pKd P n) = true then (upN s.1 n (s.1 (s.2.1 i) + 1), upN s.2.1 s.2.2 n, s.2.2 + 1) else s
def bfR (P : Pn) (s : St) (i : Nat) : Nat → St
  | 0 => s
  | k + 1 => bfU P (bfR P s i k) i k
def bfA (P : Pn) (s : St) : Nat → St
  | 0 => s
  | i + 1 => if i < (bfA P s i).2.2 then bfR P (bfA P s i) i 8 else bfA P s i
def bg0 (P : Pn) : Nat → St
  | 0 => (fun _ => 99, fun _ => 0, 0)
  | q + 1 => if thB P q = true ∧ pKd P q = 3 then (upN (bg0 P q).1 q 0, upN (bg0 P q).2.1 (bg0 P q).2.2 q, (bg0 P q).2.2 + 1) else bg0 P q
def gdA (P : Pn) : Nat → Nat := (bfA P (bg0 P 144) 144).1
/-- before the way k of the cell at i in the queue -/
def BV (P : Pn) (s : St) (i k : Nat) : Prop :=
  (∀ j, j < s.2.2 → thB P (s.2.1 j) = true ∧ gkB (pKd P (s.2.1 j)) = true ∧ s.1 (s.2.1 j) ≤ 72) ∧
  (∀ j j', j < s.2.2 → j' < s.2.2 → s.2.1 j = s.2.1 j' → j = j') ∧
  (∀ q, s.1 q = 99 ∨ ∃ j, j < s.2.2 ∧ s.2.1 j = q) ∧
  (∀ j j', j ≤ j' → j' < s.2.2 → s.1 (s.2.1 j) ≤ s.1 (s.2.1 j')) ∧
  (i < s.2.2 → ∀ j, j < s.2.2 → s.1 (s.2.1 j) ≤ s.1 (s.2.1 i) + 1) ∧
  (∀ j, j < s.2.2 → ∀ w, w < 8 → (j < i ∨ (j = i ∧ w < k)) → ∀ n, beO P (s.2.1 j) w = some n → gkB (pKd P n) = true → s.1 n ≤ s.1 (s.2.1 j) + 1) ∧
  (∀ j, j < s.2.2 → ∀ v, v ≤ s.1 (s.2.1 j) → ∃ j', j' < s.2.2 ∧ s.1 (s.2.1 j') = v)
variable {P : Pn} {s : St} {i k : Nat}
theorem bv_room (hP : wfP P) (h : BV P s i k) {n : Nat} (hn : n < 144) (h99 : s.1 n = 99) : s.2.2 < 144 := by
  obtain ⟨h1, h2, -⟩ := h
  have ne : ∀ j, j < s.2.2 → s.2.1 j ≠ n := by
    intro j hj e
    have := (h1 j hj).2.2
    rw [e, h99] at this
    omega
  have := pgn 144 (s.2.2 + 1) (fun j => if j < s.2.2 then s.2.1 j else n) (by
    intro u hu
    by_cases e : u < s.2.2
    · simp only [e, if_true]
      exact th_lt hP (h1 u e).1
    · simp only [e, if_false]
      exact hn) (by
    intro u v hu hv e
    by_cases e1 : u < s.2.2
    · by_cases e2 : v < s.2.2
      · simp only [e1, e2, if_true] at e
        exact h2 u v e1 e2 e
      · simp only [e1, e2, if_true, if_false] at e
        exact absurd e (ne u e1)
    · by_cases e2 : v < s.2.2
      · simp only [e1, e2, if_true, if_false] at e
        exact absurd e.symm (ne v e2)
      · omega)
  omega
theorem bv_le (hP : wfP P) (h : BV P s i k) : s.2.2 ≤ 144 := by
  obtain ⟨h1, h2, -⟩ := h
  exact pgn 144 s.2.2 s.2.1 (fun u hu => th_lt hP (h1 u hu).1) h2
def blk (q : Nat) : Nat := (q % 12) / 2 + 6 * ((q / 12) / 2)
theorem blk_adj : ∀ q, q < 144 → ∀ r, r < 144 → blk q = blk r → q ≠ r → (List.range 8).any (bw q r) = true := by decide +kernel
theorem bv_deep (hP : wfP P) (h : BV P s i k) (hi : i < s.2.2) : s.1 (s.2.1 i) ≤ 71 := by
  obtain ⟨h1, h2, h3, h4, h5, h6, h7⟩ := h
  have hF : ∃ F : Nat → Nat, ∀ v, v ≤ s.1 (s.2.1 i) → F v < s.2.2 ∧ s.1 (s.2.1 (F v)) = v := by
    refine ⟨fun v => if h : ∃ j', j' < s.2.2 ∧ s.1 (s.2.1 j') = v then Classical.choose h else 0, ?_⟩
    intro v hv
    have hx := h7 i hi v hv
    simp only [hx, dif_pos]
    exact Classical.choose_spec hx
  obtain ⟨F, hF⟩ := hF
  have := pgn 36 (s.1 (s.2.1 i) / 2 + 1) (fun u => blk (s.2.1 (F (2 * u)))) (by
    intro u hu
    have := th_lt hP (h1 _ (hF (2 * u) (by omega)).1).1
    show blk _ < 36
    unfold blk
    omega) (by
    have aux : ∀ u v, u < v → v < s.1 (s.2.1 i) / 2 + 1 → blk (s.2.1 (F (2 * u))) ≠ blk (s.2.1 (F (2 * v))) := by
      intro u v huv hv e
      obtain ⟨a1, a2⟩ := hF (2 * u) (by omega)
      obtain ⟨b1, b2⟩ := hF (2 * v) (by omega)
      have ne : s.2.1 (F (2 * u)) ≠ s.2.1 (F (2 * v)) := by
        intro e2
        rw [e2, b2] at a2
        omega
      have adj := blk_adj _ (th_lt hP (h1 _ a1).1) _ (th_lt hP (h1 _ b1).1) e ne
      rw [List.any_eq_true] at adj
      obtain ⟨w, hw, hbw⟩ := adj
      have w8 := List.mem_range.mp hw
      rw [← be_bw hP (h1 _ b1).1] at hbw
      simp only [decide_eq_true_eq] at hbw
      have hlt : F (2 * u) < i := by
        apply Nat.lt_of_not_le
        intro hle
        have := h4 i (F (2 * u)) hle a1
        omega
      have := h6 (F (2 * u)) a1 w w8 (Or.inl hlt) _ hbw (h1 _ b1).2.1
      omega
    intro u v hu hv e
    rcases Nat.lt_trichotomy u v with h | h | h
    · exact absurd e (aux u v h hv)
    · exact h
    · exact absurd e.symm (aux v u h hu))
  omega
theorem bv_U (hP : wfP P) (h : BV P s i k) (hi : i < s.2.2) (hd : s.1 (s.2.1 i) ≤ 71) (hk : k < 8) : BV P (bfU P s i k) i (k + 1) ∧ i < (bfU P s i k).2.2 ∧ (bfU P s i k).2.1 i = s.2.1 i ∧ (bfU P s i k).1 (s.2.1 i) = s.1 (s.2.1 i) := by
  obtain ⟨h1, h2, h3, h4, h5, h6, h7⟩ := h
  have same : (∀ n, beO P (s.2.1 i) k = some n → gkB (pKd P n) = true → s.1 n ≤ s.1 (s.2.1 i) + 1) → BV P s i (k + 1) := by
    intro hx
    refine ⟨h1, h2, h3, h4, h5, ?_, h7⟩
    intro j hj w hw hc n hn hg
    by_cases e : j = i ∧ w = k
    · obtain ⟨e1, e2⟩ := e
      subst e1
      subst e2
      exact hx n hn hg
    · exact h6 j hj w hw (by omega) n hn hg
  unfold bfU
  split
  · rename_i hn
    exact ⟨same (fun n e => by rw [hn] at e; cases e), hi, rfl, rfl⟩
  · rename_i n hn
    split
    · rename_i hc
      obtain ⟨c1, c2⟩ := hc
      have nq : ∀ j, j < s.2.2 → s.2.1 j ≠ n := by
        intro j hj e
        have := (h1 j hj).2.2
        rw [e, c1] at this
        omega
      have eQ : ∀ j, j < s.2.2 → upN s.2.1 s.2.2 n j = s.2.1 j := fun j hj => by rw [upN_at, if_neg (by omega)]
      have eQe : upN s.2.1 s.2.2 n s.2.2 = n := by rw [upN_at, if_pos rfl]
      have eB : ∀ j, j < s.2.2 → upN s.1 n (s.1 (s.2.1 i) + 1) (s.2.1 j) = s.1 (s.2.1 j) := fun j hj => by rw [upN_at, if_neg (nq j hj)]
      have eBn : upN s.1 n (s.1 (s.2.1 i) + 1) n = s.1 (s.2.1 i) + 1 := by rw [upN_at, if_pos rfl]
      have cs : ∀ j, j < s.2.2 + 1 → j < s.2.2 ∨ j = s.2.2 := fun j hj => by omega
      refine ⟨⟨?_, ?_, ?_, ?_, ?_, ?_, ?_⟩, by show i < s.2.2 + 1; omega, eQ i hi, eB i hi⟩
      · intro j hj
        show thB P (upN s.2.1 s.2.2 n j) = true ∧ gkB (pKd P (upN s.2.1 s.2.2 n j)) = true ∧ upN s.1 n (s.1 (s.2.1 i) + 1) (upN s.2.1 s.2.2 n j) ≤ 72
        rcases cs j hj with hj | hj
        · rw [eQ j hj, eB j hj]; exact h1 j hj
        · rw [hj, eQe, eBn]; exact ⟨be_th hP hn, c2, by omega⟩
      · intro j j' hj hj' e
        show j = j'
        have e' : upN s.2.1 s.2.2 n j = upN s.2.1 s.2.2 n j' := e
        rcases cs j hj with a | a
        · rcases cs j' hj' with b | b
          · rw [eQ j a, eQ j' b] at e'; exact h2 j j' a b e'
          · rw [eQ j a, b, eQe] at e'; exact absurd e' (nq j a)
        · rcases cs j' hj' with b | b
          · rw [eQ j' b, a, eQe] at e'; exact absurd e'.symm (nq j' b)
          · omega
      · intro q
        show upN s.1 n (s.1 (s.2.1 i) + 1) q = 99 ∨ ∃ j, j < s.2.2 + 1 ∧ upN s.2.1 s.2.2 n j = q
        by_cases e : q = n
        · right
          exact ⟨s.2.2, by omega, by rw [eQe, e]⟩
        · rcases h3 q with a | ⟨j, a, b⟩
          · left; rw [upN_at, if_neg e]; exact a
          · right; exact ⟨j, by omega, by rw [eQ j a]; exact b⟩
      · intro j j' hjj hj'
        show upN s.1 n (s.1 (s.2.1 i) + 1) (upN s.2.1 s.2.2 n j) ≤ upN s.1 n (s.1 (s.2.1 i) + 1) (upN s.2.1 s.2.2 n j')
        rcases cs j' hj' with b | b
        · have a : j < s.2.2 := by omega
          rw [eQ j a, eQ j' b, eB j a, eB j' b]; exact h4 j j' hjj b
        · rw [b, eQe, eBn]
          rcases cs j (by omega) with a | a
          · rw [eQ j a, eB j a]; exact h5 hi j a
          · rw [a, eQe, eBn]; exact Nat.le_refl _
      · intro _ j hj
        show upN s.1 n (s.1 (s.2.1 i) + 1) (upN s.2.1 s.2.2 n j) ≤ upN s.1 n (s.1 (s.2.1 i) + 1) (upN s.2.1 s.2.2 n i) + 1
        rw [eQ i hi, eB i hi]
        rcases cs j hj with a | a
        · rw [eQ j a, eB j a]; exact h5 hi j a
        · rw [a, eQe, eBn]; exact Nat.le_refl _
      · intro j hj w hw hc n' hn' hg
        show upN s.1 n (s.1 (s.2.1 i) + 1) n' ≤ upN s.1 n (s.1 (s.2.1 i) + 1) (upN s.2.1 s.2.2 n j) + 1
        have hn2 : beO P (upN s.2.1 s.2.2 n j) w = some n' := hn'
        have hjj : j < s.2.2 := by
          rcases cs j hj with a | a
          · exact a
          · omega
        rw [eQ j hjj] at hn2 ⊢
        rw [eB j hjj]
        by_cases e : n' = n
        · subst e
          rw [eBn]
          by_cases e3 : j = i ∧ w = k
          · rw [e3.1]; exact Nat.le_refl _
          · have := h6 j hjj w hw (by omega) n' hn2 hg
            have := (h1 j hjj).2.2
            omega
        · rw [upN_at, if_neg e]
          by_cases e3 : j = i ∧ w = k
          · rw [e3.1, e3.2, hn] at hn2
            cases hn2
            exact absurd rfl e
          · exact h6 j hjj w hw (by omega) n' hn2 hg
      · intro j hj v hv
        show ∃ j', j' < s.2.2 + 1 ∧ upN s.1 n (s.1 (s.2.1 i) + 1) (upN s.2.1 s.2.2 n j') = v
        have hv2 : v ≤ upN s.1 n (s.1 (s.2.1 i) + 1) (upN s.2.1 s.2.2 n j) := hv
        rcases cs j hj with a | a
        · rw [eQ j a, eB j a] at hv2
          obtain ⟨j', b1, b2⟩ := h7 j a v hv2
          exact ⟨j', by omega, by rw [eQ j' b1, eB j' b1]; exact b2⟩
        · rw [a, eQe, eBn] at hv2
          by_cases e : v = s.1 (s.2.1 i) + 1
          · exact ⟨s.2.2, by omega, by rw [eQe, eBn, e]⟩
          · obtain ⟨j', b1, b2⟩ := h7 i hi v (by omega)
            exact ⟨j', by omega, by rw [eQ j' b1, eB j' b1]; exact b2⟩
    · rename_i hc
      refine ⟨same ?_, hi, rfl, rfl⟩
      intro n' e hg
      rw [hn] at e
      cases e
      rcases h3 n with a | ⟨j, a, b⟩
      · exact absurd ⟨a, hg⟩ hc
      · rw [← b]; exact h5 hi j a
theorem bv_R (hP : wfP P) (h : BV P s i 0) (hi : i < s.2.2) : ∀ k, k ≤ 8 → BV P (bfR P s i k) i k ∧ i < (bfR P s i k).2.2 ∧ (bfR P s i k).2.1 i = s.2.1 i ∧ (bfR P s i k).1 (s.2.1 i) = s.1 (s.2.1 i) := by
  have hd := bv_deep hP h hi
  intro k
  induction k with
  | zero => intro _; exact ⟨h, hi, rfl, rfl⟩
  | succ k ih =>
    intro hk
    obtain ⟨a, b, c, e⟩ := ih (by omega)
    obtain ⟨a2, b2, c2, e2⟩ := bv_U hP a b (by rw [c, e]; exact hd) (by omega)
    exact ⟨a2, b2, c2.trans c, by rw [c] at e2; exact e2.trans e⟩
theorem bv_nx (h : BV P s i 8) (hi : i < s.2.2) : BV P s (i + 1) 0 := by
  obtain ⟨h1, h2, h3, h4, h5, h6, h7⟩ := h
  refine ⟨h1, h2, h3, h4, ?_, ?_, h7⟩
  · intro hi2 j hj
    have := h5 hi j hj
    have := h4 i (i + 1) (by omega) hi2
    omega
  · intro j hj w hw hc n hn hg
    exact h6 j hj w hw (by omega) n hn hg
theorem bv_A (hP : wfP P) (h : BV P s 0 0) : ∀ i, BV P (bfA P s i) i 0 ∨ ((bfA P s i).2.2 ≤ i ∧ BV P (bfA P s i) (bfA P s i).2.2 0) := by
  intro i
  induction i with
  | zero => exact Or.inl h
  | succ i ih =>
    simp only [bfA]
    split
    · rename_i hlt
      rcases ih with a | ⟨a, -⟩
      · obtain ⟨b1, b2, -, -⟩ := bv_R hP a hlt 8 (by omega)
        exact Or.inl (bv_nx b1 b2)
      · omega
    · rename_i hnl
      rcases ih with a | ⟨a, b⟩
      · refine Or.inr ⟨by omega, ?_⟩
        obtain ⟨h1, h2, h3, h4, h5, h6, h7⟩ := a
        refine ⟨h1, h2, h3, h4, fun q => by omega, ?_, h7⟩
        intro j hj w hw hc n hn hg
        exact h6 j hj w hw (by omega) n hn hg
      · exact Or.inr ⟨by omega, b⟩
theorem bg_inv : ∀ q, (∀ j, j < (bg0 P q).2.2 → (bg0 P q).2.1 j < q ∧ thB P ((bg0 P q).2.1 j) = true ∧ pKd P ((bg0 P q).2.1 j) = 3 ∧ (bg0 P q).1 ((bg0 P q).2.1 j) = 0) ∧ (∀ j j', j < (bg0 P q).2.2 → j' < (bg0 P q).2.2 → (bg0 P q).2.1 j = (bg0 P q).2.1 j' → j = j') ∧ (∀ r, (bg0 P q).1 r = 99 ∨ ∃ j, j < (bg0 P q).2.2 ∧ (bg0 P q).2.1 j = r) ∧ (∀ r, r < q → thB P r = true → pKd P r = 3 → (bg0 P q).1 r = 0) ∧ (bg0 P q).2.2 ≤ q := by
  intro q
  induction q with
  | zero => exact ⟨fun j hj => absurd hj (Nat.not_lt_zero _), fun j _ hj => absurd hj (Nat.not_lt_zero _), fun r => Or.inl rfl, fun r hr => absurd hr (Nat.not_lt_zero _), Nat.le_refl _⟩
  | succ q ih =>
    obtain ⟨h1, h2, h3, h4, h5⟩ := ih
    simp only [bg0]
    split
    · rename_i hc
      generalize bg0 P q = s at *
      have cs : ∀ j, j < s.2.2 + 1 → j < s.2.2 ∨ j = s.2.2 := fun j hj => by omega
      have eQ : ∀ j, j < s.2.2 → upN s.2.1 s.2.2 q j = s.2.1 j := fun j hj => by rw [upN_at, if_neg (by omega)]
      have eQe : upN s.2.1 s.2.2 q s.2.2 = q := by rw [upN_at, if_pos rfl]
      have eB : ∀ j, j < s.2.2 → upN s.1 q 0 (s.2.1 j) = s.1 (s.2.1 j) := fun j hj => by rw [upN_at, if_neg (by have := (h1 j hj).1; omega)]
      have eBn : upN s.1 q 0 q = 0 := by rw [upN_at, if_pos rfl]
      refine ⟨?_, ?_, ?_, ?_, by show s.2.2 + 1 ≤ q + 1; omega⟩
      · intro j hj
        show upN s.2.1 s.2.2 q j < q + 1 ∧ thB P (upN s.2.1 s.2.2 q j) = true ∧ pKd P (upN s.2.1 s.2.2 q j) = 3 ∧ upN s.1 q 0 (upN s.2.1 s.2.2 q j) = 0
        rcases cs j hj with a | a
        · rw [eQ j a, eB j a]
          obtain ⟨b1, b2, b3, b4⟩ := h1 j a
          exact ⟨by omega, b2, b3, b4⟩
        · rw [a, eQe, eBn]; exact ⟨by omega, hc.1, hc.2, rfl⟩
      · intro j j' hj hj' e
        have e' : upN s.2.1 s.2.2 q j = upN s.2.1 s.2.2 q j' := e
        show j = j'
        rcases cs j hj with a | a
        · rcases cs j' hj' with b | b
          · rw [eQ j a, eQ j' b] at e'; exact h2 j j' a b e'
          · rw [eQ j a, b, eQe] at e'
            have := (h1 j a).1
            omega
        · rcases cs j' hj' with b | b
          · rw [eQ j' b, a, eQe] at e'
            have := (h1 j' b).1
            omega
          · omega
      · intro r
        show upN s.1 q 0 r = 99 ∨ ∃ j, j < s.2.2 + 1 ∧ upN s.2.1 s.2.2 q j = r
        by_cases e : r = q
        · right; exact ⟨s.2.2, by omega, by rw [eQe, e]⟩
        · rcases h3 r with a | ⟨j, a, b⟩
          · left; rw [upN_at, if_neg e]; exact a
          · right; exact ⟨j, by omega, by rw [eQ j a]; exact b⟩
      · intro r hr ht hk
        show upN s.1 q 0 r = 0
        by_cases e : r = q
        · rw [e, eBn]
        · rw [upN_at, if_neg e]; exact h4 r (by omega) ht hk
    · rename_i hc
      refine ⟨fun j hj => ?_, h2, h3, ?_, by omega⟩
      · obtain ⟨b1, b2, b3, b4⟩ := h1 j hj
        exact ⟨by omega, b2, b3, b4⟩
      · intro r hr ht hk
        by_cases e : r = q
        · subst e; exact absurd ⟨ht, hk⟩ hc
        · exact h4 r (by omega) ht hk
theorem bg_bv (hP : wfP P) : BV P (bg0 P 144) 0 0 := by
  obtain ⟨h1, h2, h3, h4, -⟩ := bg_inv (P := P) 144
  refine ⟨?_, h2, h3, ?_, ?_, ?_, ?_⟩
  · intro j hj
    obtain ⟨b1, b2, b3, b4⟩ := h1 j hj
    exact ⟨b2, by rw [b3]; rfl, by omega⟩
  · intro j j' hjj hj'
    rw [(h1 j (by omega)).2.2.2, (h1 j' hj').2.2.2]
    exact Nat.le_refl _
  · intro h0 j hj
    rw [(h1 j hj).2.2.2]
    omega
  · intro j hj w hw hc
    omega
  · intro j hj v hv
    have := (h1 j hj).2.2.2
    exact ⟨j, hj, by omega⟩
end BF
