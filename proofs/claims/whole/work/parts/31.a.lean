-- ===== the law, told =====
section LW1
abbrev Ls : Type := Nat × List Nat × Nat
def voO (T : Tp) (a : Nat) : Option Nat := if isW T a (stx 13) = true then some 0 else if isW T a (stx 14) = true then some 1 else if isW T a (stx 15) = true then some 2 else if isW T a (stx 16) = true then some 3 else if isW T a (stx 17) = true then some 4 else if isW T a (stx 18) = true then some 5 else if isW T a (stx 19) = true then some 6 else if isW T a (stx 20) = true then some 7 else if isW T a (stx 21) = true then some 8 else none
/-- a value: its code and its end, or what is wrong -/
def vaR (T : Tp) (p sz : Nat) : Nat ⊕ (Nat × Nat) :=
  if dgB (ch8 T (sk T p)) = true then
    match nuR T p 0 99999 with
    | .inl x => .inl x
    | .inr (v, e) => if 60 ≤ sz then .inl (1 + 8 * sk T p + 3) else .inr (32 + v, e)
  else match voO T (sk T p) with
    | none => .inl (1 + 8 * sk T p)
    | some k => if 60 ≤ sz then .inl (1 + 8 * sk T p + 3) else .inr (k, we T (sk T p))
def wkO (x : Nat) : Option Nat := if x = 43 then some 10 else if x = 45 then some 11 else if x = 42 then some 12 else if x = 47 then some 13 else if x = 37 then some 14 else none
def oC (w : Option Nat) : List Nat := match w with
  | none => []
  | some k => [k]
def suL (T : Tp) : Nat → Option Nat → Ls → Nat ⊕ Ls
  | 0, _, _ => .inl 0
  | u + 1, w, s => match wkO (ch8 T (sk T s.1)) with
    | none => .inr (sk T s.1, s.2.1 ++ oC w, s.2.2)
    | some k => match vaR T (sk T s.1 + 1) s.2.2 with
      | .inl x => .inl x
      | .inr (v, e) => if k < 12 then suL T u (some k) (e, (s.2.1 ++ oC w) ++ [v], s.2.2 + 1) else suL T u w (e, (s.2.1 ++ [v]) ++ [k], s.2.2 + 1)
def suR (T : Tp) (s : Ls) : Nat ⊕ Ls := match vaR T s.1 s.2.2 with
  | .inl x => .inl x
  | .inr (v, e) => suL T 401 none (e, s.2.1 ++ [v], s.2.2 + 1)
def cmR (T : Tp) (p sz : Nat) : Nat ⊕ (Nat × Nat) :=
  if ch8 T (sk T p) = 60 then (if 60 ≤ sz then .inl (1 + 8 * sk T p + 3) else if ch8 T (sk T p + 1) = 61 then .inr (16, sk T p + 2) else .inr (15, sk T p + 1))
  else if ch8 T (sk T p) = 62 then (if 60 ≤ sz then .inl (1 + 8 * sk T p + 3) else if ch8 T (sk T p + 1) = 61 then .inr (18, sk T p + 2) else .inr (19, sk T p + 1))
  else if ch8 T (sk T p) = 61 then (if 60 ≤ sz then .inl (1 + 8 * sk T p + 3) else .inr (17, sk T p + 1))
  else .inl (1 + 8 * sk T p)
def coL (T : Tp) (s : Ls) : Nat ⊕ Ls := match suR T s with
  | .inl x => .inl x
  | .inr s1 => match cmR T s1.1 s1.2.2 with
    | .inl x => .inl x
    | .inr (k, e) => match suR T (e, s1.2.1, s1.2.2 + 1) with
      | .inl x => .inl x
      | .inr s2 => .inr (s2.1, s2.2.1 ++ [k], s2.2.2)
def orC (m : Nat) : List Nat := if m = 3 then [21] else []
/-- a fact (0), a test (1), what follows a fact in a test (2, 3) -/
def lgR (T : Tp) : Nat → Nat → Nat → Ls → Nat ⊕ Ls
  | 0, _, _, _ => .inl 0
  | u + 1, m, dp, s =>
    if m = 0 then
      if ch8 T (sk T s.1) = 91 then
        if 10 ≤ dp then .inl (1 + 8 * sk T s.1 + 2) else
        match lgR T u 1 (dp + 1) (sk T s.1 + 1, s.2) with
        | .inl x => .inl x
        | .inr s1 => if ch8 T (sk T s1.1) = 93 then .inr (sk T s1.1 + 1, s1.2) else .inl (1 + 8 * sk T s1.1)
      else if isW T (sk T s.1) (stx 12) = true then
        if 10 ≤ dp then .inl (1 + 8 * sk T s.1 + 2) else
        match lgR T u 0 (dp + 1) (sk T s.1 + 3, s.2) with
        | .inl x => .inl x
        | .inr s1 => .inr (s1.1, s1.2.1 ++ [22], s1.2.2)
      else coL T s
    else if m = 1 then
      match lgR T u 0 dp s with
      | .inl x => .inl x
      | .inr s1 => lgR T u 2 dp s1
    else if isW T (sk T s.1) (stx 22) = true then
      match lgR T u 0 dp (sk T s.1 + 3, s.2) with
      | .inl x => .inl x
      | .inr s1 => lgR T u m dp (s1.1, s1.2.1 ++ [20], s1.2.2)
    else if isW T (sk T s.1) (stx 23) = true then
      match lgR T u 0 dp (sk T s.1 + 2, s.2.1 ++ orC m, s.2.2) with
      | .inl x => .inl x
      | .inr s1 => lgR T u 3 dp s1
    else .inr (sk T s.1, s.2.1 ++ orC m, s.2.2)
def clC' (T : Tp) (n : Nat) (s : Ls) : Nat ⊕ (Nat × Ls) :=
  if isW T (sk T s.1) (stx 10) = true ∨ isW T (sk T s.1) (stx 9) = true then
    if 12 ≤ n then .inl (1 + 8 * sk T s.1 + 4) else
    match (if isW T (sk T s.1) (stx 10) = true then Sum.inr (0, sk T s.1 + 5) else nuR T (sk T s.1 + 6) 1 9) with
    | .inl x => .inl x
    | .inr (k, e) => if isW T (sk T e) (stx 11) = true then
        match lgR T 1300 1 0 (sk T e + 2, s.2) with
        | .inl x => .inl x
        | .inr s1 => .inr (k, s1)
      else .inr (k, (sk T e, s.2))
  else .inl (1 + 8 * sk T s.1)
abbrev Lq : Type := Nat × (Nat → Nat) × (Nat → Nat)
def lwL (T : Tp) : Nat → Lq → Ls → Nat ⊕ (Lq × List Nat)
  | 0, _, _ => .inl 0
  | u + 1, L, s => match clC' T L.1 s with
    | .inl x => .inl x
    | .inr (k, s1) => if T.1 ≤ sk T s1.1 then .inr ((L.1 + 1, upN L.2.1 L.1 k, upN L.2.2 L.1 s1.2.1.length), s1.2.1)
      else if ch8 T (sk T s1.1) = 59 then lwL T u (L.1 + 1, upN L.2.1 L.1 k, upN L.2.2 L.1 s1.2.1.length) (sk T s1.1 + 1, s1.2)
      else .inl (1 + 8 * sk T s1.1)
variable {T : Tp}
theorem lg0 {u dp : Nat} {s : Ls} : lgR T (u + 1) 0 dp s = if ch8 T (sk T s.1) = 91 then
        if 10 ≤ dp then .inl (1 + 8 * sk T s.1 + 2) else
        match lgR T u 1 (dp + 1) (sk T s.1 + 1, s.2) with
        | .inl x => .inl x
        | .inr s1 => if ch8 T (sk T s1.1) = 93 then .inr (sk T s1.1 + 1, s1.2) else .inl (1 + 8 * sk T s1.1)
      else if isW T (sk T s.1) (stx 12) = true then
        if 10 ≤ dp then .inl (1 + 8 * sk T s.1 + 2) else
        match lgR T u 0 (dp + 1) (sk T s.1 + 3, s.2) with
        | .inl x => .inl x
        | .inr s1 => .inr (s1.1, s1.2.1 ++ [22], s1.2.2)
      else coL T s := rfl
theorem lg1 {u dp : Nat} {s : Ls} : lgR T (u + 1) 1 dp s = match lgR T u 0 dp s with
      | .inl x => .inl x
      | .inr s1 => lgR T u 2 dp s1 := rfl
theorem lg2 {u dp m : Nat} {s : Ls} (h0 : ¬ m = 0) (h1 : ¬ m = 1) : lgR T (u + 1) m dp s = if isW T (sk T s.1) (stx 22) = true then
      match lgR T u 0 dp (sk T s.1 + 3, s.2) with
      | .inl x => .inl x
      | .inr s1 => lgR T u m dp (s1.1, s1.2.1 ++ [20], s1.2.2)
    else if isW T (sk T s.1) (stx 23) = true then
      match lgR T u 0 dp (sk T s.1 + 2, s.2.1 ++ orC m, s.2.2) with
      | .inl x => .inl x
      | .inr s1 => lgR T u 3 dp s1
    else .inr (sk T s.1, s.2.1 ++ orC m, s.2.2) := by
  rw [lgR, if_neg h0, if_neg h1]
-- ===== running code =====
def rnS (val : Nat → Int64) (s : Nat) (st : List Int64) : Option (List Int64) :=
  if s = 22 then (match st with
    | [] => none
    | a :: r => if st.length ≤ 64 then some ((1 - a) :: r) else none)
  else if 10 ≤ s ∧ s ≤ 21 then (match st with
    | b :: a :: r => if st.length ≤ 64 then some (wkA s a b :: r) else none
    | _ => none)
  else if (s < 9 ∨ (32 ≤ s ∧ s < 100032)) ∧ st.length < 64 then some ((if 32 ≤ s then Int32.toInt64 (nI (s - 32)) else val s) :: st) else none
def rn (val : Nat → Int64) : List Nat → List Int64 → Option (List Int64)
  | [], st => some st
  | s :: l, st => (rnS val s st).bind (rn val l)
variable {val : Nat → Int64}
theorem rn_app : ∀ (l k : List Nat) (st : List Int64), rn val (l ++ k) st = (rn val l st).bind (rn val k) := by
  intro l
  induction l with
  | nil => intro k st; rfl
  | cons s l ih =>
    intro k st
    show (rnS val s st).bind (rn val (l ++ k)) = ((rnS val s st).bind (rn val l)).bind (rn val k)
    cases rnS val s st with
    | none => rfl
    | some st' => exact ih k st'
def Rl (st : List Int64) (t : Nat) (S : Nat → Int64) : Prop := t = st.length ∧ ∀ j, j < st.length → st[j]? = some (S (t - 1 - j))
theorem Rl_step {s t : Nat} {st st' : List Int64} {S : Nat → Int64} (h : Rl st t S) (hr : rnS val s st = some st') : okS s t ∧ Rl st' (tpS s t) (stS val s t S) := by
  obtain ⟨ht, hS⟩ := h
  unfold rnS at hr
  unfold okS tpS stS
  by_cases h22 : s = 22
  · rw [if_pos h22] at hr
    cases st with
    | nil => cases hr
    | cons a r =>
      dsimp only at hr
      split at hr
      · rename_i hl
        cases hr
        have e0 := hS 0 (by simp)
        simp only [List.length_cons] at ht hl
        simp only [List.getElem?_cons_zero, Option.some.injEq] at e0
        refine ⟨Or.inl ⟨h22, by omega, by omega⟩, ?_⟩
        simp only [if_pos h22]
        refine ⟨ht, ?_⟩
        intro j hj
        cases j with
        | zero => simp only [List.getElem?_cons_zero, upA, if_true, Nat.sub_zero]; rw [e0]; rfl
        | succ j =>
          have := hS (j + 1) hj
          simp only [List.getElem?_cons_succ] at this ⊢
          simp only [List.length_cons] at hj
          rw [this]
          unfold upA
          rw [if_neg (by omega)]
      · cases hr
  · rw [if_neg h22] at hr
    simp only [if_neg h22]
    by_cases h10 : 10 ≤ s ∧ s ≤ 21
    · rw [if_pos h10] at hr
      simp only [if_pos h10]
      match st, hr, hS, ht with
      | b :: a :: r, hr, hS, ht =>
        dsimp only at hr
        split at hr
        · rename_i hl
          cases hr
          have e0 := hS 0 (by simp)
          have e1 := hS 1 (by simp)
          simp only [List.length_cons] at ht hl
          simp only [List.getElem?_cons_zero, List.getElem?_cons_succ, Option.some.injEq] at e0 e1
          refine ⟨Or.inr (Or.inl ⟨h10.1, h10.2, by omega, by omega⟩), by simp only [List.length_cons]; omega, ?_⟩
          intro j hj
          cases j with
          | zero =>
            simp only [List.getElem?_cons_zero]
            unfold upA
            rw [if_pos (by omega), e0, e1, show t - 1 - 0 = t - 1 by omega, show t - 1 - 1 = t - 2 by omega]
          | succ j =>
            have := hS (j + 2) (by simp only [List.length_cons] at hj ⊢; omega)
            simp only [List.getElem?_cons_succ] at this ⊢
            simp only [List.length_cons] at hj
            rw [this]
            unfold upA
            rw [if_neg (by omega), show t - 1 - (j + 2) = t - 1 - 1 - (j + 1) by omega]
        · cases hr
    · rw [if_neg h10] at hr
      simp only [if_neg h10]
      split at hr
      · rename_i hl
        cases hr
        refine ⟨Or.inr (Or.inr ⟨hl.1, by omega⟩), by simp only [List.length_cons]; omega, ?_⟩
        intro j hj
        cases j with
        | zero =>
          simp only [List.getElem?_cons_zero]
          unfold upA
          rw [if_pos (show t + 1 - 1 - 0 = t by omega)]
        | succ j =>
          have := hS j (by simp only [List.length_cons] at hj; omega)
          simp only [List.getElem?_cons_succ]
          simp only [List.length_cons] at hj
          rw [this]
          unfold upA
          rw [if_neg (by omega), show t + 1 - 1 - (j + 1) = t - 1 - j by omega]
      · cases hr
theorem Rl_run {cd : Nat → Nat} {b : Nat} : ∀ (l : List Nat) (i : Nat) (st st' : List Int64), (∀ k, k < l.length → l[k]? = some (cd (b + i + k))) → Rl st (topA cd b i) (stA val cd b i) → rn val l st = some st' → (∀ k, k < l.length → okS (cd (b + (i + k))) (topA cd b (i + k))) ∧ Rl st' (topA cd b (i + l.length)) (stA val cd b (i + l.length)) := by
  intro l
  induction l with
  | nil =>
    intro i st st' _ h hr
    cases hr
    exact ⟨fun k hk => by simp at hk, h⟩
  | cons s l ih =>
    intro i st st' hc h hr
    have hr : (rnS val s st).bind (rn val l) = some st' := hr
    have e0 := hc 0 (by simp)
    simp only [List.getElem?_cons_zero, Option.some.injEq, Nat.add_zero] at e0
    cases e : rnS val s st with
    | none => rw [e] at hr; cases hr
    | some s1 =>
      rw [e] at hr
      obtain ⟨o, r⟩ := Rl_step h e
      rw [e0] at o r
      obtain ⟨o2, r2⟩ := ih (i + 1) s1 st' (fun k hk => by
        have := hc (k + 1) (by simp only [List.length_cons]; omega)
        simp only [List.getElem?_cons_succ] at this
        rw [this, show b + i + (k + 1) = b + (i + 1) + k by omega]) r hr
      refine ⟨fun k hk => ?_, ?_⟩
      · cases k with
        | zero => exact o
        | succ k =>
          have := o2 k (by simp only [List.length_cons] at hk; omega)
          rw [show i + (k + 1) = i + 1 + k by omega]
          exact this
      · rw [List.length_cons, show i + (l.length + 1) = i + 1 + l.length by omega]
        exact r2
/-- pushes m values -/
def Pm (m : Nat) (l : List Nat) (v : Nat) : Prop := m ≤ v ∧ ∀ val (st : List Int64), st.length + v ≤ 64 → ∃ xs : List Int64, xs.length = m ∧ rn val l st = some (xs ++ st)
def Pz (m : Nat) (l : List Nat) (v : Nat) : Prop := m ≤ v ∧ ∀ val (st : List Int64), st.length + v ≤ 64 → ∃ xs : List Int64, xs.length = m ∧ (∀ x ∈ xs, x = 0 ∨ x = 1) ∧ rn val l st = some (xs ++ st)
theorem Pm_0 : Pm 0 [] 0 := ⟨Nat.le_refl _, fun _ st _ => ⟨[], rfl, rfl⟩⟩
theorem Pz_0 : Pz 0 [] 0 := ⟨Nat.le_refl _, fun _ st _ => ⟨[], rfl, (fun x hx => (by cases hx)), rfl⟩⟩
theorem Pm_v {m v k : Nat} {l : List Nat} (h : Pm m l v) (hk : k < 9 ∨ (32 ≤ k ∧ k < 100032)) : Pm (m + 1) (l ++ [k]) (v + 1) := by
  refine ⟨by have := h.1; omega, fun val st hs => ?_⟩
  have hm := h.1
  obtain ⟨xs, e1, e2⟩ := h.2 val st (by omega)
  refine ⟨(if 32 ≤ k then Int32.toInt64 (nI (k - 32)) else val k) :: xs, by simp [e1], ?_⟩
  rw [rn_app, e2]
  show (rnS val k (xs ++ st)).bind (rn val []) = _
  unfold rnS
  rw [if_neg (by omega), if_neg (by omega), if_pos ⟨hk, by rw [List.length_append, e1]; omega⟩]
  rfl
theorem Pm_o {m v k : Nat} {l : List Nat} (h : Pm (m + 2) l v) (h1 : 10 ≤ k) (h2 : k ≤ 21) : Pm (m + 1) (l ++ [k]) v := by
  refine ⟨by have := h.1; omega, fun val st hs => ?_⟩
  have hm := h.1
  obtain ⟨xs, e1, e2⟩ := h.2 val st (by omega)
  match xs, e1, e2 with
  | b :: a :: r, e1, e2 =>
    simp only [List.length_cons] at e1
    refine ⟨wkA k a b :: r, by simp only [List.length_cons]; omega, ?_⟩
    rw [rn_app, e2]
    show (rnS val k (b :: a :: (r ++ st))).bind (rn val []) = _
    unfold rnS
    rw [if_neg (by omega), if_pos ⟨h1, h2⟩]
    dsimp only
    rw [if_pos (by simp only [List.length_cons, List.length_append]; omega)]
    rfl
theorem wkA_b {k : Nat} (h1 : 15 ≤ k) (h2 : k ≤ 19) (a b : Int64) : wkA k a b = 0 ∨ wkA k a b = 1 := by
  have hs : k = 15 ∨ k = 16 ∨ k = 17 ∨ k = 18 ∨ k = 19 := by omega
  rcases hs with rfl | rfl | rfl | rfl | rfl
  all_goals
    simp only [wkA, Nat.reduceEqDiff, if_true, if_false]
    split
    · first | exact Or.inr rfl | exact Or.inl rfl
    · first | exact Or.inl rfl | exact Or.inr rfl
theorem wkA_z {k : Nat} (h : k = 20 ∨ k = 21) {a b : Int64} (ha : a = 0 ∨ a = 1) (hb : b = 0 ∨ b = 1) : wkA k a b = 0 ∨ wkA k a b = 1 := by
  rcases h with rfl | rfl <;> rcases ha with rfl | rfl <;> rcases hb with rfl | rfl <;> decide
theorem Pz_c {v k : Nat} {l : List Nat} (h : Pm 2 l v) (h1 : 15 ≤ k) (h2 : k ≤ 19) : Pz 1 (l ++ [k]) v := by
  refine ⟨by have := h.1; omega, fun val st hs => ?_⟩
  have hm := h.1
  obtain ⟨xs, e1, e2⟩ := h.2 val st (by omega)
  match xs, e1, e2 with
  | [b, a], e1, e2 =>
    refine ⟨[wkA k a b], rfl, fun x hx => ?_, ?_⟩
    · rw [List.mem_singleton] at hx; rw [hx]; exact wkA_b h1 h2 a b
    · rw [rn_app, e2]
      show (rnS val k (b :: a :: st)).bind (rn val []) = _
      unfold rnS
      rw [if_neg (by omega), if_pos ⟨by omega, by omega⟩]
      dsimp only
      rw [if_pos (by simp only [List.length_cons]; omega)]
      rfl
theorem Pz_o {m v k : Nat} {l : List Nat} (h : Pz (m + 2) l v) (hk : k = 20 ∨ k = 21) : Pz (m + 1) (l ++ [k]) v := by
  refine ⟨by have := h.1; omega, fun val st hs => ?_⟩
  have hm := h.1
  obtain ⟨xs, e1, ez, e2⟩ := h.2 val st (by omega)
  match xs, e1, ez, e2 with
  | b :: a :: r, e1, ez, e2 =>
    simp only [List.length_cons] at e1
    refine ⟨wkA k a b :: r, by simp only [List.length_cons]; omega, fun x hx => ?_, ?_⟩
    · rcases List.mem_cons.mp hx with rfl | hx
      · exact wkA_z hk (ez a (by simp)) (ez b (by simp))
      · exact ez x (by simp [hx])
    · rw [rn_app, e2]
      show (rnS val k (b :: a :: (r ++ st))).bind (rn val []) = _
      unfold rnS
      rw [if_neg (by omega), if_pos ⟨by omega, by omega⟩]
      dsimp only
      rw [if_pos (by simp only [List.length_cons, List.length_append]; omega)]
      rfl
theorem Pz_n {m v : Nat} {l : List Nat} (h : Pz (m + 1) l v) : Pz (m + 1) (l ++ [22]) v := by
  refine ⟨h.1, fun val st hs => ?_⟩
  have hm := h.1
  obtain ⟨xs, e1, ez, e2⟩ := h.2 val st (by omega)
  match xs, e1, ez, e2 with
  | a :: r, e1, ez, e2 =>
    simp only [List.length_cons] at e1
    refine ⟨(1 - a) :: r, by simp only [List.length_cons]; omega, fun x hx => ?_, ?_⟩
    · rcases List.mem_cons.mp hx with rfl | hx
      · rcases ez a (by simp) with rfl | rfl <;> decide
      · exact ez x (by simp [hx])
    · rw [rn_app, e2]
      show (rnS val 22 (a :: (r ++ st))).bind (rn val []) = _
      unfold rnS
      rw [if_pos rfl]
      dsimp only
      rw [if_pos (by simp only [List.length_cons, List.length_append]; omega)]
      rfl
theorem Pm_a {m n v w : Nat} {l k : List Nat} (h : Pm m l v) (h' : Pm n k w) : Pm (m + n) (l ++ k) (v + w) := by
  refine ⟨by have := h.1; have := h'.1; omega, fun val st hs => ?_⟩
  have hm := h.1
  obtain ⟨xs, e1, e2⟩ := h.2 val st (by omega)
  obtain ⟨ys, e3, e4⟩ := h'.2 val (xs ++ st) (by rw [List.length_append, e1]; omega)
  exact ⟨ys ++ xs, by rw [List.length_append]; omega, by rw [rn_app, e2]; show rn val k (xs ++ st) = _; rw [e4, List.append_assoc]⟩
theorem Pz_a {m n v w : Nat} {l k : List Nat} (h : Pz m l v) (h' : Pz n k w) : Pz (m + n) (l ++ k) (v + w) := by
  refine ⟨by have := h.1; have := h'.1; omega, fun val st hs => ?_⟩
  have hm := h.1
  obtain ⟨xs, e1, ez, e2⟩ := h.2 val st (by omega)
  obtain ⟨ys, e3, ez2, e4⟩ := h'.2 val (xs ++ st) (by rw [List.length_append, e1]; omega)
  refine ⟨ys ++ xs, by rw [List.length_append]; omega, fun x hx => ?_, by rw [rn_app, e2]; show rn val k (xs ++ st) = _; rw [e4, List.append_assoc]⟩
  rcases List.mem_append.mp hx with hx | hx
  · exact ez2 x hx
  · exact ez x hx
/-- one that pushes a truth is good -/
theorem good_of {cd : Nat → Nat} {b v : Nat} {l : List Nat} (h : Pz 1 l v) (hv : v ≤ 64) (hc : ∀ k, k < l.length → l[k]? = some (cd (b + k))) : good cd b (b + l.length) := by
  have key : ∀ val, ∃ xs : List Int64, xs.length = 1 ∧ (∀ x ∈ xs, x = 0 ∨ x = 1) ∧ (∀ k, k < l.length → okS (cd (b + (0 + k))) (topA cd b (0 + k))) ∧ Rl xs (topA cd b (0 + l.length)) (stA val cd b (0 + l.length)) := by
    intro val
    obtain ⟨xs, e1, ez, e2⟩ := h.2 val [] (by simpa using hv)
    exact ⟨xs, e1, ez, Rl_run (val := val) l 0 [] xs (fun k hk => hc k hk) ⟨rfl, fun j hj => by simp at hj⟩ (by rw [e2, List.append_nil])⟩
  rw [show b + l.length = b + (0 + l.length) by omega]
  unfold good
  rw [show b + (0 + l.length) - b = 0 + l.length by omega]
  refine ⟨fun i hi => ?_, ?_, fun val => ?_⟩
  · obtain ⟨xs, e1, ez, o, r⟩ := key (fun _ => 0)
    have := o i (by omega)
    rw [Nat.zero_add] at this
    exact this
  · obtain ⟨xs, e1, ez, o, r⟩ := key (fun _ => 0)
    rw [r.1, e1]
  · obtain ⟨xs, e1, ez, o, r⟩ := key val
    have e := r.2 0 (by omega)
    rw [r.1, e1] at e
    match xs, e1, ez, e with
    | [a], _, ez, e =>
      simp only [List.getElem?_cons_zero, Option.some.injEq] at e
      have := ez a (by simp)
      rw [e] at this
      exact this
end LW1
