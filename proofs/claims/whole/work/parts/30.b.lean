variable {scr : List Int32}
-- ===== the tape: the class, the model =====
section RE2
variable {f G f' G' : Nat → Nat → Int32} {J J' : Nat → Nat → Int64} {c : Value} {d : Nat} {T : Tp} {p q : Nat}
def pS (f : Nat → Nat → Int32) (q : Nat) : Nat → Nat → Int32 := up2 f 1 2 (nI q)
def TC (f G : Nat → Nat → Int32) (T : Tp) (p : Nat) : Prop := ITc f G T ∧ f 1 2 = nI p
theorem pS_pS {a b : Nat} : pS (pS f a) b = pS f b := up_up
theorem pS_id (h : f 1 2 = nI p) : pS f p = f := up2_id h
theorem pS_at {o k : Nat} (h : ¬ (o = 1 ∧ k = 2)) : pS f q o k = f o k := by unfold pS up2; rw [if_neg h]
theorem pS_12 : pS f q 1 2 = nI q := up2_s
theorem TC_pS (h : TC f G T p) : TC (pS f q) G T q := ⟨⟨by rw [pS_at (by decide)]; exact h.1.1, h.1.2⟩, pS_12⟩
theorem w68 (hT : TX T) (h : TC f G T p) (hp : p ≤ T.1) {K : Int32 → aH → Prop} : vI scr d 68 [.ref 1] (wo f G J c) K = K (hI T p) (wo f G J c) := by
  have h400 := hT.1
  have e1 := h.1.1
  have e2 := h.2
  unfold vI
  rw [u68_ok, en68, b68_0]
  unfold hI
  by_cases hl : p < T.1
  · have e3 := h.1.2 p hl
    rw [if_pos hl]
    simp (disch := omega) only [tA scr, e1, e2, show (400 : Int32) = nI 400 from rfl, NC, show ¬ T.1 ≤ p by omega, show ¬ 400 ≤ p by omega, if_false, e3, b255 hl, ex_i, true_and]
  · rw [if_neg hl]
    simp (disch := omega) only [tA scr, e1, e2, NC, show T.1 ≤ p by omega, if_true, ex_i, true_and]
theorem skip_lp (hT : TX T) {K : Option Value → aH → Prop} : ∀ k p f, T.1 - p = k → p ≤ T.1 → TC f G T p → E scr false d 69 0 [.ref 1] [] (wo f G J c) K = K (some (.int (nI (sk T p)))) (wo (pS f (sk T p)) G J c) := by
  have h400 := hT.1
  intro k
  induction k with
  | zero =>
    intro p f hk hp h
    have e1 := h.1.1
    have e2 := h.2
    rw [b69_0, sk_out (by omega), pS_id e2]
    simp (disch := omega) only [tA scr, e1, e2, NC, show T.1 ≤ p by omega, if_true]
  | succ k ih =>
    intro p f hk hp h
    have e1 := h.1.1
    have e2 := h.2
    have e3 := h.1.2 p (by omega)
    have eb := (byc hT (show p < T.1 by omega) (k := 32) (by decide)).1
    rw [b69_0]
    simp (disch := omega) only [tA scr, e1, e2, show (400 : Int32) = nI 400 from rfl, NC, show ¬ T.1 ≤ p by omega, show ¬ 400 ≤ p by omega, if_false, e3, show (32 : Int32) = nI 32 from rfl, eb, nI_1]
    by_cases h32 : ch8 T p = 32
    · rw [if_pos h32]
      have := ih (p + 1) (pS f (p + 1)) (by omega) (by omega) (TC_pS h)
      rw [pS_pS, ← sk_s h32] at this
      exact this
    · rw [if_neg h32, sk_n h32, pS_id e2]
theorem w69 (hT : TX T) (h : TC f G T p) (hp : p ≤ T.1) {K : Int32 → aH → Prop} : vI scr d 69 [.ref 1] (wo f G J c) K = K (nI (sk T p)) (wo (pS f (sk T p)) G J c) := by
  unfold vI
  rw [u69_ok, en69, skip_lp hT _ p f rfl hp h]
  simp only [ex_i, true_and]
theorem w70 (h3 : f 1 3 = 0) {w k : Nat} {K : Int32 → aH → Prop} : vI scr d 70 [.ref 1, .int (nI w), .int (nI k)] (wo f G J c) K = K 0 (wo (up2 f 1 3 (nI (1 + 8 * w + k))) G J c) := by
  unfold vI
  rw [u70_ok, en70, b70_0]
  have e : (1 : Int32) + 8 * nI w + nI k = nI (1 + 8 * w + k) := by
    rw [show (8 : Int32) = nI 8 from rfl, pk_mul, show (1 : Int32) = nI 1 from rfl, nI_add, nI_add]
  simp only [tA scr, h3, if_true, e, ex_i, true_and]
theorem w71 (hT : TX T) (h : TC f G T p) (hp : p ≤ T.1) {s : Nat} (hs : s < 256) {K : Int32 → aH → Prop} : vI scr (d + 1) 71 [.ref 1, .int (nI s)] (wo f G J c) K = if ch8 T (sk T p) = s then K 1 (wo (pS f (sk T p + 1)) G J c) else K 0 (wo (pS f (sk T p)) G J c) := by
  unfold vI
  rw [u71_ok, en71, b71_0]
  simp only [w69 hT h hp, w68 hT (TC_pS (q := sk T p) h) (sk_le hp), hI_eq hs, tA scr, pS_12, nI_1, true_and]
  split
  · have e : up2 (pS f (sk T p)) 1 2 (nI (sk T p + 1)) = pS f (sk T p + 1) := up_up
    rw [e, ex_i]
  · rw [ex_i]
theorem w74 (hT : TX T) (h : TC f G T p) (hp : p ≤ T.1) {K : Int32 → aH → Prop} : vI scr d 74 [.ref 1] (wo f G J c) K = K (bz (dgB (ch8 T p))) (wo f G J c) := by
  have h400 := hT.1
  have e1 := h.1.1
  have e2 := h.2
  unfold vI
  rw [u74_ok, en74, b74_0]
  by_cases hl : p < T.1
  · have e3 := h.1.2 p hl
    have b1 := (byc hT hl (k := 48) (by decide)).2.1
    have b2 := (byc hT hl (k := 57) (by decide)).2.2
    simp (disch := omega) only [tA scr, e1, e2, show (400 : Int32) = nI 400 from rfl, NC, show ¬ T.1 ≤ p by omega, show ¬ 400 ≤ p by omega, if_false, e3, show (48 : Int32) = nI 48 from rfl, show (57 : Int32) = nI 57 from rfl, b1, b2, ex_i, true_and]
    unfold dgB
    by_cases h1 : 48 ≤ ch8 T p
    · by_cases h2 : ch8 T p ≤ 57
      · rw [if_neg (by omega), if_neg (by omega)]
        simp [h1, h2, bz]
      · by_cases h3 : ch8 T p < 128
        · rw [if_neg (by omega), if_pos (by omega)]
          simp [h2, bz]
        · rw [if_pos (by omega)]
          simp [h2, bz]
    · rw [if_pos (by omega)]
      simp [h1, bz]
  · have e : dgB (ch8 T p) = false := by
      rw [ch8_ge (by omega)]
      decide
    rw [e]
    simp (disch := omega) only [tA scr, e1, e2, NC, show T.1 ≤ p by omega, if_true, ex_i, true_and, bz_f]
theorem num_lp (hT : TX T) {l1 l2 : Int32} {st : Nat} {K : Option Value → aH → Prop} : ∀ k n f, de T st - (st + n) = k → st + n ≤ de T st → st ≤ T.1 → TC f G T (st + n) → (∀ f', f' = pS f (de T st) → E scr false (d + 1) 75 68 [.ref 1, .int l1, .int l2, .int (nI st), .int (nI (vlN T st (de T st - st)))] [] (wo f' G J c) K) → E scr false (d + 1) 75 8 [.ref 1, .int l1, .int l2, .int (nI st), .int (nI (vlN T st n))] [] (wo f G J c) K := by
  have h400 := hT.1
  intro k
  induction k with
  | zero =>
    intro n f hk hn hst h hK
    have dle := de_le (T := T) hst
    have e2 := h.2
    have en : de T st = st + n := by omega
    have hnd : dgB (ch8 T (st + n)) = false := by
      cases e : dgB (ch8 T (st + n)) with
      | false => rfl
      | true =>
        exfalso
        have key : ∀ k q, T.1 - q = k → dgB (ch8 T (de T q)) = false := by
          intro k
          induction k with
          | zero => intro q hq; rw [de_out (by omega), ch8_ge (by omega)]; decide
          | succ k ih =>
            intro q hq
            cases e : dgB (ch8 T q) with
            | false => rw [de_n e]; exact e
            | true => rw [(de_s e).1]; exact ih (q + 1) (by omega)
        have := key _ st rfl
        rw [en, e] at this
        cases this
    have fin := hK (pS f (de T st)) rfl
    rw [en, pS_id e2, show st + n - st = n by omega] at fin
    rw [b75_8]
    simp (disch := omega) only [tA scr, e2, w74 hT h (by omega), hnd, bz_f, if_true, ite_self]
    exact fin
  | succ k ih =>
    intro n f hk hn hst h hK
    have dle := de_le (T := T) hst
    have e2 := h.2
    have hd := de_dg (T := T) (st := st) n (by omega)
    have hl : st + n < T.1 := (de_s hd).2
    have e3 := h.1.2 _ hl
    have hd' := hd
    unfold dgB at hd'
    simp only [Bool.and_eq_true, decide_eq_true_eq] at hd'
    have eb : T.2 (st + n) = nI (ch8 T (st + n)) := by
      rw [(byc hT hl (k := ch8 T (st + n)) (by omega)).1]
    have next : ∀ v, v = vlN T st (n + 1) → E scr false (d + 1) 75 55 [.ref 1, .int l1, .int l2, .int (nI st), .int (nI v)] [] (wo f G J c) K := by
      intro v hv
      rw [b75_55]
      simp only [tA scr, e2, nI_1]
      rw [hv]
      apply ih (n + 1) (pS f (st + n + 1)) (by omega) (by omega) hst
      · exact TC_pS h
      · intro f' hf'
        rw [pS_pS] at hf'
        exact hK f' hf'
    rw [b75_8]
    simp (disch := omega) only [tA scr, e2, show (400 : Int32) = nI 400 from rfl, NC, show ¬ 400 ≤ st + n by omega, if_false, w74 hT h (by omega), hd, bz_t, n10, show nI (st + n) - nI st = nI (st + n - st) from pk_sub (by omega), show st + n - st = n by omega, show (5 : Int32) = nI 5 from rfl, e3]
    by_cases h5 : 5 ≤ n
    · rw [if_pos h5]
      apply next
      simp only [vlN]
      rw [if_neg (by omega)]
    · rw [if_neg h5, eb]
      have ev : (10 : Int32) * nI (vlN T st n) + nI (ch8 T (st + n)) - 48 = nI (vlN T st (n + 1)) := by
        simp only [vlN]
        rw [if_pos (by omega), show (10 : Int32) = nI 10 from rfl, pk_mul, nI_add, show (48 : Int32) = nI 48 from rfl, pk_sub (by omega)]
        congr 1
        omega
      rw [ev]
      exact next _ rfl
theorem w75 (hT : TX T) (h : TC f G T p) (hp : p ≤ T.1) (h3 : f 1 3 = 0) {lo hi : Nat} (hlo : lo < 2 ^ 31) (hhi : hi < 2 ^ 31) {K : Int32 → aH → Prop} (hf : ∀ x f', nuR T p lo hi = .inl x → f' 1 3 = nI x → (∀ o k, ¬ (o = 1 ∧ (k = 2 ∨ k = 3)) → f' o k = f o k) → K (-1) (wo f' G J c)) (hg : ∀ v e, nuR T p lo hi = .inr (v, e) → K (nI v) (wo (pS f e) G J c)) : vI scr (d + 1) 75 [.ref 1, .int (nI lo), .int (nI hi)] (wo f G J c) K := by
  have h400 := hT.1
  have sle := sk_le (T := T) hp
  have dle := de_le (T := T) sle
  have dge := de_ge (T := T) (p := sk T p)
  unfold vI
  rw [u75_ok, en75, b75_0]
  refine ⟨rfl, ?_⟩
  rw [w69 hT h hp]
  apply num_lp (st := sk T p) hT _ 0 (pS f (sk T p)) rfl dge sle (TC_pS h)
  intro f' hf'
  rw [pS_pS] at hf'
  rw [hf']
  generalize hv : vlN T (sk T p) (de T (sk T p) - sk T p) = v at *
  have vb : v < 100000 := by
    rw [← hv]
    exact vl_b (fun i hi => de_dg i (by omega))
  unfold nuR at hf hg
  rw [hv] at hf hg
  have fr : ∀ x : Int32, ∀ o k, ¬ (o = 1 ∧ (k = 2 ∨ k = 3)) → up2 (pS f (de T (sk T p))) 1 3 x o k = f o k := by
    intro x o k ho
    unfold pS up2
    rw [if_neg (fun e => ho ⟨e.1, Or.inr e.2⟩), if_neg (fun e => ho ⟨e.1, Or.inl e.2⟩)]
  have z3 : pS f (de T (sk T p)) 1 3 = 0 := by rw [pS_at (by decide)]; exact h3
  rw [b75_68]
  simp (disch := omega) only [tA scr, pS_12, NC]
  by_cases hz : de T (sk T p) = sk T p
  · rw [if_pos hz] at hf ⊢
    rw [show (0 : Int32) = nI 0 from rfl, w70 z3]
    exact ⟨_, rfl, hf _ _ rfl up2_s (fr _)⟩
  · rw [if_neg hz] at hf hg ⊢
    have bad : E scr false (d + 1) 75 107 [.ref 1, .int (nI lo), .int (nI hi), .int (nI (sk T p)), .int (nI v)] [] (wo (pS f (de T (sk T p))) G J c) (fun r h => ∃ x, r = some (Value.int x) ∧ K x h) ∨ True := Or.inr trivial
    simp (disch := omega) only [show nI (de T (sk T p)) - nI (sk T p) = nI (de T (sk T p) - sk T p) from pk_sub dge, show (5 : Int32) = nI 5 from rfl, NC]
    by_cases hx : 5 < de T (sk T p) - sk T p ∨ v < lo ∨ hi < v
    · rw [if_pos hx] at hf
      have bad : E scr false (d + 1) 75 107 [.ref 1, .int (nI lo), .int (nI hi), .int (nI (sk T p)), .int (nI v)] [] (wo (pS f (de T (sk T p))) G J c) (fun r h => ∃ x, r = some (Value.int x) ∧ K x h) := by
        rw [b75_107, show (1 : Int32) = nI 1 from rfl, w70 z3]
        exact ⟨_, rfl, hf _ _ rfl up2_s (fr _)⟩
      by_cases x1 : 5 < de T (sk T p) - sk T p
      · rw [if_pos x1]; exact bad
      · rw [if_neg x1]
        by_cases x2 : v < lo
        · rw [if_pos x2]; exact bad
        · rw [if_neg x2, if_neg (by omega)]; exact bad
    · rw [if_neg hx] at hg
      rw [if_neg (by omega), if_neg (by omega), if_pos (by omega)]
      exact ⟨_, rfl, hg _ _ rfl⟩
-- ===== words =====
def alk (T : Tp) (st : Nat) (l : List Int32) (fr n : Nat) : Bool := (List.range n).all (fun i => decide (T.2 (st + i) = l.getD (fr + i) 0))
/-- which of the words of a list it is -/
def tkS (l : List Int32) (T : Tp) (st e : Nat) : Nat → Nat → Nat → Nat → Option Nat
  | 0, _, _, _ => none
  | u + 1, i, fr, nu => if i < l.length ∧ ¬ l.getD i 0 = 32 then tkS l T st e u (i + 1) fr nu else if i - fr = e - st ∧ alk T st l fr (i - fr) = true then some nu else tkS l T st e u (i + 1) (i + 1) (nu + 1)
/-- alike as far as told, and no longer than the word in the text -/
def alq (T : Tp) (st e : Nat) (l : List Int32) (fr n : Nat) : Bool := decide (n ≤ e - st) && alk T st l fr n
theorem alq_0 {st e fr : Nat} {l : List Int32} : alq T st e l fr 0 = true := by simp [alq, alk]
theorem alq_s {st e fr n : Nat} {l : List Int32} (hse : st ≤ e) : alq T st e l fr (n + 1) = (alq T st e l fr n && decide (st + n < e ∧ T.2 (st + n) = l.getD (fr + n) 0)) := by
  have es : alk T st l fr (n + 1) = (alk T st l fr n && decide (T.2 (st + n) = l.getD (fr + n) 0)) := all_s
  unfold alq
  rw [es, Bool.eq_iff_iff]
  simp only [Bool.and_eq_true, decide_eq_true_eq]
  constructor
  · rintro ⟨x1, x2, x3⟩
    exact ⟨⟨by omega, x2⟩, by omega, x3⟩
  · rintro ⟨⟨x1, x2⟩, x3, x4⟩
    exact ⟨by omega, x2, x4⟩
theorem str_nz : ∀ i, i < 24 → ∀ k, k < (stx i).length + 1 → (k = (stx i).length ∨ (stx i).getD k 0 = 32) → 0 < k ∧ ¬ (stx i).getD (k - 1) 0 = 32 := by decide +kernel
theorem tkS_no {l : List Int32} {st : Nat} (hz : ∀ k, k < l.length + 1 → (k = l.length ∨ l.getD k 0 = 32) → 0 < k ∧ ¬ l.getD (k - 1) 0 = 32) : ∀ u k fr nu, k + u = l.length + 1 → fr ≤ k → (fr = k → k = 0 ∨ l.getD (k - 1) 0 = 32 ∨ l.length < k) → tkS l T st st u k fr nu = none := by
  intro u
  induction u with
  | zero => intro k fr nu _ _ _; rfl
  | succ u ih =>
    intro k fr nu hk hfr hin
    simp only [tkS]
    by_cases h1 : k < l.length ∧ ¬ l.getD k 0 = 32
    · rw [if_pos h1]
      exact ih (k + 1) fr nu (by omega) (by omega) (fun x => absurd x (by omega))
    · rw [if_neg h1]
      have h2 : k = l.length ∨ l.getD k 0 = 32 := by
        by_cases x : l.getD k 0 = 32
        · exact Or.inr x
        · refine Or.inl ?_
          have : ¬ k < l.length := fun y => h1 ⟨y, x⟩
          omega
      have h3 := hz k (by omega) h2
      have h4 : ¬ fr = k := by
        intro x
        rcases hin x with y | y | y
        · omega
        · exact h3.2 y
        · omega
      rw [if_neg (fun x => by have := x.1; omega)]
      refine ih (k + 1) (k + 1) (nu + 1) (by omega) (by omega) (fun _ => ?_)
      rcases h2 with x | x
      · exact Or.inr (Or.inr (by omega))
      · exact Or.inr (Or.inl x)
theorem tkS_if {i st e : Nat} (hi : i < 24) : (if e = st then none else tkS (stx i) T st e ((stx i).length + 1) 0 0 0) = tkS (stx i) T st e ((stx i).length + 1) 0 0 0 := by
  by_cases hz : e = st
  · rw [if_pos hz, hz]
    exact (tkS_no (str_nz i hi) _ 0 0 0 (by omega) (Nat.le_refl _) (fun _ => Or.inl rfl)).symm
  · rw [if_neg hz]
theorem we_lp (hT : TX T) (h : ITc f G T) {i st : Nat} {K : Option Value → aH → Prop} : ∀ k e, T.1 - e = k → e ≤ T.1 → E scr false d 72 7 [.ref 1, .ref (20000 + i), .int (nI st), .int (nI e), .null, .null, .null, .null] [] (wo f G J c) K = E scr false d 72 62 [.ref 1, .ref (20000 + i), .int (nI st), .int (nI (we T e)), .int 0, .int (nI st), .int 1, .int 0] [] (wo f G J c) K := by
  have h400 := hT.1
  have e1 := h.1
  intro k
  induction k with
  | zero =>
    intro e hk he
    rw [b72_7, we_out (by omega), b72_50]
    simp (disch := omega) only [tA scr, e1, NC, show T.1 ≤ e by omega, if_true]
  | succ k ih =>
    intro e hk he
    have hl : e < T.1 := by omega
    have e3 := h.2 e hl
    have b1 := (byc hT hl (k := 97) (by decide)).2.1
    have b2 := (byc hT hl (k := 122) (by decide)).2.2
    rw [b72_7]
    simp (disch := omega) only [tA scr, e1, NC, show ¬ T.1 ≤ e by omega, if_false, show (400 : Int32) = nI 400 from rfl, show ¬ 400 ≤ e by omega, e3, show (97 : Int32) = nI 97 from rfl, show (122 : Int32) = nI 122 from rfl, b1, b2, nI_1]
    cases hw : ltB (ch8 T e) with
    | true =>
      have hw' := hw
      unfold ltB at hw'
      simp only [Bool.and_eq_true, decide_eq_true_eq] at hw'
      rw [if_neg (by omega), if_neg (by omega), ih (e + 1) (by omega) (by omega), ← we_s hw]
    | false =>
      have hw' : ¬ (97 ≤ ch8 T e ∧ ch8 T e ≤ 122) := by
        intro x
        unfold ltB at hw
        simp [x.1, x.2] at hw
      rw [we_n hw]
      by_cases x1 : ch8 T e < 97 ∨ 128 ≤ ch8 T e
      · rw [if_pos x1, b72_50]
      · rw [if_neg x1, if_pos (by omega), b72_50]
theorem tk_lp {i st e : Nat} (hT : TX T) (h : TC f G T st) (hi : i < 24) (hse : st ≤ e) (he : e ≤ T.1) {K : Option Value → aH → Prop} : ∀ u k fr nu, (stx i).length + 1 - k = u → fr ≤ k → nu ≤ k → k ≤ (stx i).length + 1 → E scr false (d + 5) 72 62 [.ref 1, .ref (20000 + i), .int (nI st), .int (nI e), .int (nI nu), .int (nI (st + (k - fr))), .int (bz (alq T st e (stx i) fr (k - fr))), .int (nI k)] [] (wo f G J c) K = (match tkS (stx i) T st e u k fr nu with
    | none => K (some (.int (-1))) (wo f G J c)
    | some x => K (some (.int (nI x))) (wo (pS f e) G J c)) := by
  have h400 := hT.1
  have h100 := (str_len i hi).1
  intro u
  induction u with
  | zero =>
    intro k fr nu hu hfr hnu hk
    rw [b72_62]
    simp (disch := omega) only [sp227 hi, NC, show (stx i).length < k by omega, if_true, tkS]
  | succ u ih =>
    intro k fr nu hu hfr hnu hk
    rw [b72_62]
    simp (disch := omega) only [sp227 hi, NC, show ¬ (stx i).length < k by omega, if_false]
    simp only [tkS]
    have at131 : E scr false (d + 5) 72 131 [.ref 1, .ref (20000 + i), .int (nI st), .int (nI e), .int (nI nu), .int (nI (st + (k - fr))), .int (bz (alq T st e (stx i) fr (k - fr))), .int (nI k)] [] (wo f G J c) K = (match (if k - fr = e - st ∧ alk T st (stx i) fr (k - fr) = true then some nu else tkS (stx i) T st e u (k + 1) (k + 1) (nu + 1)) with
        | none => K (some (.int (-1))) (wo f G J c)
        | some x => K (some (.int (nI x))) (wo (pS f e) G J c)) := by
      have nx := ih (k + 1) (k + 1) (nu + 1) (by omega) (by omega) (by omega) (by omega)
      rw [Nat.sub_self, alq_0, bz_t, Nat.add_zero st] at nx
      rw [b72_131]
      simp (disch := omega) only [NC, b72_150, b72_159, nI_1]
      have eq : alq T st e (stx i) fr (k - fr) = (decide (k - fr ≤ e - st) && alk T st (stx i) fr (k - fr)) := rfl
      cases hq : alq T st e (stx i) fr (k - fr) with
      | false =>
        have hn : ¬ (k - fr = e - st ∧ alk T st (stx i) fr (k - fr) = true) := by
          rintro ⟨x1, x2⟩
          rw [eq, x2, Bool.and_true, decide_eq_false_iff_not] at hq
          omega
        rw [bz_f, if_pos rfl, if_neg hn]
        exact nx
      | true =>
        rw [eq, Bool.and_eq_true, decide_eq_true_eq] at hq
        rw [bz_t, if_neg n10]
        by_cases x1 : st + (k - fr) = e
        · rw [if_pos x1, if_pos ⟨by omega, hq.2⟩]
          simp only [tA scr]
          rfl
        · rw [if_neg x1, if_neg (fun x => by have := x.1; omega)]
          exact nx
    by_cases hl : (stx i).length ≤ k
    · rw [if_pos hl, if_neg (fun x => by omega)]
      exact at131
    · rw [if_neg hl, sp228 hi (by omega)]
      by_cases h32 : (stx i).getD k 0 = 32
      · rw [if_pos h32, if_neg (fun x => x.2 h32)]
        exact at131
      · rw [if_neg h32, if_pos (show k < (stx i).length ∧ ¬ (stx i).getD k 0 = 32 from ⟨by omega, h32⟩)]
        have nx := ih (k + 1) fr nu (by omega) (by omega) (by omega) (by omega)
        rw [show k + 1 - fr = (k - fr) + 1 by omega, alq_s hse, show fr + (k - fr) = k by omega] at nx
        have at123 : ∀ (v : Bool) (l6 : Int32), (alq T st e (stx i) fr (k - fr) && decide (st + (k - fr) < e ∧ T.2 (st + (k - fr)) = (stx i).getD k 0)) = v → E scr false (d + 5) 72 123 [.ref 1, .ref (20000 + i), .int (nI st), .int (nI e), .int (nI nu), .int (nI (st + (k - fr))), .int l6, .int (nI k)] [.int (bz v)] (wo f G J c) K = (match tkS (stx i) T st e u (k + 1) fr nu with
            | none => K (some (.int (-1))) (wo f G J c)
            | some x => K (some (.int (nI x))) (wo (pS f e) G J c)) := by
          intro v l6 hv
          rw [hv] at nx
          rw [b72_123, b72_159, nI_1, nI_1]
          exact nx
        cases hq : alq T st e (stx i) fr (k - fr) with
        | false =>
          rw [bz_f, if_pos rfl, b72_122]
          exact at123 false 0 (by rw [hq]; rfl)
        | true =>
          rw [bz_t, if_neg n10]
          by_cases x1 : e ≤ st + (k - fr)
          · rw [if_pos x1, b72_122]
            exact at123 false 1 (by rw [hq, Bool.true_and, decide_eq_false_iff_not]; exact fun x => by have := x.1; omega)
          · rw [if_neg x1]
            have e3 := h.1.2 (st + (k - fr)) (by omega)
            simp (disch := omega) only [tA scr, e3, sp228 hi (show k < (stx i).length by omega)]
            by_cases x2 : T.2 (st + (k - fr)) = (stx i).getD k 0
            · rw [if_pos x2]
              exact at123 true 1 (by rw [hq, Bool.true_and, decide_eq_true_eq]; exact ⟨by omega, x2⟩)
            · rw [if_neg x2, b72_122]
              exact at123 false 1 (by rw [hq, Bool.true_and, decide_eq_false_iff_not]; exact fun x => x2 x.2)
theorem w72 (hT : TX T) (h : TC f G T p) (hp : p ≤ T.1) {i : Nat} (hi : i < 24) {K : Int32 → aH → Prop} : vI scr (d + 5) 72 [.ref 1, .ref (20000 + i)] (wo f G J c) K = (match (if we T (sk T p) = sk T p then none else tkS (stx i) T (sk T p) (we T (sk T p)) ((stx i).length + 1) 0 0 0) with
    | none => K (-1) (wo (pS f (sk T p)) G J c)
    | some x => K (nI x) (wo (pS f (we T (sk T p))) G J c)) := by
  have sle := sk_le (T := T) hp
  have h1 := TC_pS (q := sk T p) h
  unfold vI
  rw [tkS_if hi, u72_ok, en72, b72_0, w69 hT h hp, we_lp hT h1.1 _ (sk T p) rfl sle]
  have := tk_lp (scr := scr) (J := J) (c := c) (d := d) hT h1 hi we_ge (we_le sle) (K := fun r h => ∃ x, r = some (Value.int x) ∧ K x h) ((stx i).length + 1) 0 0 0 rfl (Nat.le_refl _) (Nat.le_refl _) (Nat.zero_le _)
  rw [Nat.sub_self, alq_0, bz_t, Nat.add_zero (sk T p)] at this
  have this : E scr false (d + 5) 72 62 [.ref 1, .ref (20000 + i), .int (nI (sk T p)), .int (nI (we T (sk T p))), .int 0, .int (nI (sk T p)), .int 1, .int 0] [] (wo (pS f (sk T p)) G J c) (fun r h => ∃ x, r = some (Value.int x) ∧ K x h) = _ := this
  rw [this]
  cases tkS (stx i) T (sk T p) (we T (sk T p)) ((stx i).length + 1) 0 0 0 with
  | none => simp
  | some x => simp [pS_pS]
end RE2
