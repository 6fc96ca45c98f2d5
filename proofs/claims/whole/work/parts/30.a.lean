variable {scr : List Int32}
-- ===== texts =====
section RE1
def TX (T : Tp) : Prop := T.1 ≤ 400 ∧ ∀ i, i < T.1 → fits .byte (.int (T.2 i)) = true
def ch8 (T : Tp) (p : Nat) : Nat := if p < T.1 then (T.2 p).toBitVec.toNat % 256 else 256
theorem byt {b : Int32} (h : fits .byte (.int b) = true) {k : Nat} (hk : k < 128) : (b = nI k) = (b.toBitVec.toNat % 256 = k) ∧ (b < nI k) = (b.toBitVec.toNat % 256 < k ∨ 128 ≤ b.toBitVec.toNat % 256) ∧ (nI k < b) = (k < b.toBitVec.toNat % 256 ∧ b.toBitVec.toNat % 256 < 128) := by
  have h' : (-128 : Int32) ≤ b ∧ b ≤ 127 := by
    unfold fits at h
    simpa using h
  obtain ⟨h1, h2⟩ := h'
  rw [Int32.le_iff_toInt_le] at h1 h2
  have z1 : (-128 : Int32).toInt = -128 := by decide
  have z2 : (127 : Int32).toInt = 127 := by decide
  rw [z1] at h1
  rw [z2] at h2
  have q3 : b.toInt = Int.bmod b.toBitVec.toNat 4294967296 := BitVec.toInt_eq_toNat_bmod b.toBitVec
  have lt := b.toBitVec.isLt
  have q4 : b.toInt = b.toBitVec.toNat ∨ b.toInt = (b.toBitVec.toNat : Int) - 4294967296 := by
    rw [q3]
    unfold Int.bmod
    dsimp only
    split <;> omega
  have ek := nI_toInt (n := k) (by omega)
  refine ⟨?_, ?_, ?_⟩
  · rw [← Int32.toInt_inj, ek]
    apply propext
    omega
  · rw [Int32.lt_iff_toInt_lt, ek]
    apply propext
    omega
  · rw [Int32.lt_iff_toInt_lt, ek]
    apply propext
    omega
variable {T : Tp} {p q : Nat}
theorem ch8_lt (h : p < T.1) : ch8 T p = (T.2 p).toBitVec.toNat % 256 ∧ ch8 T p < 256 := by
  unfold ch8
  rw [if_pos h]
  exact ⟨rfl, Nat.mod_lt _ (by decide)⟩
theorem ch8_ge (h : T.1 ≤ p) : ch8 T p = 256 := by
  unfold ch8
  rw [if_neg (by omega)]
theorem ch8_le : ch8 T p ≤ 256 := by
  unfold ch8
  split
  · have : (T.2 p).toBitVec.toNat % 256 < 256 := Nat.mod_lt _ (by decide)
    omega
  · exact Nat.le_refl _
theorem ch8_in (h : ch8 T p < 256) : p < T.1 := by
  by_cases e : p < T.1
  · exact e
  · rw [ch8_ge (by omega)] at h; omega
theorem byc (hT : TX T) (h : p < T.1) {k : Nat} (hk : k < 128) : (T.2 p = nI k) = (ch8 T p = k) ∧ (T.2 p < nI k) = (ch8 T p < k ∨ 128 ≤ ch8 T p) ∧ (nI k < T.2 p) = (k < ch8 T p ∧ ch8 T p < 128) := by
  rw [(ch8_lt h).1]
  exact byt (hT.2 p h) hk
theorem b255 (h : p < T.1) : T.2 p &&& 255 = nI (ch8 T p) := by
  rw [(ch8_lt h).1]
  exact pk_and (T.2 p) 8 (by decide)
def hI (T : Tp) (p : Nat) : Int32 := if p < T.1 then nI (ch8 T p) else -1
theorem hI_eq {k : Nat} (hk : k < 256) : (hI T p = nI k) = (ch8 T p = k) := by
  unfold hI
  by_cases h : p < T.1
  · rw [if_pos h, nI_eq (by have := (ch8_lt h).2; omega) (by omega)]
  · rw [if_neg h, ch8_ge (by omega)]
    apply propext
    constructor
    · intro e; exact absurd e.symm (nI_ne_neg (by omega))
    · intro e; omega
-- blanks
def skF (T : Tp) : Nat → Nat → Nat
  | 0, p => p
  | k + 1, p => if ch8 T p = 32 then skF T k (p + 1) else p
def sk (T : Tp) (p : Nat) : Nat := skF T (T.1 - p) p
theorem skF_le : ∀ k p, p ≤ skF T k p ∧ skF T k p ≤ p + k := by
  intro k
  induction k with
  | zero => intro p; simp [skF]
  | succ k ih =>
    intro p
    simp only [skF]
    split
    · have := ih (p + 1); omega
    · omega
theorem sk_ge : p ≤ sk T p := (skF_le _ _).1
theorem sk_le (h : p ≤ T.1) : sk T p ≤ T.1 := by
  have := (skF_le (T := T) (T.1 - p) p).2
  unfold sk
  omega
theorem sk_out (h : T.1 ≤ p) : sk T p = p := by
  unfold sk
  rw [show T.1 - p = 0 by omega]
  rfl
theorem sk_s (h : ch8 T p = 32) : sk T p = sk T (p + 1) := by
  have hp := ch8_in (T := T) (p := p) (by omega)
  unfold sk
  rw [show T.1 - p = (T.1 - (p + 1)) + 1 by omega]
  simp only [skF, h, if_true]
theorem sk_n (h : ¬ ch8 T p = 32) : sk T p = p := by
  unfold sk
  cases e : T.1 - p with
  | zero => rfl
  | succ k => simp only [skF, h, if_false]
theorem sk_not : ∀ k p, T.1 - p = k → ¬ ch8 T (sk T p) = 32 := by
  intro k
  induction k with
  | zero =>
    intro p hp
    rw [sk_out (by omega), ch8_ge (by omega)]
    decide
  | succ k ih =>
    intro p hp
    by_cases h : ch8 T p = 32
    · rw [sk_s h]; exact ih (p + 1) (by omega)
    · rw [sk_n h]; exact h
theorem sk_sk : sk T (sk T p) = sk T p := sk_n (sk_not _ p rfl)
-- the end of a word
def ltB (x : Nat) : Bool := decide (97 ≤ x) && decide (x ≤ 122)
def weF (T : Tp) : Nat → Nat → Nat
  | 0, p => p
  | k + 1, p => if ltB (ch8 T p) = true then weF T k (p + 1) else p
def we (T : Tp) (p : Nat) : Nat := weF T (T.1 - p) p
theorem weF_le : ∀ k p, p ≤ weF T k p ∧ weF T k p ≤ p + k := by
  intro k
  induction k with
  | zero => intro p; simp [weF]
  | succ k ih =>
    intro p
    simp only [weF]
    split
    · have := ih (p + 1); omega
    · omega
theorem we_ge : p ≤ we T p := (weF_le _ _).1
theorem we_le (h : p ≤ T.1) : we T p ≤ T.1 := by
  have := (weF_le (T := T) (T.1 - p) p).2
  unfold we
  omega
theorem we_out (h : T.1 ≤ p) : we T p = p := by
  unfold we
  rw [show T.1 - p = 0 by omega]
  rfl
theorem we_s (h : ltB (ch8 T p) = true) : we T p = we T (p + 1) := by
  have hp := ch8_in (T := T) (p := p) (by
    unfold ltB at h
    simp only [Bool.and_eq_true, decide_eq_true_eq] at h
    omega)
  unfold we
  rw [show T.1 - p = (T.1 - (p + 1)) + 1 by omega]
  simp only [weF, h, if_true]
theorem we_n (h : ltB (ch8 T p) = false) : we T p = p := by
  unfold we
  cases e : T.1 - p with
  | zero => rfl
  | succ k => simp only [weF, h, Bool.false_eq_true, if_false]
-- the end of a number, and what it is
def dgB (x : Nat) : Bool := decide (48 ≤ x) && decide (x ≤ 57)
def deF (T : Tp) : Nat → Nat → Nat
  | 0, p => p
  | k + 1, p => if dgB (ch8 T p) = true then deF T k (p + 1) else p
def de (T : Tp) (p : Nat) : Nat := deF T (T.1 - p) p
theorem deF_le : ∀ k p, p ≤ deF T k p ∧ deF T k p ≤ p + k := by
  intro k
  induction k with
  | zero => intro p; simp [deF]
  | succ k ih =>
    intro p
    simp only [deF]
    split
    · have := ih (p + 1); omega
    · omega
theorem de_ge : p ≤ de T p := (deF_le _ _).1
theorem de_le (h : p ≤ T.1) : de T p ≤ T.1 := by
  have := (deF_le (T := T) (T.1 - p) p).2
  unfold de
  omega
theorem de_out (h : T.1 ≤ p) : de T p = p := by
  unfold de
  rw [show T.1 - p = 0 by omega]
  rfl
theorem de_s (h : dgB (ch8 T p) = true) : de T p = de T (p + 1) ∧ p < T.1 := by
  have hp := ch8_in (T := T) (p := p) (by
    unfold dgB at h
    simp only [Bool.and_eq_true, decide_eq_true_eq] at h
    omega)
  refine ⟨?_, hp⟩
  unfold de
  rw [show T.1 - p = (T.1 - (p + 1)) + 1 by omega]
  simp only [deF, h, if_true]
theorem de_n (h : dgB (ch8 T p) = false) : de T p = p := by
  unfold de
  cases e : T.1 - p with
  | zero => rfl
  | succ k => simp only [deF, h, Bool.false_eq_true, if_false]
def vlN (T : Tp) (st : Nat) : Nat → Nat
  | 0 => 0
  | n + 1 => if n < 5 then 10 * vlN T st n + (ch8 T (st + n) - 48) else vlN T st n
theorem vl_lt {st : Nat} : ∀ n, (∀ i, i < n → dgB (ch8 T (st + i)) = true) → vlN T st n < 10 ^ (min n 5) := by
  intro n
  induction n with
  | zero => intro _; show 0 < 10 ^ min 0 5; decide
  | succ n ih =>
    intro h
    have h1 := ih (fun i hi => h i (by omega))
    have h2 := h n (by omega)
    unfold dgB at h2
    simp only [Bool.and_eq_true, decide_eq_true_eq] at h2
    simp only [vlN]
    by_cases e : n < 5
    · rw [if_pos e, show min (n + 1) 5 = min n 5 + 1 by omega, Nat.pow_succ]
      omega
    · rw [if_neg e, show min (n + 1) 5 = min n 5 by omega]
      exact h1
theorem vl_b {st n : Nat} (h : ∀ i, i < n → dgB (ch8 T (st + i)) = true) : vlN T st n < 100000 := by
  have h1 := vl_lt n h
  have h2 : 10 ^ (min n 5) ≤ 10 ^ 5 := Nat.pow_le_pow_right (by decide) (Nat.min_le_right _ _)
  have h3 : (10 : Nat) ^ 5 = 100000 := by decide
  omega
theorem de_dg {st : Nat} : ∀ i, st + i < de T st → dgB (ch8 T (st + i)) = true := by
  have key : ∀ k p, T.1 - p = k → ∀ i, p + i < de T p → dgB (ch8 T (p + i)) = true := by
    intro k
    induction k with
    | zero => intro p hp i hi; rw [de_out (by omega)] at hi; omega
    | succ k ih =>
      intro p hp i hi
      by_cases h : dgB (ch8 T p) = true
      · cases i with
        | zero => exact h
        | succ i =>
          rw [(de_s h).1] at hi
          have := ih (p + 1) (by omega) i (by omega)
          rw [show p + 1 + i = p + (i + 1) by omega] at this
          exact this
      · rw [de_n (by simpa using h)] at hi; omega
  exact key _ st rfl
/-- a number within bounds: where it ends, or what is wrong -/
def nuR (T : Tp) (p lo hi : Nat) : Nat ⊕ (Nat × Nat) :=
  if de T (sk T p) = sk T p then .inl (1 + 8 * sk T p) else if 5 < de T (sk T p) - sk T p ∨ vlN T (sk T p) (de T (sk T p) - sk T p) < lo ∨ hi < vlN T (sk T p) (de T (sk T p) - sk T p) then .inl (1 + 8 * sk T p + 1) else .inr (vlN T (sk T p) (de T (sk T p) - sk T p), de T (sk T p))
/-- a word stands there -/
def isW (T : Tp) (p : Nat) (s : List Int32) : Bool := decide (we T p = p + s.length) && (List.range s.length).all (fun i => decide (T.2 (p + i) = s.getD i 0))
theorem isW_end {s : List Int32} (h : isW T p s = true) : we T p = p + s.length := by
  unfold isW at h
  simp only [Bool.and_eq_true, decide_eq_true_eq] at h
  exact h.1
end RE1
