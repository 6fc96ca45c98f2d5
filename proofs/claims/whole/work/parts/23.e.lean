variable {scr : List Int32}
-- ===== lines between cells =====
section CL
theorem cmp_eq (x y : Int64) : (lg_cmp x y = 0) = (x = y) := by
  have h1 := cmp_lt x y
  have h2 := cmp_gt x y
  apply propext
  constructor
  · intro h
    rw [h] at h1 h2
    have a1 : ¬ x < y := fun e => absurd (h1.mpr e) (by decide)
    have a2 : ¬ y < x := fun e => absurd (h2.mpr e) (by decide)
    exact Int64.le_antisymm (Int64.not_lt.mp a2) (Int64.not_lt.mp a1)
  · rintro rfl
    have a1 : ¬ lg_cmp x x < 0 := fun e => Int64.lt_irrefl (h1.mp e)
    have a2 : ¬ 0 < lg_cmp x x := fun e => Int64.lt_irrefl (h2.mp e)
    exact Int32.le_antisymm (Int32.not_lt.mp a2) (Int32.not_lt.mp a1)
def bJ (i : Nat) : Int64 := Int64.ofBitVec (BitVec.twoPow 64 i)
def hasB (x : Int64) (i : Nat) : Bool := x.toBitVec.getLsbD i
theorem bJ_of : ∀ b, b < 144 → ((1 : Int64) <<< ((Int32.toInt64 (nI b &&& 63) &&& 63) : Int64) : Int64) = bJ (b % 64) := by decide +kernel
theorem sh6_of : ∀ b, b < 144 → (((nI b : Int32) >>> ((6 : Int32) &&& 31) : Int32)) = nI (b / 64) := by decide +kernel
theorem has_and {x : Int64} {i : Nat} : (x &&& bJ i = 0) = (hasB x i = false ∨ 64 ≤ i) := by
  apply propext
  rw [← Int64.toBitVec_inj, Int64.toBitVec_and]
  unfold bJ hasB
  show x.toBitVec &&& BitVec.twoPow 64 i = 0#64 ↔ _
  rw [BitVec.and_twoPow]
  by_cases h : x.toBitVec.getLsbD i = true
  · simp only [h, if_true, Bool.true_eq_false, false_or]
    constructor
    · intro e
      apply Nat.le_of_not_lt
      intro hi
      have := congrArg (fun z : BitVec 64 => z.getLsbD i) e
      simp [BitVec.getLsbD_twoPow, hi] at this
    · intro hi
      have := BitVec.lt_of_getLsbD h
      omega
  · simp [h]
theorem has_or {x : Int64} {i k : Nat} (hi : i < 64) : hasB (x ||| bJ i) k = (hasB x k || decide (k = i)) := by
  unfold hasB bJ
  rw [Int64.toBitVec_or]
  show (x.toBitVec ||| BitVec.twoPow 64 i).getLsbD k = _
  rw [BitVec.getLsbD_or, BitVec.getLsbD_twoPow]
  by_cases h : k = i
  · subst h; simp [hi]
  · simp [h, Ne.symm h]
theorem has_0 {k : Nat} : hasB 0 k = false := by
  unfold hasB
  simp
def lx (a b n k : Nat) : Nat := if a ≤ b then a + (2 * k * (b - a) + n) / (2 * n) else a - (2 * k * (a - b) + n - 1) / (2 * n)
def adf (a b : Nat) : Nat := (a - b) + (b - a)
def mxD (a b : Nat) : Nat := if adf (b % 12) (a % 12) < adf (b / 12) (a / 12) then adf (b / 12) (a / 12) else adf (b % 12) (a % 12)
def lcell (a b k : Nat) : Nat := 12 * lx (a / 12) (b / 12) (mxD a b) k + lx (a % 12) (b % 12) (mxD a b) k
def clF (P : Pn) (a b : Nat) : Bool := (List.range (mxD a b)).all (fun k => decide (k = 0) || !decide (pKd P (lcell a b k) = 1))
def clB (P : Pn) (a b : Nat) : Bool := if b < a then clF P b a else clF P a b
theorem abs_nI : ∀ a, a < 12 → ∀ b, b < 12 → (if 0 ≤ nI b - nI a then nI b - nI a else -(nI b - nI a)) = nI (adf b a) := by decide +kernel
def lxc (n k a b : Nat) : Bool := decide (k = 0) || (decide (n < adf b a) || (decide (nI a + fdv (2 * nI k * (nI b - nI a) + nI n) (2 * nI n) = nI (lx a b n k)) && (decide (nI a + flr (2 * nI k * (nI b - nI a) + nI n) (2 * nI n) = nI (lx a b n k)) && (decide (lx a b n k ≤ a + (b - a)) && decide (a - (a - b) ≤ lx a b n k)))))
theorem lxc_i : ∀ n, n < 12 → ∀ k, k < n → ∀ a, a < 12 → ∀ b, b < 12 → lxc n k a b = true := by decide +kernel
theorem lx_i (n : Nat) (hn : n < 12) (k : Nat) (hk : k < n) (h0 : 0 < k) (a : Nat) (ha : a < 12) (b : Nat) (hb : b < 12) (hab : adf b a ≤ n) : (nI a + fdv (2 * nI k * (nI b - nI a) + nI n) (2 * nI n) = nI (lx a b n k) ∧ nI a + flr (2 * nI k * (nI b - nI a) + nI n) (2 * nI n) = nI (lx a b n k) ∧ lx a b n k ≤ a + (b - a) ∧ a - (a - b) ≤ lx a b n k) := by
  have h := lxc_i n hn k hk a ha b hb
  unfold lxc at h
  simp only [Bool.or_eq_true, Bool.and_eq_true, decide_eq_true_eq] at h
  rcases h with h | h | h
  · omega
  · omega
  · exact h
theorem mx_lt {a b : Nat} (ha : a < 144) (hb : b < 144) : mxD a b < 12 ∧ adf (b % 12) (a % 12) ≤ mxD a b ∧ adf (b / 12) (a / 12) ≤ mxD a b := by
  unfold mxD adf
  split <;> omega
theorem thB_iff {P : Pn} {q : Nat} : thB P q = true ↔ q % 12 < pCo P ∧ q / 12 < pRo P := by simp [thB, ceB]
theorem lc_th {P : Pn} {a b k : Nat} (hP : wfP P) (ha : thB P a = true) (hb : thB P b = true) (hk : k < mxD a b) (h0 : 0 < k) : thB P (lcell a b k) = true ∧ lcell a b k < 144 := by
  have ha' := th_lt hP ha
  have hb' := th_lt hP hb
  obtain ⟨h1, h2, h3⟩ := mx_lt ha' hb'
  obtain ⟨-, -, e1, e2⟩ := lx_i (mxD a b) h1 k hk h0 (a % 12) (by omega) (b % 12) (by omega) h2
  obtain ⟨-, -, e3, e4⟩ := lx_i (mxD a b) h1 k hk h0 (a / 12) (by omega) (b / 12) (by omega) h3
  rw [thB_iff] at ha hb ⊢
  obtain ⟨q1, q2, -⟩ := hP
  unfold lcell
  omega
theorem clF_of {P : Pn} {a b : Nat} (h : ∀ i, 0 < i → i < mxD a b → pKd P (lcell a b i) ≠ 1) : clF P a b = true := by
  unfold clF
  rw [List.all_eq_true]
  intro i hi
  by_cases h0 : i = 0
  · simp [h0]
  · have := h i (by omega) (List.mem_range.mp hi)
    simp [this]
theorem clF_no {P : Pn} {a b k : Nat} (h0 : 0 < k) (hk : k < mxD a b) (h : pKd P (lcell a b k) = 1) : clF P a b = false := by
  cases e : clF P a b with
  | false => rfl
  | true =>
    unfold clF at e
    rw [List.all_eq_true] at e
    have := e k (List.mem_range.mpr hk)
    simp [h] at this
    omega
/-- lines that are known are rightly known -/
def CK (J : Nat → Nat → Int64) (P : Pn) : Prop := ∀ a b, thB P a = true → thB P b = true → a ≤ b → hasB (J 54 (a * 3 + b / 64)) (b % 64) = (hasB (J 53 (a * 3 + b / 64)) (b % 64) && clF P a b)
variable {f G : Nat → Nat → Int32} {J : Nat → Nat → Int64} {c : Value} {d p : Nat} {P : Pn}
theorem clr_loop (hp : isSc p) (hP : wfP P) (hs : RS f G p P) {a b w : Nat} (hw : w < 432) (ha : thB P a = true) (hb : thB P b = true) {l2 l3 : Int32} {bit : Int64} {K : Option Value → aH → Prop} :
  ∀ m k, mxD a b - k = m → k ≤ 12 → 0 < k → (∀ i, 0 < i → i < k → i < mxD a b → pKd P (lcell a b i) ≠ 1) → ∀ l13 l14 l15 : Value, E scr false (d + 1) 2 150 [.ref 50, .ref (p + 1), .int l2, .int l3, .int (nI a), .int (nI b), .int (nI w), .long bit, .null, .int (nI (b % 12) - nI (a % 12)), .int (nI (b / 12) - nI (a / 12)), .int (nI (mxD a b)), .int (nI k), l13, l14, l15] [] (wo f G J c) K = if clF P a b = true then K (some (.int 1)) (wo f G (upJ J 54 w (J 54 w ||| bit)) c) else K (some (.int 0)) (wo f G J c) := by
  have ha' := th_lt hP ha
  have hb' := th_lt hP hb
  obtain ⟨h1, h2, h3⟩ := mx_lt ha' hb'
  intro m
  induction m with
  | zero =>
    intro k hm hk12 h0 hi l13 l14 l15
    rw [b2_150]
    have hk : mxD a b ≤ k := by omega
    rw [clF_of (fun i q1 q2 => hi i q1 (by omega) q2)]
    simp (disch := omega) only [NC, hk, if_true, gRr scr]
  | succ m ih =>
    intro k hm hk12 h0 hi l13 l14 l15
    rw [b2_150]
    have hk : ¬ mxD a b ≤ k := by omega
    obtain ⟨e1, -, -, -⟩ := lx_i (mxD a b) h1 k (by omega) h0 (a % 12) (by omega) (b % 12) (by omega) h2
    obtain ⟨e2, -, -, -⟩ := lx_i (mxD a b) h1 k (by omega) h0 (a / 12) (by omega) (b / 12) (by omega) h3
    obtain ⟨t1, t2⟩ := lc_th hP ha hb (by omega : k < mxD a b) h0
    have ne : ¬ (2 : Int32) * nI (mxD a b) = 0 := by
      rw [show (2 : Int32) = nI 2 from rfl, pk_mul]
      intro e
      have := (nI_eq (a := 2 * mxD a b) (b := 0) (by omega) (by omega)).mp e
      omega
    have ec : 12 * (nI (lx (a / 12) (b / 12) (mxD a b) k)) + nI (lx (a % 12) (b % 12) (mxD a b) k) = nI (lcell a b k) := by
      rw [show (12 : Int32) = nI 12 from rfl, pk_mul, nI_add]
      rfl
    have ek := hs.2.1 _ t1
    have hkd := hP.2.2.2.2.2.1 (lcell a b k)
    have nt : ¬ 144 ≤ lcell a b k := by omega
    simp (disch := omega) only [NC, hk, if_false, sp223 ne, irm12, div12, e1, e2, ec]
    simp (disch := omega) only [LI, NC, nt, if_false, sC scr hp, ek]
    by_cases hx : pKd P (lcell a b k) = 1
    · rw [clF_no h0 (by omega) hx]
      simp only [hx, if_true, Bool.false_eq_true, if_false]
    · simp only [hx, if_false]
      rw [b2_240, nI_1]
      apply ih (k + 1) (by omega) (by omega) (by omega)
      intro i q1 q2 q3
      by_cases e : i = k
      · rw [e]; exact hx
      · exact hi i q1 (by omega) q3
end CL
