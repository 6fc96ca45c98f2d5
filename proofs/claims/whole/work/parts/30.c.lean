variable {scr : List Int32}
-- ===== words of a list; the model's texts =====
section RE3
variable {f G f' G' : Nat → Nat → Int32} {J J' : Nat → Nat → Int64} {c : Value} {d : Nat} {T : Tp} {p q : Nat}
theorem sg {st k i fr n : Nat} (hl : (stx i).length = n) (hn : 0 < n) (hs : ∀ j, j < n → (stx k).getD (fr + j) 0 = (stx i).getD j 0) : (n = we T st - st ∧ alk T st (stx k) fr n = true) = (isW T st (stx i) = true) := by
  have hw := we_ge (T := T) (p := st)
  have ea : alk T st (stx k) fr n = (List.range n).all (fun j => decide (T.2 (st + j) = (stx i).getD j 0)) := by
    unfold alk
    rw [Bool.eq_iff_iff, List.all_eq_true, List.all_eq_true]
    constructor
    · intro h j hj
      have := h j hj
      rw [hs j (List.mem_range.mp hj)] at this
      exact this
    · intro h j hj
      have := h j hj
      rw [hs j (List.mem_range.mp hj)]
      exact this
  unfold isW
  rw [hl, ea]
  apply propext
  simp only [Bool.and_eq_true, decide_eq_true_eq]
  constructor
  · rintro ⟨a, b⟩; exact ⟨by omega, b⟩
  · rintro ⟨a, b⟩; exact ⟨by omega, b⟩
theorem isW_0 {st i : Nat} (hl : 0 < (stx i).length) (h : we T st = st) : isW T st (stx i) = false := by
  cases e : isW T st (stx i) with
  | false => rfl
  | true =>
    have := isW_end e
    omega
theorem tu0 {st : Nat} : tkS (stx 0) T st (we T st) ((stx 0).length + 1) 0 0 0 = if 3 - 0 = we T st - st ∧ alk T st (stx 0) 0 (3 - 0) = true then some 0 else if 10 - 4 = we T st - st ∧ alk T st (stx 0) 4 (10 - 4) = true then some 1 else if 17 - 11 = we T st - st ∧ alk T st (stx 0) 11 (17 - 11) = true then some 2 else none := by rfl
theorem tw0 {st : Nat} : (if we T st = st then none else tkS (stx 0) T st (we T st) ((stx 0).length + 1) 0 0 0) = if isW T st (stx 6) = true then some 0 else if isW T st (stx 7) = true then some 1 else if isW T st (stx 8) = true then some 2 else none := by
  rw [tu0]
  have e0 := sg (T := T) (st := st) (k := 0) (i := 6) (fr := 0) (n := 3) (by decide +kernel) (by decide) (by decide +kernel)
  have e1 := sg (T := T) (st := st) (k := 0) (i := 7) (fr := 4) (n := 6) (by decide +kernel) (by decide) (by decide +kernel)
  have e2 := sg (T := T) (st := st) (k := 0) (i := 8) (fr := 11) (n := 6) (by decide +kernel) (by decide) (by decide +kernel)
  simp only [show 3 - 0 = 3 from rfl, e0, show 10 - 4 = 6 from rfl, e1, show 17 - 11 = 6 from rfl, e2]
  by_cases h : we T st = st
  · rw [if_pos h]
    simp only [isW_0 (T := T) (st := st) (i := 6) (by decide +kernel) h, isW_0 (T := T) (st := st) (i := 7) (by decide +kernel) h, isW_0 (T := T) (st := st) (i := 8) (by decide +kernel) h, Bool.false_eq_true, if_false]
  · rw [if_neg h]
theorem tu1 {st : Nat} : tkS (stx 1) T st (we T st) ((stx 1).length + 1) 0 0 0 = if 5 - 0 = we T st - st ∧ alk T st (stx 1) 0 (5 - 0) = true then some 0 else if 12 - 6 = we T st - st ∧ alk T st (stx 1) 6 (12 - 6) = true then some 1 else none := by rfl
theorem tw1 {st : Nat} : (if we T st = st then none else tkS (stx 1) T st (we T st) ((stx 1).length + 1) 0 0 0) = if isW T st (stx 10) = true then some 0 else if isW T st (stx 9) = true then some 1 else none := by
  rw [tu1]
  have e0 := sg (T := T) (st := st) (k := 1) (i := 10) (fr := 0) (n := 5) (by decide +kernel) (by decide) (by decide +kernel)
  have e1 := sg (T := T) (st := st) (k := 1) (i := 9) (fr := 6) (n := 6) (by decide +kernel) (by decide) (by decide +kernel)
  simp only [show 5 - 0 = 5 from rfl, e0, show 12 - 6 = 6 from rfl, e1]
  by_cases h : we T st = st
  · rw [if_pos h]
    simp only [isW_0 (T := T) (st := st) (i := 10) (by decide +kernel) h, isW_0 (T := T) (st := st) (i := 9) (by decide +kernel) h, Bool.false_eq_true, if_false]
  · rw [if_neg h]
theorem tu2 {st : Nat} : tkS (stx 2) T st (we T st) ((stx 2).length + 1) 0 0 0 = if 2 - 0 = we T st - st ∧ alk T st (stx 2) 0 (2 - 0) = true then some 0 else none := by rfl
theorem tw2 {st : Nat} : (if we T st = st then none else tkS (stx 2) T st (we T st) ((stx 2).length + 1) 0 0 0) = if isW T st (stx 11) = true then some 0 else none := by
  rw [tu2]
  have e0 := sg (T := T) (st := st) (k := 2) (i := 11) (fr := 0) (n := 2) (by decide +kernel) (by decide) (by decide +kernel)
  simp only [show 2 - 0 = 2 from rfl, e0]
  by_cases h : we T st = st
  · rw [if_pos h]
    simp only [isW_0 (T := T) (st := st) (i := 11) (by decide +kernel) h, Bool.false_eq_true, if_false]
  · rw [if_neg h]
theorem tu3 {st : Nat} : tkS (stx 3) T st (we T st) ((stx 3).length + 1) 0 0 0 = if 3 - 0 = we T st - st ∧ alk T st (stx 3) 0 (3 - 0) = true then some 0 else none := by rfl
theorem tw3 {st : Nat} : (if we T st = st then none else tkS (stx 3) T st (we T st) ((stx 3).length + 1) 0 0 0) = if isW T st (stx 12) = true then some 0 else none := by
  rw [tu3]
  have e0 := sg (T := T) (st := st) (k := 3) (i := 12) (fr := 0) (n := 3) (by decide +kernel) (by decide) (by decide +kernel)
  simp only [show 3 - 0 = 3 from rfl, e0]
  by_cases h : we T st = st
  · rw [if_pos h]
    simp only [isW_0 (T := T) (st := st) (i := 12) (by decide +kernel) h, Bool.false_eq_true, if_false]
  · rw [if_neg h]
theorem tu4 {st : Nat} : tkS (stx 4) T st (we T st) ((stx 4).length + 1) 0 0 0 = if 1 - 0 = we T st - st ∧ alk T st (stx 4) 0 (1 - 0) = true then some 0 else if 3 - 2 = we T st - st ∧ alk T st (stx 4) 2 (3 - 2) = true then some 1 else if 7 - 4 = we T st - st ∧ alk T st (stx 4) 4 (7 - 4) = true then some 2 else if 12 - 8 = we T st - st ∧ alk T st (stx 4) 8 (12 - 8) = true then some 3 else if 17 - 13 = we T st - st ∧ alk T st (stx 4) 13 (17 - 13) = true then some 4 else if 22 - 18 = we T st - st ∧ alk T st (stx 4) 18 (22 - 18) = true then some 5 else if 27 - 23 = we T st - st ∧ alk T st (stx 4) 23 (27 - 23) = true then some 6 else if 34 - 28 = we T st - st ∧ alk T st (stx 4) 28 (34 - 28) = true then some 7 else if 40 - 35 = we T st - st ∧ alk T st (stx 4) 35 (40 - 35) = true then some 8 else none := by rfl
theorem tw4 {st : Nat} : (if we T st = st then none else tkS (stx 4) T st (we T st) ((stx 4).length + 1) 0 0 0) = if isW T st (stx 13) = true then some 0 else if isW T st (stx 14) = true then some 1 else if isW T st (stx 15) = true then some 2 else if isW T st (stx 16) = true then some 3 else if isW T st (stx 17) = true then some 4 else if isW T st (stx 18) = true then some 5 else if isW T st (stx 19) = true then some 6 else if isW T st (stx 20) = true then some 7 else if isW T st (stx 21) = true then some 8 else none := by
  rw [tu4]
  have e0 := sg (T := T) (st := st) (k := 4) (i := 13) (fr := 0) (n := 1) (by decide +kernel) (by decide) (by decide +kernel)
  have e1 := sg (T := T) (st := st) (k := 4) (i := 14) (fr := 2) (n := 1) (by decide +kernel) (by decide) (by decide +kernel)
  have e2 := sg (T := T) (st := st) (k := 4) (i := 15) (fr := 4) (n := 3) (by decide +kernel) (by decide) (by decide +kernel)
  have e3 := sg (T := T) (st := st) (k := 4) (i := 16) (fr := 8) (n := 4) (by decide +kernel) (by decide) (by decide +kernel)
  have e4 := sg (T := T) (st := st) (k := 4) (i := 17) (fr := 13) (n := 4) (by decide +kernel) (by decide) (by decide +kernel)
  have e5 := sg (T := T) (st := st) (k := 4) (i := 18) (fr := 18) (n := 4) (by decide +kernel) (by decide) (by decide +kernel)
  have e6 := sg (T := T) (st := st) (k := 4) (i := 19) (fr := 23) (n := 4) (by decide +kernel) (by decide) (by decide +kernel)
  have e7 := sg (T := T) (st := st) (k := 4) (i := 20) (fr := 28) (n := 6) (by decide +kernel) (by decide) (by decide +kernel)
  have e8 := sg (T := T) (st := st) (k := 4) (i := 21) (fr := 35) (n := 5) (by decide +kernel) (by decide) (by decide +kernel)
  simp only [show 1 - 0 = 1 from rfl, e0, show 3 - 2 = 1 from rfl, e1, show 7 - 4 = 3 from rfl, e2, show 12 - 8 = 4 from rfl, e3, show 17 - 13 = 4 from rfl, e4, show 22 - 18 = 4 from rfl, e5, show 27 - 23 = 4 from rfl, e6, show 34 - 28 = 6 from rfl, e7, show 40 - 35 = 5 from rfl, e8]
  by_cases h : we T st = st
  · rw [if_pos h]
    simp only [isW_0 (T := T) (st := st) (i := 13) (by decide +kernel) h, isW_0 (T := T) (st := st) (i := 14) (by decide +kernel) h, isW_0 (T := T) (st := st) (i := 15) (by decide +kernel) h, isW_0 (T := T) (st := st) (i := 16) (by decide +kernel) h, isW_0 (T := T) (st := st) (i := 17) (by decide +kernel) h, isW_0 (T := T) (st := st) (i := 18) (by decide +kernel) h, isW_0 (T := T) (st := st) (i := 19) (by decide +kernel) h, isW_0 (T := T) (st := st) (i := 20) (by decide +kernel) h, isW_0 (T := T) (st := st) (i := 21) (by decide +kernel) h, Bool.false_eq_true, if_false]
  · rw [if_neg h]
theorem tu5 {st : Nat} : tkS (stx 5) T st (we T st) ((stx 5).length + 1) 0 0 0 = if 3 - 0 = we T st - st ∧ alk T st (stx 5) 0 (3 - 0) = true then some 0 else if 6 - 4 = we T st - st ∧ alk T st (stx 5) 4 (6 - 4) = true then some 1 else none := by rfl
theorem tw5 {st : Nat} : (if we T st = st then none else tkS (stx 5) T st (we T st) ((stx 5).length + 1) 0 0 0) = if isW T st (stx 22) = true then some 0 else if isW T st (stx 23) = true then some 1 else none := by
  rw [tu5]
  have e0 := sg (T := T) (st := st) (k := 5) (i := 22) (fr := 0) (n := 3) (by decide +kernel) (by decide) (by decide +kernel)
  have e1 := sg (T := T) (st := st) (k := 5) (i := 23) (fr := 4) (n := 2) (by decide +kernel) (by decide) (by decide +kernel)
  simp only [show 3 - 0 = 3 from rfl, e0, show 6 - 4 = 2 from rfl, e1]
  by_cases h : we T st = st
  · rw [if_pos h]
    simp only [isW_0 (T := T) (st := st) (i := 22) (by decide +kernel) h, isW_0 (T := T) (st := st) (i := 23) (by decide +kernel) h, Bool.false_eq_true, if_false]
  · rw [if_neg h]
-- ===== the model =====
def mS (f : Nat → Nat → Int32) (q : Nat) : Nat → Nat → Int32 := up2 f 125 20 (nI q)
def MT (f G : Nat → Nat → Int32) (T : Tp) (q : Nat) : Prop := ITm f G T ∧ f 125 20 = nI q
theorem mS_mS {a b : Nat} : mS (mS f a) b = mS f b := up_up
theorem mS_id (h : f 125 20 = nI p) : mS f p = f := up2_id h
theorem mS_at {o k : Nat} (h : ¬ (o = 125 ∧ k = 20)) : mS f q o k = f o k := by unfold mS up2; rw [if_neg h]
theorem mS_20 : mS f q 125 20 = nI q := up2_s
theorem MT_mS (h : MT f G T p) : MT (mS f q) G T q := ⟨⟨by rw [mS_at (by decide)]; exact h.1.1, h.1.2.1, by rw [mS_at (by decide)]; exact h.1.2.2⟩, mS_20⟩
theorem m143 (hT : TX T) (h : MT f G T q) (hq : q < 2 ^ 20) {K : Int32 → aH → Prop} : vI scr d 143 [.ref 125] (wo f G J c) K = K (hI T q) (wo f G J c) := by
  have h400 := hT.1
  have e1 := h.1.1
  have e2 := h.2
  unfold vI
  rw [u143_ok, en143, b143_0]
  unfold hI
  by_cases hl : q < T.1
  · have e3 := h.1.2.1 q hl
    rw [if_pos hl]
    simp (disch := omega) only [mO scr, e1, e2, NC, show ¬ T.1 ≤ q by omega, if_false, e3, b255 hl, ex_i, true_and]
  · rw [if_neg hl]
    simp (disch := omega) only [mO scr, e1, e2, NC, show T.1 ≤ q by omega, if_true, ex_i, true_and]
theorem mbl_lp (hT : TX T) {K : Option Value → aH → Prop} : ∀ k q f, T.1 - q = k → q < 2 ^ 20 → MT f G T q → E scr false (d + 1) 144 0 [.ref 125] [] (wo f G J c) K = K none (wo (mS f (sk T q)) G J c) := by
  have h400 := hT.1
  intro k
  induction k with
  | zero =>
    intro q f hk hq h
    have hn : ¬ ch8 T q = 32 := by rw [ch8_ge (by omega)]; decide
    rw [b144_0, m143 hT h hq]
    simp only [show (32 : Int32) = nI 32 from rfl, hI_eq (show 32 < 256 by decide), hn, if_false]
    rw [sk_n hn, mS_id h.2]
  | succ k ih =>
    intro q f hk hq h
    rw [b144_0, m143 hT h hq]
    simp only [show (32 : Int32) = nI 32 from rfl, hI_eq (show 32 < 256 by decide)]
    by_cases h32 : ch8 T q = 32
    · rw [if_pos h32]
      simp only [mO scr, h.2, nI_1]
      have := ih (q + 1) (mS f (q + 1)) (by omega) (by omega) (MT_mS h)
      rw [mS_mS, ← sk_s h32] at this
      exact this
    · rw [if_neg h32, sk_n h32, mS_id h.2]
theorem m144 (hT : TX T) (h : MT f G T q) (hq : q < 2 ^ 20) {K : aH → Prop} : vV scr (d + 1) 144 [.ref 125] (wo f G J c) K = K (wo (mS f (sk T q)) G J c) := by
  unfold vV
  rw [u144_ok, en144, mbl_lp hT _ q f rfl hq h]
  simp only [ex_v, true_and]
theorem sk_20 (hT : TX T) (hq : q < 2 ^ 20) : sk T q < 2 ^ 20 := by
  have h400 := hT.1
  by_cases h : q ≤ T.1
  · have := sk_le h; omega
  · rw [sk_out (by omega)]; exact hq
theorem m145 (hT : TX T) (h : MT f G T q) (hq : q < 2 ^ 20) {K : Int32 → aH → Prop} : vI scr (d + 1) 145 [.ref 125] (wo f G J c) K = K (bz (dgB (ch8 T q))) (wo f G J c) := by
  have e121 : ∀ x : Int32, ∀ K : Int32 → aH → Prop, ∀ h : aH, sI scr d 121 [.long x.toInt64, .long 48, .long 57] h K = K (bz (btw x 48 57)) h := fun x K h => sp121 (lo := 48) (hi := 57)
  have eb : btw (hI T q) 48 57 = dgB (ch8 T q) := by
    rw [show (48 : Int32) = nI 48 from rfl, show (57 : Int32) = nI 57 from rfl, btw_dc _ (by decide) (by decide)]
    unfold hI dgB
    by_cases hl : q < T.1
    · have := (ch8_lt hl).2
      rw [if_pos hl, dc_I (by omega), Bool.eq_iff_iff]
      simp
    · rw [if_neg hl, ch8_ge (by omega)]
      decide
  unfold vI
  rw [u145_ok, en145, b145_0, m143 hT h hq, e121, eb]
  simp only [bz_and, true_and, ex_i]
theorem mwe_lp (hT : TX T) (h : ITm f G T) {i : Nat} {K : Option Value → aH → Prop} : ∀ k e, T.1 - e = k → e < 2 ^ 20 → E scr false d 146 5 [.ref 125, .ref (20000 + i), .int (nI e), .null, .null] [] (wo f G J c) K = E scr false d 146 41 [.ref 125, .ref (20000 + i), .int (nI (we T e)), .null, .null] [] (wo f G J c) K := by
  have h400 := hT.1
  have e1 := h.1
  intro k
  induction k with
  | zero =>
    intro e hk he
    rw [b146_5, we_out (by omega)]
    simp (disch := omega) only [mO scr, e1, NC, show T.1 ≤ e by omega, if_true]
  | succ k ih =>
    intro e hk he
    have hl : e < T.1 := by omega
    have e3 := h.2.1 e hl
    have b1 := (byc hT hl (k := 97) (by decide)).2.1
    have b2 := (byc hT hl (k := 122) (by decide)).2.2
    rw [b146_5]
    simp (disch := omega) only [mO scr, e1, NC, show ¬ T.1 ≤ e by omega, if_false, e3, show (97 : Int32) = nI 97 from rfl, show (122 : Int32) = nI 122 from rfl, b1, b2, nI_1]
    cases hw : ltB (ch8 T e) with
    | true =>
      have hw' := hw
      unfold ltB at hw'
      simp only [Bool.and_eq_true, decide_eq_true_eq] at hw'
      rw [if_neg (by omega), if_neg (by omega), ih (e + 1) (by omega) (by omega), ← we_s hw]
    | false =>
      have hw' : ¬ (97 ≤ ch8 T e ∧ ch8 T e ≤ 122) := by
        intro x
        unfold ltB at hw
        simp [x.1, x.2] at hw
      rw [we_n hw]
      by_cases x1 : ch8 T e < 97 ∨ 128 ≤ ch8 T e
      · rw [if_pos x1]
      · rw [if_neg x1, if_pos (by omega)]
theorem we_20 (hT : TX T) (hq : q < 2 ^ 20) : we T q < 2 ^ 20 := by
  have h400 := hT.1
  by_cases h : q ≤ T.1
  · have := we_le h; omega
  · rw [we_out (by omega)]; exact hq
def isWk (T : Tp) (p : Nat) (s : List Int32) (n : Nat) : Bool := decide (we T p = p + s.length) && (List.range n).all (fun i => decide (T.2 (p + i) = s.getD i 0))
theorem mst_lp (hT : TX T) (h : MT f G T q) (hq : q < 2 ^ 20) {i : Nat} (hi : i < 24) {l2 : Int32} {K : Option Value → aH → Prop} : ∀ u n, (stx i).length - n = u → n ≤ (stx i).length → E scr false (d + 4) 146 63 [.ref 125, .ref (20000 + i), .int l2, .int (bz (isWk T q (stx i) n)), .int (nI n)] [] (wo f G J c) K = K (some (.int (bz (isW T q (stx i))))) (wo f G J c) := by
  have h400 := hT.1
  have h100 := (str_len i hi).1
  intro u
  induction u with
  | zero =>
    intro n hu hn
    have e : n = (stx i).length := by omega
    rw [b146_63, e]
    simp (disch := omega) only [sp227 hi, NC, Nat.le_refl, if_true, bz_and, true_and]
    rfl
  | succ u ih =>
    intro n hu hn
    have es : isWk T q (stx i) (n + 1) = (isWk T q (stx i) n && decide (T.2 (q + n) = (stx i).getD n 0)) := by
      unfold isWk
      rw [all_s, Bool.and_assoc]
    rw [b146_63]
    simp (disch := omega) only [sp227 hi, NC, show ¬ (stx i).length ≤ n by omega, if_false, bz_n0]
    cases hb : isWk T q (stx i) n with
    | false =>
      have hf : isW T q (stx i) = false := by
        cases hx : isW T q (stx i) with
        | false => rfl
        | true =>
          exfalso
          unfold isW at hx
          unfold isWk at hb
          rw [Bool.and_eq_true] at hx
          rw [hx.1, Bool.true_and] at hb
          have h2 := hx.2
          rw [List.all_eq_true] at h2
          have : (List.range n).all (fun i_1 => decide (T.2 (q + i_1) = (stx i).getD i_1 0)) = true := by
            rw [List.all_eq_true]
            intro j hj
            exact h2 j (List.mem_range.mpr (by have := List.mem_range.mp hj; omega))
          rw [this] at hb
          cases hb
      rw [hf]
      simp only [if_true, bz_f, show (0 : Int32) &&& 1 = 0 by decide, true_and]
    | true =>
      have hb' := hb
      unfold isWk at hb'
      rw [Bool.and_eq_true, decide_eq_true_eq] at hb'
      have hle : q + (stx i).length ≤ T.1 := by
        by_cases e : q ≤ T.1
        · have := we_le e; omega
        · have := we_out (T := T) (p := q) (by omega); omega
      have e3 := h.1.2.1 (q + n) (by omega)
      have e2 := h.2
      simp (disch := omega) only [Bool.true_eq_false, if_false, mO scr, e2, nI_add, e3, sp228 hi (show n < (stx i).length by omega), b146_102, nI_1]
      have nx := ih (n + 1) (by omega) (by omega)
      rw [es, hb, Bool.true_and] at nx
      by_cases hx : T.2 (q + n) = (stx i).getD n 0
      · rw [if_pos hx]
        simp only [hx, decide_true, bz_t] at nx
        exact nx
      · rw [if_neg hx]
        simp only [hx, decide_false, bz_f] at nx
        exact nx
theorem m146 (hT : TX T) (h : MT f G T q) (hq : q < 2 ^ 20) {i : Nat} (hi : i < 24) {K : Int32 → aH → Prop} : vI scr (d + 4) 146 [.ref 125, .ref (20000 + i)] (wo f G J c) K = K (bz (isW T q (stx i))) (wo f G J c) := by
  have h100 := (str_len i hi).1
  have e2 := h.2
  have hw := we_20 hT hq
  have wg := we_ge (T := T) (p := q)
  unfold vI
  rw [u146_ok, en146, b146_0]
  simp only [mO scr, e2, true_and]
  rw [mwe_lp hT h.1 _ q rfl hq, b146_41]
  simp (disch := omega) only [mO scr, e2, sp227 hi, show nI (we T q) - nI q = nI (we T q - q) from pk_sub wg, NC, b146_59]
  have nx := mst_lp (scr := scr) (J := J) (c := c) (d := d) hT h hq hi (l2 := nI (we T q)) (K := fun r h => ∃ x, r = some (Value.int x) ∧ K x h) (stx i).length 0 rfl (by omega)
  have e0 : isWk T q (stx i) 0 = decide (we T q = q + (stx i).length) := by simp [isWk]
  rw [e0, ex_i] at nx
  by_cases hx : we T q - q = (stx i).length
  · rw [if_pos hx]
    have : we T q = q + (stx i).length := by omega
    simp only [this, decide_true, bz_t] at nx ⊢
    exact nx
  · rw [if_neg hx]
    have : ¬ we T q = q + (stx i).length := by omega
    simp only [this, decide_false, bz_f] at nx
    exact nx
theorem m142 {w k : Nat} (h : f 125 21 = 0) {K : aH → Prop} : vV scr d 142 [.ref 125, .int (nI k), .int (nI w)] (wo f G J c) K = K (wo (up2 f 125 21 (nI (1 + 8 * w + k))) G J c) := by
  have e : (1 : Int32) + 8 * nI w + nI k = nI (1 + 8 * w + k) := by
    rw [show (8 : Int32) = nI 8 from rfl, pk_mul, show (1 : Int32) = nI 1 from rfl, nI_add, nI_add]
  unfold vV
  rw [u142_ok, en142, b142_0]
  simp only [mO scr, h, if_true, e, ex_v, true_and]
theorem m142x {w k : Int32} (h : ¬ f 125 21 = 0) {K : aH → Prop} : vV scr d 142 [.ref 125, .int k, .int w] (wo f G J c) K = K (wo f G J c) := by
  unfold vV
  rw [u142_ok, en142, b142_0]
  simp only [mO scr, h, if_false, ex_v, true_and]
  rw [up2_id rfl]
theorem mnum_lp (hT : TX T) {l1 : Int32} {st : Nat} {K : Option Value → aH → Prop} : ∀ k n f, de T st - (st + n) = k → st + n ≤ de T st → st < 2 ^ 20 → MT f G T (st + n) → E scr false (d + 2) 150 25 [.ref 125, .int l1, .int (nI st), .int (nI (vlN T st n))] [] (wo f G J c) K = (if 5 < de T st - st then E scr false (d + 2) 150 87 [.ref 125, .int l1, .int (nI st), .int (nI (vlN T st (de T st - st)))] [] (wo (mS f (de T st)) G J c) K else (if nI (vlN T st (de T st - st)) ≤ l1 then K (some (.int (nI (vlN T st (de T st - st))))) (wo (mS f (de T st)) G J c) else E scr false (d + 2) 150 87 [.ref 125, .int l1, .int (nI st), .int (nI (vlN T st (de T st - st)))] [] (wo (mS f (de T st)) G J c) K)) := by
  have h400 := hT.1
  intro k
  induction k with
  | zero =>
    intro n f hk hn hst h
    have e2 := h.2
    have en : de T st = st + n := by omega
    have d20 : st + n < 2 ^ 20 := by
      rw [← en]
      by_cases e : st ≤ T.1
      · have := de_le e; omega
      · rw [de_out (by omega)]; omega
    have hnd : dgB (ch8 T (st + n)) = false := by
      have key : ∀ k q, T.1 - q = k → dgB (ch8 T (de T q)) = false := by
        intro k
        induction k with
        | zero => intro q hq; rw [de_out (by omega), ch8_ge (by omega)]; decide
        | succ k ih =>
          intro q hq
          cases e : dgB (ch8 T q) with
          | false => rw [de_n e]; exact e
          | true => rw [(de_s e).1]; exact ih (q + 1) (by omega)
      rw [← en]
      exact key _ st rfl
    rw [b150_25, m145 hT h d20, hnd, en, mS_id e2, show st + n - st = n by omega]
    simp (disch := omega) only [bz_f, if_true, mO scr, e2, show nI (st + n) - nI st = nI (st + n - st) from pk_sub (by omega), show st + n - st = n by omega, show (5 : Int32) = nI 5 from rfl, NC]
  | succ k ih =>
    intro n f hk hn hst h
    have e2 := h.2
    have hd := de_dg (T := T) (st := st) n (by omega)
    have hl : st + n < T.1 := (de_s hd).2
    have hd' := hd
    unfold dgB at hd'
    simp only [Bool.and_eq_true, decide_eq_true_eq] at hd'
    have nx := ih (n + 1) (mS f (st + n + 1)) (by omega) (by omega) hst (MT_mS h)
    rw [mS_mS] at nx
    rw [b150_25, m145 hT h (by omega), hd]
    simp (disch := omega) only [bz_t, n10, if_false, mO scr, e2, show nI (st + n) - nI st = nI (st + n - st) from pk_sub (by omega), show st + n - st = n by omega, show (5 : Int32) = nI 5 from rfl, NC, m143 hT h (by omega), b150_58, nI_1]
    by_cases h5 : 5 ≤ n
    · rw [if_pos h5]
      have ev : vlN T st (n + 1) = vlN T st n := by
        simp only [vlN]
        rw [if_neg (by omega)]
      rw [ev] at nx
      exact nx
    · rw [if_neg h5]
      have ev : (10 : Int32) * nI (vlN T st n) + hI T (st + n) - 48 = nI (vlN T st (n + 1)) := by
        unfold hI
        rw [if_pos hl]
        simp only [vlN]
        rw [if_pos (by omega), show (10 : Int32) = nI 10 from rfl, pk_mul, nI_add, show (48 : Int32) = nI 48 from rfl, pk_sub (by omega)]
        congr 1
        omega
      rw [ev]
      exact nx
theorem m150 (hT : TX T) (h : MT f G T q) (hq : q < 2 ^ 20) (h21 : f 125 21 = 0) {K : Int32 → aH → Prop} : vI scr (d + 2) 150 [.ref 125, .int 99999] (wo f G J c) K = (if de T q = q then K 0 (wo (up2 f 125 21 (nI (1 + 8 * q))) G J c) else if 5 < de T q - q then K (nI (vlN T q (de T q - q))) (wo (up2 (mS f (de T q)) 125 21 (nI (1 + 8 * q + 1))) G J c) else K (nI (vlN T q (de T q - q))) (wo (mS f (de T q)) G J c)) := by
  have h400 := hT.1
  have e2 := h.2
  have dg := de_ge (T := T) (p := q)
  unfold vI
  rw [u150_ok, en150, b150_0, m145 hT h hq]
  cases hd : dgB (ch8 T q) with
  | false =>
    rw [if_pos (de_n hd)]
    simp only [bz_f, if_true, mO scr, e2]
    rw [show (0 : Int32) = nI 0 from rfl, m142 h21]
    simp only [true_and, ex_i, Nat.add_zero]
  | true =>
    have hne : ¬ de T q = q := by
      have := (de_s hd).1
      have := de_ge (T := T) (p := q + 1)
      omega
    have vb : vlN T q (de T q - q) < 100000 := vl_b (fun i hi => de_dg i (by omega))
    rw [if_neg hne]
    simp only [bz_t, n10, if_false, mO scr, e2, true_and]
    have nx := mnum_lp (scr := scr) (J := J) (c := c) (d := d) hT (l1 := 99999) (K := fun r h => ∃ x, r = some (Value.int x) ∧ K x h) _ 0 f rfl dg hq h
    have nx : E scr false (d + 2) 150 25 [.ref 125, .int 99999, .int (nI q), .int 0] [] (wo f G J c) (fun r h => ∃ x, r = some (Value.int x) ∧ K x h) = _ := nx
    rw [nx]
    have z3 : mS f (de T q) 125 21 = 0 := by rw [mS_at (by decide)]; exact h21
    have hle : nI (vlN T q (de T q - q)) ≤ (99999 : Int32) := nI_le (b := 99999) (by omega) (by decide)
    by_cases h5 : 5 < de T q - q
    · rw [if_pos h5, if_pos h5, b150_87, show (1 : Int32) = nI 1 from rfl, m142 z3, ex_i]
    · rw [if_neg h5, if_neg h5, if_pos hle, ex_i]
theorem m160 (hT : TX T) (h : MT f G T q) (hq : q < 2 ^ 20) (h21 : f 125 21 = 0) {lo hi : Nat} (hlo : lo < 2 ^ 30) (hhi : hi < 100000) {K : Int32 → aH → Prop} (hf : ∀ x v f', nuR T q lo hi = .inl x → v < 100000 → f' 125 21 = nI x → (∃ e, e < 2 ^ 20 ∧ f' 125 20 = nI e) → (∀ o k, ¬ (o = 125 ∧ (k = 20 ∨ k = 21)) → f' o k = f o k) → K (nI v) (wo f' G J c)) (hg : ∀ v e, nuR T q lo hi = .inr (v, e) → K (nI v) (wo (mS f e) G J c)) : vI scr (d + 4) 160 [.ref 125, .int (nI lo), .int (nI hi)] (wo f G J c) K := by
  have h400 := hT.1
  have s20 := sk_20 hT hq
  have h1 := MT_mS (q := sk T q) h
  have z1 : mS f (sk T q) 125 21 = 0 := by rw [mS_at (by decide)]; exact h21
  have dg := de_ge (T := T) (p := sk T q)
  have d20 : de T (sk T q) < 2 ^ 20 := by
    by_cases e : sk T q ≤ T.1
    · have := de_le e; omega
    · rw [de_out (by omega)]; exact s20
  have vb : vlN T (sk T q) (de T (sk T q) - sk T q) < 100000 := vl_b (fun i hi => de_dg i (by omega))
  have fr : ∀ (e : Nat) (x : Int32), ∀ o k, ¬ (o = 125 ∧ (k = 20 ∨ k = 21)) → up2 (mS f e) 125 21 x o k = f o k := by
    intro e x o k ho
    unfold mS up2
    rw [if_neg (fun e => ho ⟨e.1, Or.inr e.2⟩), if_neg (fun e => ho ⟨e.1, Or.inl e.2⟩)]
  unfold nuR at hf hg
  unfold vI
  rw [u160_ok, en160, b160_0]
  refine ⟨rfl, ?_⟩
  rw [m144 hT h hq]
  simp only [mO scr, z1, mS_20, if_true]
  rw [m150 hT h1 s20 z1, mS_mS]
  by_cases hz : de T (sk T q) = sk T q
  · rw [if_pos hz] at hf ⊢
    rw [b160_27]
    simp only [mO scr, up2_s, show ¬ (nI (1 + 8 * sk T q) = 0) from nI_ne0 (by omega) (by omega), if_false]
    have := hf _ 0 _ rfl (by decide) up2_s ⟨sk T q, s20, by rw [up2_k (by decide), mS_20]⟩ (fr (sk T q) (nI (1 + 8 * sk T q)))
    exact ⟨_, rfl, this⟩
  · rw [if_neg hz] at hf hg ⊢
    by_cases h5 : 5 < de T (sk T q) - sk T q
    · rw [if_pos (Or.inl h5)] at hf
      rw [if_pos h5, b160_27]
      simp only [mO scr, up2_s, show ¬ (nI (1 + 8 * sk T q + 1) = 0) from nI_ne0 (by omega) (by omega), if_false]
      have := hf _ _ _ rfl vb up2_s ⟨de T (sk T q), d20, by rw [up2_k (by decide), mS_20]⟩ (fr (de T (sk T q)) (nI (1 + 8 * sk T q + 1)))
      exact ⟨_, rfl, this⟩
    · rw [if_neg h5, b160_27]
      have z2 : mS f (de T (sk T q)) 125 21 = 0 := by rw [mS_at (by decide)]; exact h21
      have e121 : ∀ (x : Int32) (K : Int32 → aH → Prop) (h : aH), sI scr (d + 3) 121 [.long x.toInt64, .long (nI lo).toInt64, .long (nI hi).toInt64] h K = K (bz (btw x (nI lo) (nI hi))) h := fun x K h => sp121
      simp only [mO scr, z2, if_true, e121, btw_dc _ (show lo < 2 ^ 31 by omega) (show hi < 2 ^ 31 by omega), dc_I (show vlN T (sk T q) (de T (sk T q) - sk T q) < 2 ^ 31 by omega), bz_0, decide_eq_false_iff_not]
      by_cases hx : lo ≤ vlN T (sk T q) (de T (sk T q) - sk T q) ∧ vlN T (sk T q) (de T (sk T q) - sk T q) ≤ hi
      · rw [if_neg (by omega)] at hg
        rw [if_neg (fun e => e hx)]
        exact ⟨_, rfl, hg _ _ rfl⟩
      · rw [if_pos (by omega)] at hf
        rw [if_pos hx, show (1 : Int32) = nI 1 from rfl, m142 z2]
        have := hf _ _ _ rfl vb up2_s ⟨de T (sk T q), d20, by rw [up2_k (by decide), mS_20]⟩ (fr (de T (sk T q)) (nI (1 + 8 * sk T q + 1)))
        exact ⟨_, rfl, this⟩
theorem m160x (hT : TX T) (h : MT f G T q) (hq : q < 2 ^ 20) (h21 : ¬ f 125 21 = 0) {lo hi : Int32} {K : Int32 → aH → Prop} : vI scr (d + 4) 160 [.ref 125, .int lo, .int hi] (wo f G J c) K = K 0 (wo (mS f (sk T q)) G J c) := by
  have z1 : ¬ mS f (sk T q) 125 21 = 0 := by rw [mS_at (by decide)]; exact h21
  unfold vI
  rw [u160_ok, en160, b160_0, m144 hT h hq]
  simp only [mO scr, z1, if_false, b160_27, ex_i, true_and]
end RE3
