variable {scr : List Int32}
-- ===== a herald goes; choices of a course =====
section CS
variable {f G f' G' : Nat → Nat → Int32} {J J' : Nat → Nat → Int64} {c : Value} {d p : Nat} {P : Pn} {D : Dy}
def goO (P : Pn) (pl : Nat → Option Nat) (w y : Nat) : Option Nat := match pl w with
  | none => none
  | some h => match beO P h y with
    | none => none
    | some n => if frA P pl n = true then some n else none
theorem goO_some {pl : Nat → Option Nat} {w y n : Nat} (h : goO P pl w y = some n) : frA P pl n = true ∧ ∃ t, pl w = some t ∧ beO P t y = some n := by
  unfold goO at h
  split at h
  · cases h
  · rename_i t ht
    split at h
    · cases h
    · rename_i n' hn
      split at h
      · rename_i hf
        cases h
        exact ⟨hf, t, ht, hn⟩
      · cases h
theorem w61 (hp : isSc p) (hP : wfP P) (hl : wfL P (dPl D)) (hs : RS f G p P) (hd : RD f G p D) {w y h : Nat} (hw : dPl D w = some h) (hy : y < 8) {T : Int32 → aH → Prop} : vI scr (d + 3) 61 [.ref p, .int (nI w), .int (nI y)] (wo f G J c) T = T (bz (goO P (dPl D) w y).isSome) (wo f (mvG G p w (dPl D w) (goO P (dPl D) w y)) J c) := by
  obtain ⟨w14, h144, -⟩ := wfL_lt hP hl hw
  have e1 := hd.2.2.2.1 w w14
  rw [hw] at e1
  unfold vI
  rw [u61_ok hp, en61, b61_0]
  simp (disch := omega) only [show (14 : Int32) = nI 14 from rfl, NC, if_false, w14, if_true, sC scr hp, e1, oI_s, w58 hp hP hs h144 hy, true_and]
  unfold goO
  rw [hw]
  simp only
  cases hb : beO P h y with
  | none => simp [oI_n, neg1_lt, mvG, bz]
  | some n =>
    have n144 := th_lt hP (be_th hP hb)
    simp (disch := omega) only [oI_s, NC, if_false, show (12 : Int32) = nI 12 from rfl, irm_nI]
    rw [show nI n / nI 12 = nI (n / 12) from div12 (by omega), w57 hp hP hs hd n144]
    cases hf : frA P (dPl D) n with
    | false => simp [bz, mvG]
    | true =>
      simp only [bz_t, show ¬ ((1 : Int32) = 0) by decide, if_false, if_true]
      rw [w60 hp hP hd hl w14 n144]
      simp [mvG, bz, hw]
def hgG (G : Nat → Nat → Int32) (w : Nat) (o : Option Nat) : Nat → Nat → Int32 := match o with
  | none => G
  | some n => up2 G 135 w (nI n)
theorem up2_id {G : Nat → Nat → Int32} {r k : Nat} {v : Int32} (h : G r k = v) : up2 G r k v = G := by
  funext a b
  unfold up2
  by_cases e : a = r ∧ b = k
  · rw [if_pos e, e.1, e.2, h]
  · rw [if_neg e]
theorem m190 (hP : wfP P) (hl : wfL P (dPl D)) (hms : MS G P) (hmd : MD G P D) {w y h : Nat} (hw : dPl D (12 + w) = some h) (hy : y < 8) {T : Int32 → aH → Prop} : vI scr (d + 5) 190 [.ref 125, .int (nI w), .int (nI y)] (wo f G J c) T = T (bz (goO P (dPl D) (12 + w) y).isSome) (wo f (hgG G (12 + w) (goO P (dPl D) (12 + w) y)) J c) := by
  obtain ⟨w14, h144, -, hex⟩ := wfL_lt hP hl hw
  have e1 := hmd.2.1 (12 + w) hex
  rw [hw] at e1
  have e11 : (1 : Int32) &&& 1 = 1 := by decide
  have e00 : (0 : Int32) &&& 1 = 0 := by decide
  have stay : ∀ x : Int32, E scr false (d + 4 + 1) 190 32 [.ref 125, .int (nI w), .int (nI y), .int x, .null] [] (wo f G J c) (fun r h => ∃ x, r = some (Value.int x) ∧ T x h) = T 0 (wo f G J c) := by
    intro x
    rw [b190_32, b190_33, show (12 : Int32) = nI 12 from rfl, nI_add]
    simp (disch := omega) only [mO scr, if_true, e1, e00, true_and, ex_i]
    rw [up2_id e1]
  unfold vI
  rw [u190_ok, en190, b190_0, show (12 : Int32) = nI 12 from rfl, nI_add]
  simp (disch := omega) only [mO scr, e1, oI_s, m132 hP hms h144 hy, true_and]
  unfold goO
  rw [hw]
  simp only
  cases hb : beO P h y with
  | none =>
    simp only [oI_n, if_true]
    rw [stay]
    rfl
  | some n =>
    have n144 := th_lt hP (be_th hP hb)
    simp (disch := omega) only [oI_s, NC, if_false, m131 hP hms hmd hl n144]
    cases hf : frA P (dPl D) n with
    | false =>
      simp only [bz_f, if_true]
      rw [stay]
      rfl
    | true =>
      simp only [bz_t, show ¬ ((1 : Int32) = 0) by decide, if_false, if_true]
      rw [b190_33, show (12 : Int32) = nI 12 from rfl, nI_add]
      simp (disch := omega) only [mO scr, show ¬ ((1 : Int32) = 0) by decide, if_false, e11, true_and, ex_i]
      rfl
def crL (x : Int32) : Int32 := lg [1, 9, 81, 729] x
theorem ro_C {x : Int32} {T : Int32 → Prop} {h : aH} : aI scr h 10002 x T = (inb x 4 = true ∧ T (crL x)) := by
  unfold aI rdA cellAt
  apply propext
  constructor
  · rintro ⟨v, hv, ht⟩
    have hv : (if 1 = 1 ∧ inb x 4 = true then some (crL x) else none) = some v := hv
    split at hv
    · rename_i e; cases hv; exact ⟨e.2, ht⟩
    · cases hv
  · rintro ⟨e, ht⟩
    refine ⟨crL x, ?_, ht⟩
    show (if 1 = 1 ∧ inb x 4 = true then some (crL x) else none) = some (crL x)
    rw [if_pos ⟨rfl, e⟩]
theorem ro_N {T : Nat → Prop} {h : aH} : aN scr h 10002 T = T 4 := by
  unfold aN lenA cellAt
  apply propext
  constructor
  · rintro ⟨v, hv, ht⟩
    have hv : some 4 = some v := hv
    cases hv
    exact ht
  · intro ht
    exact ⟨4, rfl, ht⟩
theorem cr_of : ∀ k, k < 4 → crL (nI k) = nI (9 ^ k) ∧ inb (nI k) 4 = true := by decide +kernel
def chO (code i n : Nat) : Nat := code / 9 ^ (n - 1 - i) % 9
theorem w42 {code i n : Nat} (hc : code < 2 ^ 31) (hi : i < n) (hn : n ≤ 4) {h : aH} {T : Int32 → aH → Prop} : sI scr d 42 [.int (nI code), .int (nI i), .int (nI n)] h T = T (nI (chO code i n)) h := by
  unfold sI
  rw [en42, b42_0, nI_s1 (by omega), pk_sub (show i ≤ n - 1 by omega)]
  obtain ⟨c1, c2⟩ := cr_of (n - 1 - i) (by omega)
  have p9 : 0 < 9 ^ (n - 1 - i) := Nat.pow_pos (by decide)
  have p9b : 9 ^ (n - 1 - i) ≤ 9 ^ 4 := Nat.pow_le_pow_right (by decide) (by omega)
  have p9c : (9 : Nat) ^ 4 = 6561 := by decide
  have hdl : code / 9 ^ (n - 1 - i) ≤ code := Nat.div_le_self _ _
  simp (disch := omega) only [NC, if_false, ro_N, show Int32.ofNat 4 = nI 4 from rfl, show n - 1 - i < 4 by omega, if_true, ro_C, c1, c2, true_and, show ¬ 9 ^ (n - 1 - i) = 0 by omega, not_false_eq_true, ex_i]
  rw [pk_div (by omega) p9 (by omega), show (9 : Int32) = nI 9 from rfl, irm_nI (by omega) (by decide) (by decide)]
  rfl
theorem ch_loop {l0 l1 : Int32} {k : Nat} {K : Option Value → aH → Prop} {h : aH} : ∀ m i left, i - k = m → k ≤ i → i < 2 ^ 20 → left < 2 ^ 31 → E scr false d 207 7 [.int l0, .int l1, .int (nI k), .int (nI left), .int (nI i)] [] h K = K (some (.int (nI (left / 9 ^ (i - k) % 9)))) h := by
  intro m
  induction m with
  | zero =>
    intro i left hm hk hi hl
    have e : i = k := by omega
    subst e
    rw [b207_7]
    simp (disch := omega) only [NC, Nat.le_refl, if_true]
    rw [show (9 : Int32) = nI 9 from rfl, irm_nI (by omega) (by decide) (by decide), Nat.sub_self, Nat.pow_zero, Nat.div_one]
  | succ m ih =>
    intro i left hm hk hi hl
    rw [b207_7]
    simp (disch := omega) only [NC, show ¬ i ≤ k by omega, if_false, nI_m1]
    rw [show (9 : Int32) = nI 9 from rfl, pk_div (by omega) (by decide) (by decide), ih (i - 1) (left / 9) (by omega) (by omega) (by omega) (by omega), Nat.div_div_eq_div_mul]
    rw [show i - k = (i - 1 - k) + 1 by omega, Nat.pow_succ, Nat.mul_comm]
theorem m207 {code k n : Nat} (hc : code < 2 ^ 31) (hk : k < n) (hn : n ≤ 4) {h : aH} {T : Int32 → aH → Prop} : sI scr d 207 [.int (nI code), .int (nI n), .int (nI k)] h T = T (nI (chO code k n)) h := by
  unfold sI
  rw [en207, b207_0, nI_s1 (by omega), ch_loop (n - 1 - k) (n - 1) code rfl (by omega) (by omega) hc]
  simp only [ex_i]
  rfl
end CS
