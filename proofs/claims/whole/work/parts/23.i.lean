variable {scr : List Int32}
-- ===== values, tests, choosing =====
section W5
theorem cmp_ge (x y : Int64) : (0 ≤ lg_cmp x y) = ¬ x < y := by
  apply propext
  rw [← cmp_lt x y, Int32.not_lt]
theorem cmp_le (x y : Int64) : (lg_cmp x y ≤ 0) = ¬ y < x := by
  apply propext
  rw [← cmp_gt x y, Int32.not_lt]
theorem cmp_l (x y : Int64) : (lg_cmp x y < 0) = (x < y) := propext (cmp_lt x y)
theorem cmp_g (x y : Int64) : (0 < lg_cmp x y) = (y < x) := propext (cmp_gt x y)
def wkA (s : Nat) (a b : Int64) : Int64 :=
  if s = 10 then a + b else if s = 11 then a - b else if s = 12 then a * b else if s = 13 then (if b = 0 then 0 else a / b) else if s = 14 then (if b = 0 then 0 else lrm a b) else
  if s = 15 then (if a < b then 1 else 0) else if s = 16 then (if b < a then 0 else 1) else if s = 17 then (if a = b then 1 else 0) else if s = 18 then (if a < b then 0 else 1) else if s = 19 then (if b < a then 1 else 0) else if s = 20 then a &&& b else a ||| b
theorem w86 {d s : Nat} {a b : Int64} {h : aH} {T : Int64 → aH → Prop} (h1 : 10 ≤ s) (h2 : s ≤ 21) : sJ scr d 86 [.int (nI s), .long a, .long b] h T = T (wkA s a b) h := by
  unfold sJ
  rw [en86, b86_0]
  have hs : s = 10 ∨ s = 11 ∨ s = 12 ∨ s = 13 ∨ s = 14 ∨ s = 15 ∨ s = 16 ∨ s = 17 ∨ s = 18 ∨ s = 19 ∨ s = 20 ∨ s = 21 := by omega
  rcases hs with rfl | rfl | rfl | rfl | rfl | rfl | rfl | rfl | rfl | rfl | rfl | rfl
  all_goals simp (disch := omega) only [LI, L2, NC, if_true, if_false, b86_60, b86_64, b86_68, b86_72, b86_86, b86_100, b86_112, b86_124, b86_136, b86_148, b86_160, b86_164, ex_j, cmp_eq, cmp_ge, cmp_le, cmp_l, cmp_g, wkA, Nat.reduceEqDiff]
  · by_cases hb : b = 0 <;> simp [hb]
  · by_cases hb : b = 0 <;> simp [hb]
  · by_cases hb : a < b <;> simp [hb]
  · by_cases hb : b < a <;> simp [hb]
  · by_cases hb : a = b <;> simp [hb]
  · by_cases hb : a < b <;> simp [hb]
  · by_cases hb : b < a <;> simp [hb]
/-- who was put in order was seen -/
theorem upN_at {F : Nat → Nat} {k v i : Nat} : upN F k v i = if i = k then v else F i := rfl
theorem insF_mem {lt : Nat → Nat → Bool} {o : Nat} {Q : Nat → Prop} (ho : Q o) : ∀ k n F, k ≤ n → (∀ i, i ≤ n → i ≠ k → Q (F i)) → ∀ i, i ≤ n → Q (insF lt F o k i) := by
  intro k
  induction k with
  | zero =>
    intro n F hk hF i hi
    rw [insF_0, upN_at]
    split
    · exact ho
    · rename_i e; exact hF i hi e
  | succ k ih =>
    intro n F hk hF i hi
    rw [insF_1]
    split
    · apply ih n _ (by omega) _ i hi
      intro i hi hik
      rw [upN_at]
      split
      · exact hF k (by omega) (by omega)
      · rename_i e; exact hF i hi e
    · rw [upN_at]
      split
      · exact ho
      · rename_i e; exact hF i hi e
theorem lkF_mem {P : Pn} {pl : Nat → Option Nat} {h w : Nat} : ∀ m i, i < lkC P pl h w m → lkF P pl h w m i < m ∧ seeB P pl h w (lkF P pl h w m i) = true := by
  intro m
  induction m with
  | zero => intro i hi; simp [lkC] at hi
  | succ m ih =>
    intro i hi
    cases hs : seeB P pl h w m with
    | false =>
      simp only [lkC, lkF, hs, Bool.false_eq_true, if_false, Nat.add_zero] at hi ⊢
      have := ih i hi
      exact ⟨by omega, this.2⟩
    | true =>
      simp only [lkC, lkF, hs, if_true] at hi ⊢
      apply insF_mem (Q := fun x => x < m + 1 ∧ seeB P pl h w x = true) ⟨by omega, hs⟩ (lkC P pl h w m) (lkC P pl h w m) _ (Nat.le_refl _) _ i (by omega)
      intro i hi hik
      have := ih i (by omega)
      exact ⟨by omega, this.2⟩
theorem see_pl {P : Pn} {pl : Nat → Option Nat} {h w o : Nat} (hs : seeB P pl h w o = true) : o ≠ w ∧ ∃ t, pl o = some t ∧ clB P h t = true := by
  unfold seeB at hs
  simp only [Bool.and_eq_true, Bool.not_eq_true', decide_eq_false_iff_not] at hs
  refine ⟨hs.1, ?_⟩
  cases e : pl o with
  | none => rw [e] at hs; simp at hs
  | some t => rw [e] at hs; exact ⟨t, rfl, hs.2⟩
def siA (P : Pn) (pl : Nat → Option Nat) (h w n : Nat) : Option Nat := if 1 ≤ n ∧ n ≤ lkC P pl h w 14 then some (lkF P pl h w 14 (n - 1)) else none
def neA (P : Pn) (pl : Nat → Option Nat) (h w : Nat) : Nat := if lkC P pl h w 14 = 0 then 0 else dsN h (plG pl (lkF P pl h w 14 0))
def vaN (P : Pn) (B : Nat → Nat) (pl : Nat → Option Nat) (h w s : Nat) : Nat :=
  if s = 0 then h % 12 else if s = 1 then h / 12 else if s = 2 then pAg P w else if s = 3 then pSo P w else if s = 4 then lkC P pl h w 14 else if s = 5 then neA P pl h w else if s = 6 then B h else if s = 7 then lkB P pl h w 14 else if lkE P pl h w 14 = true then 1 else 0
def vaA (P : Pn) (B : Nat → Nat) (pl : Nat → Option Nat) (h w s : Nat) : Int64 := Int32.toInt64 (nI (vaN P B pl h w s))
theorem ky_mod {P : Pn} {pl : Nat → Option Nat} {h o : Nat} : ky P pl h o % 16 = o % 16 := by
  unfold ky
  omega
theorem ky_div {P : Pn} {pl : Nat → Option Nat} {h o : Nat} : ky P pl h o / 4096 = dsN h (plG pl o) := by
  have := rk_le (P := P) (o := o)
  unfold ky
  omega
theorem and15 {a : Nat} (h : a < 2 ^ 31) : nI a &&& 15 = nI (a % 16) := pk_andN (by omega) 4 (by decide)
theorem shr12 {a : Nat} (h : a < 2 ^ 31) : ((nI a : Int32) >>> ((12 : Int32) &&& 31) : Int32) = nI (a / 4096) := pk_shrN h _ 12 (by decide)
variable {f G f' G' : Nat → Nat → Int32} {J J' : Nat → Nat → Int64} {c : Value} {d p q : Nat} {P : Pn} {D : Dy}
theorem z57 {T : Int32 → Prop} : aI scr (wo f G J c) 57 0 T = T (G 57 0) := wo_aI (k := 0) A_wk_order (by decide)
theorem z56 {T : Int64 → Prop} : aJ (wo f G J c) 56 0 T = T (J 56 0) := wo_aJ (k := 0) A_wk_stack (by decide)
theorem w83 (hP : wfP P) {pl : Nat → Option Nat} (hl : wfL P pl) {h w n : Nat} (hh : h < 144) (hk : LK f G P pl h w 14) (hn : n < 2 ^ 31) {T : Int32 → aH → Prop} : vI scr d 83 [.ref 55, .int (nI n)] (wo f G J c) T = T (oI (siA P pl h w n)) (wo f G J c) := by
  obtain ⟨k1, -, -, k4⟩ := hk
  have hc := lkC_le (P := P) (pl := pl) (h := h) (w := w) (m := 14)
  unfold vI
  rw [u83_ok, en83, b83_0]
  simp (disch := omega) only [LI, NC, wK scr, k1, ex_i, true_and]
  unfold siA
  by_cases h1 : n = 0
  · simp [h1, oI]
  · by_cases h2 : lkC P pl h w 14 < n
    · simp only [h1, h2, if_false, if_true, show ¬ n ≤ lkC P pl h w 14 by omega, and_false]
      rfl
    · have e := k4 (n - 1) (by omega)
      have m := lkF_mem (P := P) (pl := pl) (h := h) (w := w) 14 (n - 1) (by omega)
      simp (disch := omega) only [h1, h2, if_false, show ¬ 14 < n by omega, nI_s1, wK scr, e]
      rw [and15 (ky_lt hP hl hh _), ky_mod, Nat.mod_eq_of_lt (by omega), if_pos ⟨by omega, by omega⟩]
      rfl
theorem w87 (hp : isSc p) (hP : wfP P) (hl : wfL P (dPl D)) (hs : RS f G p P) (hd : RD f G p D) {B : Nat → Nat} (hB : ∀ q, q < 144 → G 51 q = nI (B q)) {h w s : Nat} (hw : dPl D w = some h) (hwp : w < pPe P) (hk : LK f G P (dPl D) h w 14) (h9 : s < 9) {T : Int64 → aH → Prop} : vJ scr d 87 [.ref 55, .ref p, .int (nI s), .int (nI w)] (wo f G J c) T = T (vaA P B (dPl D) h w s) (wo f G J c) := by
  obtain ⟨h14, h144, -⟩ := wfL_lt hP hl hw
  obtain ⟨k1, k2, k3, k4⟩ := hk
  have hc := lkC_le (P := P) (pl := dPl D) (h := h) (w := w) (m := 14)
  have ew := hd.2.2.2.1 w h14
  rw [hw] at ew
  have w12 : w < 12 := by have := hP.2.2.2.1; omega
  unfold vJ
  rw [u87_ok, en87, b87_0]
  unfold vaA vaN
  have hs9 : s = 0 ∨ s = 1 ∨ s = 2 ∨ s = 3 ∨ s = 4 ∨ s = 5 ∨ s = 6 ∨ s = 7 ∨ s = 8 := by omega
  rcases hs9 with rfl | rfl | rfl | rfl | rfl | rfl | rfl | rfl | rfl
  all_goals simp (disch := omega) only [LI, L2, NC, if_true, if_false, b87_56, b87_63, b87_70, b87_78, b87_86, b87_92, b87_114, b87_137, b87_143, ex_j, sC scr hp, wK scr, gRr scr, ew, oI_s, irm_nI, true_and, Nat.reduceEqDiff, k1, k2, k3, hs.2.2.1 w hwp, hs.2.2.2.1 w hwp, hB]
  · rw [show nI 12 = 12 from rfl, div12 (by omega)]
  · unfold neA
    by_cases h0 : lkC P (dPl D) h w 14 = 0
    · simp only [h0, if_true]; rfl
    · simp only [h0, if_false, z57, k4 0 (by omega)]
      rw [show nI 12 = 12 from rfl, shr12 (ky_lt hP hl h144 _), ky_div]
  · cases lkE P (dPl D) h w 14
    · simp [bz]; rfl
    · simp [bz]; rfl
-- ===== the code of a test =====
def upA (S : Nat → Int64) (k : Nat) (v : Int64) : Nat → Int64 := fun i => if i = k then v else S i
def tpS (s t : Nat) : Nat := if s = 22 then t else if 10 ≤ s ∧ s ≤ 21 then t - 1 else t + 1
def okS (s t : Nat) : Prop := (s = 22 ∧ 1 ≤ t ∧ t ≤ 64) ∨ (10 ≤ s ∧ s ≤ 21 ∧ 2 ≤ t ∧ t ≤ 64) ∨ ((s < 9 ∨ (32 ≤ s ∧ s < 100032)) ∧ t < 64)
def stS (val : Nat → Int64) (s t : Nat) (S : Nat → Int64) : Nat → Int64 := if s = 22 then upA S (t - 1) (1 - S (t - 1)) else if 10 ≤ s ∧ s ≤ 21 then upA S (t - 2) (wkA s (S (t - 2)) (S (t - 1))) else upA S t (if 32 ≤ s then Int32.toInt64 (nI (s - 32)) else val s)
def topA (cd : Nat → Nat) (s : Nat) : Nat → Nat
  | 0 => 0
  | i + 1 => tpS (cd (s + i)) (topA cd s i)
def stA (val : Nat → Int64) (cd : Nat → Nat) (s : Nat) : Nat → Nat → Int64
  | 0 => fun _ => 0
  | i + 1 => stS val (cd (s + i)) (topA cd s i) (stA val cd s i)
def good (cd : Nat → Nat) (s e : Nat) : Prop := (∀ i, i < e - s → okS (cd (s + i)) (topA cd s i)) ∧ topA cd s (e - s) = 1 ∧ ∀ val, stA val cd s (e - s) 0 = 0 ∨ stA val cd s (e - s) 0 = 1
abbrev Lw : Type := Nat × (Nat → Nat) × (Nat → Nat) × (Nat → Nat)
def lwN (L : Lw) : Nat := L.1
def lwP (L : Lw) : Nat → Nat := L.2.1
def lwE (L : Lw) : Nat → Nat := L.2.2.1
def lwC (L : Lw) : Nat → Nat := L.2.2.2
def lwS (L : Lw) (i : Nat) : Nat := if i = 0 then 0 else lwE L (i - 1)
def wfLw (L : Lw) : Prop := lwN L ≤ 12 ∧ (∀ i, i < lwN L → lwP L i ≤ 9) ∧ (∀ i, i < lwN L → lwS L i ≤ lwE L i ∧ lwE L i < 300) ∧ (∀ i, i < lwN L → lwS L i = lwE L i ∨ good (lwC L) (lwS L i) (lwE L i))
def LRl (f G : Nat → Nat → Int32) (q : Nat) (L : Lw) : Prop := f q 0 = nI (lwN L) ∧ (∀ i, i < lwN L → G (q + 1) i = nI (lwP L i)) ∧ (∀ i, i < lwN L → G (q + 2) i = nI (lwE L i)) ∧ (∀ i, i < lwN L → ∀ k, k < lwE L i → G (q + 3) k = nI (lwC L k))
def reA (val : Nat → Int64) (L : Lw) (i : Nat) : Int64 := stA val (lwC L) (lwS L i) (lwE L i - lwS L i) 0
def chR (val : Nat → Int64) (L : Lw) : Nat → Nat → Nat
  | 0, _ => 0
  | m + 1, i => if lwS L i = lwE L i ∨ ¬ reA val L i = 0 then lwP L i else chR val L m (i + 1)
def folA (P : Pn) (B : Nat → Nat) (L : Lw) (pl : Nat → Option Nat) (h w : Nat) : Option Nat := siA P pl h w (chR (vaA P B pl h w) L (lwN L) 0)
theorem upJ_s {k : Nat} {v : Int64} {r : Nat} : upJ J r k v r k = v := by simp [upJ]
theorem upJ_a {k i : Nat} {v : Int64} {r : Nat} : upJ J r k v r i = if i = k then v else J r i := by simp [upJ]
theorem upJ_q {k i : Nat} {v : Int64} {r r' : Nat} (h : r' ≠ r) : upJ J r k v r' i = J r' i := by simp [upJ, h]
theorem holds_loop (hp : isSc p) (hq : isLw q) (hP : wfP P) (hl : wfL P (dPl D)) (hs : RS f G p P) (hd : RD f G p D) {B : Nat → Nat} (hB : ∀ q, q < 144 → G 51 q = nI (B q)) {h w : Nat} (hw : dPl D w = some h) (hwp : w < pPe P) (hk : LK f G P (dPl D) h w 14)
  {cd : Nat → Nat} {s e : Nat} (hse : s ≤ e) (he : e < 300) (hcd : ∀ k, k < e → G (q + 3) k = nI (cd k)) (hg : good cd s e) {l3 : Int32} {K : Option Value → aH → Prop} :
  ∀ r i, e - s - i = r → i ≤ e - s → ∀ J, (∀ x, x < topA cd s i → J 56 x = stA (vaA P B (dPl D) h w) cd s i x) → (∀ J', (∀ q k, q ≠ 56 → J' q k = J q k) → K (some (.int (bz (!decide (stA (vaA P B (dPl D) h w) cd s (e - s) 0 = 0))))) (wo f G J' c)) → ∀ l8 : Value, E scr false (d + 1) 85 10 [.ref 55, .ref p, .ref (q + 3), .int l3, .int (nI e), .int (nI w), .int (nI (topA cd s i)), .int (nI (s + i)), l8] [] (wo f G J c) K := by
  intro r
  induction r with
  | zero =>
    intro i hr hi J hJ hK l8
    have ei : i = e - s := by omega
    subst ei
    rw [b85_10]
    simp (disch := omega) only [NC, show e ≤ s + (e - s) by omega, if_true, b85_172, wK scr, z56, cmp_eq]
    rw [hJ 0 (by rw [hg.2.1]; omega)]
    have := hK J (fun _ _ _ => rfl)
    by_cases h0 : stA (vaA P B (dPl D) h w) cd s (e - s) 0 = 0
    · simp only [h0, if_true]
      simpa [h0, bz] using this
    · simp only [h0, if_false]
      simpa [h0, bz] using this
  | succ r ih =>
    intro i hr hi J hJ hK l8
    have l400 : ln (q + 3) = 400 := by rcases hq with rfl | rfl | rfl | rfl | rfl | rfl <;> rfl
    have hok := hg.1 i (by omega)
    have hcode := hcd (s + i) (by omega)
    have next : ∀ J', (∀ q k, q ≠ 56 → J' q k = J q k) → (∀ x, x < topA cd s (i + 1) → J' 56 x = stA (vaA P B (dPl D) h w) cd s (i + 1) x) → ∀ l8 : Int32, E scr false (d + 1) 85 166 [.ref 55, .ref p, .ref (q + 3), .int l3, .int (nI e), .int (nI w), .int (nI (topA cd s (i + 1))), .int (nI (s + i)), .int l8] [] (wo f G J' c) K := by
      intro J' hfr hJ' l8
      rw [b85_166, nI_1]
      apply ih (i + 1) (by omega) (by omega) J' hJ'
      intro J2 h2
      apply hK J2
      intro q k hqk
      rw [h2 q k hqk, hfr q k hqk]
    have et : topA cd s (i + 1) = tpS (cd (s + i)) (topA cd s i) := rfl
    have es : stA (vaA P B (dPl D) h w) cd s (i + 1) = stS (vaA P B (dPl D) h w) (cd (s + i)) (topA cd s i) (stA (vaA P B (dPl D) h w) cd s i) := rfl
    rw [et, es] at next
    rw [b85_10]
    generalize topA cd s i = t at *
    generalize cd (s + i) = sg at *
    generalize stA (vaA P B (dPl D) h w) cd s i = S at *
    unfold okS at hok
    have sb : sg < 2 ^ 31 := by omega
    simp (disch := omega) only [NC, show ¬ e ≤ s + i by omega, if_false, wo_aN (t := 1) (by decide) (by decide) (A_lw_code hq), l400, show Int32.ofNat 400 = nI 400 from rfl, show ¬ 400 ≤ s + i by omega, lW scr hq, hcode, L2]
    rcases hok with ⟨h1, h2, h3⟩ | ⟨h1, h2, h3, h4⟩ | ⟨h1, h2⟩
    · simp only [tpS, stS, h1, if_true] at next
      simp (disch := omega) only [h1, if_true, NC, show ¬ t = 0 by omega, if_false, wK scr, nI_s1]
      apply next
      · intro q k hqk; rw [upJ_q hqk]
      · intro x hx
        rw [upJ_a, hJ (t - 1) (by omega)]
        unfold upA
        split
        · rfl
        · exact hJ x hx
    · simp only [tpS, stS, show ¬ sg = 22 by omega, if_false, h1, h2, and_self, if_true] at next
      simp (disch := omega) only [show ¬ sg = 22 by omega, if_false]
      rw [b85_66]
      simp (disch := omega) only [LI, L2, NC, show ¬ sg < 10 by omega, show ¬ 21 < sg by omega, show ¬ t < 2 by omega, if_false, wK scr, nI_s1, nI_s2, nI_m1, w86 h1 h2]
      apply next
      · intro q k hqk; rw [upJ_q hqk]
      · intro x hx
        rw [upJ_a, hJ (t - 1) (by omega), hJ (t - 2) (by omega)]
        unfold upA
        split
        · rfl
        · exact hJ x (by omega)
    · have n22 : ¬ sg = 22 := by omega
      have nb : ¬ (10 ≤ sg ∧ sg ≤ 21) := by omega
      simp only [tpS, stS, n22, nb, if_false] at next
      simp (disch := omega) only [n22, if_false]
      rw [b85_66]
      have to124 : ∀ X : Prop, E scr false (d + 1) 85 124 [.ref 55, .ref p, .ref (q + 3), .int l3, .int (nI e), .int (nI w), .int (nI t), .int (nI (s + i)), .int (nI sg)] [] (wo f G J c) K → (if nI sg < 10 then E scr false (d + 1) 85 124 [.ref 55, .ref p, .ref (q + 3), .int l3, .int (nI e), .int (nI w), .int (nI t), .int (nI (s + i)), .int (nI sg)] [] (wo f G J c) K else (if 21 < nI sg then E scr false (d + 1) 85 124 [.ref 55, .ref p, .ref (q + 3), .int l3, .int (nI e), .int (nI w), .int (nI t), .int (nI (s + i)), .int (nI sg)] [] (wo f G J c) K else X)) := by
        intro X hX
        simp (disch := omega) only [LI, L2, NC]
        by_cases h10 : sg < 10
        · simp only [h10, if_true]; exact hX
        · simp only [h10, show 21 < sg by omega, if_true, if_false]; exact hX
      apply to124
      rw [b85_124]
      simp (disch := omega) only [L2, NC, show ¬ 64 ≤ t by omega, if_false, wK scr]
      have fin : ∀ v : Int64, v = (if 32 ≤ sg then Int32.toInt64 (nI (sg - 32)) else vaA P B (dPl D) h w sg) → E scr false (d + 1) 85 162 [.ref 55, .ref p, .ref (q + 3), .int l3, .int (nI e), .int (nI w), .int (nI t), .int (nI (s + i)), .int (nI sg)] [.long v, .int (nI t), .ref 56] (wo f G J c) K := by
        intro v hv
        rw [b85_162]
        simp (disch := omega) only [wK scr, nI_1]
        apply next
        · intro q k hqk; rw [upJ_q hqk]
        · intro x hx
          rw [upJ_a, hv]
          unfold upA
          split
          · rfl
          · exact hJ x (by omega)
      by_cases h32 : sg < 32
      · simp only [h32, if_true]
        rw [w87 hp hP hl hs hd hB hw hwp hk (by omega)]
        exact fin _ (by rw [if_neg (by omega)])
      · simp only [h32, if_false]
        rw [pk_sub (by omega)]
        exact fin _ (by rw [if_pos (by omega)])
end W5
