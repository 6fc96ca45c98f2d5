variable {scr : List Int32}
-- ===== the model's tests and whom one follows =====
section M3
def soM (s : Nat) : Nat := if 32 ≤ s then 0 else if s < 9 then 1 else if s = 10 then 2 else if s = 11 then 3 else if s = 12 then 13 else if s = 13 then 14 else if s = 14 then 15 else if s = 15 then 4 else if s = 16 then 5 else if s = 17 then 6 else if s = 18 then 7 else if s = 19 then 8 else if s = 20 then 10 else if s = 21 then 11 else 9
def nuM (s : Nat) : Nat := if 32 ≤ s then s - 32 else if s < 9 then s else 0
theorem m173 {d : Nat} {x : Int32} {h : aH} {T : Int64 → aH → Prop} : sJ scr d 173 [.int x] h T = T (if x = 0 then 0 else 1) h := by
  unfold sJ
  rw [en173, b173_0]
  split <;> simp only [ex_j]
theorem m174 {d s : Nat} {a b : Int64} {h : aH} {T : Int64 → aH → Prop} (h1 : 10 ≤ s) (h2 : s ≤ 21) : sJ scr (d + 1) 174 [.int (nI (soM s)), .long a, .long b] h T = T (wkA s a b) h := by
  unfold sJ
  rw [en174, b174_0]
  have hs : s = 10 ∨ s = 11 ∨ s = 12 ∨ s = 13 ∨ s = 14 ∨ s = 15 ∨ s = 16 ∨ s = 17 ∨ s = 18 ∨ s = 19 ∨ s = 20 ∨ s = 21 := by omega
  have z1 : (if (1 : Int32) = 0 then (0 : Int64) else 1) = 1 := by decide
  have z0 : (if (0 : Int32) = 0 then (0 : Int64) else 1) = 0 := by decide
  rcases hs with rfl | rfl | rfl | rfl | rfl | rfl | rfl | rfl | rfl | rfl | rfl | rfl
  all_goals simp (disch := omega) only [soM, Nat.reduceLeDiff, Nat.reduceEqDiff, LI, L2, NC, if_true, if_false, b174_72, b174_76, b174_80, b174_84, b174_98, b174_112, b174_123, b174_127, b174_138, b174_142, b174_153, b174_157, b174_168, b174_172, b174_183, b174_187, b174_191, ex_j, cmp_eq, cmp_ge, cmp_le, cmp_l, cmp_g, wkA, m173, z1, z0, Nat.reduceLT]
  · by_cases hb : b = 0 <;> simp [hb]
  · by_cases hb : b = 0 <;> simp [hb]
  · by_cases hb : a < b <;> simp [hb]
  · by_cases hb : b < a <;> simp [hb]
  · by_cases hb : a = b <;> simp [hb]
  · by_cases hb : a < b <;> simp [hb]
  · by_cases hb : b < a <;> simp [hb]
variable {f G f' G' : Nat → Nat → Int32} {J J' : Nat → Nat → Int64} {c : Value} {d : Nat} {P : Pn} {D : Dy}
theorem z152 {T : Int64 → Prop} : aJ (wo f G J c) 152 0 T = T (J 152 0) := wo_aJ (k := 0) A_mo_stack (by decide)
theorem z142 {T : Int32 → Prop} : aI scr (wo f G J c) 142 0 T = T (G 142 0) := wo_aI (k := 0) A_mo_seen (by decide)
theorem z151 : (∀ {v : Int64} {T : aH → Prop}, wJ (wo f G J c) 151 0 v T = T (wo f G (upJ J 151 0 v) c)) ∧ (∀ {v : Int64} {T : aH → Prop}, wJ (wo f G J c) 151 1 v T = T (wo f G (upJ J 151 1 v) c)) := ⟨wo_wJ (k := 0) A_mo_asked (by decide), wo_wJ (k := 1) A_mo_asked (by decide)⟩
theorem ans_loop {val : Nat → Int64} {cd : Nat → Nat} {r s e : Nat} (hr : r < 6) (hse : s ≤ e) (he : e < 300) (hcd : ∀ k, k < e → G 144 (300 * r + k) = nI (soM (cd k)) ∧ G 145 (300 * r + k) = nI (nuM (cd k))) (hg : good cd s e) {K : Option Value → aH → Prop} :
  ∀ n i, e - s - i = n → i ≤ e - s → ∀ J, (∀ v, v < 9 → J 151 v = val v) → (∀ x, x < topA cd s i → J 152 x = stA val cd s i x) → (∀ J', (∀ q k, q ≠ 152 → J' q k = J q k) → K (some (.long (stA val cd s (e - s) 0))) (wo f G J' c)) → ∀ l6 l7 : Value, E scr false (d + 2) 175 6 [.ref 125, .int (nI r), .int (nI s), .int (nI e), .int (nI (topA cd s i)), .int (nI (s + i)), l6, l7] [] (wo f G J c) K := by
  intro n
  induction n with
  | zero =>
    intro i hn hi J hv hJ hK l6 l7
    have ei : i = e - s := by omega
    subst ei
    rw [b175_6]
    simp (disch := omega) only [NC, show e ≤ s + (e - s) by omega, if_true, mO scr, z152]
    rw [hJ 0 (by rw [hg.2.1]; omega)]
    exact hK J (fun _ _ _ => rfl)
  | succ n ih =>
    intro i hn hi J hv hJ hK l6 l7
    have hok := hg.1 i (by omega)
    obtain ⟨hc1, hc2⟩ := hcd (s + i) (by omega)
    have next : ∀ J', (∀ q k, q ≠ 152 → J' q k = J q k) → (∀ x, x < topA cd s (i + 1) → J' 152 x = stA val cd s (i + 1) x) → ∀ l6 l7 : Int32, E scr false (d + 2) 175 147 [.ref 125, .int (nI r), .int (nI s), .int (nI e), .int (nI (topA cd s (i + 1))), .int (nI (s + i)), .int l6, .int l7] [] (wo f G J' c) K := by
      intro J' hfr hJ' l6 l7
      rw [b175_147, nI_1]
      apply ih (i + 1) (by omega) (by omega) J' (fun v h9 => by rw [hfr 151 v (by decide)]; exact hv v h9) hJ'
      intro J2 h2
      apply hK J2
      intro q k hqk
      rw [h2 q k hqk, hfr q k hqk]
    have et : topA cd s (i + 1) = tpS (cd (s + i)) (topA cd s i) := rfl
    have es : stA val cd s (i + 1) = stS val (cd (s + i)) (topA cd s i) (stA val cd s i) := rfl
    rw [et, es] at next
    rw [b175_6]
    have ix : 300 * nI r + nI (s + i) = nI (300 * r + (s + i)) := by
      rw [show (300 : Int32) = nI 300 from L2.2.2.2.2.2.2.2.2.2.2.2.2.2.2.1, pk_mul, nI_add]
    generalize topA cd s i = t at *
    generalize cd (s + i) = sg at *
    generalize stA val cd s i = S at *
    unfold okS at hok
    have so16 : soM sg < 16 := by
      by_cases h : 32 ≤ sg
      · simp [soM, h]
      · have : ∀ s, s < 32 → soM s < 16 := by decide
        exact this sg (by omega)
    simp (disch := omega) only [NC, show ¬ e ≤ s + i by omega, if_false, mO scr, ix, hc1, hc2]
    rcases hok with ⟨h1, h2, h3⟩ | ⟨h1, h2, h3, h4⟩ | ⟨h1, h2⟩
    · simp only [tpS, stS, h1, if_true] at next
      subst h1
      have e9 : soM 22 = 9 := by decide
      simp (disch := omega) only [e9, LI, NC, Nat.reduceEqDiff, if_true, if_false, mO scr, nI_s1]
      apply next
      · intro q k hqk; rw [upJ_q hqk]
      · intro x hx
        rw [upJ_a, hJ (t - 1) (by omega)]
        unfold upA
        split
        · rfl
        · exact hJ x hx
    · simp only [tpS, stS, show ¬ sg = 22 by omega, if_false, h1, h2, and_self, if_true] at next
      have n0 : ¬ soM sg = 0 ∧ ¬ soM sg = 1 ∧ ¬ soM sg = 9 := by
        have : ∀ s, s < 22 → 10 ≤ s → ¬ soM s = 0 ∧ ¬ soM s = 1 ∧ ¬ soM s = 9 := by decide
        exact this sg (by omega) h1
      simp (disch := omega) only [n0.1, n0.2.1, n0.2.2, LI, NC, if_false, mO scr, nI_m1, nI_s1, m174 h1 h2, Nat.sub_sub, Nat.reduceAdd]
      apply next
      · intro q k hqk; rw [upJ_q hqk]
      · intro x hx
        rw [upJ_a, hJ (t - 1) (by omega), hJ (t - 2) (by omega)]
        unfold upA
        split
        · rfl
        · exact hJ x (by omega)
    · have n22 : ¬ sg = 22 := by omega
      have nb : ¬ (10 ≤ sg ∧ sg ≤ 21) := by omega
      simp only [tpS, stS, n22, nb, if_false] at next
      have fin : ∀ v : Int64, v = (if 32 ≤ sg then Int32.toInt64 (nI (sg - 32)) else val sg) → ∀ l6 l7 : Int32, E scr false (d + 2) 175 77 [.ref 125, .int (nI r), .int (nI s), .int (nI e), .int (nI t), .int (nI (s + i)), .int l6, .int l7] [.long v, .int (nI t), .ref 152] (wo f G J c) K := by
        intro v hv2 l6 l7
        rw [b175_77]
        simp (disch := omega) only [mO scr, nI_1]
        apply next
        · intro q k hqk; rw [upJ_q hqk]
        · intro x hx
          rw [upJ_a, hv2]
          unfold upA
          split
          · rfl
          · exact hJ x (by omega)
      by_cases h32 : 32 ≤ sg
      · have e0 : soM sg = 0 := by simp [soM, h32]
        have e1 : nuM sg = sg - 32 := by simp [nuM, h32]
        simp (disch := omega) only [e0, e1, NC, if_true, b175_53, mO scr]
        exact fin _ (by rw [if_pos h32]) _ _
      · have s9 : sg < 9 := by omega
        have e0 : soM sg = 1 := by simp [soM, h32, s9]
        have e1 : nuM sg = sg := by simp [nuM, h32, s9]
        simp (disch := omega) only [e0, e1, NC, Nat.one_ne_zero, if_true, if_false, b175_53, mO scr, hv sg s9]
        exact fin _ (by rw [if_neg h32]) _ _
theorem m175 {val : Nat → Int64} {cd : Nat → Nat} {r s e : Nat} (hr : r < 6) (hse : s ≤ e) (he : e < 300) (hcd : ∀ k, k < e → G 144 (300 * r + k) = nI (soM (cd k)) ∧ G 145 (300 * r + k) = nI (nuM (cd k))) (hg : good cd s e) (hv : ∀ v, v < 9 → J 151 v = val v) {T : Int64 → aH → Prop} (hT : ∀ J', (∀ q k, q ≠ 152 → J' q k = J q k) → T (stA val cd s (e - s) 0) (wo f G J' c)) : vJ scr (d + 2) 175 [.ref 125, .int (nI r), .int (nI s), .int (nI e)] (wo f G J c) T := by
  unfold vJ
  rw [u175_ok, en175, b175_0]
  refine ⟨rfl, ?_⟩
  have := ans_loop (scr := scr) (f := f) (c := c) (d := d) hr hse he hcd hg (val := val) (K := fun r h => ∃ x, r = some (Value.long x) ∧ T x h) (e - s) 0 rfl (by omega) J hv (by intro x hx; simp [topA] at hx) (by intro J' hJ; exact ⟨_, rfl, hT J' hJ⟩) .null .null
  exact this
theorem bes_loop (hP : wfP P) (hms : MS G P) (hmd : MD G P D) (hl : wfL P (dPl D)) {h w : Nat} (hw : dPl D w = some h) {K : Option Value → aH → Prop} : ∀ n k, 8 - k = n → k ≤ 8 → ∀ l4 : Value, E scr false (d + 4) 176 4 [.ref 125, .int (nI w), .int (nI (sm (fun k => tf (bsA P (dPl D) h k)) k)), .int (nI k), l4] [] (wo f G J c) K = K (some (.int (nI (lkB P (dPl D) h w 14)))) (wo f G J c) := by
  obtain ⟨w14, h144, hth, wex⟩ := wfL_lt hP hl hw
  have ew := hmd.2.1 w wex
  rw [hw] at ew
  intro n
  induction n with
  | zero =>
    intro k hn hk l4
    have e : k = 8 := by omega
    subst e
    rw [b176_4, bs_lk hP hl hw]
    simp (disch := omega) only [LI, NC, Nat.le_refl, if_true]
  | succ n ih =>
    intro k hn hk l4
    rw [b176_4]
    simp (disch := omega) only [LI, NC, show ¬ 8 ≤ k by omega, if_false, mO scr, ew, oI_s, m132 hP hms h144 (show k < 8 by omega)]
    have es : sm (fun k => tf (bsA P (dPl D) h k)) (k + 1) = sm (fun k => tf (bsA P (dPl D) h k)) k + tf (bsA P (dPl D) h k) := rfl
    cases hb : beO P h k with
    | none =>
      simp only [oI_n, if_true]
      rw [b176_44, b176_45, nI_1, Int32.add_zero, ← ih (k + 1) (by omega) (by omega) (.int (-1)), es]
      simp [bsA, hb, tf]
    | some n' =>
      have hn' := th_lt hP (be_th hP hb)
      simp (disch := omega) only [oI_s, NC, if_false, m130 hP hms hmd hl hn']
      cases hwn : who (dPl D) n' with
      | none =>
        simp only [oI_n, if_true]
        rw [b176_44, b176_45, nI_1, Int32.add_zero, ← ih (k + 1) (by omega) (by omega) (.int (nI n')), es]
        simp [bsA, hb, hwn, tf]
      | some v =>
        have := (who_some hwn).1
        simp (disch := omega) only [oI_s, NC, if_false]
        rw [b176_45, nI_1, nI_1, ← ih (k + 1) (by omega) (by omega) (.int (nI n')), es]
        simp [bsA, hb, hwn, tf]
theorem m176 (hP : wfP P) (hms : MS G P) (hmd : MD G P D) (hl : wfL P (dPl D)) {h w : Nat} (hw : dPl D w = some h) {T : Int32 → aH → Prop} : vI scr (d + 4) 176 [.ref 125, .int (nI w)] (wo f G J c) T = T (nI (lkB P (dPl D) h w 14)) (wo f G J c) := by
  unfold vI
  rw [u176_ok, en176, b176_0]
  have := bes_loop (scr := scr) (f := f) (J := J) (c := c) (d := d) hP hms hmd hl hw (K := fun r h => ∃ x, r = some (Value.int x) ∧ T x h) 8 0 rfl (by omega) .null
  simp only [true_and]
  refine Eq.trans this ?_
  simp only [ex_i]
theorem insF_all {lt : Nat → Nat → Bool} {o : Nat} : ∀ k n F, k ≤ n → (∃ i, i ≤ n ∧ insF lt F o k i = o) ∧ ∀ i, i ≤ n → i ≠ k → ∃ i', i' ≤ n ∧ insF lt F o k i' = F i := by
  intro k
  induction k with
  | zero =>
    intro n F hk
    rw [insF_0]
    exact ⟨⟨0, by omega, by simp [upN]⟩, fun i hi hik => ⟨i, hi, by simp [upN, hik]⟩⟩
  | succ k ih =>
    intro n F hk
    rw [insF_1]
    split
    · obtain ⟨a, b⟩ := ih n (upN F (k + 1) (F k)) (by omega)
      refine ⟨a, ?_⟩
      intro i hi hik
      by_cases e : i = k
      · obtain ⟨i', q1, q2⟩ := b (k + 1) (by omega) (by omega)
        exact ⟨i', q1, by rw [q2, e]; simp [upN]⟩
      · obtain ⟨i', q1, q2⟩ := b i hi e
        exact ⟨i', q1, by rw [q2]; simp [upN, hik]⟩
    · exact ⟨⟨k + 1, by omega, by simp [upN]⟩, fun i hi hik => ⟨i, hi, by simp [upN, hik]⟩⟩
theorem lkF_all {pl : Nat → Option Nat} {h w : Nat} : ∀ m o, o < m → seeB P pl h w o = true → ∃ i, i < lkC P pl h w m ∧ lkF P pl h w m i = o := by
  intro m
  induction m with
  | zero => intro o ho; omega
  | succ m ih =>
    intro o ho hs
    by_cases e : o = m
    · subst e
      simp only [lkC, lkF, hs, if_true]
      obtain ⟨⟨i, a, b⟩, -⟩ := insF_all (lt := kyL P pl h) (o := o) (lkC P pl h w o) (lkC P pl h w o) (lkF P pl h w o) (Nat.le_refl _)
      exact ⟨i, by omega, b⟩
    · obtain ⟨i, a, b⟩ := ih o (by omega) hs
      cases hm : seeB P pl h w m with
      | false =>
        simp only [lkC, lkF, hm, Bool.false_eq_true, if_false, Nat.add_zero]
        exact ⟨i, a, b⟩
      | true =>
        simp only [lkC, lkF, hm, if_true]
        obtain ⟨-, q⟩ := insF_all (lt := kyL P pl h) (o := m) (lkC P pl h w m) (lkC P pl h w m) (lkF P pl h w m) (Nat.le_refl _)
        obtain ⟨i', q1, q2⟩ := q i (by omega) (by omega)
        exact ⟨i', by omega, by rw [q2, b]⟩
def elA (P : Pn) (pl : Nat → Option Nat) (h w k : Nat) : Bool := (List.range k).all (fun i => !(decide (lkF P pl h w 14 i < 12) && decide (pAg P w < pAg P (lkF P pl h w 14 i))))
theorem lkE_iff {pl : Nat → Option Nat} {h w m : Nat} : lkE P pl h w m = true ↔ ∀ o, o < m → seeB P pl h w o = true → 12 ≤ o ∨ pAg P o ≤ agW P w := by
  induction m with
  | zero => simp [lkE]
  | succ m ih =>
    simp only [lkE, Bool.and_eq_true, ih, Bool.or_eq_true, Bool.not_eq_true', decide_eq_true_eq]
    constructor
    · rintro ⟨a, b⟩ o ho hs
      by_cases e : o = m
      · subst e
        rcases b with b | b
        · rw [hs] at b; cases b
        · exact b
      · exact a o (by omega) hs
    · intro a
      refine ⟨fun o ho hs => a o (by omega) hs, ?_⟩
      cases hm : seeB P pl h w m with
      | false => exact Or.inl rfl
      | true => exact Or.inr (a m (by omega) hm)
theorem el_lk {pl : Nat → Option Nat} {h w : Nat} (hw : w < 12) : elA P pl h w (lkC P pl h w 14) = lkE P pl h w 14 := by
  rw [Bool.eq_iff_iff, lkE_iff]
  unfold elA
  rw [List.all_eq_true]
  have ea : agW P w = pAg P w := by simp [agW, hw]
  constructor
  · intro a o ho hs
    obtain ⟨i, q1, q2⟩ := lkF_all (P := P) (pl := pl) (h := h) (w := w) 14 o ho hs
    have := a i (List.mem_range.mpr q1)
    rw [q2] at this
    simp at this
    rw [ea]
    omega
  · intro a i hi
    obtain ⟨q1, q2⟩ := lkF_mem (P := P) (pl := pl) (h := h) (w := w) 14 i (List.mem_range.mp hi)
    have := a _ q1 q2
    rw [ea] at this
    simp
    omega
end M3
