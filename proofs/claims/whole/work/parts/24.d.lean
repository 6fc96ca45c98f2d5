variable {scr : List Int32}
-- ===== the model: whom one follows =====
section M4
variable {f G f' G' : Nat → Nat → Int32} {J J' : Nat → Nat → Int64} {c : Value} {d : Nat} {P : Pn} {D : Dy} {B : Nat → Nat} {L : Lw}
def LRm (G : Nat → Nat → Int32) (r : Nat) (L : Lw) : Prop := G 146 r = nI (lwN L) ∧ (∀ i, i < lwN L → G 147 (12 * r + i) = nI (lwP L i) ∧ G 148 (12 * r + i) = nI (lwS L i) ∧ G 149 (12 * r + i) = nI (lwE L i)) ∧ (∀ i, i < lwN L → ∀ k, k < lwE L i → G 144 (300 * r + k) = nI (soM (lwC L k)) ∧ G 145 (300 * r + k) = nI (nuM (lwC L k)))
theorem LRm_cg {r : Nat} (h : ∀ q k, q = 144 ∨ q = 145 ∨ q = 146 ∨ q = 147 ∨ q = 148 ∨ q = 149 → G' q k = G q k) (hL : LRm G r L) : LRm G' r L := by
  unfold LRm at hL ⊢
  simp only [h 144 _ (by omega), h 145 _ (by omega), h 146 _ (by omega), h 147 _ (by omega), h 148 _ (by omega), h 149 _ (by omega)]
  exact hL
theorem lws_lt (hL : wfLw L) {i : Nat} (hi : i < lwN L) : lwS L i < 300 ∧ lwE L i < 300 ∧ lwP L i ≤ 9 := by
  obtain ⟨a, b⟩ := hL.2.2.1 i hi
  exact ⟨by omega, b, hL.2.1 i hi⟩
theorem i64_1 : (1 : Int64) = Int32.toInt64 1 := by decide
theorem btw1 {a b : Nat} (ha : a < 2 ^ 31) (hb : b < 2 ^ 31) : btw (nI a) 1 (nI b) = (decide (1 ≤ a) && decide (a ≤ b)) := by
  unfold btw
  rw [Bool.eq_iff_iff]
  have h1 := nI_ltI (a := a) (b := 1) ha (by decide)
  have h2 := nI_ltI (a := b) (b := a) hb ha
  rw [show (1 : Int32) = nI 1 from rfl]
  simp only [h1, h2]
  simp
  omega
theorem fb_cl (hL : wfLw L) {r : Nat} (hr : r < 6) (hLR : LRm G r L) {pl : Nat → Option Nat} {h w : Nat} {val : Nat → Int64} (hk : LKm f G P pl h w 14) {K : Option Value → aH → Prop} : ∀ m i, lwN L - i = m → i ≤ lwN L → ∀ J, (∀ s, s < 9 → J 151 s = val s) → (∀ J', (∀ q k, q ≠ 152 → J' q k = J q k) → K (some (.int (oI (siA P pl h w (chR val L m i))))) (wo f G J' c)) → E scr false (d + 3) 177 222 [.ref 125, .int (nI r), .int (nI w), .int (nI (12 * r + i))] [] (wo f G J c) K := by
  obtain ⟨r1, r2, r3⟩ := hLR
  obtain ⟨k1, k4⟩ := hk
  have n12 := hL.1
  have hc := lkC_le (P := P) (pl := pl) (h := h) (w := w) (m := 14)
  have e12 : ∀ x, 12 * nI r + nI x = nI (12 * r + x) := by
    intro x
    rw [show (12 : Int32) = nI 12 from rfl, pk_mul, nI_add]
  intro m
  induction m with
  | zero =>
    intro i hm hi J hv hK
    have e : i = lwN L := by omega
    subst e
    rw [b177_222]
    simp (disch := omega) only [mO scr, r1, e12, NC, Nat.le_refl, if_true]
    have := hK J (fun _ _ _ => rfl)
    simpa [chR, siA, oI] using this
  | succ m ih =>
    intro i hm hi J hv hK
    have hi' : i < lwN L := by omega
    obtain ⟨a1, a2, a3⟩ := r2 i hi'
    obtain ⟨b1, b2, b3⟩ := lws_lt hL hi'
    rw [b177_222]
    simp (disch := omega) only [mO scr, r1, e12, NC, show ¬ 12 * r + lwN L ≤ 12 * r + i by omega, if_false, a2, a3]
    have hit : ∀ J', (∀ q k, q ≠ 152 → J' q k = J q k) → (lwS L i = lwE L i ∨ ¬ reA val L i = 0) → E scr false (d + 3) 177 274 [.ref 125, .int (nI r), .int (nI w), .int (nI (12 * r + i))] [] (wo f G J' c) K := by
      intro J' hJ' hcn
      rw [b177_274]
      have := hK J' hJ'
      simp only [chR, if_pos hcn] at this
      unfold siA at this
      rw [i64_1]
      simp (disch := omega) only [mO scr, a1, k1, sp121, btw1]
      by_cases hc2 : 1 ≤ lwP L i ∧ lwP L i ≤ lkC P pl h w 14
      · rw [if_pos hc2] at this
        have e := k4 (lwP L i - 1) (by omega)
        simp (disch := omega) only [decide_eq_true hc2.1, decide_eq_true hc2.2, Bool.and_self, bz_t, show ¬ ((1 : Int32) = 0) by decide, if_false, nI_s1, mO scr, e]
        exact this
      · rw [if_neg hc2] at this
        have : (decide (1 ≤ lwP L i) && decide (lwP L i ≤ lkC P pl h w 14)) = false := by
          cases e : (decide (1 ≤ lwP L i) && decide (lwP L i ≤ lkC P pl h w 14)) with
          | false => rfl
          | true => simp at e; exact absurd e hc2
        simp only [this, bz_f, if_true]
        assumption
    by_cases hse : lwS L i = lwE L i
    · rw [if_pos hse]
      exact hit J (fun _ _ _ => rfl) (Or.inl hse)
    · rw [if_neg hse]
      have hg := (hL.2.2.2 i hi').resolve_left hse
      apply m175 (val := val) (cd := lwC L) hr (hL.2.2.1 i hi').1 b2 (r3 i hi') hg hv
      intro J' hJ'
      show if lg_cmp (reA val L i) 1 = 0 then _ else _
      simp only [cmp_eq]
      have h01 : reA val L i = 0 ∨ reA val L i = 1 := hg.2.2 val
      by_cases h0 : reA val L i = 0
      · rw [if_neg (by rw [h0]; decide), nI_1]
        apply ih (i + 1) (by omega) (by omega) J' (fun s hs => by rw [hJ' 151 s (by decide)]; exact hv s hs)
        intro J2 h2
        have := hK J2 (fun q k hq => (h2 q k hq).trans (hJ' q k hq))
        simpa only [chR, hse, h0, not_true, or_false, if_false] using this
      · rw [if_pos (h01.resolve_left h0)]
        exact hit J' hJ' (Or.inr h0)
theorem fb_eld (hms : MS G P) {r : Nat} (hP : wfP P) {pl : Nat → Option Nat} (hl : wfL P pl) {h w : Nat} (hwp : w < pPe P) {val : Nat → Int64} (hv8 : val 8 = if lkE P pl h w 14 = true then 1 else 0) (hk : LKm f G P pl h w 14) {K : Option Value → aH → Prop} : ∀ n k, lkC P pl h w 14 - k = n → k ≤ lkC P pl h w 14 → ∀ J, (∀ s, s < 8 → J 151 s = val s) → J 151 8 = (if elA P pl h w k = true then 1 else 0) → (∀ J', (∀ s, s < 9 → J' 151 s = val s) → (∀ q k, q ≠ 151 → J' q k = J q k) → E scr false d 177 222 [.ref 125, .int (nI r), .int (nI w), .int (12 * nI r)] [] (wo f G J' c) K) → E scr false d 177 154 [.ref 125, .int (nI r), .int (nI w), .int (nI k)] [] (wo f G J c) K := by
  obtain ⟨k1, k4⟩ := hk
  have p12 := hP.2.2.2.1
  have hc := lkC_le (P := P) (pl := pl) (h := h) (w := w) (m := 14)
  intro n
  induction n with
  | zero =>
    intro k hn hk J hv hJ hK
    have e : k = lkC P pl h w 14 := by omega
    subst e
    rw [b177_154]
    simp (disch := omega) only [mO scr, k1, NC, Nat.le_refl, if_true]
    apply hK J _ (fun _ _ _ => rfl)
    intro s hs
    by_cases e8 : s = 8
    · rw [e8, hJ, el_lk (by omega), hv8]
    · exact hv s (by omega)
  | succ n ih =>
    intro k hn hk J hv hJ hK
    have e := k4 k (by omega)
    obtain ⟨m14, msee⟩ := lkF_mem (P := P) (pl := pl) (h := h) (w := w) 14 k (by omega)
    obtain ⟨-, t, ht, -⟩ := see_pl msee
    obtain ⟨-, -, -, mex⟩ := wfL_lt hP hl ht
    have es : elA P pl h w (k + 1) = (elA P pl h w k && !(decide (lkF P pl h w 14 k < 12) && decide (pAg P w < pAg P (lkF P pl h w 14 k)))) := by
      unfold elA
      rw [List.range_succ, List.all_append]
      simp
    have next : ∀ b : Bool, b = elA P pl h w (k + 1) → E scr false d 177 210 [.ref 125, .int (nI r), .int (nI w), .int (nI k)] [.long (if b = true then 1 else 0), .int (nI 8), .ref 151] (wo f G J c) K := by
      intro b hb
      rw [b177_210]
      simp (disch := omega) only [mO scr, nI_1]
      apply ih (k + 1) (by omega) (by omega)
      · intro s hs
        rw [upJ_a, if_neg (by omega)]
        exact hv s hs
      · rw [upJ_s, hb]
      · intro J' h1 h2
        apply hK J' h1
        intro q k hq
        rw [h2 q k hq, upJ_q hq]
    rw [b177_154]
    simp (disch := omega) only [mO scr, k1, NC, LI, show ¬ lkC P pl h w 14 ≤ k by omega, if_false, e]
    by_cases h12 : 12 ≤ lkF P pl h w 14 k
    · simp only [h12, if_true]
      rw [b177_203]
      simp (disch := omega) only [LI, mO scr, hJ]
      apply next
      rw [es]
      simp [show ¬ lkF P pl h w 14 k < 12 by omega]
    · have fpe : lkF P pl h w 14 k < pPe P := by
        unfold exB at mex
        simp only [Bool.or_eq_true, Bool.and_eq_true, decide_eq_true_eq] at mex
        omega
      have g1 := hP.2.2.2.2.2.2.1 (lkF P pl h w 14 k)
      have g2 := hP.2.2.2.2.2.2.1 w
      simp (disch := omega) only [h12, if_false, mO scr, hms.2.2.1 _ fpe, hms.2.2.1 w hwp, NC]
      by_cases hag : pAg P (lkF P pl h w 14 k) ≤ pAg P w
      · simp only [hag, if_true]
        rw [b177_203]
        simp (disch := omega) only [LI, mO scr, hJ]
        apply next
        rw [es]
        simp [show ¬ pAg P w < pAg P (lkF P pl h w 14 k) by omega]
      · simp only [hag, if_false]
        apply next false
        rw [es]
        simp [show lkF P pl h w 14 k < 12 by omega, show pAg P w < pAg P (lkF P pl h w 14 k) by omega]
theorem m177 (hP : wfP P) (hL : wfLw L) {r : Nat} (hr : r < 6) (hl : wfL P (dPl D)) (hms : MS G P) (hmd : MD G P D) (hLR : LRm G r L) (hB : ∀ q, q < 144 → G 140 q = nI (B q)) {h w : Nat} (hw : dPl D w = some h) (hwp : w < pPe P) {T : Int32 → aH → Prop} (hT : ∀ f' G' J', (∀ o k, ¬ (o = 125 ∧ k = 18) → f' o k = f o k) → (∀ q k, q ≠ 142 → G' q k = G q k) → (∀ q k, q ≠ 151 → q ≠ 152 → J' q k = J q k) → T (oI (folA P B L (dPl D) h w)) (wo f' G' J' c)) : vI scr (d + 5) 177 [.ref 125, .int (nI r), .int (nI w)] (wo f G J c) T := by
  obtain ⟨w14, h144, hth, wex⟩ := wfL_lt hP hl hw
  have p12 := hP.2.2.2.1
  unfold vI
  rw [u177_ok, en177, b177_0]
  refine ⟨rfl, ?_⟩
  apply m137 hP hl hms hmd hw
  intro f1 G1 hk hf1 hG1
  have hms1 := MS_142 hG1 hms
  have hmd1 := MD_142 hG1 hmd
  have hLR1 : LRm G1 r L := LRm_cg (fun q k hq => hG1 q k (by omega)) hLR
  have ew := hmd1.2.1 w wex
  rw [hw] at ew
  have hc := lkC_le (P := P) (pl := dPl D) (h := h) (w := w) (m := 14)
  have tail : ∀ J5 : Nat → Nat → Int64, (∀ s, s < 5 → J5 151 s = vaA P B (dPl D) h w s) → (∀ q k, q ≠ 151 → J5 q k = J q k) → ∀ s0 : Int64, s0 = vaA P B (dPl D) h w 5 → E scr false (d + 4 + 1) 177 111 [.ref 125, .int (nI r), .int (nI w), .null] [.long s0, .int (nI 5), .ref 151] (wo f1 G1 J5 c) (fun r h => ∃ x, r = some (Value.int x) ∧ T x h) := by
    intro J5 h5 hfr5 s0 hs0
    rw [b177_111]
    simp (disch := omega) only [mO scr, LI, L2, ew, oI_s, hG1 140 _ (by decide), hB]
    rw [m176 hP hms1 hmd1 hl hw]
    simp (disch := omega) only [mO scr]
    rw [show (0 : Int32) = nI 0 from rfl]
    apply fb_eld hms1 hP hl hwp (val := vaA P B (dPl D) h w) _ hk (lkC P (dPl D) h w 14) 0 rfl (by omega)
    · intro s hs
      rw [upJ_a, if_neg (by omega), upJ_a]
      by_cases e7 : s = 7
      · subst e7; rfl
      · rw [if_neg e7, upJ_a]
        by_cases e6 : s = 6
        · subst e6; rfl
        · rw [if_neg e6, upJ_a]
          by_cases e5 : s = 5
          · subst e5; exact hs0
          · rw [if_neg e5]
            exact h5 s (by omega)
    · rw [upJ_s]; rfl
    · intro J' h1 h2
      rw [show (12 : Int32) * nI r = nI (12 * r + 0) by rw [show (12 : Int32) = nI 12 from rfl, pk_mul]; rfl]
      apply fb_cl (P := P) (pl := dPl D) (h := h) hL hr hLR1 hk (lwN L) 0 rfl (by omega) J' h1
      intro J2 h3
      refine ⟨_, rfl, hT f1 G1 J2 hf1 hG1 ?_⟩
      intro q k q1 q2
      rw [h3 q k q2, h2 q k q1, upJ_q q1, upJ_q q1, upJ_q q1, upJ_q q1, hfr5 q k q1]
    · unfold vaA vaN
      cases lkE P (dPl D) h w 14 <;> simp <;> rfl
  have ag := hms1.2.2.1 w hwp
  have so := hms1.2.2.2 w hwp
  simp (disch := omega) only [mO scr, z151, ew, oI_s, irm12, div12, ag, so, hk.1]
  simp (disch := omega) only [mO scr, LI, L2, ew, oI_s, ag, so, hk.1, NC]
  have facts : ∀ s, s < 5 → upJ (upJ (upJ (upJ (upJ J 151 0 (Int32.toInt64 (nI (h % 12)))) 151 1 (Int32.toInt64 (nI (h / 12)))) 151 2 (Int32.toInt64 (nI (pAg P w)))) 151 3 (Int32.toInt64 (nI (pSo P w)))) 151 4 (Int32.toInt64 (nI (lkC P (dPl D) h w 14))) 151 s = vaA P B (dPl D) h w s := by
    intro s hs
    have : s = 0 ∨ s = 1 ∨ s = 2 ∨ s = 3 ∨ s = 4 := by omega
    rcases this with rfl | rfl | rfl | rfl | rfl <;> simp [upJ, vaA, vaN]
  have frm : ∀ q k, q ≠ 151 → upJ (upJ (upJ (upJ (upJ J 151 0 (Int32.toInt64 (nI (h % 12)))) 151 1 (Int32.toInt64 (nI (h / 12)))) 151 2 (Int32.toInt64 (nI (pAg P w)))) 151 3 (Int32.toInt64 (nI (pSo P w)))) 151 4 (Int32.toInt64 (nI (lkC P (dPl D) h w 14))) q k = J q k := by
    intro q k hq
    rw [upJ_q hq, upJ_q hq, upJ_q hq, upJ_q hq, upJ_q hq]
  by_cases h0 : lkC P (dPl D) h w 14 = 0
  · rw [if_pos h0]
    apply tail _ facts frm
    unfold vaA vaN neA
    simp [h0]
    rfl
  · rw [if_neg h0]
    obtain ⟨m14, msee⟩ := lkF_mem (P := P) (pl := dPl D) (h := h) (w := w) 14 0 (by omega)
    obtain ⟨-, t, ht, -⟩ := see_pl msee
    obtain ⟨-, t144, -, mex⟩ := wfL_lt hP hl ht
    have em := hmd1.2.1 _ mex
    rw [ht] at em
    simp (disch := omega) only [z142, hk.2 0 (by omega), mO scr, em, oI_s, sp133, apt_nI]
    apply tail _ facts frm
    unfold vaA vaN neA
    simp [h0, plG, ht]
end M4
