variable {scr : List Int32}
-- ===== scenes: free, beside, lift, put =====
section W2
variable {f G f' G' : Nat → Nat → Int32} {J J' : Nat → Nat → Int64} {c : Value} {d p : Nat} {P : Pn} {D : Dy}
theorem sc_ln (hp : isSc p) : ln (p + 1) = 144 ∧ ln (p + 2) = 144 ∧ ln (p + 3) = 14 ∧ ln (p + 4) = 12 ∧ ln (p + 5) = 12 ∧ ln (p + 6) = 12 ∧ ln (p + 7) = 40 ∧ ln (p + 8) = 40 ∧ ln (p + 9) = 40 := by
  rcases hp with rfl | rfl | rfl | rfl | rfl | rfl | rfl | rfl <;> exact ⟨rfl, rfl, rfl, rfl, rfl, rfl, rfl, rfl, rfl⟩
theorem gB_nI {k : Nat} (h : k < 4) : gB (nI k) = gkB k := by
  have : ∀ k, k < 4 → gB (nI k) = gkB k := by decide +kernel
  exact this k h
theorem w57 (hp : isSc p) (hP : wfP P) (hs : RS f G p P) (hd : RD f G p D) {q : Nat} (hq : q < 144) {T : Int32 → aH → Prop} : vI scr (d + 1) 57 [.ref p, .int (nI (q % 12)), .int (nI (q / 12))] (wo f G J c) T = T (bz (frA P (dPl D) q)) (wo f G J c) := by
  obtain ⟨l1, l2, -⟩ := sc_ln hp
  unfold wo
  rw [sp57 hp (by simp [rwN_len, l1]) (by simp [rwN_len, l2])]
  congr 2
  unfold frB frA
  rw [hs.1.1, hs.1.2.1, cB_nI hP (by omega) (by omega), show (12 : Int32) = nI 12 from rfl, pk_mul, nI_add, show 12 * (q / 12) + q % 12 = q by omega]
  show (thB P q && _) = (thB P q && _)
  cases ht : thB P q with
  | false => rfl
  | true =>
    rw [lg_rw (by omega), lg_rw (by omega), hs.2.1 q ht, hd.2.2.1 q hq, gB_nI (hP.2.2.2.2.2.1 q)]
    congr 2
    cases hw : who (dPl D) q with
    | none => simp [oI, neg1_lt]
    | some w =>
      have := (who_some hw).1
      simp [oI, nI_pos (show w < 2 ^ 31 by omega)]
theorem w58 (hp : isSc p) (hP : wfP P) (hs : RS f G p P) {q w : Nat} (hq : q < 144) (hw : w < 8) {T : Int32 → aH → Prop} : vI scr (d + 1) 58 [.ref p, .int (nI q), .int (nI w)] (wo f G J c) T = T (oI (beO P q w)) (wo f G J c) := by
  unfold wo
  rw [sp58 hp, hs.1.1, hs.1.2.1, bes_nI hP hq hw]
def lfG (G : Nat → Nat → Int32) (p w : Nat) (o : Option Nat) : Nat → Nat → Int32 := match o with
  | none => G
  | some q => up2 (up2 G (p + 2) q (-1)) (p + 3) w (-1)
def ptG (G : Nat → Nat → Int32) (p w : Nat) (o : Option Nat) (r : Nat) : Nat → Nat → Int32 := up2 (up2 (lfG G p w o) (p + 3) w (nI r)) (p + 2) r (nI w)
theorem w59 (hp : isSc p) (hP : wfP P) (hd : RD f G p D) (hl : wfL P (dPl D)) {w : Nat} (hw : w < 14) {T : aH → Prop} : vV scr d 59 [.ref p, .int (nI w)] (wo f G J c) T = T (wo f (lfG G p w (dPl D w)) J c) := by
  unfold vV
  rw [u59_ok hp, en59, b59_0]
  have e := hd.2.2.2.1 w hw
  have nb : ¬ 14 ≤ w := by omega
  cases ho : dPl D w with
  | none =>
    rw [ho] at e
    simp (disch := omega) only [LI, NC, nb, if_false, sC scr hp, e, oI_n, if_true, ex_v, true_and, lfG]
  | some q =>
    rw [ho] at e
    obtain ⟨-, hq, -⟩ := wfL_lt hP hl ho
    have nq : ¬ 144 ≤ q := by omega
    have m1 : Int8.toInt32 (Int32.toInt8 (-1)) = -1 := by decide
    simp (disch := omega) only [LI, NC, nb, if_false, sC scr hp, e, oI_s, nq, ex_v, true_and, lfG, m1]
theorem w60 (hp : isSc p) (hP : wfP P) (hd : RD f G p D) (hl : wfL P (dPl D)) {w r : Nat} (hw : w < 14) (hr : r < 144) {T : aH → Prop} : vV scr (d + 1) 60 [.ref p, .int (nI w), .int (nI r)] (wo f G J c) T = T (wo f (ptG G p w (dPl D w) r) J c) := by
  unfold vV
  rw [u60_ok hp, en60, b60_0]
  have nb : ¬ 14 ≤ w := by omega
  have nr : ¬ 144 ≤ r := by omega
  simp (disch := omega) only [LI, NC, nb, nr, if_false, w59 hp hP hd hl hw, sC scr hp, ex_v, true_and, ptG, by8]
theorem w60n (hp : isSc p) {w : Nat} (hw : w < 14) {T : aH → Prop} : vV scr (d + 1) 60 [.ref p, .int (nI w), .int (-1)] (wo f G J c) T = T (wo f G J c) := by
  unfold vV
  rw [u60_ok hp, en60, b60_0]
  have nb : ¬ 14 ≤ w := by omega
  simp (disch := omega) only [LI, NC, nb, if_false, if_true, ex_v, true_and]
theorem RD_lift (hd : RD f G p D) (hi : inj (dPl D)) {w : Nat} (hw : w < 14) : RD f (lfG G p w (dPl D w)) p (plU (dPl D) w none, D.2) := by
  obtain ⟨h1, h2, h3, h4, h5⟩ := hd
  refine ⟨h1, h2, ?_, ?_, ?_⟩
  · intro q hq
    show _ = oI (who (plU (dPl D) w none) q)
    rw [who_lift hi]
    cases ho : dPl D w with
    | none => simp [lfG, h3 q hq]
    | some r =>
      simp only [lfG, up2_q (show p + 2 ≠ p + 3 by omega), up2_a, Option.some.injEq]
      by_cases e : q = r
      · simp [e, oI]
      · simp [e, Ne.symm e, h3 q hq]
  · intro v hv
    show _ = oI (plU (dPl D) w none v)
    unfold plU
    cases ho : dPl D w with
    | none =>
      by_cases e : v = w
      · subst e; simp only [lfG, h4 v hv, ho, if_true]
      · simp only [lfG, h4 v hv, e, if_false]
    | some r =>
      simp only [lfG, up2_a, up2_q (show p + 3 ≠ p + 2 by omega)]
      by_cases e : v = w
      · simp [e, oI]
      · simp only [e, if_false, h4 v hv]
  · intro v hv
    cases ho : dPl D w with
    | none => exact h5 v hv
    | some r =>
      simp only [lfG, up2_q (show p + 6 ≠ p + 3 by omega), up2_q (show p + 6 ≠ p + 2 by omega)]
      exact h5 v hv
theorem RD_put (hd : RD f G p D) (hi : inj (dPl D)) {w r : Nat} (hw : w < 14) (hr : ∀ v, v ≠ w → dPl D v ≠ some r) : RD f (ptG G p w (dPl D w) r) p (plU (dPl D) w (some r), D.2) := by
  obtain ⟨h1, h2, h3, h4, h5⟩ := RD_lift hd hi hw
  refine ⟨h1, h2, ?_, ?_, ?_⟩
  · intro q hq
    have := h3 q hq
    have e2 : oI (who (plU (dPl D) w (some r)) q) = if q = r then nI w else oI (who (plU (dPl D) w none) q) := by
      rw [who_put hi hw hr, ← who_lift hi]
      split <;> rfl
    show _ = oI (who (plU (dPl D) w (some r)) q)
    rw [e2]
    unfold ptG
    simp only [up2_a, up2_q (show p + 2 ≠ p + 3 by omega), this]
    rfl
  · intro v hv
    have := h4 v hv
    show _ = oI (plU (dPl D) w (some r) v)
    unfold ptG
    simp only [up2_a, up2_q (show p + 3 ≠ p + 2 by omega), this]
    show _ = oI (if v = w then some r else dPl D v)
    by_cases e : v = w
    · simp [e, oI]
    · simp [e, plU, dPl]
  · intro v hv
    unfold ptG
    simp only [up2_q (show p + 6 ≠ p + 2 by omega), up2_q (show p + 6 ≠ p + 3 by omega)]
    exact h5 v hv
theorem lf_fr {w : Nat} {o : Option Nat} : ∀ q k, q ≠ p + 2 → q ≠ p + 3 → lfG G p w o q k = G q k := by
  intro q k h1 h2
  cases o with
  | none => rfl
  | some r => simp [lfG, up2_q h1, up2_q h2]
theorem pt_fr {w r : Nat} {o : Option Nat} : ∀ q k, q ≠ p + 2 → q ≠ p + 3 → ptG G p w o r q k = G q k := by
  intro q k h1 h2
  unfold ptG
  rw [up2_q h1, up2_q h2, lf_fr q k h1 h2]
end W2
-- ===== insert =====
section W3
def upN (F : Nat → Nat) (k v : Nat) : Nat → Nat := fun i => if i = k then v else F i
def insF (lt : Nat → Nat → Bool) (F : Nat → Nat) (o : Nat) : Nat → Nat → Nat
  | 0 => upN F 0 o
  | k + 1 => if lt o (F k) = true then insF lt (upN F (k + 1) (F k)) o k else upN F (k + 1) o
theorem insF_0 {lt : Nat → Nat → Bool} {F : Nat → Nat} {o : Nat} : insF lt F o 0 = upN F 0 o := by rw [insF]
theorem insF_1 {lt : Nat → Nat → Bool} {F : Nat → Nat} {o k : Nat} : insF lt F o (k + 1) = if lt o (F k) = true then insF lt (upN F (k + 1) (F k)) o k else upN F (k + 1) o := by rw [insF]
variable {f G f' G' : Nat → Nat → Int32} {J J' : Nat → Nat → Int64} {c : Value} {d p : Nat} {P : Pn} {D : Dy}
theorem ins_loop {kf : Nat → Nat} (hkf : ∀ x, kf x < 2 ^ 31) {o n : Nat} (hn : n ≤ 13) {K : Option Value → aH → Prop} : ∀ k G F, k ≤ n → (∀ i, i ≤ n → i ≠ k → G 57 i = nI (kf (F i))) → (∀ G', (∀ i, i ≤ n → G' 57 i = nI (kf (insF (fun a b => decide (kf a < kf b)) F o k i))) → (∀ q i, q ≠ 57 → G' q i = G q i) → K none (wo (up2 f 55 3 (f 55 3 + 1)) G' J c)) → E scr false d 82 10 [.ref 55, .int (nI (kf o)), .int (nI k)] [] (wo f G J c) K := by
  have fin : ∀ k G F, k ≤ n → (∀ i, i ≤ n → i ≠ k → G 57 i = nI (kf (F i))) → (∀ G', (∀ i, i ≤ n → G' 57 i = nI (kf (upN F k o i))) → (∀ q i, q ≠ 57 → G' q i = G q i) → K none (wo (up2 f 55 3 (f 55 3 + 1)) G' J c)) → E scr false d 82 46 [.ref 55, .int (nI (kf o)), .int (nI k)] [] (wo f G J c) K := by
    intro k G F hk hF hK
    rw [b82_46]
    simp (disch := omega) only [wK scr]
    apply hK
    · intro i hi
      rw [up2_a]
      unfold upN
      by_cases e : i = k
      · simp [e]
      · simp [e, hF i hi e]
    · intro q i hq
      rw [up2_q hq]
  intro k
  induction k with
  | zero =>
    intro G F hk hF hK
    rw [b82_10, show nI 0 = 0 from rfl]
    simp only [Int32.le_refl, if_true]
    rw [insF_0] at hK
    exact fin 0 G F hk hF hK
  | succ k ih =>
    intro G F hk hF hK
    rw [b82_10]
    have e := hF k (by omega) (by omega)
    have h1 := hkf o
    have h2 := hkf (F k)
    simp (disch := omega) only [NC, Nat.add_one_ne_zero, if_false, wK scr, nI_s1, Nat.add_sub_cancel, e, nI_m1]
    rw [insF_1] at hK
    by_cases hlt : kf o < kf (F k)
    · simp only [show ¬ kf (F k) ≤ kf o by omega, if_false]
      simp only [hlt, decide_true, if_true] at hK
      apply ih (up2 G 57 (k + 1) (nI (kf (F k)))) (upN F (k + 1) (F k)) (by omega)
      · intro i hi hik
        rw [up2_a]
        unfold upN
        by_cases e2 : i = k + 1
        · simp [e2]
        · simp [e2, hF i hi e2]
      · intro G' hG hfr
        apply hK G' hG
        intro q i hq
        rw [hfr q i hq, up2_q hq]
    · simp only [show kf (F k) ≤ kf o by omega, if_true]
      simp only [hlt, decide_false, Bool.false_eq_true, if_false] at hK
      exact fin (k + 1) G F hk hF hK
theorem w82 {kf : Nat → Nat} (hkf : ∀ x, kf x < 2 ^ 31) {o n : Nat} (hn : n ≤ 13) {F : Nat → Nat} (h3 : f 55 3 = nI n) (hF : ∀ i, i < n → G 57 i = nI (kf (F i))) {T : aH → Prop} (hT : ∀ G', (∀ i, i < n + 1 → G' 57 i = nI (kf (insF (fun a b => decide (kf a < kf b)) F o n i))) → (∀ q i, q ≠ 57 → G' q i = G q i) → T (wo (up2 f 55 3 (nI (n + 1))) G' J c)) : vV scr (d + 1) 82 [.ref 55, .int (nI (kf o))] (wo f G J c) T := by
  unfold vV
  rw [u82_ok, en82, b82_0]
  have em : (if (13 : Int32) < nI n then (13 : Int32) else nI n) = nI n := by
    rw [if_neg]
    simp (disch := omega) only [L2, NC]
    omega
  simp only [wK scr, h3, sp226, em, true_and]
  apply ins_loop hkf hn n G F (by omega)
  · intro i h1 h2
    exact hF i (by omega)
  · intro G' hG hfr
    rw [h3, nI_1]
    exact ⟨rfl, hT G' (fun i hi => hG i (by omega)) hfr⟩
end W3
