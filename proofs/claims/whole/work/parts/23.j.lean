variable {scr : List Int32}
-- ===== choosing, going, leaving =====
section W6
variable {f G f' G' : Nat → Nat → Int32} {J J' : Nat → Nat → Int64} {c : Value} {d p q : Nat} {P : Pn} {D : Dy}
theorem w85 (hp : isSc p) (hq : isLw q) (hP : wfP P) (hl : wfL P (dPl D)) (hs : RS f G p P) (hd : RD f G p D) {B : Nat → Nat} (hB : ∀ q, q < 144 → G 51 q = nI (B q)) {h w : Nat} (hw : dPl D w = some h) (hwp : w < pPe P) (hk : LK f G P (dPl D) h w 14)
  {cd : Nat → Nat} {s e : Nat} (hse : s ≤ e) (he : e < 300) (hcd : ∀ k, k < e → G (q + 3) k = nI (cd k)) (hg : good cd s e) {T : Int32 → aH → Prop} (hT : ∀ J', (∀ q k, q ≠ 56 → J' q k = J q k) → T (bz (!decide (stA (vaA P B (dPl D) h w) cd s (e - s) 0 = 0))) (wo f G J' c)) : vI scr (d + 1) 85 [.ref 55, .ref p, .ref (q + 3), .int (nI s), .int (nI e), .int (nI w)] (wo f G J c) T := by
  unfold vI
  rw [u85_ok, en85, b85_0]
  have e0 : (if nI s < 0 then (0 : Int32) else nI s) = nI s := by rw [if_neg (nI_pos (by omega))]
  simp only [sp225, e0, true_and]
  have := holds_loop (scr := scr) (c := c) (d := d) hp hq hP hl hs hd hB hw hwp hk hse he hcd hg (l3 := nI s) (K := fun r h => ∃ x, r = some (Value.int x) ∧ T x h) (e - s) 0 rfl (by omega) J (by intro x hx; simp [topA] at hx) (by intro J' hJ; exact ⟨_, rfl, hT J' hJ⟩) .null
  exact this
theorem cho_loop (hp : isSc p) (hq : isLw q) (hP : wfP P) (hl : wfL P (dPl D)) (hs : RS f G p P) (hd : RD f G p D) {B : Nat → Nat} (hB : ∀ q, q < 144 → G 51 q = nI (B q)) {h w : Nat} (hw : dPl D w = some h) (hwp : w < pPe P) (hk : LK f G P (dPl D) h w 14)
  {L : Lw} (hL : wfLw L) (hLR : LRl f G q L) {K : Option Value → aH → Prop} : ∀ m i, lwN L - i = m → i ≤ lwN L → ∀ J, (∀ J', (∀ q k, q ≠ 56 → J' q k = J q k) → K (some (.int (oI (siA P (dPl D) h w (chR (vaA P B (dPl D) h w) L m i))))) (wo f G J' c)) → ∀ l6 : Value, E scr false (d + 2) 84 6 [.ref 55, .ref p, .ref q, .int (nI w), .int (nI (lwS L i)), .int (nI i), l6] [] (wo f G J c) K := by
  obtain ⟨L1, L2', L3, L4⟩ := hL
  obtain ⟨r1, r2, r3, r4⟩ := hLR
  have hh : h < 144 := (wfL_lt hP hl hw).2.1
  intro m
  induction m with
  | zero =>
    intro i hm hi J hK l6
    have e : i = lwN L := by omega
    rw [b84_6]
    simp (disch := omega) only [lW scr hq, r1, NC, e, Nat.le_refl, if_true]
    have := hK J (fun _ _ _ => rfl)
    simpa [chR, siA, oI] using this
  | succ m ih =>
    intro i hm hi J hK l6
    have hi' : i < lwN L := by omega
    obtain ⟨a1, a2⟩ := L3 i hi'
    have p9 := L2' i hi'
    rw [b84_6]
    simp (disch := omega) only [lW scr hq, r1, LI, NC, show ¬ lwN L ≤ i by omega, show ¬ 12 ≤ i by omega, if_false, r3 i hi']
    have hit : ∀ J', (∀ q k, q ≠ 56 → J' q k = J q k) → (lwS L i = lwE L i ∨ ¬ reA (vaA P B (dPl D) h w) L i = 0) → E scr false (d + 2) 84 55 [.ref 55, .ref p, .ref q, .int (nI w), .int (nI (lwS L i)), .int (nI i), .int (nI (lwE L i))] [] (wo f G J' c) K := by
      intro J' hJ' hc
      rw [b84_55]
      simp (disch := omega) only [lW scr hq, r2 i hi']
      rw [w83 hP hl hh hk (by omega)]
      have := hK J' hJ'
      simpa only [chR, if_pos hc] using this
    by_cases hse : lwS L i = lwE L i
    · rw [if_pos hse]
      exact hit J (fun _ _ _ => rfl) (Or.inl hse)
    · rw [if_neg hse]
      have hg := (L4 i hi').resolve_left hse
      apply w85 hp hq hP hl hs hd hB hw hwp hk a1 a2 (r4 i hi') hg
      intro J' hJ'
      show if bz (!decide (reA (vaA P B (dPl D) h w) L i = 0)) = 0 then _ else _
      by_cases h0 : reA (vaA P B (dPl D) h w) L i = 0
      · rw [if_pos (by simp [h0, bz])]
        rw [nI_1, show lwE L i = lwS L (i + 1) by simp [lwS]]
        apply ih (i + 1) (by omega) (by omega)
        intro J2 h2
        have := hK J2 (fun q k hq => (h2 q k hq).trans (hJ' q k hq))
        simpa only [chR, hse, h0, not_true, or_false, if_false] using this
      · rw [if_neg (by simp [h0, bz])]
        exact hit J' hJ' (Or.inr h0)
theorem w84 (hp : isSc p) (hq : isLw q) (hP : wfP P) (hl : wfL P (dPl D)) (hs : RS f G p P) (hd : RD f G p D) {B : Nat → Nat} (hB : ∀ q, q < 144 → G 51 q = nI (B q)) {h w : Nat} (hw : dPl D w = some h) (hwp : w < pPe P) (hk : LK f G P (dPl D) h w 14)
  {L : Lw} (hL : wfLw L) (hLR : LRl f G q L) {T : Int32 → aH → Prop} (hT : ∀ J', (∀ q k, q ≠ 56 → J' q k = J q k) → T (oI (folA P B L (dPl D) h w)) (wo f G J' c)) : vI scr (d + 2) 84 [.ref 55, .ref p, .ref q, .int (nI w)] (wo f G J c) T := by
  unfold vI
  rw [u84_ok, en84, b84_0]
  refine ⟨rfl, ?_⟩
  have := cho_loop (scr := scr) (c := c) (d := d) hp hq hP hl hs hd hB hw hwp hk hL hLR (K := fun r h => ∃ x, r = some (Value.int x) ∧ T x h) (lwN L) 0 rfl (by omega) J (by intro J' hJ; exact ⟨_, rfl, hT J' hJ⟩) .null
  exact this
/-- the cell to go to, and its distance, of the first ways -/
def apA (P : Pn) (pl : Nat → Option Nat) (h t : Nat) : Nat → Option Nat × Nat
  | 0 => (none, dsN h t)
  | k + 1 => match beO P h k with
    | none => apA P pl h t k
    | some n => if dsN n t < (apA P pl h t k).2 ∧ frA P pl n = true then (some n, dsN n t) else apA P pl h t k
theorem apA_mem {pl : Nat → Option Nat} {h t : Nat} : ∀ k n, (apA P pl h t k).1 = some n → frA P pl n = true := by
  intro k
  induction k with
  | zero => intro n hn; simp [apA] at hn
  | succ k ih =>
    intro n hn
    simp only [apA] at hn
    split at hn
    · exact ih n hn
    · split at hn
      · rename_i hc
        simp only [Option.some.injEq] at hn
        rw [← hn]; exact hc.2
      · exact ih n hn
theorem apA_lt {pl : Nat → Option Nat} {h t : Nat} (hP : wfP P) (hh : h < 144) (ht : t < 144) : ∀ k, (apA P pl h t k).2 ≤ 242 := by
  intro k
  induction k with
  | zero => exact ds_lt hh ht
  | succ k ih =>
    simp only [apA]
    split
    · exact ih
    · rename_i n hn
      split
      · exact ds_lt (th_lt hP (be_th hP hn)) ht
      · exact ih
theorem frA_th {pl : Nat → Option Nat} {n : Nat} (h : frA P pl n = true) : thB P n = true ∧ gkB (pKd P n) = true ∧ who pl n = none := by
  unfold frA at h
  simpa using h
def mvG (G : Nat → Nat → Int32) (p w : Nat) (o b : Option Nat) : Nat → Nat → Int32 := match b with
  | none => G
  | some n => ptG G p w o n
theorem apr_loop (hp : isSc p) (hP : wfP P) (hl : wfL P (dPl D)) (hs : RS f G p P) (hd : RD f G p D) {h w t : Nat} (hw : w < 14) (hh : h < 144) (ht : t < 144) {l2 : Int32} {K : Option Value → aH → Prop} : ∀ r k, 8 - k = r → k ≤ 8 → ∀ l8 : Value, E scr false (d + 2) 88 41 [.ref p, .int (nI w), .int l2, .int (nI h), .int (nI t), .int (oI (apA P (dPl D) h t k).1), .int (nI (apA P (dPl D) h t k).2), .int (nI k), l8] [] (wo f G J c) K = K (some (.int (bz (apA P (dPl D) h t 8).1.isSome))) (wo f (mvG G p w (dPl D w) (apA P (dPl D) h t 8).1) J c) := by
  intro r
  induction r with
  | zero =>
    intro k hr hk l8
    have e : k = 8 := by omega
    subst e
    rw [b88_41]
    simp (disch := omega) only [LI, NC, Nat.le_refl, if_true]
    cases hb : (apA P (dPl D) h t 8).1 with
    | none =>
      simp only [oI_n]
      rw [w60n hp hw]
      simp [mvG, neg1_lt, bz]
    | some n =>
      have hn := th_lt hP (frA_th (apA_mem 8 n hb)).1
      simp only [oI_s]
      rw [w60 hp hP hd hl hw hn]
      simp (disch := omega) only [NC, if_false, mvG, Option.isSome_some, bz_t]
  | succ r ih =>
    intro k hr hk l8
    rw [b88_41]
    simp (disch := omega) only [LI, NC, show ¬ 8 ≤ k by omega, if_false, w58 hp hP hs hh (show k < 8 by omega)]
    have hle := apA_lt (pl := dPl D) hP hh ht k
    cases hb : beO P h k with
    | none =>
      simp only [oI_n, neg1_lt, if_true]
      rw [b88_107, nI_1, ← ih (k + 1) (by omega) (by omega) (.int (-1))]
      have e : apA P (dPl D) h t (k + 1) = apA P (dPl D) h t k := by simp [apA, hb]
      rw [e]
    | some n =>
      have hn := th_lt hP (be_th hP hb)
      have hds := ds_lt hn ht
      simp (disch := omega) only [oI_s, NC, if_false, sp90, apt_nI, irm_nI]
      rw [show nI n / nI 12 = nI (n / 12) from div12 (by omega)]
      simp only [w57 hp hP hs hd hn]
      by_cases h1 : dsN n t < (apA P (dPl D) h t k).2
      · simp only [h1, if_true]
        cases hf : frA P (dPl D) n with
        | true =>
          simp only [bz_t, show ¬ ((1 : Int32) = 0) by decide, if_false]
          have e : apA P (dPl D) h t (k + 1) = (some n, dsN n t) := by simp [apA, hb, h1, hf]
          rw [b88_107, nI_1, ← ih (k + 1) (by omega) (by omega) (.int (nI n)), e]
          rfl
        | false =>
          simp only [bz_f, if_true]
          have e : apA P (dPl D) h t (k + 1) = apA P (dPl D) h t k := by simp [apA, hb, hf]
          rw [b88_107, nI_1, ← ih (k + 1) (by omega) (by omega) (.int (nI n)), e]
      · simp only [h1, if_false]
        have e : apA P (dPl D) h t (k + 1) = apA P (dPl D) h t k := by simp [apA, hb, h1]
        rw [b88_107, nI_1, ← ih (k + 1) (by omega) (by omega) (.int (nI n)), e]
def mvA (P : Pn) (pl : Nat → Option Nat) (w : Nat) (o : Option Nat) : Option Nat := match pl w, o with
  | some h, some v => (apA P pl h (plG pl v) 8).1
  | _, _ => none
theorem w88 (hp : isSc p) (hP : wfP P) (hl : wfL P (dPl D)) (hs : RS f G p P) (hd : RD f G p D) {h w : Nat} (hw : dPl D w = some h) {o : Option Nat} (ho : ∀ v, o = some v → v < 14 ∧ ∃ t, dPl D v = some t) {T : Int32 → aH → Prop} : sI scr (d + 2) 88 [.ref p, .int (nI w), .int (oI o)] (wo f G J c) T = T (bz (mvA P (dPl D) w o).isSome) (wo f (mvG G p w (dPl D w) (mvA P (dPl D) w o)) J c) := by
  obtain ⟨h14, h144, -⟩ := wfL_lt hP hl hw
  unfold sI
  rw [en88, b88_0]
  unfold mvA
  rw [hw]
  cases o with
  | none => simp [oI_n, neg1_lt, mvG, bz]
  | some v =>
    obtain ⟨v14, t, ht⟩ := ho v rfl
    obtain ⟨-, t144, -⟩ := wfL_lt hP hl ht
    have e1 := hd.2.2.2.1 w h14
    have e2 := hd.2.2.2.1 v v14
    rw [hw] at e1
    rw [ht] at e2
    simp (disch := omega) only [oI_s, LI, NC, if_false, v14, if_true, sC scr hp, e1, e2, sp90, apt_nI]
    have := apr_loop (scr := scr) (J := J) (c := c) (d := d) hp hP hl hs hd h14 h144 t144 (l2 := nI v) (K := fun r h => ∃ x, r = some (Value.int x) ∧ T x h) 8 0 rfl (by omega) .null
    have eg : plG (dPl D) v = t := by simp [plG, ht]
    rw [eg, ← hw]
    refine Eq.trans this ?_
    simp only [ex_i]
/-- through a gate -/
def lgA (P : Pn) (D : Dy) (w : Nat) : Dy := match dPl D w with
  | none => D
  | some h => if pKd P h = 3 then (plU (dPl D) w none, fun v => if v = w then dSt D else dOu D v, dSt D, dOc D + 1) else D
theorem w89 (hp : isSc p) (hP : wfP P) (hl : wfL P (dPl D)) (hs : RS f G p P) (hd : RD f G p D) {w : Nat} (hw : w < 12) {T : aH → Prop} (hT : ∀ f' G', RD f' G' p (lgA P D w) → (∀ o k, ¬ (o = p ∧ k = 6) → f' o k = f o k) → (∀ q k, q ≠ p + 2 → q ≠ p + 3 → q ≠ p + 6 → G' q k = G q k) → T (wo f' G' J c)) : sV scr (d + 1) 89 [.ref p, .int (nI w)] (wo f G J c) T := by
  have e1 := hd.2.2.2.1 w (by omega)
  unfold sV
  rw [en89, b89_0]
  unfold lgA at hT
  cases ho : dPl D w with
  | none =>
    rw [ho] at e1 hT
    simp (disch := omega) only [sC scr hp, e1, oI_n, neg1_lt, if_true, true_and]
    exact hT f G hd (fun _ _ _ => rfl) (fun _ _ _ _ _ => rfl)
  | some h =>
    obtain ⟨-, h144, hth, -⟩ := wfL_lt hP hl ho
    have hk4 := hP.2.2.2.2.2.1 h
    have hk := hs.2.1 h hth
    rw [ho] at e1
    rw [ho] at hT
    simp only at hT
    simp (disch := omega) only [LI, NC, sC scr hp, e1, oI_s, if_false, show ¬ 144 ≤ h by omega, hk]
    by_cases h3 : pKd P h = 3
    · have hd2 := RD_lift hd hl.2 (show w < 14 by omega)
      have e5 := hd.1
      have e6 := hd.2.1
      simp (disch := omega) only [h3, if_true, w59 hp hP hd hl (show w < 14 by omega), sC scr hp, e5, e6, nI_1, true_and]
      rw [if_pos h3] at hT
      apply hT
      · obtain ⟨a1, a2, a3, a4, a5⟩ := hd2
        refine ⟨?_, ?_, ?_, ?_, ?_⟩
        · rw [up2_k (by decide)]; exact e5
        · rw [up2_s]; rfl
        · intro q hq
          rw [up2_q (by omega)]
          exact a3 q hq
        · intro v hv
          rw [up2_q (by omega)]
          exact a4 v hv
        · intro v hv
          rw [up2_a]
          show _ = (if v = w then dSt D else dOu D v)
          by_cases e : v = w
          · simp [e]
          · simp only [e, if_false]
            exact a5 v hv
      · intro o k hok
        unfold up2
        rw [if_neg hok]
      · intro q k q1 q2 q3
        rw [up2_q q3]
        exact lf_fr q k q1 q2
    · rw [if_neg h3] at hT
      simp only [h3, if_false, true_and]
      exact hT f G hd (fun _ _ _ => rfl) (fun _ _ _ _ _ => rfl)
end W6
