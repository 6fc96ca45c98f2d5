variable {scr : List Int32}
-- ===== the model's step =====
section M5
variable {f G f' G' f1 G1 f2 G2 : Nat → Nat → Int32} {J J' J1 J2 : Nat → Nat → Int64} {c : Value} {d : Nat} {P : Pn} {D : Dy} {B : Nat → Nat} {L : Lw}
def MP (G : Nat → Nat → Int32) (P : Pn) (D : Dy) : Prop := (∀ w, exB P w = true → G 135 w = oI (dPl D w)) ∧ (∀ w, w < pPe P → G 136 w = dOu D w)
theorem MP_D (h : MP G P D) : MD G P (dPl D, dOu D, G 126 4, 0) := ⟨rfl, h.1, h.2⟩
def FRn (f G : Nat → Nat → Int32) (J : Nat → Nat → Int64) (f' G' : Nat → Nat → Int32) (J' : Nat → Nat → Int64) : Prop :=
  (∀ o k, ¬ (o = 125 ∧ (k = 18 ∨ k = 40)) → f' o k = f o k) ∧ (∀ q k, q ≠ 135 → q ≠ 136 → q ≠ 142 → q ≠ 153 → G' q k = G q k) ∧ (∀ q k, q ≠ 151 → q ≠ 152 → J' q k = J q k)
def FRm (f G : Nat → Nat → Int32) (J : Nat → Nat → Int64) (f' G' : Nat → Nat → Int32) (J' : Nat → Nat → Int64) : Prop :=
  (∀ o k, ¬ (o = 125 ∧ (k = 18 ∨ k = 40)) → f' o k = f o k) ∧ (∀ q k, q ≠ 135 → q ≠ 136 → q ≠ 142 → q ≠ 153 → ¬ (q = 126 ∧ k = 4) → G' q k = G q k) ∧ (∀ q k, q ≠ 151 → q ≠ 152 → J' q k = J q k)
theorem FRn_rf : FRn f G J f G J := ⟨fun _ _ _ => rfl, fun _ _ _ _ _ _ => rfl, fun _ _ _ _ => rfl⟩
theorem FRn_tr (h : FRn f G J f1 G1 J1) (h' : FRn f1 G1 J1 f2 G2 J2) : FRn f G J f2 G2 J2 :=
  ⟨fun o k a => (h'.1 o k a).trans (h.1 o k a), fun q k a b c d => (h'.2.1 q k a b c d).trans (h.2.1 q k a b c d), fun q k a b => (h'.2.2 q k a b).trans (h.2.2 q k a b)⟩
theorem FRm_rf : FRm f G J f G J := ⟨fun _ _ _ => rfl, fun _ _ _ _ _ _ _ => rfl, fun _ _ _ _ => rfl⟩
theorem FRm_tr (h : FRm f G J f1 G1 J1) (h' : FRm f1 G1 J1 f2 G2 J2) : FRm f G J f2 G2 J2 :=
  ⟨fun o k a => (h'.1 o k a).trans (h.1 o k a), fun q k a b c d e => (h'.2.1 q k a b c d e).trans (h.2.1 q k a b c d e), fun q k a b => (h'.2.2 q k a b).trans (h.2.2 q k a b)⟩
theorem FRn_m (h : FRn f G J f1 G1 J1) : FRm f G J f1 G1 J1 := ⟨h.1, fun q k a b c d _ => h.2.1 q k a b c d, h.2.2⟩
/-- what the model's step wants -/
def CM (G : Nat → Nat → Int32) (r : Nat) (P : Pn) (B : Nat → Nat) (L : Lw) : Prop := MS G P ∧ LRm G r L ∧ (∀ q, q < 144 → G 140 q = nI (B q))
theorem CM_fr {r : Nat} (h : FRm f G J f1 G1 J1) (hx : CM G r P B L) : CM G1 r P B L := by
  obtain ⟨-, h2, -⟩ := h
  refine ⟨MS_cg h2 hx.1, LRm_cg (fun q k hq => h2 q k (by omega) (by omega) (by omega) (by omega) (by omega)) hx.2.1, ?_⟩
  intro q hq
  rw [h2 140 q (by decide) (by decide) (by decide) (by decide) (by omega)]
  exact hx.2.2 q hq
theorem way_loop (hP : wfP P) (hl : wfL P (dPl D)) (hms : MS G P) (hmd : MD G P D) {h w v t : Nat} (hw : dPl D w = some h) (hv : dPl D v = some t) {K : Option Value → aH → Prop} : ∀ n k, 8 - k = n → k ≤ 8 → ∀ b : Option Nat, (apA P (dPl D) h t k).1 = b.bind (beO P h) → (∀ y, b = some y → y < 8 ∧ (beO P h y).isSome = true) → (∀ b : Option Nat, (apA P (dPl D) h t 8).1 = b.bind (beO P h) → (∀ y, b = some y → y < 8 ∧ (beO P h y).isSome = true) → K (some (.int (oI b))) (wo f G J c)) → ∀ l6 : Value, E scr false (d + 5) 178 22 [.ref 125, .int (nI w), .int (nI v), .int (oI b), .int (nI (apA P (dPl D) h t k).2), .int (nI k), l6] [] (wo f G J c) K := by
  obtain ⟨w14, h144, hth, wex⟩ := wfL_lt hP hl hw
  obtain ⟨v14, t144, -, vex⟩ := wfL_lt hP hl hv
  have ew := hmd.2.1 w wex
  rw [hw] at ew
  have ev := hmd.2.1 v vex
  rw [hv] at ev
  intro n
  induction n with
  | zero =>
    intro k hn hk b hb hy hK l6
    have e : k = 8 := by omega
    subst e
    rw [b178_22]
    simp (disch := omega) only [LI, NC, Nat.le_refl, if_true]
    exact hK b hb hy
  | succ n ih =>
    intro k hn hk b hb hy hK l6
    rw [b178_22]
    simp (disch := omega) only [LI, NC, show ¬ 8 ≤ k by omega, if_false, mO scr, ew, ev, oI_s, m132 hP hms h144 (show k < 8 by omega)]
    have hle := apA_lt (pl := dPl D) hP h144 t144 k
    cases hbe : beO P h k with
    | none =>
      simp only [oI_n, if_true]
      have e : apA P (dPl D) h t (k + 1) = apA P (dPl D) h t k := by simp [apA, hbe]
      rw [b178_90, nI_1, ← e]
      exact ih (k + 1) (by omega) (by omega) b (by rw [e]; exact hb) hy hK _
    | some n' =>
      have hn' := th_lt hP (be_th hP hbe)
      have hds := ds_lt hn' t144
      simp (disch := omega) only [oI_s, NC, if_false, m131 hP hms hmd hl hn', sp133, apt_nI]
      cases hf : frA P (dPl D) n' with
      | false =>
        simp only [bz_f, if_true]
        have e : apA P (dPl D) h t (k + 1) = apA P (dPl D) h t k := by simp [apA, hbe, hf]
        rw [b178_90, nI_1, ← e]
        exact ih (k + 1) (by omega) (by omega) b (by rw [e]; exact hb) hy hK _
      | true =>
        simp (disch := omega) only [bz_t, show ¬ ((1 : Int32) = 0) by decide, if_false, mO scr, ev, oI_s, apt_nI, NC]
        by_cases hlt : dsN n' t < (apA P (dPl D) h t k).2
        · have e : apA P (dPl D) h t (k + 1) = (some n', dsN n' t) := by simp [apA, hbe, hf, hlt]
          simp only [show ¬ (apA P (dPl D) h t k).2 ≤ dsN n' t by omega, if_false]
          rw [b178_90, nI_1]
          have := ih (k + 1) (by omega) (by omega) (some k) (by rw [e]; exact hbe.symm) (fun y hy => by cases hy; exact ⟨by omega, by rw [hbe]; rfl⟩) hK (.int (nI n'))
          rw [e] at this
          exact this
        · have e : apA P (dPl D) h t (k + 1) = apA P (dPl D) h t k := by simp [apA, hbe, hlt]
          simp only [show (apA P (dPl D) h t k).2 ≤ dsN n' t by omega, if_true]
          rw [b178_90, nI_1, ← e]
          exact ih (k + 1) (by omega) (by omega) b (by rw [e]; exact hb) hy hK _
theorem m178 (hP : wfP P) (hl : wfL P (dPl D)) (hms : MS G P) (hmd : MD G P D) {h w v t : Nat} (hw : dPl D w = some h) (hv : dPl D v = some t) {T : Int32 → aH → Prop} (hT : ∀ b : Option Nat, mvA P (dPl D) w (some v) = b.bind (beO P h) → (∀ y, b = some y → y < 8 ∧ (beO P h y).isSome = true) → T (oI b) (wo f G J c)) : vI scr (d + 5) 178 [.ref 125, .int (nI w), .int (nI v)] (wo f G J c) T := by
  obtain ⟨w14, h144, hth, wex⟩ := wfL_lt hP hl hw
  obtain ⟨v14, t144, -, vex⟩ := wfL_lt hP hl hv
  have ew := hmd.2.1 w wex
  rw [hw] at ew
  have ev := hmd.2.1 v vex
  rw [hv] at ev
  have em : mvA P (dPl D) w (some v) = (apA P (dPl D) h t 8).1 := by
    unfold mvA
    rw [hw]
    simp [plG, hv]
  rw [em] at hT
  unfold vI
  rw [u178_ok, en178, b178_0]
  simp (disch := omega) only [mO scr, ew, ev, oI_s, sp133, apt_nI, true_and]
  have := way_loop (scr := scr) (f := f) (J := J) (c := c) (d := d) hP hl hms hmd hw hv (K := fun r h => ∃ x, r = some (Value.int x) ∧ T x h) 8 0 rfl (by omega) none rfl (fun y hy => by cases hy) (fun b h1 h2 => ⟨_, rfl, hT b h1 h2⟩) .null
  exact this
theorem m179 (hP : wfP P) (hL : wfLw L) {r : Nat} (hr : r < 6) (hl : wfL P (dPl D)) (hx : CM G r P B L) (hmp : MP G P D) (hst : G 126 4 + 1 = dSt D) {w h W : Nat} (hw : dPl D w = some h) (hwp : w < pPe P) (h40 : f 125 40 = nI W) {T : aH → Prop}
  (hT : ∀ f' G' J', MP G' P (tuD P D w (fol P B L (dPl D) w)) → FRn f G J f' G' J' → f' 125 40 = nI (W + (if (mvA P (dPl D) w (fol P B L (dPl D) w)).isSome = true then 1 else 0)) → G' 153 w = oI (fol P B L (dPl D) w) → (∀ k, k ≠ w → G' 153 k = G 153 k) → T (wo f' G' J' c)) : vV scr (d + 6) 179 [.ref 125, .int (nI r), .int (nI w)] (wo f G J c) T := by
  obtain ⟨w14, h144, hth, wex⟩ := wfL_lt hP hl hw
  have p12 := hP.2.2.2.1
  have ef : fol P B L (dPl D) w = folA P B L (dPl D) h w := by unfold fol; rw [hw]
  unfold vV
  rw [u179_ok, en179, b179_0]
  refine ⟨rfl, ?_⟩
  apply m177 (D := (dPl D, dOu D, G 126 4, 0)) hP hL hr hl hx.1 (MP_D hmp) hx.2.1 hx.2.2 hw hwp
  intro f1 G1 J1 hf1 hG1 hJ1
  have fr1 : FRn f G J f1 G1 J1 := ⟨fun o k a => hf1 o k (fun e => a ⟨e.1, Or.inl e.2⟩), fun q k _ _ a _ => hG1 q k a, hJ1⟩
  show gR scr (wo f1 G1 J1 c) 125 9 39 _
  simp (disch := omega) only [mO scr]
  have e40 : f1 125 40 = nI W := by rw [hf1 125 40 (by omega), h40]
  rw [show (dPl (dPl D, dOu D, G 126 4, 0)) = dPl D from rfl, ← ef]
  generalize hfo : fol P B L (dPl D) w = fo at *
  have fr2 : FRn f G J f1 (up2 G1 153 w (oI fo)) J1 := ⟨fr1.1, fun q k a b c' d' => by rw [up2_q d']; exact fr1.2.1 q k a b c' d', fr1.2.2⟩
  have hx2 : CM (up2 G1 153 w (oI fo)) r P B L := CM_fr (FRn_m fr2) hx
  have hmp2 : MP (up2 G1 153 w (oI fo)) P D := by
    unfold MP
    simp only [up2_q (show 135 ≠ 153 by decide), up2_q (show 136 ≠ 153 by decide), hG1 135 _ (by decide), hG1 136 _ (by decide)]
    exact hmp
  have e126 : up2 G1 153 w (oI fo) 126 4 = G 126 4 := by rw [up2_q (by decide), hG1 126 4 (by decide)]
  have e153 : ∀ k, k ≠ w → up2 G1 153 w (oI fo) 153 k = G 153 k := fun k hk => by rw [up2_k hk, hG1 153 k (by decide)]
  have e153w : up2 G1 153 w (oI fo) 153 w = oI fo := up2_s
  generalize hG2 : up2 G1 153 w (oI fo) = G2 at *
  -- the gate
  have gate : ∀ (f3 G3 : Nat → Nat → Int32) (n : Nat) (l3 l4 : Int32), (mvD P D w fo) = (plU (dPl D) w (some n), D.2) ∨ (mvD P D w fo = D ∧ n = h) → thB P n = true → (∀ v, exB P v = true → G3 135 v = oI (dPl (mvD P D w fo) v)) → G3 135 w = nI n → FRn f1 G2 J1 f3 G3 J1 → (∀ q k, q ≠ 135 → G3 q k = G2 q k) → f3 125 40 = nI (W + (if (mvA P (dPl D) w fo).isSome = true then 1 else 0)) → E scr false (d + 5 + 1) 179 65 [.ref 125, .int (nI r), .int (nI w), .int l3, .int l4] [] (wo f3 G3 J1 c) (fun r h => r = none ∧ T h) := by
    intro f3 G3 n l3 l4 hmv hthn hp3 hw3 hfr3 hg3 hf3
    have n144 := th_lt hP hthn
    have hkn := hx2.1.2.1 n hthn
    have k127 : G3 127 n = nI (pKd P n) := by rw [hg3 127 n (by decide), hkn]
    have hk4 := hP.2.2.2.2.2.1 n
    have s4 : G3 126 4 = G 126 4 := by rw [hg3 126 4 (by decide), e126]
    have pln : dPl (mvD P D w fo) w = some n := by
      rcases hmv with e | ⟨e, e2⟩
      · rw [e]; simp [dPl, plU]
      · rw [e, hw, e2]
    have stD' : dSt (mvD P D w fo) = dSt D ∧ dOu (mvD P D w fo) = dOu D := by
      rcases hmv with e | ⟨e, -⟩ <;> rw [e] <;> exact ⟨rfl, rfl⟩
    have frA2 : FRn f G J f3 G3 J1 := FRn_tr fr2 hfr3
    rw [b179_65]
    simp (disch := omega) only [mO scr, hw3, k127, LI, NC]
    by_cases h3 : pKd P n = 3
    · have el : lgA P (mvD P D w fo) w = (plU (dPl (mvD P D w fo)) w none, fun v => if v = w then dSt D else dOu D v, dSt D, dOc (mvD P D w fo) + 1) := by
        unfold lgA
        rw [pln]
        simp only [h3, if_true]
        rw [stD'.1, stD'.2]
      simp (disch := omega) only [h3, if_true, mO scr, LI]
      refine ⟨trivial, ?_⟩
      rw [up2_q (show 126 ≠ 135 by decide), s4, hst]
      apply hT
      · unfold tuD
        rw [el]
        refine ⟨?_, ?_⟩
        · intro v hv
          rw [up2_q (by decide), up2_a]
          show _ = oI (if v = w then none else dPl (mvD P D w fo) v)
          by_cases e : v = w
          · simp [e, oI]
          · simp only [e, if_false]
            exact hp3 v hv
        · intro v hv
          rw [up2_a, up2_q (by decide), hg3 136 v (by decide)]
          show _ = (if v = w then dSt D else dOu D v)
          by_cases e : v = w
          · simp [e]
          · simp only [e, if_false]
            exact hmp2.2 v hv
      · refine FRn_tr frA2 ⟨fun _ _ _ => rfl, ?_, fun _ _ _ _ => rfl⟩
        intro q k a b _ _
        rw [up2_q b, up2_q a]
      · exact hf3
      · rw [up2_q (by decide), up2_q (by decide), hg3 153 w (by decide), e153w]
      · intro k hk
        rw [up2_q (by decide), up2_q (by decide), hg3 153 k (by decide), e153 k hk]
    · have el : lgA P (mvD P D w fo) w = mvD P D w fo := by
        unfold lgA
        rw [pln]
        simp only [h3, if_false]
      simp only [h3, if_false]
      refine ⟨trivial, ?_⟩
      apply hT
      · unfold tuD
        rw [el]
        refine ⟨hp3, ?_⟩
        intro v hv
        rw [hg3 136 v (by decide), stD'.2]
        exact hmp2.2 v hv
      · exact frA2
      · exact hf3
      · rw [hg3 153 w (by decide), e153w]
      · intro k hk
        rw [hg3 153 k (by decide), e153 k hk]
  have e135 : G2 135 w = nI h := by rw [hmp2.1 w wex, hw]; rfl
  have stay : mvA P (dPl D) w fo = none → ∀ l3 : Int32, E scr false (d + 5 + 1) 179 29 [.ref 125, .int (nI r), .int (nI w), .int l3, .null] [.int (-1)] (wo f1 G2 J1 c) (fun r h => r = none ∧ T h) := by
    intro hm l3
    have em : mvD P D w fo = D := by unfold mvD; rw [hm]
    rw [b179_29]
    simp only [if_true]
    apply gate f1 G2 h _ _ (Or.inr ⟨em, rfl⟩) hth
    · rw [em]; exact hmp2.1
    · exact e135
    · exact FRn_rf
    · intro _ _ _; rfl
    · rw [hm]; simpa using e40
  cases hfo2 : fo with
  | none =>
    simp only [oI_n, if_true]
    apply stay
    rw [hfo2]
    unfold mvA
    rw [hw]
  | some v =>
    rw [hfo2] at hfo
    obtain ⟨v14, -, t, hv⟩ := fol_some hfo
    simp (disch := omega) only [oI_s, NC, if_false]
    apply m178 (D := (dPl D, dOu D, G2 126 4, 0)) hP hl hx2.1 (MP_D hmp2) hw hv
    intro b hb hy
    rw [show (dPl (dPl D, dOu D, G2 126 4, 0)) = dPl D from rfl] at hb
    cases b with
    | none =>
      simp only [oI_n]
      apply stay
      rw [hfo2, hb]
      rfl
    | some y =>
      obtain ⟨y8, hsome⟩ := hy y rfl
      obtain ⟨n, hn⟩ := Option.isSome_iff_exists.mp hsome
      have hmv : mvA P (dPl D) w (some v) = some n := by rw [hb]; exact hn
      have em : mvD P D w fo = (plU (dPl D) w (some n), D.2) := by
        unfold mvD
        rw [hfo2, hmv]
      simp only [oI_s]
      rw [b179_29]
      simp (disch := omega) only [NC, if_false, mO scr, e135, m132 hP hx2.1 h144 y8, hn, oI_s, e40, nI_1]
      have n144 := th_lt hP (be_th hP hn)
      apply gate _ _ n _ _ (Or.inl em) (be_th hP hn)
      · intro u hu
        rw [em, up2_a]
        show _ = oI (if u = w then some n else dPl D u)
        by_cases e : u = w
        · simp [e, oI]
        · simp only [e, if_false]
          exact hmp2.1 u hu
      · rw [up2_s]
      · refine ⟨?_, fun q k a _ _ _ => up2_q a, fun _ _ _ _ => rfl⟩
        intro o k hok
        unfold up2
        rw [if_neg (fun e => hok ⟨e.1, Or.inr e.2⟩)]
      · intro q k hq; exact up2_q hq
      · rw [up2_s, hfo2, hmv]
        rfl
end M5
