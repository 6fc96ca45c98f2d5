variable {scr : List Int32}
-- ===== the model looks =====
section M2
variable {f G f' G' : Nat → Nat → Int32} {J J' : Nat → Nat → Int64} {c : Value} {d : Nat} {P : Pn} {D : Dy}
theorem MS_cg (h : ∀ q k, q ≠ 135 → q ≠ 136 → q ≠ 142 → q ≠ 153 → ¬ (q = 126 ∧ k = 4) → G' q k = G q k) (hm : MS G P) : MS G' P := by
  have e : ∀ k, k < 4 → G' 126 k = G 126 k := fun k hk => h 126 k (by decide) (by decide) (by decide) (by decide) (by omega)
  have e1 : ∀ i, i = 127 ∨ i = 128 ∨ i = 129 → ∀ k, G' i k = G i k := fun i hi k => h i k (by omega) (by omega) (by omega) (by omega) (by omega)
  unfold MS at hm ⊢
  simp only [e 0 (by omega), e 1 (by omega), e 2 (by omega), e 3 (by omega), e1 127 (by omega), e1 128 (by omega), e1 129 (by omega)]
  exact hm
theorem MS_142 (h : ∀ q k, q ≠ 142 → G' q k = G q k) (hm : MS G P) : MS G' P := MS_cg (fun q k _ _ a _ _ => h q k a) hm
theorem MD_142 (h : ∀ q k, q ≠ 142 → G' q k = G q k) (hm : MD G P D) : MD G' P D := by
  unfold MD at hm ⊢
  simp only [h 126 _ (by decide), h 135 _ (by decide), h 136 _ (by decide)]
  exact hm
def LKm (f G : Nat → Nat → Int32) (P : Pn) (pl : Nat → Option Nat) (h w m : Nat) : Prop := f 125 18 = nI (lkC P pl h w m) ∧ (∀ i, i < lkC P pl h w m → G 142 i = nI (lkF P pl h w m i))
theorem mins_loop (hP : wfP P) (hl : wfL P (dPl D)) {h w o n to : Nat} (hw : dPl D w = some h) (ho : dPl D o = some to) (hn : n ≤ 13) {K : Option Value → aH → Prop} : ∀ k G F, k ≤ n → (∀ i, i ≤ n → i ≠ k → G 142 i = nI (F i)) → (∀ i, i ≤ n → i ≠ k → ∃ t, dPl D (F i) = some t) → MS G P → MD G P D → (∀ (l3 : Int32) G', (∀ i, i ≤ n → G' 142 i = nI (insF (kyL P (dPl D) h) F o k i)) → (∀ q i, q ≠ 142 → G' q i = G q i) → E scr false (d + 2) 137 123 [.ref 125, .int (nI w), .int (nI o), .int l3] [] (wo (up2 f 125 18 (f 125 18 + 1)) G' J c) K) → E scr false (d + 2) 137 60 [.ref 125, .int (nI w), .int (nI o), .int (nI k)] [] (wo f G J c) K := by
  obtain ⟨w14, h144, hth, wex⟩ := wfL_lt hP hl hw
  obtain ⟨o14, -, -, -⟩ := wfL_lt hP hl ho
  have fin : ∀ k G F, k ≤ n → (∀ i, i ≤ n → i ≠ k → G 142 i = nI (F i)) → (∀ (l3 : Int32) G', (∀ i, i ≤ n → G' 142 i = nI (upN F k o i)) → (∀ q i, q ≠ 142 → G' q i = G q i) → E scr false (d + 2) 137 123 [.ref 125, .int (nI w), .int (nI o), .int l3] [] (wo (up2 f 125 18 (f 125 18 + 1)) G' J c) K) → E scr false (d + 2) 137 106 [.ref 125, .int (nI w), .int (nI o), .int (nI k)] [] (wo f G J c) K := by
    intro k G F hk hF hK
    rw [b137_106]
    simp (disch := omega) only [mO scr]
    apply hK
    · intro i hi
      rw [up2_a]
      unfold upN
      by_cases e : i = k
      · simp [e]
      · simp [e, hF i hi e]
    · intro q i hq
      rw [up2_q hq]
  intro k
  induction k with
  | zero =>
    intro G F hk hF hQ hm hd hK
    rw [b137_60, show nI 0 = 0 from rfl]
    simp only [Int32.le_refl, if_true]
    rw [insF_0] at hK
    exact fin 0 G F hk hF hK
  | succ k ih =>
    intro G F hk hF hQ hm hd hK
    rw [b137_60]
    have e := hF k (by omega) (by omega)
    obtain ⟨t, ht⟩ := hQ k (by omega) (by omega)
    obtain ⟨F14, -, -, -⟩ := wfL_lt hP hl ht
    have ew := hd.2.1 w wex
    rw [hw] at ew
    simp (disch := omega) only [NC, Nat.add_one_ne_zero, if_false, mO scr, nI_s1, Nat.add_sub_cancel, e, nI_m1, ew, oI_s]
    rw [m136 hP hm hd hl h144 ho ht]
    rw [insF_1] at hK
    cases hlt : kyL P (dPl D) h o (F k) with
    | true =>
      simp only [hlt, if_true] at hK
      simp (disch := omega) only [bz_t, show ¬ ((1 : Int32) = 0) by decide, if_false, mO scr, e]
      have hfr : ∀ q i, q ≠ 142 → up2 G 142 (k + 1) (nI (F k)) q i = G q i := fun q i hq => up2_q hq
      apply ih (up2 G 142 (k + 1) (nI (F k))) (upN F (k + 1) (F k)) (by omega)
      · intro i hi hik
        rw [up2_a]
        unfold upN
        by_cases e2 : i = k + 1
        · simp [e2]
        · simp [e2, hF i hi e2]
      · intro i hi hik
        unfold upN
        by_cases e2 : i = k + 1
        · simp [e2, ht]
        · simp only [e2, if_false]
          exact hQ i hi e2
      · exact MS_142 hfr hm
      · exact MD_142 hfr hd
      · intro l3 G' hG hfr'
        apply hK l3 G' hG
        intro q i hq
        rw [hfr' q i hq, up2_q hq]
    | false =>
      simp only [hlt, Bool.false_eq_true, if_false] at hK
      simp only [bz_f, if_true]
      exact fin (k + 1) G F hk hF hK
theorem mlook_loop (hP : wfP P) (hl : wfL P (dPl D)) {h w : Nat} (hw : dPl D w = some h) {K : Option Value → aH → Prop} : ∀ r m, 14 - m = r → m ≤ 14 → ∀ f G, MS G P → MD G P D → LKm f G P (dPl D) h w m → (∀ f' G', LKm f' G' P (dPl D) h w 14 → (∀ o k, ¬ (o = 125 ∧ k = 18) → f' o k = f o k) → (∀ q k, q ≠ 142 → G' q k = G q k) → K none (wo f' G' J c)) → ∀ l3 : Value, E scr false (d + 3) 137 7 [.ref 125, .int (nI w), .int (nI m), l3] [] (wo f G J c) K := by
  obtain ⟨w14, h144, hth, wex⟩ := wfL_lt hP hl hw
  intro r
  induction r with
  | zero =>
    intro m hr hm f G hms hmd hk hK l3
    have e : m = 14 := by omega
    subst e
    rw [b137_7]
    simp (disch := omega) only [LI, NC, Nat.le_refl, if_true]
    exact hK f G hk (fun _ _ _ => rfl) (fun _ _ _ => rfl)
  | succ r ih =>
    intro m hr hm f G hms hmd hk hK l3
    obtain ⟨k1, k4⟩ := hk
    have skip : seeB P (dPl D) h w m = false → ∀ l3, E scr false (d + 3) 137 123 [.ref 125, .int (nI w), .int (nI m), l3] [] (wo f G J c) K := by
      intro hsee l3
      rw [b137_123, nI_1]
      apply ih (m + 1) (by omega) (by omega) f G hms hmd _ hK
      have e1 : lkC P (dPl D) h w (m + 1) = lkC P (dPl D) h w m := by simp [lkC, hsee]
      have e2 : lkF P (dPl D) h w (m + 1) = lkF P (dPl D) h w m := by simp [lkF, hsee]
      unfold LKm
      rw [e1, e2]
      exact ⟨k1, k4⟩
    rw [b137_7]
    simp (disch := omega) only [LI, NC, show ¬ 14 ≤ m by omega, if_false]
    by_cases hmw : m = w
    · subst hmw
      simp only [if_true]
      exact skip (by simp [seeB]) _
    · simp only [hmw, if_false]
      rw [m128 hP hms (by omega)]
      cases hex : exB P m with
      | false =>
        simp only [bz_f, if_true]
        have hn : dPl D m = none := by
          cases e : dPl D m with
          | none => rfl
          | some t => rw [(wfL_lt hP hl e).2.2.2] at hex; cases hex
        exact skip (by simp [seeB, hn]) _
      | true =>
        have em := hmd.2.1 m hex
        have ew := hmd.2.1 w wex
        rw [hw] at ew
        cases ho : dPl D m with
        | none =>
          rw [ho] at em
          simp (disch := omega) only [bz_t, show ¬ ((1 : Int32) = 0) by decide, if_false, mO scr, em, oI_n, if_true]
          exact skip (by simp [seeB, ho]) _
        | some t =>
          obtain ⟨-, ht, htt, -⟩ := wfL_lt hP hl ho
          rw [ho] at em
          simp (disch := omega) only [bz_t, show ¬ ((1 : Int32) = 0) by decide, if_false, mO scr, em, ew, oI_s, NC]
          rw [m134 hP hms hth htt]
          cases hcl : clB P h t with
          | false =>
            simp only [bz_f, if_true]
            exact skip (by simp [seeB, ho, hcl]) _
          | true =>
            have hsee : seeB P (dPl D) h w m = true := by simp [seeB, ho, hcl, hmw]
            have hcm := lkC_le (P := P) (pl := dPl D) (h := h) (w := w) (m := m)
            simp only [bz_t, show ¬ ((1 : Int32) = 0) by decide, if_false, mO scr, k1]
            apply mins_loop hP hl hw ho (n := lkC P (dPl D) h w m) (by omega) (lkC P (dPl D) h w m) G (lkF P (dPl D) h w m) (Nat.le_refl _)
            · intro i h1 h2; exact k4 i (by omega)
            · intro i h1 h2
              obtain ⟨-, t', ht', -⟩ := see_pl (lkF_mem (P := P) (pl := dPl D) (h := h) (w := w) m i (by omega)).2
              exact ⟨t', ht'⟩
            · exact hms
            · exact hmd
            · intro l3' G' hG' hfr'
              rw [b137_123, nI_1]
              have e1 : lkC P (dPl D) h w (m + 1) = lkC P (dPl D) h w m + 1 := by simp [lkC, hsee]
              have e2 : lkF P (dPl D) h w (m + 1) = insF (kyL P (dPl D) h) (lkF P (dPl D) h w m) m (lkC P (dPl D) h w m) := by simp [lkF, hsee]
              apply ih (m + 1) (by omega) (by omega) _ _ (MS_142 hfr' hms) (MD_142 hfr' hmd)
              · unfold LKm
                rw [e1, e2, up2_s, k1, nI_1]
                exact ⟨rfl, fun i hi => hG' i (by omega)⟩
              · intro f2 G2 a1 a2 a3
                apply hK f2 G2 a1
                · intro o k hok
                  rw [a2 o k hok]
                  unfold up2
                  rw [if_neg hok]
                · intro q k hq
                  rw [a3 q k hq, hfr' q k hq]
theorem m137 (hP : wfP P) (hl : wfL P (dPl D)) (hms : MS G P) (hmd : MD G P D) {h w : Nat} (hw : dPl D w = some h) {T : aH → Prop} (hT : ∀ f' G', LKm f' G' P (dPl D) h w 14 → (∀ o k, ¬ (o = 125 ∧ k = 18) → f' o k = f o k) → (∀ q k, q ≠ 142 → G' q k = G q k) → T (wo f' G' J c)) : vV scr (d + 3) 137 [.ref 125, .int (nI w)] (wo f G J c) T := by
  unfold vV
  rw [u137_ok, en137, b137_0]
  simp only [mO scr, true_and]
  rw [show (0 : Int32) = nI 0 from rfl]
  apply mlook_loop hP hl hw 14 0 rfl (by omega) _ _ hms hmd
  · refine ⟨by rw [up2_s]; rfl, fun i hi => ?_⟩
    simp [lkC] at hi
  · intro f' G' a1 a2 a3
    refine ⟨rfl, hT f' G' a1 ?_ a3⟩
    intro o k hok
    rw [a2 o k hok]
    unfold up2
    rw [if_neg hok]
def bsA (P : Pn) (pl : Nat → Option Nat) (h k : Nat) : Bool := match beO P h k with
  | none => false
  | some n => (who pl n).isSome
theorem be_bw (hP : wfP P) {h t k : Nat} (ht : thB P t = true) : decide (beO P h k = some t) = bw h t k := by
  obtain ⟨t1, t2⟩ := thB_iff.mp ht
  have c12 := hP.1
  rw [Bool.eq_iff_iff]
  unfold beO bw ceB
  simp only [Bool.and_eq_true, decide_eq_true_eq]
  constructor
  · intro e
    split at e
    · rename_i hc
      cases e
      exact ⟨hc.1, hc.2.1, by omega, rfl⟩
    · cases e
  · rintro ⟨a, b, b2, e⟩
    rw [if_pos ⟨a, b, by omega, by omega⟩, e]
theorem tf_or {a b : Bool} (h : ¬ (a = true ∧ b = true)) : tf (a || b) = tf a + tf b := by
  cases a <;> cases b <;> simp_all [tf]
theorem sm_one {F : Nat → Bool} {n : Nat} (h : ∀ i k, i < n → k < n → F i = true → F k = true → i = k) : sm (fun i => tf (F i)) n = tf ((List.range n).any F) := by
  induction n with
  | zero => rfl
  | succ n ih =>
    simp only [sm]
    rw [ih (fun i k hi hk => h i k (by omega) (by omega)), List.range_succ, List.any_append, tf_or]
    · simp
    · rintro ⟨h1, h2⟩
      rw [List.any_eq_true] at h1
      obtain ⟨x, hx, hx2⟩ := h1
      have hx3 := List.mem_range.mp hx
      simp at h2
      have := h x n (by omega) (by omega) hx2 h2
      omega
theorem lkB_sm {pl : Nat → Option Nat} {h w m : Nat} : lkB P pl h w m = sm (fun o => tf (seeB P pl h w o && decide (dsN h (plG pl o) ≤ 2))) m := by
  induction m with
  | zero => rfl
  | succ m ih =>
    simp only [lkB, sm, ih, tf]
    congr 1
    simp
theorem cl_near (hP : wfP P) {h t : Nat} (hh : h < 144) (ht : t < 144) (hd : dsN h t ≤ 2) : clB P h t = true := by
  have k1 := mx_near h hh t ht hd
  have k2 := mx_near t ht h hh (by rw [ds_cm]; exact hd)
  unfold clB
  split
  · exact clF_of (fun i a b => by omega)
  · exact clF_of (fun i a b => by omega)
theorem bs_lk (hP : wfP P) {pl : Nat → Option Nat} (hl : wfL P pl) {h w : Nat} (hw : pl w = some h) : sm (fun k => tf (bsA P pl h k)) 8 = lkB P pl h w 14 := by
  obtain ⟨w14, h144, -⟩ := wfL_lt hP hl hw
  rw [lkB_sm]
  have e1 : ∀ k, k < 8 → tf (bsA P pl h k) = sm (fun o => tf (match pl o with | none => false | some t => bw h t k)) 14 := by
    intro k hk
    rw [sm_one]
    · congr 1
      unfold bsA
      cases hb : beO P h k with
      | none =>
        symm
        rw [List.any_eq_false]
        intro o ho
        cases hpo : pl o with
        | none => simp
        | some t =>
          have := be_bw (h := h) (k := k) hP (wfL_lt hP hl hpo).2.2.1
          rw [hb] at this
          simp at this
          simp [this]
      | some n =>
        have hn := be_th hP hb
        cases hwn : who pl n with
        | none =>
          symm
          show _ = (who pl n).isSome
          rw [hwn, Option.isSome_none, List.any_eq_false]
          intro o ho
          cases hpo : pl o with
          | none => simp
          | some t =>
            have := be_bw (h := h) (k := k) hP (wfL_lt hP hl hpo).2.2.1
            rw [hb] at this
            have ne : ¬ n = t := by
              intro e
              subst e
              exact who_nn hP hl hwn o hpo
            simp [ne] at this
            simp [this]
        | some v =>
          symm
          show _ = (who pl n).isSome
          rw [hwn, Option.isSome_some, List.any_eq_true]
          obtain ⟨v14, hv⟩ := who_some hwn
          refine ⟨v, List.mem_range.mpr v14, ?_⟩
          rw [hv]
          have := be_bw (h := h) (k := k) hP hn
          rw [hb] at this
          simpa using this.symm
    · intro i j hi hj h1 h2
      cases hpi : pl i with
      | none => rw [hpi] at h1; cases h1
      | some t =>
        cases hpj : pl j with
        | none => rw [hpj] at h2; cases h2
        | some t' =>
          rw [hpi] at h1
          rw [hpj] at h2
          simp only [bw, Bool.and_eq_true, decide_eq_true_eq] at h1 h2
          have : t = t' := by rw [h1.2.2.2, h2.2.2.2]
          subst this
          exact hl.2 i j t hpi hpj
  rw [sm_congr e1, sm_ex]
  apply sm_congr
  intro o ho
  cases hpo : pl o with
  | none => simp [seeB, hpo, tf, sm]
  | some t =>
    obtain ⟨-, t144, -⟩ := wfL_lt hP hl hpo
    simp only
    rw [bw_all h h144 t t144]
    have eg : plG pl o = t := by simp [plG, hpo]
    rw [eg]
    have iff : (t ≠ h) ↔ o ≠ w := by
      constructor
      · intro a b
        subst b
        rw [hw] at hpo
        cases hpo
        exact a rfl
      · intro a b
        subst b
        exact a (hl.2 o w t hpo hw)
    by_cases hd : dsN h t ≤ 2
    · have hc := cl_near hP h144 t144 hd
      by_cases how : o = w
      · have : ¬ t ≠ h := fun e => (iff.mp e) how
        simp [seeB, how, this, tf]
      · have : t ≠ h := iff.mpr how
        simp [seeB, hpo, how, this, hd, hc, tf]
    · simp [hd, tf]
end M2
