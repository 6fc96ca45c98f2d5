variable {scr : List Int32}
-- ===== the model's wall =====
section M9
variable {f G f' G' f1 G1 f2 G2 : Nat → Nat → Int32} {J J' J1 J2 : Nat → Nat → Int64} {c : Value} {d : Nat} {P : Pn} {D : Dy} {B : Nat → Nat} {L : Lw}
theorem wl_MS {k : Nat} (hm : MS G P) : MS (up2 G 127 k 1) (wallP P k) := by
  obtain ⟨a1, a2, a3, a4, a5, a6⟩ := wl_num (P := P) (k := k)
  obtain ⟨b1, b2, b3, b4⟩ := hm
  unfold MS
  rw [a1, a2, a3, a4]
  simp only [up2_q (show 126 ≠ 127 by decide), up2_q (show 128 ≠ 127 by decide), up2_q (show 129 ≠ 127 by decide)]
  refine ⟨b1, ?_, fun w hw => by rw [a5]; exact b3 w hw, fun w hw => by rw [a6]; exact b4 w hw⟩
  intro q hq
  rw [wl_th] at hq
  rw [up2_a, wl_kd]
  split
  · rfl
  · exact b2 q hq
theorem wl_MD {k : Nat} (hd : MD G P D) (v : Int32) : MD (up2 G 127 k v) (wallP P k) D := by
  refine ⟨by rw [up2_q (by decide)]; exact hd.1, ?_, fun w hw => by rw [up2_q (by decide)]; exact hd.2.2 w hw⟩
  intro w hw
  rw [wl_ex] at hw
  rw [up2_q (by decide)]
  exact hd.2.1 w hw
theorem mwall_loop {r n : Nat} (hP : wfP P) (hL : wfLw L) (hr : r < 6) (hn : n < 2 ^ 20) (hw : wfS P D) (hoc : dOc D + cnP (dPl D) (pPe P) = pPe P) {K : Option Value → aH → Prop} : ∀ m k, 144 - k = m → k ≤ 144 → ∀ f G J, MS G P → LRm G r L → MD G P D → (∀ f' G' J', FQ f G J f' G' J' → ∀ l4 : Int32, E scr false (d + 10) 210 104 [.ref 125, .int (nI r), .int (nI n), .int (waI (waA P L D n 144)), .int l4] [] (wo f' G' J' c) K) → E scr false (d + 10) 210 23 [.ref 125, .int (nI r), .int (nI n), .int (waI (waA P L D n k)), .int (nI k)] [] (wo f G J c) K := by
  have p12 := hP.2.2.2.1
  intro m
  induction m with
  | zero =>
    intro k hm hk f G J hms hLR hd hK
    have e : k = 144 := by omega
    subst e
    rw [b210_23]
    simp (disch := omega) only [show (144 : Int32) = nI 144 from rfl, NC, Nat.le_refl, if_true]
    exact hK f G J FQ_rf _
  | succ m ih =>
    intro k hm hk f G J hms hLR hd hK
    have next : ∀ f' G' J', FQ f G J f' G' J' → ∀ a : Int32, a = waI (waA P L D n (k + 1)) → E scr false (d + 10) 210 98 [.ref 125, .int (nI r), .int (nI n), .int a, .int (nI k)] [] (wo f' G' J' c) K := by
      intro f' G' J' fq a ha
      rw [b210_98, nI_1, ha]
      have hq : ∀ q, q = 126 ∨ (127 ≤ q ∧ q ≤ 129) ∨ (144 ≤ q ∧ q ≤ 149) → ∀ i, G' q i = G q i := fun q hq i => fq.2.1 q i (by omega) (by omega) (by omega) (by omega)
      have hms' : MS G' P := by
        unfold MS at hms ⊢
        simp only [hq 126 (by omega), hq 127 (by omega), hq 128 (by omega), hq 129 (by omega)]
        exact hms
      apply ih (k + 1) (by omega) (by omega) f' G' J' hms' (LRm_cg (fun q i h => hq q (by omega) i) hLR) (MD_fq fq hd)
      intro f2 G2 J2 fq2 l4
      exact hK f2 G2 J2 (FQ_tr fq fq2) l4
    rw [b210_23]
    cases hwa : waA P L D n k with
    | some x =>
      have hx := wa_lt k x hwa
      have h144 := wa_keep hwa (144 - k)
      rw [show k + (144 - k) = 144 by omega] at h144
      have ne : ¬ nI x = -2 := fun e => nI_pos (show x < 2 ^ 31 by omega) (by rw [e]; decide)
      simp (disch := omega) only [show (144 : Int32) = nI 144 from rfl, NC, show ¬ 144 ≤ k by omega, if_false, waI, ne]
      have := hK f G J FQ_rf (nI k)
      rw [h144] at this
      exact this
    | none =>
      have es : waA P L D n (k + 1) = if waE P L D n k = true then some k else none := by simp only [waA, hwa]
      have no : waE P L D n k = false → E scr false (d + 10) 210 98 [.ref 125, .int (nI r), .int (nI n), .int (-2), .int (nI k)] [] (wo f G J c) K := by
        intro h
        apply next f G J FQ_rf
        rw [es, h]
        rfl
      simp (disch := omega) only [show (144 : Int32) = nI 144 from rfl, NC, show ¬ 144 ≤ k by omega, if_false, waI, if_true]
      rw [m131 hP hms hd hw.1 (by omega)]
      cases hf : frA P (dPl D) k with
      | false =>
        simp only [bz_f, if_true]
        exact no (by unfold waE; rw [hf]; rfl)
      | true =>
        obtain ⟨f1', f2', f3'⟩ := frA_th hf
        have hkd := hms.2.1 k f1'
        have hk4 := hP.2.2.2.2.2.1 k
        simp (disch := omega) only [bz_t, show ¬ ((1 : Int32) = 0) by decide, if_false, mO scr, hkd, NC]
        by_cases kd0 : pKd P k = 0
        · simp (disch := omega) only [kd0, if_true, mO scr]
          have hms2 := wl_MS (k := k) hms
          have hd2 := wl_MD (k := k) hd 1
          apply m135 (wl_wf hP) hms2
          intro G3 hB3 hG3
          have hms3 : MS G3 (wallP P k) := MS_140 hG3 hms2
          have hd3 : MD G3 (wallP P k) D := MD_cg (hG3 126 4 (by decide) (by decide)) (fun i => ⟨hG3 135 i (by decide) (by decide), hG3 136 i (by decide) (by decide)⟩) hd2
          have hLR3 : LRm G3 r L := LRm_cg (fun q i hq => by rw [hG3 q i (by omega) (by omega), up2_q (by omega)]) hLR
          apply m205 (P := wallP P k) (B := gdA (wallP P k)) (wl_wf hP) hL hr hn (wl_S hP hw f3') ⟨hms3, hLR3, hB3⟩ hd3
          intro f4 G4 J4 fq4 h140
          obtain ⟨wb1, wb2⟩ := wa_bd (L := L) (n := n) hP hw hoc f3'
          rw [wl_num.2.2.1, ← wb1]
          have v12 := (wfS_wk (B := gdA (wallP P k)) (L := L) (wl_wf hP) n D (wl_S hP hw f3')).1.2
          have e2 : G4 126 2 = nI (pPe P) := by
            rw [fq4.2.1 126 2 (by decide) (by decide) (by decide) (by omega), hG3 126 2 (by decide) (by decide), up2_q (by decide)]
            exact hms.1.2.2.1
          have fq5 : FQ f G J f4 (up2 G4 127 k 0) J4 := by
            refine ⟨fq4.1, ?_, fq4.2.2⟩
            intro q i a1 a2 a3 a4
            have e1 := fq4.2.1 q i a1 a2 a3 a4
            rw [hG3 q i a1 a2] at e1
            unfold up2 at e1 ⊢
            by_cases e : q = 127 ∧ i = k
            · rw [if_pos e, e.1, e.2, hkd, kd0]
              rfl
            · rw [if_neg e] at e1 ⊢
              exact e1
          simp (disch := omega) only [mO scr, LI, e2, NC]
          by_cases hv : dOc (wkD (wallP P k) (gdA (wallP P k)) L n D) = pPe P
          · rw [if_pos hv, b210_89]
            simp (disch := omega) only [mO scr]
            apply next f4 _ J4 fq5
            rw [es, if_pos (by unfold waE; simp [hf, kd0, hv])]
            rfl
          · rw [if_neg hv, b210_89]
            simp (disch := omega) only [mO scr]
            apply next f4 _ J4 fq5
            rw [es, if_neg (by unfold waE; simp [hv])]
            rfl
        · simp only [kd0, if_false]
          exact no (by unfold waE; simp [kd0])
theorem wall_23 {r n : Nat} (hP : wfP P) (hL : wfLw L) (hr : r < 6) (hn : n < 2 ^ 20) (hw : wfS P D) (hoc : dOc D + cnP (dPl D) (pPe P) = pPe P) (hx : CM G r P (gdA P) L) (hd : MD G P D) {K : Option Value → aH → Prop} (hK : ∀ f' G' J', FQ f G J f' G' J' → (∀ q, q < 144 → G' 140 q = nI (gdA P q)) → K (some (.int (waI (waA P L D n 144)))) (wo f' G' J' c)) : E scr false (d + 10) 210 23 [.ref 125, .int (nI r), .int (nI n), .int (-2), .int (nI 0)] [] (wo f G J c) K := by
  have := mwall_loop (scr := scr) (c := c) (d := d) (P := P) (D := D) (L := L) hP hL hr hn hw hoc (K := K) 144 0 rfl (by omega) f G J hx.1 hx.2.1 hd (by
    intro f2 G2 J2 fq2 l4
    rw [b210_104]
    have hq : ∀ q, q = 126 ∨ (127 ≤ q ∧ q ≤ 129) → ∀ i, G2 q i = G q i := fun q hq i => fq2.2.1 q i (by omega) (by omega) (by omega) (by omega)
    have hms2 : MS G2 P := by
      have hms := hx.1
      unfold MS at hms ⊢
      simp only [hq 126 (by omega), hq 127 (by omega), hq 128 (by omega), hq 129 (by omega)]
      exact hms
    apply m135 hP hms2
    intro G3 hB3 hG3
    exact hK f2 G3 J2 (FQ_tr fq2 ⟨fun _ _ _ => rfl, fun q i a b _ _ => hG3 q i a b, fun _ _ _ _ => rfl⟩) hB3)
  exact this
end M9
