variable {scr : List Int32}
-- ===== the model's post =====
section M8
variable {f G f' G' f1 G1 f2 G2 : Nat → Nat → Int32} {J J' J1 J2 : Nat → Nat → Int64} {c : Value} {d : Nat} {P : Pn} {D : Dy} {B : Nat → Nat} {L : Lw}
def poB (o : Option (Nat × Nat)) : Int32 := match o with
  | none => -1
  | some x => nI x.1
theorem mpost_loop {r n what hm : Nat} (hP : wfP P) (hL : wfLw L) (hr : r < 6) (hn : n < 2 ^ 20) (hw : wfS P D) (hoc : dOc D + cnP (dPl D) (pPe P) = pPe P) (hh : dPl D 12 = some hm) (hwh : what < 2) {K : Option Value → aH → Prop} : ∀ m k, 144 - k = m → k ≤ 144 → ∀ f G J, CM G r P (gdA P) L → MD G P D → (∀ f' G' J', FQ f G J f' G' J' → (∀ i, G' 140 i = G 140 i) → K (some (.int (ldR (poA P L D n hm 144) what))) (wo f' G' J' c)) → ∀ l8 : Value, E scr false (d + 10) 206 53 [.ref 125, .int (nI r), .int (nI n), .int (nI what), .int (nI hm), .int (poB (poA P L D n hm k)), .int (ldZ (poA P L D n hm k)), .int (nI k), l8] [] (wo f G J c) K := by
  have p12 := hP.2.2.2.1
  obtain ⟨-, hm144, -, hex⟩ := wfL_lt hP hw.1 hh
  intro m
  induction m with
  | zero =>
    intro k hm' hk f G J hx hd hK l8
    have e : k = 144 := by omega
    subst e
    obtain ⟨x, hxx⟩ := po_some (P := P) (L := L) (D := D) (n := n) (hm := hm) 144 hm144
    have fin := hK f G J FQ_rf (fun _ => rfl)
    rw [hxx] at fin
    unfold ldR at fin
    rw [b206_53, hxx]
    simp (disch := omega) only [LI, NC, Nat.le_refl, if_true, poB, ldZ]
    by_cases h0 : what = 0
    · simp only [h0, if_true] at fin ⊢; exact fin
    · simp only [h0, if_false] at fin ⊢; exact fin
  | succ m ih =>
    intro k hm' hk f G J hx hd hK l8
    have next : ∀ f' G' J', FQ f G J f' G' J' → (∀ i, G' 140 i = G 140 i) → ∀ (a b : Int32) (l8 : Value), a = poB (poA P L D n hm (k + 1)) → b = ldZ (poA P L D n hm (k + 1)) → E scr false (d + 10) 206 124 [.ref 125, .int (nI r), .int (nI n), .int (nI what), .int (nI hm), .int a, .int b, .int (nI k), l8] [] (wo f' G' J' c) K := by
      intro f' G' J' fq h140 a b l8 ha hb
      rw [b206_124, nI_1, ha, hb]
      apply ih (k + 1) (by omega) (by omega) f' G' J' (CM_fq fq (fun q hq => by rw [h140]; exact hx.2.2 q hq) hx) (MD_fq fq hd)
      intro f2 G2 J2 fq2 h140b
      exact hK f2 G2 J2 (FQ_tr fq fq2) (fun i => by rw [h140b, h140])
    have go : eliB P D hm k = true → ∀ l8 : Value, E scr false (d + 9 + 1) 206 77 [.ref 125, .int (nI r), .int (nI n), .int (nI what), .int (nI hm), .int (poB (poA P L D n hm k)), .int (ldZ (poA P L D n hm k)), .int (nI k), l8] [] (wo f G J c) K := by
      intro he l8
      obtain ⟨hwp, k144, kth, kr⟩ := eli_pt hP hw hh he
      have es : poA P L D n hm (k + 1) = (match poA P L D n hm k with
        | none => some (k, dOc (wkD P (gdA P) L n (ptD D 12 k)))
        | some x => if x.2 < dOc (wkD P (gdA P) L n (ptD D 12 k)) then some (k, dOc (wkD P (gdA P) L n (ptD D 12 k))) else some x) := by
        simp only [poA, he, if_true]
        rfl
      rw [b206_77]
      rw [show (12 : Int32) = nI 12 from rfl]
      simp (disch := omega) only [mO scr]
      have hx1 : CM (up2 G 135 12 (nI k)) r P (gdA P) L := CM_cg (fun q i hq => up2_q (by omega)) hx
      have hd1 : MD (up2 G 135 12 (nI k)) P (ptD D 12 k) := by
        refine ⟨by rw [up2_q (by decide)]; exact hd.1, ?_, fun v hv => by rw [up2_q (by decide)]; exact hd.2.2 v hv⟩
        intro v hv
        rw [up2_a]
        show _ = oI (plU (dPl D) 12 (some k) v)
        unfold plU
        by_cases e : v = 12
        · simp [e, oI]
        · simp only [e, if_false]; exact hd.2.1 v hv
      apply m205 hP hL hr hn hwp hx1 hd1
      intro f2 G2 J2 fq2 h140
      simp (disch := omega) only [mO scr]
      have fq3 : FQ f G J f2 (up2 G2 135 12 (nI hm)) J2 := by
        refine ⟨fq2.1, ?_, fq2.2.2⟩
        intro q i a1 a2 a3 a4
        have e1 := fq2.2.1 q i a1 a2 a3 a4
        unfold up2 at e1 ⊢
        by_cases e : q = 135 ∧ i = 12
        · rw [if_pos e, e.1, e.2]
          have := hd.2.1 12 hex
          rw [this, hh]
          rfl
        · rw [if_neg e] at e1 ⊢
          exact e1
      have h140b : ∀ i, up2 G2 135 12 (nI hm) 140 i = G 140 i := fun i => by rw [up2_q (by decide), h140, up2_q (by decide)]
      have h1 := (wfS_wk (B := gdA P) (L := L) hP n (ptD D 12 k) hwp)
      have h2 : dOc (ptD D 12 k) + cnP (dPl (ptD D 12 k)) (pPe P) = pPe P := by
        show dOc D + cnP (plU (dPl D) 12 (some k)) (pPe P) = pPe P
        rw [cn_pt p12]
        exact hoc
      have ev : pPe P - cnP (dPl (wkD P (gdA P) L n (ptD D 12 k))) (pPe P) = dOc (wkD P (gdA P) L n (ptD D 12 k)) := by
        have := h1.2
        omega
      have v12 := h1.1.2
      rw [ev]
      cases hxx : poA P L D n hm k with
      | none =>
        rw [hxx] at es
        rw [es] at next
        simp only [poB, if_true]
        rw [b206_116]
        exact next f2 _ J2 fq3 h140b _ _ _ rfl rfl
      | some x =>
        obtain ⟨x1, x12⟩ := po_lt hP hw hh k x hxx
        rw [hxx] at es
        simp only at es
        simp (disch := omega) only [poB, ldZ, NC, if_false]
        by_cases hlt : x.2 < dOc (wkD P (gdA P) L n (ptD D 12 k))
        · rw [if_pos hlt] at es
          rw [es] at next
          rw [if_neg (by omega), b206_116]
          exact next f2 _ J2 fq3 h140b _ _ _ rfl rfl
        · rw [if_neg hlt] at es
          rw [es] at next
          rw [if_pos (by omega)]
          exact next f2 _ J2 fq3 h140b _ _ _ rfl rfl
    rw [b206_53]
    simp (disch := omega) only [LI, NC, show ¬ 144 ≤ k by omega, if_false]
    by_cases hkh : k = hm
    · subst hkh
      simp only [if_true]
      exact go (by simp [eliB]) _
    · simp only [hkh, if_false]
      rw [m131 hP hx.1 hd hw.1 (by omega)]
      cases hf : frA P (dPl D) k with
      | true =>
        simp only [bz_t, show ¬ ((1 : Int32) = 0) by decide, if_false]
        exact go (by simp [eliB, hf]) _
      | false =>
        simp only [bz_f, if_true]
        have es : poA P L D n hm (k + 1) = poA P L D n hm k := by
          simp only [poA]
          rw [if_neg (by simp [eliB, hkh, hf])]
        rw [es] at next
        exact next f G J FQ_rf (fun _ => rfl) _ _ _ rfl rfl
end M8
