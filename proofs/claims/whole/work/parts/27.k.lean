variable {scr : List Int32}
section CY
variable {f G f' G' : Nat → Nat → Int32} {J J' : Nat → Nat → Int64} {c : Value} {d : Nat} {P : Pn} {D : Dy} {L : Lw}
theorem mcrs_loop {r hm n m what : Nat} (hP : wfP P) (hL : wfLw L) (hr : r < 6) (hw : wfS P D) (hoc : dOc D + cnP (dPl D) (pPe P) = pPe P) (hh : dPl D 12 = some hm) (hn : n ≤ 3) (hm20 : m < 2 ^ 20) (hwh : what ≤ 3) {K : Option Value → aH → Prop} : ∀ u k, 9 ^ n - k = u → k ≤ 9 ^ n → ∀ f G J, CM G r P (gdA P) L → MD G P D → (∀ f' G' J', FQ f G J f' G' J' → (∀ i, G' 140 i = G 140 i) → K (some (.int (if what = 0 ∨ what ≤ n then coR (coA P (gdA P) L D n m (9 ^ n)) n what else -2))) (wo f' G' J' c)) → ∀ l9 : Value, E scr false (d + 10) 209 96 [.ref 125, .int (nI r), .int (nI n), .int (nI m), .int (nI what), .int (nI (9 ^ n)), .int (nI (coB (coA P (gdA P) L D n m k))), .int (ldM (coA P (gdA P) L D n m k)), .int (nI k), l9] [] (wo f G J c) K := by
  have p9 : 9 ^ n ≤ 729 := by
    have : 9 ^ n ≤ 9 ^ 3 := Nat.pow_le_pow_right (by decide) hn
    have e : (9 : Nat) ^ 3 = 729 := by decide
    omega
  intro u
  induction u with
  | zero =>
    intro k hu hk f G J hx hd hK l9
    have e : k = 9 ^ n := by omega
    have h := hK f G J FQ_rf (fun _ => rfl)
    rw [b209_96, e]
    simp (disch := omega) only [NC, Nat.le_refl, if_true]
    unfold coR at h
    by_cases h0 : what = 0
    · rw [if_pos (Or.inl h0), if_pos h0] at h
      rw [if_pos h0]
      exact h
    · rw [if_neg h0]
      by_cases hle : what ≤ n
      · rw [if_pos (Or.inr hle), if_neg h0] at h
        rw [if_pos hle]
        have hbst : coB (coA P (gdA P) L D n m (9 ^ n)) < 2 ^ 31 := by
          unfold coB
          split
          · decide
          · rename_i x hx'
            have := (coA_lt hP hw hoc hh (9 ^ n) x hx').1
            omega
        rw [nI_s1 (by omega), m207 hbst (by omega) (by omega)]
        exact h
      · rw [if_neg (fun e => by omega)] at h
        rw [if_neg hle]
        exact h
  | succ u ih =>
    intro k hu hk f G J hx hd hK l9
    rw [b209_96]
    simp (disch := omega) only [NC, show ¬ 9 ^ n ≤ k by omega, if_false]
    apply m208 hP hL hr hw hoc hh (by omega) hn hm20 hx hd
    intro f1 G1 J1 fq1 h140
    rw [coV_O]
    have next : ∀ (a b s0 l7 : Int32), a = nI (coB (coA P (gdA P) L D n m (k + 1))) → b = ldM (coA P (gdA P) L D n m (k + 1)) → E scr false (d + 10) 209 144 [.ref 125, .int (nI r), .int (nI n), .int (nI m), .int (nI what), .int (nI (9 ^ n)), .int a, .int l7, .int (nI k), .int s0] [.int b] (wo f1 G1 J1 c) K := by
      intro a b s0 l7 ha hb'
      rw [b209_144, nI_1, ha, hb']
      apply ih (k + 1) (by omega) (by omega) f1 G1 J1 (CM_fq fq1 (fun q hq => by rw [h140]; exact hx.2.2 q hq) hx) (MD_fq fq1 hd)
      intro f2 G2 J2 fq2 h140b
      exact hK f2 G2 J2 (FQ_tr fq1 fq2) (fun i => by rw [h140b, h140])
    have keep : oI (coO P (gdA P) L D k n m) ≤ ldM (coA P (gdA P) L D n m k) → coA P (gdA P) L D n m (k + 1) = coA P (gdA P) L D n m k → (if oI (coO P (gdA P) L D k n m) ≤ ldM (coA P (gdA P) L D n m k) then E scr false (d + 10) 209 128 [.ref 125, .int (nI r), .int (nI n), .int (nI m), .int (nI what), .int (nI (9 ^ n)), .int (nI (coB (coA P (gdA P) L D n m k))), .int (ldM (coA P (gdA P) L D n m k)), .int (nI k), .int (oI (coO P (gdA P) L D k n m))] [.int (nI (coB (coA P (gdA P) L D n m k)))] (wo f1 G1 J1 c) K else E scr false (d + 10) 209 128 [.ref 125, .int (nI r), .int (nI n), .int (nI m), .int (nI what), .int (nI (9 ^ n)), .int (nI (coB (coA P (gdA P) L D n m k))), .int (ldM (coA P (gdA P) L D n m k)), .int (nI k), .int (oI (coO P (gdA P) L D k n m))] [.int (nI k)] (wo f1 G1 J1 c) K) := by
      intro hle es
      rw [if_pos hle, b209_128, if_pos hle]
      exact next _ _ _ _ (by rw [es]) (by rw [es])
    have repl : ∀ v, coO P (gdA P) L D k n m = some v → ¬ nI v ≤ ldM (coA P (gdA P) L D n m k) → coA P (gdA P) L D n m (k + 1) = some (k, v) → (if oI (coO P (gdA P) L D k n m) ≤ ldM (coA P (gdA P) L D n m k) then E scr false (d + 10) 209 128 [.ref 125, .int (nI r), .int (nI n), .int (nI m), .int (nI what), .int (nI (9 ^ n)), .int (nI (coB (coA P (gdA P) L D n m k))), .int (ldM (coA P (gdA P) L D n m k)), .int (nI k), .int (oI (coO P (gdA P) L D k n m))] [.int (nI (coB (coA P (gdA P) L D n m k)))] (wo f1 G1 J1 c) K else E scr false (d + 10) 209 128 [.ref 125, .int (nI r), .int (nI n), .int (nI m), .int (nI what), .int (nI (9 ^ n)), .int (nI (coB (coA P (gdA P) L D n m k))), .int (ldM (coA P (gdA P) L D n m k)), .int (nI k), .int (oI (coO P (gdA P) L D k n m))] [.int (nI k)] (wo f1 G1 J1 c) K) := by
      intro v ho hno es
      have hno' : ¬ oI (coO P (gdA P) L D k n m) ≤ ldM (coA P (gdA P) L D n m k) := by rw [ho]; exact hno
      rw [if_neg hno', b209_128, if_neg hno']
      exact next _ _ _ _ (by rw [es]; rfl) (by rw [es, ho]; rfl)
    cases ho : coO P (gdA P) L D k n m with
    | none =>
      rw [ho] at keep
      apply keep
      · cases hx' : coA P (gdA P) L D n m k with
        | none => decide
        | some x =>
          have := (coA_lt hP hw hoc hh k x hx').2
          exact Int32.le_of_lt (Int32.lt_of_lt_of_le (by decide : (-1 : Int32) < 0) (nI_pos' (show x.2 < 2 ^ 31 by omega)))
      · simp only [coA, ho]
    | some v =>
      have v12 : v ≤ 12 := by
        have ho' := ho
        unfold coO at ho'
        cases hX : trA P (gdA P) L D k n n with
        | none => rw [hX] at ho'; cases ho'
        | some X => rw [hX] at ho'; cases ho'; exact (co_bd (m := m) hP hw hoc hh hX).2.1
      rw [ho] at keep repl
      cases hx' : coA P (gdA P) L D n m k with
      | none =>
        rw [hx'] at repl
        apply repl v rfl
        · intro e
          have : nI v < 0 := Int32.lt_of_le_of_lt e (by decide)
          exact nI_pos (by omega) this
        · simp only [coA, ho, hx']
      | some x =>
        have x12 := (coA_lt hP hw hoc hh k x hx').2
        rw [hx'] at keep repl
        by_cases hlt : x.2 < v
        · apply repl v rfl
          · show ¬ nI v ≤ nI x.2
            rw [nI_leI (by omega) (by omega)]; omega
          · simp only [coA, ho, hx', hlt, if_true]
        · apply keep
          · show nI v ≤ nI x.2
            exact nI_le (by omega) (by omega)
          · simp only [coA, ho, hx', hlt, if_false]
end CY
