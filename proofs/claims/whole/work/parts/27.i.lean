variable {scr : List Int32}
section CW
variable {f G f' G' : Nat → Nat → Int32} {J J' : Nat → Nat → Int64} {c : Value} {d p q : Nat} {P : Pn} {D : Dy} {L : Lw}
def coB (o : Option (Nat × Nat)) : Nat := match o with
  | none => 0
  | some x => x.1
/-- what lead answers -/
def coR (o : Option (Nat × Nat)) (n what : Nat) : Int32 := if what = 0 then ldM o else nI (chO (coB o) (what - 1) n)
theorem course_loop {hm n m what : Nat} (hq : isLw q) (hP : wfP P) (hL : wfLw L) (hw : wfS P D) (hoc : dOc D + cnP (dPl D) (pPe P) = pPe P) (hh : dPl D 12 = some hm) (hn : n ≤ 3) (hm20 : m < 2 ^ 20) (hwh : what ≤ n) {K : Option Value → aH → Prop} : ∀ u k, 9 ^ n - k = u → k ≤ 9 ^ n → ∀ f G J, KC f G J q P (gdA P) L D → RS f G 60 P → (∀ f' G' J', FP f G J f' G' J' → KC f' G' J' q P (gdA P) L D → K (some (.int (coR (coA P (gdA P) L D n m (9 ^ n)) n what))) (wo f' G' J' c)) → ∀ l9 : Value, E scr false (d + 6) 40 43 [.ref 59, .ref q, .int (nI n), .int (nI m), .int (nI what), .int (nI (boA P D (n + m))), .int (nI (coB (coA P (gdA P) L D n m k))), .int (ldM (coA P (gdA P) L D n m k)), .int (nI k), l9] [] (wo f G J c) K := by
  have p9 : 9 ^ n ≤ 729 := by
    have : 9 ^ n ≤ 9 ^ 3 := Nat.pow_le_pow_right (by decide) hn
    have e : (9 : Nat) ^ 3 = 729 := by decide
    omega
  obtain ⟨c1, c2⟩ := cr_of n (by omega)
  have hb : boA P D (n + m) ≤ 24 := by
    have h1 := hw.2
    have h2 := sm_le1 (F := boF P D (n + m)) (n := 12) (fun i => boF_1)
    show dOc D + sm (boF P D (n + m)) 12 ≤ 24
    omega
  have fin : ∀ k f G J, coA P (gdA P) L D n m k = coA P (gdA P) L D n m (9 ^ n) → k ≤ 9 ^ n → KC f G J q P (gdA P) L D → (∀ f' G' J', FP f G J f' G' J' → KC f' G' J' q P (gdA P) L D → K (some (.int (coR (coA P (gdA P) L D n m (9 ^ n)) n what))) (wo f' G' J' c)) → ∀ l9 : Value, E scr false (d + 6) 40 92 [.ref 59, .ref q, .int (nI n), .int (nI m), .int (nI what), .int (nI (boA P D (n + m))), .int (nI (coB (coA P (gdA P) L D n m k))), .int (ldM (coA P (gdA P) L D n m k)), .int (nI k), l9] [] (wo f G J c) K := by
    intro k f G J ek hk hkc hK l9
    have h := hK f G J FP_rf hkc
    unfold coR at h
    rw [ek, b40_92]
    simp (disch := omega) only [NC]
    by_cases h0 : what = 0
    · rw [if_pos h0] at h ⊢; exact h
    · rw [if_neg h0] at h ⊢
      have hbst : coB (coA P (gdA P) L D n m (9 ^ n)) < 2 ^ 31 := by
        unfold coB
        split
        · decide
        · rename_i x hx
          have := (coA_lt hP hw hoc hh (9 ^ n) x hx).1
          omega
      rw [nI_s1 (by omega), w42 hbst (by omega) (by omega)]
      exact h
  intro u
  induction u with
  | zero =>
    intro k hu hk f G J hkc hs hK l9
    have e : k = 9 ^ n := by omega
    rw [b40_43, ro_C, c1, c2]
    simp (disch := omega) only [NC, show 9 ^ n ≤ k by omega, if_true, true_and]
    exact fin k f G J (by rw [e]) hk hkc hK l9
  | succ u ih =>
    intro k hu hk f G J hkc hs hK l9
    rw [b40_43, ro_C, c1, c2]
    simp (disch := omega) only [NC, show ¬ 9 ^ n ≤ k by omega, if_false, true_and]
    by_cases hstop : nI (boA P D (n + m)) ≤ ldM (coA P (gdA P) L D n m k)
    · rw [if_pos hstop]
      cases hx : coA P (gdA P) L D n m k with
      | none =>
        rw [hx] at hstop
        have : nI (boA P D (n + m)) < 0 := Int32.lt_of_le_of_lt hstop (by decide)
        exact absurd this (nI_pos (by omega))
      | some x =>
        have x12 := (coA_lt hP hw hoc hh k x hx).2
        rw [hx] at hstop
        have hle : boA P D (n + m) ≤ x.2 := (nI_leI (by omega) (by omega)).mp hstop
        have hall := co_stop hP hw hoc hh hx hle (9 ^ n - k)
        rw [show k + (9 ^ n - k) = 9 ^ n by omega] at hall
        rw [← hx]
        exact fin k f G J (by rw [hx, hall]) hk hkc hK l9
    · rw [if_neg hstop]
      apply w41 hq hP hL hw hh (by omega) hn hm20 hkc hs
      intro f1 G1 J1 fp1 hk1 hs1
      rw [coV_O]
      have next : ∀ (a b s0 : Int32), a = nI (coB (coA P (gdA P) L D n m (k + 1))) → b = ldM (coA P (gdA P) L D n m (k + 1)) → E scr false (d + 6) 40 86 [.ref 59, .ref q, .int (nI n), .int (nI m), .int (nI what), .int (nI (boA P D (n + m))), .int a, .int b, .int (nI k), .int s0] [] (wo f1 G1 J1 c) K := by
        intro a b s0 ha hb'
        rw [b40_86, nI_1, ha, hb']
        apply ih (k + 1) (by omega) (by omega) f1 G1 J1 hk1 hs1
        intro f2 G2 J2 fp2 hk2
        exact hK f2 G2 J2 (FP_tr fp1 fp2) hk2
      cases ho : coO P (gdA P) L D k n m with
      | none =>
        have es : coA P (gdA P) L D n m (k + 1) = coA P (gdA P) L D n m k := by simp only [coA, ho]
        rw [es] at next
        rw [if_pos]
        · exact next _ _ _ rfl rfl
        · cases hx : coA P (gdA P) L D n m k with
          | none => decide
          | some x =>
            have := (coA_lt hP hw hoc hh k x hx).2
            exact Int32.le_of_lt (Int32.lt_of_lt_of_le (by decide : (-1 : Int32) < 0) (nI_pos' (show x.2 < 2 ^ 31 by omega)))
      | some v =>
        have v12 : v ≤ 12 := by
          unfold coO at ho
          cases hX : trA P (gdA P) L D k n n with
          | none => rw [hX] at ho; cases ho
          | some X => rw [hX] at ho; cases ho; exact (co_bd (m := m) hP hw hoc hh hX).2.1
        simp only [oI_s]
        cases hx : coA P (gdA P) L D n m k with
        | none =>
          have es : coA P (gdA P) L D n m (k + 1) = some (k, v) := by simp only [coA, ho, hx]
          rw [es] at next
          have hno : ¬ nI v ≤ ldM none := by
            intro e
            have : nI v < 0 := Int32.lt_of_le_of_lt e (by decide)
            exact nI_pos (by omega) this
          simp only [hno, if_false]
          exact next _ _ _ rfl rfl
        | some x =>
          have x12 := (coA_lt hP hw hoc hh k x hx).2
          simp (disch := omega) only [ldM, NC]
          by_cases hlt : x.2 < v
          · have es : coA P (gdA P) L D n m (k + 1) = some (k, v) := by simp only [coA, ho, hx, hlt, if_true]
            rw [es] at next
            rw [if_neg (by omega)]
            exact next _ _ _ rfl rfl
          · have es : coA P (gdA P) L D n m (k + 1) = some x := by simp only [coA, ho, hx, hlt, if_false]
            rw [es] at next
            rw [if_pos (by omega)]
            exact next _ _ _ rfl rfl
theorem w40 {hm n m what : Nat} (hq : isLw q) (hP : wfP P) (hL : wfLw L) (hw : wfS P D) (hoc : dOc D + cnP (dPl D) (pPe P) = pPe P) (hh : dPl D 12 = some hm) (hn : n ≤ 3) (hm20 : m < 2 ^ 20) (hwh : what ≤ n) (hk : KC f G J q P (gdA P) L D) {T : Int32 → aH → Prop} (hT : ∀ f' G' J', FP f G J f' G' J' → KC f' G' J' q P (gdA P) L D → T (coR (coA P (gdA P) L D n m (9 ^ n)) n what) (wo f' G' J' c)) : vI scr (d + 6) 40 [.ref 59, .ref q, .int (nI n), .int (nI m), .int (nI what)] (wo f G J c) T := by
  have h2 := hw.2
  unfold vI
  rw [u40_ok, en40, b40_0]
  simp (disch := omega) only [NC, if_false, ro_N, show Int32.ofNat 4 = nI 4 from rfl, show n < 4 by omega, if_true, pLr scr, true_and]
  apply cpT hq hk
  intro f1 G1 hs1 hd1 fp1 hk1 _ _
  rw [nI_add, w38 hP hw.1 hk1.2.1 hk1.2.2.2.1 (by omega) (by omega)]
  have := course_loop (scr := scr) (c := c) (d := d) hq hP hL hw hoc hh hn hm20 hwh (K := fun r h => ∃ x, r = some (Value.int x) ∧ T x h) (9 ^ n) 0 rfl (Nat.zero_le _) f1 G1 J hk1 hs1 (fun f2 G2 J2 fp2 hk2 => ⟨_, rfl, hT f2 G2 J2 (FP_tr fp1 fp2) hk2⟩) .null
  exact this
end CW
