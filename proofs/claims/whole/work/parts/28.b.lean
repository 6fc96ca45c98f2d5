variable {scr : List Int32}
-- ===== one step back: the class =====
section AG2
variable {f G f' G' : Nat → Nat → Int32} {J J' : Nat → Nat → Int64} {c : Value} {d q : Nat} {P : Pn} {D : Dy} {B : Nat → Nat} {L : Lw} {th : Nat → Nat} {n : Nat}
def pl0 (pl : Nat → Option Nat) : Nat → Option Nat := fun v => if v < 12 then none else pl v
def lfT (th : Nat → Nat) (pl : Nat → Option Nat) : Nat → Nat → Option Nat
  | 0 => pl
  | i + 1 => plU (lfT th pl i) (th i) none
theorem lfT_at {pl : Nat → Option Nat} : ∀ i v, lfT th pl i v = none ∨ lfT th pl i v = pl v := by
  intro i
  induction i with
  | zero => intro v; exact Or.inr rfl
  | succ i ih =>
    intro v
    show plU (lfT th pl i) (th i) none v = none ∨ plU (lfT th pl i) (th i) none v = pl v
    unfold plU
    split
    · exact Or.inl rfl
    · exact ih v
theorem lfT_12 {pl : Nat → Option Nat} : ∀ i, (∀ k, k < i → th k < 12) → ∀ v, 12 ≤ v → lfT th pl i v = pl v := by
  intro i
  induction i with
  | zero => intro _ v _; rfl
  | succ i ih =>
    intro h v hv
    show plU (lfT th pl i) (th i) none v = pl v
    have := h i (by omega)
    unfold plU
    rw [if_neg (by omega)]
    exact ih (fun k hk => h k (by omega)) v hv
theorem lfT_th {pl : Nat → Option Nat} : ∀ i k, k < i → lfT th pl i (th k) = none := by
  intro i
  induction i with
  | zero => intro k hk; omega
  | succ i ih =>
    intro k hk
    show plU (lfT th pl i) (th i) none (th k) = none
    unfold plU
    split
    · rfl
    · rename_i h
      by_cases e : k = i
      · subst e; exact absurd rfl h
      · exact ih k (by omega)
/-- all who are there -/
def allT (D : Dy) (th : Nat → Nat) (n : Nat) : Prop := ∀ v, v < 12 → (dPl D v).isSome = true → ∃ i, i < n ∧ th i = v
theorem lfT_0 (hP : wfP P) (hth : okH P D th n) (hall : allT D th n) : lfT th (dPl D) n = pl0 (dPl D) := by
  have p12 := hP.2.2.2.1
  funext v
  unfold pl0
  by_cases hv : v < 12
  · rw [if_pos hv]
    cases e : dPl D v with
    | none =>
      rcases lfT_at (th := th) (pl := dPl D) n v with h | h
      · exact h
      · rw [h, e]
    | some t =>
      obtain ⟨i, hi, e2⟩ := hall v hv (by rw [e]; rfl)
      rw [← e2]
      exact lfT_th n i hi
  · rw [if_neg hv]
    exact lfT_12 n (fun k hk => by have := (hth.1 k hk).1; omega) v (by omega)
theorem wfL_lfT {pl : Nat → Option Nat} (hl : wfL P pl) : ∀ i, wfL P (lfT th pl i) := by
  intro i
  induction i with
  | zero => exact hl
  | succ i ih => exact wfL_lift ih
theorem lf_loop (hP : wfP P) (hth : okH P D th n) (hn : n ≤ 3) (hl : wfL P (dPl D)) {l1 : Int32} {K : Option Value → aH → Prop} : ∀ u i, n - i = u → i ≤ n → ∀ G, RD f G 60 (lfT th (dPl D) i, D.2) → (∀ k, k < n → G 82 k = nI (th k)) → (∀ G', (∀ r k, r ≠ 62 → r ≠ 63 → G' r k = G r k) → RD f G' 60 (lfT th (dPl D) n, D.2) → E scr false (d + 1) 45 39 [.ref 59, .int l1, .int (nI n), .int 0, .null, .null, .null] [] (wo f G' J c) K) → E scr false (d + 1) 45 13 [.ref 59, .int l1, .int (nI n), .int (nI i), .null, .null, .null] [] (wo f G J c) K := by
  have p12 := hP.2.2.2.1
  intro u
  induction u with
  | zero =>
    intro i hu hi G hd h82 hK
    have e : i = n := by omega
    subst e
    rw [b45_13]
    simp (disch := omega) only [NC, Nat.le_refl, if_true]
    exact hK G (fun _ _ _ _ => rfl) hd
  | succ u ih =>
    intro i hu hi G hd h82 hK
    have e82 := h82 i (by omega)
    have ti := (hth.1 i (by omega)).1
    have hwl := wfL_lfT (th := th) hl i
    rw [b45_13]
    simp (disch := omega) only [NC, show ¬ n ≤ i by omega, if_false, pLr scr, e82]
    rw [w59 (D := (lfT th (dPl D) i, D.2)) isS60 hP hd hwl (show th i < 14 by omega), nI_1]
    apply ih (i + 1) (by omega) (by omega)
    · exact RD_lift (D := (lfT th (dPl D) i, D.2)) hd hwl.2 (by omega)
    · intro k hk
      rw [lf_fr 82 k (by decide) (by decide)]
      exact h82 k hk
    · intro G' a1 a2
      apply hK G' _ a2
      intro r k b1 b2
      rw [a1 r k b1 b2]
      exact lf_fr r k b1 b2
theorem dig {code r : Nat} : code % 9 ^ (r + 1) / 9 ^ r = code / 9 ^ r % 9 ∧ code % 9 ^ (r + 1) % 9 ^ r = code % 9 ^ r := by
  rw [Nat.pow_succ]
  exact ⟨Nat.mod_mul_right_div_self .., Nat.mod_mul_right_mod ..⟩
theorem arr_loop {code : Nat} (hP : wfP P) (hth : okH P D th n) (hn : n ≤ 3) (hc : code < 2 ^ 31) (hl : wfL P (dPl D)) {K : Option Value → aH → Prop} : ∀ u i, n - i = u → i ≤ n → ∀ G pl, RS f G 3 P → RD f G 3 D → RS f G 60 P → RD f G 60 (pl, D.2) → wfL P pl → (∀ v, (pl v).isSome = true → (dPl D v).isSome = true) → (∀ k, k < n → G 82 k = nI (th k)) → (∀ G' pl', (∀ r k, r ≠ 62 → r ≠ 63 → G' r k = G r k) → RD f G' 60 (pl', D.2) → wfL P pl' → (∀ v, (pl' v).isSome = true → (dPl D v).isSome = true) → vC P B L D th n u (code % 9 ^ u) pl = tf (ldB P B L D th pl' n) → K (some (.int 1)) (wo f G' J c)) → (∀ G', (∀ r k, r ≠ 62 → r ≠ 63 → G' r k = G r k) → vC P B L D th n u (code % 9 ^ u) pl = 0 → K (some (.int 0)) (wo f G' J c)) → ∀ l4 l5 l6 : Value, E scr false (d + 2) 45 39 [.ref 59, .int (nI code), .int (nI n), .int (nI i), l4, l5, l6] [] (wo f G J c) K := by
  have p12 := hP.2.2.2.1
  intro u
  induction u with
  | zero =>
    intro i hu hi G pl hs3 hd3 hs hd hwl hsub h82 h1 h0 l4 l5 l6
    rw [b45_39]
    simp (disch := omega) only [NC, show n ≤ i by omega, if_true]
    exact h1 G pl (fun _ _ _ _ => rfl) hd hwl hsub rfl
  | succ u ih =>
    intro i hu hi G pl hs3 hd3 hs hd hwl hsub h82 h1 h0 l4 l5 l6
    have e82 := h82 i (by omega)
    obtain ⟨ti, h, hh, hth1⟩ := hth.1 i (by omega)
    have h144 := th_lt hP hth1
    have e3 := hd3.2.2.2.1 (th i) (by omega)
    rw [hh, oI_s] at e3
    have c9 := ch_lt (code := code) (i := i) (n := n)
    have ei : n - 1 - u = i := by omega
    have eg : plG (dPl D) (th i) = h := by unfold plG; rw [hh]; rfl
    have ec : code % 9 ^ (u + 1) / 9 ^ u = chO code i n := by
      rw [dig.1]
      unfold chO
      rw [show n - 1 - i = u by omega]
    have ev : vC P B L D th n (u + 1) (code % 9 ^ (u + 1)) pl = (match plc P h (chO code i n) with
      | none => 0
      | some r => if frA P pl r = true then vC P B L D th n u (code % 9 ^ u) (plU pl (th i) (some r)) else 0) := by
      simp only [vC, ei, eg, ec, dig.2]
      rfl
    rw [b45_39]
    simp (disch := omega) only [NC, show ¬ n ≤ i by omega, if_false]
    rw [w42 hc (by omega) (by omega)]
    simp (disch := omega) only [pLr scr, sC scr isS3, e82, e3, show (8 : Int32) = nI 8 from rfl, NC]
    have step : ∀ o : Option Nat, o = plc P h (chO code i n) → ∀ (l4 l5 : Int32) (l6 : Value), E scr false (d + 2) 45 91 [.ref 59, .int (nI code), .int (nI n), .int (nI i), .int l4, .int l5, l6] [.int (oI o)] (wo f G J c) K := by
      intro o ho l4 l5 l6
      rw [← ho] at ev
      rw [b45_91]
      cases o with
      | none =>
        simp only [oI_n, neg1_lt, if_true]
        exact h0 G (fun _ _ _ _ => rfl) ev
      | some r =>
        have rt := plc_th hP hth1 ho.symm
        have r144 := th_lt hP rt
        simp (disch := omega) only [oI_s, NC, if_false, pLr scr, irm12, div12]
        rw [w57 isS60 hP hs hd (show r < 144 by omega)]
        show (if bz (frA P pl r) = 0 then _ else _)
        cases hf : frA P pl r with
        | false =>
          simp only [bz_f, if_true]
          apply h0 G (fun _ _ _ _ => rfl)
          rw [ev]
          simp only [hf, Bool.false_eq_true, if_false]
        | true =>
          simp (disch := omega) only [bz_t, show ¬ ((1 : Int32) = 0) by decide, if_false, pLr scr, e82]
          rw [w60 (D := (pl, D.2)) isS60 hP hd hwl (show th i < 14 by omega) (show r < 144 by omega), nI_1]
          obtain ⟨-, -, f3⟩ := frA_th hf
          have pf : ∀ r' k, r' ≠ 62 → r' ≠ 63 → ptG G 60 (th i) (pl (th i)) r r' k = G r' k := fun r' k b1 b2 => pt_fr r' k b1 b2
          apply ih (i + 1) (by omega) (by omega) (ptG G 60 (th i) (pl (th i)) r) (plU pl (th i) (some r))
          · exact RS_cgx (fun _ => rfl) (fun k hk x => pf (3 + k) x (by omega) (by omega)) hs3
          · exact RD_cg rfl rfl (fun k => pf (3 + 2) k (by decide) (by decide)) (fun k => pf (3 + 3) k (by decide) (by decide)) (fun k => pf (3 + 6) k (by decide) (by decide)) hd3
          · unfold RS at hs ⊢
            simp only [pf (60 + 1) _ (by decide) (by decide), pf (60 + 4) _ (by decide) (by decide), pf (60 + 5) _ (by decide) (by decide)]
            exact hs
          · exact RD_put (D := (pl, D.2)) hd hwl.2 (by omega) (fun v _ => who_nn hP hwl f3 v)
          · exact wfL_fr hP hwl ti hf
          · intro v hv
            unfold plU at hv
            by_cases e : v = th i
            · rw [e, hh]; rfl
            · rw [if_neg e] at hv; exact hsub v hv
          · intro k hk
            rw [pf 82 k (by decide) (by decide)]
            exact h82 k hk
          · intro G' pl' b1 b2 b3 b4 b5
            apply h1 G' pl' (fun r' k x1 x2 => by rw [b1 r' k x1 x2, pf r' k x1 x2]) b2 b3 b4
            rw [ev]
            simp only [hf, if_true]
            exact b5
          · intro G' b1 b5
            apply h0 G' (fun r' k x1 x2 => by rw [b1 r' k x1 x2, pf r' k x1 x2])
            rw [ev]
            simp only [hf, if_true]
            exact b5
    by_cases h8 : 8 ≤ chO code i n
    · rw [if_pos h8]
      have e8 : chO code i n = 8 := by omega
      have := step (some h) (by unfold plc; rw [if_pos e8]) (nI (chO code i n)) (nI h) l6
      exact this
    · rw [if_neg h8, w58 isS3 hP hs3 h144 (by omega)]
      exact step (beO P h (chO code i n)) (by unfold plc; rw [if_neg (by omega)]) _ _ _
theorem w45 {code : Nat} (hq : isLw q) (hP : wfP P) (hth : okH P D th n) (hall : allT D th n) (hn : n ≤ 3) (hc : code < 9 ^ n) (hl : wfL P (dPl D)) (hk : KC f G J q P B L D) (hs : RS f G 60 P) (h82 : ∀ k, k < n → G 82 k = nI (th k)) {T : Int32 → aH → Prop}
    (h1 : ∀ f' G' pl', FP f G J f' G' J → KC f' G' J q P B L D → RS f' G' 60 P → (∀ k, k < n → G' 82 k = nI (th k)) → RD f' G' 60 (pl', D.2) → wfL P pl' → (∀ v, (pl' v).isSome = true → (dPl D v).isSome = true) → vC P B L D th n n code (pl0 (dPl D)) = tf (ldB P B L D th pl' n) → T 1 (wo f' G' J c))
    (h0 : ∀ f' G', FP f G J f' G' J → KC f' G' J q P B L D → RS f' G' 60 P → (∀ k, k < n → G' 82 k = nI (th k)) → vC P B L D th n n code (pl0 (dPl D)) = 0 → T 0 (wo f' G' J c)) : vI scr (d + 2) 45 [.ref 59, .int (nI code), .int (nI n)] (wo f G J c) T := by
  have p9 : 9 ^ n ≤ 729 := by
    have : 9 ^ n ≤ 9 ^ 3 := Nat.pow_le_pow_right (by decide) hn
    have e : (9 : Nat) ^ 3 = 729 := by decide
    omega
  unfold vI
  rw [u45_ok, en45, b45_0]
  simp only [pLr scr, true_and]
  apply cpP hq hk hs
  intro f1 G1 hs1 hd1 fp1 hk1 hG1 hf1
  rw [show (0 : Int32) = nI 0 from rfl]
  have h82' : ∀ k, k < n → G1 82 k = nI (th k) := fun k hk => by rw [hG1 82 k (by decide) (by decide) (by decide)]; exact h82 k hk
  apply lf_loop hP hth hn hl n 0 rfl (by omega) G1 hd1 h82'
  intro G2 a1 a2
  rw [lfT_0 hP hth hall] at a2
  have fpx : ∀ G3, (∀ r k, r ≠ 62 → r ≠ 63 → G3 r k = G1 r k) → FP f G J f1 G3 J ∧ KC f1 G3 J q P B L D ∧ RS f1 G3 60 P ∧ (∀ k, k < n → G3 82 k = nI (th k)) := by
    intro G3 b1
    have fp : FP f1 G1 J f1 G3 J := ⟨fun _ _ _ _ _ => rfl, fun r k x1 _ _ _ _ _ _ => b1 r k (by omega) (by omega), fun _ _ _ _ _ _ _ => rfl⟩
    refine ⟨FP_tr fp1 fp, KC_fp hq fp hk1.2.2.1 (fun r hr => by rw [b1 51 r (by decide) (by decide)]; exact hk1.2.2.2.1 r hr) hk1, ?_, fun k hk => by rw [b1 82 k (by decide) (by decide)]; exact h82' k hk⟩
    unfold RS at hs1 ⊢
    simp only [b1 (60 + 1) _ (by decide) (by decide), b1 (60 + 4) _ (by decide) (by decide), b1 (60 + 5) _ (by decide) (by decide)]
    exact hs1
  obtain ⟨-, k2, s2, g82⟩ := fpx G2 a1
  have em : code % 9 ^ n = code := Nat.mod_eq_of_lt hc
  have hw0 : wfL P (pl0 (dPl D)) := by
    rw [← lfT_0 hP hth hall]
    exact wfL_lfT hl n
  rw [show (0 : Int32) = nI 0 from rfl]
  apply arr_loop (B := B) (L := L) hP hth hn (by omega) hl n 0 rfl (by omega) G2 (pl0 (dPl D)) k2.1 k2.2.1 s2 a2 hw0
  · intro v hv
    unfold pl0 at hv
    split at hv
    · cases hv
    · exact hv
  · exact g82
  · intro G3 pl' b1 b2 b3 b4 b5
    rw [em] at b5
    obtain ⟨x1, x2, x3, x4⟩ := fpx G3 (fun r k y1 y2 => by rw [b1 r k y1 y2, a1 r k y1 y2])
    exact ⟨_, rfl, h1 f1 G3 pl' x1 x2 x3 x4 b2 b3 b4 b5⟩
  · intro G3 b1 b5
    rw [em] at b5
    obtain ⟨x1, x2, x3, x4⟩ := fpx G3 (fun r k y1 y2 => by rw [b1 r k y1 y2, a1 r k y1 y2])
    exact ⟨_, rfl, h0 f1 G3 x1 x2 x3 x4 b5⟩
theorem ld_s {pl : Nat → Option Nat} {i : Nat} : ldB P B L D th pl (i + 1) = (ldB P B L D th pl i && decide (dPl (stD P B L (pl, D.2)) (th i) = dPl D (th i))) := by
  unfold ldB
  rw [List.range_succ, List.all_append]
  simp
theorem cn_mono {a b : Nat → Option Nat} (h : ∀ v, (a v).isSome = true → (b v).isSome = true) : ∀ m, cnP a m ≤ cnP b m := by
  intro m
  induction m with
  | zero => exact Nat.le_refl _
  | succ m ih =>
    rw [cn_s, cn_s]
    have := h m
    by_cases e : (a m).isSome = true
    · rw [if_pos e, if_pos (this e)]; omega
    · rw [if_neg e]; omega
theorem ld_loop (hP : wfP P) (hth : okH P D th n) (hn : n ≤ 3) (hl : wfL P (dPl D)) {X : Dy} {pl : Nat → Option Nat} (hX : X = stD P B L (pl, D.2)) (hlX : wfL P (dPl X)) (hd3 : RD f G 3 D) (hd : RD f G 60 X) (h82 : ∀ k, k < n → G 82 k = nI (th k)) {l1 : Nat} {K : Option Value → aH → Prop} (hK : K (some (.int (bz (ldB P B L D th pl n)))) (wo f G J c)) : ∀ u i, n - i = u → i ≤ n → ldB P B L D th pl i = true → E scr false d 46 15 [.ref 59, .ref l1, .int (nI n), .int (nI i)] [] (wo f G J c) K := by
  have p12 := hP.2.2.2.1
  intro u
  induction u with
  | zero =>
    intro i hu hi hb
    have e : i = n := by omega
    subst e
    rw [b46_15]
    simp (disch := omega) only [NC, Nat.le_refl, if_true]
    rw [hb] at hK
    exact hK
  | succ u ih =>
    intro i hu hi hb
    have e82 := h82 i (by omega)
    have ti := (hth.1 i (by omega)).1
    have e1 := hd.2.2.2.1 (th i) (by omega)
    have e2 := hd3.2.2.2.1 (th i) (by omega)
    have hi2 := oI_inj (o := dPl X (th i)) (o' := dPl D (th i)) (fun a ha => by have := (wfL_lt hP hlX ha).2.1; omega) (fun a ha => by have := (wfL_lt hP hl ha).2.1; omega)
    rw [b46_15]
    simp (disch := omega) only [NC, show ¬ n ≤ i by omega, if_false, pLr scr, sC scr isS3, sC scr isS60, e82, e1, e2, hi2, nI_1]
    by_cases hx : dPl X (th i) = dPl D (th i)
    · rw [if_pos hx]
      apply ih (i + 1) (by omega) (by omega)
      rw [ld_s, hb, ← hX]
      simp [hx]
    · rw [if_neg hx]
      have hf : ldB P B L D th pl n = false := by
        cases hy : ldB P B L D th pl n with
        | false => rfl
        | true =>
          exfalso
          unfold ldB at hy
          rw [List.all_eq_true] at hy
          have := hy i (List.mem_range.mpr (by omega))
          rw [decide_eq_true_eq, ← hX] at this
          exact hx this
      rw [hf] at hK
      exact hK
theorem w46 {pl : Nat → Option Nat} (hq : isLw q) (hP : wfP P) (hL : wfLw L) (hth : okH P D th n) (hn : n ≤ 3) (hw : wfS P D) (hk : KC f G J q P B L D) (hs : RS f G 60 P) (h82 : ∀ k, k < n → G 82 k = nI (th k)) (hd : RD f G 60 (pl, D.2)) (hwl : wfL P pl) (hsub : ∀ v, (pl v).isSome = true → (dPl D v).isSome = true) {T : Int32 → aH → Prop} (hT : ∀ f' G' J', FP f G J f' G' J' → KC f' G' J' q P B L D → RS f' G' 60 P → (∀ k, k < n → G' 82 k = nI (th k)) → T (bz (ldB P B L D th pl n)) (wo f' G' J' c)) : vI scr (d + 4) 46 [.ref 59, .ref q, .int (nI n)] (wo f G J c) T := by
  have hwS : wfS P (pl, D.2) := ⟨hwl, by
    have := cn_mono hsub (pPe P)
    have := hw.2
    show dOc D + cnP pl (pPe P) ≤ 12
    omega⟩
  unfold vI
  rw [u46_ok, en46, b46_0]
  simp only [pLr scr, true_and]
  apply w79 isS60 hq hP hL hwS hd (KC_x hk hs)
  intro f1 G1 J1 hd1 hc1 hfr1 _ _
  have fp1 : FP f G J f1 G1 J1 := FP_60 hfr1
  have hk1 : KC f1 G1 J1 q P B L D := KC_fp hq fp1 hc1 (TG_fr isS60 hfr1 hk.2.2.2.1) hk
  have h82' : ∀ k, k < n → G1 82 k = nI (th k) := fun k hk => by
    rw [hfr1.2.1 82 k (by decide) (by decide) (by decide) (by decide) (by decide)]; exact h82 k hk
  rw [show (0 : Int32) = nI 0 from rfl]
  exact ld_loop hP hth hn hw.1 rfl (wfS_st hP hwS).1.1 hk1.2.1 hd1 h82' (K := fun r h => ∃ x, r = some (Value.int x) ∧ T x h) ⟨_, rfl, hT f1 G1 J1 fp1 hk1 (RS_fr isS60 hfr1 hs) h82'⟩ n 0 rfl (by omega) (by simp [ldB])
theorem cago_loop (hq : isLw q) (hP : wfP P) (hL : wfLw L) (hth : okH P D th n) (hall : allT D th n) (hn : n ≤ 3) (hw : wfS P D) {K : Option Value → aH → Prop} : ∀ u k, 9 ^ n - k = u → k ≤ 9 ^ n → ∀ f G J, KC f G J q P B L D → RS f G 60 P → (∀ k, k < n → G 82 k = nI (th k)) → (∀ f' G' J', FP f G J f' G' J' → KC f' G' J' q P B L D → K (some (.int (nI (sC9 P B L D th n n (pl0 (dPl D)))))) (wo f' G' J' c)) → E scr false (d + 5) 44 82 [.ref 59, .ref q, .int (nI n), .int (nI (sm (fun code => vC P B L D th n n code (pl0 (dPl D))) k)), .int (nI k)] [] (wo f G J c) K := by
  have p9 : 9 ^ n ≤ 729 := by
    have : 9 ^ n ≤ 9 ^ 3 := Nat.pow_le_pow_right (by decide) hn
    have e : (9 : Nat) ^ 3 = 729 := by decide
    omega
  obtain ⟨cr1, cr2⟩ := cr_of n (by omega)
  intro u
  induction u with
  | zero =>
    intro k hu hk f G J hkc hs h82 hK
    have e : k = 9 ^ n := by omega
    subst e
    rw [b44_82, ro_C, cr1, cr2]
    simp (disch := omega) only [NC, Nat.le_refl, if_true, true_and]
    rw [vC_sum]
    exact hK f G J FP_rf hkc
  | succ u ih =>
    intro k hu hk f G J hkc hs h82 hK
    have es : sm (fun code => vC P B L D th n n code (pl0 (dPl D))) (k + 1) = sm (fun code => vC P B L D th n n code (pl0 (dPl D))) k + vC P B L D th n n k (pl0 (dPl D)) := rfl
    have next : ∀ f' G' J' x, x = sm (fun code => vC P B L D th n n code (pl0 (dPl D))) (k + 1) → FP f G J f' G' J' → KC f' G' J' q P B L D → RS f' G' 60 P → (∀ k, k < n → G' 82 k = nI (th k)) → E scr false (d + 5) 44 114 [.ref 59, .ref q, .int (nI n), .int (nI x), .int (nI k)] [] (wo f' G' J' c) K := by
      intro f' G' J' x hx fp hk' hs' h82'
      rw [b44_114, nI_1, hx]
      apply ih (k + 1) (by omega) (by omega) f' G' J' hk' hs' h82'
      intro f2 G2 J2 fp2 hk2
      exact hK f2 G2 J2 (FP_tr fp fp2) hk2
    rw [b44_82, ro_C, cr1, cr2]
    simp (disch := omega) only [NC, show ¬ 9 ^ n ≤ k by omega, if_false, true_and]
    apply w45 (d := d + 2) hq hP hth hall hn (by omega) hw.1 hkc hs h82
    · intro f1 G1 pl' fp1 hk1 hs1 g82 hd1 hwl1 hsub1 hv
      simp only [show ¬ ((1 : Int32) = 0) by decide, if_false]
      apply w46 hq hP hL hth hn hw hk1 hs1 g82 hd1 hwl1 hsub1
      intro f2 G2 J2 fp2 hk2 hs2 g82'
      cases hb : ldB P B L D th pl' n with
      | false =>
        rw [hb] at hv
        simp only [bz_f, if_true]
        exact next f2 G2 J2 _ (by rw [es, hv]; rfl) (FP_tr fp1 fp2) hk2 hs2 g82'
      | true =>
        rw [hb] at hv
        simp only [bz_t, show ¬ ((1 : Int32) = 0) by decide, if_false, nI_1]
        exact next f2 G2 J2 _ (by rw [es, hv]; rfl) (FP_tr fp1 fp2) hk2 hs2 g82'
    · intro f1 G1 fp1 hk1 hs1 g82 hv
      simp only [if_true]
      exact next f1 G1 J _ (by rw [es, hv]; rfl) fp1 hk1 hs1 g82
theorem ac_loop (hP : wfP P) (hl : wfL P (dPl D)) {K : Option Value → aH → Prop} : ∀ u k, 12 - k = u → k ≤ 12 → ∀ G, RD f G 3 D → (∀ i, i < cnP (dPl D) k → G 82 i = nI (thF (dPl D) k i)) → (∀ G', (∀ r k, r ≠ 82 → G' r k = G r k) → (∀ i, i < cnP (dPl D) 12 → G' 82 i = nI (thF (dPl D) 12 i)) → E scr false (d + 1) 44 4 [.ref 59, .ref q, .int (nI (cnP (dPl D) 12)), .int (nI 12), .null] [] (wo f G' J c) K) → E scr false (d + 1) 44 4 [.ref 59, .ref q, .int (nI (cnP (dPl D) k)), .int (nI k), .null] [] (wo f G J c) K := by
  intro u
  induction u with
  | zero =>
    intro k hu hk G hd h82 hK
    have e : k = 12 := by omega
    subst e
    exact hK G (fun _ _ _ => rfl) h82
  | succ u ih =>
    intro k hu hk G hd h82 hK
    have e1 := hd.2.2.2.1 k (by omega)
    have cl := cn_le (pl := dPl D) (m := k)
    rw [b44_4]
    simp (disch := omega) only [show (12 : Int32) = nI 12 from rfl, NC, show ¬ 12 ≤ k by omega, if_false, pLr scr, sC scr isS3, e1]
    cases ho : dPl D k with
    | none =>
      simp only [oI_n, neg1_lt, if_true]
      rw [b44_32, nI_1]
      have en : cnP (dPl D) (k + 1) = cnP (dPl D) k := by rw [cn_s, ho]; rfl
      have et : thF (dPl D) (k + 1) = thF (dPl D) k := by simp only [thF, ho, Option.isSome_none, Bool.false_eq_true, if_false]
      rw [← en]
      apply ih (k + 1) (by omega) (by omega) G hd
      · rw [en, et]; exact h82
      · exact hK
    | some t =>
      have := (wfL_lt hP hl ho).2.1
      simp (disch := omega) only [oI_s, NC, if_false, pLr scr, nI_1]
      rw [b44_32, nI_1]
      have en : cnP (dPl D) (k + 1) = cnP (dPl D) k + 1 := by rw [cn_s, ho]; rfl
      have et : thF (dPl D) (k + 1) = upN (thF (dPl D) k) (cnP (dPl D) k) k := by simp only [thF, ho, Option.isSome_some, if_true]
      rw [← en]
      apply ih (k + 1) (by omega) (by omega)
      · exact RD_cg rfl rfl (fun k => up2_q (by decide)) (fun k => up2_q (by decide)) (fun k => up2_q (by decide)) hd
      · intro i hi
        rw [et, up2_a, upN_at]
        by_cases e : i = cnP (dPl D) k
        · rw [if_pos e, if_pos e]
        · rw [if_neg e, if_neg e]
          exact h82 i (by omega)
      · intro G' a1 a2
        exact hK G' (fun r k b => by rw [a1 r k b, up2_q b]) a2
/-- how many lead here -/
def agA (P : Pn) (B : Nat → Nat) (L : Lw) (D : Dy) : Int32 := if 3 < cnP (dPl D) (pPe P) then -2 else if pCo P * pRo P ≤ 36 then nI (sC9 P B L D (thF (dPl D) (pPe P)) (cnP (dPl D) (pPe P)) (cnP (dPl D) (pPe P)) (pl0 (dPl D))) else -2
theorem okH_th (hP : wfP P) (hl : wfL P (dPl D)) : okH P D (thF (dPl D) (pPe P)) (cnP (dPl D) (pPe P)) ∧ allT D (thF (dPl D) (pPe P)) (cnP (dPl D) (pPe P)) := by
  refine ⟨⟨?_, fun i k hi hk => thF_inj (pPe P) i k hi hk⟩, ?_⟩
  · intro i hi
    obtain ⟨h1, h2⟩ := thF_lt (pPe P) i hi
    refine ⟨h1, ?_⟩
    cases e : dPl D (thF (dPl D) (pPe P) i) with
    | none => rw [e] at h2; cases h2
    | some h => exact ⟨h, rfl, (wfL_lt hP hl e).2.2.1⟩
  · intro v hv hs
    apply thF_all (pPe P) v _ hs
    by_cases e : v < pPe P
    · exact e
    · rw [pl_no hP hl (by omega) hv] at hs
      cases hs
theorem w44 (hq : isLw q) (hP : wfP P) (hL : wfLw L) (hw : wfS P D) (hk : KC f G J q P B L D) {T : Int32 → aH → Prop} (hT : ∀ f' G' J', FP f G J f' G' J' → KC f' G' J' q P B L D → T (agA P B L D) (wo f' G' J' c)) : vI scr (d + 5) 44 [.ref 59, .ref q] (wo f G J c) T := by
  have p12 := hP.2.2.2.1
  have hco := hP.1
  have hro := hP.2.1
  have hmul : pCo P * pRo P ≤ 12 * 12 := Nat.mul_le_mul hco hro
  obtain ⟨t1, t2⟩ := th_12 hP hw.1 12 p12 (Nat.le_refl _)
  have cl := cn_le (pl := dPl D) (m := pPe P)
  unfold vI
  rw [u44_ok, en44, b44_0]
  refine ⟨rfl, ?_⟩
  rw [show (0 : Int32) = nI 0 from rfl]
  apply ac_loop hP hw.1 12 0 rfl (by omega) G hk.2.1 (fun i hi => by simp [cnP] at hi)
  intro G1 a1 a2
  have fp1 : FP f G J f G1 J := ⟨fun _ _ _ _ _ => rfl, fun r k _ _ _ _ _ _ b => a1 r k b, fun _ _ _ _ _ _ _ => rfl⟩
  have hk1 : KC f G1 J q P B L D := KC_fp hq fp1 hk.2.2.1 (fun r hr => by rw [a1 51 r (by decide)]; exact hk.2.2.2.1 r hr) hk
  have s0 := hk1.1.1.1
  have s1 := hk1.1.1.2.1
  have fin := hT f G1 J fp1 hk1
  unfold agA at fin
  rw [t1, t2] at a2
  rw [b44_4, t1]
  simp (disch := omega) only [LI, NC, Nat.le_refl, if_true]
  by_cases h3 : 3 < cnP (dPl D) (pPe P)
  · rw [if_pos h3] at fin ⊢
    exact ⟨_, rfl, fin⟩
  · rw [if_neg h3] at fin ⊢
    simp (disch := omega) only [pLr scr, sC scr isS3, s0, s1, pk_mul, NC]
    by_cases h36 : pCo P * pRo P ≤ 36
    · rw [if_pos h36]
      apply cpT hq hk1
      intro f2 G2 hs2 hd2 fp2 hk2 hG2 _
      obtain ⟨o1, o2⟩ := okH_th hP hw.1
      rw [show (0 : Int32) = nI 0 from rfl]
      apply cago_loop hq hP hL o1 o2 (by omega) hw (9 ^ cnP (dPl D) (pPe P)) 0 rfl (Nat.zero_le _) f2 G2 J hk2 hs2
      · intro k hk
        rw [hG2 82 k (by omega)]
        exact a2 k hk
      · intro f3 G3 J3 fp3 hk3
        have := hT f3 G3 J3 (FP_tr fp1 (FP_tr fp2 fp3)) hk3
        unfold agA at this
        rw [if_neg h3, if_pos h36] at this
        exact ⟨_, rfl, this⟩
    · rw [if_neg h36] at fin ⊢
      exact ⟨_, rfl, fin⟩
end AG2
