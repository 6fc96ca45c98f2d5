variable {scr : List Int32}
-- ===== the plain, read by the model: people, heralds, all =====
section RE9
variable {f G f' G' : Nat → Nat → Int32} {J J' : Nat → Nat → Int64} {c : Value} {d : Nat} {T : Tp} {p q : Nat} {P : Pn} {pl : Nat → Option Nat}
theorem MX_fe {x : Nat} (h : ∀ o k, ¬ (o = 125 ∧ (k = 20 ∨ k = 21)) → f' o k = f o k) (ht : ITm f G T) (h20 : ∃ q, q < 2 ^ 20 ∧ f' 125 20 = nI q) (h21 : f' 125 21 = nI x) (h0 : 0 < x) (h1 : x < 2 ^ 25) : MX f' G T x := ⟨ITm_fe ⟨h, fun _ _ _ => rfl⟩ ht, h20, h21, h0, h1⟩
theorem MX_mS {x : Nat} (hq : q < 2 ^ 20) (h : MX f G T x) : MX (mS f q) G T x := ⟨ITm_fe FE_m h.1, ⟨q, hq, mS_20⟩, by rw [mS_at (by decide)]; exact h.2.2.1, h.2.2.2⟩
/-- behind the two numbers -/
theorem spo_t (dm : DMm G P pl) (wd : WD P pl) {l1 : Int32} {X Y : Nat} (hX : X < 100000) (hY : Y < 100000) {K : Option Value → aH → Prop}
    (hK : ∀ (b' : Bool) (l7 : Value), (b' = true ↔ ((X < pCo P ∧ Y < pRo P) ∧ gkB (pKd P (12 * Y + X)) = true ∧ ∀ v, v < 14 → exB P v = true → G 134 v ≠ nI (12 * Y + X))) → E scr false (d + 2) 163 76 [.ref 125, .int l1, .int (nI X), .int (nI Y), .int (nI (12 * Y + X)), .int (bz b'), .int (nI 14), l7] [] (wo f G J c) K) :
    gR scr (wo f G J c) 125 9 5 (fun x8 : Nat => aI scr (wo f G J c) x8 0 (fun x9 : Int32 => (if x9 ≤ nI X then E scr false (d + 2) 163 70 [.ref 125, .int l1, .int (nI X), .int (nI Y), .int ((12 * nI Y) + nI X), .null, .null, .null] [] (wo f G J c) K else gR scr (wo f G J c) 125 9 5 (fun x10 : Nat => aI scr (wo f G J c) x10 1 (fun x11 : Int32 => (if x11 ≤ nI Y then E scr false (d + 2) 163 70 [.ref 125, .int l1, .int (nI X), .int (nI Y), .int ((12 * nI Y) + nI X), .null, .null, .null] [] (wo f G J c) K else gR scr (wo f G J c) 125 9 6 (fun x12 : Nat => aI scr (wo f G J c) x12 (((12 * nI Y) + nI X)) (fun x13 : Int32 => sI scr (d + 1) 129 [.int x13] (wo f G J c) (fun (x15 : Int32) (h14 : aH) => (if x15 = 0 then E scr false (d + 2) 163 70 [.ref 125, .int l1, .int (nI X), .int (nI Y), .int ((12 * nI Y) + nI X), .null, .null, .null] [] h14 K else E scr false (d + 2) 163 71 [.ref 125, .int l1, .int (nI X), .int (nI Y), .int ((12 * nI Y) + nI X), .null, .null, .null] [.int 1] h14 K)))))))))) := by
  have c12 := wd.1.1
  have r12 := wd.1.2.1
  have s0 := dm.1.1
  have s1 := dm.1.2.1
  have go : ∀ b : Bool, (b = true ↔ ((X < pCo P ∧ Y < pRo P) ∧ gkB (pKd P (12 * Y + X)) = true)) → E scr false (d + 2) 163 71 [.ref 125, .int l1, .int (nI X), .int (nI Y), .int (nI (12 * Y + X)), .null, .null, .null] [.int (bz b)] (wo f G J c) K := by
    intro b hb
    rw [b163_71, show (0 : Int32) = nI 0 from rfl]
    apply spo_lp dm wd 14 0 b rfl (by omega)
    intro b' l7 hb'
    apply hK b' l7
    rw [hb', hb]
    constructor
    · rintro ⟨⟨x1, x2⟩, x3⟩
      exact ⟨x1, x2, fun v v1 v2 => x3 v (Nat.zero_le _) v1 v2⟩
    · rintro ⟨x1, x2, x3⟩
      exact ⟨⟨x1, x2⟩, fun v _ v1 v2 => x3 v v1 v2⟩
  rw [show (12 : Int32) = nI 12 from rfl, pk_mul, nI_add]
  simp (disch := omega) only [mO scr, z130, s0, s1, NC]
  by_cases hx : pCo P ≤ X
  · rw [if_pos hx, b163_70]
    exact go false ⟨fun h => (by cases h), fun h => (by omega)⟩
  · rw [if_neg hx]
    by_cases hy : pRo P ≤ Y
    · rw [if_pos hy, b163_70]
      exact go false ⟨fun h => (by cases h), fun h => (by omega)⟩
    · rw [if_neg hy]
      have ht : thB P (12 * Y + X) = true := by
        unfold thB ceB
        rw [show (12 * Y + X) % 12 = X by omega, show (12 * Y + X) / 12 = Y by omega]
        simp
        omega
      have e131 := dm.2.1 _ ht
      have k4 := wd.1.2.2.2.2.2.1 (12 * Y + X)
      simp (disch := omega) only [mO scr, e131, sp129, gB_nI k4]
      cases hg : gkB (pKd P (12 * Y + X)) with
      | false =>
        simp only [bz_f, if_true]
        rw [b163_70]
        exact go false ⟨fun h => (by cases h), fun h => (by rw [hg] at h; cases h.2)⟩
      | true =>
        simp only [bz_t, n10, if_false]
        exact go true ⟨fun _ => ⟨by omega, hg⟩, fun _ => rfl⟩
theorem fr_spo (dm : DMm G P pl) (wd : WD P pl) {X Y : Nat} (hX : X < 12) (hY : Y < 12) : (((X < pCo P ∧ Y < pRo P) ∧ gkB (pKd P (12 * Y + X)) = true ∧ ∀ v, v < 14 → exB P v = true → G 134 v ≠ nI (12 * Y + X))) ↔ frA P pl (12 * Y + X) = true := by
  unfold frA
  rw [Bool.and_eq_true, Bool.and_eq_true, Option.isNone_iff_eq_none]
  have et : thB P (12 * Y + X) = true ↔ (X < pCo P ∧ Y < pRo P) := by
    unfold thB ceB
    rw [show (12 * Y + X) % 12 = X by omega, show (12 * Y + X) / 12 = Y by omega]
    simp
  rw [et]
  have ew : (∀ v, v < 14 → exB P v = true → G 134 v ≠ nI (12 * Y + X)) ↔ who pl (12 * Y + X) = none := by
    constructor
    · intro h
      apply who_none
      intro v hv e
      have hex := (wfL_lt wd.1 wd.2.1 e).2.2.2
      apply h v hv hex
      rw [dm.2.2.2.2 v hex, e]
      rfl
    · intro h v hv hex e
      rw [dm.2.2.2.2 v hex] at e
      have hno := who_nn wd.1 wd.2.1 h v
      cases ho : pl v with
      | none =>
        rw [ho] at e
        exact nI_ne_neg (show 12 * Y + X < 2 ^ 31 by omega) e.symm
      | some t =>
        rw [ho, oI_s, nI_eq (by have := (wfL_lt wd.1 wd.2.1 ho).2.1; omega) (by omega)] at e
        rw [ho, e] at hno
        exact hno rfl
  rw [ew]
theorem m163 (hT : TX T) (hC : MC f G T p P pl) (hp : p ≤ T.1) {K : Int32 → aH → Prop} (hf : ∀ x (v : Int32) f', spR T P pl p = .inl x → MX f' G T x → FE f G f' G → K v (wo f' G J c)) (hg : ∀ q e, spR T P pl p = .inr (q, e) → K (nI q) (wo (mS f e) G J c)) : vI scr (d + 6) 163 [.ref 125] (wo f G J c) K := by
  obtain ⟨mt, h21, dm, wd⟩ := hC
  have h400 := hT.1
  have sle := sk_le (T := T) hp
  have z1 : mS f (sk T p) 125 21 = 0 := by rw [mS_at (by decide)]; exact h21
  -- a fault was told ahead
  have fault : ∀ x f' X Y, X < 100000 → Y < 100000 → spR T P pl p = .inl x → MX f' G T x → FE f G f' G → ∀ l1 : Int32, ∀ (b' : Bool) (l7 : Value), E scr false (d + 6) 163 76 [.ref 125, .int l1, .int (nI X), .int (nI Y), .int (nI (12 * Y + X)), .int (bz b'), .int (nI 14), l7] [] (wo f' G J c) (fun r h => ∃ x, r = some (Value.int x) ∧ K x h) := by
    intro x f' X Y hX hY hs mx fe l1 b' l7
    rw [b163_76]
    simp (disch := omega) only [LI, NC, Nat.le_refl, if_true, mO scr, MX_ne mx, if_false]
    exact ⟨_, rfl, hf x _ f' hs mx fe⟩
  have hf0 := hf
  have hg0 := hg
  unfold spR at hf hg fault
  unfold vI
  rw [u163_ok, en163, b163_0]
  refine ⟨rfl, ?_⟩
  rw [m144 hT mt (by omega)]
  simp only [mO scr, mS_20]
  rw [show (0 : Int32) = nI 0 from rfl, show (11 : Int32) = nI 11 from rfl]
  apply m160 hT (MT_mS mt) (by omega) z1 (by decide) (by decide)
  · intro x v f1 hx hv e21 e20 fr
    rw [nuR_sk] at hx
    rw [hx] at fault
    obtain ⟨x0, x25⟩ := nu_x (by omega) hT hx
    have fr' : ∀ o k, ¬ (o = 125 ∧ (k = 20 ∨ k = 21)) → f1 o k = f o k := fun o k ho => by rw [fr o k ho, mS_at (fun e => ho ⟨e.1, Or.inl e.2⟩)]
    have mx : MX f1 G T x := MX_fe fr' mt.1 e20 e21 x0 x25
    obtain ⟨q1, hq1, mt1⟩ := MX_MT mx
    rw [m160x hT mt1 hq1 (MX_ne mx)]
    have mx2 := MX_mS (q := sk T q1) (sk_20 hT hq1) mx
    have := spo_t (scr := scr) (J := J) (c := c) (d := d + 4) (f := mS f1 (sk T q1)) dm wd (l1 := nI (sk T p)) (X := v) (Y := 0) hv (by decide) (K := fun r h => ∃ x, r = some (Value.int x) ∧ K x h) (fun b' l7 _ => fault x _ v 0 hv (by decide) rfl mx2 (FE_tr ⟨fr', fun _ _ _ => rfl⟩ FE_m) _ b' l7)
    exact this
  · intro X e1 hx
    rw [nuR_sk] at hx
    rw [hx] at fault hf hg
    dsimp only at fault hf hg
    obtain ⟨e1le, x11, -⟩ := nu_le hp hx
    rw [mS_mS]
    apply m160 hT (MT_mS mt) (by omega) (by rw [mS_at (by decide)]; exact h21) (by decide) (by decide)
    · intro y v f1 hy hv e21 e20 fr
      rw [hy] at fault
      obtain ⟨x0, x25⟩ := nu_x (by omega) hT hy
      have fr' : ∀ o k, ¬ (o = 125 ∧ (k = 20 ∨ k = 21)) → f1 o k = f o k := fun o k ho => by rw [fr o k ho, mS_at (fun e => ho ⟨e.1, Or.inl e.2⟩)]
      have mx : MX f1 G T y := MX_fe fr' mt.1 e20 e21 x0 x25
      have := spo_t (scr := scr) (J := J) (c := c) (d := d + 4) (f := f1) dm wd (l1 := nI (sk T p)) (X := X) (Y := v) (by omega) hv (K := fun r h => ∃ x, r = some (Value.int x) ∧ K x h) (fun b' l7 _ => fault y _ X v (by omega) hv rfl mx ⟨fr', fun _ _ _ => rfl⟩ _ b' l7)
      exact this
    · intro Y e2 hy
      rw [hy] at hf hg
      dsimp only at hf hg
      obtain ⟨e2le, y11, -⟩ := nu_le e1le hy
      rw [mS_mS]
      have z2 : mS f e2 125 21 = 0 := by rw [mS_at (by decide)]; exact h21
      have := spo_t (scr := scr) (J := J) (c := c) (d := d + 4) (f := mS f e2) dm wd (l1 := nI (sk T p)) (X := X) (Y := Y) (by omega) (by omega) (K := fun r h => ∃ x, r = some (Value.int x) ∧ K x h) (fun b' l7 hb' => by
        rw [fr_spo dm wd (by omega) (by omega)] at hb'
        rw [b163_76]
        simp (disch := omega) only [LI, NC, Nat.le_refl, if_true, mO scr, z2]
        cases b' with
        | false =>
          have hfr : ¬ frA P pl (12 * Y + X) = true := fun e => by have := hb'.mpr e; cases this
          rw [if_neg hfr] at hf
          simp only [bz_f, if_true]
          rw [show (5 : Int32) = nI 5 from rfl, m142 z2]
          have mx := MX_blame (x := 1 + 8 * sk T p + 5) (MT_mS (q := e2) mt) (by omega) (by omega) (by omega)
          exact ⟨_, rfl, hf _ _ _ rfl mx (FE_tr FE_m FE_x)⟩
        | true =>
          have hfr := hb'.mp rfl
          rw [if_pos hfr] at hg
          simp only [bz_t, n10, if_false]
          exact ⟨_, rfl, hg _ _ rfl⟩)
      exact this
theorem m164 (dm : DMm G P pl) (wd : WD P pl) {k n : Nat} (hk : k < 3) (hn : n ≤ 26) {K : Int32 → aH → Prop} : vI scr d 164 [.ref 125, .int (nI k), .int (nI n)] (wo f G J c) K = K (bz (if k = 0 then decide (12 ≤ pRo P ∨ 0 < pPe P + pHe P) else if k = 1 then decide (pRo P = 0 ∨ 12 ≤ pPe P) else decide (pRo P = 0 ∨ 2 ≤ pHe P))) (wo f G J c) := by
  have r12 := wd.1.2.1
  have p12 := wd.1.2.2.2.1
  have p2 := wd.1.2.2.2.2.1
  obtain ⟨⟨s0, s1, s2, s3⟩, -⟩ := dm
  unfold vI
  rw [u164_ok, en164, b164_0]
  simp (disch := omega) only [mO scr, z130, s2, s3, nI_add, NC, b164_21, show (32 : Int32) = nI 32 from rfl, show ¬ n = 32 by omega, if_false, s1, show (12 : Int32) = nI 12 from rfl, show (2 : Int32) = nI 2 from rfl, b164_49, b164_93, ex_i, true_and, show (nI 2 : Int32) = nI 2 from rfl, n10, if_true]
  by_cases k0 : k = 0
  · simp only [k0, if_true]
    by_cases h0 : pPe P + pHe P = 0
    · rw [if_pos h0]
      by_cases h12 : pRo P = 12
      · rw [if_pos h12]
        simp [h12, bz]
      · rw [if_neg h12]
        have : ¬ (12 ≤ pRo P ∨ 0 < pPe P + pHe P) := by omega
        simp [this, bz]
    · rw [if_neg h0]
      have : (12 ≤ pRo P ∨ 0 < pPe P + pHe P) := by omega
      simp [this, bz]
  · simp only [k0, if_false]
    have e : ∀ x : Prop, (if pPe P + pHe P = 0 then x else x) = x := fun x => by split <;> rfl
    rw [e]
    by_cases hr : pRo P = 0
    · rw [if_pos hr]
      by_cases k1 : k = 1
      · simp [k1, hr, bz]
      · simp [k1, hr, bz]
    · rw [if_neg hr]
      by_cases k1 : k = 1
      · rw [if_pos k1]
        by_cases h : pPe P = 12
        · rw [if_pos h]
          simp [k1, h, bz]
        · rw [if_neg h]
          have : ¬ (pRo P = 0 ∨ 12 ≤ pPe P) := by omega
          simp [k1, this, bz]
      · rw [if_neg k1]
        by_cases h : pHe P = 2
        · rw [if_pos h]
          simp [k1, h, bz]
        · rw [if_neg h]
          have : ¬ (pRo P = 0 ∨ 2 ≤ pHe P) := by omega
          simp [k1, this, bz]
end RE9
