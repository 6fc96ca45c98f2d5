variable {scr : List Int32}
-- ===== the plain, read by the model =====
section RE8
variable {f G f' G' : Nat → Nat → Int32} {J J' : Nat → Nat → Int64} {c : Value} {d : Nat} {T : Tp} {p q : Nat} {P : Pn} {pl : Nat → Option Nat}
def DMm (G : Nat → Nat → Int32) (P : Pn) (pl : Nat → Option Nat) : Prop := (G 130 0 = nI (pCo P) ∧ G 130 1 = nI (pRo P) ∧ G 130 2 = nI (pPe P) ∧ G 130 3 = nI (pHe P)) ∧ (∀ q, thB P q = true → G 131 q = nI (pKd P q)) ∧ (∀ w, w < pPe P → G 132 w = nI (pAg P w)) ∧ (∀ w, w < pPe P → G 133 w = nI (pSo P w)) ∧ (∀ w, exB P w = true → G 134 w = oI (pl w))
def MC (f G : Nat → Nat → Int32) (T : Tp) (q : Nat) (P : Pn) (pl : Nat → Option Nat) : Prop := MT f G T q ∧ f 125 21 = 0 ∧ DMm G P pl ∧ WD P pl
def MX (f G : Nat → Nat → Int32) (T : Tp) (x : Nat) : Prop := ITm f G T ∧ (∃ q, q < 2 ^ 20 ∧ f 125 20 = nI q) ∧ f 125 21 = nI x ∧ 0 < x ∧ x < 2 ^ 25
def FE (f G f' G' : Nat → Nat → Int32) : Prop := (∀ o k, ¬ (o = 125 ∧ (k = 20 ∨ k = 21)) → f' o k = f o k) ∧ (∀ q k, ¬ (130 ≤ q ∧ q ≤ 134) → G' q k = G q k)
theorem FE_rf : FE f G f G := ⟨fun _ _ _ => rfl, fun _ _ _ => rfl⟩
theorem FE_tr {f1 G1 f2 G2 : Nat → Nat → Int32} (h : FE f G f1 G1) (h' : FE f1 G1 f2 G2) : FE f G f2 G2 := ⟨fun o k a => (h'.1 o k a).trans (h.1 o k a), fun q k a => (h'.2 q k a).trans (h.2 q k a)⟩
theorem FE_m {q : Nat} : FE f G (mS f q) G := ⟨fun o k a => mS_at (fun e => a ⟨e.1, Or.inl e.2⟩), fun _ _ _ => rfl⟩
theorem FE_x {v : Int32} : FE f G (up2 f 125 21 v) G := ⟨fun o k a => by unfold up2; rw [if_neg (fun e => a ⟨e.1, Or.inr e.2⟩)], fun _ _ _ => rfl⟩
theorem ITm_fe (h : FE f G f' G') (ht : ITm f G T) : ITm f' G' T := ⟨by rw [h.1 125 19 (by omega)]; exact ht.1, fun i hi => by rw [h.2 143 i (by omega)]; exact ht.2.1 i hi, by rw [h.1 125 28 (by omega)]; exact ht.2.2⟩
theorem MX_ne {x : Nat} (h : MX f G T x) : ¬ f 125 21 = 0 := by rw [h.2.2.1]; exact nI_ne0 h.2.2.2.1 (by have := h.2.2.2.2; omega)
theorem MC_mS (h : MC f G T p P pl) : MC (mS f q) G T q P pl := ⟨MT_mS h.1, by rw [mS_at (by decide)]; exact h.2.1, h.2.2⟩
theorem MX_blame {x : Nat} (h : MT f G T q) (hq : q < 2 ^ 20) (h0 : 0 < x) (h1 : x < 2 ^ 25) : MX (up2 f 125 21 (nI x)) G T x := ⟨ITm_fe FE_x h.1, ⟨q, hq, by rw [up2_k (by decide)]; exact h.2⟩, up2_s, h0, h1⟩
theorem MX_MT {x : Nat} (h : MX f G T x) : ∃ q, q < 2 ^ 20 ∧ MT f G T q := by
  obtain ⟨h1, ⟨q, hq, e⟩, -⟩ := h
  exact ⟨q, hq, h1, e⟩
theorem m161 (hT : TX T) (h : MT f G T q) (hq : q < 2 ^ 20) {K : Int32 → aH → Prop} : vI scr d 161 [.ref 125] (wo f G J c) K = K (oI (kdO (ch8 T q))) (wo f G J c) := by
  have h400 := hT.1
  have e1 := h.1.1
  have e2 := h.2
  unfold vI
  rw [u161_ok, en161, b161_0]
  by_cases hl : q < T.1
  · have e3 := h.1.2.1 q hl
    have b1 := (byc hT hl (k := 35) (by decide)).1
    have b2 := (byc hT hl (k := 46) (by decide)).1
    have b3 := (byc hT hl (k := 71) (by decide)).1
    have b4 := (byc hT hl (k := 126) (by decide)).1
    simp (disch := omega) only [mO scr, e1, e2, NC, hl, if_true, e3, show (35 : Int32) = nI 35 from rfl, show (46 : Int32) = nI 46 from rfl, show (71 : Int32) = nI 71 from rfl, show (126 : Int32) = nI 126 from rfl, b1, b2, b3, b4, b161_64, b161_66, b161_68, b161_70, b161_72, ex_i, true_and]
    unfold kdO
    by_cases h1 : ch8 T q = 35
    · simp [h1, oI, show nI 1 = (1 : Int32) from rfl]
    · by_cases h2 : ch8 T q = 46
      · simp [h2, oI, show nI 0 = (0 : Int32) from rfl]
      · by_cases h3 : ch8 T q = 71
        · simp [h3, oI, show nI 3 = (3 : Int32) from rfl]
        · by_cases h4 : ch8 T q = 126
          · simp [h4, oI, show nI 2 = (2 : Int32) from rfl]
          · simp [h1, h2, h3, h4, oI]
  · have e : kdO (ch8 T q) = none := by rw [ch8_ge (by omega)]; decide
    rw [e]
    simp (disch := omega) only [mO scr, e1, e2, NC, hl, if_false, ex_i, true_and, oI_n]
def moG (G : Nat → Nat → Int32) (T : Tp) (r q x : Nat) : Nat → Nat → Int32 := fun a b => if a = 131 ∧ 12 * r ≤ b ∧ b < 12 * r + x then nI (kdv (ch8 T (q + (b - 12 * r)))) else G a b
theorem moG_o {r x a b : Nat} (h : a ≠ 131) : moG G T r q x a b = G a b := by
  unfold moG
  rw [if_neg (fun e => h e.1)]
theorem z130 : (∀ {T : Int32 → Prop}, aI scr (wo f G J c) 130 0 T = T (G 130 0)) ∧ (∀ {T : Int32 → Prop}, aI scr (wo f G J c) 130 1 T = T (G 130 1)) ∧ (∀ {T : Int32 → Prop}, aI scr (wo f G J c) 130 2 T = T (G 130 2)) ∧ (∀ {T : Int32 → Prop}, aI scr (wo f G J c) 130 3 T = T (G 130 3)) :=
  ⟨wo_aI (k := 0) A_mo_newScalar (by decide), wo_aI (k := 1) A_mo_newScalar (by decide), wo_aI (k := 2) A_mo_newScalar (by decide), wo_aI (k := 3) A_mo_newScalar (by decide)⟩
theorem z130w : (∀ {v : Int32} {T : aH → Prop}, wI (wo f G J c) 130 0 v T = T (wo f (up2 G 130 0 v) J c)) ∧ (∀ {v : Int32} {T : aH → Prop}, wI (wo f G J c) 130 1 v T = T (wo f (up2 G 130 1 v) J c)) ∧ (∀ {v : Int32} {T : aH → Prop}, wI (wo f G J c) 130 2 v T = T (wo f (up2 G 130 2 v) J c)) ∧ (∀ {v : Int32} {T : aH → Prop}, wI (wo f G J c) 130 3 v T = T (wo f (up2 G 130 3 v) J c)) :=
  ⟨wo_wI (k := 0) A_mo_newScalar (by decide), wo_wI (k := 1) A_mo_newScalar (by decide), wo_wI (k := 2) A_mo_newScalar (by decide), wo_wI (k := 3) A_mo_newScalar (by decide)⟩
/-- the row's end -/
theorem m162_e {n : Int32} {x : Nat} (hx : MX f G T x) {K : Option Value → aH → Prop} (hK : ∀ G', FE f G f G' → K none (wo f G' J c)) : E scr false d 162 132 [.ref 125, .int n] [] (wo f G J c) K := by
  rw [b162_132]
  simp only [mO scr, z130, z130w]
  exact hK _ ⟨fun _ _ _ => rfl, fun q k hq => by rw [up2_q (by omega), up2_q (by omega)]⟩
theorem msg_lp (hT : TX T) (hC : MC f G T p P pl) (hq : q ≤ T.1) (hr : pRo P < 12) {K : Option Value → aH → Prop}
    (hf : rlF T 13 q = 13 → ∀ f' G', MX f' G' T (1 + 8 * (q + 12) + 5) → FE f G f' G' → K none (wo f' G' J c))
    (hg : rlF T 13 q < 13 → E scr false (d + 2) 162 75 [.ref 125, .int (nI (rlF T 13 q))] [] (wo (mS f (q + rlF T 13 q)) (moG G T (pRo P) q (rlF T 13 q)) J c) K) :
    ∀ u x, 13 - x = u → x ≤ 12 → x ≤ rlF T 13 q → E scr false (d + 2) 162 6 [.ref 125, .int (nI x)] [] (wo (mS f (q + x)) (moG G T (pRo P) q x) J c) K := by
  obtain ⟨mt, h21, dm, wd⟩ := hC
  have h400 := hT.1
  have rt := rl_tape (T := T) (k := 13) hq
  have r13 := rl_le (T := T) 13 q
  have mtx : ∀ x, MT (mS f (q + x)) (moG G T (pRo P) q x) T (q + x) := fun x => ⟨⟨by rw [mS_at (by decide)]; exact mt.1.1, fun i hi => by rw [moG_o (by decide)]; exact mt.1.2.1 i hi, by rw [mS_at (by decide)]; exact mt.1.2.2⟩, mS_20⟩
  have z21 : ∀ x, mS f (q + x) 125 21 = 0 := fun x => by rw [mS_at (by decide)]; exact h21
  have s1 : ∀ x, moG G T (pRo P) q x 130 1 = nI (pRo P) := fun x => by rw [moG_o (by decide)]; exact dm.1.2.1
  intro u
  induction u with
  | zero => intro x hu hx; omega
  | succ u ih =>
    intro x hu hx hxr
    rw [b162_6]
    simp only [mO scr, z21, if_true, m161 hT (mtx x) (show q + x < 2 ^ 20 by omega)]
    by_cases hlt : x < rlF T 13 q
    · obtain ⟨k, hk⟩ := rl_in 13 q x hlt
      have k4 := kdO_lt hk
      have ekv : kdv (ch8 T (q + x)) = k := by unfold kdv; rw [hk]; rfl
      rw [hk]
      simp (disch := omega) only [oI_s, NC, if_false, show (12 : Int32) = nI 12 from rfl]
      by_cases h12 : x = 12
      · rw [if_pos h12]
        have e13 : rlF T 13 q = 13 := by omega
        simp only [mO scr, mS_20]
        rw [show (5 : Int32) = nI 5 from rfl, m142 (z21 x), h12]
        have mx : MX (up2 (mS f (q + 12)) 125 21 (nI (1 + 8 * (q + 12) + 5))) (moG G T (pRo P) q 12) T (1 + 8 * (q + 12) + 5) := MX_blame (mtx 12) (by omega) (by omega) (by omega)
        have ne := MX_ne mx
        rw [b162_6]
        simp only [mO scr, ne, if_false]
        rw [b162_75]
        simp only [mO scr, ne, if_false]
        rw [b162_95]
        simp only [mO scr, ne, if_false]
        apply m162_e mx
        intro G1 fe
        refine hf e13 _ _ ?_ ?_
        · exact ⟨ITm_fe fe mx.1, mx.2⟩
        · refine FE_tr ⟨fun o k' ho => ?_, fun a b hab => moG_o (by omega)⟩ fe
          unfold up2
          rw [if_neg (fun e => ho ⟨e.1, Or.inr e.2⟩), mS_at (fun e => ho ⟨e.1, Or.inl e.2⟩)]
      · rw [if_neg h12]
        simp (disch := omega) only [mO scr, z130, s1, m161 hT (mtx x) (show q + x < 2 ^ 20 by omega), hk, oI_s, show (12 : Int32) = nI 12 from rfl, pk_mul, nI_add, mS_20, nI_1]
        have eG : up2 (moG G T (pRo P) q x) 131 (12 * pRo P + x) (nI k) = moG G T (pRo P) q (x + 1) := by
          funext a b
          unfold up2 moG
          by_cases e : a = 131 ∧ b = 12 * pRo P + x
          · rw [if_pos e, if_pos ⟨e.1, by omega, by omega⟩, e.2, show 12 * pRo P + x - 12 * pRo P = x by omega, ekv]
          · rw [if_neg e]
            by_cases e2 : a = 131 ∧ 12 * pRo P ≤ b ∧ b < 12 * pRo P + x
            · rw [if_pos e2, if_pos ⟨e2.1, e2.2.1, by omega⟩]
            · rw [if_neg e2, if_neg (fun e3 => by
                by_cases e4 : b = 12 * pRo P + x
                · exact e ⟨e3.1, e4⟩
                · exact e2 ⟨e3.1, e3.2.1, by omega⟩)]
        have eF : up2 (mS f (q + x)) 125 20 (nI (q + x + 1)) = mS f (q + (x + 1)) := by rw [← Nat.add_assoc]; exact up_up
        rw [eG, eF]
        exact ih (x + 1) (by omega) (by omega) (by omega)
    · have ex : x = rlF T 13 q := by omega
      have hno := rl_out (T := T) 13 q (by omega)
      rw [← ex] at hno
      rw [hno]
      simp only [oI_n, if_true]
      have := hg (by omega)
      rw [← ex] at this
      exact this
theorem m162 (hT : TX T) (hC : MC f G T p P pl) (hp : p ≤ T.1) (hr : pRo P < 12) (h0 : pPe P + pHe P = 0) {K : aH → Prop} (hf : ∀ x f' G', roR T P pl (sk T p) = .inl x → MX f' G' T x → FE f G f' G' → K (wo f' G' J c)) (hg : ∀ e P1 pl1 f' G', roR T P pl (sk T p) = .inr (e, P1, pl1) → MC f' G' T e P1 pl1 → FE f G f' G' → K (wo f' G' J c)) : vV scr (d + 3) 162 [.ref 125] (wo f G J c) K := by
  have hC0 := hC
  obtain ⟨mt, h21, dm, wd⟩ := hC
  obtain ⟨⟨s0, s1, s2, s3⟩, t1, t2, t3, t4⟩ := dm
  have r12 := wd.1.2.1
  have c12 := wd.1.1
  have sle := sk_le (T := T) hp
  have h400 := hT.1
  have r13 := rl_le (T := T) 13 (sk T p)
  have rt := rl_tape (T := T) (k := 13) sle
  have e0G : moG G T (pRo P) (sk T p) 0 = G := by
    funext a b
    unfold moG
    rw [if_neg (by omega)]
  unfold roR at hf hg
  unfold vV
  rw [u162_ok, en162, b162_0, m144 hT mt (by omega)]
  refine ⟨rfl, ?_⟩
  have lp := msg_lp (scr := scr) (J := J) (c := c) (d := d + 1) (q := sk T p) hT hC0 sle hr (K := fun r h => r = none ∧ K h)
  have := lp (by
    intro e13 f' G' mx fe
    rw [if_pos e13] at hf
    exact ⟨rfl, hf _ _ _ rfl mx fe⟩) (by
    intro hlt
    rw [if_neg (by omega)] at hf hg
    have mtx : MT (mS f (sk T p + rlF T 13 (sk T p))) (moG G T (pRo P) (sk T p) (rlF T 13 (sk T p))) T (sk T p + rlF T 13 (sk T p)) := ⟨⟨by rw [mS_at (by decide)]; exact mt.1.1, fun i hi => by rw [moG_o (by decide)]; exact mt.1.2.1 i hi, by rw [mS_at (by decide)]; exact mt.1.2.2⟩, mS_20⟩
    have z21 : mS f (sk T p + rlF T 13 (sk T p)) 125 21 = 0 := by rw [mS_at (by decide)]; exact h21
    have q1 : moG G T (pRo P) (sk T p) (rlF T 13 (sk T p)) 130 1 = nI (pRo P) := by rw [moG_o (by decide)]; exact s1
    have q0 : moG G T (pRo P) (sk T p) (rlF T 13 (sk T p)) 130 0 = nI (pCo P) := by rw [moG_o (by decide)]; exact s0
    have fe0 : FE f G (mS f (sk T p + rlF T 13 (sk T p))) (moG G T (pRo P) (sk T p) (rlF T 13 (sk T p))) := ⟨fun o k ho => mS_at (fun e => ho ⟨e.1, Or.inl e.2⟩), fun a b hab => moG_o (by omega)⟩
    rw [b162_75]
    simp (disch := omega) only [mO scr, z21, if_true, NC, mS_20]
    by_cases hz : rlF T 13 (sk T p) = 0
    · rw [if_pos hz] at hf ⊢
      rw [show (0 : Int32) = nI 0 from rfl, m142 z21]
      have mx := MX_blame (x := 1 + 8 * (sk T p + rlF T 13 (sk T p)) + 0) mtx (by omega) (by omega) (by omega)
      have ne := MX_ne mx
      rw [b162_95]
      simp only [mO scr, ne, if_false, show ¬ (up2 (mS f (sk T p + rlF T 13 (sk T p))) 125 21 (nI (1 + 8 * (sk T p + rlF T 13 (sk T p)) + 0)) 125 21 = nI 0) from ne]
      apply m162_e mx
      intro G1 fe
      have e : 1 + 8 * (sk T p + rlF T 13 (sk T p)) + 0 = 1 + 8 * sk T p := by omega
      rw [e] at mx fe ⊢
      exact ⟨rfl, hf _ _ _ rfl ⟨ITm_fe fe mx.1, mx.2⟩ (FE_tr fe0 (FE_tr FE_x fe))⟩
    · rw [if_neg hz] at hf hg ⊢
      rw [b162_95]
      simp (disch := omega) only [mO scr, z21, if_true, z130, q1, q0, NC, mS_20]
      have done : (0 < pRo P → rlF T 13 (sk T p) = pCo P) → E scr false (d + 3) 162 132 [.ref 125, .int (nI (rlF T 13 (sk T p)))] [] (wo (mS f (sk T p + rlF T 13 (sk T p))) (moG G T (pRo P) (sk T p) (rlF T 13 (sk T p))) J c) (fun r h => r = none ∧ K h) := by
        intro hc
        rw [if_neg (fun e => e.2 (hc e.1))] at hg
        obtain ⟨f1, f2, f3, f4, f5, f6, f7⟩ := adR_f (P := P) (T := T) (q := sk T p) (w := rlF T 13 (sk T p))
        have u1 : ∀ v : Int32, up2 (moG G T (pRo P) (sk T p) (rlF T 13 (sk T p))) 130 0 v 130 1 = nI (pRo P) := fun v => by rw [up2_k (by decide)]; exact q1
        rw [b162_132]
        simp only [mO scr, z130, z130w, u1, nI_1]
        have wd' := WD_row (T := T) (q := sk T p) (w := rlF T 13 (sk T p)) wd (by omega) h0 (by omega) (by omega)
        refine ⟨trivial, hg _ _ _ _ _ rfl ?_ (FE_tr fe0 ⟨fun _ _ _ => rfl, fun a b hab => by rw [up2_q (by omega), up2_q (by omega)]⟩)⟩
        refine ⟨⟨⟨mtx.1.1, fun i hi => by rw [up2_q (by decide), up2_q (by decide)]; exact mtx.1.2.1 i hi, mtx.1.2.2⟩, mtx.2⟩, z21, ?_, wd'⟩
        refine ⟨⟨by rw [up2_k (by decide), up2_s, f1], by rw [up2_s, f2], by rw [up2_k (by decide), up2_k (by decide), moG_o (by decide), f3]; exact s2, by rw [up2_k (by decide), up2_k (by decide), moG_o (by decide), f4]; exact s3⟩, ?_, fun w hw => by rw [f3] at hw; omega, fun w hw => by rw [f3] at hw; omega, ?_⟩
        · intro b hb
          rw [f7, up2_q (by decide), up2_q (by decide)]
          unfold moG
          by_cases e : 12 * pRo P ≤ b ∧ b < 12 * pRo P + rlF T 13 (sk T p)
          · rw [if_pos ⟨rfl, e⟩, if_pos e]
          · rw [if_neg (fun x => e x.2), if_neg e]
            apply t1 b
            unfold thB ceB at hb ⊢
            rw [f1, f2] at hb
            simp only [Bool.and_eq_true, decide_eq_true_eq] at hb ⊢
            have hlt' : b / 12 < pRo P := by omega
            exact ⟨by rw [← hc (by omega)]; exact hb.1, hlt'⟩
        · intro w hw
          exfalso
          unfold exB at hw
          rw [f3, f4] at hw
          simp only [Bool.or_eq_true, Bool.and_eq_true, decide_eq_true_eq] at hw
          omega
      by_cases hr0 : pRo P = 0
      · rw [if_pos hr0]
        exact done (fun h => by omega)
      · rw [if_neg hr0]
        by_cases hcc : rlF T 13 (sk T p) = pCo P
        · rw [if_pos hcc]; exact done (fun _ => hcc)
        · rw [if_pos ⟨by omega, hcc⟩] at hf
          rw [if_neg hcc, nI_s1 (by omega), show (5 : Int32) = nI 5 from rfl, m142 z21]
          have mx := MX_blame (x := 1 + 8 * (sk T p + rlF T 13 (sk T p) - 1) + 5) mtx (by omega) (by omega) (by omega)
          apply m162_e mx
          intro G1 fe
          exact ⟨rfl, hf _ _ _ rfl ⟨ITm_fe fe mx.1, mx.2⟩ (FE_tr fe0 (FE_tr FE_x fe))⟩) 13 0 rfl (by omega) (by omega)
  rw [e0G] at this
  exact this
-- ===== a cell to stand on =====
theorem spo_lp (dm : DMm G P pl) (wd : WD P pl) {l1 l2 l3 l4 : Int32} {K : Option Value → aH → Prop} : ∀ u w (b : Bool), 14 - w = u → w ≤ 14 → (∀ (b' : Bool) (l7 : Value), (b' = true ↔ (b = true ∧ ∀ v, w ≤ v → v < 14 → exB P v = true → G 134 v ≠ l4)) → E scr false (d + 1) 163 76 [.ref 125, .int l1, .int l2, .int l3, .int l4, .int (bz b'), .int (nI 14), l7] [] (wo f G J c) K) → ∀ l7 : Value, E scr false (d + 1) 163 76 [.ref 125, .int l1, .int l2, .int l3, .int l4, .int (bz b), .int (nI w), l7] [] (wo f G J c) K := by
  have p12 := wd.1.2.2.2.1
  have p2 := wd.1.2.2.2.2.1
  obtain ⟨⟨s0, s1, s2, s3⟩, -⟩ := dm
  intro u
  induction u with
  | zero =>
    intro w b hu hw hK l7
    have e : w = 14 := by omega
    subst e
    exact hK b l7 ⟨fun h => ⟨h, fun v h1 h2 => by omega⟩, fun h => h.1⟩
  | succ u ih =>
    intro w b hu hw hK l7
    have step : ∀ (t : Bool) (l7 : Value), t = exB P w → E scr false (d + 1) 163 128 [.ref 125, .int l1, .int l2, .int l3, .int l4, .int (bz b), .int (nI w), l7] [.int (bz t)] (wo f G J c) K := by
      intro t l7 ht
      rw [b163_128]
      have go : ∀ (b2 : Bool) (l7 : Int32), (b2 = true ↔ (b = true ∧ (exB P w = true → G 134 w ≠ l4))) → E scr false (d + 1) 163 157 [.ref 125, .int l1, .int l2, .int l3, .int l4, .int (bz b), .int (nI w), .int l7] [.int (bz b2)] (wo f G J c) K := by
        intro b2 l7 hb2
        rw [b163_157, nI_1]
        apply ih (w + 1) b2 (by omega) (by omega)
        intro b' l7' hb'
        apply hK b' l7'
        rw [hb', hb2]
        constructor
        · rintro ⟨⟨x1, x2⟩, x3⟩
          refine ⟨x1, ?_⟩
          intro v v1 v2 v3
          by_cases e : v = w
          · subst e; exact x2 v3
          · exact x3 v (by omega) v2 v3
        · rintro ⟨x1, x2⟩
          exact ⟨⟨x1, fun v3 => x2 w (by omega) (by omega) v3⟩, fun v v1 v2 v3 => x2 v (by omega) v2 v3⟩
      cases b with
      | false =>
        simp only [bz_f, if_true]
        rw [b163_156]
        exact go false _ (by simp)
      | true =>
        simp only [bz_t, n10, if_false]
        cases t with
        | false =>
          simp only [bz_f, if_true]
          rw [b163_152]
          exact go true _ (by rw [← ht]; simp)
        | true =>
          simp (disch := omega) only [bz_t, n10, if_false, mO scr]
          by_cases hx : G 134 w = l4
          · rw [if_pos hx, b163_156]
            exact go false _ (by rw [← ht]; simp [hx])
          · rw [if_neg hx, b163_152]
            exact go true _ (by rw [← ht]; simp [hx])
    rw [b163_76]
    simp (disch := omega) only [LI, NC, show ¬ 14 ≤ w by omega, if_false, mO scr]
    by_cases h12 : 12 ≤ w
    · rw [if_pos h12]
      simp (disch := omega) only [s3, show nI w - nI 12 = nI (w - 12) from pk_sub h12, NC]
      by_cases hx : pHe P ≤ w - 12
      · rw [if_pos hx]
        exact step false _ (by unfold exB; simp; omega)
      · rw [if_neg hx]
        exact step true _ (by unfold exB; simp; omega)
    · rw [if_neg h12]
      simp (disch := omega) only [s2, NC]
      by_cases hx : pPe P ≤ w
      · rw [if_pos hx]
        exact step false _ (by unfold exB; simp; omega)
      · rw [if_neg hx]
        exact step true _ (by unfold exB; simp; omega)
end RE8
