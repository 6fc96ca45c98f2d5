variable {scr : List Int32}
-- ===== rows; the plain as a whole; by the class =====
section RE6
variable {f G f' G' : Nat → Nat → Int32} {J J' : Nat → Nat → Int64} {c : Value} {d : Nat} {T : Tp} {p q : Nat} {P : Pn} {pl : Nat → Option Nat}
def kgN (T : Tp) (q x : Nat) : Nat := sm (fun y => tf (decide (kdv (ch8 T (q + y)) = 3))) x
theorem gaN_sm : ∀ k, gaN P k = sm (fun q => tf (thB P q && decide (pKd P q = 3))) k := by
  intro k
  induction k with
  | zero => rfl
  | succ k ih =>
    rw [ga_s, ih]
    rfl
theorem ga_row {w : Nat} (hr : pRo P < 12) (hw : w ≤ 12) (hc : 0 < pRo P → w = pCo P) : (gaL (adR P T q w)).length = (gaL P).length + kgN T q w := by
  obtain ⟨f1, f2, -, -, -, -, f7⟩ := adR_f (P := P) (T := T) (q := q) (w := w)
  have e1 : (gaL (adR P T q w)).length = gaN (adR P T q w) 144 := rfl
  have e2 : (gaL P).length = gaN P 144 := rfl
  rw [e1, e2, gaN_sm, gaN_sm]
  have pt : ∀ b, b < 144 → tf (thB (adR P T q w) b && decide (pKd (adR P T q w) b = 3)) = tf (thB P b && decide (pKd P b = 3)) + (if 12 * pRo P ≤ b ∧ b < 12 * pRo P + w then tf (decide (kdv (ch8 T (q + (b - 12 * pRo P))) = 3)) else 0) := by
    intro b hb
    rw [f7]
    by_cases h1 : b / 12 < pRo P
    · have t1 : thB (adR P T q w) b = thB P b := by
        unfold thB ceB
        rw [f1, f2, hc (by omega)]
        have x1 : decide (b / 12 < pRo P + 1) = true := by simp; omega
        have x2 : decide (b / 12 < pRo P) = true := by simp [h1]
        rw [x1, x2]
      rw [t1, if_neg (by omega), if_neg (by omega), Nat.add_zero]
    · have t2 : thB P b = false := by
        unfold thB ceB
        simp [h1]
      rw [t2]
      by_cases h2 : 12 * pRo P ≤ b ∧ b < 12 * pRo P + w
      · have t1 : thB (adR P T q w) b = true := by
          unfold thB ceB
          rw [f1, f2]
          simp
          omega
        rw [t1, if_pos h2, if_pos h2]
        simp [tf]
      · have t1 : thB (adR P T q w) b = false := by
          unfold thB ceB
          rw [f1, f2]
          simp
          omega
        rw [t1, if_neg h2, if_neg h2]
        simp [tf]
  rw [sm_congr pt, sm_add]
  congr 1
  rw [show 144 = 12 * pRo P + (w + (144 - 12 * pRo P - w)) by omega, sm_app, sm_app]
  rw [sm_z (n := 12 * pRo P) (fun i hi => if_neg (by omega)), sm_z (n := 144 - 12 * pRo P - w) (fun i hi => if_neg (by omega)), Nat.zero_add, Nat.add_zero]
  unfold kgN
  apply sm_congr
  intro i hi
  rw [if_pos (by omega), show 12 * pRo P + i - 12 * pRo P = i by omega]
def roF (f : Nat → Nat → Int32) (T : Tp) (q g x : Nat) : Nat → Nat → Int32 := fun o k => if o = 1 ∧ k = 2 then nI (q + x) else if o = 13 ∧ k = 2 then nI (g + kgN T q x) else f o k
def roG (G : Nat → Nat → Int32) (T : Tp) (r q x : Nat) : Nat → Nat → Int32 := fun a b => if a = 14 ∧ 12 * r ≤ b ∧ b < 12 * r + x then nI (kdv (ch8 T (q + (b - 12 * r)))) else G a b
theorem roF_o {g x o k : Nat} (h1 : ¬ (o = 1 ∧ k = 2)) (h2 : ¬ (o = 13 ∧ k = 2)) : roF f T q g x o k = f o k := by
  unfold roF
  rw [if_neg h1, if_neg h2]
theorem roG_o {r x a b : Nat} (h : a ≠ 14) : roG G T r q x a b = G a b := by
  unfold roG
  rw [if_neg (fun e => h e.1)]
theorem fit4 {k : Nat} (h : k < 4) : fits .byte (.int (nI k)) = true := by
  have : ∀ k, k < 4 → fits .byte (.int (nI k)) = true := by decide +kernel
  exact this k h
theorem roG_fit {r x : Nat} (hi : IDc G) : IDc (roG G T r q x) := by
  intro b hb
  unfold roG
  split
  · exact fit4 kdv_lt
  · exact hi b hb
theorem row_lp {st : Nat} (hT : TX T) (hC : CS f G T p P pl) (hq : q ≤ T.1) (hr : pRo P < 12) {K : Option Value → aH → Prop}
    (hf : rlF T 13 q = 13 → ∀ f' G', f' 1 3 = nI (1 + 8 * (q + 12) + 5) → FD f G f' G' → K (some (.int 0)) (wo f' G' J c))
    (hg : rlF T 13 q < 13 → ∀ l4 : Value, ∀ x3 : Int32, E scr false (d + 2) 21 163 [.ref 23, .int (nI st), .int (nI q), .int x3, l4] [] (wo (roF f T q (gaL P).length (rlF T 13 q)) (roG G T (pRo P) q (rlF T 13 q)) J c) K) :
    ∀ u x, 13 - x = u → x ≤ 12 → x ≤ rlF T 13 q → ∀ l4 : Value, E scr false (d + 2) 21 50 [.ref 23, .int (nI st), .int (nI q), .int (nI x), l4] [] (wo (roF f T q (gaL P).length x) (roG G T (pRo P) q x) J c) K := by
  obtain ⟨tc, h3, dc', wd, hid⟩ := hC
  have h400 := hT.1
  have rt := rl_tape (T := T) (k := 13) hq
  have r13 := rl_le (T := T) 13 q
  have s1 : ∀ x, roF f T q (gaL P).length x 13 1 = nI (pRo P) := fun x => by rw [roF_o (by decide) (by decide)]; exact dc'.1.1.2.1
  have s2 : ∀ x, roF f T q (gaL P).length x 13 2 = nI ((gaL P).length + kgN T q x) := fun x => rfl
  have tcx : ∀ x, TC (roF f T q (gaL P).length x) (roG G T (pRo P) q x) T (q + x) := fun x => ⟨⟨by rw [roF_o (by decide) (by decide)]; exact tc.1.1, fun i hi => by rw [roG_o (by decide)]; exact tc.1.2 i hi⟩, rfl⟩
  intro u
  induction u with
  | zero => intro x hu hx; omega
  | succ u ih =>
    intro x hu hx hxr l4
    rw [b21_50]
    simp (disch := omega) only [show (12 : Int32) = nI 12 from rfl, NC, show ¬ 12 < x by omega, if_false, pRr scr, w68 hT (tcx x) (by omega), sp25]
    by_cases hlt : x < rlF T 13 q
    · obtain ⟨k, hk⟩ := rl_in 13 q x hlt
      have k4 := kdO_lt hk
      have ekv : kdv (ch8 T (q + x)) = k := by unfold kdv; rw [hk]; rfl
      rw [hk]
      simp (disch := omega) only [oI_s, NC, if_true, pRr scr]
      by_cases h12 : x = 12
      · rw [if_pos h12]
        have e13 : rlF T 13 q = 13 := by omega
        have p12 : roF f T q (gaL P).length x 1 2 = nI (q + x) := rfl
        simp only [tA scr, p12]
        rw [show (5 : Int32) = nI 5 from rfl, w70 (by rw [roF_o (by decide) (by decide)]; exact h3), h12]
        refine ⟨by decide, hf e13 _ _ up2_s ⟨fun o k' o1 o2 => ?_, fun a b hab => roG_o (by omega), roG_fit hid⟩⟩
        rw [up2_q o1, roF_o (fun e => o1 e.1) (fun e => o2 e.1)]
      · rw [if_neg h12]
        simp (disch := omega) only [pRr scr, sC scr isS13, s1, s2, show (12 : Int32) = nI 12 from rfl, pk_mul, nI_add, by8 (show k < 128 by omega), show (3 : Int32) = nI 3 from rfl, NC]
        have nx := ih (x + 1) (by omega) (by omega) (by omega)
        have eG : up2 (roG G T (pRo P) q x) 14 (12 * pRo P + x) (nI k) = roG G T (pRo P) q (x + 1) := by
          funext a b
          unfold up2 roG
          by_cases e : a = 14 ∧ b = 12 * pRo P + x
          · rw [if_pos e, if_pos ⟨e.1, by omega, by omega⟩, e.2, show 12 * pRo P + x - 12 * pRo P = x by omega, ekv]
          · rw [if_neg e]
            by_cases e2 : a = 14 ∧ 12 * pRo P ≤ b ∧ b < 12 * pRo P + x
            · rw [if_pos e2, if_pos ⟨e2.1, e2.2.1, by omega⟩]
            · rw [if_neg e2, if_neg (fun e3 => by
                by_cases e4 : b = 12 * pRo P + x
                · exact e ⟨e3.1, e4⟩
                · exact e2 ⟨e3.1, e3.2.1, by omega⟩)]
        have eF : ∀ v, v = (gaL P).length + kgN T q (x + 1) → up2 (up2 (roF f T q (gaL P).length x) 13 2 (nI v)) 1 2 (nI (q + x + 1)) = roF f T q (gaL P).length (x + 1) := by
          intro v hv
          funext o k'
          unfold up2 roF
          by_cases e : o = 1 ∧ k' = 2
          · rw [if_pos e, if_pos e, Nat.add_assoc]
          · by_cases e2 : o = 13 ∧ k' = 2
            · simp only [if_neg e, if_pos e2, hv]
            · simp only [if_neg e, if_neg e2]
        have ks : kgN T q (x + 1) = kgN T q x + tf (decide (kdv (ch8 T (q + x)) = 3)) := rfl
        have p12 : ∀ v : Int32, up2 (roF f T q (gaL P).length x) 13 2 v 1 2 = nI (q + x) := fun v => by rw [up2_q (by decide)]; rfl
        rw [show (13 + 1 : Nat) = 14 from rfl, eG]
        by_cases hk3 : k = 3
        · rw [if_pos hk3, b21_140]
          simp only [sC scr isS13, pRr scr, tA scr, p12, nI_1]
          rw [eF _ (by rw [ks, ekv, hk3]; rfl)]
          exact nx _
        · rw [if_neg hk3, b21_140]
          simp only [sC scr isS13, pRr scr, tA scr, p12, nI_1, Int32.add_zero]
          rw [eF _ (by rw [ks, ekv]; simp [tf, hk3])]
          exact nx _
    · have ex : x = rlF T 13 q := by omega
      have hno := rl_out (T := T) 13 q (by omega)
      rw [← ex] at hno
      rw [hno]
      simp only [oI_n, show ¬ ((0 : Int32) ≤ -1) by decide, show (nI 0 ≤ (-1 : Int32)) = False from eq_false (by decide), if_false]
      have := hg (by omega) (.int (-1)) (nI x)
      rw [← ex] at this
      exact this
theorem w21 (hT : TX T) (hC : CS f G T p P pl) (hp : p ≤ T.1) {st : Nat} {K : Int32 → aH → Prop} (hf : ∀ x f' G', (if 12 ≤ pRo P ∨ 0 < pPe P + pHe P then Sum.inl (1 + 8 * st + 4) else roR T P pl (sk T p)) = .inl x → f' 1 3 = nI x → FD f G f' G' → K 0 (wo f' G' J c)) (hg : ∀ e P1 pl1 f' G', (if 12 ≤ pRo P ∨ 0 < pPe P + pHe P then Sum.inl (1 + 8 * st + 4) else roR T P pl (sk T p)) = .inr (e, P1, pl1) → CS f' G' T e P1 pl1 → FD f G f' G' → K 1 (wo f' G' J c)) : vI scr (d + 4) 21 [.ref 23, .int (nI st)] (wo f G J c) K := by
  have hC0 := hC
  obtain ⟨tc, h3, dc', wd, hid⟩ := hC
  have r12 := wd.1.2.1
  have c12 := wd.1.1
  have p12 := wd.1.2.2.2.1
  have p2 := wd.1.2.2.2.2.1
  obtain ⟨⟨s0, s1, s2, s3, s4⟩, t5, t6, t7, t8⟩ := dc'.1
  have sle := sk_le (T := T) hp
  have h400 := hT.1
  have bad : 12 ≤ pRo P ∨ 0 < pPe P + pHe P → E scr false (d + 4) 21 30 [.ref 23, .int (nI st), .null, .null, .null] [] (wo f G J c) (fun r h => ∃ x, r = some (Value.int x) ∧ K x h) := by
    intro hb
    rw [if_pos hb] at hf
    rw [b21_30]
    simp only [pRr scr]
    rw [show (4 : Int32) = nI 4 from rfl, w70 h3]
    refine ⟨by decide, _, rfl, hf _ _ _ rfl up2_s (FD_ft ?_ hid)⟩
    intro o k ho
    unfold up2
    rw [if_neg (fun e => ho ⟨e.1, Or.inr e.2⟩)]
  unfold vI
  rw [u21_ok, en21, b21_0]
  simp (disch := omega) only [pRr scr, sC scr isS13, s1, s3, s4, show (12 : Int32) = nI 12 from rfl, NC, nI_add, true_and]
  by_cases h12 : 12 ≤ pRo P
  · rw [if_pos h12]; exact bad (Or.inl h12)
  · rw [if_neg h12]
    by_cases h0 : pPe P + pHe P = 0
    · have hnb : ¬ (12 ≤ pRo P ∨ 0 < pPe P + pHe P) := by omega
      rw [if_neg hnb] at hf hg
      rw [if_pos h0, w69 hT tc hp]
      have hC1 := CS_pS (q := sk T p) hC0
      have r13 := rl_le (T := T) 13 (sk T p)
      have e0 : roF (pS f (sk T p)) T (sk T p) (gaL P).length 0 = pS f (sk T p) := by
        funext o k
        unfold roF
        by_cases e : o = 1 ∧ k = 2
        · rw [if_pos e, e.1, e.2]; exact pS_12.symm
        · rw [if_neg e]
          by_cases e2 : o = 13 ∧ k = 2
          · rw [if_pos e2, e2.1, e2.2, pS_at (by decide)]; exact s2.symm
          · rw [if_neg e2]
      have e0G : roG G T (pRo P) (sk T p) 0 = G := by
        funext a b
        unfold roG
        rw [if_neg (by omega)]
      have lp := row_lp (scr := scr) (J := J) (c := c) (d := d + 2) (st := st) hT hC1 sle (by omega) (K := fun r h => ∃ x, r = some (Value.int x) ∧ K x h)
      unfold roR at hf hg
      have fdx : ∀ x o k, o ≠ 1 → o ≠ 13 → roF (pS f (sk T p)) T (sk T p) (gaL P).length x o k = f o k := fun x o k o1 o2 => by rw [roF_o (fun e => o1 e.1) (fun e => o2 e.1), pS_at (fun e => o1 e.1)]
      have := lp (by
        intro e13 f' G' e3 fd
        rw [if_pos e13] at hf
        exact ⟨_, rfl, hf _ _ _ rfl e3 ⟨fun o k o1 o2 => by rw [fd.1 o k o1 o2, pS_at (fun e => o1 e.1)], fd.2⟩⟩) (by
        intro hlt l4 x3
        rw [if_neg (by omega)] at hf hg
        have p12' : roF (pS f (sk T p)) T (sk T p) (gaL P).length (rlF T 13 (sk T p)) 1 2 = nI (sk T p + rlF T 13 (sk T p)) := rfl
        have q1 : roF (pS f (sk T p)) T (sk T p) (gaL P).length (rlF T 13 (sk T p)) 13 1 = nI (pRo P) := by rw [roF_o (by decide) (by decide), pS_at (by decide)]; exact s1
        have q0 : roF (pS f (sk T p)) T (sk T p) (gaL P).length (rlF T 13 (sk T p)) 13 0 = nI (pCo P) := by rw [roF_o (by decide) (by decide), pS_at (by decide)]; exact s0
        have q3 : roF (pS f (sk T p)) T (sk T p) (gaL P).length (rlF T 13 (sk T p)) 1 3 = 0 := by rw [roF_o (by decide) (by decide), pS_at (by decide)]; exact h3
        have esub : nI (sk T p + rlF T 13 (sk T p)) - nI (sk T p) = nI (rlF T 13 (sk T p)) := by
          rw [pk_sub (by omega)]
          congr 1
          omega
        rw [b21_163]
        simp (disch := omega) only [pRr scr, tA scr, p12', esub, NC, sC scr isS13, q1, q0]
        by_cases hz : rlF T 13 (sk T p) = 0
        · rw [if_pos hz] at hf ⊢
          rw [show (0 : Int32) = nI 0 from rfl, w70 q3]
          refine ⟨by decide, _, rfl, hf _ _ _ rfl up2_s ⟨fun o k o1 o2 => by rw [up2_q o1, fdx _ o k o1 o2], fun a b hab => roG_o (by omega), roG_fit hid⟩⟩
        · rw [if_neg hz] at hf hg ⊢
          have done : (0 < pRo P → rlF T 13 (sk T p) = pCo P) → E scr false (d + 4) 21 226 [.ref 23, .int (nI st), .int (nI (sk T p)), .int (nI (rlF T 13 (sk T p))), l4] [] (wo (roF (pS f (sk T p)) T (sk T p) (gaL P).length (rlF T 13 (sk T p))) (roG G T (pRo P) (sk T p) (rlF T 13 (sk T p))) J c) (fun r h => ∃ x, r = some (Value.int x) ∧ K x h) := by
            intro hc
            rw [if_neg (fun e => e.2 (hc e.1))] at hg
            obtain ⟨f1, f2, f3, f4, f5, f6, f7⟩ := adR_f (P := P) (T := T) (q := sk T p) (w := rlF T 13 (sk T p))
            have u1 : ∀ v : Int32, up2 (roF (pS f (sk T p)) T (sk T p) (gaL P).length (rlF T 13 (sk T p))) 13 0 v 13 1 = nI (pRo P) := fun v => by rw [up2_k (by decide)]; exact q1
            rw [b21_226]
            simp only [pRr scr, sC scr isS13, u1, nI_1]
            refine ⟨_, rfl, hg _ _ _ _ _ rfl ?_ ⟨fun o k o1 o2 => by rw [up2_q o2, up2_q o2, fdx _ o k o1 o2], fun a b hab => roG_o (by omega), roG_fit hid⟩⟩
            have wd' := WD_row (T := T) (q := sk T p) (w := rlF T 13 (sk T p)) wd (by omega) h0 (by omega) (by omega)
            refine ⟨⟨⟨by rw [up2_q (by decide), up2_q (by decide), roF_o (by decide) (by decide), pS_at (by decide)]; exact tc.1.1, fun i hi => by rw [roG_o (by decide)]; exact tc.1.2 i hi⟩, by rw [up2_q (by decide), up2_q (by decide)]; exact p12'⟩, by rw [up2_q (by decide), up2_q (by decide)]; exact q3, ⟨?_, ?_, by rw [up2_k (by decide), up2_k (by decide), roF_o (by decide) (by decide), pS_at (by decide)]; exact dc'.2.2⟩, wd', roG_fit hid⟩
            · refine ⟨⟨by rw [up2_k (by decide), up2_s, f1], by rw [up2_s, f2], ?_, by rw [up2_k (by decide), up2_k (by decide), roF_o (by decide) (by decide), pS_at (by decide), f3]; exact s3, by rw [up2_k (by decide), up2_k (by decide), roF_o (by decide) (by decide), pS_at (by decide), f4]; exact s4⟩, ?_, fun w hw => by rw [f3] at hw; omega, fun w hw => by rw [f3] at hw; omega, fun b hb => roG_fit hid b hb⟩
              · rw [up2_k (by decide), up2_k (by decide), ga_row (by omega) (by omega) hc]
                rfl
              · intro b hb
                rw [f7]
                show roG G T (pRo P) (sk T p) (rlF T 13 (sk T p)) 14 b = _
                unfold roG
                by_cases e : 12 * pRo P ≤ b ∧ b < 12 * pRo P + rlF T 13 (sk T p)
                · rw [if_pos ⟨rfl, e⟩, if_pos e]
                · rw [if_neg (fun x => e x.2), if_neg e]
                  apply t5 b
                  unfold thB ceB at hb ⊢
                  rw [f1, f2] at hb
                  simp only [Bool.and_eq_true, decide_eq_true_eq] at hb ⊢
                  have hlt' : b / 12 < pRo P := by omega
                  exact ⟨by rw [← hc (by omega)]; exact hb.1, hlt'⟩
            · have := dc'.2.1
              exact RD_cg (by rw [up2_k (by decide), up2_k (by decide), roF_o (by decide) (by decide), pS_at (by decide)]) (by rw [up2_k (by decide), up2_k (by decide), roF_o (by decide) (by decide), pS_at (by decide)]) (fun k => roG_o (by decide)) (fun k => roG_o (by decide)) (fun k => roG_o (by decide)) this
          by_cases hr0 : pRo P = 0
          · rw [if_pos hr0]
            exact done (fun h => by omega)
          · rw [if_neg hr0]
            by_cases hcc : rlF T 13 (sk T p) = pCo P
            · rw [if_pos hcc]; exact done (fun _ => hcc)
            · rw [if_pos ⟨by omega, hcc⟩] at hf
              rw [if_neg hcc, nI_s1 (by omega), show (5 : Int32) = nI 5 from rfl, w70 q3]
              refine ⟨by decide, _, rfl, hf _ _ _ rfl up2_s ⟨fun o k o1 o2 => by rw [up2_q o1, fdx _ o k o1 o2], fun a b hab => roG_o (by omega), roG_fit hid⟩⟩) 13 0 rfl (by omega) (by omega) .null
      rw [e0, e0G] at this
      exact this
    · rw [if_neg h0]; exact bad (Or.inr (by omega))
theorem w20 (hT : TX T) (hC : CS f G T p P pl) (hp : p ≤ T.1) {K : Int32 → aH → Prop} (hf : ∀ x f' G', plC T P pl p = .inl x → f' 1 3 = nI x → FD f G f' G' → K 0 (wo f' G' J c)) (hg : ∀ e P1 pl1 f' G', plC T P pl p = .inr (e, P1, pl1) → CS f' G' T e P1 pl1 → FD f G f' G' → K 1 (wo f' G' J c)) : vI scr (d + 6) 20 [.ref 23] (wo f G J c) K := by
  have hid := hC.2.2.2.2
  have sle := sk_le (T := T) hp
  have wle := we_le (T := T) sle
  have hC1 := CS_pS (q := sk T p) hC
  have hC2 := CS_pS (q := we T (sk T p)) hC
  have fdp : ∀ {q : Nat} {f' G'}, FD (pS f q) G f' G' → FD f G f' G' := fun {q f' G'} h => FD_tr (FD_ft FT_p hid) h
  unfold plC at hf hg
  unfold vI
  rw [u20_ok, en20, b20_0]
  simp only [pRr scr, w69 hT hC.1 hp, true_and]
  rw [show (20000 : Nat) = 20000 + 0 from rfl, w72 hT hC1.1 sle (by decide), sk_sk, tw0, pS_pS]
  by_cases h6 : isW T (sk T p) (stx 6) = true
  · rw [if_pos h6] at hf hg
    rw [if_pos h6]
    simp only [show (nI 0 = (0 : Int32)) from rfl, if_true, b20_44, pS_pS]
    apply w21 hT hC2 wle
    · intro x f1 G1 hx e3 fd
      exact ⟨by decide, _, rfl, hf x f1 G1 hx e3 (fdp fd)⟩
    · intro e P1 pl1 f1 G1 hx cs fd
      exact ⟨by decide, _, rfl, hg e P1 pl1 f1 G1 hx cs (fdp fd)⟩
  · rw [if_neg h6] at hf hg
    rw [if_neg h6]
    by_cases h7 : isW T (sk T p) (stx 7) = true
    · rw [if_pos h7] at hf hg
      rw [if_pos h7]
      simp only [show ¬ (nI 1 = (0 : Int32)) by decide, show (nI 1 = (1 : Int32)) from rfl, if_true, if_false, b20_50, pS_pS, n10]
      apply w22 hT hC2 wle
      · intro x f1 hx e3 ft
        exact ⟨by decide, _, rfl, hf x f1 G hx e3 (fdp (FD_ft ft hid))⟩
      · intro e P1 pl1 f1 G1 hx cs fd
        exact ⟨by decide, _, rfl, hg e P1 pl1 f1 G1 hx cs (fdp fd)⟩
    · rw [if_neg h7] at hf hg
      rw [if_neg h7]
      by_cases h8 : isW T (sk T p) (stx 8) = true
      · rw [if_pos h8] at hf hg
        rw [if_pos h8]
        simp only [show ¬ (nI 2 = (0 : Int32)) by decide, show ¬ (nI 2 = (1 : Int32)) by decide, show (nI 2 = (2 : Int32)) from rfl, if_true, if_false, b20_56, pS_pS, show ¬ ((2 : Int32) = 0) by decide, show ¬ ((2 : Int32) = 1) by decide]
        apply w23 hT hC2 wle
        · intro x f1 hx e3 ft
          exact ⟨by decide, _, rfl, hf x f1 G hx e3 (fdp (FD_ft ft hid))⟩
        · intro e P1 pl1 f1 G1 hx cs fd
          exact ⟨by decide, _, rfl, hg e P1 pl1 f1 G1 hx cs (fdp fd)⟩
      · rw [if_neg h8] at hf hg
        rw [if_neg h8]
        simp only [show ¬ ((-1 : Int32) = 0) by decide, show ¬ ((-1 : Int32) = 1) by decide, show ¬ ((-1 : Int32) = 2) by decide, if_false, b20_62, pRr scr, pS_pS]
        rw [show (0 : Int32) = nI 0 from rfl, w70 hC1.2.1]
        exact ⟨by decide, _, rfl, hf _ _ _ rfl up2_s (FD_ft FT_b hid)⟩
end RE6
