variable {scr : List Int32}
-- ===== the law, read by the model: facts and tests =====
section LM6
variable {f G f' G' : Nat → Nat → Int32} {J J' : Nat → Nat → Int64} {c : Value} {d : Nat} {T : Tp} {p q r b dp : Nat} {s : Ls} {S : List Nat}
/-- behind a test: is a bracket to be closed -/
def ATk (scr : List Int32) (d : Nat) (K : Option Value → aH → Prop) (h12 : aH) : Prop := vI scr (d + 9) 155 [.ref 125] h12 (fun (x15 : Int32) (h14 : aH) => (if x15 = 12 then vI scr (d + 9) 143 [.ref 125] h14 (fun (x17 : Int32) (h16 : aH) => (if x17 = 93 then E scr false (d + 10) 159 164 [.ref 125, .int 0, .int 1, .int 0, .int 0] [] h16 K else gI scr h16 125 9 20 (fun x18 : Int32 => vV scr (d + 9) 142 [.ref 125, .int 0, .int x18] h16 (fun h19 : aH => E scr false (d + 10) 159 164 [.ref 125, .int 0, .int 1, .int 0, .int 0] [] h19 K)))) else E scr false (d + 10) 159 199 [.ref 125, .int 0, .int 0, .int 0, .int 0] [] h14 K))
/-- behind a fact -/
def AFk (scr : List Int32) (d : Nat) (K : Option Value → aH → Prop) (h2 : aH) : Prop := vV scr (d + 9) 144 [.ref 125] h2 (fun h4 : aH => vI scr (d + 9) 146 [.ref 125, .ref 20022] h4 (fun (x7 : Int32) (h6 : aH) => vI scr (d + 9) 146 [.ref 125, .ref 20023] h6 (fun (x9 : Int32) (h8 : aH) => vV scr (d + 9) 157 [.ref 125, .int 10] h8 (fun h10 : aH => (if x7 = 0 then (if x9 = 0 then vV scr (d + 9) 157 [.ref 125, .int 11] h10 (fun h12 : aH => vI scr (d + 9) 155 [.ref 125] h12 (fun (x15 : Int32) (h14 : aH) => (if x15 = 12 then vI scr (d + 9) 143 [.ref 125] h14 (fun (x17 : Int32) (h16 : aH) => (if x17 = 93 then E scr false (d + 10) 159 164 [.ref 125, .int 0, .int 1, .int x7, .int x9] [] h16 K else gI scr h16 125 9 20 (fun x18 : Int32 => vV scr (d + 9) 142 [.ref 125, .int 0, .int x18] h16 (fun h19 : aH => E scr false (d + 10) 159 164 [.ref 125, .int 0, .int 1, .int x7, .int x9] [] h19 K)))) else E scr false (d + 10) 159 199 [.ref 125, .int 0, .int 0, .int x7, .int x9] [] h14 K))) else E scr false (d + 10) 159 82 [.ref 125, .int 0, .int 1, .int x7, .int x9] [] h10 K) else E scr false (d + 10) 159 82 [.ref 125, .int 0, .int 1, .int x7, .int x9] [] h10 K)))))
theorem h9_x {x : Nat} {l1 : Int32} {l3 l4 : Value} {K : Option Value → aH → Prop} (h : XM b f G T x) : E scr false (d + 10) 159 9 [.ref 125, .int l1, .int 1, l3, l4] [] (wo f G J c) K = K none (wo f G J c) := by
  rw [b159_9, if_neg n10]
  simp only [mO scr, XM_ne h, if_false]
theorem h9_0 {l3 l4 : Value} {K : Option Value → aH → Prop} (h : LMs f G T r s) : E scr false (d + 10) 159 9 [.ref 125, .int 0, .int 1, l3, l4] [] (wo f G J c) K = vV scr (d + 9) 157 [.ref 125, .int 9] (wo f G J c) (AFk scr d K) := by
  rw [b159_9, if_neg n10]
  simp only [mO scr, h.2.1, if_true]
  rfl
theorem h9_1 {l3 l4 : Value} {K : Option Value → aH → Prop} (h : LMs f G T r s) : E scr false (d + 10) 159 9 [.ref 125, .int 1, .int 1, l3, l4] [] (wo f G J c) K = vI scr (d + 9) 158 [.ref 125] (wo f G J c) (fun (x22 : Int32) (h21 : aH) => (if x22 = 0 then E scr false (d + 10) 159 9 [.ref 125, .int 1, .int 1, l3, l4] [] h21 K else E scr false (d + 10) 159 9 [.ref 125, .int 0, .int 1, l3, l4] [] h21 K)) := by
  rw [b159_9, if_neg n10]
  simp only [mO scr, h.2.1, if_true, n10, if_false, b159_36]
theorem v157 {x k j : Nat} (hxk : (x = 9 ∧ k = 22) ∨ (x = 10 ∧ k = 20) ∨ (x = 11 ∧ k = 21)) (hr : r < 6) (ht : tne S x) (hL : LMs f G T r s) (hM : MKs f G (dp + an9 x j) (S ++ List.replicate j x)) (hS : S.length + j < 402) (hn : s.2.1.length + j < 300) {K : aH → Prop} (hK : ∀ f' G', LMs f' G' T r (s.1, s.2.1 ++ List.replicate j k, s.2.2) → MKs f' G' dp S → FN r f G f' G' → K (wo f' G' J c)) : vV scr (d + 1) 157 [.ref 125, .int (nI x)] (wo f G J c) K := by
  unfold vV
  rw [u157_ok, en157]
  refine ⟨rfl, ?_⟩
  apply m157 (k := k) hxk hr ht j s f G hL hM hS hn
  intro f' G' a1 a2 a3
  exact ⟨rfl, hK f' G' a1 a2 a3⟩
def orS (m : Nat) : List Nat := if m = 3 then [11] else []
theorem orS_r {m : Nat} : orS m = List.replicate (if m = 3 then 1 else 0) 11 := by unfold orS; split <;> rfl
theorem orC_r {m : Nat} : orC m = List.replicate (if m = 3 then 1 else 0) 21 := by unfold orC; split <;> rfl
/-- a stack on which a test begins -/
def t0 (S : List Nat) : Prop := S = [] ∨ ∃ S', S = S' ++ [12]
theorem t0_ne {x : Nat} (h : t0 S) (hx : x ≠ 12) : tne S x := by
  rcases h with h | ⟨S', h⟩
  · exact Or.inl h
  · exact Or.inr ⟨S', 12, h, fun e => hx e.symm, by omega⟩
theorem tne_s {S : List Nat} {x y : Nat} (h : y ≠ x) (hy : y < 2 ^ 20) : tne (S ++ [y]) x := Or.inr ⟨S, y, rfl, h, hy⟩
theorem tne_or {m x : Nat} (h : t0 S) (h12 : x ≠ 12) (h11 : x ≠ 11) : tne (S ++ orS m) x := by
  unfold orS
  split
  · exact tne_s (fun e => h11 e.symm) (by omega)
  · rw [List.append_nil]; exact t0_ne h h12
theorem LMs_20 {a : Nat} (h : LMs f G T r s) (v : Int32) (hv : f 125 20 + v = nI a) : LMs (up2 f 125 20 (f 125 20 + v)) G T r (a, s.2) := by
  rw [hv]
  exact LMs_mS h
theorem lg_ml (hT : TX T) (hr : r < 6) {K : Option Value → aH → Prop} : ∀ u,
    (∀ dp (s : Ls) f G S j (l3 l4 : Value), LMs f G T r s → MKs f G dp (S ++ List.replicate j 9) → tne S 9 → j ≤ dp → dp ≤ 10 → s.1 ≤ T.1 → s.2.2 ≤ 60 → S.length + j ≤ s.1 → 3 * (s.2.1.length + j) ≤ 6 * s.2.2 + s.1 → 3 * (T.1 - s.1) + 1 ≤ u →
      (∀ x f' G', lgR T u 0 dp s = .inl x → XM 430 f' G' T x → FN r f G f' G' → K none (wo f' G' J c)) →
      (∀ s' f' G', lgR T u 0 dp s = .inr s' → LMs f' G' T r (s'.1, s'.2.1 ++ List.replicate j 22, s'.2.2) → MKs f' G' (dp - j) S → FN r f G f' G' → AFk scr d K (wo f' G' J c)) →
      E scr false (d + 10) 159 9 [.ref 125, .int 1, .int 1, l3, l4] [] (wo f G J c) K) ∧
    (∀ dp (s : Ls) f G S (l3 l4 : Value), LMs f G T r s → MKs f G dp S → t0 S → dp ≤ 10 → s.1 ≤ T.1 → s.2.2 ≤ 60 → S.length ≤ s.1 → 3 * s.2.1.length ≤ 6 * s.2.2 + s.1 → 3 * (T.1 - s.1) + 2 ≤ u →
      (∀ x f' G', lgR T u 1 dp s = .inl x → XM 430 f' G' T x → FN r f G f' G' → K none (wo f' G' J c)) →
      (∀ s' f' G', lgR T u 1 dp s = .inr s' → LMs f' G' T r s' → sk T s'.1 = s'.1 → MKs f' G' dp S → FN r f G f' G' → ATk scr d K (wo f' G' J c)) →
      E scr false (d + 10) 159 9 [.ref 125, .int 1, .int 1, l3, l4] [] (wo f G J c) K) ∧
    (∀ m a dp (s : Ls) f G S, m = 2 ∨ m = 3 → a ≤ 1 → LMs f G T r s → MKs f G dp ((S ++ orS m) ++ List.replicate a 10) → t0 S → dp ≤ 10 → s.1 ≤ T.1 → s.2.2 ≤ 60 → S.length + (orS m).length + a ≤ s.1 → 3 * (s.2.1.length + a + (orC m).length) ≤ 6 * s.2.2 + s.1 → 3 * (T.1 - s.1) + 2 ≤ u →
      (∀ x f' G', lgR T u m dp (s.1, s.2.1 ++ List.replicate a 20, s.2.2) = .inl x → XM 430 f' G' T x → FN r f G f' G' → K none (wo f' G' J c)) →
      (∀ s' f' G', lgR T u m dp (s.1, s.2.1 ++ List.replicate a 20, s.2.2) = .inr s' → LMs f' G' T r s' → sk T s'.1 = s'.1 → MKs f' G' dp S → FN r f G f' G' → ATk scr d K (wo f' G' J c)) →
      AFk scr d K (wo f G J c)) := by
  have h400 := hT.1
  intro u
  induction u with
  | zero => exact ⟨fun _ _ _ _ _ _ _ _ _ _ _ _ _ _ _ _ _ h => by omega, fun _ _ _ _ _ _ _ _ _ _ _ _ _ _ _ h => by omega, fun _ _ _ _ _ _ _ _ _ _ _ _ _ _ _ _ _ h => by omega⟩
  | succ u ih =>
    obtain ⟨ihF, ihT, ihL⟩ := ih
    refine ⟨?_, ?_, ?_⟩
    · -- a fact
      intro dp s f G S j l3 l4 hL hM ht hj hd hp hz hS hb hu hf hg
      have sle := sk_le (T := T) hp
      have sge := sk_ge (T := T) (p := s.1)
      have l1 := LMs_mS (a := sk T s.1) hL
      have m1 : MKs (mS f (sk T s.1)) G dp (S ++ List.replicate j 9) := MKs_fm (r := r) FM_m hM
      have mt1 : MT (mS f (sk T s.1)) G T (sk T s.1) := l1.1
      have hlen : (S ++ List.replicate j 9).length = S.length + j := by rw [List.length_append, List.length_replicate]
      rw [lg0] at hf hg
      -- behind a fact that was told: what is to be turned
      have done : ∀ f1 G1 s' (l3 l4 : Value), LMs f1 G1 T r s' → MKs f1 G1 dp (S ++ List.replicate j 9) → FN r f G f1 G1 → s'.2.1.length + j < 300 → (∀ f' G', LMs f' G' T r (s'.1, s'.2.1 ++ List.replicate j 22, s'.2.2) → MKs f' G' (dp - j) S → FN r f G f' G' → AFk scr d K (wo f' G' J c)) → E scr false (d + 10) 159 9 [.ref 125, .int 0, .int 1, l3, l4] [] (wo f1 G1 J c) K := by
        intro f1 G1 s' l3 l4 ls ms fn hn hK
        rw [h9_0 ls]
        have e : dp = (dp - j) + an9 9 j := by show dp = dp - j + j; omega
        rw [e] at ms
        apply v157 (d := d + 8) (x := 9) (k := 22) (Or.inl ⟨rfl, rfl⟩) hr ht ls ms (by omega) hn
        intro f' G' a1 a2 a3
        exact hK f' G' a1 a2 (FN_tr fn a3)
      rw [h9_1 hL]
      unfold vI
      rw [u158_ok, en158, b158_0, m144 hT hL.1 (by omega)]
      refine ⟨rfl, ?_⟩
      rw [m146 (d := d + 4) hT mt1 (by omega) (show 12 < 24 by decide)]
      cases hn : isW T (sk T s.1) (stx 12) with
      | true =>
        have h91 : ¬ ch8 T (sk T s.1) = 91 := by
          intro e
          have w := isW_pos (by decide) hn
          have e2 : ltB (ch8 T (sk T s.1)) = false := by rw [e]; rfl
          rw [we_n e2] at w
          omega
        have hin := isW_in (by decide) (show (stx 12).length = 3 from rfl) hn sle
        simp only [if_neg h91, if_pos hn] at hf hg
        simp only [bz_t, n10, if_false]
        apply m156d (d := d + 7) (x := 9) (Or.inl rfl) hT l1 sle m1 hd (by omega)
        · intro f2 G2 h10 x2 e20 fn2
          rw [if_pos (by omega)] at hf
          have e20 : f2 125 20 = nI (sk T s.1) := e20
          simp only [mO scr, e20]
          rw [show (3 : Int32) = nI 3 from rfl, nI_add]
          have x3 : XM 430 (mS f2 (sk T s.1 + 3)) G2 T _ := XM_mS (by omega) (XM_le (by omega) x2)
          refine ⟨_, rfl, ?_⟩
          rw [if_pos rfl]
          refine (h9_x x3).mpr ?_
          exact hf _ _ _ rfl x3 (FN_tr FN_m (FN_tr fn2 FN_m))
        · intro f2 G2 h10 l2 m2 fn2
          rw [if_neg (by omega)] at hf hg
          have e20 : f2 125 20 = nI (sk T s.1) := l2.1.2
          simp only [mO scr, e20]
          rw [show (3 : Int32) = nI 3 from rfl, nI_add]
          have l3 : LMs (mS f2 (sk T s.1 + 3)) G2 T r (sk T s.1 + 3, s.2) := LMs_mS (s := (sk T s.1, s.2)) l2
          have m3 : MKs (mS f2 (sk T s.1 + 3)) G2 (dp + 1) (S ++ List.replicate (j + 1) 9) := by
            rw [rep_s, ← List.append_assoc]
            exact MKs_fm (r := r) FM_m m2
          refine ⟨_, rfl, ?_⟩
          rw [if_pos rfl]
          apply ihF (dp + 1) _ (mS f2 (sk T s.1 + 3)) G2 S (j + 1) _ _ l3 m3 ht (by omega) (by omega) hin hz (by show S.length + (j + 1) ≤ sk T s.1 + 3; omega) (by show 3 * (s.2.1.length + (j + 1)) ≤ 6 * s.2.2 + (sk T s.1 + 3); omega) (by show 3 * (T.1 - (sk T s.1 + 3)) + 1 ≤ u; omega)
          · intro x f4 G4 hx x4 fn4
            rw [hx] at hf
            exact hf _ _ _ rfl x4 (FN_tr FN_m (FN_tr fn2 (FN_tr FN_m fn4)))
          · intro s4 f4 G4 hx l4 m4 fn4
            rw [hx] at hg
            dsimp only at hg
            have e1 : s4.2.1 ++ List.replicate (j + 1) 22 = (s4.2.1 ++ [22]) ++ List.replicate j 22 := by rw [List.replicate_succ, List.append_assoc]; rfl
            rw [e1] at l4
            rw [show dp + 1 - (j + 1) = dp - j by omega] at m4
            exact hg _ _ _ rfl l4 m4 (FN_tr FN_m (FN_tr fn2 (FN_tr FN_m fn4)))
      | false =>
        have hn' : ¬ isW T (sk T s.1) (stx 12) = true := by rw [hn]; simp
        simp only [if_neg hn'] at hf hg
        simp only [bz_f, if_true]
        rw [m143 hT mt1 (by omega)]
        show if hI T (sk T s.1) = nI 91 then _ else _
        simp only [hI_eq (show 91 < 256 by decide)]
        by_cases h91 : ch8 T (sk T s.1) = 91
        · have hin := ch8_in (T := T) (p := sk T s.1) (by omega)
          simp only [if_pos h91] at hf hg
          rw [if_pos h91]
          apply m156d (d := d + 7) (x := 12) (Or.inr rfl) hT l1 sle m1 hd (by omega)
          · intro f2 G2 h10 x2 e20 fn2
            rw [if_pos (by omega)] at hf
            have e20 : f2 125 20 = nI (sk T s.1) := e20
            simp only [mO scr, e20, nI_1]
            have x3 : XM 430 (mS f2 (sk T s.1 + 1)) G2 T _ := XM_mS (by omega) (XM_le (by omega) x2)
            refine ⟨_, rfl, ?_⟩
            rw [if_pos rfl]
            refine (h9_x x3).mpr ?_
            exact hf _ _ _ rfl x3 (FN_tr FN_m (FN_tr fn2 FN_m))
          · intro f2 G2 h10 l2 m2 fn2
            rw [if_neg (by omega)] at hf hg
            have e20 : f2 125 20 = nI (sk T s.1) := l2.1.2
            simp only [mO scr, e20, nI_1]
            have l3 : LMs (mS f2 (sk T s.1 + 1)) G2 T r (sk T s.1 + 1, s.2) := LMs_mS (s := (sk T s.1, s.2)) l2
            have m3 : MKs (mS f2 (sk T s.1 + 1)) G2 (dp + 1) ((S ++ List.replicate j 9) ++ [12]) := MKs_fm (r := r) FM_m m2
            refine ⟨_, rfl, ?_⟩
            rw [if_pos rfl]
            apply ihT (dp + 1) _ (mS f2 (sk T s.1 + 1)) G2 ((S ++ List.replicate j 9) ++ [12]) _ _ l3 m3 (Or.inr ⟨_, rfl⟩) (by omega) hin hz (by rw [len_sn]; show _ ≤ sk T s.1 + 1; omega) (by show 3 * s.2.1.length ≤ 6 * s.2.2 + (sk T s.1 + 1); omega) (by show 3 * (T.1 - (sk T s.1 + 1)) + 2 ≤ u; omega)
            · intro x f4 G4 hx x4 fn4
              rw [hx] at hf
              exact hf _ _ _ rfl x4 (FN_tr FN_m (FN_tr fn2 (FN_tr FN_m fn4)))
            · intro s4 f4 G4 hx l4 ssk m4 fn4
              obtain ⟨b1, b2, b3, -, b5⟩ := lg_f (by omega) hx hin hz
              have b5 : 3 * s4.2.1.length + 9 + 6 * s.2.2 + (sk T s.1 + 1) ≤ 3 * s.2.1.length + 6 * s4.2.2 + s4.1 := b5
              rw [hx] at hf hg
              dsimp only at hf hg
              rw [ssk] at hf hg
              have fn5 : FN r f G f4 G4 := FN_tr FN_m (FN_tr fn2 (FN_tr FN_m fn4))
              have mt4 : MT f4 G4 T s4.1 := l4.1
              have close : ∀ f5 G5 x5, f5 125 20 = nI x5 → f5 125 25 = nI (dp + 1) → f5 125 27 = nI (S.length + j + 1) → E scr false (d + 10) 159 9 [.ref 125, .int 0, .int 1, .int 0, .int 0] [] (wo (up2 (up2 (up2 f5 125 20 (nI (x5 + 1))) 125 27 (nI (S.length + j))) 125 25 (nI dp)) G5 J c) K → E scr false (d + 10) 159 164 [.ref 125, .int 0, .int 1, .int 0, .int 0] [] (wo f5 G5 J c) K := by
                intro f5 G5 x5 e20 e25 e27 hE
                have a27 : up2 f5 125 20 (nI (x5 + 1)) 125 27 = nI (S.length + j + 1) := by rw [up2_f (by omega)]; exact e27
                have a25 : up2 (up2 f5 125 20 (nI (x5 + 1))) 125 27 (nI (S.length + j)) 125 25 = nI (dp + 1) := by rw [up2_f (by omega), up2_f (by omega)]; exact e25
                rw [b159_164]
                simp only [mO scr, e20, nI_1, a27, nI_s1 (show 0 < S.length + j + 1 by omega), Nat.add_sub_cancel, a25, nI_s1 (show 0 < dp + 1 by omega)]
                rw [b159_199]
                exact hE
              have e25 : f4 125 25 = nI (dp + 1) := m4.1
              have e27 : f4 125 27 = nI (S.length + j + 1) := by rw [← hlen, ← len_sn (x := 12)]; exact m4.2.1
              unfold ATk
              rw [m155s m4 (by omega), if_pos (show nI 12 = (12 : Int32) from rfl), m143 hT mt4 (by omega)]
              show if hI T s4.1 = nI 93 then _ else _
              simp only [hI_eq (show 93 < 256 by decide)]
              by_cases h93 : ch8 T s4.1 = 93
              · have hin4 := ch8_in (T := T) (p := s4.1) (by omega)
                rw [if_pos h93] at hg
                rw [if_pos h93]
                apply close f4 G4 s4.1 mt4.2 e25 e27
                have l5 : LMs (mS f4 (s4.1 + 1)) G4 T r (s4.1 + 1, s4.2) := LMs_mS l4
                have l6 : LMs (up2 (up2 (mS f4 (s4.1 + 1)) 125 27 (nI (S.length + j))) 125 25 (nI dp)) G4 T r (s4.1 + 1, s4.2) := LMs_st (fun i a b => by rw [up2_f (by omega), up2_f (by omega)]) (fun _ _ _ => rfl) l5
                have m6 : MKs (up2 (up2 (mS f4 (s4.1 + 1)) 125 27 (nI (S.length + j))) 125 25 (nI dp)) G4 dp (S ++ List.replicate j 9) := ⟨up2_s, by rw [up2_f (by omega), up2_s, hlen], fun i hi => by
                  have := m4.2.2 i (by rw [len_sn]; omega)
                  rw [getD_sl hi] at this
                  exact this⟩
                apply done _ _ _ _ _ l6 m6 (FN_tr fn5 (FN_tr FN_m (FN_tr (FN_u (by omega)) (FN_u (by omega))))) (by show s4.2.1.length + j < 300; omega)
                intro f' G' a1 a2 a3
                exact hg _ _ _ rfl a1 a2 a3
              · rw [if_neg h93] at hf
                rw [if_neg h93]
                simp only [mO scr, mt4.2]
                have := m142 (scr := scr) (J := J) (c := c) (G := G4) (d := d + 9) (w := s4.1) (k := 0) l4.2.1 (K := fun h19 : aH => E scr false (d + 10) 159 164 [.ref 125, .int 0, .int 1, .int 0, .int 0] [] h19 K)
                refine this.mpr ?_
                apply close _ G4 s4.1 (by rw [up2_f (by omega)]; exact mt4.2) (by rw [up2_f (by omega)]; exact e25) (by rw [up2_f (by omega)]; exact e27)
                have x5 := XM_bl (b := 400) (x := 1 + 8 * s4.1 + 0) mt4 (by omega) (by omega) (by omega)
                have x6 : XM 430 (mS (up2 f4 125 21 (nI (1 + 8 * s4.1 + 0))) (s4.1 + 1)) G4 T _ := XM_mS (by omega) (XM_le (by omega) x5)
                have x7 := XM_u (k := 25) (v := nI dp) (by omega) (XM_u (k := 27) (v := nI (S.length + j)) (by omega) x6)
                refine (h9_x x7).mpr ?_
                exact hf _ _ _ rfl x7 (FN_tr fn5 (FN_tr (FN_u (by omega)) (FN_tr FN_m (FN_tr (FN_u (by omega)) (FN_u (by omega))))))
        · simp only [if_neg h91] at hf hg
          rw [if_neg h91]
          rw [← coL_sk] at hf hg
          apply m154 (d := d) hT hr l1 sle hz (by show 3 * s.2.1.length ≤ 6 * s.2.2 + sk T s.1; omega)
          · intro x f2 G2 hx x2 fm2
            refine ⟨_, rfl, ?_⟩
            rw [if_neg n10]
            refine (h9_x x2).mpr ?_
            exact hf _ _ _ hx (XM_le (by omega) x2) (FN_tr FN_m (FN_fm fm2))
          · intro s2 f2 G2 hx l2 fm2
            obtain ⟨b1, b2, b3, -, b5⟩ := co_ok (s := (sk T s.1, s.2)) sle hx
            have b5 : 3 * s2.2.1.length + 9 + 6 * s.2.2 + sk T s.1 ≤ 3 * s.2.1.length + 6 * s2.2.2 + s2.1 := b5
            refine ⟨_, rfl, ?_⟩
            rw [if_neg n10]
            apply done _ _ _ _ _ l2 (MKs_fm fm2 m1) (FN_tr FN_m (FN_fm fm2)) (by omega)
            intro f' G' a1 a2 a3
            exact hg _ _ _ hx a1 a2 a3
    · -- a test
      intro dp s f G S l3 l4 hL hM ht hd hp hz hS hb hu hf hg
      rw [lg1] at hf hg
      apply ihF dp s f G S 0 l3 l4 hL (by rw [List.replicate_zero, List.append_nil]; exact hM) (t0_ne ht (by omega)) (by omega) hd hp hz (by omega) (by omega) (by omega)
      · intro x f1 G1 hx x1 fn1
        rw [hx] at hf
        exact hf _ _ _ rfl x1 fn1
      · intro s1 f1 G1 hx l1 m1 fn1
        obtain ⟨b1, b2, b3, -, b5⟩ := lg_f (by omega) hx hp hz
        rw [hx] at hf hg
        dsimp only at hf hg
        have l1 : LMs f1 G1 T r s1 := by rw [List.replicate_zero, List.append_nil] at l1; exact l1
        have m1 : MKs f1 G1 dp ((S ++ orS 2) ++ List.replicate 0 10) := by
          rw [List.replicate_zero, List.append_nil, show orS 2 = [] from rfl, List.append_nil]; exact m1
        have e0 : (s1.1, s1.2.1 ++ List.replicate 0 20, s1.2.2) = s1 := by rw [List.replicate_zero, List.append_nil]
        apply ihL 2 0 dp s1 f1 G1 S (Or.inl rfl) (by omega) l1 m1 ht hd b2 b3 (by show S.length + 0 + 0 ≤ s1.1; omega) (by show 3 * (s1.2.1.length + 0 + 0) ≤ _; omega) (by omega)
        · intro x f2 G2 hx2 x2 fn2
          rw [e0] at hx2
          exact hf _ _ _ hx2 x2 (FN_tr fn1 fn2)
        · intro s2 f2 G2 hx2 l2 ssk m2 fn2
          rw [e0] at hx2
          exact hg _ _ _ hx2 l2 ssk m2 (FN_tr fn1 fn2)
    · -- what follows a fact
      intro m a dp s f G S hm ha hL hM ht hd hp hz hS hb hu hf hg
      have sle := sk_le (T := T) hp
      have sge := sk_ge (T := T) (p := s.1)
      have hm0 : ¬ m = 0 := by omega
      have hm1 : ¬ m = 1 := by omega
      have ole : (orC m).length = (orS m).length ∧ (orS m).length ≤ 1 := by unfold orC orS; split <;> exact ⟨rfl, by simp⟩
      rw [lg2 hm0 hm1] at hf hg
      have l1 := LMs_mS (a := sk T s.1) hL
      have m1 : MKs (mS f (sk T s.1)) G dp ((S ++ orS m) ++ List.replicate a 10) := MKs_fm (r := r) FM_m hM
      have mt1 : MT (mS f (sk T s.1)) G T (sk T s.1) := l1.1
      have hlen : (S ++ orS m).length = S.length + (orS m).length := List.length_append
      unfold AFk
      rw [m144 hT hL.1 (by omega), m146 (d := d + 5) hT mt1 (by omega) (show 22 < 24 by decide), m146 (d := d + 5) hT mt1 (by omega) (show 23 < 24 by decide)]
      have m1' : MKs (mS f (sk T s.1)) G (dp + an9 10 a) ((S ++ orS m) ++ List.replicate a 10) := m1
      apply v157 (d := d + 8) (x := 10) (k := 20) (Or.inr (Or.inl ⟨rfl, rfl⟩)) hr (tne_or ht (by omega) (by omega)) l1 m1' (by omega) (by show s.2.1.length + a < 300; omega)
      intro f2 G2 l2 m2 fn2
      have l2 : LMs f2 G2 T r (sk T s.1, s.2.1 ++ List.replicate a 20, s.2.2) := l2
      have clen : (s.2.1 ++ List.replicate a 20).length = s.2.1.length + a := by rw [List.length_append, List.length_replicate]
      -- an OR that waits is told
      have ors : ∀ (KK : aH → Prop), (∀ f' G', LMs f' G' T r (sk T s.1, (s.2.1 ++ List.replicate a 20) ++ orC m, s.2.2) → MKs f' G' dp S → FN r f G f' G' → KK (wo f' G' J c)) → vV scr (d + 9) 157 [.ref 125, .int 11] (wo f2 G2 J c) KK := by
        intro KK hK
        rw [orS_r] at m2
        have m2' : MKs f2 G2 (dp + an9 11 (if m = 3 then 1 else 0)) (S ++ List.replicate (if m = 3 then 1 else 0) 11) := m2
        have j1 : (if m = 3 then 1 else 0) ≤ 1 := by split <;> omega
        apply v157 (d := d + 8) (x := 11) (k := 21) (Or.inr (Or.inr ⟨rfl, rfl⟩)) hr (t0_ne ht (by omega)) l2 m2' (by omega) (by show (s.2.1 ++ List.replicate a 20).length + _ < 300; omega)
        intro f' G' a1 a2 a3
        rw [← orC_r] at a1
        exact hK f' G' a1 a2 (FN_tr FN_m (FN_tr fn2 a3))
      dsimp only at hf hg
      cases hw : isW T (sk T s.1) (stx 22) with
      | true =>
        have hin := isW_in (by decide) (show (stx 22).length = 3 from rfl) hw sle
        have we3 := isW_end hw
        have no23 : isW T (sk T s.1) (stx 23) = false := by
          cases h23 : isW T (sk T s.1) (stx 23) with
          | false => rfl
          | true =>
            have := isW_end h23
            rw [we3, show (stx 22).length = 3 from rfl, show (stx 23).length = 2 from rfl] at this
            omega
        simp only [if_pos hw] at hf hg
        simp only [bz_t, n10, if_false, no23, bz_f]
        rw [b159_82, if_pos rfl, b159_93, if_neg n10, b159_105]
        apply m156 (d := d + 8) (x := 10) (Or.inl rfl) l2 m2 (by omega)
        intro f3 G3 l3 m3 fn3
        have e20 : f3 125 20 = nI (sk T s.1) := l3.1.2
        simp only [mO scr, e20, n10, if_false]
        rw [b159_122]
        simp only [mO scr]
        rw [show (3 : Int32) = nI 3 from rfl, nI_add, b159_199]
        have l4 : LMs (mS f3 (sk T s.1 + 3)) G3 T r (sk T s.1 + 3, s.2.1 ++ List.replicate a 20, s.2.2) := LMs_mS l3
        have m4 : MKs (mS f3 (sk T s.1 + 3)) G3 dp ((S ++ orS m) ++ [10]) := MKs_fm (r := r) FM_m m3
        apply ihF dp _ (mS f3 (sk T s.1 + 3)) G3 ((S ++ orS m) ++ [10]) 0 _ _ l4 (by rw [List.replicate_zero, List.append_nil]; exact m4) (tne_s (by omega) (by omega)) (by omega) hd hin hz (by rw [len_sn, hlen]; show _ ≤ sk T s.1 + 3; omega) (by show 3 * ((s.2.1 ++ List.replicate a 20).length + 0) ≤ 6 * s.2.2 + (sk T s.1 + 3); omega) (by show 3 * (T.1 - (sk T s.1 + 3)) + 1 ≤ u; omega)
        · intro x f5 G5 hx x5 fn5
          try dsimp only at hx
          rw [hx] at hf
          exact hf _ _ _ rfl x5 (FN_tr FN_m (FN_tr fn2 (FN_tr fn3 (FN_tr FN_m fn5))))
        · intro s5 f5 G5 hx l5 m5 fn5
          try dsimp only at hx
          obtain ⟨b1, b2, b3, -, b5⟩ := lg_f (by omega) hx hin hz
          have b1 : sk T s.1 + 3 < s5.1 := b1
          have b5 : 3 * s5.2.1.length + 9 + 6 * s.2.2 + (sk T s.1 + 3) ≤ 3 * (s.2.1 ++ List.replicate a 20).length + 6 * s5.2.2 + s5.1 := b5
          rw [hx] at hf hg
          dsimp only at hf hg
          have l5 : LMs f5 G5 T r s5 := by rw [List.replicate_zero, List.append_nil] at l5; exact l5
          apply ihL m 1 dp s5 f5 G5 S hm (by omega) l5 m5 ht hd b2 b3 (by omega) (by omega) (by omega)
          · intro x f6 G6 hx6 x6 fn6
            exact hf _ _ _ hx6 x6 (FN_tr FN_m (FN_tr fn2 (FN_tr fn3 (FN_tr FN_m (FN_tr fn5 fn6)))))
          · intro s6 f6 G6 hx6 l6 ssk m6 fn6
            exact hg _ _ _ hx6 l6 ssk m6 (FN_tr FN_m (FN_tr fn2 (FN_tr fn3 (FN_tr FN_m (FN_tr fn5 fn6)))))
      | false =>
        have hw' : ¬ isW T (sk T s.1) (stx 22) = true := by rw [hw]; simp
        simp only [if_neg hw'] at hf hg
        cases ho : isW T (sk T s.1) (stx 23) with
        | true =>
          have hin := isW_in (by decide) (show (stx 23).length = 2 from rfl) ho sle
          simp only [if_pos ho] at hf hg
          simp only [bz_t, bz_f, if_true, n10, if_false]
          rw [b159_82, if_neg n10]
          apply ors
          intro f3 G3 l3 m3 fn3
          rw [b159_93, if_pos rfl, b159_105]
          apply m156 (d := d + 8) (x := 11) (Or.inr rfl) l3 m3 (by omega)
          intro f4 G4 l4 m4 fn4
          have e20 : f4 125 20 = nI (sk T s.1) := l4.1.2
          simp only [mO scr, e20, if_true]
          rw [b159_122]
          simp only [mO scr]
          rw [show (2 : Int32) = nI 2 from rfl, nI_add, b159_199]
          have l5 : LMs (mS f4 (sk T s.1 + 2)) G4 T r (sk T s.1 + 2, (s.2.1 ++ List.replicate a 20) ++ orC m, s.2.2) := LMs_mS l4
          have m5 : MKs (mS f4 (sk T s.1 + 2)) G4 dp (S ++ [11]) := MKs_fm (r := r) FM_m m4
          have clen2 : ((s.2.1 ++ List.replicate a 20) ++ orC m).length = s.2.1.length + a + (orC m).length := by rw [List.length_append, clen]
          apply ihF dp _ (mS f4 (sk T s.1 + 2)) G4 (S ++ [11]) 0 _ _ l5 (by rw [List.replicate_zero, List.append_nil]; exact m5) (tne_s (by omega) (by omega)) (by omega) hd hin hz (by rw [len_sn]; show _ ≤ sk T s.1 + 2; omega) (by show 3 * (((s.2.1 ++ List.replicate a 20) ++ orC m).length + 0) ≤ 6 * s.2.2 + (sk T s.1 + 2); omega) (by show 3 * (T.1 - (sk T s.1 + 2)) + 1 ≤ u; omega)
          · intro x f6 G6 hx x6 fn6
            try dsimp only at hx
            rw [hx] at hf
            exact hf _ _ _ rfl x6 (FN_tr fn3 (FN_tr fn4 (FN_tr FN_m fn6)))
          · intro s6 f6 G6 hx l6 m6 fn6
            try dsimp only at hx
            obtain ⟨b1, b2, b3, -, b5⟩ := lg_f (by omega) hx hin hz
            have b1 : sk T s.1 + 2 < s6.1 := b1
            have b5 : 3 * s6.2.1.length + 9 + 6 * s.2.2 + (sk T s.1 + 2) ≤ 3 * ((s.2.1 ++ List.replicate a 20) ++ orC m).length + 6 * s6.2.2 + s6.1 := b5
            rw [hx] at hf hg
            dsimp only at hf hg
            have l6 : LMs f6 G6 T r s6 := by rw [List.replicate_zero, List.append_nil] at l6; exact l6
            have e0 : (s6.1, s6.2.1 ++ List.replicate 0 20, s6.2.2) = s6 := by rw [List.replicate_zero, List.append_nil]
            have m6 : MKs f6 G6 dp ((S ++ orS 3) ++ List.replicate 0 10) := by rw [List.replicate_zero, List.append_nil]; exact m6
            apply ihL 3 0 dp s6 f6 G6 S (Or.inr rfl) (by omega) l6 m6 ht hd b2 b3 (by show S.length + 1 + 0 ≤ s6.1; omega) (by show 3 * (s6.2.1.length + 0 + 1) ≤ _; omega) (by omega)
            · intro x f7 G7 hx7 x7 fn7
              rw [e0] at hx7
              exact hf _ _ _ hx7 x7 (FN_tr fn3 (FN_tr fn4 (FN_tr FN_m (FN_tr fn6 fn7))))
            · intro s7 f7 G7 hx7 l7 ssk m7 fn7
              rw [e0] at hx7
              exact hg _ _ _ hx7 l7 ssk m7 (FN_tr fn3 (FN_tr fn4 (FN_tr FN_m (FN_tr fn6 fn7))))
        | false =>
          have ho' : ¬ isW T (sk T s.1) (stx 23) = true := by rw [ho]; simp
          simp only [if_neg ho'] at hf hg
          simp only [bz_f, if_true]
          apply ors
          intro f3 G3 l3 m3 fn3
          exact hg _ _ _ rfl l3 sk_sk m3 fn3
end LM6
