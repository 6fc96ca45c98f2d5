variable {scr : List Int32}
-- ===== the law, read by the model: clauses =====
section LM7
variable {f G f' G' : Nat → Nat → Int32} {J J' : Nat → Nat → Int64} {c : Value} {d : Nat} {T : Tp} {p q r b dp : Nat} {s : Ls} {L : Lq}
theorem m159 (hT : TX T) (hr : r < 6) (hL : LMs f G T r s) (h25 : f 125 25 = 0) (hp : s.1 ≤ T.1) (hz : s.2.2 ≤ 60) (hb : 3 * s.2.1.length ≤ 6 * s.2.2 + s.1) {K : aH → Prop} (hf : ∀ x f' G', lgR T 1300 1 0 s = .inl x → XM 430 f' G' T x → FN r f G f' G' → K (wo f' G' J c)) (hg : ∀ s' f' G', lgR T 1300 1 0 s = .inr s' → LMs f' G' T r s' → f' 125 25 = 0 → FN r f G f' G' → K (wo f' G' J c)) : vV scr (d + 10) 159 [.ref 125] (wo f G J c) K := by
  have h400 := hT.1
  unfold vV
  rw [u159_ok, en159, b159_0]
  simp only [mO scr]
  refine ⟨trivial, ?_⟩
  have l1 : LMs (up2 f 125 27 0) G T r s := LMs_st (fun i a b => up2_f (by omega)) (fun _ _ _ => rfl) hL
  have m1 : MKs (up2 f 125 27 0) G 0 [] := ⟨by rw [up2_f (by omega)]; exact h25, up2_s, fun i hi => by have hi : i < 0 := hi; omega⟩
  apply (lg_ml (scr := scr) (J := J) (c := c) (d := d) hT hr 1300).2.1 0 s _ G [] _ _ l1 m1 (Or.inl rfl) (by omega) hp hz (Nat.zero_le _) hb (by omega)
  · intro x f2 G2 hx x2 fn2
    exact ⟨rfl, hf x f2 G2 hx x2 (FN_tr (FN_u (by omega)) fn2)⟩
  · intro s2 f2 G2 hx l2 _ m2 fn2
    unfold ATk
    rw [m155e m2, if_neg (show ¬ ((-1 : Int32) = 12) by decide), b159_199, b159_9, if_pos rfl]
    exact ⟨rfl, hg s2 f2 G2 hx l2 m2.1 (FN_tr (FN_u (by omega)) fn2)⟩
theorem m147 (hT : TX T) (h : MT f G T q) (hq : q ≤ T.1) {i : Nat} (hi : i < 24) {K : Int32 → aH → Prop} : vI scr (d + 5) 147 [.ref 125, .ref (20000 + i)] (wo f G J c) K = if isW T (sk T q) (stx i) = true then K 1 (wo (mS f (sk T q + (stx i).length)) G J c) else K 0 (wo (mS f (sk T q)) G J c) := by
  have h400 := hT.1
  have sle := sk_le (T := T) hq
  unfold vI
  rw [u147_ok, en147, b147_0, m144 hT h (by omega), m146 (d := d) hT (MT_mS h) (by omega) hi]
  simp only [mO scr, mS_20, true_and]
  cases e : isW T (sk T q) (stx i) with
  | false =>
    simp only [bz_f, if_true, b147_27, mO scr, Bool.false_eq_true, if_false]
    rw [show nI (sk T q) + 0 = nI (sk T q) from by rw [show (0 : Int32) = nI 0 from rfl, nI_add]; rfl]
    have e : up2 (mS f (sk T q)) 125 20 (nI (sk T q)) = mS f (sk T q) := up_up
    rw [e]
    apply propext
    constructor
    · rintro ⟨-, x, hx, hK⟩; cases hx; exact hK
    · intro hK; exact ⟨by decide, _, rfl, hK⟩
  | true =>
    simp only [bz_t, n10, if_false, sp227 hi, b147_27, mO scr, if_true, nI_add]
    have e : up2 (mS f (sk T q)) 125 20 (nI (sk T q + (stx i).length)) = mS f (sk T q + (stx i).length) := up_up
    rw [e]
    apply propext
    constructor
    · rintro ⟨-, x, hx, hK⟩; cases hx; exact hK
    · intro hK; exact ⟨by decide, _, rfl, hK⟩
def MQs (G : Nat → Nat → Int32) (r : Nat) (L : Lq) : Prop := ∀ i, i < L.1 → G 147 (12 * r + i) = nI (L.2.1 i) ∧ G 148 (12 * r + i) = nI (lwS (mkL L []) i) ∧ G 149 (12 * r + i) = nI (L.2.2 i)
def FC (r : Nat) (f G f' G' : Nat → Nat → Int32) : Prop := (∀ o k, ¬ (o = 125 ∧ (k = 20 ∨ k = 21 ∨ k = 24 ∨ k = 25 ∨ k = 26 ∨ k = 27)) → f' o k = f o k) ∧ (∀ q k, ¬ ((q = 144 ∨ q = 145) ∧ 300 * r ≤ k) → ¬ ((q = 147 ∨ q = 148 ∨ q = 149) ∧ 12 * r ≤ k) → q ≠ 150 → G' q k = G q k)
theorem FC_tr {f1 G1 f2 G2 : Nat → Nat → Int32} (h : FC r f G f1 G1) (h' : FC r f1 G1 f2 G2) : FC r f G f2 G2 := ⟨fun o k a => (h'.1 o k a).trans (h.1 o k a), fun q k a b e => (h'.2 q k a b e).trans (h.2 q k a b e)⟩
theorem FC_fn (h : FN r f G f' G') : FC r f G f' G' := ⟨h.1, fun q k a _ e => h.2 q k a e⟩
theorem FC_g {q k : Nat} {v : Int32} (hq : q = 147 ∨ q = 148 ∨ q = 149) (hk : 12 * r ≤ k) : FC r f G f (up2 G q k v) := ⟨fun _ _ _ => rfl, fun q' k' a b _ => up2_f (fun e => b ⟨by omega, by omega⟩)⟩
theorem LMs_g {q k : Nat} {v : Int32} (hq : q = 147 ∨ q = 148 ∨ q = 149) (h : LMs f G T r s) : LMs f (up2 G q k v) T r s := by
  obtain ⟨⟨⟨a1, a2, a3⟩, a4⟩, a5, a6, a7, a8, a9⟩ := h
  exact ⟨⟨⟨a1, fun i hi => by rw [up2_q (by omega)]; exact a2 i hi, a3⟩, a4⟩, a5, a6, a7, a8, fun k hk => by rw [up2_q (by omega), up2_q (by omega)]; exact a9 k hk⟩
theorem MX_g {q k x : Nat} {v : Int32} (hq : q = 147 ∨ q = 148 ∨ q = 149) (h : MX f G T x) : MX f (up2 G q k v) T x := ⟨⟨h.1.1, fun i hi => by rw [up2_q (by omega)]; exact h.1.2.1 i hi, h.1.2.2⟩, h.2⟩
theorem lwS_ad {k e i : Nat} : lwS (mkL (adL L k e) []) i = if i = 0 then 0 else if i - 1 = L.1 then e else L.2.2 (i - 1) := by
  unfold lwS
  by_cases h : i = 0
  · rw [if_pos h, if_pos h]
  · rw [if_neg h, if_neg h]
    rfl
theorem lwS_mk {i : Nat} {C : List Nat} : lwS (mkL L C) i = if i = 0 then 0 else L.2.2 (i - 1) := rfl
/-- the clause's three rows, written -/
theorem MQs_ad {a k n e : Nat} (hL : MQs G r L) (ha : a = 12 * r + L.1) (hn : n = if L.1 = 0 then 0 else L.2.2 (L.1 - 1)) (h1 : ∀ i, i < 12 * r + L.1 → ∀ q, q = 147 ∨ q = 148 ∨ q = 149 → G' q i = G q i) (h2 : G' 147 a = nI k) (h3 : G' 148 a = nI n) (h4 : G' 149 a = nI e) : MQs G' r (adL L k e) := by
  intro i hi
  have hi : i < L.1 + 1 := hi
  show _ = nI (if i = L.1 then k else L.2.1 i) ∧ _ = nI (lwS (mkL (adL L k e) []) i) ∧ _ = nI (if i = L.1 then e else L.2.2 i)
  rw [lwS_ad]
  by_cases ei : i = L.1
  · rw [ei, if_pos rfl, if_pos rfl, ← ha, h2, h3, h4, hn]
    refine ⟨rfl, ?_, rfl⟩
    by_cases h0 : L.1 = 0
    · rw [if_pos h0, if_pos h0]
    · rw [if_neg h0, if_neg h0, if_neg (by omega)]
  · obtain ⟨a1, a2, a3⟩ := hL i (by omega)
    rw [if_neg ei, if_neg ei, h1 _ (by omega) 147 (by omega), h1 _ (by omega) 148 (by omega), h1 _ (by omega) 149 (by omega)]
    refine ⟨a1, ?_, a3⟩
    rw [a2, lwS_mk]
    by_cases h0 : i = 0
    · rw [if_pos h0, if_pos h0]
    · rw [if_neg h0, if_neg h0, if_neg (by omega)]
theorem m170 (hT : TX T) (hr : r < 6) (hl : LMs f G T r s) (h25 : f 125 25 = 0) (hQ : MQs G r L) (hJ : LJq L s.2.1) (hp : s.1 ≤ T.1) (hz : s.2.2 ≤ 60) (hb : 3 * s.2.1.length ≤ 6 * s.2.2 + s.1) {K : aH → Prop} (hf : ∀ x f' G', clC' T L.1 s = .inl x → MX f' G' T x → FC r f G f' G' → K (wo f' G' J c)) (hg : ∀ k s1 f' G', clC' T L.1 s = .inr (k, s1) → LMs f' G' T r s1 → f' 125 25 = 0 → MQs G' r (adL L k s1.2.1.length) → FC r f G f' G' → K (wo f' G' J c)) : vV scr (d + 11) 170 [.ref 125, .int (nI L.1)] (wo f G J c) K := by
  have h400 := hT.1
  have h12 := hJ.1
  have hJ4 := hJ.2.2.2
  have sle := sk_le (T := T) hp
  have sge := sk_ge (T := T) (p := s.1)
  have l1 := LMs_mS (a := sk T s.1) hl
  have mt1 : MT (mS f (sk T s.1)) G T (sk T s.1) := l1.1
  -- behind the place
  have p102 : ∀ k e l3, e ≤ T.1 → sk T s.1 ≤ e → k ≤ 9 → L.1 < 12 → (isW T (sk T s.1) (stx 10) = true ∨ isW T (sk T s.1) (stx 9) = true) → (if isW T (sk T s.1) (stx 10) = true then Sum.inr (0, sk T s.1 + 5) else nuR T (sk T s.1 + 6) 1 9) = Sum.inr (k, e) → E scr false (d + 11) 170 102 [.ref 125, .int (nI L.1), .int (nI (sk T s.1)), .int l3, .int (nI (12 * r + L.1))] [.int (nI k), .int (nI (12 * r + L.1)), .ref 147] (wo (mS f e) G J c) (fun r h => r = none ∧ K h) := by
    intro k e l3 he hse hk hn hw hke
    unfold clC' at hf hg
    rw [if_pos hw, if_neg (by omega), hke] at hf hg
    dsimp only at hf hg
    have la := LMs_mS (a := e) hl
    have ske := sk_le he
    have sge2 := sk_ge (T := T) (p := e)
    have e24 : mS f e 125 24 = nI s.2.1.length := la.2.2.2.1
    have e21 : mS f e 125 21 = 0 := la.2.1
    rw [b170_102]
    simp (disch := omega) only [mO scr, e24, e21, if_true]
    generalize hG2 : up2 (up2 G 147 (12 * r + L.1) (nI k)) 148 (12 * r + L.1) (nI s.2.1.length) = G2
    have lb : LMs (mS f e) G2 T r (e, s.2) := by rw [← hG2]; exact LMs_g (by omega) (LMs_g (by omega) la)
    have fc : FC r f G (mS f e) G2 := by rw [← hG2]; exact FC_tr (FC_fn FN_m) (FC_tr (FC_g (by omega) (by omega)) (FC_g (by omega) (by omega)))
    have g147 : G2 147 (12 * r + L.1) = nI k := by rw [← hG2, up2_q (by omega), up2_s]
    have g148 : G2 148 (12 * r + L.1) = nI s.2.1.length := by rw [← hG2, up2_s]
    have gold : ∀ i, i < 12 * r + L.1 → ∀ q, q = 147 ∨ q = 148 ∨ q = 149 → G2 q i = G q i := fun i hi q _ => by rw [← hG2, up2_f (by omega), up2_f (by omega)]
    -- the last row
    have last : ∀ f3 G3 s1, LMs f3 G3 T r s1 → f3 125 25 = 0 → FN r (mS f e) G2 f3 G3 → (∀ f' G', LMs f' G' T r s1 → f' 125 25 = 0 → MQs G' r (adL L k s1.2.1.length) → FC r f G f' G' → K (wo f' G' J c)) → E scr false (d + 11) 170 135 [.ref 125, .int (nI L.1), .int (nI (sk T s.1)), .int l3, .int (nI (12 * r + L.1))] [] (wo f3 G3 J c) (fun r h => r = none ∧ K h) := by
      intro f3 G3 s1 l3' z25 fn3 hK
      rw [b170_135]
      simp (disch := omega) only [mO scr, l3'.2.2.2.1]
      refine ⟨trivial, hK _ _ (LMs_g (by omega) l3') z25 ?_ (FC_tr fc (FC_tr (FC_fn fn3) (FC_g (by omega) (by omega))))⟩
      apply MQs_ad hQ rfl (n := s.2.1.length) hJ4
      · intro i hi q hq
        rw [up2_f (by omega), fn3.2 q i (by omega) (by omega), gold i hi q hq]
      · rw [up2_q (by omega), fn3.2 147 _ (by omega) (by omega), g147]
      · rw [up2_q (by omega), fn3.2 148 _ (by omega) (by omega), g148]
      · rw [up2_s]
    have lastx : ∀ f3 G3 x, MX f3 G3 T x → FN r (mS f e) G2 f3 G3 → (∀ f' G', MX f' G' T x → FC r f G f' G' → K (wo f' G' J c)) → E scr false (d + 11) 170 135 [.ref 125, .int (nI L.1), .int (nI (sk T s.1)), .int l3, .int (nI (12 * r + L.1))] [] (wo f3 G3 J c) (fun r h => r = none ∧ K h) := by
      intro f3 G3 x x3 fn3 hK
      rw [b170_135]
      simp (disch := omega) only [mO scr]
      exact ⟨trivial, hK _ _ (MX_g (by omega) x3) (FC_tr fc (FC_tr (FC_fn fn3) (FC_g (by omega) (by omega))))⟩
    have z25 : ∀ a, mS f a 125 25 = 0 := fun a => by rw [mS_at (by decide)]; exact h25
    rw [m147 (d := d + 5) hT lb.1 he (show 11 < 24 by decide)]
    by_cases hi : isW T (sk T e) (stx 11) = true
    · have hin := isW_in (by decide) (show (stx 11).length = 2 from rfl) hi ske
      simp only [if_pos hi] at hf hg
      rw [if_pos hi, if_neg n10]
      have lc : LMs (mS (mS f e) (sk T e + 2)) G2 T r (sk T e + 2, s.2) := LMs_mS (s := (e, s.2)) lb
      apply m159 (d := d) hT hr lc (by rw [mS_mS]; exact z25 _) hin hz (by show 3 * s.2.1.length ≤ 6 * s.2.2 + (sk T e + 2); omega)
      · intro x f3 G3 hx x3 fn3
        rw [hx] at hf
        apply lastx f3 G3 x (XM_MX (by omega) x3) (FN_tr FN_m fn3)
        intro f' G' a1 a2
        exact hf x f' G' rfl a1 a2
      · intro s3 f3 G3 hx l3' z3 fn3
        rw [hx] at hg
        apply last f3 G3 s3 l3' z3 (FN_tr FN_m fn3)
        intro f' G' a1 a2 a3 a4
        exact hg _ _ f' G' rfl a1 a2 a3 a4
    · simp only [if_neg hi] at hf hg
      rw [if_neg hi, if_pos rfl]
      have lc : LMs (mS (mS f e) (sk T e)) G2 T r (sk T e, s.2) := LMs_mS (s := (e, s.2)) lb
      apply last _ G2 _ lc (by rw [mS_mS]; exact z25 _) FN_m
      intro f' G' a1 a2 a3 a4
      exact hg _ _ f' G' rfl a1 a2 a3 a4
  have w9 : isW T (sk T s.1) (stx 9) = true → isW T (sk T s.1) (stx 10) = false := by
    intro h9
    cases h10 : isW T (sk T s.1) (stx 10) with
    | false => rfl
    | true =>
      have a := isW_end h9
      have b := isW_end h10
      rw [a, show (stx 9).length = 6 from rfl, show (stx 10).length = 5 from rfl] at b
      omega
  -- behind the word
  have p38 : ∀ x5 : Nat, (x5 = 0 ∧ isW T (sk T s.1) (stx 10) = true) ∨ (x5 = 1 ∧ isW T (sk T s.1) (stx 9) = true) → E scr false (d + 11) 170 38 [.ref 125, .int (nI L.1), .int (nI (sk T s.1)), .int (nI x5), .null] [] (wo (mS f (sk T s.1)) G J c) (fun r h => r = none ∧ K h) := by
    intro x5 hx5
    have hw : isW T (sk T s.1) (stx 10) = true ∨ isW T (sk T s.1) (stx 9) = true := by
      rcases hx5 with h | h
      · exact Or.inl h.2
      · exact Or.inr h.2
    rw [b170_38]
    simp (disch := omega) only [show (12 : Int32) = nI 12 from rfl, NC]
    by_cases hn : L.1 = 12
    · rw [if_pos hn]
      unfold clC' at hf
      rw [if_pos hw, if_pos (by omega)] at hf
      rw [show (4 : Int32) = nI 4 from rfl, m142 l1.2.1]
      exact ⟨trivial, hf _ _ _ rfl (XM_MX (b := 400) (by omega) (XM_bl mt1 (by omega) (by omega) (by omega))) (FC_tr (FC_fn FN_m) (FC_fn (FN_u (by omega))))⟩
    · rw [if_neg hn]
      simp only [mO scr, mS_20]
      have ei : (12 : Int32) * nI r + nI L.1 = nI (12 * r + L.1) := by rw [show (12 : Int32) = nI 12 from rfl, pk_mul, nI_add]
      have e22 : ∀ a, mS f a 125 22 = nI r := fun a => by rw [mS_at (by decide)]; exact hl.2.2.1
      rcases hx5 with ⟨rfl, h10⟩ | ⟨rfl, h9⟩
      · have hin := isW_in (by decide) (show (stx 10).length = 5 from rfl) h10 sle
        rw [if_pos rfl, b170_66]
        simp only [mO scr]
        rw [show (5 : Int32) = nI 5 from rfl, nI_add]
        have em : up2 (mS f (sk T s.1)) 125 20 (nI (sk T s.1 + 5)) = mS f (sk T s.1 + 5) := up_up
        rw [em]
        simp only [mO scr, e22, ei]
        first | rw [if_pos (show nI 0 = (0 : Int32) from rfl)] | rw [if_pos trivial]
        exact p102 0 _ _ hin (by omega) (by omega) (by omega) (Or.inl h10) (by rw [if_pos h10])
      · have hin := isW_in (by decide) (show (stx 9).length = 6 from rfl) h9 sle
        have h10 : ¬ isW T (sk T s.1) (stx 10) = true := by rw [w9 h9]; simp
        rw [if_neg (by decide), b170_66]
        simp only [mO scr]
        rw [show (6 : Int32) = nI 6 from rfl, nI_add]
        have em : up2 (mS f (sk T s.1)) 125 20 (nI (sk T s.1 + 6)) = mS f (sk T s.1 + 6) := up_up
        rw [em]
        simp only [mO scr, e22, ei, show ¬ (nI 1 = (0 : Int32)) by decide, if_false]
        have la := LMs_mS (a := sk T s.1 + 6) hl
        have mta : MT (mS f (sk T s.1 + 6)) G T (sk T s.1 + 6) := la.1
        have key := m160 (scr := scr) (J := J) (c := c) (d := d + 6) hT mta (by omega) la.2.1 (lo := 1) (hi := 9) (by decide) (by decide) (K := fun (x5 : Int32) (h4 : aH) => E scr false (d + 11) 170 102 [.ref 125, .int (nI L.1), .int (nI (sk T s.1)), .int (nI 1), .int (nI (12 * r + L.1))] [.int x5, .int (nI (12 * r + L.1)), .ref 147] h4 (fun r h => r = none ∧ K h))
        apply key
        · intro x v f3 hx _ e21 e20 fr
          unfold clC' at hf
          rw [if_pos (Or.inr h9), if_neg (by omega), if_neg h10, hx] at hf
          obtain ⟨x0, x25⟩ := nu_x (by omega) hT hx
          have fn3 : FN r (mS f (sk T s.1 + 6)) G f3 G := ⟨fun o k a => fr o k (by omega), fun _ _ _ _ => rfl⟩
          have ne : ¬ f3 125 21 = 0 := by rw [e21]; exact nI_nz x0 (by omega)
          have x3 : MX f3 G T x := ⟨⟨by rw [fr 125 19 (by omega)]; exact mta.1.1, mta.1.2.1, by rw [fr 125 28 (by omega)]; exact mta.1.2.2⟩, e20, e21, x0, x25⟩
          rw [b170_102]
          simp (disch := omega) only [mO scr, ne, if_false]
          rw [b170_135]
          simp (disch := omega) only [mO scr]
          exact ⟨trivial, hf _ _ _ rfl (MX_g (by omega) (MX_g (by omega) (MX_g (by omega) x3))) (FC_tr (FC_fn FN_m) (FC_tr (FC_fn fn3) (FC_tr (FC_g (by omega) (by omega)) (FC_tr (FC_g (by omega) (by omega)) (FC_g (by omega) (by omega))))))⟩
        · intro v e hx
          obtain ⟨b1, b2, b3⟩ := nu_le hin hx
          have := nu_pos hx
          rw [mS_mS]
          exact p102 v e _ b1 (by omega) b2 (by omega) (Or.inr h9) (by rw [if_neg h10]; exact hx)
  unfold vV
  rw [u170_ok, en170, b170_0, m144 hT hl.1 (by omega)]
  refine ⟨rfl, ?_⟩
  simp only [mO scr, mS_20]
  rw [m146 (d := d + 6) hT mt1 (by omega) (show 9 < 24 by decide)]
  cases h9 : isW T (sk T s.1) (stx 9) with
  | true =>
    rw [if_neg (show ¬ bz true = 0 by decide)]
    exact p38 1 (Or.inr ⟨rfl, h9⟩)
  | false =>
    rw [if_pos (show bz false = 0 by decide), m146 (d := d + 6) hT mt1 (by omega) (show 10 < 24 by decide)]
    cases h10 : isW T (sk T s.1) (stx 10) with
    | true =>
      rw [if_neg (show ¬ bz true = 0 by decide)]
      exact p38 0 (Or.inl ⟨rfl, h10⟩)
    | false =>
      rw [if_pos (show bz false = 0 by decide)]
      unfold clC' at hf
      rw [if_neg (by rw [h9, h10]; simp)] at hf
      rw [show (0 : Int32) = nI 0 from rfl, m142 l1.2.1]
      refine ⟨?_, hf _ _ _ rfl (XM_MX (b := 400) (by omega) (XM_bl mt1 (by omega) (by omega) (by omega))) (FC_tr (FC_fn FN_m) (FC_fn (FN_u (by omega))))⟩
      first | exact rfl | exact trivial
end LM7
