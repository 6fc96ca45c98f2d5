variable {scr : List Int32}
-- ===== the law, read by the model: values =====
section LM1
variable {f G f' G' : Nat → Nat → Int32} {J J' : Nat → Nat → Int64} {c : Value} {d : Nat} {T : Tp} {p q r b : Nat} {s : Ls}
def LMs (f G : Nat → Nat → Int32) (T : Tp) (r : Nat) (s : Ls) : Prop := MT f G T s.1 ∧ f 125 21 = 0 ∧ f 125 22 = nI r ∧ f 125 24 = nI s.2.1.length ∧ f 125 26 = nI s.2.2 ∧ ∀ k, k < s.2.1.length → G 144 (300 * r + k) = nI (soM (s.2.1.getD k 0)) ∧ G 145 (300 * r + k) = nI (nuM (s.2.1.getD k 0))
def XM (b : Nat) (f G : Nat → Nat → Int32) (T : Tp) (x : Nat) : Prop := ITm f G T ∧ (∃ q, q ≤ b ∧ f 125 20 = nI q) ∧ f 125 21 = nI x ∧ 0 < x ∧ x < 2 ^ 25
def FM (r : Nat) (f G f' G' : Nat → Nat → Int32) : Prop := (∀ o k, ¬ (o = 125 ∧ (k = 20 ∨ k = 21 ∨ k = 24 ∨ k = 26)) → f' o k = f o k) ∧ (∀ q k, ¬ ((q = 144 ∨ q = 145) ∧ 300 * r ≤ k) → G' q k = G q k)
theorem FM_rf : FM r f G f G := ⟨fun _ _ _ => rfl, fun _ _ _ => rfl⟩
theorem FM_tr {f1 G1 f2 G2 : Nat → Nat → Int32} (h : FM r f G f1 G1) (h' : FM r f1 G1 f2 G2) : FM r f G f2 G2 := ⟨fun o k a => (h'.1 o k a).trans (h.1 o k a), fun q k a => (h'.2 q k a).trans (h.2 q k a)⟩
theorem FM_u {k : Nat} {v : Int32} (hk : k = 20 ∨ k = 21 ∨ k = 24 ∨ k = 26) : FM r f G (up2 f 125 k v) G := ⟨fun o j a => up2_f (fun e => a ⟨e.1, by omega⟩), fun _ _ _ => rfl⟩
theorem FM_m : FM r f G (mS f q) G := FM_u (by omega)
theorem ITm_fm (h : FM r f G f' G') (ht : ITm f G T) : ITm f' G' T := ⟨by rw [h.1 125 19 (by omega)]; exact ht.1, fun i hi => by rw [h.2 143 i (by omega)]; exact ht.2.1 i hi, by rw [h.1 125 28 (by omega)]; exact ht.2.2⟩
theorem LMs_mS {a : Nat} (h : LMs f G T r s) : LMs (mS f a) G T r (a, s.2) := ⟨MT_mS h.1, by rw [mS_at (by decide)]; exact h.2.1, by rw [mS_at (by decide)]; exact h.2.2.1, by rw [mS_at (by decide)]; exact h.2.2.2.1, by rw [mS_at (by decide)]; exact h.2.2.2.2.1, h.2.2.2.2.2⟩
theorem XM_ne {x : Nat} (h : XM b f G T x) : ¬ f 125 21 = 0 := by rw [h.2.2.1]; exact nI_nz h.2.2.2.1 (by have := h.2.2.2.2; omega)
theorem XM_mS {x : Nat} (hq : q ≤ b) (h : XM b f G T x) : XM b (mS f q) G T x := ⟨ITm_fe FE_m h.1, ⟨q, hq, mS_20⟩, by rw [mS_at (by decide)]; exact h.2.2.1, h.2.2.2⟩
theorem XM_le {x b' : Nat} (hb : b ≤ b') (h : XM b f G T x) : XM b' f G T x := ⟨h.1, (by obtain ⟨q, hq, e⟩ := h.2.1; exact ⟨q, by omega, e⟩), h.2.2⟩
theorem XM_MX {x : Nat} (hb : b < 2 ^ 20) (h : XM b f G T x) : MX f G T x := ⟨h.1, (by obtain ⟨q, hq, e⟩ := h.2.1; exact ⟨q, by omega, e⟩), h.2.2⟩
theorem XM_MT {x : Nat} (h : XM b f G T x) : ∃ q, q ≤ b ∧ MT f G T q := by
  obtain ⟨h1, ⟨q, hq, e⟩, -⟩ := h
  exact ⟨q, hq, h1, e⟩
theorem XM_u {x k : Nat} {v : Int32} (hk : k = 24 ∨ k = 25 ∨ k = 26 ∨ k = 27) (h : XM b f G T x) : XM b (up2 f 125 k v) G T x := ⟨⟨by rw [up2_f (by omega)]; exact h.1.1, h.1.2.1, by rw [up2_f (by omega)]; exact h.1.2.2⟩, (by obtain ⟨q, hq, e⟩ := h.2.1; exact ⟨q, hq, by rw [up2_f (by omega)]; exact e⟩), by rw [up2_f (by omega)]; exact h.2.2.1, h.2.2.2⟩
theorem XM_bl {x : Nat} (h : MT f G T q) (hq : q ≤ b) (h0 : 0 < x) (h1 : x < 2 ^ 25) : XM b (up2 f 125 21 (nI x)) G T x := ⟨ITm_fe FE_x h.1, ⟨q, hq, by rw [up2_f (by omega)]; exact h.2⟩, up2_s, h0, h1⟩
theorem sk_b (hT : TX T) (hb : 400 ≤ b) (hq : q ≤ b) : sk T q ≤ b := by
  have h400 := hT.1
  by_cases h : q ≤ T.1
  · have := sk_le h; omega
  · rw [sk_out (by omega)]; exact hq
theorem we_b (hT : TX T) (hb : 400 ≤ b) (hq : q ≤ b) : we T q ≤ b := by
  have h400 := hT.1
  by_cases h : q ≤ T.1
  · have := we_le h; omega
  · rw [we_out (by omega)]; exact hq
theorem de_b (hT : TX T) (hb : 400 ≤ b) (hq : q ≤ b) : de T q ≤ b := by
  have h400 := hT.1
  by_cases h : q ≤ T.1
  · have := de_le h; omega
  · rw [de_out (by omega)]; exact hq
-- an entry of code more
theorem m148 (hr : r < 6) (h : LMs f G T r s) (hn : s.2.1.length < 300) {k : Nat} {K : aH → Prop} (hK : ∀ f' G', LMs f' G' T r (s.1, s.2.1 ++ [k], s.2.2) → FM r f G f' G' → K (wo f' G' J c)) : vV scr d 148 [.ref 125, .int (nI (soM k)), .int (nI (nuM k))] (wo f G J c) K := by
  obtain ⟨h1, h2, h3, h4, h5, h6⟩ := h
  have ei : (300 : Int32) * nI r + nI s.2.1.length = nI (300 * r + s.2.1.length) := by rw [show (300 : Int32) = nI 300 from rfl, pk_mul, nI_add]
  unfold vV
  rw [u148_ok, en148, b148_0]
  simp (disch := omega) only [mO scr, h2, if_true, h3, h4, ei, nI_1, ex_v, true_and]
  refine hK _ _ ⟨⟨⟨?_, ?_, ?_⟩, ?_⟩, ?_, ?_, ?_, ?_, ?_⟩ ⟨?_, ?_⟩
  · rw [up2_f (by omega)]; exact h1.1.1
  · intro i hi; rw [up2_q (by decide), up2_q (by decide)]; exact h1.1.2.1 i hi
  · rw [up2_f (by omega)]; exact h1.1.2.2
  · rw [up2_f (by omega)]; exact h1.2
  · rw [up2_f (by omega)]; exact h2
  · rw [up2_f (by omega)]; exact h3
  · rw [up2_s]
    show nI _ = nI (s.2.1 ++ [k]).length
    rw [List.length_append]
    rfl
  · rw [up2_f (by omega)]; exact h5
  · intro i hi
    have hi : i < (s.2.1 ++ [k]).length := hi
    rw [List.length_append] at hi
    simp only [List.length_cons, List.length_nil] at hi
    show _ = nI (soM ((s.2.1 ++ [k]).getD i 0)) ∧ _ = nI (nuM ((s.2.1 ++ [k]).getD i 0))
    by_cases e : i = s.2.1.length
    · subst e
      rw [up2_q (by decide), up2_s, up2_s, List.getD_eq_getElem?_getD, List.getElem?_append_right (Nat.le_refl _), Nat.sub_self]
      exact ⟨rfl, rfl⟩
    · rw [up2_q (by decide), up2_k (by omega), up2_k (by omega), up2_q (by decide), List.getD_eq_getElem?_getD, List.getElem?_append_left (by omega), ← List.getD_eq_getElem?_getD]
      exact h6 i (by omega)
  · intro o j a; exact up2_f (fun e => a ⟨e.1, by omega⟩)
  · intro q j a
    rw [up2_f (by omega), up2_f (by omega)]
theorem m148x {x : Nat} {k v : Int32} (h : XM b f G T x) {K : aH → Prop} : vV scr d 148 [.ref 125, .int k, .int v] (wo f G J c) K = K (wo f G J c) := by
  unfold vV
  rw [u148_ok, en148, b148_0]
  simp only [mO scr, XM_ne h, if_false, ex_v, true_and]
theorem m149 (hT : TX T) (h : LMs f G T r s) (hp : s.1 ≤ T.1) (hz : s.2.2 ≤ 60) {a : Nat} (ha : a ≤ T.1) {K : aH → Prop} (hf : ∀ f', 60 ≤ s.2.2 → XM 400 f' G T (1 + 8 * a + 3) → f' 125 20 = nI s.1 → FM r f G f' G → K (wo f' G J c)) (hg : ∀ f', ¬ 60 ≤ s.2.2 → LMs f' G T r (s.1, s.2.1, s.2.2 + 1) → FM r f G f' G → K (wo f' G J c)) : vV scr (d + 1) 149 [.ref 125, .int (nI a)] (wo f G J c) K := by
  have h400 := hT.1
  obtain ⟨h1, h2, h3, h4, h5, h6⟩ := h
  unfold vV
  rw [u149_ok, en149, b149_0]
  refine ⟨rfl, ?_⟩
  simp (disch := omega) only [mO scr, h5, show (60 : Int32) = nI 60 from rfl, NC]
  by_cases h60 : s.2.2 = 60
  · rw [if_pos h60, show (3 : Int32) = nI 3 from rfl, m142 h2, b149_15]
    simp only [mO scr]
    exact ⟨trivial, hf _ (by omega) (XM_u (by omega) (XM_bl h1 (by omega) (by omega) (by omega))) (by rw [up2_f (by omega), up2_f (by omega)]; exact h1.2) (FM_tr (FM_u (by omega)) (FM_u (by omega)))⟩
  · rw [if_neg h60, b149_15]
    simp only [mO scr, h5, nI_1]
    exact ⟨trivial, hg _ (by omega) ⟨⟨⟨by rw [up2_f (by omega)]; exact h1.1.1, h1.1.2.1, by rw [up2_f (by omega)]; exact h1.1.2.2⟩, by rw [up2_f (by omega)]; exact h1.2⟩, by rw [up2_f (by omega)]; exact h2, by rw [up2_f (by omega)]; exact h3, by rw [up2_f (by omega)]; exact h4, up2_s, h6⟩ (FM_u (by omega))⟩
theorem m149x {x : Nat} {a : Int32} (h : XM b f G T x) {K : aH → Prop} (hK : ∀ f', XM b f' G T x → f' 125 20 = f 125 20 → FM r f G f' G → K (wo f' G J c)) : vV scr (d + 1) 149 [.ref 125, .int a] (wo f G J c) K := by
  unfold vV
  rw [u149_ok, en149, b149_0]
  refine ⟨rfl, ?_⟩
  simp only [mO scr]
  have fin : E scr false (d + 1) 149 15 [.ref 125, .int a] [] (wo f G J c) (fun r h => r = none ∧ K h) := by
    rw [b149_15]
    simp only [mO scr]
    exact ⟨trivial, hK _ (XM_u (by omega) h) (up2_f (by omega)) (FM_u (by omega))⟩
  split
  · rw [m142x (XM_ne h)]
    exact fin
  · exact fin
theorem s141 {j : Nat} (hj : j < 9) {K : Nat → aH → Prop} {h : aH} : sR scr d 141 [.int (nI j)] h K = K (20000 + (13 + j)) h := by
  unfold sR
  rw [en141, b141_0]
  have hs : j = 0 ∨ j = 1 ∨ j = 2 ∨ j = 3 ∨ j = 4 ∨ j = 5 ∨ j = 6 ∨ j = 7 ∨ j = 8 := by omega
  rcases hs with rfl | rfl | rfl | rfl | rfl | rfl | rfl | rfl | rfl
  all_goals simp (disch := omega) only [show (2 : Int32) = nI 2 from rfl, show (3 : Int32) = nI 3 from rfl, show (4 : Int32) = nI 4 from rfl, show (5 : Int32) = nI 5 from rfl, show (6 : Int32) = nI 6 from rfl, show (7 : Int32) = nI 7 from rfl, NC, Nat.reduceEqDiff, if_true, if_false, b141_48, b141_51, b141_54, b141_57, b141_60, b141_63, b141_66, b141_69, b141_72, ex_r]
theorem vo_at {a j : Nat} (hj : j < 9) (h0 : ∀ i, i < j → isW T a (stx (13 + i)) = false) (h1 : isW T a (stx (13 + j)) = true) : voO T a = some j := by
  have e := fun i h => (show ¬ isW T a (stx (13 + i)) = true by rw [h0 i h]; simp)
  unfold voO
  have hs : j = 0 ∨ j = 1 ∨ j = 2 ∨ j = 3 ∨ j = 4 ∨ j = 5 ∨ j = 6 ∨ j = 7 ∨ j = 8 := by omega
  rcases hs with rfl | rfl | rfl | rfl | rfl | rfl | rfl | rfl | rfl
  · rw [if_pos h1]
  · rw [if_neg (e 0 (by omega)), if_pos h1]
  · rw [if_neg (e 0 (by omega)), if_neg (e 1 (by omega)), if_pos h1]
  · rw [if_neg (e 0 (by omega)), if_neg (e 1 (by omega)), if_neg (e 2 (by omega)), if_pos h1]
  · rw [if_neg (e 0 (by omega)), if_neg (e 1 (by omega)), if_neg (e 2 (by omega)), if_neg (e 3 (by omega)), if_pos h1]
  · rw [if_neg (e 0 (by omega)), if_neg (e 1 (by omega)), if_neg (e 2 (by omega)), if_neg (e 3 (by omega)), if_neg (e 4 (by omega)), if_pos h1]
  · rw [if_neg (e 0 (by omega)), if_neg (e 1 (by omega)), if_neg (e 2 (by omega)), if_neg (e 3 (by omega)), if_neg (e 4 (by omega)), if_neg (e 5 (by omega)), if_pos h1]
  · rw [if_neg (e 0 (by omega)), if_neg (e 1 (by omega)), if_neg (e 2 (by omega)), if_neg (e 3 (by omega)), if_neg (e 4 (by omega)), if_neg (e 5 (by omega)), if_neg (e 6 (by omega)), if_pos h1]
  · rw [if_neg (e 0 (by omega)), if_neg (e 1 (by omega)), if_neg (e 2 (by omega)), if_neg (e 3 (by omega)), if_neg (e 4 (by omega)), if_neg (e 5 (by omega)), if_neg (e 6 (by omega)), if_neg (e 7 (by omega)), if_pos h1]
theorem vo_no {a : Nat} (h0 : ∀ i, i < 9 → isW T a (stx (13 + i)) = false) : voO T a = none := by
  have e := fun i h => (show ¬ isW T a (stx (13 + i)) = true by rw [h0 i h]; simp)
  unfold voO
  rw [if_neg (e 0 (by omega)), if_neg (e 1 (by omega)), if_neg (e 2 (by omega)), if_neg (e 3 (by omega)), if_neg (e 4 (by omega)), if_neg (e 5 (by omega)), if_neg (e 6 (by omega)), if_neg (e 7 (by omega)), if_neg (e 8 (by omega))]
theorem vow_lp (hT : TX T) (mt : MT f G T q) (hq : q < 2 ^ 20) {l1 : Int32} {K : Option Value → aH → Prop} : ∀ u j, 9 - j = u → j ≤ 9 → (∀ i, i < j → isW T q (stx (13 + i)) = false) → (∀ k, voO T q = some k → k < 9 → isW T q (stx (13 + k)) = true → E scr false (d + 5) 151 63 [.ref 125, .int l1, .int (nI k)] [] (wo f G J c) K) → (voO T q = none → E scr false (d + 5) 151 63 [.ref 125, .int l1, .int (nI 9)] [] (wo f G J c) K) → E scr false (d + 5) 151 38 [.ref 125, .int l1, .int (nI j)] [] (wo f G J c) K := by
  have e28 := mt.1.2.2
  intro u
  induction u with
  | zero =>
    intro j hu hj h0 h1 h2
    have e : j = 9 := by omega
    subst e
    rw [b151_38]
    simp (disch := omega) only [mO scr, e28, NC, Nat.le_refl, if_true]
    exact h2 (vo_no h0)
  | succ u ih =>
    intro j hu hj h0 h1 h2
    rw [b151_38]
    simp (disch := omega) only [mO scr, e28, NC, show ¬ 9 ≤ j by omega, if_false, s141 (show j < 9 by omega)]
    rw [m146 hT mt hq (show 13 + j < 24 by omega)]
    cases hw : isW T q (stx (13 + j)) with
    | false =>
      simp only [bz_f, if_true, nI_1]
      apply ih (j + 1) (by omega) (by omega) _ h1 h2
      intro i hi
      by_cases e : i = j
      · rw [e]; exact hw
      · exact h0 i (by omega)
    | true =>
      simp only [bz_t, n10, if_false]
      exact h1 j (vo_at (by omega) h0 hw) (by omega) hw
theorem m150x {x : Nat} (hT : TX T) (h : MT f G T q) (hq : q < 2 ^ 20) (hx : XM b f G T x) (hd : dgB (ch8 T q) = true) {K : Int32 → aH → Prop} : vI scr (d + 2) 150 [.ref 125, .int 99999] (wo f G J c) K = K (nI (vlN T q (de T q - q))) (wo (mS f (de T q)) G J c) := by
  have e2 := h.2
  have dg := de_ge (T := T) (p := q)
  have vb : vlN T q (de T q - q) < 100000 := vl_b (fun i hi => de_dg i (by omega))
  unfold vI
  rw [u150_ok, en150, b150_0, m145 hT h hq, hd]
  simp only [bz_t, n10, if_false, mO scr, e2, true_and]
  have nx := mnum_lp (scr := scr) (J := J) (c := c) (d := d) hT (l1 := 99999) (K := fun r h => ∃ x, r = some (Value.int x) ∧ K x h) _ 0 f rfl dg hq h
  have nx : E scr false (d + 2) 150 25 [.ref 125, .int 99999, .int (nI q), .int 0] [] (wo f G J c) (fun r h => ∃ x, r = some (Value.int x) ∧ K x h) = _ := nx
  rw [nx]
  have z3 : ¬ mS f (de T q) 125 21 = 0 := by rw [mS_at (by decide)]; exact XM_ne hx
  have hle : nI (vlN T q (de T q - q)) ≤ (99999 : Int32) := nI_le (b := 99999) (by omega) (by decide)
  by_cases h5 : 5 < de T q - q
  · rw [if_pos h5, b150_87, m142x z3, ex_i]
  · rw [if_neg h5, if_pos hle, ex_i]
end LM1
