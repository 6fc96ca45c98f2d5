variable {scr : List Int32}
-- ===== the law, read by the model: values, sums =====
section LM2
variable {f G f' G' : Nat → Nat → Int32} {J J' : Nat → Nat → Int64} {c : Value} {d : Nat} {T : Tp} {p q r b : Nat} {s : Ls}
theorem m151 (hT : TX T) (hr : r < 6) (h : LMs f G T r s) (hp : s.1 ≤ T.1) (hz : s.2.2 ≤ 60) (hn : s.2.1.length < 300) {K : aH → Prop} (hf : ∀ x f' G', vaR T s.1 s.2.2 = .inl x → XM 400 f' G' T x → FM r f G f' G' → K (wo f' G' J c)) (hg : ∀ k e f' G', vaR T s.1 s.2.2 = .inr (k, e) → LMs f' G' T r (e, s.2.1 ++ [k], s.2.2 + 1) → FM r f G f' G' → K (wo f' G' J c)) : vV scr (d + 5) 151 [.ref 125] (wo f G J c) K := by
  have h400 := hT.1
  have sle := sk_le (T := T) hp
  have l1 := LMs_mS (a := sk T s.1) h
  have mt1 : MT (mS f (sk T s.1)) G T (sk T s.1) := l1.1
  unfold vV
  rw [u151_ok, en151, b151_0, m144 hT h.1 (by omega)]
  refine ⟨rfl, ?_⟩
  simp only [mO scr, mS_20]
  rw [m145 hT mt1 (by omega)]
  cases hd : dgB (ch8 T (sk T s.1)) with
  | true =>
    have hne : ¬ de T (sk T s.1) = sk T s.1 := by
      have := (de_s hd).1
      have := de_ge (T := T) (p := sk T s.1 + 1)
      omega
    have dle := de_le sle
    have vb : vlN T (sk T s.1) (de T (sk T s.1) - sk T s.1) < 100000 := vl_b (fun i hi => de_dg i (by have := de_ge (T := T) (p := sk T s.1); omega))
    simp only [bz_t, n10, if_false]
    rw [m150 hT mt1 (by omega) l1.2.1, if_neg hne]
    unfold vaR at hf hg
    rw [if_pos hd] at hf hg
    unfold nuR at hf hg
    rw [if_neg hne] at hf hg
    by_cases h5 : 5 < de T (sk T s.1) - sk T s.1
    · rw [if_pos h5]
      rw [if_pos (Or.inl h5)] at hf
      have l2 := LMs_mS (a := de T (sk T s.1)) l1
      have xm := XM_bl (b := 400) (x := 1 + 8 * sk T s.1 + 1) l2.1 (by omega) (by omega) (by omega)
      apply m149x (r := r) xm
      intro f2 x2 _ fm2
      rw [m148x x2]
      exact ⟨trivial, hf _ _ _ rfl x2 (FM_tr FM_m (FM_tr FM_m (FM_tr (FM_u (by omega)) fm2)))⟩
    · rw [if_neg h5, mS_mS]
      rw [if_neg (by omega)] at hf hg
      have l2 := LMs_mS (a := de T (sk T s.1)) h
      apply m149 hT l2 dle hz sle
      · intro f2 h60 x2 _ fm2
        dsimp only at h60 hf
        rw [if_pos h60] at hf
        rw [m148x x2]
        exact ⟨trivial, hf _ _ _ rfl x2 (FM_tr FM_m fm2)⟩
      · intro f2 h60 l3 fm2
        dsimp only at h60 l3 hg
        rw [if_neg h60] at hg
        have key := m148 (scr := scr) (J := J) (c := c) (d := d + 4) (k := 32 + vlN T (sk T s.1) (de T (sk T s.1) - sk T s.1)) hr l3 hn (K := fun h10 => True ∧ K h10)
        have e1 : soM (32 + vlN T (sk T s.1) (de T (sk T s.1) - sk T s.1)) = 0 := by unfold soM; rw [if_pos (by omega)]
        have e2 : nuM (32 + vlN T (sk T s.1) (de T (sk T s.1) - sk T s.1)) = vlN T (sk T s.1) (de T (sk T s.1) - sk T s.1) := by unfold nuM; rw [if_pos (by omega)]; omega
        rw [e1, e2] at key
        apply key
        intro f3 G3 l4 fm3
        exact ⟨trivial, hg _ _ _ _ rfl l4 (FM_tr FM_m (FM_tr fm2 fm3))⟩
  | false =>
    simp only [bz_f, if_true]
    unfold vaR at hf hg
    rw [if_neg (show ¬ dgB (ch8 T (sk T s.1)) = true by rw [hd]; simp)] at hf hg
    rw [show (0 : Int32) = nI 0 from rfl]
    apply vow_lp (d := d) hT mt1 (by omega) 9 0 rfl (by omega) (fun i hi => by omega)
    · intro k hk k9 hw
      rw [hk] at hf hg
      dsimp only at hf hg
      have e28 := mt1.1.2.2
      have wle := we_le sle
      have h24 : 13 + k < 24 := by omega
      rw [b151_63]
      simp (disch := omega) only [mO scr, e28, NC, show ¬ k = 9 by omega, if_false]
      have lp : ∀ f2 (a : Int32), f2 125 20 = nI (sk T s.1) → sR scr (d + 4) 141 [.int (nI k)] (wo f2 G J c) (fun (x6 : Nat) (h5 : aH) => vI scr (d + 4) 227 [.ref x6] h5 (fun (x8 : Int32) (h7 : aH) => pF h7 125 9 20 (.int (a + x8)) (fun h9 : aH => vV scr (d + 4) 148 [.ref 125, .int 1, .int (nI k)] h9 (fun h10 : aH => True ∧ K h10)))) = vV scr (d + 4) 148 [.ref 125, .int 1, .int (nI k)] (wo (up2 f2 125 20 (a + nI (stx (13 + k)).length)) G J c) (fun h10 : aH => True ∧ K h10) := by
        intro f2 a _
        rw [s141 k9]
        simp only [sp227 h24, mO scr]
      have ew : nI (sk T s.1) + nI (stx (13 + k)).length = nI (we T (sk T s.1)) := by rw [nI_add, isW_end hw]
      apply m149 (d := d + 3) hT l1 sle hz sle
      · intro f2 h60 x2 e20 fm2
        dsimp only at h60 hf e20
        rw [if_pos h60] at hf
        simp only [mO scr, e20]
        rw [lp f2 _ e20, ew]
        have x3 : XM 400 (mS f2 (we T (sk T s.1))) G T _ := XM_mS (by omega) x2
        have := m148x (scr := scr) (J := J) (c := c) (d := d + 4) (k := 1) (v := nI k) x3 (K := fun h10 => True ∧ K h10)
        refine this.mpr ⟨trivial, hf _ _ _ rfl x3 (FM_tr FM_m (FM_tr fm2 FM_m))⟩
      · intro f2 h60 l3 fm2
        dsimp only at h60 l3 hg
        rw [if_neg h60] at hg
        have e20 : f2 125 20 = nI (sk T s.1) := l3.1.2
        simp only [mO scr, e20]
        rw [lp f2 _ e20, ew]
        have l4 : LMs (mS f2 (we T (sk T s.1))) G T r _ := LMs_mS (a := we T (sk T s.1)) l3
        have key := m148 (scr := scr) (J := J) (c := c) (d := d + 4) (k := k) hr l4 hn (K := fun h10 => True ∧ K h10)
        have e1 : soM k = 1 := by unfold soM; rw [if_neg (by omega), if_pos k9]
        have e2 : nuM k = k := by unfold nuM; rw [if_neg (by omega), if_pos k9]
        rw [e1, e2] at key
        apply key
        intro f3 G3 l5 fm3
        exact ⟨trivial, hg _ _ _ _ rfl l5 (FM_tr FM_m (FM_tr fm2 (FM_tr FM_m fm3)))⟩
    · intro hk
      rw [hk] at hf
      dsimp only at hf
      have e28 := mt1.1.2.2
      rw [b151_63]
      simp (disch := omega) only [mO scr, e28, if_true]
      rw [show (0 : Int32) = nI 0 from rfl, m142 l1.2.1]
      exact ⟨trivial, hf _ _ _ rfl (XM_bl mt1 (by omega) (by omega) (by omega)) (FM_tr FM_m (FM_u (by omega)))⟩
theorem m151x {x : Nat} (hT : TX T) (hb : 400 ≤ b) (hb2 : b < 2 ^ 19) (h : XM b f G T x) {K : aH → Prop} (hK : ∀ f', XM b f' G T x → FM r f G f' G → K (wo f' G J c)) : vV scr (d + 5) 151 [.ref 125] (wo f G J c) K := by
  obtain ⟨q, hq, mt⟩ := XM_MT h
  have sb := sk_b hT hb hq
  have x1 := XM_mS (q := sk T q) sb h
  have mt1 := MT_mS (q := sk T q) mt
  unfold vV
  rw [u151_ok, en151, b151_0, m144 hT mt (by omega)]
  refine ⟨rfl, ?_⟩
  simp only [mO scr, mS_20]
  rw [m145 hT mt1 (by omega)]
  cases hd : dgB (ch8 T (sk T q)) with
  | true =>
    simp only [bz_t, n10, if_false]
    rw [m150x hT mt1 (by omega) x1 hd]
    apply m149x (r := r) (XM_mS (de_b hT hb sb) x1)
    intro f2 x2 _ fm2
    rw [m148x x2]
    exact ⟨trivial, hK _ x2 (FM_tr FM_m (FM_tr FM_m fm2))⟩
  | false =>
    simp only [bz_f, if_true]
    rw [show (0 : Int32) = nI 0 from rfl]
    have e28 := mt1.1.2.2
    apply vow_lp (d := d) hT mt1 (by omega) 9 0 rfl (by omega) (fun i hi => by omega)
    · intro k hk k9 hw
      have h24 : 13 + k < 24 := by omega
      rw [b151_63]
      simp (disch := omega) only [mO scr, e28, NC, show ¬ k = 9 by omega, if_false]
      have ew : nI (sk T q) + nI (stx (13 + k)).length = nI (we T (sk T q)) := by rw [nI_add, isW_end hw]
      apply m149x (d := d + 3) (r := r) x1
      intro f2 x2 e20 fm2
      rw [mS_20] at e20
      simp only [mO scr, e20]
      rw [s141 k9]
      simp only [sp227 h24, mO scr]
      rw [ew]
      have x3 : XM b (mS f2 (we T (sk T q))) G T _ := XM_mS (we_b hT hb sb) x2
      have := m148x (scr := scr) (J := J) (c := c) (d := d + 4) (k := 1) (v := nI k) x3 (K := fun h10 => True ∧ K h10)
      refine this.mpr ⟨trivial, hK _ x3 (FM_tr FM_m (FM_tr fm2 FM_m))⟩
    · intro hk
      rw [b151_63]
      simp (disch := omega) only [mO scr, e28, if_true]
      rw [m142x (XM_ne x1)]
      exact ⟨trivial, hK _ x1 FM_m⟩
/-- with a fault, a term and a sum go on to nothing -/
theorem m152x {x : Nat} (hT : TX T) (hb : 400 ≤ b) (hb2 : b < 2 ^ 19) (h : XM b f G T x) {K : aH → Prop} (hK : ∀ f', XM b f' G T x → FM r f G f' G → K (wo f' G J c)) : vV scr (d + 6) 152 [.ref 125] (wo f G J c) K := by
  unfold vV
  rw [u152_ok, en152, b152_0]
  refine ⟨rfl, ?_⟩
  apply m151x (d := d) (r := r) hT hb hb2 h
  intro f1 x1 fm1
  obtain ⟨q, hq, mt⟩ := XM_MT x1
  rw [m144 hT mt (by omega), b152_8]
  have x2 := XM_mS (sk_b hT hb hq) x1
  simp only [mO scr, XM_ne x2, if_false]
  exact ⟨trivial, hK _ x2 (FM_tr fm1 FM_m)⟩
theorem m153_4x {x : Nat} {l1 : Value} (h : XM b f G T x) {K : Option Value → aH → Prop} : E scr false (d + 1) 153 4 [.ref 125, l1] [] (wo f G J c) K = K none (wo f G J c) := by
  rw [b153_4]
  simp only [mO scr, XM_ne h, if_false]
theorem m153x {x : Nat} (hT : TX T) (hb : 400 ≤ b) (hb2 : b < 2 ^ 19) (h : XM b f G T x) {K : aH → Prop} (hK : ∀ f', XM b f' G T x → FM r f G f' G → K (wo f' G J c)) : vV scr (d + 7) 153 [.ref 125] (wo f G J c) K := by
  unfold vV
  rw [u153_ok, en153, b153_0]
  refine ⟨rfl, ?_⟩
  apply m152x (d := d) (r := r) hT hb hb2 h
  intro f1 x1 fm1
  rw [m153_4x x1]
  exact ⟨rfl, hK _ x1 fm1⟩
end LM2
