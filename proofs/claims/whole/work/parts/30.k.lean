variable {scr : List Int32}
-- ===== the plain: the model's call; both =====
section RE11
variable {f G f' G' : Nat → Nat → Int32} {J J' : Nat → Nat → Int64} {c : Value} {d : Nat} {T : Tp} {p q : Nat} {P : Pn} {pl : Nat → Option Nat} {S : Sn} {Z : Lz} {I : Im}
theorem m167 (hT : TX T) (mt : MT f G T q) (hq : q ≤ T.1) (h21 : f 125 21 = 0) {K : Int32 → aH → Prop} (hE : T.1 ≤ sk T q → K 0 (wo (mS f (sk T q + 1)) G J c)) (h1 : ch8 T (sk T q) = 59 → K 1 (wo (mS f (sk T q + 1)) G J c)) (hf : ¬ T.1 ≤ sk T q → ¬ ch8 T (sk T q) = 59 → ∀ f', MX f' G T (1 + 8 * sk T q) → FE f G f' G → K 0 (wo f' G J c)) : vI scr (d + 2) 167 [.ref 125] (wo f G J c) K := by
  have h400 := hT.1
  have sle := sk_le (T := T) hq
  have mt1 := MT_mS (q := sk T q) mt
  have z1 : mS f (sk T q) 125 21 = 0 := by rw [mS_at (by decide)]; exact h21
  have e19 : mS f (sk T q) 125 19 = nI T.1 := mt1.1.1
  unfold vI
  rw [u167_ok, en167, b167_0]
  refine ⟨rfl, ?_⟩
  rw [m144 hT mt (by omega)]
  simp (disch := omega) only [mO scr, z1, if_true, mS_20, e19, NC, m143 hT mt1 (show sk T q < 2 ^ 20 by omega), show (59 : Int32) = nI 59 from rfl, hI_eq (show 59 < 256 by decide)]
  by_cases he : T.1 ≤ sk T q
  · rw [if_pos he, b167_40]
    simp (disch := omega) only [mO scr, z1, if_true, mS_20, e19, NC, he]
    rw [b167_62, b167_63]
    simp only [mO scr, mS_20, nI_1, show (0 : Int32) &&& 1 = 0 by decide, true_and]
    have e : up2 (mS f (sk T q)) 125 20 (nI (sk T q + 1)) = mS f (sk T q + 1) := up_up
    rw [e]
    exact ⟨_, rfl, hE he⟩
  · rw [if_neg he]
    by_cases h59 : ch8 T (sk T q) = 59
    · rw [if_pos h59, b167_40]
      simp (disch := omega) only [mO scr, z1, if_true, mS_20, e19, NC, he, if_false]
      rw [b167_63]
      simp only [mO scr, mS_20, nI_1, show (1 : Int32) &&& 1 = 1 by decide, true_and]
      have e : up2 (mS f (sk T q)) 125 20 (nI (sk T q + 1)) = mS f (sk T q + 1) := up_up
      rw [e]
      exact ⟨_, rfl, h1 h59⟩
    · rw [if_neg h59, show (0 : Int32) = nI 0 from rfl, m142 z1]
      have mx := MX_blame (x := 1 + 8 * sk T q + 0) mt1 (by omega) (by omega) (by omega)
      have ne := MX_ne mx
      have e20 : up2 (mS f (sk T q)) 125 21 (nI (1 + 8 * sk T q + 0)) 125 20 = nI (sk T q) := by rw [up2_k (by decide), mS_20]
      rw [b167_40]
      simp only [mO scr, ne, if_false]
      rw [b167_62, b167_63]
      simp only [mO scr, e20, nI_1, show (0 : Int32) &&& 1 = 0 by decide, true_and]
      refine ⟨_, rfl, hf he h59 _ (MX_mS (by omega) mx) (FE_tr FE_m (FE_tr FE_x FE_m))⟩
theorem m167x {x : Nat} (hT : TX T) (mx : MX f G T x) {K : Int32 → aH → Prop} (hK : ∀ f', ITm f' G T → f' 125 21 = nI x → FE f G f' G → K 0 (wo f' G J c)) : vI scr (d + 2) 167 [.ref 125] (wo f G J c) K := by
  obtain ⟨q, hq, mt⟩ := MX_MT mx
  have s20 := sk_20 hT hq
  have mx1 := MX_mS (q := sk T q) s20 mx
  have ne := MX_ne mx1
  unfold vI
  rw [u167_ok, en167, b167_0]
  refine ⟨rfl, ?_⟩
  rw [m144 hT mt hq]
  simp only [mO scr, ne, if_false]
  rw [b167_40]
  simp only [mO scr, ne, if_false]
  rw [b167_62, b167_63]
  simp only [mO scr, mS_20, nI_1, show (0 : Int32) &&& 1 = 0 by decide, true_and]
  have e : up2 (mS f (sk T q)) 125 20 (nI (sk T q + 1)) = mS f (sk T q + 1) := up_up
  rw [e]
  exact ⟨_, rfl, hK _ (ITm_fe FE_m mx.1) (by rw [mS_at (by decide)]; exact mx.2.2.1) FE_m⟩
def stF5 (f : Nat → Nat → Int32) : Nat → Nat → Int32 := fun o k => if o = 125 ∧ (k = 20 ∨ k = 21 ∨ k = 24 ∨ k = 25 ∨ k = 26) then 0 else f o k
theorem m168 {K : aH → Prop} : vV scr d 168 [.ref 125] (wo f G J c) K = K (wo (stF5 f) G J c) := by
  unfold vV
  rw [u168_ok, en168, b168_0]
  simp only [mO scr, ex_v, true_and]
  have e : up2 (up2 (up2 (up2 (up2 f 125 20 0) 125 21 0) 125 24 0) 125 25 0) 125 26 0 = stF5 f := by
    funext o k
    unfold up2 stF5
    by_cases h : o = 125
    · simp only [h, true_and]
      by_cases h1 : k = 26
      · simp [h1]
      · by_cases h2 : k = 25
        · simp [h2]
        · by_cases h3 : k = 24
          · simp [h3]
          · by_cases h4 : k = 21
            · simp [h4]
            · by_cases h5 : k = 20
              · simp [h5]
              · simp [h1, h2, h3, h4, h5]
    · simp [h]
  rw [e]
theorem st_o {o k : Nat} (h : ¬ (o = 125 ∧ (k = 20 ∨ k = 21 ∨ k = 24 ∨ k = 25 ∨ k = 26))) : stF5 f o k = f o k := by unfold stF5; rw [if_neg h]
theorem st_i {k : Nat} (h : k = 20 ∨ k = 21 ∨ k = 24 ∨ k = 25 ∨ k = 26) : stF5 f 125 k = 0 := by unfold stF5; rw [if_pos ⟨rfl, h⟩]
theorem mrd_lp (hT : TX T) {K : Option Value → aH → Prop} : ∀ u n p f G P pl, 27 - n = u → n = pRo P + pPe P + pHe P → p ≤ T.1 → MC f G T p P pl →
    (∀ x f' G' (l : Int32), plL T u p P pl = .inl x → ITm f' G' T → f' 125 21 = nI x → FE f G f' G' → E scr false (d + 9) 169 50 [.ref 125, .int l, .int 0, .null] [] (wo f' G' J c) K) →
    (∀ P1 pl1 f' G' (l : Int32), plL T u p P pl = .inr (P1, pl1) → ITm f' G' T → f' 125 21 = 0 → DMm G' P1 pl1 → FE f G f' G' → E scr false (d + 9) 169 50 [.ref 125, .int l, .int 0, .null] [] (wo f' G' J c) K) →
    E scr false (d + 9) 169 50 [.ref 125, .int (nI n), .int 1, .null] [] (wo f G J c) K := by
  intro u
  induction u with
  | zero =>
    intro n p f G P pl hu hn hp hC
    have a1 := hC.2.2.2.1.2.1
    have a2 := hC.2.2.2.1.2.2.2.1
    have a3 := hC.2.2.2.1.2.2.2.2.1
    omega
  | succ u ih =>
    intro n p f G P pl hu hn hp hC hf hg
    simp only [plL] at hf hg
    rw [b169_50]
    simp only [n10, if_false]
    apply m165 hT hC hp (by omega)
    · intro x f1 G1 hx mx fe
      rw [hx] at hf
      apply m167x (d := d + 6) hT mx
      intro f2 it e21 fe2
      exact hf x f2 G1 _ rfl it e21 (FE_tr fe fe2)
    · intro e P1 pl1 f1 G1 hx mc fe
      obtain ⟨x1, x2, x3, x4⟩ := plC_ok hp hC.2.2.2 hx
      have sle := sk_le (T := T) x1
      have h400 := hT.1
      rw [hx] at hf hg
      dsimp only at hf hg
      apply m167 (d := d + 6) hT mc.1 x1 mc.2.1
      · intro he
        rw [if_pos he] at hg
        exact hg P1 pl1 _ _ _ rfl (ITm_fe (FE_m (G := G1)) mc.1.1) (by rw [mS_at (by decide)]; exact mc.2.1) mc.2.2.1 (FE_tr fe FE_m)
      · intro h59
        have hin := ch8_in (T := T) (p := sk T e) (by omega)
        rw [if_neg (by omega), if_pos h59] at hf hg
        rw [nI_1]
        apply ih (n + 1) (sk T e + 1) _ _ P1 pl1 (by omega) (by omega) (by omega) (MC_mS mc)
        · intro x f2 G2 l h1 h2 h3 h4
          exact hf x f2 G2 l h1 h2 h3 (FE_tr fe (FE_tr FE_m h4))
        · intro P2 pl2 f2 G2 l h1 h2 h3 h4 h5
          exact hg P2 pl2 f2 G2 l h1 h2 h3 h4 (FE_tr fe (FE_tr FE_m h5))
      · intro he h59 f2 mx fe2
        rw [if_neg he, if_neg h59] at hf
        exact hf _ f2 G1 _ rfl mx.1 mx.2.2.1 (FE_tr fe fe2)
theorem nsc_lp {K : Option Value → aH → Prop} : ∀ u k G, 4 - k = u → k ≤ 4 → (∀ G', (∀ i, k ≤ i → i < 4 → G' 130 i = 0) → (∀ i, i < k → G' 130 i = G 130 i) → (∀ q i, q ≠ 130 → G' q i = G q i) → E scr false d 169 26 [.ref 125, .int 0, .null, .null] [] (wo f G' J c) K) → E scr false d 169 6 [.ref 125, .int (nI k), .null, .null] [] (wo f G J c) K := by
  intro u
  induction u with
  | zero =>
    intro k G hu hk hK
    rw [b169_6]
    simp (disch := omega) only [show (4 : Int32) = nI 4 from rfl, NC, show 4 ≤ k by omega, if_true]
    exact hK G (fun i h1 h2 => by omega) (fun _ _ => rfl) (fun _ _ _ => rfl)
  | succ u ih =>
    intro k G hu hk hK
    rw [b169_6]
    simp (disch := omega) only [show (4 : Int32) = nI 4 from rfl, NC, show ¬ 4 ≤ k by omega, if_false, mO scr, nI_1]
    apply ih (k + 1) _ (by omega) (by omega)
    intro G' a1 a2 a3
    apply hK G'
    · intro i h1 h2
      by_cases e : i = k
      · rw [a2 i (by omega), e, up2_s]
      · exact a1 i (by omega) h2
    · intro i hi
      rw [a2 i (by omega), up2_k (by omega)]
    · intro q i hq
      rw [a3 q i hq, up2_q hq]
theorem nki_lp {K : Option Value → aH → Prop} : ∀ u k G, 144 - k = u → k ≤ 144 → (∀ G', (∀ q i, q ≠ 131 → G' q i = G q i) → E scr false d 169 50 [.ref 125, .int 0, .int 1, .null] [] (wo f G' J c) K) → E scr false d 169 26 [.ref 125, .int (nI k), .null, .null] [] (wo f G J c) K := by
  intro u
  induction u with
  | zero =>
    intro k G hu hk hK
    rw [b169_26]
    simp (disch := omega) only [show (144 : Int32) = nI 144 from rfl, NC, show 144 ≤ k by omega, if_true]
    exact hK G (fun _ _ _ => rfl)
  | succ u ih =>
    intro k G hu hk hK
    rw [b169_26]
    simp (disch := omega) only [show (144 : Int32) = nI 144 from rfl, NC, show ¬ 144 ≤ k by omega, if_false, mO scr, nI_1]
    apply ih (k + 1) _ (by omega) (by omega)
    intro G' a3
    exact hK G' (fun q i hq => by rw [a3 q i hq, up2_q hq])
theorem m166s {K : aH → Prop} : sV scr d 166 [.ref 130, .ref 126] (wo f G J c) K = K (wo f (fun q i => if q = 126 ∧ i < 4 then G 130 i else G q i) J c) := by
  have lp : ∀ u k G0, 4 - k = u → k ≤ 4 → G0 = (fun q i => if q = 126 ∧ i < k then G 130 i else G q i) → E scr false d 166 2 [.ref 130, .ref 126, .int (nI k)] [] (wo f G0 J c) (fun r h => r = none ∧ K h) = K (wo f (fun q i => if q = 126 ∧ i < 4 then G 130 i else G q i) J c) := by
    intro u
    induction u with
    | zero =>
      intro k G0 hu hk hG
      have e : k = 4 := by omega
      subst e
      rw [b166_2, wo_aN (t := 1) (by decide) (by decide) A_mo_newScalar, if_pos (show Int32.ofNat (ln 130) ≤ nI 4 by decide), hG]
      simp
    | succ u ih =>
      intro k G0 hu hk hG
      have h1 : ¬ Int32.ofNat (ln 130) ≤ nI k := nI_ge (a := k) (b := 4) (by omega) (by decide)
      rw [b166_2, wo_aN (t := 1) (by decide) (by decide) A_mo_newScalar, if_neg h1, wo_aI A_mo_newScalar (show k < ln 130 by show k < 4; omega), wo_wI A_mo_scalar (show k < ln 126 by show k < 6; omega), nI_1]
      apply ih (k + 1) _ (by omega) (by omega)
      funext q i
      rw [hG]
      unfold up2
      dsimp only
      by_cases e : q = 126 ∧ i = k
      · rw [if_pos e, if_neg (fun x => absurd x.1 (by decide)), if_pos ⟨e.1, by omega⟩, e.2]
      · rw [if_neg e]
        by_cases e2 : q = 126 ∧ i < k
        · rw [if_pos e2, if_pos ⟨e2.1, by omega⟩]
        · rw [if_neg e2, if_neg (fun x => by
            by_cases e3 : i = k
            · exact e ⟨x.1, e3⟩
            · exact e2 ⟨x.1, by omega⟩)]
  unfold sV
  rw [en166, b166_0]
  exact lp 4 0 G rfl (by omega) (by funext q i; rw [if_neg (by omega)])
theorem oat_lp {l1 l2 : Int32} {K : Option Value → aH → Prop} : ∀ u k G, 12 - k = u → k ≤ 12 → (∀ G', (∀ i, k ≤ i → i < 12 → G' 136 i = -1) → (∀ i, i < k → G' 136 i = G 136 i) → (∀ q i, q ≠ 136 → G' q i = G q i) → E scr false (d + 1) 169 161 [.ref 125, .int l1, .int l2, .int (nI 12)] [] (wo f G' J c) K) → E scr false (d + 1) 169 161 [.ref 125, .int l1, .int l2, .int (nI k)] [] (wo f G J c) K := by
  intro u
  induction u with
  | zero =>
    intro k G hu hk hK
    have e : k = 12 := by omega
    subst e
    exact hK G (fun i h1 h2 => by omega) (fun _ _ => rfl) (fun _ _ _ => rfl)
  | succ u ih =>
    intro k G hu hk hK
    rw [b169_161]
    simp (disch := omega) only [show (12 : Int32) = nI 12 from rfl, NC, show ¬ 12 ≤ k by omega, if_false, mO scr, nI_1]
    apply ih (k + 1) _ (by omega) (by omega)
    intro G' a1 a2 a3
    apply hK G'
    · intro i h1 h2
      by_cases e : i = k
      · rw [a2 i (by omega), e, up2_s]
      · exact a1 i (by omega) h2
    · intro i hi
      rw [a2 i (by omega), up2_k (by omega)]
    · intro q i hq
      rw [a3 q i hq, up2_q hq]
theorem s169 (hM : IM f G T S Z I) (hA : WA T S Z I) {K : Int32 → aH → Prop} (hf : ∀ x f' G', plL T 27 0 P0 nob = .inl x → MF f G J f' G' J → IM f' G' (0, T.2) S Z I → K (-2 - nI x) (wo f' G' J c)) (hg : ∀ P1 pl1 f' G', plL T 27 0 P0 nob = .inr (P1, pl1) → MF f G J f' G' J → IM f' G' (0, T.2) (nwS P1 pl1) Z I → K (nI (pPe P1)) (wo f' G' J c)) (hx : ∀ x, plL T 27 0 P0 nob = .inl x → 0 < x ∧ x < 2 ^ 25) : vI scr (d + 20) 169 [.ref 125] (wo f G J c) K := by
  have hT := TX_of hA
  have h400 := hT.1
  obtain ⟨a1, a2, a3, a4, a5⟩ := hM
  -- what the parsing leaves
  have keep : ∀ f' G', FE (stF5 f) G f' G' ∨ (∀ o k, ¬ (o = 125 ∧ (k = 20 ∨ k = 21)) → f' o k = stF5 f o k) ∧ (∀ q k, ¬ (130 ≤ q ∧ q ≤ 134) → G' q k = G q k) → MF f G J (up2 f' 125 19 0) G' J ∧ IM (up2 f' 125 19 0) G' (0, T.2) S Z I := by
    intro f' G' h
    have h : FE (stF5 f) G f' G' := by rcases h with h | h; exact h; exact h
    have hf2 : ∀ o k, ¬ (o = 125 ∧ (k = 19 ∨ k = 20 ∨ k = 21 ∨ k = 24 ∨ k = 25 ∨ k = 26)) → up2 f' 125 19 0 o k = f o k := fun o k ho => by
      unfold up2
      rw [if_neg (fun e => ho ⟨e.1, Or.inl e.2⟩), h.1 o k (by omega), st_o (by omega)]
    refine ⟨⟨fun o k ho => hf2 o k (by omega), fun q k hq => h.2 q k (by omega), fun _ _ _ => rfl⟩, ⟨up2_s, fun i hi => by have hi : i < 0 := hi; omega, by rw [hf2 125 28 (by omega)]; exact a1.2.2⟩, SCm_e (fun q k hq => h.2 q k (by omega)) a2, ILm_e (hf2 125 23 (by omega)) (fun q k hq => h.2 q k (by omega)) a3, IIm_e (fun k => ⟨h.2 165 k (by omega), h.2 166 k (by omega)⟩) a4, fun h0 q hq => by rw [h.2 140 q (by omega)]; exact a5 h0 q hq⟩
  unfold vI
  rw [u169_ok, en169, b169_0, m168]
  refine ⟨rfl, ?_⟩
  rw [show (0 : Int32) = nI 0 from rfl]
  apply nsc_lp 4 0 G rfl (by omega)
  intro G1 b1 _ b3
  rw [show (0 : Int32) = nI 0 from rfl]
  apply nki_lp 144 0 G1 rfl (by omega)
  intro G2 b4
  have mc0 : MC (stF5 f) G2 T 0 P0 nob := by
    refine ⟨⟨⟨by rw [st_o (by omega)]; exact a1.1, fun i hi => by rw [b4 143 i (by decide), b3 143 i (by decide)]; exact a1.2.1 i hi, by rw [st_o (by omega)]; exact a1.2.2⟩, st_i (by omega)⟩, st_i (by omega), ⟨⟨?_, ?_, ?_, ?_⟩, fun q hq => (by rw [th_P0] at hq; cases hq), fun w hw => (by have hw : w < 0 := hw; omega), fun w hw => (by have hw : w < 0 := hw; omega), fun w hw => ?_⟩, WD_0⟩
    · rw [b4 130 0 (by decide)]; exact b1 0 (by omega) (by omega)
    · rw [b4 130 1 (by decide)]; exact b1 1 (by omega) (by omega)
    · rw [b4 130 2 (by decide)]; exact b1 2 (by omega) (by omega)
    · rw [b4 130 3 (by decide)]; exact b1 3 (by omega) (by omega)
    · exfalso
      unfold exB at hw
      simp only [Bool.or_eq_true, Bool.and_eq_true, decide_eq_true_eq] at hw
      have hw : w < 0 ∨ 12 ≤ w ∧ w < 12 + 0 := hw
      omega
  have fe0 : FE (stF5 f) G (stF5 f) G2 := ⟨fun _ _ _ => rfl, fun q k hq => by rw [b4 q k (by omega), b3 q k (by omega)]⟩
  rw [show (0 : Int32) = nI 0 from rfl]
  apply mrd_lp (d := d + 11) hT 27 0 0 _ _ P0 nob rfl rfl (Nat.zero_le _) mc0
  · intro x f3 G3 l hp it e21 fe
    obtain ⟨x0, x25⟩ := hx x hp
    obtain ⟨mf, im⟩ := keep f3 G3 (Or.inl (FE_tr fe0 fe))
    have e21' : up2 f3 125 19 0 125 21 = nI x := by rw [up2_k (by decide)]; exact e21
    rw [b169_50]
    simp only [if_true, mO scr, e21', show ¬ (nI x ≤ 0) from nI_nle x0 (by omega), if_false]
    exact ⟨_, rfl, hf x _ _ hp mf im⟩
  · intro P1 pl1 f3 G3 l hp it e21 dm fe
    have wd := plL_ok 27 0 P0 nob P1 pl1 (Nat.zero_le _) WD_0 hp
    have fe' := FE_tr fe0 fe
    obtain ⟨mf, im⟩ := keep f3 G3 (Or.inl fe')
    have e21' : up2 f3 125 19 0 125 21 = 0 := by rw [up2_k (by decide)]; exact e21
    have r12 := wd.1.2.1
    rw [b169_50]
    simp only [if_true, mO scr, e21', show ((0 : Int32) ≤ 0) by decide, m166s, m166 A_mo_newKind A_mo_kind (by decide) rfl, m166 A_mo_newAge A_mo_age (by decide) rfl, m166 A_mo_newSort A_mo_sortOf (by decide) rfl, m166 A_mo_newPlace A_mo_place (by decide) rfl]
    simp (disch := omega) only [mO scr, show (4 : Int32) = nI 4 from rfl, show (5 : Int32) = nI 5 from rfl]
    rw [show (0 : Int32) = nI 0 from rfl]
    apply oat_lp (d := d + 19) 12 0 _ rfl (by omega)
    intro G4 c1 _ c3
    rw [b169_161]
    simp (disch := omega) only [show (12 : Int32) = nI 12 from rfl, NC, Nat.le_refl, if_true]
    have gx : ∀ q k, q ≠ 136 → q ≠ 126 → q ≠ 127 → q ≠ 128 → q ≠ 129 → q ≠ 135 → G4 q k = G3 q k := by
      intro q k x1 x2 x3 x4 x5 x6
      rw [c3 q k x1, up2_q x2, up2_q x2]
      unfold cpR
      dsimp only
      rw [if_neg x6, if_neg x5, if_neg x4, if_neg x3, if_neg (fun e => x2 e.1)]
    have g126 : ∀ k, k < 4 → G4 126 k = G3 130 k := by
      intro k hk
      rw [c3 126 k (by decide), up2_k (by omega), up2_k (by omega)]
      unfold cpR
      dsimp only
      rw [if_neg (by decide), if_neg (by decide), if_neg (by decide), if_neg (by decide), if_pos ⟨rfl, hk⟩]
    have g127 : ∀ k, G4 127 k = G3 131 k := by
      intro k
      rw [c3 127 k (by decide), up2_q (by decide), up2_q (by decide)]
      unfold cpR
      dsimp only
      rw [if_neg (by decide), if_neg (by decide), if_neg (by decide), if_pos rfl, if_neg (fun x => absurd x.1 (by decide))]
    have g128 : ∀ k, G4 128 k = G3 132 k := by
      intro k
      rw [c3 128 k (by decide), up2_q (by decide), up2_q (by decide)]
      unfold cpR
      dsimp only
      rw [if_neg (by decide), if_neg (by decide), if_pos rfl, if_neg (by decide), if_neg (fun x => absurd x.1 (by decide))]
    have g129 : ∀ k, G4 129 k = G3 133 k := by
      intro k
      rw [c3 129 k (by decide), up2_q (by decide), up2_q (by decide)]
      unfold cpR
      dsimp only
      rw [if_neg (by decide), if_pos rfl, if_neg (by decide), if_neg (by decide), if_neg (fun x => absurd x.1 (by decide))]
    have g135 : ∀ k, G4 135 k = G3 134 k := by
      intro k
      rw [c3 135 k (by decide), up2_q (by decide), up2_q (by decide)]
      unfold cpR
      dsimp only
      rw [if_pos rfl, if_neg (by decide), if_neg (by decide), if_neg (by decide), if_neg (fun x => absurd x.1 (by decide))]
    have g4 : G4 126 4 = 0 := by rw [c3 126 4 (by decide), up2_k (by decide), up2_s]; rfl
    have g5 : G4 126 5 = 0 := by rw [c3 126 5 (by decide), up2_s]; rfl
    have ms : MS G4 P1 := ⟨⟨by rw [g126 0 (by omega)]; exact dm.1.1, by rw [g126 1 (by omega)]; exact dm.1.2.1, by rw [g126 2 (by omega)]; exact dm.1.2.2.1, by rw [g126 3 (by omega)]; exact dm.1.2.2.2⟩, fun q hq => by rw [g127]; exact dm.2.1 q hq, fun w hw => by rw [g128]; exact dm.2.2.1 w hw, fun w hw => by rw [g129]; exact dm.2.2.2.1 w hw⟩
    apply m135 wd.1 ms
    intro G5 tg b5
    have e2 : G5 126 2 = nI (pPe P1) := by rw [b5 126 2 (by decide) (by decide)]; exact ms.1.2.2.1
    simp (disch := omega) only [mO scr, show (2 : Int32) = nI 2 from rfl, e2]
    obtain ⟨i1, i2, i3, i4, i5⟩ := im
    have gy : ∀ q k, ¬ (126 ≤ q ∧ q ≤ 129) → q ≠ 135 → q ≠ 136 → q ≠ 140 → q ≠ 141 → G5 q k = G3 q k := fun q k x1 x2 x3 x4 x5 => by rw [b5 q k x4 x5, gx q k x3 (by omega) (by omega) (by omega) (by omega) x2]
    refine ⟨_, rfl, hg P1 pl1 _ G5 hp ⟨mf.1, fun q k hq => by rw [gy q k (by omega) (by omega) (by omega) (by omega) (by omega)]; exact mf.2.1 q k hq, mf.2.2⟩ ?_⟩
    refine ⟨⟨i1.1, fun i hi => (by have hi : i < 0 := hi; omega), i1.2.2⟩, ⟨MS_e (fun k => ⟨b5 126 k (by decide) (by decide), b5 127 k (by decide) (by decide), b5 128 k (by decide) (by decide), b5 129 k (by decide) (by decide)⟩) ms, ⟨by rw [b5 126 4 (by decide) (by decide), g4]; rfl, fun w hw => by rw [b5 135 w (by decide) (by decide), g135]; exact dm.2.2.2.2 w hw, fun w hw => by rw [b5 136 w (by decide) (by decide)]; exact c1 w (by omega) (Nat.lt_of_lt_of_le hw wd.1.2.2.2.1)⟩, ⟨by rw [b5 126 5 (by decide) (by decide), g5]; rfl, fun i hi => (by have hi : i < 0 := hi; omega)⟩⟩, ILm_e rfl (fun q k hq => gy q k (by omega) (by omega) (by omega) (by omega) (by omega)) i3, IIm_e (fun k => ⟨gy 165 k (by omega) (by omega) (by omega) (by omega) (by omega), gy 166 k (by omega) (by omega) (by omega) (by omega) (by omega)⟩) i4, fun _ => tg⟩
theorem plx {T : Tp} (hT : TX T) : ∀ x, plL T 27 0 P0 nob = .inl x → 0 < x ∧ x < 2 ^ 25 := by
  have h400 := hT.1
  have key : ∀ u n p P pl x, 27 - n = u → n = pRo P + pPe P + pHe P → p ≤ T.1 → WD P pl → plL T u p P pl = .inl x → 0 < x ∧ x < 2 ^ 25 := by
    intro u
    induction u with
    | zero =>
      intro n p P pl x hu hn hp hW _
      have a1 := hW.1.2.1
      have a2 := hW.1.2.2.2.1
      have a3 := hW.1.2.2.2.2.1
      omega
    | succ u ih =>
      intro n p P pl x hu hn hp hW h
      simp only [plL] at h
      split at h
      · rename_i x' h1
        cases h
        exact plC_x hp hT h1
      · rename_i e P1 pl1 h1
        obtain ⟨x1, x2, x3, x4⟩ := plC_ok hp hW h1
        have sle := sk_le (T := T) x1
        split at h
        · cases h
        · split at h
          · exact ih (n + 1) _ _ _ _ (by omega) (by omega) (by omega) x2 h
          · cases h; omega
  intro x hx
  exact key 27 0 0 P0 nob x rfl rfl (Nat.zero_le _) WD_0 hx
theorem op2 {C F : aH → Prop} (hI : IC f G J T S Z I) (hM : IM f G T S Z I) (hA : WA T S Z I) (hC : NX C) : vI scr (d + 20) 94 [.ref 0] (wo f G J c) (fun x h => vI scr (d + 20) 169 [.ref 125] h (fun x' h' => if x = x' then C h' else F h')) := by
  have hT := TX_of hA
  have tp0 : (0 ≤ 400) ∧ ∀ i, i < 0 → fits .byte (.int (T.2 i)) = true := ⟨by omega, fun i hi => by omega⟩
  cases hx : plL T 27 0 P0 nob with
  | inl x =>
    have hA' : WA (0, T.2) S Z I := ⟨tp0, hA.2⟩
    apply op_all (ans := -2 - nI x) (T' := (0, T.2)) (S' := S) (Z' := Z) (I' := I) hM hA' _ _ hC
    · intro K hK
      apply k94 hI hA
      · intro x' f1 G1 hx' cf hI1
        rw [hx] at hx'
        cases hx'
        exact hK f1 G1 J c cf hI1
      · intro P1 pl1 f1 G1 J1 hx'
        rw [hx] at hx'
        cases hx'
    · intro f G J c hM K hK
      apply s169 hM hA _ _ (plx hT)
      · intro x' f1 G1 hx' mf hM1
        rw [hx] at hx'
        cases hx'
        exact hK f1 G1 J mf hM1
      · intro P1 pl1 f1 G1 hx'
        rw [hx] at hx'
        cases hx'
  | inr y =>
    obtain ⟨P1, pl1⟩ := y
    have wd := plL_ok 27 0 P0 nob P1 pl1 (Nat.zero_le _) WD_0 hx
    have hA' : WA (0, T.2) (nwS P1 pl1) Z I := ⟨tp0, WW_nw wd, hA.2.2⟩
    apply op_all (ans := nI (pPe P1)) (T' := (0, T.2)) (S' := nwS P1 pl1) (Z' := Z) (I' := I) hM hA' _ _ hC
    · intro K hK
      apply k94 hI hA
      · intro x' f1 G1 hx'
        rw [hx] at hx'
        cases hx'
      · intro P2 pl2 f1 G1 J1 hx' cf hI1
        rw [hx] at hx'
        cases hx'
        exact hK f1 G1 J1 c cf hI1
    · intro f G J c hM K hK
      apply s169 hM hA _ _ (plx hT)
      · intro x' f1 G1 hx'
        rw [hx] at hx'
        cases hx'
      · intro P2 pl2 f1 G1 hx' mf hM1
        rw [hx] at hx'
        cases hx'
        exact hK f1 G1 J mf hM1
end RE11
