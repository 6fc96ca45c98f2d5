variable {scr : List Int32}
-- ===== the model's round =====
section RP
variable {f G f' G' f1 G1 f2 G2 : Nat → Nat → Int32} {J J' J1 J2 : Nat → Nat → Int64} {c : Value} {d : Nat} {P : Pn} {D : Dy} {B : Nat → Nat} {L : Lw}
theorem i12 {k w : Nat} : 12 * nI k + nI w = nI (12 * k + w) := by
  rw [show (12 : Int32) = nI 12 from rfl, pk_mul, nI_add]
theorem same_loop (hP : wfP P) (hms : MS G P) {S : Nat → Nat → Option Nat} (hS : ∀ k w r, S k w = some r → r < 144) (hN : ∀ k w, pPe P ≤ w → w < 12 → S k w = none) {e t : Nat} (he : e ≤ 400) (ht : t ≤ 400) (h157 : ∀ k, (k = e ∨ k = t) → ∀ w, w < pPe P → G 157 (12 * k + w) = oI (S k w)) {K : Option Value → aH → Prop} : ∀ m k, pPe P - k = m → k ≤ pPe P → (∀ w, w < k → S e w = S t w) → E scr false d 197 5 [.ref 125, .int (nI e), .int (nI t), .int 1, .int (nI k)] [] (wo f G J c) K = K (some (.int (bz (eqB (S e) (S t))))) (wo f G J c) := by
  have p12 := hP.2.2.2.1
  have e2 := hms.1.2.2.1
  have e11 : (1 : Int32) &&& 1 = 1 := by decide
  have e00 : (0 : Int32) &&& 1 = 0 := by decide
  intro m
  induction m with
  | zero =>
    intro k hm hk hall
    have ek : k = pPe P := by omega
    subst ek
    have : eqB (S e) (S t) = true := by
      rw [eqB_iff]
      intro w hw
      by_cases h : w < pPe P
      · exact hall w h
      · rw [hN e w (by omega) hw, hN t w (by omega) hw]
    rw [b197_5, this]
    simp (disch := omega) only [mO scr, show (2 : Int32) = nI 2 from rfl, e2, NC, Nat.le_refl, if_true, e11, true_and, bz_t]
  | succ m ih =>
    intro k hm hk hall
    have g1 := h157 e (Or.inl rfl) k (by omega)
    have g2 := h157 t (Or.inr rfl) k (by omega)
    have hi := oI_inj (o := S e k) (o' := S t k) (fun a ha => by have := hS e k a ha; omega) (fun a ha => by have := hS t k a ha; omega)
    rw [b197_5]
    simp (disch := omega) only [mO scr, show (2 : Int32) = nI 2 from rfl, e2, NC, show ¬ pPe P ≤ k by omega, if_false, show ¬ ((1 : Int32) = 0) by decide, i12, g1, g2, hi]
    by_cases hek : S e k = S t k
    · rw [if_pos hek, b197_52, nI_1]
      apply ih (k + 1) (by omega) (by omega)
      intro w hw
      by_cases ew : w = k
      · rw [ew]; exact hek
      · exact hall w (by omega)
    · have : eqB (S e) (S t) = false := by
        cases h : eqB (S e) (S t) with
        | false => rfl
        | true => exact absurd (eqB_iff.mp h k (by omega)) hek
      rw [if_neg hek, b197_52, b197_5, this]
      simp (disch := omega) only [mO scr, show (2 : Int32) = nI 2 from rfl, e2, if_true, e00, true_and, ite_self, bz_f]
theorem m197 (hP : wfP P) (hms : MS G P) {S : Nat → Nat → Option Nat} (hS : ∀ k w r, S k w = some r → r < 144) (hN : ∀ k w, pPe P ≤ w → w < 12 → S k w = none) {e t : Nat} (he : e ≤ 400) (ht : t ≤ 400) (h157 : ∀ k, (k = e ∨ k = t) → ∀ w, w < pPe P → G 157 (12 * k + w) = oI (S k w)) {T : Int32 → aH → Prop} : vI scr d 197 [.ref 125, .int (nI e), .int (nI t)] (wo f G J c) T = T (bz (eqB (S e) (S t))) (wo f G J c) := by
  unfold vI
  rw [u197_ok, en197, b197_0]
  simp only [true_and]
  refine Eq.trans (same_loop (scr := scr) (f := f) (J := J) (c := c) (d := d) hP hms hS hN he ht h157 (K := fun r h => ∃ x, r = some (Value.int x) ∧ T x h) (pPe P) 0 rfl (by omega) (fun w hw => by omega)) ?_
  simp only [ex_i]
theorem st_loop {l1 l2 l3 l4 : Int32} {t : Nat} (ht : t ≤ 400) {K : Option Value → aH → Prop} : ∀ m k, 12 - k = m → k ≤ 12 → ∀ G, (∀ G', (∀ w, k ≤ w → w < 12 → G' 157 (12 * t + w) = G 135 w) → (∀ i, ¬ (12 * t + k ≤ i ∧ i < 12 * t + 12) → G' 157 i = G 157 i) → (∀ q i, q ≠ 157 → G' q i = G q i) → E scr false d 198 88 [.ref 125, .int l1, .int l2, .int l3, .int l4, .int (nI t), .int 0] [] (wo f G' J c) K) → E scr false d 198 52 [.ref 125, .int l1, .int l2, .int l3, .int l4, .int (nI t), .int (nI k)] [] (wo f G J c) K := by
  intro m
  induction m with
  | zero =>
    intro k hm hk G hK
    have e : k = 12 := by omega
    subst e
    rw [b198_52]
    simp (disch := omega) only [show (12 : Int32) = nI 12 from rfl, NC, Nat.le_refl, if_true]
    exact hK G (fun w h1 h2 => by omega) (fun _ _ => rfl) (fun _ _ _ => rfl)
  | succ m ih =>
    intro k hm hk G hK
    rw [b198_52]
    rw [i12]
    simp (disch := omega) only [show (12 : Int32) = nI 12 from rfl, NC, show ¬ 12 ≤ k by omega, if_false, mO scr, nI_1]
    apply ih (k + 1) (by omega) (by omega)
    intro G' a1 a2 a3
    apply hK G'
    · intro w h1 h2
      by_cases e : w = k
      · rw [a2 (12 * t + w) (by omega), e, up2_s]
      · rw [a1 w (by omega) h2, up2_q (by decide)]
    · intro i hi
      rw [a2 i (by omega), up2_k (by omega)]
    · intro q i hq
      rw [a3 q i hq, up2_q hq]
end RP
