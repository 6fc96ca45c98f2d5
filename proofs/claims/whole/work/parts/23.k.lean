variable {scr : List Int32}
-- ===== a step =====
section W7
def mvD (P : Pn) (D : Dy) (w : Nat) (o : Option Nat) : Dy := match mvA P (dPl D) w o with
  | none => D
  | some n => (plU (dPl D) w (some n), D.2)
def tuD (P : Pn) (D : Dy) (w : Nat) (o : Option Nat) : Dy := lgA P (mvD P D w o) w
def fol (P : Pn) (B : Nat → Nat) (L : Lw) (pl : Nat → Option Nat) (w : Nat) : Option Nat := match pl w with
  | none => none
  | some h => folA P B L pl h w
def spD (P : Pn) (B : Nat → Nat) (L : Lw) (D : Dy) : Nat → Dy
  | 0 => D
  | m + 1 => tuD P (spD P B L D m) m (fol P B L (dPl (spD P B L D m)) m)
def spF (P : Pn) (B : Nat → Nat) (L : Lw) (D : Dy) (m : Nat) : Option Nat := fol P B L (dPl (spD P B L D m)) m
def spW (P : Pn) (B : Nat → Nat) (L : Lw) (D : Dy) : Nat → Nat
  | 0 => 0
  | m + 1 => spW P B L D m + (if (mvA P (dPl (spD P B L D m)) m (spF P B L D m)).isSome = true then 1 else 0)
def inS (D : Dy) : Dy := (dPl D, dOu D, dSt D + 1, dOc D)
def stD (P : Pn) (B : Nat → Nat) (L : Lw) (D : Dy) : Dy := spD P B L (inS D) (pPe P)
def stW (P : Pn) (B : Nat → Nat) (L : Lw) (D : Dy) : Nat := spW P B L (inS D) (pPe P)
def stF (P : Pn) (B : Nat → Nat) (L : Lw) (D : Dy) (w : Nat) : Option Nat := spF P B L (inS D) w
def cnP (pl : Nat → Option Nat) : Nat → Nat
  | 0 => 0
  | m + 1 => cnP pl m + (if (pl m).isSome = true then 1 else 0)
def wfS (P : Pn) (D : Dy) : Prop := wfL P (dPl D) ∧ dOc D + cnP (dPl D) (pPe P) ≤ 12
theorem cn_congr {pl pl' : Nat → Option Nat} {m : Nat} (h : ∀ v, v < m → (pl' v).isSome = (pl v).isSome) : cnP pl' m = cnP pl m := by
  induction m with
  | zero => rfl
  | succ m ih => simp only [cnP]; rw [ih (fun v hv => h v (by omega)), h m (by omega)]
theorem cn_lift {pl : Nat → Option Nat} {w m : Nat} (hw : w < m) (h : (pl w).isSome = true) : cnP (plU pl w none) m + 1 = cnP pl m := by
  induction m with
  | zero => omega
  | succ m ih =>
    simp only [cnP]
    by_cases e : w = m
    · subst e
      rw [cn_congr (pl := pl) (pl' := plU pl w none) (m := w) (fun v hv => by simp [plU, show v ≠ w by omega])]
      simp [plU, h]
    · have := ih (by omega)
      simp only [plU, show m ≠ w by omega, if_false] at this ⊢
      omega
variable {P : Pn} {B : Nat → Nat} {L : Lw} {D : Dy} {w : Nat} {o : Option Nat}
theorem siA_some {pl : Nat → Option Nat} {h n v : Nat} (e : siA P pl h w n = some v) : v < 14 ∧ v ≠ w ∧ ∃ t, pl v = some t := by
  unfold siA at e
  split at e
  · rename_i hn
    cases e
    obtain ⟨a, b⟩ := lkF_mem (P := P) (pl := pl) (h := h) (w := w) 14 (n - 1) (by omega)
    obtain ⟨c1, t, ht, -⟩ := see_pl b
    exact ⟨a, c1, t, ht⟩
  · cases e
theorem fol_some {pl : Nat → Option Nat} {v : Nat} (e : fol P B L pl w = some v) : v < 14 ∧ v ≠ w ∧ ∃ t, pl v = some t := by
  unfold fol at e
  split at e
  · cases e
  · exact siA_some e
theorem mvA_some {pl : Nat → Option Nat} {n : Nat} (e : mvA P pl w o = some n) : (∃ h, pl w = some h) ∧ frA P pl n = true := by
  unfold mvA at e
  split at e
  · rename_i h v hw
    exact ⟨⟨h, hw⟩, apA_mem 8 n e⟩
  · cases e
theorem wfL_mv (hP : wfP P) (hl : wfL P (dPl D)) : wfL P (dPl (mvD P D w o)) := by
  unfold mvD
  split
  · exact hl
  · rename_i n hn
    obtain ⟨⟨h, hw⟩, hf⟩ := mvA_some hn
    obtain ⟨f1, f2, f3⟩ := frA_th hf
    exact wfL_put hl (hl.1 w h hw).1 f1 f2 (fun v _ => who_nn hP hl f3 v)
theorem wfL_lg (hl : wfL P (dPl D)) : wfL P (dPl (lgA P D w)) := by
  unfold lgA
  split
  · exact hl
  · split
    · exact wfL_lift hl
    · exact hl
theorem wfL_tu (hP : wfP P) (hl : wfL P (dPl D)) : wfL P (dPl (tuD P D w o)) := wfL_lg (wfL_mv hP hl)
theorem wfL_sp (hP : wfP P) (hl : wfL P (dPl D)) : ∀ m, wfL P (dPl (spD P B L D m)) := by
  intro m
  induction m with
  | zero => exact hl
  | succ m ih => exact wfL_tu hP ih
theorem oc_mv : dOc (mvD P D w o) + cnP (dPl (mvD P D w o)) (pPe P) = dOc D + cnP (dPl D) (pPe P) := by
  unfold mvD
  split
  · rfl
  · rename_i n hn
    obtain ⟨⟨h, hw⟩, -⟩ := mvA_some hn
    have : cnP (plU (dPl D) w (some n)) (pPe P) = cnP (dPl D) (pPe P) := by
      apply cn_congr
      intro v _
      unfold plU
      by_cases e : v = w
      · simp [e, hw]
      · simp [e]
    show dOc D + cnP (plU (dPl D) w (some n)) (pPe P) = _
    rw [this]
theorem oc_lg (hw : w < pPe P) : dOc (lgA P D w) + cnP (dPl (lgA P D w)) (pPe P) = dOc D + cnP (dPl D) (pPe P) := by
  unfold lgA
  split
  · rfl
  · rename_i h hh
    split
    · have := cn_lift (pl := dPl D) hw (by simp [hh])
      show dOc D + 1 + cnP (plU (dPl D) w none) (pPe P) = _
      omega
    · rfl
theorem oc_sp : ∀ m, m ≤ pPe P → dOc (spD P B L D m) + cnP (dPl (spD P B L D m)) (pPe P) = dOc D + cnP (dPl D) (pPe P) := by
  intro m
  induction m with
  | zero => intro _; rfl
  | succ m ih =>
    intro hm
    rw [← ih (by omega)]
    show dOc (lgA P _ _) + cnP (dPl (lgA P _ _)) (pPe P) = _
    rw [oc_lg (by omega), oc_mv]
theorem wfS_st (hP : wfP P) (h : wfS P D) : wfS P (stD P B L D) ∧ dOc (stD P B L D) + cnP (dPl (stD P B L D)) (pPe P) = dOc D + cnP (dPl D) (pPe P) := by
  have e : dOc (stD P B L D) + cnP (dPl (stD P B L D)) (pPe P) = dOc D + cnP (dPl D) (pPe P) := oc_sp (pPe P) (Nat.le_refl _)
  have h2 := h.2
  exact ⟨⟨wfL_sp (D := inS D) hP h.1 (pPe P), by omega⟩, e⟩
theorem tu_none (h : dPl D w = none) : tuD P D w o = D ∧ mvA P (dPl D) w o = none := by
  have e : mvA P (dPl D) w o = none := by
    unfold mvA
    rw [h]
  have e2 : mvD P D w o = D := by unfold mvD; rw [e]
  refine ⟨?_, e⟩
  unfold tuD lgA
  rw [e2, h]
end W7
section W8
variable {f G f' G' f1 G1 : Nat → Nat → Int32} {J J' J1 : Nat → Nat → Int64} {c : Value} {d p q : Nat} {P : Pn} {D : Dy} {B : Nat → Nat} {L : Lw}
theorem RD_cg (h1 : f' p 5 = f p 5) (h2 : f' p 6 = f p 6) (h3 : ∀ k, G' (p + 2) k = G (p + 2) k) (h4 : ∀ k, G' (p + 3) k = G (p + 3) k) (h5 : ∀ k, G' (p + 6) k = G (p + 6) k) (hd : RD f G p D) : RD f' G' p D := by
  unfold RD at hd ⊢
  simp only [h1, h2, h3, h4, h5]
  exact hd
theorem sclw (hp : isSc p) (hq : isLw q) : q ≠ p ∧ q ≠ 55 ∧ (∀ i, i < 4 → q + i ≠ p + 2 ∧ q + i ≠ p + 3 ∧ q + i ≠ p + 6 ∧ q + i ≠ 57 ∧ q + i ≠ 58) := by
  rcases hp with rfl | rfl | rfl | rfl | rfl | rfl | rfl | rfl <;> rcases hq with rfl | rfl | rfl | rfl | rfl | rfl <;> exact ⟨by decide, by decide, fun i hi => by omega⟩
theorem LR_fr (hp : isSc p) (hq : isLw q) (h : FR p f G J f1 G1 J1) (hL : LRl f G q L) : LRl f1 G1 q L := by
  obtain ⟨n1, n2, n3⟩ := sclw hp hq
  obtain ⟨h1, h2, -⟩ := h
  have e0 : f1 q 0 = f q 0 := h1 q 0 n2 (fun e => n1 e.1)
  have e : ∀ i, i < 4 → ∀ k, G1 (q + i) k = G (q + i) k := fun i hi k => by
    obtain ⟨a, b, c1, d1, e1⟩ := n3 i hi
    exact h2 (q + i) k a b c1 d1 e1
  unfold LRl at hL ⊢
  simp only [e0, e 1 (by omega), e 2 (by omega), e 3 (by omega)]
  exact hL
theorem TG_fr (hp : isSc p) (h : FR p f G J f1 G1 J1) (hB : ∀ q, q < 144 → G 51 q = nI (B q)) : ∀ q, q < 144 → G1 51 q = nI (B q) := by
  intro q hq
  rw [h.2.1 51 q (by rcases hp with rfl | rfl | rfl | rfl | rfl | rfl | rfl | rfl <;> decide) (by rcases hp with rfl | rfl | rfl | rfl | rfl | rfl | rfl | rfl <;> decide) (by rcases hp with rfl | rfl | rfl | rfl | rfl | rfl | rfl | rfl <;> decide) (by decide) (by decide), hB q hq]
theorem FR_58 {k : Nat} {v : Int32} : FR p f G J f (up2 G 58 k v) J := ⟨fun _ _ _ _ => rfl, fun _ _ _ _ _ _ a => up2_q a, fun _ _ _ _ _ => rfl⟩
theorem FR_55 {k : Nat} {v : Int32} : FR p f G J (up2 f 55 k v) G J := ⟨fun _ _ a _ => up2_q a, fun _ _ _ _ _ _ _ => rfl, fun _ _ _ _ _ => rfl⟩
theorem FR_56 (h : ∀ q k, q ≠ 56 → J' q k = J q k) : FR p f G J f G J' := ⟨fun _ _ _ _ => rfl, fun _ _ _ _ _ _ _ => rfl, fun q k _ _ a => h q k a⟩
theorem FR_mv {w : Nat} {o b : Option Nat} : FR p f G J f (mvG G p w o b) J := by
  refine ⟨fun _ _ _ _ => rfl, ?_, fun _ _ _ _ _ => rfl⟩
  intro q k a1 a2 _ _ _
  cases b with
  | none => rfl
  | some n => exact pt_fr q k a1 a2
theorem FR_lg (h1 : ∀ o k, ¬ (o = p ∧ k = 6) → f' o k = f o k) (h2 : ∀ q k, q ≠ p + 2 → q ≠ p + 3 → q ≠ p + 6 → G' q k = G q k) : FR p f G J f' G' J :=
  ⟨fun o k _ b => h1 o k (fun e => b ⟨e.1, Or.inr e.2⟩), fun q k a b c1 _ _ => h2 q k a b c1, fun _ _ _ _ _ => rfl⟩
theorem RD_mv (hP : wfP P) (hl : wfL P (dPl D)) (hd : RD f G p D) {w : Nat} {o : Option Nat} (hw : w < 14) : RD f (mvG G p w (dPl D w) (mvA P (dPl D) w o)) p (mvD P D w o) := by
  unfold mvD
  cases hn : mvA P (dPl D) w o with
  | none => exact hd
  | some n =>
    obtain ⟨-, hf⟩ := mvA_some hn
    exact RD_put hd hl.2 hw (fun v _ => who_nn hP hl (frA_th hf).2.2 v)
theorem sc58 (hp : isSc p) : p ≠ 55 ∧ ∀ i, i < 10 → p + i ≠ 57 ∧ p + i ≠ 58 := by
  rcases hp with rfl | rfl | rfl | rfl | rfl | rfl | rfl | rfl <;> exact ⟨by decide, fun i hi => by omega⟩
/-- what a step wants of the world -/
def CX (f G : Nat → Nat → Int32) (J : Nat → Nat → Int64) (p q : Nat) (P : Pn) (B : Nat → Nat) (L : Lw) : Prop := RS f G p P ∧ CK J P ∧ (∀ q, q < 144 → G 51 q = nI (B q)) ∧ LRl f G q L
theorem CX_fr (hp : isSc p) (hq : isLw q) (h : FR p f G J f1 G1 J1) (hc : CK J1 P) (hx : CX f G J p q P B L) : CX f1 G1 J1 p q P B L := ⟨RS_fr hp h hx.1, hc, TG_fr hp h hx.2.2.1, LR_fr hp hq h hx.2.2.2⟩
theorem turn_c (hp : isSc p) (hq : isLw q) (hP : wfP P) (hL : wfLw L) (hl : wfL P (dPl D)) (hd : RD f G p D) (hx : CX f G J p q P B L) {m W : Nat} (hm : m < pPe P) (h7 : f 55 7 = nI W) {l3 : Int32} {K : Option Value → aH → Prop}
  (hK : ∀ f' G' J', RD f' G' p (tuD P D m (fol P B L (dPl D) m)) → CK J' P → FR p f G J f' G' J' → f' 55 7 = nI (W + (if (mvA P (dPl D) m (fol P B L (dPl D) m)).isSome = true then 1 else 0)) → G' 58 m = oI (fol P B L (dPl D) m) → (∀ k, k ≠ m → G' 58 k = G 58 k) → E scr false (d + 3) 79 115 [.ref 55, .ref p, .ref q, .int l3, .int (nI m)] [] (wo f' G' J' c) K) : E scr false (d + 3) 79 23 [.ref 55, .ref p, .ref q, .int l3, .int (nI m)] [] (wo f G J c) K := by
  obtain ⟨n1, n2⟩ := sc58 hp
  have p12 := hP.2.2.2.1
  obtain ⟨hs, hc, hB, hLR⟩ := hx
  rw [b79_23]
  have e3 := hs.1.2.2.2.1
  have hx1 : CX f (up2 G 58 m (-1)) J p q P B L := CX_fr hp hq FR_58 hc ⟨hs, hc, hB, hLR⟩
  have hd1 : RD f (up2 G 58 m (-1)) p D := RD_cg rfl rfl (fun k => up2_q (n2 2 (by omega)).2) (fun k => up2_q (n2 3 (by omega)).2) (fun k => up2_q (n2 6 (by omega)).2) hd
  have eat := hd1.2.2.2.1 m (by omega)
  simp (disch := omega) only [sC scr hp, e3, LI, NC, show ¬ pPe P ≤ m by omega, show ¬ 12 ≤ m by omega, if_false, wK scr, eat]
  cases ho : dPl D m with
  | none =>
    have ef : fol P B L (dPl D) m = none := by unfold fol; rw [ho]
    obtain ⟨t1, t2⟩ := tu_none (P := P) (o := fol P B L (dPl D) m) ho
    simp only [oI_n, neg1_lt, if_true]
    apply hK
    · rw [t1]; exact hd1
    · exact hc
    · exact FR_58
    · rw [t2]; simpa using h7
    · rw [ef, up2_s]; rfl
    · intro k hk; rw [up2_k hk]
  | some h =>
    obtain ⟨-, h144, hth, -⟩ := wfL_lt hP hl ho
    have ef : fol P B L (dPl D) m = folA P B L (dPl D) h m := by unfold fol; rw [ho]
    simp (disch := omega) only [oI_s, NC, if_false]
    apply w81 hp hP hl hx1.1 hd1 hc ho
    intro f2 G2 J2 hk2 hc2 hfr2
    have fr2 : FR p f G J f2 G2 J2 := FR_tr FR_58 (FRl_FR hfr2)
    have hx2 : CX f2 G2 J2 p q P B L := CX_fr hp hq fr2 hc2 ⟨hs, hc, hB, hLR⟩
    have hd2 := RD_frl hp hfr2 hd1
    simp only [wK scr]
    apply w84 hp hq hP hl hx2.1 hd2 hx2.2.2.1 ho hm hk2 hL hx2.2.2.2
    intro J3 hJ3
    have hc3 : CK J3 P := by
      intro a b ha hb hab
      rw [hJ3 54 _ (by decide), hJ3 53 _ (by decide)]
      exact hc2 a b ha hb hab
    have e7 : f2 55 7 = nI W := by rw [hfr2.1 55 7 (by omega), h7]
    have hx3 : CX f2 (up2 G2 58 m (oI (folA P B L (dPl D) h m))) J3 p q P B L := CX_fr hp hq (FR_tr (FR_tr fr2 (FR_56 hJ3)) FR_58) hc3 ⟨hs, hc, hB, hLR⟩
    have hd3 : RD f2 (up2 G2 58 m (oI (folA P B L (dPl D) h m))) p D := RD_cg rfl rfl (fun k => up2_q (n2 2 (by omega)).2) (fun k => up2_q (n2 3 (by omega)).2) (fun k => up2_q (n2 6 (by omega)).2) hd2
    simp (disch := omega) only [wK scr, e7, up2_s]
    rw [w88 hp hP hl hx3.1 hd3 ho (fun v hv => by
      have := fol_some (P := P) (B := B) (L := L) (pl := dPl D) (w := m) (v := v) (by rw [ef]; exact hv)
      exact ⟨this.1, this.2.2⟩)]
    have hd4 := RD_mv (o := folA P B L (dPl D) h m) hP hl hd3 (show m < 14 by omega)
    have fr4 : FR p f G J f2 (mvG (up2 G2 58 m (oI (folA P B L (dPl D) h m))) p m (dPl D m) (mvA P (dPl D) m (folA P B L (dPl D) h m))) J3 := FR_tr (FR_tr (FR_tr fr2 (FR_56 hJ3)) FR_58) FR_mv
    have g58 : ∀ k, mvG (up2 G2 58 m (oI (folA P B L (dPl D) h m))) p m (dPl D m) (mvA P (dPl D) m (folA P B L (dPl D) h m)) 58 k = up2 G2 58 m (oI (folA P B L (dPl D) h m)) 58 k := by
      intro k
      cases mvA P (dPl D) m (folA P B L (dPl D) h m) with
      | none => rfl
      | some n => exact pt_fr 58 k (Ne.symm (n2 2 (by omega)).2) (Ne.symm (n2 3 (by omega)).2)
    generalize hG4 : mvG (up2 G2 58 m (oI (folA P B L (dPl D) h m))) p m (dPl D m) (mvA P (dPl D) m (folA P B L (dPl D) h m)) = G4 at *
    have fin : ∀ s0 : Nat, s0 = (if (mvA P (dPl D) m (fol P B L (dPl D) m)).isSome = true then 1 else 0) → E scr false (d + 2 + 1) 79 105 [.ref 55, .ref p, .ref q, .int l3, .int (nI m)] [.int (nI s0), .int (nI W), .ref 55] (wo f2 G4 J3 c) K := by
      intro s0 hs0
      rw [b79_105]
      simp only [wK scr, nI_add]
      have hx5 : CX (up2 f2 55 7 (nI (W + s0))) G4 J3 p q P B L := CX_fr hp hq (FR_tr fr4 FR_55) hc3 ⟨hs, hc, hB, hLR⟩
      have hd5 : RD (up2 f2 55 7 (nI (W + s0))) G4 p (mvD P D m (folA P B L (dPl D) h m)) := RD_cg (up2_q n1) (up2_q n1) (fun _ => rfl) (fun _ => rfl) (fun _ => rfl) hd4
      apply w89 hp hP (wfL_mv hP hl) hx5.1 hd5 (by omega)
      intro f6 G6 hd6 hf6 hG6
      apply hK
      · rw [ef]; exact hd6
      · exact hc3
      · exact FR_tr (FR_tr fr4 FR_55) (FR_lg hf6 hG6)
      · rw [hf6 55 7 (fun e => n1 e.1.symm), up2_s, hs0]
      · rw [hG6 58 m (Ne.symm (n2 2 (by omega)).2) (Ne.symm (n2 3 (by omega)).2) (Ne.symm (n2 6 (by omega)).2), g58, up2_s, ef]
      · intro k hk
        rw [hG6 58 k (Ne.symm (n2 2 (by omega)).2) (Ne.symm (n2 3 (by omega)).2) (Ne.symm (n2 6 (by omega)).2), g58, up2_k hk, hfr2.2.1 58 k (by decide), up2_k hk]
    rw [ef] at fin
    cases hmv : (mvA P (dPl D) m (folA P B L (dPl D) h m)).isSome with
    | true =>
      simp only [bz_t, show ¬ ((1 : Int32) = 0) by decide, if_false]
      exact fin 1 (by rw [hmv]; rfl)
    | false =>
      simp only [bz_f, if_true]
      exact fin 0 (by rw [hmv]; rfl)
end W8
