variable {scr : List Int32}
-- ===== the tape =====
section SP3
variable {f : Nat → Nat → Int32} {g : Nat → List Int32} {j : Nat → List Int64} {c : Value} {d : Nat}
theorem up2_self {f : Nat → Nat → Int32} {p k : Nat} : up2 f p k (f p k) = f := by
  funext p' k'
  unfold up2
  split
  · rename_i e; rw [e.1, e.2]
  · rfl
theorem up2_up2 {f : Nat → Nat → Int32} {p k : Nat} {v w : Int32} : up2 (up2 f p k v) p k w = up2 f p k w := by
  funext p' k'
  unfold up2
  split <;> rfl
theorem up1_up1 {α : Type} {g : Nat → α} {p : Nat} {v w : α} : up1 (up1 g p v) p w = up1 g p w := by
  funext p'
  unfold up1
  split <;> rfl
theorem lg_nI {l : List Int32} {a : Nat} (h : a < 2 ^ 31) : lg l (nI a) = l.getD a 0 := by unfold lg; rw [nI_clamp h]
theorem ls_nI {l : List Int32} {a : Nat} {v : Int32} (h : a < 2 ^ 31) : ls l (nI a) v = l.set a v := by unfold ls; rw [nI_clamp h]
/-- the tape: its bytes, how many count, where a reader is -/
def tpOk (f : Nat → Nat → Int32) (g : Nat → List Int32) (L P : Nat) : Prop := f 1 1 = nI L ∧ f 1 2 = nI P ∧ L ≤ 400 ∧ P ≤ L ∧ (g 2).length = 400
theorem sp65 {n : Int32} {T : Int32 → aH → Prop} : vI scr d 65 [.ref 1, .int n] (mk f g j c) T = T (bz (!decide (400 < f 1 1 + n))) (mk f g j c) := by
  unfold vI
  rw [v65_ok, en65, b65_0]
  simp only [i_tape_length, ex_i, true_and]
  by_cases h : 400 < f 1 1 + n <;> simp [h, bz]
theorem sp67 {T : aH → Prop} : vV scr d 67 [.ref 1] (mk f g j c) T = T (mk (up2 (up2 f 1 2 0) 1 3 0) g j c) := by
  unfold vV
  rw [v67_ok, en67, b67_0]
  simp only [p_tape_place, p_tape_fault, ex_v, true_and]
/-- the byte at a place, -1 behind the last one -/
def hre (B : List Int32) (L P : Nat) : Int32 := if P < L then B.getD P 0 &&& 255 else -1
theorem sp68 {L P : Nat} (h : tpOk f g L P) {T : Int32 → aH → Prop} : vI scr d 68 [.ref 1] (mk f g j c) T = T (hre (g 2) L P) (mk f g j c) := by
  obtain ⟨h1, h2, h3, h4, h5⟩ := h
  unfold vI
  rw [v68_ok, en68, b68_0]
  simp only [i_tape_length, i_tape_place, r_tape_bytes, a_tape_bytes, ex_i, true_and, h1, h2, h5]
  unfold hre
  by_cases e : P < L
  · have e1 : ¬ nI L ≤ nI P := nI_ge e (by omega)
    have e2 : ¬ (400 : Int32) ≤ nI P := nI_ge (a := P) (b := 400) (by omega) (by decide)
    have e3 : inb (nI P) 400 = true := by rw [inb_nI (by omega)]; simp; omega
    simp only [e1, e2, e3, e, if_true, if_false, true_and, lg_nI (show P < 2 ^ 31 by omega)]
  · have e1 : nI L ≤ nI P := nI_le (by omega) (by omega)
    simp only [e1, e, if_true, if_false]
/-- over blanks -/
def skp (B : List Int32) (L : Nat) : Nat → Nat → Nat
  | 0, P => P
  | k + 1, P => if B.getD P 0 = 32 then skp B L k (P + 1) else P
theorem skip_loop {L : Nat} (hL : L ≤ 400) (hg : (g 2).length = 400) {K : Option Value → aH → Prop} : ∀ (k P : Nat) (f : Nat → Nat → Int32), P + k = L → f 1 1 = nI L → f 1 2 = nI P →
    E scr false d 69 0 [.ref 1] [] (mk f g j c) K = K (some (.int (nI (skp (g 2) L k P)))) (mk (up2 f 1 2 (nI (skp (g 2) L k P))) g j c)
  | 0, P, f, hP, h1, h2 => by
    rw [b69_0]
    have e1 : nI L ≤ nI P := nI_le (by omega) (by omega)
    simp only [i_tape_length, i_tape_place, h1, h2, e1, if_true, skp]
    rw [← h2, up2_self]
  | k + 1, P, f, hP, h1, h2 => by
    rw [b69_0]
    have e1 : ¬ nI L ≤ nI P := nI_ge (by omega) (by omega)
    have e2 : ¬ (400 : Int32) ≤ nI P := nI_ge (a := P) (b := 400) (by omega) (by decide)
    have e3 : inb (nI P) 400 = true := by rw [inb_nI (by omega)]; simp; omega
    simp only [i_tape_length, i_tape_place, r_tape_bytes, a_tape_bytes, p_tape_place, h1, h2, hg, e1, e2, e3, if_false, true_and, lg_nI (show P < 2 ^ 31 by omega), nI_1]
    by_cases e4 : (g 2).getD P 0 = 32
    · simp only [e4, if_true, skp]
      rw [skip_loop hL hg k (P + 1) (up2 f 1 2 (nI (P + 1))) (by omega) (by rw [up2_ne (by decide)]; exact h1) up2_at, up2_up2]
    · simp only [e4, if_false, skp]
      rw [← h2, up2_self]
theorem sp69 {L P : Nat} (h : tpOk f g L P) {T : Int32 → aH → Prop} : vI scr d 69 [.ref 1] (mk f g j c) T = T (nI (skp (g 2) L (L - P) P)) (mk (up2 f 1 2 (nI (skp (g 2) L (L - P) P))) g j c) := by
  obtain ⟨h1, h2, h3, h4, h5⟩ := h
  unfold vI
  rw [v69_ok, en69, skip_loop h3 h5 (L - P) P f (by omega) h1 h2]
  simp only [ex_i, true_and]
theorem skp_le (B : List Int32) (L : Nat) : ∀ (k P : Nat), P ≤ skp B L k P ∧ skp B L k P ≤ P + k
  | 0, P => ⟨Nat.le_refl _, Nat.le_refl _⟩
  | k + 1, P => by
    have ih := skp_le B L k (P + 1)
    unfold skp
    split <;> omega
theorem sp70 {w k : Int32} {T : Int32 → aH → Prop} : vI scr d 70 [.ref 1, .int w, .int k] (mk f g j c) T = T 0 (mk (if f 1 3 = 0 then up2 f 1 3 (1 + 8 * w + k) else f) g j c) := by
  unfold vI
  rw [v70_ok, en70, b70_0]
  simp only [i_tape_fault, p_tape_fault, ex_i, true_and]
  by_cases h : f 1 3 = 0 <;> simp [h]
theorem sp71 {L P : Nat} (h : tpOk f g L P) {s : Int32} {T : Int32 → aH → Prop} : vI scr (d + 1) 71 [.ref 1, .int s] (mk f g j c) T =
    T (bz (decide (hre (g 2) L (skp (g 2) L (L - P) P) = s))) (mk (up2 f 1 2 (if hre (g 2) L (skp (g 2) L (L - P) P) = s then nI (skp (g 2) L (L - P) P + 1) else nI (skp (g 2) L (L - P) P))) g j c) := by
  have hsk := skp_le (g 2) L (L - P) P
  have h' : tpOk (up2 f 1 2 (nI (skp (g 2) L (L - P) P))) g L (skp (g 2) L (L - P) P) := by
    obtain ⟨h1, h2, h3, h4, h5⟩ := h
    exact ⟨by rw [up2_ne (by decide)]; exact h1, up2_at, h3, by omega, h5⟩
  unfold vI
  rw [v71_ok, en71, b71_0]
  simp only [sp69 h, sp68 h', i_tape_place, p_tape_place, ex_i, true_and, up2_at, up2_up2, nI_1]
  by_cases e : hre (g 2) L (skp (g 2) L (L - P) P) = s <;> simp [e, bz]
def isDg (B : List Int32) (L P : Nat) : Bool := decide (P < L) && (!decide (B.getD P 0 < 48) && !decide (57 < B.getD P 0))
theorem sp74 {L P : Nat} (h : tpOk f g L P) {T : Int32 → aH → Prop} : vI scr d 74 [.ref 1] (mk f g j c) T = T (bz (isDg (g 2) L P)) (mk f g j c) := by
  obtain ⟨h1, h2, h3, h4, h5⟩ := h
  unfold vI
  rw [v74_ok, en74, b74_0]
  simp only [i_tape_length, i_tape_place, r_tape_bytes, a_tape_bytes, ex_i, true_and, h1, h2, h5]
  unfold isDg
  by_cases e : P < L
  · have e1 : ¬ nI L ≤ nI P := nI_ge e (by omega)
    have e2 : ¬ (400 : Int32) ≤ nI P := nI_ge (a := P) (b := 400) (by omega) (by decide)
    have e3 : inb (nI P) 400 = true := by rw [inb_nI (by omega)]; simp; omega
    simp only [e1, e2, e3, e, if_false, true_and, lg_nI (show P < 2 ^ 31 by omega)]
    by_cases e4 : (g 2).getD P 0 < 48 <;> by_cases e5 : 57 < (g 2).getD P 0 <;> simp only [e4, e5, if_true, if_false, bz, decide_true, decide_false, Bool.not_true, Bool.not_false, Bool.and_true, Bool.and_false, Bool.true_and]
    all_goals rfl
  · have e1 : nI L ≤ nI P := nI_le (by omega) (by omega)
    simp [e1, e, bz]
end SP3
