variable {scr : List Int32}
-- ===== the world with rows as functions =====
section WO
def LNS : List Nat := [0, 0, 400, 0, 144, 144, 14, 12, 12, 12, 40, 40, 40, 0, 144, 144, 14, 12, 12, 12, 40, 40, 40, 0, 0, 0, 0, 12, 12, 400, 0, 12, 12, 400, 0, 12, 12, 400, 0, 12, 12, 400, 0, 12, 12, 400, 0, 12, 12, 400, 0, 144, 144, 432, 432, 0, 64, 14, 12, 0, 0, 144, 144, 14, 12, 12, 12, 40, 40, 40, 0, 144, 144, 14, 12, 12, 12, 40, 40, 40, 401, 401, 12, 0, 0, 144, 144, 14, 12, 12, 12, 40, 40, 40, 0, 144, 144, 14, 12, 12, 12, 40, 40, 40, 0, 144, 144, 14, 12, 12, 12, 40, 40, 40, 0, 144, 144, 14, 12, 12, 12, 40, 40, 40, 4, 0, 6, 144, 12, 12, 4, 144, 12, 12, 14, 14, 12, 40, 40, 40, 144, 144, 14, 400, 1800, 1800, 6, 72, 72, 72, 402, 9, 300, 12, 6, 14, 12, 4812, 12, 12, 6, 14, 12, 3, 14, 1320, 4]
def ln (q : Nat) : Nat := LNS.getD q 0
def rwN {α : Type} (n : Nat) (F : Nat → α) : List α := (List.range n).map F
def upJ (f : Nat → Nat → Int64) (p k : Nat) (v : Int64) : Nat → Nat → Int64 := fun p' k' => if p' = p ∧ k' = k then v else f p' k'
def wo (f G : Nat → Nat → Int32) (J : Nat → Nat → Int64) (c : Value) : aH := mk f (fun q => rwN (ln q) (G q)) (fun q => rwN (ln q) (J q)) c
theorem rwN_len {α : Type} {n : Nat} {F : Nat → α} : (rwN n F).length = n := by simp [rwN]
theorem rwN_get {α : Type} {n k : Nat} {F : Nat → α} {z : α} (h : k < n) : (rwN n F).getD k z = F k := by simp [rwN, List.getD_eq_getElem?_getD, h]
theorem rwN_set {α : Type} {n k : Nat} {F : Nat → α} {v : α} (h : k < n) : (rwN n F).set k v = rwN n (fun i => if i = k then v else F i) := by
  apply List.ext_getElem?
  intro i
  rw [List.getElem?_set]
  by_cases hi : k = i
  · subst hi; simp [rwN, h]
  · simp only [rwN, hi, if_false, List.getElem?_map]
    by_cases h2 : i < n
    · simp [h2, Ne.symm hi]
    · simp [h2]
theorem rwN_congr {α : Type} {n : Nat} {F F' : Nat → α} (h : ∀ k, k < n → F k = F' k) : rwN n F = rwN n F' := by
  unfold rwN
  apply List.map_congr_left
  intro k hk
  exact h k (List.mem_range.mp hk)
/-- a list as a row -/
theorem rwN_of {l : List Int32} {n : Nat} (h : l.length = n) : l = rwN n (fun k => l.getD k 0) := by
  apply List.ext_getElem?
  intro i
  by_cases hi : i < n
  · simp [rwN, hi, List.getD_eq_getElem?_getD, h]
  · simp [rwN, hi, h, Nat.le_of_not_lt hi]
theorem rwN_ofJ {l : List Int64} {n : Nat} (h : l.length = n) : l = rwN n (fun k => l.getD k 0) := by
  apply List.ext_getElem?
  intro i
  by_cases hi : i < n
  · simp [rwN, hi, List.getD_eq_getElem?_getD, h]
  · simp [rwN, hi, h, Nat.le_of_not_lt hi]
theorem ln_lt {q : Nat} : ln q < 2 ^ 31 := by
  unfold ln
  by_cases h : q < 167
  · have : ∀ q, q < 167 → LNS.getD q 0 < 2 ^ 31 := by decide +kernel
    exact this q h
  · have h2 : LNS.length = 167 := by decide +kernel
    rw [List.getD_eq_getElem?_getD, List.getElem?_eq_none (by omega)]
    decide
variable {f G : Nat → Nat → Int32} {J : Nat → Nat → Int64} {c : Value}
theorem lg_rw {q k : Nat} (h : k < ln q) : lg (rwN (ln q) (G q)) (nI k) = G q k := by
  have := ln_lt (q := q)
  rw [lg_nI (by omega), rwN_get h]
theorem ls_rw {q k : Nat} {v : Int32} (h : k < ln q) : ls (rwN (ln q) (G q)) (nI k) v = rwN (ln q) (up2 G q k v q) := by
  have := ln_lt (q := q)
  rw [ls_nI (by omega), rwN_set h]
  apply rwN_congr
  intro i _
  simp [up2]
theorem up_rw {q k : Nat} {v : Int32} (h : k < ln q) : up1 (fun q => rwN (ln q) (G q)) q (ls (rwN (ln q) (G q)) (nI k) v) = fun q' => rwN (ln q') (up2 G q k v q') := by
  funext q'
  unfold up1
  by_cases hq : q' = q
  · subst hq; rw [if_pos rfl, ls_rw h]
  · rw [if_neg hq]
    apply rwN_congr
    intro i _
    simp [up2, hq]
theorem lgJ_rw {q k : Nat} (h : k < ln q) : lgJ (rwN (ln q) (J q)) (nI k) = J q k := by
  have := ln_lt (q := q)
  rw [lgJ_nI (by omega), rwN_get h]
theorem upJ_rw {q k : Nat} {v : Int64} (h : k < ln q) : up1 (fun q => rwN (ln q) (J q)) q (lsJ (rwN (ln q) (J q)) (nI k) v) = fun q' => rwN (ln q') (upJ J q k v q') := by
  have h3 := ln_lt (q := q)
  funext q'
  unfold up1
  by_cases hq : q' = q
  · subst hq
    rw [if_pos rfl, lsJ_nI (by omega), rwN_set h]
    apply rwN_congr
    intro i _
    simp [upJ]
  · rw [if_neg hq]
    apply rwN_congr
    intro i _
    simp [upJ, hq]
theorem wo_aI {q k : Nat} {T : Int32 → Prop} (h : LAY[q]? = some (.inl 1)) (hk : k < ln q) : aI scr (wo f G J c) q (nI k) T = T (G q k) := by
  have h3 := ln_lt (q := q)
  unfold wo
  rw [aI_mk h]
  simp only [rwN_len, inb_lt hk h3, true_and]
  exact congrArg T (lg_rw hk)
theorem wo_aB {q k t : Nat} {T : Int32 → Prop} (ht : t = 0 ∨ t = 3) (h : LAY[q]? = some (.inl t)) (hk : k < ln q) : aB scr (wo f G J c) q (nI k) T = T (G q k) := by
  have h3 := ln_lt (q := q)
  unfold wo
  rw [aB_mk ht h]
  simp only [rwN_len, inb_lt hk h3, true_and]
  exact congrArg T (lg_rw hk)
theorem wo_aJ {q k : Nat} {T : Int64 → Prop} (h : LAY[q]? = some (.inl 2)) (hk : k < ln q) : aJ (wo f G J c) q (nI k) T = T (J q k) := by
  have h3 := ln_lt (q := q)
  unfold wo
  rw [aJ_mk h]
  simp only [rwN_len, inb_lt hk h3, true_and]
  exact congrArg T (lgJ_rw hk)
theorem wo_wI {q k : Nat} {v : Int32} {T : aH → Prop} (h : LAY[q]? = some (.inl 1)) (hk : k < ln q) : wI (wo f G J c) q (nI k) v T = T (wo f (up2 G q k v) J c) := by
  have h3 := ln_lt (q := q)
  unfold wo
  rw [wI_mk h]
  simp only [rwN_len, inb_lt hk h3, true_and]
  have e := up_rw (G := G) (v := v) hk
  unfold ls at e
  rw [e]
theorem wo_wB {q k : Nat} {v : Int32} {T : aH → Prop} (h : LAY[q]? = some (.inl 0)) (hk : k < ln q) : wB (wo f G J c) q (nI k) v T = T (wo f (up2 G q k v.toInt8.toInt32) J c) := by
  have h3 := ln_lt (q := q)
  unfold wo
  rw [wB_mk h]
  simp only [rwN_len, inb_lt hk h3, true_and]
  have e := up_rw (G := G) (v := v.toInt8.toInt32) hk
  unfold ls at e
  rw [e]
theorem wo_wZ {q k : Nat} {v : Int32} {T : aH → Prop} (h : LAY[q]? = some (.inl 3)) (hk : k < ln q) : wB (wo f G J c) q (nI k) v T = T (wo f (up2 G q k (v &&& 1)) J c) := by
  have h3 := ln_lt (q := q)
  unfold wo
  rw [wZ_mk h]
  simp only [rwN_len, inb_lt hk h3, true_and]
  have e := up_rw (G := G) (v := v &&& 1) hk
  unfold ls at e
  rw [e]
theorem wo_wJ {q k : Nat} {v : Int64} {T : aH → Prop} (h : LAY[q]? = some (.inl 2)) (hk : k < ln q) : wJ (wo f G J c) q (nI k) v T = T (wo f G (upJ J q k v) c) := by
  have h3 := ln_lt (q := q)
  unfold wo
  rw [wJ_mk h]
  simp only [rwN_len, inb_lt hk h3, true_and]
  have e := upJ_rw (J := J) (v := v) hk
  unfold lsJ at e
  rw [e]
theorem wo_aN {q t : Nat} {T : Nat → Prop} (ht : t < 4) (h2 : ¬ t = 2) (h : LAY[q]? = some (.inl t)) : aN scr (wo f G J c) q T = T (ln q) := by
  unfold wo
  rw [aN_mk ht h2 h]
  simp only [rwN_len]
theorem tO (scr : List Int32) : (∀ {T : Nat → Prop}, gR scr (wo f G J c) 0 8 0 T = T 1) ∧
  (∀ {T : Nat → Prop}, gR scr (wo f G J c) 0 8 1 T = T 3) ∧
  (∀ {T : Nat → Prop}, gR scr (wo f G J c) 0 8 2 T = T 13) ∧
  (∀ {T : Nat → Prop}, gR scr (wo f G J c) 0 8 3 T = T 23) ∧
  (∀ {T : Nat → Prop}, gR scr (wo f G J c) 0 8 4 T = T 24) ∧
  (∀ {T : Nat → Prop}, gR scr (wo f G J c) 0 8 5 T = T 25) ∧
  (∀ {T : Int32 → Prop}, gI scr (wo f G J c) 0 8 6 T = T (f 0 6)) ∧
  (∀ {v : Int32} {T : aH → Prop}, pF (wo f G J c) 0 8 6 (.int v) T = T (wo (up2 f 0 6 v) G J c)) ∧
  (∀ {T : Nat → Prop}, gR scr (wo f G J c) 0 8 7 T = T 50) ∧
  (∀ {T : Nat → Prop}, gR scr (wo f G J c) 0 8 8 T = T 55) ∧
  (∀ {T : Nat → Prop}, gR scr (wo f G J c) 0 8 9 T = T 59) ∧
  (∀ {T : Nat → Prop}, gR scr (wo f G J c) 0 8 10 T = T 83) ∧
  (∀ {T : Nat → Prop}, gR scr (wo f G J c) 0 8 11 T = T 124) ∧
  (∀ {k : Nat} {T : Int32 → Prop} (hk : k < 4), aB scr (wo f G J c) 124 (nI k) T = T (G 124 k)) ∧
  (∀ {k : Nat} {v : Int32} {T : aH → Prop} (hk : k < 4), wB (wo f G J c) 124 (nI k) v T = T (wo f (up2 G 124 k (v &&& 1)) J c)) := by
  refine ⟨?_, ?_, ?_, ?_, ?_, ?_, ?_, ?_, ?_, ?_, ?_, ?_, ?_, ?_, ?_⟩
  · unfold wo; intros; exact r_top_tape
  · unfold wo; intros; exact r_top_now
  · unfold wo; intros; exact r_top_draft
  · unfold wo; intros; exact r_top_plainReader
  · unfold wo; intros; exact r_top_lawReader
  · unfold wo; intros; exact r_top_laws
  · unfold wo; intros; exact i_top_lawCount
  · unfold wo; intros; exact p_top_lawCount
  · unfold wo; intros; exact r_top_ground
  · unfold wo; intros; exact r_top_walker
  · unfold wo; intros; exact r_top_planner
  · unfold wo; intros; exact r_top_images
  · unfold wo; intros; exact r_top_made
  · intro k T hk; exact wo_aB (t := 3) (by decide) (A_top_made) hk
  · intro k v T hk; exact wo_wZ (A_top_made) hk
theorem tA (scr : List Int32) : (∀ {T : Nat → Prop}, gR scr (wo f G J c) 1 6 0 T = T 2) ∧
  (∀ {T : Int32 → Prop}, gI scr (wo f G J c) 1 6 1 T = T (f 1 1)) ∧
  (∀ {v : Int32} {T : aH → Prop}, pF (wo f G J c) 1 6 1 (.int v) T = T (wo (up2 f 1 1 v) G J c)) ∧
  (∀ {T : Int32 → Prop}, gI scr (wo f G J c) 1 6 2 T = T (f 1 2)) ∧
  (∀ {v : Int32} {T : aH → Prop}, pF (wo f G J c) 1 6 2 (.int v) T = T (wo (up2 f 1 2 v) G J c)) ∧
  (∀ {T : Int32 → Prop}, gI scr (wo f G J c) 1 6 3 T = T (f 1 3)) ∧
  (∀ {v : Int32} {T : aH → Prop}, pF (wo f G J c) 1 6 3 (.int v) T = T (wo (up2 f 1 3 v) G J c)) ∧
  (∀ {k : Nat} {T : Int32 → Prop} (hk : k < 400), aB scr (wo f G J c) 2 (nI k) T = T (G 2 k)) ∧
  (∀ {k : Nat} {v : Int32} {T : aH → Prop} (hk : k < 400), wB (wo f G J c) 2 (nI k) v T = T (wo f (up2 G 2 k v.toInt8.toInt32) J c)) := by
  refine ⟨?_, ?_, ?_, ?_, ?_, ?_, ?_, ?_, ?_⟩
  · unfold wo; intros; exact r_tape_bytes
  · unfold wo; intros; exact i_tape_length
  · unfold wo; intros; exact p_tape_length
  · unfold wo; intros; exact i_tape_place
  · unfold wo; intros; exact p_tape_place
  · unfold wo; intros; exact i_tape_fault
  · unfold wo; intros; exact p_tape_fault
  · intro k T hk; exact wo_aB (t := 0) (by decide) (A_tape_bytes) hk
  · intro k v T hk; exact wo_wB (A_tape_bytes) hk
theorem sC (scr : List Int32) {p : Nat} (hp : isSc p) : (∀ {T : Int32 → Prop}, gI scr (wo f G J c) p 5 0 T = T (f p 0)) ∧
  (∀ {v : Int32} {T : aH → Prop}, pF (wo f G J c) p 5 0 (.int v) T = T (wo (up2 f p 0 v) G J c)) ∧
  (∀ {T : Int32 → Prop}, gI scr (wo f G J c) p 5 1 T = T (f p 1)) ∧
  (∀ {v : Int32} {T : aH → Prop}, pF (wo f G J c) p 5 1 (.int v) T = T (wo (up2 f p 1 v) G J c)) ∧
  (∀ {T : Int32 → Prop}, gI scr (wo f G J c) p 5 2 T = T (f p 2)) ∧
  (∀ {v : Int32} {T : aH → Prop}, pF (wo f G J c) p 5 2 (.int v) T = T (wo (up2 f p 2 v) G J c)) ∧
  (∀ {T : Int32 → Prop}, gI scr (wo f G J c) p 5 3 T = T (f p 3)) ∧
  (∀ {v : Int32} {T : aH → Prop}, pF (wo f G J c) p 5 3 (.int v) T = T (wo (up2 f p 3 v) G J c)) ∧
  (∀ {T : Int32 → Prop}, gI scr (wo f G J c) p 5 4 T = T (f p 4)) ∧
  (∀ {v : Int32} {T : aH → Prop}, pF (wo f G J c) p 5 4 (.int v) T = T (wo (up2 f p 4 v) G J c)) ∧
  (∀ {T : Int32 → Prop}, gI scr (wo f G J c) p 5 5 T = T (f p 5)) ∧
  (∀ {v : Int32} {T : aH → Prop}, pF (wo f G J c) p 5 5 (.int v) T = T (wo (up2 f p 5 v) G J c)) ∧
  (∀ {T : Int32 → Prop}, gI scr (wo f G J c) p 5 6 T = T (f p 6)) ∧
  (∀ {v : Int32} {T : aH → Prop}, pF (wo f G J c) p 5 6 (.int v) T = T (wo (up2 f p 6 v) G J c)) ∧
  (∀ {T : Int32 → Prop}, gI scr (wo f G J c) p 5 7 T = T (f p 7)) ∧
  (∀ {v : Int32} {T : aH → Prop}, pF (wo f G J c) p 5 7 (.int v) T = T (wo (up2 f p 7 v) G J c)) ∧
  (∀ {T : Nat → Prop}, gR scr (wo f G J c) p 5 8 T = T (p + 1)) ∧
  (∀ {T : Nat → Prop}, gR scr (wo f G J c) p 5 9 T = T (p + 2)) ∧
  (∀ {T : Nat → Prop}, gR scr (wo f G J c) p 5 10 T = T (p + 3)) ∧
  (∀ {T : Nat → Prop}, gR scr (wo f G J c) p 5 11 T = T (p + 4)) ∧
  (∀ {T : Nat → Prop}, gR scr (wo f G J c) p 5 12 T = T (p + 5)) ∧
  (∀ {T : Nat → Prop}, gR scr (wo f G J c) p 5 13 T = T (p + 6)) ∧
  (∀ {T : Nat → Prop}, gR scr (wo f G J c) p 5 14 T = T (p + 7)) ∧
  (∀ {T : Nat → Prop}, gR scr (wo f G J c) p 5 15 T = T (p + 8)) ∧
  (∀ {T : Nat → Prop}, gR scr (wo f G J c) p 5 16 T = T (p + 9)) ∧
  (∀ {k : Nat} {T : Int32 → Prop} (hk : k < 144), aB scr (wo f G J c) (p + 1) (nI k) T = T (G (p + 1) k)) ∧
  (∀ {k : Nat} {v : Int32} {T : aH → Prop} (hk : k < 144), wB (wo f G J c) (p + 1) (nI k) v T = T (wo f (up2 G (p + 1) k v.toInt8.toInt32) J c)) ∧
  (∀ {k : Nat} {T : Int32 → Prop} (hk : k < 144), aB scr (wo f G J c) (p + 2) (nI k) T = T (G (p + 2) k)) ∧
  (∀ {k : Nat} {v : Int32} {T : aH → Prop} (hk : k < 144), wB (wo f G J c) (p + 2) (nI k) v T = T (wo f (up2 G (p + 2) k v.toInt8.toInt32) J c)) ∧
  (∀ {k : Nat} {T : Int32 → Prop} (hk : k < 14), aI scr (wo f G J c) (p + 3) (nI k) T = T (G (p + 3) k)) ∧
  (∀ {k : Nat} {v : Int32} {T : aH → Prop} (hk : k < 14), wI (wo f G J c) (p + 3) (nI k) v T = T (wo f (up2 G (p + 3) k v) J c)) ∧
  (∀ {k : Nat} {T : Int32 → Prop} (hk : k < 12), aI scr (wo f G J c) (p + 4) (nI k) T = T (G (p + 4) k)) ∧
  (∀ {k : Nat} {v : Int32} {T : aH → Prop} (hk : k < 12), wI (wo f G J c) (p + 4) (nI k) v T = T (wo f (up2 G (p + 4) k v) J c)) ∧
  (∀ {k : Nat} {T : Int32 → Prop} (hk : k < 12), aI scr (wo f G J c) (p + 5) (nI k) T = T (G (p + 5) k)) ∧
  (∀ {k : Nat} {v : Int32} {T : aH → Prop} (hk : k < 12), wI (wo f G J c) (p + 5) (nI k) v T = T (wo f (up2 G (p + 5) k v) J c)) ∧
  (∀ {k : Nat} {T : Int32 → Prop} (hk : k < 12), aI scr (wo f G J c) (p + 6) (nI k) T = T (G (p + 6) k)) ∧
  (∀ {k : Nat} {v : Int32} {T : aH → Prop} (hk : k < 12), wI (wo f G J c) (p + 6) (nI k) v T = T (wo f (up2 G (p + 6) k v) J c)) ∧
  (∀ {k : Nat} {T : Int32 → Prop} (hk : k < 40), aI scr (wo f G J c) (p + 7) (nI k) T = T (G (p + 7) k)) ∧
  (∀ {k : Nat} {v : Int32} {T : aH → Prop} (hk : k < 40), wI (wo f G J c) (p + 7) (nI k) v T = T (wo f (up2 G (p + 7) k v) J c)) ∧
  (∀ {k : Nat} {T : Int32 → Prop} (hk : k < 40), aI scr (wo f G J c) (p + 8) (nI k) T = T (G (p + 8) k)) ∧
  (∀ {k : Nat} {v : Int32} {T : aH → Prop} (hk : k < 40), wI (wo f G J c) (p + 8) (nI k) v T = T (wo f (up2 G (p + 8) k v) J c)) ∧
  (∀ {k : Nat} {T : Int32 → Prop} (hk : k < 40), aI scr (wo f G J c) (p + 9) (nI k) T = T (G (p + 9) k)) ∧
  (∀ {k : Nat} {v : Int32} {T : aH → Prop} (hk : k < 40), wI (wo f G J c) (p + 9) (nI k) v T = T (wo f (up2 G (p + 9) k v) J c)) := by
  refine ⟨?_, ?_, ?_, ?_, ?_, ?_, ?_, ?_, ?_, ?_, ?_, ?_, ?_, ?_, ?_, ?_, ?_, ?_, ?_, ?_, ?_, ?_, ?_, ?_, ?_, ?_, ?_, ?_, ?_, ?_, ?_, ?_, ?_, ?_, ?_, ?_, ?_, ?_, ?_, ?_, ?_, ?_, ?_⟩
  · unfold wo; intros; exact i_sc_columns hp
  · unfold wo; intros; exact p_sc_columns hp
  · unfold wo; intros; exact i_sc_rows hp
  · unfold wo; intros; exact p_sc_rows hp
  · unfold wo; intros; exact i_sc_gates hp
  · unfold wo; intros; exact p_sc_gates hp
  · unfold wo; intros; exact i_sc_people hp
  · unfold wo; intros; exact p_sc_people hp
  · unfold wo; intros; exact i_sc_heralds hp
  · unfold wo; intros; exact p_sc_heralds hp
  · unfold wo; intros; exact i_sc_steps hp
  · unfold wo; intros; exact p_sc_steps hp
  · unfold wo; intros; exact i_sc_outCount hp
  · unfold wo; intros; exact p_sc_outCount hp
  · unfold wo; intros; exact i_sc_spoors hp
  · unfold wo; intros; exact p_sc_spoors hp
  · unfold wo; intros; exact r_sc_kinds hp
  · unfold wo; intros; exact r_sc_standing hp
  · unfold wo; intros; exact r_sc_at hp
  · unfold wo; intros; exact r_sc_age hp
  · unfold wo; intros; exact r_sc_sort hp
  · unfold wo; intros; exact r_sc_out hp
  · unfold wo; intros; exact r_sc_spoorStep hp
  · unfold wo; intros; exact r_sc_spoorPerson hp
  · unfold wo; intros; exact r_sc_spoorOther hp
  · intro k T hk; exact wo_aB (t := 0) (by decide) (A_sc_kinds hp) (by rcases hp with rfl | rfl | rfl | rfl | rfl | rfl | rfl | rfl <;> exact hk)
  · intro k v T hk; exact wo_wB (A_sc_kinds hp) (by rcases hp with rfl | rfl | rfl | rfl | rfl | rfl | rfl | rfl <;> exact hk)
  · intro k T hk; exact wo_aB (t := 0) (by decide) (A_sc_standing hp) (by rcases hp with rfl | rfl | rfl | rfl | rfl | rfl | rfl | rfl <;> exact hk)
  · intro k v T hk; exact wo_wB (A_sc_standing hp) (by rcases hp with rfl | rfl | rfl | rfl | rfl | rfl | rfl | rfl <;> exact hk)
  · intro k T hk; exact wo_aI (A_sc_at hp) (by rcases hp with rfl | rfl | rfl | rfl | rfl | rfl | rfl | rfl <;> exact hk)
  · intro k v T hk; exact wo_wI (A_sc_at hp) (by rcases hp with rfl | rfl | rfl | rfl | rfl | rfl | rfl | rfl <;> exact hk)
  · intro k T hk; exact wo_aI (A_sc_age hp) (by rcases hp with rfl | rfl | rfl | rfl | rfl | rfl | rfl | rfl <;> exact hk)
  · intro k v T hk; exact wo_wI (A_sc_age hp) (by rcases hp with rfl | rfl | rfl | rfl | rfl | rfl | rfl | rfl <;> exact hk)
  · intro k T hk; exact wo_aI (A_sc_sort hp) (by rcases hp with rfl | rfl | rfl | rfl | rfl | rfl | rfl | rfl <;> exact hk)
  · intro k v T hk; exact wo_wI (A_sc_sort hp) (by rcases hp with rfl | rfl | rfl | rfl | rfl | rfl | rfl | rfl <;> exact hk)
  · intro k T hk; exact wo_aI (A_sc_out hp) (by rcases hp with rfl | rfl | rfl | rfl | rfl | rfl | rfl | rfl <;> exact hk)
  · intro k v T hk; exact wo_wI (A_sc_out hp) (by rcases hp with rfl | rfl | rfl | rfl | rfl | rfl | rfl | rfl <;> exact hk)
  · intro k T hk; exact wo_aI (A_sc_spoorStep hp) (by rcases hp with rfl | rfl | rfl | rfl | rfl | rfl | rfl | rfl <;> exact hk)
  · intro k v T hk; exact wo_wI (A_sc_spoorStep hp) (by rcases hp with rfl | rfl | rfl | rfl | rfl | rfl | rfl | rfl <;> exact hk)
  · intro k T hk; exact wo_aI (A_sc_spoorPerson hp) (by rcases hp with rfl | rfl | rfl | rfl | rfl | rfl | rfl | rfl <;> exact hk)
  · intro k v T hk; exact wo_wI (A_sc_spoorPerson hp) (by rcases hp with rfl | rfl | rfl | rfl | rfl | rfl | rfl | rfl <;> exact hk)
  · intro k T hk; exact wo_aI (A_sc_spoorOther hp) (by rcases hp with rfl | rfl | rfl | rfl | rfl | rfl | rfl | rfl <;> exact hk)
  · intro k v T hk; exact wo_wI (A_sc_spoorOther hp) (by rcases hp with rfl | rfl | rfl | rfl | rfl | rfl | rfl | rfl <;> exact hk)
theorem pRr (scr : List Int32) : (∀ {T : Nat → Prop}, gR scr (wo f G J c) 23 3 0 T = T 1) ∧
  (∀ {T : Nat → Prop}, gR scr (wo f G J c) 23 3 1 T = T 13) := by
  refine ⟨?_, ?_⟩
  · unfold wo; intros; exact r_pr_tape
  · unfold wo; intros; exact r_pr_scene
theorem lRr (scr : List Int32) : (∀ {T : Nat → Prop}, gR scr (wo f G J c) 24 2 0 T = T 1) ∧
  (∀ {T : Int32 → Prop}, gI scr (wo f G J c) 24 2 2 T = T (f 24 2)) ∧
  (∀ {v : Int32} {T : aH → Prop}, pF (wo f G J c) 24 2 2 (.int v) T = T (wo (up2 f 24 2 v) G J c)) := by
  refine ⟨?_, ?_, ?_⟩
  · unfold wo; intros; exact r_lr_tape
  · unfold wo; intros; exact i_lr_size
  · unfold wo; intros; exact p_lr_size
theorem lW (scr : List Int32) {p : Nat} (hp : isLw p) : (∀ {T : Int32 → Prop}, gI scr (wo f G J c) p 1 0 T = T (f p 0)) ∧
  (∀ {v : Int32} {T : aH → Prop}, pF (wo f G J c) p 1 0 (.int v) T = T (wo (up2 f p 0 v) G J c)) ∧
  (∀ {T : Nat → Prop}, gR scr (wo f G J c) p 1 1 T = T (p + 1)) ∧
  (∀ {T : Nat → Prop}, gR scr (wo f G J c) p 1 2 T = T (p + 2)) ∧
  (∀ {T : Int32 → Prop}, gI scr (wo f G J c) p 1 3 T = T (f p 3)) ∧
  (∀ {v : Int32} {T : aH → Prop}, pF (wo f G J c) p 1 3 (.int v) T = T (wo (up2 f p 3 v) G J c)) ∧
  (∀ {T : Nat → Prop}, gR scr (wo f G J c) p 1 4 T = T (p + 3)) ∧
  (∀ {k : Nat} {T : Int32 → Prop} (hk : k < 12), aI scr (wo f G J c) (p + 1) (nI k) T = T (G (p + 1) k)) ∧
  (∀ {k : Nat} {v : Int32} {T : aH → Prop} (hk : k < 12), wI (wo f G J c) (p + 1) (nI k) v T = T (wo f (up2 G (p + 1) k v) J c)) ∧
  (∀ {k : Nat} {T : Int32 → Prop} (hk : k < 12), aI scr (wo f G J c) (p + 2) (nI k) T = T (G (p + 2) k)) ∧
  (∀ {k : Nat} {v : Int32} {T : aH → Prop} (hk : k < 12), wI (wo f G J c) (p + 2) (nI k) v T = T (wo f (up2 G (p + 2) k v) J c)) ∧
  (∀ {k : Nat} {T : Int32 → Prop} (hk : k < 400), aI scr (wo f G J c) (p + 3) (nI k) T = T (G (p + 3) k)) ∧
  (∀ {k : Nat} {v : Int32} {T : aH → Prop} (hk : k < 400), wI (wo f G J c) (p + 3) (nI k) v T = T (wo f (up2 G (p + 3) k v) J c)) := by
  refine ⟨?_, ?_, ?_, ?_, ?_, ?_, ?_, ?_, ?_, ?_, ?_, ?_, ?_⟩
  · unfold wo; intros; exact i_lw_clauses hp
  · unfold wo; intros; exact p_lw_clauses hp
  · unfold wo; intros; exact r_lw_places hp
  · unfold wo; intros; exact r_lw_testEnds hp
  · unfold wo; intros; exact i_lw_length hp
  · unfold wo; intros; exact p_lw_length hp
  · unfold wo; intros; exact r_lw_code hp
  · intro k T hk; exact wo_aI (A_lw_places hp) (by rcases hp with rfl | rfl | rfl | rfl | rfl | rfl <;> exact hk)
  · intro k v T hk; exact wo_wI (A_lw_places hp) (by rcases hp with rfl | rfl | rfl | rfl | rfl | rfl <;> exact hk)
  · intro k T hk; exact wo_aI (A_lw_testEnds hp) (by rcases hp with rfl | rfl | rfl | rfl | rfl | rfl <;> exact hk)
  · intro k v T hk; exact wo_wI (A_lw_testEnds hp) (by rcases hp with rfl | rfl | rfl | rfl | rfl | rfl <;> exact hk)
  · intro k T hk; exact wo_aI (A_lw_code hp) (by rcases hp with rfl | rfl | rfl | rfl | rfl | rfl <;> exact hk)
  · intro k v T hk; exact wo_wI (A_lw_code hp) (by rcases hp with rfl | rfl | rfl | rfl | rfl | rfl <;> exact hk)
theorem gRr (scr : List Int32) : (∀ {T : Nat → Prop}, gR scr (wo f G J c) 50 0 0 T = T 51) ∧
  (∀ {T : Nat → Prop}, gR scr (wo f G J c) 50 0 1 T = T 52) ∧
  (∀ {T : Nat → Prop}, gR scr (wo f G J c) 50 0 2 T = T 53) ∧
  (∀ {T : Nat → Prop}, gR scr (wo f G J c) 50 0 3 T = T 54) ∧
  (∀ {k : Nat} {T : Int32 → Prop} (hk : k < 144), aI scr (wo f G J c) 51 (nI k) T = T (G 51 k)) ∧
  (∀ {k : Nat} {v : Int32} {T : aH → Prop} (hk : k < 144), wI (wo f G J c) 51 (nI k) v T = T (wo f (up2 G 51 k v) J c)) ∧
  (∀ {k : Nat} {T : Int32 → Prop} (hk : k < 144), aI scr (wo f G J c) 52 (nI k) T = T (G 52 k)) ∧
  (∀ {k : Nat} {v : Int32} {T : aH → Prop} (hk : k < 144), wI (wo f G J c) 52 (nI k) v T = T (wo f (up2 G 52 k v) J c)) ∧
  (∀ {k : Nat} {T : Int64 → Prop} (hk : k < 432), aJ (wo f G J c) 53 (nI k) T = T (J 53 k)) ∧
  (∀ {k : Nat} {v : Int64} {T : aH → Prop} (hk : k < 432), wJ (wo f G J c) 53 (nI k) v T = T (wo f G (upJ J 53 k v) c)) ∧
  (∀ {k : Nat} {T : Int64 → Prop} (hk : k < 432), aJ (wo f G J c) 54 (nI k) T = T (J 54 k)) ∧
  (∀ {k : Nat} {v : Int64} {T : aH → Prop} (hk : k < 432), wJ (wo f G J c) 54 (nI k) v T = T (wo f G (upJ J 54 k v) c)) := by
  refine ⟨?_, ?_, ?_, ?_, ?_, ?_, ?_, ?_, ?_, ?_, ?_, ?_⟩
  · unfold wo; intros; exact r_gr_toGate
  · unfold wo; intros; exact r_gr_queue
  · unfold wo; intros; exact r_gr_known
  · unfold wo; intros; exact r_gr_clear
  · intro k T hk; exact wo_aI (A_gr_toGate) hk
  · intro k v T hk; exact wo_wI (A_gr_toGate) hk
  · intro k T hk; exact wo_aI (A_gr_queue) hk
  · intro k v T hk; exact wo_wI (A_gr_queue) hk
  · intro k T hk; exact wo_aJ (A_gr_known) hk
  · intro k v T hk; exact wo_wJ (A_gr_known) hk
  · intro k T hk; exact wo_aJ (A_gr_clear) hk
  · intro k v T hk; exact wo_wJ (A_gr_clear) hk
theorem wK (scr : List Int32) : (∀ {T : Nat → Prop}, gR scr (wo f G J c) 55 7 0 T = T 50) ∧
  (∀ {T : Nat → Prop}, gR scr (wo f G J c) 55 7 1 T = T 56) ∧
  (∀ {T : Nat → Prop}, gR scr (wo f G J c) 55 7 2 T = T 57) ∧
  (∀ {T : Int32 → Prop}, gI scr (wo f G J c) 55 7 3 T = T (f 55 3)) ∧
  (∀ {v : Int32} {T : aH → Prop}, pF (wo f G J c) 55 7 3 (.int v) T = T (wo (up2 f 55 3 v) G J c)) ∧
  (∀ {T : Int32 → Prop}, gI scr (wo f G J c) 55 7 4 T = T (f 55 4)) ∧
  (∀ {v : Int32} {T : aH → Prop}, pF (wo f G J c) 55 7 4 (.int v) T = T (wo (up2 f 55 4 v) G J c)) ∧
  (∀ {T : Int32 → Prop}, gI scr (wo f G J c) 55 7 5 T = T (f 55 5)) ∧
  (∀ {v : Int32} {T : aH → Prop}, pF (wo f G J c) 55 7 5 (.int v) T = T (wo (up2 f 55 5 v) G J c)) ∧
  (∀ {T : Nat → Prop}, gR scr (wo f G J c) 55 7 6 T = T 58) ∧
  (∀ {T : Int32 → Prop}, gI scr (wo f G J c) 55 7 7 T = T (f 55 7)) ∧
  (∀ {v : Int32} {T : aH → Prop}, pF (wo f G J c) 55 7 7 (.int v) T = T (wo (up2 f 55 7 v) G J c)) ∧
  (∀ {k : Nat} {T : Int64 → Prop} (hk : k < 64), aJ (wo f G J c) 56 (nI k) T = T (J 56 k)) ∧
  (∀ {k : Nat} {v : Int64} {T : aH → Prop} (hk : k < 64), wJ (wo f G J c) 56 (nI k) v T = T (wo f G (upJ J 56 k v) c)) ∧
  (∀ {k : Nat} {T : Int32 → Prop} (hk : k < 14), aI scr (wo f G J c) 57 (nI k) T = T (G 57 k)) ∧
  (∀ {k : Nat} {v : Int32} {T : aH → Prop} (hk : k < 14), wI (wo f G J c) 57 (nI k) v T = T (wo f (up2 G 57 k v) J c)) ∧
  (∀ {k : Nat} {T : Int32 → Prop} (hk : k < 12), aI scr (wo f G J c) 58 (nI k) T = T (G 58 k)) ∧
  (∀ {k : Nat} {v : Int32} {T : aH → Prop} (hk : k < 12), wI (wo f G J c) 58 (nI k) v T = T (wo f (up2 G 58 k v) J c)) := by
  refine ⟨?_, ?_, ?_, ?_, ?_, ?_, ?_, ?_, ?_, ?_, ?_, ?_, ?_, ?_, ?_, ?_, ?_, ?_⟩
  · unfold wo; intros; exact r_wk_ground
  · unfold wo; intros; exact r_wk_stack
  · unfold wo; intros; exact r_wk_order
  · unfold wo; intros; exact i_wk_sighted
  · unfold wo; intros; exact p_wk_sighted
  · unfold wo; intros; exact i_wk_beside
  · unfold wo; intros; exact p_wk_beside
  · unfold wo; intros; exact i_wk_elder
  · unfold wo; intros; exact p_wk_elder
  · unfold wo; intros; exact r_wk_followed
  · unfold wo; intros; exact i_wk_went
  · unfold wo; intros; exact p_wk_went
  · intro k T hk; exact wo_aJ (A_wk_stack) hk
  · intro k v T hk; exact wo_wJ (A_wk_stack) hk
  · intro k T hk; exact wo_aI (A_wk_order) hk
  · intro k v T hk; exact wo_wI (A_wk_order) hk
  · intro k T hk; exact wo_aI (A_wk_followed) hk
  · intro k v T hk; exact wo_wI (A_wk_followed) hk
theorem pLr (scr : List Int32) : (∀ {T : Nat → Prop}, gR scr (wo f G J c) 59 4 0 T = T 3) ∧
  (∀ {T : Nat → Prop}, gR scr (wo f G J c) 59 4 1 T = T 55) ∧
  (∀ {T : Nat → Prop}, gR scr (wo f G J c) 59 4 2 T = T 50) ∧
  (∀ {T : Nat → Prop}, gR scr (wo f G J c) 59 4 3 T = T 60) ∧
  (∀ {T : Nat → Prop}, gR scr (wo f G J c) 59 4 4 T = T 70) ∧
  (∀ {T : Nat → Prop}, gR scr (wo f G J c) 59 4 5 T = T 80) ∧
  (∀ {T : Nat → Prop}, gR scr (wo f G J c) 59 4 6 T = T 81) ∧
  (∀ {T : Nat → Prop}, gR scr (wo f G J c) 59 4 7 T = T 82) ∧
  (∀ {k : Nat} {T : Int64 → Prop} (hk : k < 401), aJ (wo f G J c) 80 (nI k) T = T (J 80 k)) ∧
  (∀ {k : Nat} {v : Int64} {T : aH → Prop} (hk : k < 401), wJ (wo f G J c) 80 (nI k) v T = T (wo f G (upJ J 80 k v) c)) ∧
  (∀ {k : Nat} {T : Int64 → Prop} (hk : k < 401), aJ (wo f G J c) 81 (nI k) T = T (J 81 k)) ∧
  (∀ {k : Nat} {v : Int64} {T : aH → Prop} (hk : k < 401), wJ (wo f G J c) 81 (nI k) v T = T (wo f G (upJ J 81 k v) c)) ∧
  (∀ {k : Nat} {T : Int32 → Prop} (hk : k < 12), aI scr (wo f G J c) 82 (nI k) T = T (G 82 k)) ∧
  (∀ {k : Nat} {v : Int32} {T : aH → Prop} (hk : k < 12), wI (wo f G J c) 82 (nI k) v T = T (wo f (up2 G 82 k v) J c)) := by
  refine ⟨?_, ?_, ?_, ?_, ?_, ?_, ?_, ?_, ?_, ?_, ?_, ?_, ?_, ?_⟩
  · unfold wo; intros; exact r_pl_now
  · unfold wo; intros; exact r_pl_walker
  · unfold wo; intros; exact r_pl_ground
  · unfold wo; intros; exact r_pl_trial
  · unfold wo; intros; exact r_pl_usual
  · unfold wo; intros; exact r_pl_firstEight
  · unfold wo; intros; exact r_pl_others
  · unfold wo; intros; exact r_pl_there
  · intro k T hk; exact wo_aJ (A_pl_firstEight) hk
  · intro k v T hk; exact wo_wJ (A_pl_firstEight) hk
  · intro k T hk; exact wo_aJ (A_pl_others) hk
  · intro k v T hk; exact wo_wJ (A_pl_others) hk
  · intro k T hk; exact wo_aI (A_pl_there) hk
  · intro k v T hk; exact wo_wI (A_pl_there) hk
theorem mO (scr : List Int32) : (∀ {T : Int32 → Prop}, gI scr (wo f G J c) 125 9 0 T = T (f 125 0)) ∧
  (∀ {v : Int32} {T : aH → Prop}, pF (wo f G J c) 125 9 0 (.int v) T = T (wo (up2 f 125 0 v) G J c)) ∧
  (∀ {T : Nat → Prop}, gR scr (wo f G J c) 125 9 1 T = T 126) ∧
  (∀ {T : Nat → Prop}, gR scr (wo f G J c) 125 9 2 T = T 127) ∧
  (∀ {T : Nat → Prop}, gR scr (wo f G J c) 125 9 3 T = T 128) ∧
  (∀ {T : Nat → Prop}, gR scr (wo f G J c) 125 9 4 T = T 129) ∧
  (∀ {T : Nat → Prop}, gR scr (wo f G J c) 125 9 5 T = T 130) ∧
  (∀ {T : Nat → Prop}, gR scr (wo f G J c) 125 9 6 T = T 131) ∧
  (∀ {T : Nat → Prop}, gR scr (wo f G J c) 125 9 7 T = T 132) ∧
  (∀ {T : Nat → Prop}, gR scr (wo f G J c) 125 9 8 T = T 133) ∧
  (∀ {T : Nat → Prop}, gR scr (wo f G J c) 125 9 9 T = T 134) ∧
  (∀ {T : Nat → Prop}, gR scr (wo f G J c) 125 9 10 T = T 135) ∧
  (∀ {T : Nat → Prop}, gR scr (wo f G J c) 125 9 11 T = T 136) ∧
  (∀ {T : Nat → Prop}, gR scr (wo f G J c) 125 9 12 T = T 137) ∧
  (∀ {T : Nat → Prop}, gR scr (wo f G J c) 125 9 13 T = T 138) ∧
  (∀ {T : Nat → Prop}, gR scr (wo f G J c) 125 9 14 T = T 139) ∧
  (∀ {T : Nat → Prop}, gR scr (wo f G J c) 125 9 15 T = T 140) ∧
  (∀ {T : Nat → Prop}, gR scr (wo f G J c) 125 9 16 T = T 141) ∧
  (∀ {T : Nat → Prop}, gR scr (wo f G J c) 125 9 17 T = T 142) ∧
  (∀ {T : Int32 → Prop}, gI scr (wo f G J c) 125 9 18 T = T (f 125 18)) ∧
  (∀ {v : Int32} {T : aH → Prop}, pF (wo f G J c) 125 9 18 (.int v) T = T (wo (up2 f 125 18 v) G J c)) ∧
  (∀ {T : Int32 → Prop}, gI scr (wo f G J c) 125 9 19 T = T (f 125 19)) ∧
  (∀ {v : Int32} {T : aH → Prop}, pF (wo f G J c) 125 9 19 (.int v) T = T (wo (up2 f 125 19 v) G J c)) ∧
  (∀ {T : Int32 → Prop}, gI scr (wo f G J c) 125 9 20 T = T (f 125 20)) ∧
  (∀ {v : Int32} {T : aH → Prop}, pF (wo f G J c) 125 9 20 (.int v) T = T (wo (up2 f 125 20 v) G J c)) ∧
  (∀ {T : Int32 → Prop}, gI scr (wo f G J c) 125 9 21 T = T (f 125 21)) ∧
  (∀ {v : Int32} {T : aH → Prop}, pF (wo f G J c) 125 9 21 (.int v) T = T (wo (up2 f 125 21 v) G J c)) ∧
  (∀ {T : Int32 → Prop}, gI scr (wo f G J c) 125 9 22 T = T (f 125 22)) ∧
  (∀ {v : Int32} {T : aH → Prop}, pF (wo f G J c) 125 9 22 (.int v) T = T (wo (up2 f 125 22 v) G J c)) ∧
  (∀ {T : Int32 → Prop}, gI scr (wo f G J c) 125 9 23 T = T (f 125 23)) ∧
  (∀ {v : Int32} {T : aH → Prop}, pF (wo f G J c) 125 9 23 (.int v) T = T (wo (up2 f 125 23 v) G J c)) ∧
  (∀ {T : Int32 → Prop}, gI scr (wo f G J c) 125 9 24 T = T (f 125 24)) ∧
  (∀ {v : Int32} {T : aH → Prop}, pF (wo f G J c) 125 9 24 (.int v) T = T (wo (up2 f 125 24 v) G J c)) ∧
  (∀ {T : Int32 → Prop}, gI scr (wo f G J c) 125 9 25 T = T (f 125 25)) ∧
  (∀ {v : Int32} {T : aH → Prop}, pF (wo f G J c) 125 9 25 (.int v) T = T (wo (up2 f 125 25 v) G J c)) ∧
  (∀ {T : Int32 → Prop}, gI scr (wo f G J c) 125 9 26 T = T (f 125 26)) ∧
  (∀ {v : Int32} {T : aH → Prop}, pF (wo f G J c) 125 9 26 (.int v) T = T (wo (up2 f 125 26 v) G J c)) ∧
  (∀ {T : Int32 → Prop}, gI scr (wo f G J c) 125 9 27 T = T (f 125 27)) ∧
  (∀ {v : Int32} {T : aH → Prop}, pF (wo f G J c) 125 9 27 (.int v) T = T (wo (up2 f 125 27 v) G J c)) ∧
  (∀ {T : Int32 → Prop}, gI scr (wo f G J c) 125 9 28 T = T (f 125 28)) ∧
  (∀ {v : Int32} {T : aH → Prop}, pF (wo f G J c) 125 9 28 (.int v) T = T (wo (up2 f 125 28 v) G J c)) ∧
  (∀ {T : Nat → Prop}, gR scr (wo f G J c) 125 9 29 T = T 143) ∧
  (∀ {T : Nat → Prop}, gR scr (wo f G J c) 125 9 30 T = T 144) ∧
  (∀ {T : Nat → Prop}, gR scr (wo f G J c) 125 9 31 T = T 145) ∧
  (∀ {T : Nat → Prop}, gR scr (wo f G J c) 125 9 32 T = T 146) ∧
  (∀ {T : Nat → Prop}, gR scr (wo f G J c) 125 9 33 T = T 147) ∧
  (∀ {T : Nat → Prop}, gR scr (wo f G J c) 125 9 34 T = T 148) ∧
  (∀ {T : Nat → Prop}, gR scr (wo f G J c) 125 9 35 T = T 149) ∧
  (∀ {T : Nat → Prop}, gR scr (wo f G J c) 125 9 36 T = T 150) ∧
  (∀ {T : Nat → Prop}, gR scr (wo f G J c) 125 9 37 T = T 151) ∧
  (∀ {T : Nat → Prop}, gR scr (wo f G J c) 125 9 38 T = T 152) ∧
  (∀ {T : Nat → Prop}, gR scr (wo f G J c) 125 9 39 T = T 153) ∧
  (∀ {T : Int32 → Prop}, gI scr (wo f G J c) 125 9 40 T = T (f 125 40)) ∧
  (∀ {v : Int32} {T : aH → Prop}, pF (wo f G J c) 125 9 40 (.int v) T = T (wo (up2 f 125 40 v) G J c)) ∧
  (∀ {T : Nat → Prop}, gR scr (wo f G J c) 125 9 41 T = T 154) ∧
  (∀ {T : Nat → Prop}, gR scr (wo f G J c) 125 9 42 T = T 155) ∧
  (∀ {T : Nat → Prop}, gR scr (wo f G J c) 125 9 43 T = T 156) ∧
  (∀ {T : Nat → Prop}, gR scr (wo f G J c) 125 9 44 T = T 157) ∧
  (∀ {T : Nat → Prop}, gR scr (wo f G J c) 125 9 45 T = T 158) ∧
  (∀ {T : Nat → Prop}, gR scr (wo f G J c) 125 9 46 T = T 159) ∧
  (∀ {T : Nat → Prop}, gR scr (wo f G J c) 125 9 47 T = T 160) ∧
  (∀ {T : Nat → Prop}, gR scr (wo f G J c) 125 9 48 T = T 161) ∧
  (∀ {T : Nat → Prop}, gR scr (wo f G J c) 125 9 49 T = T 162) ∧
  (∀ {T : Nat → Prop}, gR scr (wo f G J c) 125 9 50 T = T 163) ∧
  (∀ {T : Nat → Prop}, gR scr (wo f G J c) 125 9 51 T = T 164) ∧
  (∀ {T : Nat → Prop}, gR scr (wo f G J c) 125 9 52 T = T 165) ∧
  (∀ {T : Nat → Prop}, gR scr (wo f G J c) 125 9 53 T = T 166) ∧
  (∀ {T : Int32 → Prop}, gI scr (wo f G J c) 125 9 54 T = T (f 125 54)) ∧
  (∀ {v : Int32} {T : aH → Prop}, pF (wo f G J c) 125 9 54 (.int v) T = T (wo (up2 f 125 54 v) G J c)) ∧
  (∀ {T : Int32 → Prop}, gI scr (wo f G J c) 125 9 55 T = T (f 125 55)) ∧
  (∀ {v : Int32} {T : aH → Prop}, pF (wo f G J c) 125 9 55 (.int v) T = T (wo (up2 f 125 55 v) G J c)) ∧
  (∀ {k : Nat} {T : Int32 → Prop} (hk : k < 6), aI scr (wo f G J c) 126 (nI k) T = T (G 126 k)) ∧
  (∀ {k : Nat} {v : Int32} {T : aH → Prop} (hk : k < 6), wI (wo f G J c) 126 (nI k) v T = T (wo f (up2 G 126 k v) J c)) ∧
  (∀ {k : Nat} {T : Int32 → Prop} (hk : k < 144), aI scr (wo f G J c) 127 (nI k) T = T (G 127 k)) ∧
  (∀ {k : Nat} {v : Int32} {T : aH → Prop} (hk : k < 144), wI (wo f G J c) 127 (nI k) v T = T (wo f (up2 G 127 k v) J c)) ∧
  (∀ {k : Nat} {T : Int32 → Prop} (hk : k < 12), aI scr (wo f G J c) 128 (nI k) T = T (G 128 k)) ∧
  (∀ {k : Nat} {v : Int32} {T : aH → Prop} (hk : k < 12), wI (wo f G J c) 128 (nI k) v T = T (wo f (up2 G 128 k v) J c)) ∧
  (∀ {k : Nat} {T : Int32 → Prop} (hk : k < 12), aI scr (wo f G J c) 129 (nI k) T = T (G 129 k)) ∧
  (∀ {k : Nat} {v : Int32} {T : aH → Prop} (hk : k < 12), wI (wo f G J c) 129 (nI k) v T = T (wo f (up2 G 129 k v) J c)) ∧
  (∀ {k : Nat} {T : Int32 → Prop} (hk : k < 4), aI scr (wo f G J c) 130 (nI k) T = T (G 130 k)) ∧
  (∀ {k : Nat} {v : Int32} {T : aH → Prop} (hk : k < 4), wI (wo f G J c) 130 (nI k) v T = T (wo f (up2 G 130 k v) J c)) ∧
  (∀ {k : Nat} {T : Int32 → Prop} (hk : k < 144), aI scr (wo f G J c) 131 (nI k) T = T (G 131 k)) ∧
  (∀ {k : Nat} {v : Int32} {T : aH → Prop} (hk : k < 144), wI (wo f G J c) 131 (nI k) v T = T (wo f (up2 G 131 k v) J c)) ∧
  (∀ {k : Nat} {T : Int32 → Prop} (hk : k < 12), aI scr (wo f G J c) 132 (nI k) T = T (G 132 k)) ∧
  (∀ {k : Nat} {v : Int32} {T : aH → Prop} (hk : k < 12), wI (wo f G J c) 132 (nI k) v T = T (wo f (up2 G 132 k v) J c)) ∧
  (∀ {k : Nat} {T : Int32 → Prop} (hk : k < 12), aI scr (wo f G J c) 133 (nI k) T = T (G 133 k)) ∧
  (∀ {k : Nat} {v : Int32} {T : aH → Prop} (hk : k < 12), wI (wo f G J c) 133 (nI k) v T = T (wo f (up2 G 133 k v) J c)) ∧
  (∀ {k : Nat} {T : Int32 → Prop} (hk : k < 14), aI scr (wo f G J c) 134 (nI k) T = T (G 134 k)) ∧
  (∀ {k : Nat} {v : Int32} {T : aH → Prop} (hk : k < 14), wI (wo f G J c) 134 (nI k) v T = T (wo f (up2 G 134 k v) J c)) ∧
  (∀ {k : Nat} {T : Int32 → Prop} (hk : k < 14), aI scr (wo f G J c) 135 (nI k) T = T (G 135 k)) ∧
  (∀ {k : Nat} {v : Int32} {T : aH → Prop} (hk : k < 14), wI (wo f G J c) 135 (nI k) v T = T (wo f (up2 G 135 k v) J c)) ∧
  (∀ {k : Nat} {T : Int32 → Prop} (hk : k < 12), aI scr (wo f G J c) 136 (nI k) T = T (G 136 k)) ∧
  (∀ {k : Nat} {v : Int32} {T : aH → Prop} (hk : k < 12), wI (wo f G J c) 136 (nI k) v T = T (wo f (up2 G 136 k v) J c)) ∧
  (∀ {k : Nat} {T : Int32 → Prop} (hk : k < 40), aI scr (wo f G J c) 137 (nI k) T = T (G 137 k)) ∧
  (∀ {k : Nat} {v : Int32} {T : aH → Prop} (hk : k < 40), wI (wo f G J c) 137 (nI k) v T = T (wo f (up2 G 137 k v) J c)) ∧
  (∀ {k : Nat} {T : Int32 → Prop} (hk : k < 40), aI scr (wo f G J c) 138 (nI k) T = T (G 138 k)) ∧
  (∀ {k : Nat} {v : Int32} {T : aH → Prop} (hk : k < 40), wI (wo f G J c) 138 (nI k) v T = T (wo f (up2 G 138 k v) J c)) ∧
  (∀ {k : Nat} {T : Int32 → Prop} (hk : k < 40), aI scr (wo f G J c) 139 (nI k) T = T (G 139 k)) ∧
  (∀ {k : Nat} {v : Int32} {T : aH → Prop} (hk : k < 40), wI (wo f G J c) 139 (nI k) v T = T (wo f (up2 G 139 k v) J c)) ∧
  (∀ {k : Nat} {T : Int32 → Prop} (hk : k < 144), aI scr (wo f G J c) 140 (nI k) T = T (G 140 k)) ∧
  (∀ {k : Nat} {v : Int32} {T : aH → Prop} (hk : k < 144), wI (wo f G J c) 140 (nI k) v T = T (wo f (up2 G 140 k v) J c)) ∧
  (∀ {k : Nat} {T : Int32 → Prop} (hk : k < 144), aI scr (wo f G J c) 141 (nI k) T = T (G 141 k)) ∧
  (∀ {k : Nat} {v : Int32} {T : aH → Prop} (hk : k < 144), wI (wo f G J c) 141 (nI k) v T = T (wo f (up2 G 141 k v) J c)) ∧
  (∀ {k : Nat} {T : Int32 → Prop} (hk : k < 14), aI scr (wo f G J c) 142 (nI k) T = T (G 142 k)) ∧
  (∀ {k : Nat} {v : Int32} {T : aH → Prop} (hk : k < 14), wI (wo f G J c) 142 (nI k) v T = T (wo f (up2 G 142 k v) J c)) ∧
  (∀ {k : Nat} {T : Int32 → Prop} (hk : k < 400), aB scr (wo f G J c) 143 (nI k) T = T (G 143 k)) ∧
  (∀ {k : Nat} {v : Int32} {T : aH → Prop} (hk : k < 400), wB (wo f G J c) 143 (nI k) v T = T (wo f (up2 G 143 k v.toInt8.toInt32) J c)) ∧
  (∀ {k : Nat} {T : Int32 → Prop} (hk : k < 1800), aI scr (wo f G J c) 144 (nI k) T = T (G 144 k)) ∧
  (∀ {k : Nat} {v : Int32} {T : aH → Prop} (hk : k < 1800), wI (wo f G J c) 144 (nI k) v T = T (wo f (up2 G 144 k v) J c)) ∧
  (∀ {k : Nat} {T : Int32 → Prop} (hk : k < 1800), aI scr (wo f G J c) 145 (nI k) T = T (G 145 k)) ∧
  (∀ {k : Nat} {v : Int32} {T : aH → Prop} (hk : k < 1800), wI (wo f G J c) 145 (nI k) v T = T (wo f (up2 G 145 k v) J c)) ∧
  (∀ {k : Nat} {T : Int32 → Prop} (hk : k < 6), aI scr (wo f G J c) 146 (nI k) T = T (G 146 k)) ∧
  (∀ {k : Nat} {v : Int32} {T : aH → Prop} (hk : k < 6), wI (wo f G J c) 146 (nI k) v T = T (wo f (up2 G 146 k v) J c)) ∧
  (∀ {k : Nat} {T : Int32 → Prop} (hk : k < 72), aI scr (wo f G J c) 147 (nI k) T = T (G 147 k)) ∧
  (∀ {k : Nat} {v : Int32} {T : aH → Prop} (hk : k < 72), wI (wo f G J c) 147 (nI k) v T = T (wo f (up2 G 147 k v) J c)) ∧
  (∀ {k : Nat} {T : Int32 → Prop} (hk : k < 72), aI scr (wo f G J c) 148 (nI k) T = T (G 148 k)) ∧
  (∀ {k : Nat} {v : Int32} {T : aH → Prop} (hk : k < 72), wI (wo f G J c) 148 (nI k) v T = T (wo f (up2 G 148 k v) J c)) ∧
  (∀ {k : Nat} {T : Int32 → Prop} (hk : k < 72), aI scr (wo f G J c) 149 (nI k) T = T (G 149 k)) ∧
  (∀ {k : Nat} {v : Int32} {T : aH → Prop} (hk : k < 72), wI (wo f G J c) 149 (nI k) v T = T (wo f (up2 G 149 k v) J c)) ∧
  (∀ {k : Nat} {T : Int32 → Prop} (hk : k < 402), aI scr (wo f G J c) 150 (nI k) T = T (G 150 k)) ∧
  (∀ {k : Nat} {v : Int32} {T : aH → Prop} (hk : k < 402), wI (wo f G J c) 150 (nI k) v T = T (wo f (up2 G 150 k v) J c)) ∧
  (∀ {k : Nat} {T : Int64 → Prop} (hk : k < 9), aJ (wo f G J c) 151 (nI k) T = T (J 151 k)) ∧
  (∀ {k : Nat} {v : Int64} {T : aH → Prop} (hk : k < 9), wJ (wo f G J c) 151 (nI k) v T = T (wo f G (upJ J 151 k v) c)) ∧
  (∀ {k : Nat} {T : Int64 → Prop} (hk : k < 300), aJ (wo f G J c) 152 (nI k) T = T (J 152 k)) ∧
  (∀ {k : Nat} {v : Int64} {T : aH → Prop} (hk : k < 300), wJ (wo f G J c) 152 (nI k) v T = T (wo f G (upJ J 152 k v) c)) ∧
  (∀ {k : Nat} {T : Int32 → Prop} (hk : k < 12), aI scr (wo f G J c) 153 (nI k) T = T (G 153 k)) ∧
  (∀ {k : Nat} {v : Int32} {T : aH → Prop} (hk : k < 12), wI (wo f G J c) 153 (nI k) v T = T (wo f (up2 G 153 k v) J c)) ∧
  (∀ {k : Nat} {T : Int32 → Prop} (hk : k < 6), aI scr (wo f G J c) 154 (nI k) T = T (G 154 k)) ∧
  (∀ {k : Nat} {v : Int32} {T : aH → Prop} (hk : k < 6), wI (wo f G J c) 154 (nI k) v T = T (wo f (up2 G 154 k v) J c)) ∧
  (∀ {k : Nat} {T : Int32 → Prop} (hk : k < 14), aI scr (wo f G J c) 155 (nI k) T = T (G 155 k)) ∧
  (∀ {k : Nat} {v : Int32} {T : aH → Prop} (hk : k < 14), wI (wo f G J c) 155 (nI k) v T = T (wo f (up2 G 155 k v) J c)) ∧
  (∀ {k : Nat} {T : Int32 → Prop} (hk : k < 12), aI scr (wo f G J c) 156 (nI k) T = T (G 156 k)) ∧
  (∀ {k : Nat} {v : Int32} {T : aH → Prop} (hk : k < 12), wI (wo f G J c) 156 (nI k) v T = T (wo f (up2 G 156 k v) J c)) ∧
  (∀ {k : Nat} {T : Int32 → Prop} (hk : k < 4812), aI scr (wo f G J c) 157 (nI k) T = T (G 157 k)) ∧
  (∀ {k : Nat} {v : Int32} {T : aH → Prop} (hk : k < 4812), wI (wo f G J c) 157 (nI k) v T = T (wo f (up2 G 157 k v) J c)) ∧
  (∀ {k : Nat} {T : Int32 → Prop} (hk : k < 12), aI scr (wo f G J c) 158 (nI k) T = T (G 158 k)) ∧
  (∀ {k : Nat} {v : Int32} {T : aH → Prop} (hk : k < 12), wI (wo f G J c) 158 (nI k) v T = T (wo f (up2 G 158 k v) J c)) ∧
  (∀ {k : Nat} {T : Int32 → Prop} (hk : k < 12), aI scr (wo f G J c) 159 (nI k) T = T (G 159 k)) ∧
  (∀ {k : Nat} {v : Int32} {T : aH → Prop} (hk : k < 12), wI (wo f G J c) 159 (nI k) v T = T (wo f (up2 G 159 k v) J c)) ∧
  (∀ {k : Nat} {T : Int32 → Prop} (hk : k < 6), aI scr (wo f G J c) 160 (nI k) T = T (G 160 k)) ∧
  (∀ {k : Nat} {v : Int32} {T : aH → Prop} (hk : k < 6), wI (wo f G J c) 160 (nI k) v T = T (wo f (up2 G 160 k v) J c)) ∧
  (∀ {k : Nat} {T : Int32 → Prop} (hk : k < 14), aI scr (wo f G J c) 161 (nI k) T = T (G 161 k)) ∧
  (∀ {k : Nat} {v : Int32} {T : aH → Prop} (hk : k < 14), wI (wo f G J c) 161 (nI k) v T = T (wo f (up2 G 161 k v) J c)) ∧
  (∀ {k : Nat} {T : Int32 → Prop} (hk : k < 12), aI scr (wo f G J c) 162 (nI k) T = T (G 162 k)) ∧
  (∀ {k : Nat} {v : Int32} {T : aH → Prop} (hk : k < 12), wI (wo f G J c) 162 (nI k) v T = T (wo f (up2 G 162 k v) J c)) ∧
  (∀ {k : Nat} {T : Int32 → Prop} (hk : k < 3), aI scr (wo f G J c) 163 (nI k) T = T (G 163 k)) ∧
  (∀ {k : Nat} {v : Int32} {T : aH → Prop} (hk : k < 3), wI (wo f G J c) 163 (nI k) v T = T (wo f (up2 G 163 k v) J c)) ∧
  (∀ {k : Nat} {T : Int32 → Prop} (hk : k < 14), aI scr (wo f G J c) 164 (nI k) T = T (G 164 k)) ∧
  (∀ {k : Nat} {v : Int32} {T : aH → Prop} (hk : k < 14), wI (wo f G J c) 164 (nI k) v T = T (wo f (up2 G 164 k v) J c)) ∧
  (∀ {k : Nat} {T : Int32 → Prop} (hk : k < 1320), aI scr (wo f G J c) 165 (nI k) T = T (G 165 k)) ∧
  (∀ {k : Nat} {v : Int32} {T : aH → Prop} (hk : k < 1320), wI (wo f G J c) 165 (nI k) v T = T (wo f (up2 G 165 k v) J c)) ∧
  (∀ {k : Nat} {T : Int32 → Prop} (hk : k < 4), aB scr (wo f G J c) 166 (nI k) T = T (G 166 k)) ∧
  (∀ {k : Nat} {v : Int32} {T : aH → Prop} (hk : k < 4), wB (wo f G J c) 166 (nI k) v T = T (wo f (up2 G 166 k (v &&& 1)) J c)) := by
  refine ⟨?_, ?_, ?_, ?_, ?_, ?_, ?_, ?_, ?_, ?_, ?_, ?_, ?_, ?_, ?_, ?_, ?_, ?_, ?_, ?_, ?_, ?_, ?_, ?_, ?_, ?_, ?_, ?_, ?_, ?_, ?_, ?_, ?_, ?_, ?_, ?_, ?_, ?_, ?_, ?_, ?_, ?_, ?_, ?_, ?_, ?_, ?_, ?_, ?_, ?_, ?_, ?_, ?_, ?_, ?_, ?_, ?_, ?_, ?_, ?_, ?_, ?_, ?_, ?_, ?_, ?_, ?_, ?_, ?_, ?_, ?_, ?_, ?_, ?_, ?_, ?_, ?_, ?_, ?_, ?_, ?_, ?_, ?_, ?_, ?_, ?_, ?_, ?_, ?_, ?_, ?_, ?_, ?_, ?_, ?_, ?_, ?_, ?_, ?_, ?_, ?_, ?_, ?_, ?_, ?_, ?_, ?_, ?_, ?_, ?_, ?_, ?_, ?_, ?_, ?_, ?_, ?_, ?_, ?_, ?_, ?_, ?_, ?_, ?_, ?_, ?_, ?_, ?_, ?_, ?_, ?_, ?_, ?_, ?_, ?_, ?_, ?_, ?_, ?_, ?_, ?_, ?_, ?_, ?_, ?_, ?_, ?_, ?_, ?_, ?_, ?_, ?_, ?_⟩
  · unfold wo; intros; exact i_mo_thrown
  · unfold wo; intros; exact p_mo_thrown
  · unfold wo; intros; exact r_mo_scalar
  · unfold wo; intros; exact r_mo_kind
  · unfold wo; intros; exact r_mo_age
  · unfold wo; intros; exact r_mo_sortOf
  · unfold wo; intros; exact r_mo_newScalar
  · unfold wo; intros; exact r_mo_newKind
  · unfold wo; intros; exact r_mo_newAge
  · unfold wo; intros; exact r_mo_newSort
  · unfold wo; intros; exact r_mo_newPlace
  · unfold wo; intros; exact r_mo_place
  · unfold wo; intros; exact r_mo_outAt
  · unfold wo; intros; exact r_mo_spoorStep
  · unfold wo; intros; exact r_mo_spoorWho
  · unfold wo; intros; exact r_mo_spoorOther
  · unfold wo; intros; exact r_mo_gateFar
  · unfold wo; intros; exact r_mo_row
  · unfold wo; intros; exact r_mo_seen
  · unfold wo; intros; exact i_mo_manySeen
  · unfold wo; intros; exact p_mo_manySeen
  · unfold wo; intros; exact i_mo_taped
  · unfold wo; intros; exact p_mo_taped
  · unfold wo; intros; exact i_mo_p
  · unfold wo; intros; exact p_mo_p
  · unfold wo; intros; exact i_mo_fault
  · unfold wo; intros; exact p_mo_fault
  · unfold wo; intros; exact i_mo_slot
  · unfold wo; intros; exact p_mo_slot
  · unfold wo; intros; exact i_mo_laws
  · unfold wo; intros; exact p_mo_laws
  · unfold wo; intros; exact i_mo_entries
  · unfold wo; intros; exact p_mo_entries
  · unfold wo; intros; exact i_mo_deep
  · unfold wo; intros; exact p_mo_deep
  · unfold wo; intros; exact i_mo_counted
  · unfold wo; intros; exact p_mo_counted
  · unfold wo; intros; exact i_mo_opened
  · unfold wo; intros; exact p_mo_opened
  · unfold wo; intros; exact i_mo_words
  · unfold wo; intros; exact p_mo_words
  · unfold wo; intros; exact r_mo_tape
  · unfold wo; intros; exact r_mo_sort
  · unfold wo; intros; exact r_mo_number
  · unfold wo; intros; exact r_mo_clauses
  · unfold wo; intros; exact r_mo_followed
  · unfold wo; intros; exact r_mo_testAt
  · unfold wo; intros; exact r_mo_endAt
  · unfold wo; intros; exact r_mo_open
  · unfold wo; intros; exact r_mo_asked
  · unfold wo; intros; exact r_mo_stack
  · unfold wo; intros; exact r_mo_lastFollowed
  · unfold wo; intros; exact i_mo_went
  · unfold wo; intros; exact p_mo_went
  · unfold wo; intros; exact r_mo_keptScalar
  · unfold wo; intros; exact r_mo_keptPlace
  · unfold wo; intros; exact r_mo_keptOut
  · unfold wo; intros; exact r_mo_stood0
  · unfold wo; intros; exact r_mo_target
  · unfold wo; intros; exact r_mo_withHim
  · unfold wo; intros; exact r_mo_keptLead
  · unfold wo; intros; exact r_mo_leadPlace
  · unfold wo; intros; exact r_mo_leadOut
  · unfold wo; intros; exact r_mo_there
  · unfold wo; intros; exact r_mo_goal
  · unfold wo; intros; exact r_mo_images
  · unfold wo; intros; exact r_mo_isMade
  · unfold wo; intros; exact i_mo_imageAt
  · unfold wo; intros; exact p_mo_imageAt
  · unfold wo; intros; exact i_mo_comesBack
  · unfold wo; intros; exact p_mo_comesBack
  · intro k T hk; exact wo_aI (A_mo_scalar) hk
  · intro k v T hk; exact wo_wI (A_mo_scalar) hk
  · intro k T hk; exact wo_aI (A_mo_kind) hk
  · intro k v T hk; exact wo_wI (A_mo_kind) hk
  · intro k T hk; exact wo_aI (A_mo_age) hk
  · intro k v T hk; exact wo_wI (A_mo_age) hk
  · intro k T hk; exact wo_aI (A_mo_sortOf) hk
  · intro k v T hk; exact wo_wI (A_mo_sortOf) hk
  · intro k T hk; exact wo_aI (A_mo_newScalar) hk
  · intro k v T hk; exact wo_wI (A_mo_newScalar) hk
  · intro k T hk; exact wo_aI (A_mo_newKind) hk
  · intro k v T hk; exact wo_wI (A_mo_newKind) hk
  · intro k T hk; exact wo_aI (A_mo_newAge) hk
  · intro k v T hk; exact wo_wI (A_mo_newAge) hk
  · intro k T hk; exact wo_aI (A_mo_newSort) hk
  · intro k v T hk; exact wo_wI (A_mo_newSort) hk
  · intro k T hk; exact wo_aI (A_mo_newPlace) hk
  · intro k v T hk; exact wo_wI (A_mo_newPlace) hk
  · intro k T hk; exact wo_aI (A_mo_place) hk
  · intro k v T hk; exact wo_wI (A_mo_place) hk
  · intro k T hk; exact wo_aI (A_mo_outAt) hk
  · intro k v T hk; exact wo_wI (A_mo_outAt) hk
  · intro k T hk; exact wo_aI (A_mo_spoorStep) hk
  · intro k v T hk; exact wo_wI (A_mo_spoorStep) hk
  · intro k T hk; exact wo_aI (A_mo_spoorWho) hk
  · intro k v T hk; exact wo_wI (A_mo_spoorWho) hk
  · intro k T hk; exact wo_aI (A_mo_spoorOther) hk
  · intro k v T hk; exact wo_wI (A_mo_spoorOther) hk
  · intro k T hk; exact wo_aI (A_mo_gateFar) hk
  · intro k v T hk; exact wo_wI (A_mo_gateFar) hk
  · intro k T hk; exact wo_aI (A_mo_row) hk
  · intro k v T hk; exact wo_wI (A_mo_row) hk
  · intro k T hk; exact wo_aI (A_mo_seen) hk
  · intro k v T hk; exact wo_wI (A_mo_seen) hk
  · intro k T hk; exact wo_aB (t := 0) (by decide) (A_mo_tape) hk
  · intro k v T hk; exact wo_wB (A_mo_tape) hk
  · intro k T hk; exact wo_aI (A_mo_sort) hk
  · intro k v T hk; exact wo_wI (A_mo_sort) hk
  · intro k T hk; exact wo_aI (A_mo_number) hk
  · intro k v T hk; exact wo_wI (A_mo_number) hk
  · intro k T hk; exact wo_aI (A_mo_clauses) hk
  · intro k v T hk; exact wo_wI (A_mo_clauses) hk
  · intro k T hk; exact wo_aI (A_mo_followed) hk
  · intro k v T hk; exact wo_wI (A_mo_followed) hk
  · intro k T hk; exact wo_aI (A_mo_testAt) hk
  · intro k v T hk; exact wo_wI (A_mo_testAt) hk
  · intro k T hk; exact wo_aI (A_mo_endAt) hk
  · intro k v T hk; exact wo_wI (A_mo_endAt) hk
  · intro k T hk; exact wo_aI (A_mo_open) hk
  · intro k v T hk; exact wo_wI (A_mo_open) hk
  · intro k T hk; exact wo_aJ (A_mo_asked) hk
  · intro k v T hk; exact wo_wJ (A_mo_asked) hk
  · intro k T hk; exact wo_aJ (A_mo_stack) hk
  · intro k v T hk; exact wo_wJ (A_mo_stack) hk
  · intro k T hk; exact wo_aI (A_mo_lastFollowed) hk
  · intro k v T hk; exact wo_wI (A_mo_lastFollowed) hk
  · intro k T hk; exact wo_aI (A_mo_keptScalar) hk
  · intro k v T hk; exact wo_wI (A_mo_keptScalar) hk
  · intro k T hk; exact wo_aI (A_mo_keptPlace) hk
  · intro k v T hk; exact wo_wI (A_mo_keptPlace) hk
  · intro k T hk; exact wo_aI (A_mo_keptOut) hk
  · intro k v T hk; exact wo_wI (A_mo_keptOut) hk
  · intro k T hk; exact wo_aI (A_mo_stood0) hk
  · intro k v T hk; exact wo_wI (A_mo_stood0) hk
  · intro k T hk; exact wo_aI (A_mo_target) hk
  · intro k v T hk; exact wo_wI (A_mo_target) hk
  · intro k T hk; exact wo_aI (A_mo_withHim) hk
  · intro k v T hk; exact wo_wI (A_mo_withHim) hk
  · intro k T hk; exact wo_aI (A_mo_keptLead) hk
  · intro k v T hk; exact wo_wI (A_mo_keptLead) hk
  · intro k T hk; exact wo_aI (A_mo_leadPlace) hk
  · intro k v T hk; exact wo_wI (A_mo_leadPlace) hk
  · intro k T hk; exact wo_aI (A_mo_leadOut) hk
  · intro k v T hk; exact wo_wI (A_mo_leadOut) hk
  · intro k T hk; exact wo_aI (A_mo_there) hk
  · intro k v T hk; exact wo_wI (A_mo_there) hk
  · intro k T hk; exact wo_aI (A_mo_goal) hk
  · intro k v T hk; exact wo_wI (A_mo_goal) hk
  · intro k T hk; exact wo_aI (A_mo_images) hk
  · intro k v T hk; exact wo_wI (A_mo_images) hk
  · intro k T hk; exact wo_aB (t := 3) (by decide) (A_mo_isMade) hk
  · intro k v T hk; exact wo_wZ (A_mo_isMade) hk
theorem u1_ok {As : List Value} : vOk scr (wo f G J c) (.ref 50 :: As) 1 = true := by unfold wo; exact v1_ok
theorem u2_ok {As : List Value} : vOk scr (wo f G J c) (.ref 50 :: As) 2 = true := by unfold wo; exact v2_ok
theorem u4_ok {p : Nat} (hp : isLw p) {As : List Value} : vOk scr (wo f G J c) (.ref p :: As) 4 = true := by unfold wo; exact v4_ok hp
theorem u5_ok {p : Nat} (hp : isLw p) {As : List Value} : vOk scr (wo f G J c) (.ref p :: As) 5 = true := by unfold wo; exact v5_ok hp
theorem u6_ok {p : Nat} (hp : isLw p) {As : List Value} : vOk scr (wo f G J c) (.ref p :: As) 6 = true := by unfold wo; exact v6_ok hp
theorem u8_ok {As : List Value} : vOk scr (wo f G J c) (.ref 24 :: As) 8 = true := by unfold wo; exact v8_ok
theorem u9_ok {As : List Value} : vOk scr (wo f G J c) (.ref 24 :: As) 9 = true := by unfold wo; exact v9_ok
theorem u10_ok {As : List Value} : vOk scr (wo f G J c) (.ref 24 :: As) 10 = true := by unfold wo; exact v10_ok
theorem u11_ok {As : List Value} : vOk scr (wo f G J c) (.ref 24 :: As) 11 = true := by unfold wo; exact v11_ok
theorem u12_ok {As : List Value} : vOk scr (wo f G J c) (.ref 24 :: As) 12 = true := by unfold wo; exact v12_ok
theorem u13_ok {As : List Value} : vOk scr (wo f G J c) (.ref 24 :: As) 13 = true := by unfold wo; exact v13_ok
theorem u14_ok {As : List Value} : vOk scr (wo f G J c) (.ref 24 :: As) 14 = true := by unfold wo; exact v14_ok
theorem u16_ok {As : List Value} : vOk scr (wo f G J c) (.ref 24 :: As) 16 = true := by unfold wo; exact v16_ok
theorem u17_ok {As : List Value} : vOk scr (wo f G J c) (.ref 24 :: As) 17 = true := by unfold wo; exact v17_ok
theorem u19_ok {As : List Value} : vOk scr (wo f G J c) (.ref 23 :: As) 19 = true := by unfold wo; exact v19_ok
theorem u20_ok {As : List Value} : vOk scr (wo f G J c) (.ref 23 :: As) 20 = true := by unfold wo; exact v20_ok
theorem u21_ok {As : List Value} : vOk scr (wo f G J c) (.ref 23 :: As) 21 = true := by unfold wo; exact v21_ok
theorem u22_ok {As : List Value} : vOk scr (wo f G J c) (.ref 23 :: As) 22 = true := by unfold wo; exact v22_ok
theorem u23_ok {As : List Value} : vOk scr (wo f G J c) (.ref 23 :: As) 23 = true := by unfold wo; exact v23_ok
theorem u24_ok {As : List Value} : vOk scr (wo f G J c) (.ref 23 :: As) 24 = true := by unfold wo; exact v24_ok
theorem u27_ok {As : List Value} : vOk scr (wo f G J c) (.ref 59 :: As) 27 = true := by unfold wo; exact v27_ok
theorem u28_ok {As : List Value} : vOk scr (wo f G J c) (.ref 59 :: As) 28 = true := by unfold wo; exact v28_ok
theorem u29_ok {As : List Value} : vOk scr (wo f G J c) (.ref 59 :: As) 29 = true := by unfold wo; exact v29_ok
theorem u30_ok {As : List Value} : vOk scr (wo f G J c) (.ref 59 :: As) 30 = true := by unfold wo; exact v30_ok
theorem u31_ok {As : List Value} : vOk scr (wo f G J c) (.ref 59 :: As) 31 = true := by unfold wo; exact v31_ok
theorem u32_ok {As : List Value} : vOk scr (wo f G J c) (.ref 59 :: As) 32 = true := by unfold wo; exact v32_ok
theorem u33_ok {As : List Value} : vOk scr (wo f G J c) (.ref 59 :: As) 33 = true := by unfold wo; exact v33_ok
theorem u34_ok {As : List Value} : vOk scr (wo f G J c) (.ref 59 :: As) 34 = true := by unfold wo; exact v34_ok
theorem u35_ok {As : List Value} : vOk scr (wo f G J c) (.ref 59 :: As) 35 = true := by unfold wo; exact v35_ok
theorem u36_ok {As : List Value} : vOk scr (wo f G J c) (.ref 59 :: As) 36 = true := by unfold wo; exact v36_ok
theorem u37_ok {As : List Value} : vOk scr (wo f G J c) (.ref 59 :: As) 37 = true := by unfold wo; exact v37_ok
theorem u38_ok {As : List Value} : vOk scr (wo f G J c) (.ref 59 :: As) 38 = true := by unfold wo; exact v38_ok
theorem u39_ok {As : List Value} : vOk scr (wo f G J c) (.ref 59 :: As) 39 = true := by unfold wo; exact v39_ok
theorem u40_ok {As : List Value} : vOk scr (wo f G J c) (.ref 59 :: As) 40 = true := by unfold wo; exact v40_ok
theorem u41_ok {As : List Value} : vOk scr (wo f G J c) (.ref 59 :: As) 41 = true := by unfold wo; exact v41_ok
theorem u43_ok {As : List Value} : vOk scr (wo f G J c) (.ref 59 :: As) 43 = true := by unfold wo; exact v43_ok
theorem u44_ok {As : List Value} : vOk scr (wo f G J c) (.ref 59 :: As) 44 = true := by unfold wo; exact v44_ok
theorem u45_ok {As : List Value} : vOk scr (wo f G J c) (.ref 59 :: As) 45 = true := by unfold wo; exact v45_ok
theorem u46_ok {As : List Value} : vOk scr (wo f G J c) (.ref 59 :: As) 46 = true := by unfold wo; exact v46_ok
theorem u47_ok {As : List Value} : vOk scr (wo f G J c) (.ref 59 :: As) 47 = true := by unfold wo; exact v47_ok
theorem u48_ok {As : List Value} : vOk scr (wo f G J c) (.ref 59 :: As) 48 = true := by unfold wo; exact v48_ok
theorem u50_ok {p : Nat} (hp : isSc p) {As : List Value} : vOk scr (wo f G J c) (.ref p :: As) 50 = true := by unfold wo; exact v50_ok hp
theorem u51_ok {p : Nat} (hp : isSc p) {As : List Value} : vOk scr (wo f G J c) (.ref p :: As) 51 = true := by unfold wo; exact v51_ok hp
theorem u52_ok {p : Nat} (hp : isSc p) {As : List Value} : vOk scr (wo f G J c) (.ref p :: As) 52 = true := by unfold wo; exact v52_ok hp
theorem u53_ok {p : Nat} (hp : isSc p) {As : List Value} : vOk scr (wo f G J c) (.ref p :: As) 53 = true := by unfold wo; exact v53_ok hp
theorem u54_ok {p : Nat} (hp : isSc p) {As : List Value} : vOk scr (wo f G J c) (.ref p :: As) 54 = true := by unfold wo; exact v54_ok hp
theorem u55_ok {p : Nat} (hp : isSc p) {As : List Value} : vOk scr (wo f G J c) (.ref p :: As) 55 = true := by unfold wo; exact v55_ok hp
theorem u56_ok {p : Nat} (hp : isSc p) {As : List Value} : vOk scr (wo f G J c) (.ref p :: As) 56 = true := by unfold wo; exact v56_ok hp
theorem u57_ok {p : Nat} (hp : isSc p) {As : List Value} : vOk scr (wo f G J c) (.ref p :: As) 57 = true := by unfold wo; exact v57_ok hp
theorem u58_ok {p : Nat} (hp : isSc p) {As : List Value} : vOk scr (wo f G J c) (.ref p :: As) 58 = true := by unfold wo; exact v58_ok hp
theorem u59_ok {p : Nat} (hp : isSc p) {As : List Value} : vOk scr (wo f G J c) (.ref p :: As) 59 = true := by unfold wo; exact v59_ok hp
theorem u60_ok {p : Nat} (hp : isSc p) {As : List Value} : vOk scr (wo f G J c) (.ref p :: As) 60 = true := by unfold wo; exact v60_ok hp
theorem u61_ok {p : Nat} (hp : isSc p) {As : List Value} : vOk scr (wo f G J c) (.ref p :: As) 61 = true := by unfold wo; exact v61_ok hp
theorem u62_ok {p : Nat} (hp : isSc p) {As : List Value} : vOk scr (wo f G J c) (.ref p :: As) 62 = true := by unfold wo; exact v62_ok hp
theorem u65_ok {As : List Value} : vOk scr (wo f G J c) (.ref 1 :: As) 65 = true := by unfold wo; exact v65_ok
theorem u66_ok {As : List Value} : vOk scr (wo f G J c) (.ref 1 :: As) 66 = true := by unfold wo; exact v66_ok
theorem u67_ok {As : List Value} : vOk scr (wo f G J c) (.ref 1 :: As) 67 = true := by unfold wo; exact v67_ok
theorem u68_ok {As : List Value} : vOk scr (wo f G J c) (.ref 1 :: As) 68 = true := by unfold wo; exact v68_ok
theorem u69_ok {As : List Value} : vOk scr (wo f G J c) (.ref 1 :: As) 69 = true := by unfold wo; exact v69_ok
theorem u70_ok {As : List Value} : vOk scr (wo f G J c) (.ref 1 :: As) 70 = true := by unfold wo; exact v70_ok
theorem u71_ok {As : List Value} : vOk scr (wo f G J c) (.ref 1 :: As) 71 = true := by unfold wo; exact v71_ok
theorem u72_ok {As : List Value} : vOk scr (wo f G J c) (.ref 1 :: As) 72 = true := by unfold wo; exact v72_ok
theorem u73_ok {As : List Value} : vOk scr (wo f G J c) (.ref 1 :: As) 73 = true := by unfold wo; exact v73_ok
theorem u74_ok {As : List Value} : vOk scr (wo f G J c) (.ref 1 :: As) 74 = true := by unfold wo; exact v74_ok
theorem u75_ok {As : List Value} : vOk scr (wo f G J c) (.ref 1 :: As) 75 = true := by unfold wo; exact v75_ok
theorem u76_ok {As : List Value} : vOk scr (wo f G J c) (.ref 1 :: As) 76 = true := by unfold wo; exact v76_ok
theorem u78_ok {As : List Value} : vOk scr (wo f G J c) (.ref 55 :: As) 78 = true := by unfold wo; exact v78_ok
theorem u79_ok {As : List Value} : vOk scr (wo f G J c) (.ref 55 :: As) 79 = true := by unfold wo; exact v79_ok
theorem u80_ok {As : List Value} : vOk scr (wo f G J c) (.ref 55 :: As) 80 = true := by unfold wo; exact v80_ok
theorem u81_ok {As : List Value} : vOk scr (wo f G J c) (.ref 55 :: As) 81 = true := by unfold wo; exact v81_ok
theorem u82_ok {As : List Value} : vOk scr (wo f G J c) (.ref 55 :: As) 82 = true := by unfold wo; exact v82_ok
theorem u83_ok {As : List Value} : vOk scr (wo f G J c) (.ref 55 :: As) 83 = true := by unfold wo; exact v83_ok
theorem u84_ok {As : List Value} : vOk scr (wo f G J c) (.ref 55 :: As) 84 = true := by unfold wo; exact v84_ok
theorem u85_ok {As : List Value} : vOk scr (wo f G J c) (.ref 55 :: As) 85 = true := by unfold wo; exact v85_ok
theorem u87_ok {As : List Value} : vOk scr (wo f G J c) (.ref 55 :: As) 87 = true := by unfold wo; exact v87_ok
theorem u92_ok {As : List Value} : vOk scr (wo f G J c) (.ref 0 :: As) 92 = true := by unfold wo; exact v92_ok
theorem u93_ok {As : List Value} : vOk scr (wo f G J c) (.ref 0 :: As) 93 = true := by unfold wo; exact v93_ok
theorem u94_ok {As : List Value} : vOk scr (wo f G J c) (.ref 0 :: As) 94 = true := by unfold wo; exact v94_ok
theorem u95_ok {As : List Value} : vOk scr (wo f G J c) (.ref 0 :: As) 95 = true := by unfold wo; exact v95_ok
theorem u96_ok {As : List Value} : vOk scr (wo f G J c) (.ref 0 :: As) 96 = true := by unfold wo; exact v96_ok
theorem u97_ok {As : List Value} : vOk scr (wo f G J c) (.ref 0 :: As) 97 = true := by unfold wo; exact v97_ok
theorem u98_ok {As : List Value} : vOk scr (wo f G J c) (.ref 0 :: As) 98 = true := by unfold wo; exact v98_ok
theorem u99_ok {As : List Value} : vOk scr (wo f G J c) (.ref 0 :: As) 99 = true := by unfold wo; exact v99_ok
theorem u100_ok {As : List Value} : vOk scr (wo f G J c) (.ref 0 :: As) 100 = true := by unfold wo; exact v100_ok
theorem u101_ok {As : List Value} : vOk scr (wo f G J c) (.ref 0 :: As) 101 = true := by unfold wo; exact v101_ok
theorem u102_ok {As : List Value} : vOk scr (wo f G J c) (.ref 0 :: As) 102 = true := by unfold wo; exact v102_ok
theorem u103_ok {As : List Value} : vOk scr (wo f G J c) (.ref 0 :: As) 103 = true := by unfold wo; exact v103_ok
theorem u104_ok {As : List Value} : vOk scr (wo f G J c) (.ref 0 :: As) 104 = true := by unfold wo; exact v104_ok
theorem u105_ok {As : List Value} : vOk scr (wo f G J c) (.ref 0 :: As) 105 = true := by unfold wo; exact v105_ok
theorem u106_ok {As : List Value} : vOk scr (wo f G J c) (.ref 0 :: As) 106 = true := by unfold wo; exact v106_ok
theorem u107_ok {As : List Value} : vOk scr (wo f G J c) (.ref 0 :: As) 107 = true := by unfold wo; exact v107_ok
theorem u108_ok {As : List Value} : vOk scr (wo f G J c) (.ref 0 :: As) 108 = true := by unfold wo; exact v108_ok
theorem u109_ok {As : List Value} : vOk scr (wo f G J c) (.ref 0 :: As) 109 = true := by unfold wo; exact v109_ok
theorem u110_ok {As : List Value} : vOk scr (wo f G J c) (.ref 0 :: As) 110 = true := by unfold wo; exact v110_ok
theorem u111_ok {As : List Value} : vOk scr (wo f G J c) (.ref 0 :: As) 111 = true := by unfold wo; exact v111_ok
theorem u112_ok {As : List Value} : vOk scr (wo f G J c) (.ref 0 :: As) 112 = true := by unfold wo; exact v112_ok
theorem u113_ok {As : List Value} : vOk scr (wo f G J c) (.ref 0 :: As) 113 = true := by unfold wo; exact v113_ok
theorem u114_ok {As : List Value} : vOk scr (wo f G J c) (.ref 0 :: As) 114 = true := by unfold wo; exact v114_ok
theorem u115_ok {As : List Value} : vOk scr (wo f G J c) (.ref 0 :: As) 115 = true := by unfold wo; exact v115_ok
theorem u116_ok {As : List Value} : vOk scr (wo f G J c) (.ref 0 :: As) 116 = true := by unfold wo; exact v116_ok
theorem u117_ok {As : List Value} : vOk scr (wo f G J c) (.ref 0 :: As) 117 = true := by unfold wo; exact v117_ok
theorem u118_ok {As : List Value} : vOk scr (wo f G J c) (.ref 0 :: As) 118 = true := by unfold wo; exact v118_ok
theorem u119_ok {As : List Value} : vOk scr (wo f G J c) (.ref 0 :: As) 119 = true := by unfold wo; exact v119_ok
theorem u124_ok {As : List Value} : vOk scr (wo f G J c) (.ref 125 :: As) 124 = true := by unfold wo; exact v124_ok
theorem u125_ok {As : List Value} : vOk scr (wo f G J c) (.ref 125 :: As) 125 = true := by unfold wo; exact v125_ok
theorem u126_ok {As : List Value} : vOk scr (wo f G J c) (.ref 125 :: As) 126 = true := by unfold wo; exact v126_ok
theorem u127_ok {As : List Value} : vOk scr (wo f G J c) (.ref 125 :: As) 127 = true := by unfold wo; exact v127_ok
theorem u128_ok {As : List Value} : vOk scr (wo f G J c) (.ref 125 :: As) 128 = true := by unfold wo; exact v128_ok
theorem u130_ok {As : List Value} : vOk scr (wo f G J c) (.ref 125 :: As) 130 = true := by unfold wo; exact v130_ok
theorem u131_ok {As : List Value} : vOk scr (wo f G J c) (.ref 125 :: As) 131 = true := by unfold wo; exact v131_ok
theorem u132_ok {As : List Value} : vOk scr (wo f G J c) (.ref 125 :: As) 132 = true := by unfold wo; exact v132_ok
theorem u134_ok {As : List Value} : vOk scr (wo f G J c) (.ref 125 :: As) 134 = true := by unfold wo; exact v134_ok
theorem u135_ok {As : List Value} : vOk scr (wo f G J c) (.ref 125 :: As) 135 = true := by unfold wo; exact v135_ok
theorem u136_ok {As : List Value} : vOk scr (wo f G J c) (.ref 125 :: As) 136 = true := by unfold wo; exact v136_ok
theorem u137_ok {As : List Value} : vOk scr (wo f G J c) (.ref 125 :: As) 137 = true := by unfold wo; exact v137_ok
theorem u138_ok {As : List Value} : vOk scr (wo f G J c) (.ref 125 :: As) 138 = true := by unfold wo; exact v138_ok
theorem u139_ok {As : List Value} : vOk scr (wo f G J c) (.ref 125 :: As) 139 = true := by unfold wo; exact v139_ok
theorem u140_ok {As : List Value} : vOk scr (wo f G J c) (.ref 125 :: As) 140 = true := by unfold wo; exact v140_ok
theorem u142_ok {As : List Value} : vOk scr (wo f G J c) (.ref 125 :: As) 142 = true := by unfold wo; exact v142_ok
theorem u143_ok {As : List Value} : vOk scr (wo f G J c) (.ref 125 :: As) 143 = true := by unfold wo; exact v143_ok
theorem u144_ok {As : List Value} : vOk scr (wo f G J c) (.ref 125 :: As) 144 = true := by unfold wo; exact v144_ok
theorem u145_ok {As : List Value} : vOk scr (wo f G J c) (.ref 125 :: As) 145 = true := by unfold wo; exact v145_ok
theorem u146_ok {As : List Value} : vOk scr (wo f G J c) (.ref 125 :: As) 146 = true := by unfold wo; exact v146_ok
theorem u147_ok {As : List Value} : vOk scr (wo f G J c) (.ref 125 :: As) 147 = true := by unfold wo; exact v147_ok
theorem u148_ok {As : List Value} : vOk scr (wo f G J c) (.ref 125 :: As) 148 = true := by unfold wo; exact v148_ok
theorem u149_ok {As : List Value} : vOk scr (wo f G J c) (.ref 125 :: As) 149 = true := by unfold wo; exact v149_ok
theorem u150_ok {As : List Value} : vOk scr (wo f G J c) (.ref 125 :: As) 150 = true := by unfold wo; exact v150_ok
theorem u151_ok {As : List Value} : vOk scr (wo f G J c) (.ref 125 :: As) 151 = true := by unfold wo; exact v151_ok
theorem u152_ok {As : List Value} : vOk scr (wo f G J c) (.ref 125 :: As) 152 = true := by unfold wo; exact v152_ok
theorem u153_ok {As : List Value} : vOk scr (wo f G J c) (.ref 125 :: As) 153 = true := by unfold wo; exact v153_ok
theorem u154_ok {As : List Value} : vOk scr (wo f G J c) (.ref 125 :: As) 154 = true := by unfold wo; exact v154_ok
theorem u155_ok {As : List Value} : vOk scr (wo f G J c) (.ref 125 :: As) 155 = true := by unfold wo; exact v155_ok
theorem u156_ok {As : List Value} : vOk scr (wo f G J c) (.ref 125 :: As) 156 = true := by unfold wo; exact v156_ok
theorem u157_ok {As : List Value} : vOk scr (wo f G J c) (.ref 125 :: As) 157 = true := by unfold wo; exact v157_ok
theorem u158_ok {As : List Value} : vOk scr (wo f G J c) (.ref 125 :: As) 158 = true := by unfold wo; exact v158_ok
theorem u159_ok {As : List Value} : vOk scr (wo f G J c) (.ref 125 :: As) 159 = true := by unfold wo; exact v159_ok
theorem u160_ok {As : List Value} : vOk scr (wo f G J c) (.ref 125 :: As) 160 = true := by unfold wo; exact v160_ok
theorem u161_ok {As : List Value} : vOk scr (wo f G J c) (.ref 125 :: As) 161 = true := by unfold wo; exact v161_ok
theorem u162_ok {As : List Value} : vOk scr (wo f G J c) (.ref 125 :: As) 162 = true := by unfold wo; exact v162_ok
theorem u163_ok {As : List Value} : vOk scr (wo f G J c) (.ref 125 :: As) 163 = true := by unfold wo; exact v163_ok
theorem u164_ok {As : List Value} : vOk scr (wo f G J c) (.ref 125 :: As) 164 = true := by unfold wo; exact v164_ok
theorem u165_ok {As : List Value} : vOk scr (wo f G J c) (.ref 125 :: As) 165 = true := by unfold wo; exact v165_ok
theorem u167_ok {As : List Value} : vOk scr (wo f G J c) (.ref 125 :: As) 167 = true := by unfold wo; exact v167_ok
theorem u168_ok {As : List Value} : vOk scr (wo f G J c) (.ref 125 :: As) 168 = true := by unfold wo; exact v168_ok
theorem u169_ok {As : List Value} : vOk scr (wo f G J c) (.ref 125 :: As) 169 = true := by unfold wo; exact v169_ok
theorem u170_ok {As : List Value} : vOk scr (wo f G J c) (.ref 125 :: As) 170 = true := by unfold wo; exact v170_ok
theorem u171_ok {As : List Value} : vOk scr (wo f G J c) (.ref 125 :: As) 171 = true := by unfold wo; exact v171_ok
theorem u172_ok {As : List Value} : vOk scr (wo f G J c) (.ref 125 :: As) 172 = true := by unfold wo; exact v172_ok
theorem u175_ok {As : List Value} : vOk scr (wo f G J c) (.ref 125 :: As) 175 = true := by unfold wo; exact v175_ok
theorem u176_ok {As : List Value} : vOk scr (wo f G J c) (.ref 125 :: As) 176 = true := by unfold wo; exact v176_ok
theorem u177_ok {As : List Value} : vOk scr (wo f G J c) (.ref 125 :: As) 177 = true := by unfold wo; exact v177_ok
theorem u178_ok {As : List Value} : vOk scr (wo f G J c) (.ref 125 :: As) 178 = true := by unfold wo; exact v178_ok
theorem u179_ok {As : List Value} : vOk scr (wo f G J c) (.ref 125 :: As) 179 = true := by unfold wo; exact v179_ok
theorem u180_ok {As : List Value} : vOk scr (wo f G J c) (.ref 125 :: As) 180 = true := by unfold wo; exact v180_ok
theorem u181_ok {As : List Value} : vOk scr (wo f G J c) (.ref 125 :: As) 181 = true := by unfold wo; exact v181_ok
theorem u182_ok {As : List Value} : vOk scr (wo f G J c) (.ref 125 :: As) 182 = true := by unfold wo; exact v182_ok
theorem u183_ok {As : List Value} : vOk scr (wo f G J c) (.ref 125 :: As) 183 = true := by unfold wo; exact v183_ok
theorem u184_ok {As : List Value} : vOk scr (wo f G J c) (.ref 125 :: As) 184 = true := by unfold wo; exact v184_ok
theorem u185_ok {As : List Value} : vOk scr (wo f G J c) (.ref 125 :: As) 185 = true := by unfold wo; exact v185_ok
theorem u186_ok {As : List Value} : vOk scr (wo f G J c) (.ref 125 :: As) 186 = true := by unfold wo; exact v186_ok
theorem u187_ok {As : List Value} : vOk scr (wo f G J c) (.ref 125 :: As) 187 = true := by unfold wo; exact v187_ok
theorem u188_ok {As : List Value} : vOk scr (wo f G J c) (.ref 125 :: As) 188 = true := by unfold wo; exact v188_ok
theorem u189_ok {As : List Value} : vOk scr (wo f G J c) (.ref 125 :: As) 189 = true := by unfold wo; exact v189_ok
theorem u190_ok {As : List Value} : vOk scr (wo f G J c) (.ref 125 :: As) 190 = true := by unfold wo; exact v190_ok
theorem u191_ok {As : List Value} : vOk scr (wo f G J c) (.ref 125 :: As) 191 = true := by unfold wo; exact v191_ok
theorem u192_ok {As : List Value} : vOk scr (wo f G J c) (.ref 125 :: As) 192 = true := by unfold wo; exact v192_ok
theorem u193_ok {As : List Value} : vOk scr (wo f G J c) (.ref 125 :: As) 193 = true := by unfold wo; exact v193_ok
theorem u194_ok {As : List Value} : vOk scr (wo f G J c) (.ref 125 :: As) 194 = true := by unfold wo; exact v194_ok
theorem u195_ok {As : List Value} : vOk scr (wo f G J c) (.ref 125 :: As) 195 = true := by unfold wo; exact v195_ok
theorem u196_ok {As : List Value} : vOk scr (wo f G J c) (.ref 125 :: As) 196 = true := by unfold wo; exact v196_ok
theorem u197_ok {As : List Value} : vOk scr (wo f G J c) (.ref 125 :: As) 197 = true := by unfold wo; exact v197_ok
theorem u198_ok {As : List Value} : vOk scr (wo f G J c) (.ref 125 :: As) 198 = true := by unfold wo; exact v198_ok
theorem u199_ok {As : List Value} : vOk scr (wo f G J c) (.ref 125 :: As) 199 = true := by unfold wo; exact v199_ok
theorem u200_ok {As : List Value} : vOk scr (wo f G J c) (.ref 125 :: As) 200 = true := by unfold wo; exact v200_ok
theorem u201_ok {As : List Value} : vOk scr (wo f G J c) (.ref 125 :: As) 201 = true := by unfold wo; exact v201_ok
theorem u202_ok {As : List Value} : vOk scr (wo f G J c) (.ref 125 :: As) 202 = true := by unfold wo; exact v202_ok
theorem u203_ok {As : List Value} : vOk scr (wo f G J c) (.ref 125 :: As) 203 = true := by unfold wo; exact v203_ok
theorem u204_ok {As : List Value} : vOk scr (wo f G J c) (.ref 125 :: As) 204 = true := by unfold wo; exact v204_ok
theorem u205_ok {As : List Value} : vOk scr (wo f G J c) (.ref 125 :: As) 205 = true := by unfold wo; exact v205_ok
theorem u206_ok {As : List Value} : vOk scr (wo f G J c) (.ref 125 :: As) 206 = true := by unfold wo; exact v206_ok
theorem u208_ok {As : List Value} : vOk scr (wo f G J c) (.ref 125 :: As) 208 = true := by unfold wo; exact v208_ok
theorem u209_ok {As : List Value} : vOk scr (wo f G J c) (.ref 125 :: As) 209 = true := by unfold wo; exact v209_ok
theorem u210_ok {As : List Value} : vOk scr (wo f G J c) (.ref 125 :: As) 210 = true := by unfold wo; exact v210_ok
theorem u211_ok {As : List Value} : vOk scr (wo f G J c) (.ref 125 :: As) 211 = true := by unfold wo; exact v211_ok
theorem u212_ok {As : List Value} : vOk scr (wo f G J c) (.ref 125 :: As) 212 = true := by unfold wo; exact v212_ok
theorem u213_ok {As : List Value} : vOk scr (wo f G J c) (.ref 125 :: As) 213 = true := by unfold wo; exact v213_ok
theorem u214_ok {As : List Value} : vOk scr (wo f G J c) (.ref 125 :: As) 214 = true := by unfold wo; exact v214_ok
theorem u215_ok {As : List Value} : vOk scr (wo f G J c) (.ref 125 :: As) 215 = true := by unfold wo; exact v215_ok
theorem u216_ok {As : List Value} : vOk scr (wo f G J c) (.ref 125 :: As) 216 = true := by unfold wo; exact v216_ok
theorem u217_ok {As : List Value} : vOk scr (wo f G J c) (.ref 125 :: As) 217 = true := by unfold wo; exact v217_ok
theorem u218_ok {As : List Value} : vOk scr (wo f G J c) (.ref 125 :: As) 218 = true := by unfold wo; exact v218_ok
theorem u219_ok {As : List Value} : vOk scr (wo f G J c) (.ref 125 :: As) 219 = true := by unfold wo; exact v219_ok
theorem u220_ok {As : List Value} : vOk scr (wo f G J c) (.ref 125 :: As) 220 = true := by unfold wo; exact v220_ok
theorem u221_ok {As : List Value} : vOk scr (wo f G J c) (.ref 125 :: As) 221 = true := by unfold wo; exact v221_ok
end WO
