variable {scr : List Int32}
-- ===== the world: which cells there are, what they hold =====
/-- a cell: a row of a kind, or an object with its fields (none: a number; some: a cell) -/
def LAY : List (Nat ⊕ (Nat × List (Option Nat))) := [.inr (8, [some 1, some 3, some 13, some 23, some 24, some 25, none, some 50, some 55, some 59, some 83, some 124]), .inr (6, [some 2, none, none, none]), .inl 0, .inr (5, [none, none, none, none, none, none, none, none, some 4, some 5, some 6, some 7, some 8, some 9, some 10, some 11, some 12]), .inl 0, .inl 0, .inl 1, .inl 1, .inl 1, .inl 1, .inl 1, .inl 1, .inl 1, .inr (5, [none, none, none, none, none, none, none, none, some 14, some 15, some 16, some 17, some 18, some 19, some 20, some 21, some 22]), .inl 0, .inl 0, .inl 1, .inl 1, .inl 1, .inl 1, .inl 1, .inl 1, .inl 1, .inr (3, [some 1, some 13]), .inr (2, [some 1, some 9999, none]), .inl 4, .inr (1, [none, some 27, some 28, none, some 29]), .inl 1, .inl 1, .inl 1, .inr (1, [none, some 31, some 32, none, some 33]), .inl 1, .inl 1, .inl 1, .inr (1, [none, some 35, some 36, none, some 37]), .inl 1, .inl 1, .inl 1, .inr (1, [none, some 39, some 40, none, some 41]), .inl 1, .inl 1, .inl 1, .inr (1, [none, some 43, some 44, none, some 45]), .inl 1, .inl 1, .inl 1, .inr (1, [none, some 47, some 48, none, some 49]), .inl 1, .inl 1, .inl 1, .inr (0, [some 51, some 52, some 53, some 54]), .inl 1, .inl 1, .inl 2, .inl 2, .inr (7, [some 50, some 56, some 57, none, none, none, some 58, none]), .inl 2, .inl 1, .inl 1, .inr (4, [some 3, some 55, some 50, some 60, some 70, some 80, some 81, some 82]), .inr (5, [none, none, none, none, none, none, none, none, some 61, some 62, some 63, some 64, some 65, some 66, some 67, some 68, some 69]), .inl 0, .inl 0, .inl 1, .inl 1, .inl 1, .inl 1, .inl 1, .inl 1, .inl 1, .inr (5, [none, none, none, none, none, none, none, none, some 71, some 72, some 73, some 74, some 75, some 76, some 77, some 78, some 79]), .inl 0, .inl 0, .inl 1, .inl 1, .inl 1, .inl 1, .inl 1, .inl 1, .inl 1, .inl 2, .inl 2, .inl 1, .inl 5, .inr (5, [none, none, none, none, none, none, none, none, some 85, some 86, some 87, some 88, some 89, some 90, some 91, some 92, some 93]), .inl 0, .inl 0, .inl 1, .inl 1, .inl 1, .inl 1, .inl 1, .inl 1, .inl 1, .inr (5, [none, none, none, none, none, none, none, none, some 95, some 96, some 97, some 98, some 99, some 100, some 101, some 102, some 103]), .inl 0, .inl 0, .inl 1, .inl 1, .inl 1, .inl 1, .inl 1, .inl 1, .inl 1, .inr (5, [none, none, none, none, none, none, none, none, some 105, some 106, some 107, some 108, some 109, some 110, some 111, some 112, some 113]), .inl 0, .inl 0, .inl 1, .inl 1, .inl 1, .inl 1, .inl 1, .inl 1, .inl 1, .inr (5, [none, none, none, none, none, none, none, none, some 115, some 116, some 117, some 118, some 119, some 120, some 121, some 122, some 123]), .inl 0, .inl 0, .inl 1, .inl 1, .inl 1, .inl 1, .inl 1, .inl 1, .inl 1, .inl 3, .inr (9, [none, some 126, some 127, some 128, some 129, some 130, some 131, some 132, some 133, some 134, some 135, some 136, some 137, some 138, some 139, some 140, some 141, some 142, none, none, none, none, none, none, none, none, none, none, none, some 143, some 144, some 145, some 146, some 147, some 148, some 149, some 150, some 151, some 152, some 153, none, some 154, some 155, some 156, some 157, some 158, some 159, some 160, some 161, some 162, some 163, some 164, some 165, some 166, none, none]), .inl 1, .inl 1, .inl 1, .inl 1, .inl 1, .inl 1, .inl 1, .inl 1, .inl 1, .inl 1, .inl 1, .inl 1, .inl 1, .inl 1, .inl 1, .inl 1, .inl 1, .inl 0, .inl 1, .inl 1, .inl 1, .inl 1, .inl 1, .inl 1, .inl 1, .inl 2, .inl 2, .inl 1, .inl 1, .inl 1, .inl 1, .inl 1, .inl 1, .inl 1, .inl 1, .inl 1, .inl 1, .inl 1, .inl 1, .inl 1, .inl 3]
def rwR (t : Nat) : List (Option Nat) := if t = 4 then [some 26, some 30, some 34, some 38, some 42, some 46] else [some 84, some 94, some 104, some 114]
def cellW (f : Nat → Nat → Int32) (g : Nat → List Int32) (j : Nat → List Int64) (c : Value) (p : Nat) (x : Nat ⊕ (Nat × List (Option Nat))) : aC := match x with
  | .inl t => if t = 2 then .inl (2, .inr (.inl (j p))) else if t < 4 then .inl (t, .inl (g p)) else .inl (t, .inr (.inr (rwR t)))
  | .inr (ci, fl) => .inr (ci, fl.mapIdx (fun k o => match o with
    | none => .int (f p k)
    | some q => if q = 9999 then c else .ref q))
/-- numbers in fields, rows of numbers, rows of long numbers, the law that is read into -/
def mk (f : Nat → Nat → Int32) (g : Nat → List Int32) (j : Nat → List Int64) (c : Value) : aH := LAY.mapIdx (cellW f g j c)
def up2 (f : Nat → Nat → Int32) (p k : Nat) (v : Int32) : Nat → Nat → Int32 := fun p' k' => if p' = p ∧ k' = k then v else f p' k'
def up1 {α : Type} (g : Nat → α) (p : Nat) (v : α) : Nat → α := fun p' => if p' = p then v else g p'
section WD
variable {f : Nat → Nat → Int32} {g : Nat → List Int32} {j : Nat → List Int64} {c : Value}
theorem LAY_len : LAY.length = 167 := by decide +kernel
theorem mk_get (p : Nat) : (mk f g j c)[p]? = (LAY[p]?).map (cellW f g j c p) := by simp [mk, List.getElem?_mapIdx]
theorem mk_at {p : Nat} {x : Nat ⊕ (Nat × List (Option Nat))} (h : LAY[p]? = some x) : (mk f g j c)[p]? = some (cellW f g j c p x) := by rw [mk_get, h]; rfl
theorem LAY_lt {p : Nat} {x : Nat ⊕ (Nat × List (Option Nat))} (h : LAY[p]? = some x) : p < 10000 := by
  have h1 := (List.getElem?_eq_some_iff.mp h).1
  rw [LAY_len] at h1
  omega
theorem mk_cell {p : Nat} {x : Nat ⊕ (Nat × List (Option Nat))} (h : LAY[p]? = some x) : cellAt scr (mk f g j c) p = some (cellW f g j c p x) := by
  unfold cellAt
  rw [if_pos (LAY_lt h), mk_at h]
theorem mk_set {p : Nat} {x : Nat ⊕ (Nat × List (Option Nat))} (h : LAY[p]? = some x) {f' : Nat → Nat → Int32} {g' : Nat → List Int32} {j' : Nat → List Int64} {c' : Value} (hne : ∀ p' x', p' ≠ p → LAY[p']? = some x' → cellW f' g' j' c' p' x' = cellW f g j c p' x') : (mk f g j c).set p (cellW f' g' j' c' p x) = mk f' g' j' c' := by
  apply List.ext_getElem?
  intro i
  rw [List.getElem?_set, mk_get, mk_get]
  have hl : (mk f g j c).length = LAY.length := by simp [mk]
  by_cases hi : p = i
  · subst hi
    rw [if_pos rfl, hl, if_pos (List.getElem?_eq_some_iff.mp h).1, h]
    rfl
  · rw [if_neg hi]
    cases hx : LAY[i]? with
    | none => rfl
    | some x' => simp only [Option.map_some]; rw [hne i x' (fun q => hi q.symm) hx]
theorem rdF_i {p ci k : Nat} {fl : List (Option Nat)} (h : LAY[p]? = some (.inr (ci, fl))) (hk : fl[k]? = some none) : rdF scr (mk f g j c) p ci k = some (.int (f p k)) := by
  unfold rdF
  rw [mk_cell h]
  simp [cellW, List.getElem?_mapIdx, hk]
theorem rdF_r {p ci k q : Nat} {fl : List (Option Nat)} (h : LAY[p]? = some (.inr (ci, fl))) (hk : fl[k]? = some (some q)) (hq : ¬ q = 9999) : rdF scr (mk f g j c) p ci k = some (.ref q) := by
  unfold rdF
  rw [mk_cell h]
  simp [cellW, List.getElem?_mapIdx, hk, hq]
theorem gI_mk {p ci k : Nat} {fl : List (Option Nat)} {T : Int32 → Prop} (h : LAY[p]? = some (.inr (ci, fl))) (hk : fl[k]? = some none) : gI scr (mk f g j c) p ci k T = T (f p k) := by
  unfold gI
  rw [rdF_i h hk]
  simp
theorem gR_mk {p ci k q : Nat} {fl : List (Option Nat)} {T : Nat → Prop} (h : LAY[p]? = some (.inr (ci, fl))) (hk : fl[k]? = some (some q)) (hq : ¬ q = 9999) : gR scr (mk f g j c) p ci k T = T q := by
  unfold gR
  rw [rdF_r h hk hq]
  simp
theorem pF_mk {p ci k : Nat} {fl : List (Option Nat)} {v : Int32} {T : aH → Prop} (h : LAY[p]? = some (.inr (ci, fl))) (hk : fl[k]? = some none) : pF (mk f g j c) p ci k (.int v) T = T (mk (up2 f p k v) g j c) := by
  have hw : wrF (mk f g j c) p ci k (.int v) = some (mk (up2 f p k v) g j c) := by
    unfold wrF
    rw [mk_at h]
    have hlt : k < fl.length := (List.getElem?_eq_some_iff.mp hk).1
    simp only [cellW]
    rw [if_pos ⟨trivial, by simpa using hlt, LAY_lt h⟩]
    refine congrArg some ?_
    rw [← mk_set h (f' := up2 f p k v) (g' := g) (j' := j) (c' := c)]
    · refine congrArg (List.set (mk f g j c) p) ?_
      simp only [cellW]
      congr 2
      apply List.ext_getElem?
      intro i
      rw [List.getElem?_set, List.getElem?_mapIdx, List.getElem?_mapIdx, List.length_mapIdx]
      by_cases hi : k = i
      · subst hi
        rw [if_pos rfl, if_pos hlt, hk]
        simp [up2]
      · rw [if_neg hi]
        cases fl[i]? with
        | none => rfl
        | some o => cases o with
          | none => simp [up2, Ne.symm hi]
          | some q => rfl
    · intro p' x' hp _
      match x' with
      | .inl t => rfl
      | .inr (ci', fl') =>
        simp only [cellW]
        congr 2
        apply List.ext_getElem?
        intro i
        rw [List.getElem?_mapIdx, List.getElem?_mapIdx]
        cases fl'[i]? with
        | none => rfl
        | some o => cases o with
          | none => simp [up2, hp]
          | some q => rfl
  unfold pF
  rw [hw]
  simp
theorem vOk_mk {p ci y : Nat} {fl : List (Option Nat)} {As : List Value} (h : LAY[p]? = some (.inr (ci, fl))) (hy : mCi y = ci) : vOk scr (mk f g j c) (.ref p :: As) y = true := by
  unfold vOk
  simp only [mk_cell h, cellW]
  simp [hy]
theorem aI_mk {q : Nat} {x : Int32} {T : Int32 → Prop} (h : LAY[q]? = some (.inl 1)) : aI scr (mk f g j c) q x T = (inb x (g q).length = true ∧ T ((g q).getD x.toNatClampNeg 0)) := by
  unfold aI rdA
  rw [mk_cell h]
  simp only [cellW]
  apply propext
  constructor
  · rintro ⟨v, hv, ht⟩
    simp only [show ¬ (1 = 2) by decide, show (1 < 4) by decide, if_true, if_false] at hv
    split at hv
    · rename_i e; cases hv; exact ⟨e.2, ht⟩
    · cases hv
  · rintro ⟨e, ht⟩
    exact ⟨_, by simp [e], ht⟩
theorem aB_mk {q t : Nat} {x : Int32} {T : Int32 → Prop} (ht : t = 0 ∨ t = 3) (h : LAY[q]? = some (.inl t)) : aB scr (mk f g j c) q x T = (inb x (g q).length = true ∧ T ((g q).getD x.toNatClampNeg 0)) := by
  unfold aB rdA
  rw [mk_cell h]
  by_cases e : inb x (g q).length = true
  · rcases ht with rfl | rfl <;> simp [cellW, e]
  · rcases ht with rfl | rfl <;> simp [cellW, e]
theorem aJ_mk {q : Nat} {x : Int32} {T : Int64 → Prop} (h : LAY[q]? = some (.inl 2)) : aJ (mk f g j c) q x T = (inb x (j q).length = true ∧ T ((j q).getD x.toNatClampNeg 0)) := by
  unfold aJ rdJ
  rw [mk_at h]
  have := LAY_lt h
  by_cases e : inb x (j q).length = true
  · simp [cellW, e, this]
  · simp [cellW, e]
theorem cellW_g {p' q : Nat} {v : List Int32} {x' : Nat ⊕ (Nat × List (Option Nat))} (hp : p' ≠ q) : cellW f (up1 g q v) j c p' x' = cellW f g j c p' x' := by
  match x' with
  | .inl t => simp only [cellW, up1, if_neg hp]
  | .inr (ci', fl') => rfl
theorem cellW_j {p' q : Nat} {v : List Int64} {x' : Nat ⊕ (Nat × List (Option Nat))} (hp : p' ≠ q) : cellW f g (up1 j q v) c p' x' = cellW f g j c p' x' := by
  match x' with
  | .inl t => simp only [cellW, up1, if_neg hp]
  | .inr (ci', fl') => rfl
theorem set_g {q t : Nat} {v : List Int32} (ht : t < 4) (h2 : ¬ t = 2) (h : LAY[q]? = some (.inl t)) : (mk f g j c).set q (.inl (t, .inl v)) = mk f (up1 g q v) j c := by
  rw [← mk_set h (f' := f) (g' := up1 g q v) (j' := j) (c' := c) (fun p' x' hp _ => cellW_g hp)]
  simp [cellW, h2, ht, up1]
theorem set_j {q : Nat} {v : List Int64} (h : LAY[q]? = some (.inl 2)) : (mk f g j c).set q (.inl (2, .inr (.inl v))) = mk f g (up1 j q v) c := by
  rw [← mk_set h (f' := f) (g' := g) (j' := up1 j q v) (c' := c) (fun p' x' hp _ => cellW_j hp)]
  simp [cellW, up1]
theorem wI_mk {q : Nat} {x v : Int32} {T : aH → Prop} (h : LAY[q]? = some (.inl 1)) : wI (mk f g j c) q x v T = (inb x (g q).length = true ∧ T (mk f (up1 g q ((g q).set x.toNatClampNeg v)) j c)) := by
  unfold wI wrA
  rw [mk_at h]
  have := LAY_lt h
  by_cases e : inb x (g q).length = true
  · simp only [cellW, show ¬ (1 = 2) by decide, show (1 < 4) by decide, if_true, if_false, e, this, and_self, true_and]
    rw [set_g (by decide) (by decide) h]
    simp
  · simp [cellW, e]
theorem wB_mk {q : Nat} {x v : Int32} {T : aH → Prop} (h : LAY[q]? = some (.inl 0)) : wB (mk f g j c) q x v T = (inb x (g q).length = true ∧ T (mk f (up1 g q ((g q).set x.toNatClampNeg v.toInt8.toInt32)) j c)) := by
  unfold wB wrA
  rw [mk_at h]
  have := LAY_lt h
  by_cases e : inb x (g q).length = true
  · simp only [cellW, show ¬ (0 = 2) by decide, show (0 < 4) by decide, if_true, if_false, e, this, and_self, true_and]
    rw [set_g (by decide) (by decide) h]
    simp
  · simp [cellW, e]
theorem wZ_mk {q : Nat} {x v : Int32} {T : aH → Prop} (h : LAY[q]? = some (.inl 3)) : wB (mk f g j c) q x v T = (inb x (g q).length = true ∧ T (mk f (up1 g q ((g q).set x.toNatClampNeg (v &&& 1))) j c)) := by
  unfold wB wrA
  rw [mk_at h]
  have := LAY_lt h
  by_cases e : inb x (g q).length = true
  · simp only [cellW, show ¬ (3 = 2) by decide, show ¬ (3 = 0) by decide, show (3 < 4) by decide, if_true, if_false, e, this, and_self, true_and, false_and]
    rw [set_g (by decide) (by decide) h]
    simp
  · simp [cellW, e]
theorem wJ_mk {q : Nat} {x : Int32} {v : Int64} {T : aH → Prop} (h : LAY[q]? = some (.inl 2)) : wJ (mk f g j c) q x v T = (inb x (j q).length = true ∧ T (mk f g (up1 j q ((j q).set x.toNatClampNeg v)) c)) := by
  unfold wJ wrJ
  rw [mk_at h]
  have := LAY_lt h
  by_cases e : inb x (j q).length = true
  · simp only [cellW, if_true, e, this, and_self, true_and]
    rw [set_j h]
    simp
  · simp [cellW, e]
theorem aN_mk {q t : Nat} {T : Nat → Prop} (ht : t < 4) (h2 : ¬ t = 2) (h : LAY[q]? = some (.inl t)) : aN scr (mk f g j c) q T = T (g q).length := by
  unfold aN lenA
  rw [mk_cell h]
  have : t < 6 := by omega
  simp [cellW, h2, ht, this]
theorem aNJ_mk {q : Nat} {T : Nat → Prop} (h : LAY[q]? = some (.inl 2)) : aN scr (mk f g j c) q T = T (j q).length := by
  unfold aN lenA
  rw [mk_cell h]
  simp [cellW]
theorem aR_mk {q t : Nat} {x : Int32} {T : Nat → Prop} (ht : t = 4 ∨ t = 5) (h : LAY[q]? = some (.inl t)) : aR (mk f g j c) q x T = (inb x (rwR t).length = true ∧ ∃ v, (rwR t).getD x.toNatClampNeg none = some v ∧ T v) := by
  unfold aR rdR
  rw [mk_at h]
  have := LAY_lt h
  by_cases e : inb x (rwR t).length = true
  · rcases ht with rfl | rfl <;> simp [cellW, e, this]
  · rcases ht with rfl | rfl <;> simp [cellW, e]
theorem cP_mk {sq dq t : Nat} {n : Int32} {T : aH → Prop} (ht : t = 0 ∨ t = 1) (h1 : LAY[sq]? = some (.inl t)) (h2 : LAY[dq]? = some (.inl t)) (hn : (g sq).length = n.toNatClampNeg) (hn2 : (g dq).length = n.toNatClampNeg) (hp : ¬ n < 0) (hfit : (g sq).all (fun x => fits (aTy t) (.int x)) = true) : cP (mk f g j c) sq dq n T = T (mk f (up1 g dq (g sq)) j c) := by
  have ht4 : t < 4 := by omega
  have ht2 : ¬ t = 2 := by omega
  have hw : cpA (mk f g j c) sq dq n = some (mk f (up1 g dq (g sq)) j c) := by
    unfold cpA
    rw [mk_at h1, mk_at h2]
    simp only [cellW, ht2, ht4, if_true, if_false]
    rw [if_pos ⟨trivial, ht, hn, hn2, hp, LAY_lt h1, LAY_lt h2, hfit⟩, set_g ht4 ht2 h2]
  unfold cP
  rw [hw]
  simp
end WD
/-- a row's number at a place, a row with another number there -/
def lg (l : List Int32) (x : Int32) : Int32 := l.getD x.toNatClampNeg 0
def ls (l : List Int32) (x v : Int32) : List Int32 := l.set x.toNatClampNeg v
def lgJ (l : List Int64) (x : Int32) : Int64 := l.getD x.toNatClampNeg 0
def lsJ (l : List Int64) (x : Int32) (v : Int64) : List Int64 := l.set x.toNatClampNeg v
theorem ls_len (l : List Int32) (x v : Int32) : (ls l x v).length = l.length := by simp [ls]
theorem lsJ_len (l : List Int64) (x : Int32) (v : Int64) : (lsJ l x v).length = l.length := by simp [lsJ]
