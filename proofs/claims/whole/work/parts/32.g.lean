variable {scr : List Int32}
-- ===== the constructors: fills on any heap, a scene wiped =====
section CT6
variable {d y pc : Nat} {L st : List Value} {h l : aH} {K : Option Value → aH → Prop} {a b n N ci : Nat} {fs : List Value}
theorem ex_some {α : Type} {x : α} {k : α → Prop} : (∃ v, some x = some v ∧ k v) = k x := by simp
theorem fl_pure {g : List Int32} {i k n : Nat} {v : Int32} (hi : i + (k + 1) = n) (hg : g.length = n) : (g.set i v).take (i + 1) ++ List.replicate k v = g.take i ++ List.replicate (k + 1) v := by
  apply List.ext_getElem?
  intro m
  simp only [List.getElem?_append, List.getElem?_take, List.getElem?_set, List.getElem?_replicate, List.length_take, List.length_set, hg]
  by_cases h1 : m < i
  · have : ¬ i = m := by omega
    simp [this, show min (i + 1) n = i + 1 by omega, show min i n = i by omega, h1, show m < i + 1 by omega]
  · by_cases h2 : m = i
    · subst h2
      simp [show min (m + 1) n = m + 1 by omega, show min m n = m by omega, show m < n by omega]
    · simp [show min (i + 1) n = i + 1 by omega, show min i n = i by omega, h1, show ¬ m < i + 1 by omega]
      by_cases h3 : m - (i + 1) < k
      · simp [h3, show m - i < k + 1 by omega]
      · simp [h3, show ¬ m - i < k + 1 by omega]
theorem get_set {α : Type} {h : List α} {q : Nat} {x z : α} (e : h[q]? = some x) : (h.set q z)[q]? = some z := by
  rw [List.getElem?_set, if_pos rfl, if_pos (List.getElem?_eq_some_iff.mp e).1]
theorem fl_I {q n : Nat} (hq : q < 10000) (hn : n < 2 ^ 31) {v : Int32} : ∀ (k i : Nat) (h : aH) (g : List Int32), i + k = n → g.length = n → h[q]? = some (.inl (1, .inl g)) →
    E scr false d 234 5 [.ref q, .int v, .int (nI i), .int (nI n)] [] h K = K none (h.set q (.inl (1, .inl (g.take i ++ List.replicate k v))))
  | 0, i, h, g, hi, hg, hh => by
    rw [b234_5, if_pos (nI_le (a := n) (b := i) (by omega) (by omega)), List.replicate_zero, List.append_nil, List.take_of_length_le (by omega), set_same hh]
  | k + 1, i, h, g, hi, hg, hh => by
    have hw : wrA h q 1 (nI i) v = some (h.set q (.inl (1, .inl (g.set i v)))) := by
      unfold wrA
      rw [hh]
      dsimp only
      rw [if_pos ⟨rfl, by rw [inb_nI (by omega)]; simp; omega, hq⟩, nI_clamp (by omega)]
    rw [b234_5, if_neg (nI_ge (by omega) hn)]
    unfold wI
    rw [hw, ex_some, nI_1, fl_I hq hn k (i + 1) _ (g.set i v) (by omega) (by rw [List.length_set]; exact hg) (get_set hh), List.set_set, fl_pure hi hg]
theorem fl_B {q n : Nat} (hq : q < 10000) (hn : n < 2 ^ 31) {v : Int32} (hv : v.toInt8.toInt32 = v) : ∀ (k i : Nat) (h : aH) (g : List Int32), i + k = n → g.length = n → h[q]? = some (.inl (0, .inl g)) →
    E scr false d 235 5 [.ref q, .int v, .int (nI i), .int (nI n)] [] h K = K none (h.set q (.inl (0, .inl (g.take i ++ List.replicate k v))))
  | 0, i, h, g, hi, hg, hh => by
    rw [b235_5, if_pos (nI_le (a := n) (b := i) (by omega) (by omega)), List.replicate_zero, List.append_nil, List.take_of_length_le (by omega), set_same hh]
  | k + 1, i, h, g, hi, hg, hh => by
    have hw : wrA h q 0 (nI i) v = some (h.set q (.inl (0, .inl (g.set i v)))) := by
      unfold wrA
      rw [hh]
      dsimp only
      rw [if_pos ⟨rfl, by rw [inb_nI (by omega)]; simp; omega, hq⟩, nI_clamp (by omega)]
    rw [b235_5, if_neg (nI_ge (by omega) hn)]
    unfold wB
    rw [hv, hw]
    dsimp only
    rw [ex_some, nI_1, fl_B hq hn hv k (i + 1) _ (g.set i v) (by omega) (by rw [List.length_set]; exact hg) (get_set hh), List.set_set, fl_pure hi hg]
theorem get_ap {α : Type} {h l : List α} {i : Nat} : (h ++ l)[h.length + i]? = l[i]? := by
  rw [List.getElem?_append_right (by omega), show h.length + i - h.length = i by omega]
theorem set_ap {α : Type} {h l : List α} {i : Nat} {x : α} : (h ++ l).set (h.length + i) x = h ++ l.set i x := by
  rw [List.set_append_right _ _ (by omega), show h.length + i - h.length = i by omega]
theorem ff_I {i k q : Nat} {v z : Int32} {T : aH → Prop} (hn : h.length = n) (hi : l[i]? = some (.inl (1, .inl (List.replicate k z)))) (hq : n + i = q) (h9 : q < 10000) (hk : k < 2 ^ 31) : sV scr d 234 [.ref q, .int v] (h ++ l) T = T (h ++ l.set i (.inl (1, .inl (List.replicate k v)))) := by
  subst hn
  subst hq
  unfold sV
  have hh : (h ++ l)[h.length + i]? = some (.inl (1, .inl (List.replicate k z))) := by rw [get_ap]; exact hi
  have hl : lenA scr (h ++ l) (h.length + i) = some k := by
    unfold lenA cellAt
    rw [if_pos h9, hh]
    dsimp only
    rw [if_pos (by decide), List.length_replicate]
  rw [en234, b234_0]
  unfold aN
  rw [hl, ex_some]
  show E scr false d 234 5 [.ref (h.length + i), .int v, .int (nI 0), .int (nI k)] [] (h ++ l) _ = _
  rw [fl_I h9 hk k 0 _ _ (by omega) (by simp) hh, set_ap]
  simp
theorem ff_B {i k q : Nat} {v z : Int32} {T : aH → Prop} (hn : h.length = n) (hi : l[i]? = some (.inl (0, .inl (List.replicate k z)))) (hq : n + i = q) (h9 : q < 10000) (hk : k < 2 ^ 31) (hv : v.toInt8.toInt32 = v) : sV scr d 235 [.ref q, .int v] (h ++ l) T = T (h ++ l.set i (.inl (0, .inl (List.replicate k v)))) := by
  subst hn
  subst hq
  unfold sV
  have hh : (h ++ l)[h.length + i]? = some (.inl (0, .inl (List.replicate k z))) := by rw [get_ap]; exact hi
  have hl : lenA scr (h ++ l) (h.length + i) = some k := by
    unfold lenA cellAt
    rw [if_pos h9, hh]
    dsimp only
    rw [if_pos (by decide), List.length_replicate]
  rw [en235, b235_0]
  unfold aN
  rw [hl, ex_some]
  show E scr false d 235 5 [.ref (h.length + i), .int v, .int (nI 0), .int (nI k)] [] (h ++ l) _ = _
  rw [fl_B h9 hk hv k 0 _ _ (by omega) (by simp) hh, set_ap]
  simp
theorem gR_ap {x b : Nat} {T : Nat → Prop} (hn : h.length = n) (h9 : n < 10000) (hb : fs[b]? = some (.ref x)) : gR scr (h ++ (.inr (ci, fs) :: l)) n ci b T = T x := by
  subst hn
  unfold gR
  have e : rdF scr (h ++ (.inr (ci, fs) :: l)) h.length ci b = some (.ref x) := by
    unfold rdF cellAt
    rw [if_pos h9, show (h ++ (.inr (ci, fs) :: l))[h.length]? = (h ++ (.inr (ci, fs) :: l))[h.length + 0]? from rfl, get_ap]
    dsimp only [List.getElem?_cons_zero]
    rw [if_pos rfl, hb]
  rw [e]
  simp
theorem pF_ap {b : Nat} {v : Value} {T : aH → Prop} (hn : h.length = n) (h9 : n < 10000) (hb : fs[b]? = some v) : pF (h ++ (.inr (ci, fs) :: l)) n ci b v T = T (h ++ (.inr (ci, fs) :: l)) := by
  subst hn
  unfold pF
  have hlt : b < fs.length := (List.getElem?_eq_some_iff.mp hb).1
  have e : wrF (h ++ (.inr (ci, fs) :: l)) h.length ci b v = some (h ++ (.inr (ci, fs) :: l)) := by
    have := wrF_ap (h := h) (l := .inr (ci, fs) :: l) (i := 0) (ci := ci) (k := b) (fs := fs) (v := v) rfl hlt (by omega)
    rw [set_same hb] at this
    exact this
  rw [e, ex_some]
theorem vOk_ap {As : List Value} (hn : h.length = n) (h9 : n < 10000) (hc : mCi y = ci) : vOk scr (h ++ (.inr (ci, fs) :: l)) (.ref n :: As) y = true := by
  subst hn
  unfold vOk cellAt
  dsimp only
  rw [if_pos h9, show (h ++ (.inr (ci, fs) :: l))[h.length]? = (h ++ (.inr (ci, fs) :: l))[h.length + 0]? from rfl, get_ap]
  simp [hc]
/-- the fields of a scene at n -/
def scFs (n : Nat) : List Value := [.int 0, .int 0, .int 0, .int 0, .int 0, .int 0, .int 0, .int 0, .ref (n + 1), .ref (n + 2), .ref (n + 3), .ref (n + 4), .ref (n + 5), .ref (n + 6), .ref (n + 7), .ref (n + 8), .ref (n + 9)]
/-- its rows, with v where nobody stands -/
def scRs (v : Int32) : aH := [.inl (0, .inl (List.replicate 144 0)), .inl (0, .inl (List.replicate 144 v)), .inl (1, .inl (List.replicate 14 v)), .inl (1, .inl (List.replicate 12 0)), .inl (1, .inl (List.replicate 12 0)), .inl (1, .inl (List.replicate 12 v)), .inl (1, .inl (List.replicate 40 0)), .inl (1, .inl (List.replicate 40 0)), .inl (1, .inl (List.replicate 40 0))]
def scCs (n : Nat) : aH := .inr (5, scFs n) :: scRs (-1)
theorem mi50c : mCi 50 = 5 := by decide +kernel
theorem wipe_new {T : aH → Prop} (hn : h.length = n) (h9 : n < 8000) : vV scr (d + 1) 50 [.ref n] (h ++ (.inr (5, scFs n) :: scRs 0)) T = T (h ++ scCs n) := by
  have h1 : n < 10000 := by omega
  unfold vV
  rw [vOk_ap hn h1 mi50c, en50, b50_0]
  rw [pF_ap hn h1 rfl, pF_ap hn h1 rfl, pF_ap hn h1 rfl, pF_ap hn h1 rfl, pF_ap hn h1 rfl, pF_ap hn h1 rfl, pF_ap hn h1 rfl, pF_ap hn h1 rfl]
  rw [gR_ap (x := n + 2) hn h1 rfl, ff_B (i := 2) (k := 144) (z := 0) hn rfl rfl (by omega) (by decide) (by decide)]
  show (_ ∧ gR scr (h ++ (.inr (5, scFs n) :: [.inl (0, .inl (List.replicate 144 0)), .inl (0, .inl (List.replicate 144 (-1))), .inl (1, .inl (List.replicate 14 0)), .inl (1, .inl (List.replicate 12 0)), .inl (1, .inl (List.replicate 12 0)), .inl (1, .inl (List.replicate 12 0)), .inl (1, .inl (List.replicate 40 0)), .inl (1, .inl (List.replicate 40 0)), .inl (1, .inl (List.replicate 40 0))])) n 5 10 _) = _
  rw [gR_ap (x := n + 3) hn h1 rfl, ff_I (i := 3) (k := 14) (z := 0) hn rfl rfl (by omega) (by decide)]
  show (_ ∧ gR scr (h ++ (.inr (5, scFs n) :: [.inl (0, .inl (List.replicate 144 0)), .inl (0, .inl (List.replicate 144 (-1))), .inl (1, .inl (List.replicate 14 (-1))), .inl (1, .inl (List.replicate 12 0)), .inl (1, .inl (List.replicate 12 0)), .inl (1, .inl (List.replicate 12 0)), .inl (1, .inl (List.replicate 40 0)), .inl (1, .inl (List.replicate 40 0)), .inl (1, .inl (List.replicate 40 0))])) n 5 13 _) = _
  rw [gR_ap (x := n + 6) hn h1 rfl, ff_I (i := 6) (k := 12) (z := 0) hn rfl rfl (by omega) (by decide)]
  show (_ ∧ none = none ∧ T (h ++ scCs n)) = T (h ++ scCs n)
  simp
end CT6
