variable {scr : List Int32}
-- ===== the small machine beside the machine: values, cells, locals =====
def A0 (sz0 : Nat) : Nat → Prop := fun q => sz0 ≤ q
def tv (ad : Nat → Nat) (v : Value) : Value := match v with
  | .ref k => .ref (ad k)
  | .retAddr _ => (match ad 50000 with | 0 => .null | t + 1 => .ref t)
  | v => v
theorem tv_cat (ad : Nat → Nat) (v : Value) : (tv ad v).category = v.category := by
  cases v with
  | retAddr k => simp only [tv]; cases ad 50000 <;> rfl
  | _ => rfl
def te (ad : Nat → Nat) (cA : Nat → ClassId) (e : aC) : va_E := match e with
  | .inl (t, .inl l) => .inl (cA t, l.length, .inl (fun k => l.getD k 0))
  | .inl (t, .inr (.inl l)) => .inl (cA t, l.length, .inr (.inl (fun k => l.getD k 0)))
  | .inl (t, .inr (.inr l)) => .inl (cA t, l.length, .inr (.inr (.inr (.inr (fun k => (l.getD k none).map ad)))))
  | .inr (ci, fs) => .inr (ci, fs.map (tv ad))
def tw (ad : Nat → Nat) (cA : Nat → ClassId) (h : aH) : va_W := h.mapIdx (fun k e => (ad k, te ad cA e))
theorem tw_get (ad : Nat → Nat) (cA : Nat → ClassId) (h : aH) (k : Nat) : (tw ad cA h)[k]? = (h[k]?).map (fun e => (ad k, te ad cA e)) := by
  simp [tw, List.getElem?_mapIdx]
theorem tw_at {ad : Nat → Nat} {cA : Nat → ClassId} {h : aH} {k : Nat} {e : aC} (he : h[k]? = some e) : (tw ad cA h)[k]? = some (ad k, te ad cA e) := by rw [tw_get, he]; rfl
theorem tw_set (ad : Nat → Nat) (cA : Nat → ClassId) (h : aH) (k : Nat) (e : aC) : (tw ad cA h).set k (ad k, te ad cA e) = tw ad cA (h.set k e) := by
  apply List.ext_getElem?
  intro j
  rw [List.getElem?_set, tw_get, tw_get, List.getElem?_set]
  have hl : (tw ad cA h).length = h.length := by simp [tw]
  rw [hl]
  by_cases hj : k = j
  · subst hj
    simp only [if_true]
    split <;> rfl
  · simp only [if_neg hj]
theorem tw_app (ad : Nat → Nat) (cA : Nat → ClassId) (h : aH) (e : aC) : tw ad cA (h ++ [e]) = tw ad cA h ++ [(ad h.length, te ad cA e)] := by
  simp [tw, List.mapIdx_append]
def tyL (cA : Nat → ClassId) : List (ClassId × FieldType) := [(cA 0, aTy 0), (cA 1, aTy 1), (cA 2, aTy 2), (cA 3, aTy 3), (cA 4, aTy 4), (cA 5, aTy 5)]
theorem tyL_get (cA : Nat → ClassId) {t : Nat} (h : t < 6) : (tyL cA)[t]? = some (cA t, aTy t) := by
  match t, h with
  | 0, _ => rfl
  | 1, _ => rfl
  | 2, _ => rfl
  | 3, _ => rfl
  | 4, _ => rfl
  | 5, _ => rfl
def szC (e : aC) : Nat := match e with
  | .inl (_, .inl l) => l.length
  | .inl (_, .inr (.inl l)) => l.length
  | .inl (_, .inr (.inr l)) => l.length
  | .inr (_, fs) => fs.length
def slt (h : aH) : Nat := (h.map szC).sum
theorem slt_set {e : aC} : ∀ {h : aH} {q : Nat} {e0 : aC}, h[q]? = some e0 → szC e = szC e0 → slt (h.set q e) = slt h
  | [], _, _, hq, _ => by simp at hq
  | x :: h, 0, e0, hq, hs => by simp at hq; subst hq; simp [slt, hs]
  | x :: h, q + 1, e0, hq, hs => by
    have := slt_set (h := h) (q := q) (e0 := e0) (by simpa using hq) hs
    simp only [slt, List.set_cons_succ, List.map_cons, List.sum_cons] at this ⊢
    rw [this]
theorem slt_app (h : aH) (e : aC) : slt (h ++ [e]) = slt h + szC e := by simp [slt]
theorem upd_getD {l : List Int32} {i : Nat} {v : Int32} (h : i < l.length) : upd (fun k => l.getD k 0) i v = fun k => (l.set i v).getD k 0 := by
  funext k
  simp only [upd, List.getD_eq_getElem?_getD, List.getElem?_set]
  by_cases hk : k = i
  · subst hk; simp [h]
  · simp [hk, Ne.symm hk]
theorem updL_getD {l : List Int64} {i : Nat} {v : Int64} (h : i < l.length) : vp_updL (fun k => l.getD k 0) i v = fun k => (l.set i v).getD k 0 := by
  funext k
  simp only [vp_updL, List.getD_eq_getElem?_getD, List.getElem?_set]
  by_cases hk : k = i
  · subst hk; simp [h]
  · simp [hk, Ne.symm hk]
theorem updR_getD {ad : Nat → Nat} {l : List (Option Nat)} {i x : Nat} (h : i < l.length) : va_up (fun k => (l.getD k none).map ad) i (some (ad x)) = fun k => ((l.set i (some x)).getD k none).map ad := by
  funext k
  simp only [va_up, List.getD_eq_getElem?_getD, List.getElem?_set]
  by_cases hk : k = i
  · subst hk; simp [h]
  · simp [hk, Ne.symm hk]
def LV (ad : Nat → Nat) (nL : Nat) (ls : Array Slot) (L : List Value) : Prop := L.length = nL ∧ ∃ l, lv_has ls nL l ∧ ∀ (i : Nat) (v : Value), L[i]? = some v → v ≠ .null → (i, tv ad v) ∈ l
theorem LV.at {ad : Nat → Nat} {nL : Nat} {ls : Array Slot} {L : List Value} (h : LV ad nL ls L) {i : Nat} {v : Value} (hi : L[i]? = some v) (hn : v ≠ .null) : ls[i]? = some (.val (tv ad v)) := by
  obtain ⟨-, l, h1, h2⟩ := h
  exact h1.2.2 _ (h2 i v hi hn)
theorem LV.size {ad : Nat → Nat} {nL : Nat} {ls : Array Slot} {L : List Value} (h : LV ad nL ls L) : ls.size = nL := by
  obtain ⟨-, l, h1, h2⟩ := h
  exact h1.1
theorem LV.set1 {ad : Nat → Nat} {nL : Nat} {ls' : Array Slot} {L : List Value} {l : List (Nat × Value)} (hlen : L.length = nL) (h2 : ∀ (i : Nat) (v : Value), L[i]? = some v → v ≠ .null → (i, tv ad v) ∈ l) {i : Nat} {v : Value} (hi : i < L.length)
    (h' : lv_has ls' nL ((i, tv ad v) :: l.filter (fun q => !(q.1 == i) && !(q.1 + 1 == i && q.2.category == 2)))) : LV ad nL ls' (s1L L i v) := by
  refine ⟨by rw [s1L_len]; exact hlen, _, h', fun j w hj hw => ?_⟩
  rcases s1L_get L i v j w hi hj hw with ⟨rfl, rfl⟩ | ⟨a, b, c⟩
  · exact List.mem_cons_self
  · refine List.mem_cons_of_mem _ (List.mem_filter.mpr ⟨h2 j w b hw, ?_⟩)
    simp only [tv_cat, Bool.and_eq_true, Bool.not_eq_true', beq_eq_false_iff_ne, Bool.and_eq_false_iff]
    refine ⟨a, ?_⟩
    by_cases e : j + 1 = i
    · exact Or.inr (fun q => c ⟨e, q⟩)
    · exact Or.inl e
theorem LV.set2 {ad : Nat → Nat} {nL : Nat} {ls' : Array Slot} {L : List Value} {l : List (Nat × Value)} (hlen : L.length = nL) (h2 : ∀ (i : Nat) (v : Value), L[i]? = some v → v ≠ .null → (i, tv ad v) ∈ l) {i : Nat} {v : Value} (hi : i < L.length)
    (h' : lv_has ls' nL ((i, tv ad v) :: l.filter (fun q => !(q.1 == i) && (!(q.1 == i + 1) && !(q.1 + 1 == i && q.2.category == 2))))) : LV ad nL ls' (s2L L i v) := by
  refine ⟨by simp only [s2L, List.length_set, s1L_len]; exact hlen, _, h', fun j w hj hw => ?_⟩
  rcases s2L_get L i v j w hi hj hw with ⟨rfl, rfl⟩ | ⟨a, a2, b, c⟩
  · exact List.mem_cons_self
  · refine List.mem_cons_of_mem _ (List.mem_filter.mpr ⟨h2 j w b hw, ?_⟩)
    simp only [tv_cat, Bool.and_eq_true, Bool.not_eq_true', beq_eq_false_iff_ne, Bool.and_eq_false_iff]
    refine ⟨a, a2, ?_⟩
    by_cases e : j + 1 = i
    · exact Or.inr (fun q => c ⟨e, q⟩)
    · exact Or.inl e
theorem LV.ad {ad ad' : Nat → Nat} {nL : Nat} {ls : Array Slot} {L : List Value} (h : LV ad nL ls L) (he : ∀ v ∈ L, tv ad' v = tv ad v) : LV ad' nL ls L := by
  obtain ⟨h0, l, h1, h2⟩ := h
  exact ⟨h0, l, h1, fun i v hi hn => by rw [he v (List.mem_of_getElem? hi)]; exact h2 i v hi hn⟩
theorem nrV_tv {ad : Nat → Nat} {n q : Nat} (hn : n < 9000) {v : Value} (h : nrV n v = true) : tv (fun k => if k = n then q else ad k) v = tv ad v := by
  cases v with
  | ref k =>
    simp only [nrV, Bool.not_eq_true', beq_eq_false_iff_ne] at h
    simp only [tv, if_neg h]
  | retAddr k => simp only [tv]; rw [if_neg (by omega)]
  | _ => rfl
theorem nrC_te {ad : Nat → Nat} {cA : Nat → ClassId} {n q : Nat} (hn : n < 9000) {e : aC} (h : nrC n e = true) : te (fun k => if k = n then q else ad k) cA e = te ad cA e := by
  match e, h with
  | .inl (t, .inl l), _ => rfl
  | .inl (t, .inr (.inl l)), _ => rfl
  | .inl (t, .inr (.inr l)), h =>
    simp only [nrC, List.all_eq_true, Bool.not_eq_true', beq_eq_false_iff_ne] at h
    simp only [te]
    congr 7
    funext k
    cases hk : l[k]? with
    | none => simp [List.getD_eq_getElem?_getD, hk]
    | some o =>
      cases o with
      | none => simp [List.getD_eq_getElem?_getD, hk]
      | some x =>
        have hx := h _ (List.mem_of_getElem? hk)
        have hx2 : ¬ x = n := fun q => hx (by rw [q])
        simp [List.getD_eq_getElem?_getD, hk, hx2]
  | .inr (ci, fs), h =>
    simp only [nrC, List.all_eq_true] at h
    simp only [te]
    congr 2
    exact List.map_congr_left (fun v hv => nrV_tv hn (h v hv))
theorem nr_tw {ad : Nat → Nat} {cA : Nat → ClassId} {q : Nat} {h : aH} (hn : h.length < 9000) (hw : h.all (nrC h.length) = true) : tw (fun k => if k = h.length then q else ad k) cA h = tw ad cA h := by
  apply List.ext_getElem?
  intro j
  rw [tw_get, tw_get]
  cases hj : h[j]? with
  | none => rfl
  | some e =>
    have hlt : j < h.length := (List.getElem?_eq_some_iff.mp hj).1
    have hne : ¬ j = h.length := by omega
    simp only [Option.map_some, if_neg hne]
    rw [nrC_te hn (List.all_eq_true.mp hw e (List.mem_of_getElem? hj))]
-- what stands outside: static rows, texts
def bad4 (w : Jvm.Cond) : Bool := match w with
  | .fieldLinkNest _ _ _ _ _ _ => true
  | .methodLinkNest _ _ _ _ => true
  | .stringRef _ _ _ => true
  | .arrayOver (.object _) => true
  | _ => false
def okW (w : Jvm.Cond) : Bool := goodWord w || bad4 w
def uT : List Jvm.Cond := lw_tbl.filter okW
theorem uM {w : Jvm.Cond} (h : w ∈ lw_tbl) (h2 : okW w = true) : w ∈ uT := List.mem_filter.mpr ⟨h, h2⟩
theorem inU (ci : Nat) (h : ci < 10) : ∀ w ∈ u_ws (cN ci) (fun k => TT ci k) (NN ci), w ∈ uT := by
  intro w hw
  refine uM ((inT_ok ci h).2.2.1 w hw) ?_
  unfold u_ws at hw
  obtain ⟨k, -, rfl⟩ := List.mem_map.mp hw
  unfold u_lay
  split <;> rfl
theorem bad_warm {w : Jvm.Cond} (hb : bad4 w = true) {s U : State} {A A' : Array Value} (hW : s.WarmedH U.vm) (h : w.before A s = true) : w.before A' U = true := by
  cases w with
  | fieldLinkNest a i b n d g => exact va_Nw.use rfl (va_Nw.warmF hW (va_Nw.of rfl h))
  | methodLinkNest a i x g => exact va_Nw.use rfl (va_Nw.warmM hW (va_Nw.of rfl h))
  | stringRef own k tx =>
    have h1 : (Cond.stringRef own k tx).before A (s.setVm U.vm) = true := Cond.stringRef_warmed hW h
    exact h1
  | arrayOver t =>
    cases t with
    | object C => exact va_AO.use (va_AO.moved hW.alike (va_AO.of h))
    | _ => cases hb
  | _ => cases hb
def Gl (scr : List Int32) (ro : Nat → Nat) (A : Nat → Prop) (U : State) (H : Heap) : Prop :=
  (∀ j, j < 5 → va_Z (stCl j) (stNm j) (stDs j) (tv ro (aSv j)) A U H) ∧
  (∀ j, j < 4 → va_T .int (ro (10000 + j)) ((roSt scr).getD j []).length (fun k => .int (((roSt scr).getD j []).getD k 0)) A U H) ∧
  (∀ i, i < roStr.length → va_O "java/lang/String" (ro (20000 + i)) A U H ∧ va_OF "java/lang/String" "coder" "B" (.int 0) (ro (20000 + i)) A U H ∧ va_OF "java/lang/String" "value" "[B" (.ref (ro (30000 + i))) (ro (20000 + i)) A U H ∧ va_T .byte (ro (30000 + i)) (roStr.getD i []).length (fun k => .int ((roStr.getD i []).getD k 0)) A U H) ∧
  (∀ q ∈ srT, ∃ tx, vk_R (cN q.1) q.2.1 tx (ro (20000 + q.2.2)) U) ∧ (∀ w ∈ lw_tbl, bad4 w = true → w.before #[] U = true)
theorem Gl.to {ro : Nat → Nat} {A : Nat → Prop} {s U : State} {H : Heap} (h : Gl scr ro A s s.heap) (hW : s.WarmedH U.vm) (hk : ∀ q : Nat, q < s.heap.size → ¬ A q → H[q]? = s.heap[q]?) : Gl scr ro A U H := by
  obtain ⟨h1, h2, h3, h4, h5⟩ := h
  refine ⟨fun j hj => ((h1 j hj).moved hW.alike).kept hk, fun j hj => ((h2 j hj).moved hW.alike).kept hk, fun i hi => ?_, fun q hq => ?_, fun w hw hb => bad_warm hb hW (h5 w hw hb)⟩
  · obtain ⟨a, b, c, d⟩ := h3 i hi
    exact ⟨(a.moved hW.alike).kept hk, (b.moved hW.alike).kept hk, (c.moved hW.alike).kept hk, (d.moved hW.alike).kept hk⟩
  · obtain ⟨tx, ht⟩ := h4 q hq
    exact ⟨tx, ht.warm hW⟩
theorem roC_obj {q c : Nat} {fs : List Value} (h : roC scr q = some (.inr (c, fs))) : ∃ i, q = 20000 + i ∧ i < roStr.length ∧ c = 10 ∧ fs = [.ref (30000 + i), .int 0] := by
  unfold roC at h
  split at h
  · split at h <;> cases h
  · split at h
    · split at h
      · cases h
        exact ⟨q - 20000, by omega, by assumption, rfl, by rw [show 30000 + (q - 20000) = q + 10000 by omega]⟩
      · cases h
    · split at h <;> cases h
theorem roC_arr {q t : Nat} {l : List Int32} (hq : ¬ q < 10000) (h : roC scr q = some (.inl (t, .inl l))) : (∃ j, j < 4 ∧ q = 10000 + j ∧ t = 1 ∧ l = (roSt scr).getD j []) ∨ ∃ i, i < roStr.length ∧ q = 30000 + i ∧ t = 0 ∧ l = roStr.getD i [] := by
  unfold roC at h
  split at h
  · split at h
    · rename_i l' hl
      cases h
      have hlt : q - 10000 < (roSt scr).length := (List.getElem?_eq_some_iff.mp hl).1
      exact Or.inl ⟨q - 10000, hlt, by omega, rfl, by rw [List.getD_eq_getElem?_getD, hl]; rfl⟩
    · cases h
  · split at h
    · split at h <;> cases h
    · split at h
      · rename_i l' hl
        cases h
        have hlt : q - 30000 < roStr.length := (List.getElem?_eq_some_iff.mp hl).1
        exact Or.inr ⟨q - 30000, hlt, by omega, rfl, by rw [List.getD_eq_getElem?_getD, hl]; rfl⟩
      · cases h
theorem roC_no {q t : Nat} {x : List Int64 ⊕ List (Option Nat)} (h : roC scr q = some (.inl (t, .inr x))) : False := by
  unfold roC at h
  split at h
  · split at h <;> cases h
  · split at h
    · split at h <;> cases h
    · split at h <;> cases h
theorem vwCl_at {a : Nat} (h : a < 10) : vwCl[a]? = some (cN a, (fun k => TT a k), NN a) := by
  have h1 := (inT_ok a h).2.2.2
  cases hv : vwCl[a]? with
  | none => rw [hv] at h1; cases h1
  | some c =>
    rw [hv] at h1
    simp only [Option.map_some, Option.some.injEq] at h1
    obtain ⟨c1, c2, c3⟩ := c
    simp only at h1
    subst h1
    have e1 : (fun k => TT a k) = c2 := by funext k; simp [TT, hv]
    have e2 : NN a = c3 := by simp [NN, hv]
    rw [e1, e2]
theorem aFty_ok : ∀ a, a < 10 → ∀ k, k < NN a → parseFieldDescriptor (TT a k).2.2.1 = some (aFty a k) := by decide +kernel
theorem aNm_ok : ∀ a, a < 10 → ∀ x, x < NN a → ∀ y, y < NN a → x ≠ y → (TT a x).2.1 ≠ (TT a y).2.1 := by decide +kernel
theorem aDef_ok : ∀ a, a < 10 → ∀ j, j < NN a → defaultValue (aFty a j) = vp_V (aDef a) j := by decide +kernel
def plV (v : Value) : Bool := match v with
  | .ref _ => false
  | .retAddr _ => false
  | _ => true
theorem plV_tv {ad : Nat → Nat} {v : Value} (h : plV v = true) : tv ad v = v := by
  cases v <;> first | rfl | cases h
theorem aDef_len : ∀ a, a < 10 → (aDef a).length = NN a ∧ (aDef a).all plV = true ∧ (∀ j, j < NN a → (TT a j).1 = cN a) := by decide +kernel
theorem aDef_tv {ad : Nat → Nat} {a : Nat} (h : a < 10) : (aDef a).map (tv ad) = aDef a := by
  have h1 := List.all_eq_true.mp (aDef_len a h).2.1
  conv => rhs; rw [← List.map_id (aDef a)]
  exact List.map_congr_left (fun v hv => plV_tv (h1 v hv))
theorem aFin_eq {a b : Nat} (h : a < 10) : aFin a b = (TT a b).2.2.2 := by
  unfold aFin
  rw [vwCl_at h]
theorem m4_inv {T : List (Nat × Nat × Nat × Nat × Nat)} {a b c d : Nat} (h : m4 T a b c d = true) : ∃ e, (a, b, c, d, e) ∈ T := by
  obtain ⟨q, hq, h1⟩ := List.any_eq_true.mp h
  simp only [Bool.and_eq_true, beq_iff_eq] at h1
  obtain ⟨q1, q2, q3, q4, q5⟩ := q
  obtain ⟨e1, e2, e3, e4⟩ := h1
  subst e1 e2 e3 e4
  exact ⟨q5, hq⟩
theorem m3_inv {T : List (Nat × Nat × Nat × Nat)} {a b c : Nat} (h : m3 T a b c = true) : ∃ e, (a, b, c, e) ∈ T := by
  obtain ⟨q, hq, h1⟩ := List.any_eq_true.mp h
  simp only [Bool.and_eq_true, beq_iff_eq] at h1
  obtain ⟨q1, q2, q3, q4⟩ := q
  obtain ⟨e1, e2, e3⟩ := h1
  subst e1 e2 e3
  exact ⟨q4, hq⟩
