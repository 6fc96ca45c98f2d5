variable {scr : List Int32}
-- ===== the law of the two machines =====
theorem gU {w : Jvm.Cond} (h : w ∈ lw_tbl) (hg : goodWord w = true) : w ∈ uT ∧ ((w.onTables && w.keeps) = true ∨ ∃ ty, w = .arrayClass ty) := ⟨uM h (by simp [okW, hg]), good_of_word hg⟩
theorem gM {y : Nat} (h : y < 237) : GoodIn uT (wsM y) := by
  intro w hw
  rcases List.mem_cons.mp hw with rfl | hw
  · exact gU (cd_at h) rfl
  · exact gU (List.mem_filter.mp hw).1 (List.mem_filter.mp hw).2
def RetOk (y : Nat) (i : Instr) (v : Option Value) : Prop :=
  (i = .ireturn ∧ ∃ x, v = some (.int x) ∧ retI y x = true) ∨ (i = .lreturn ∧ ∃ x, v = some (.long x) ∧ mRet y = some .long) ∨ (i = .areturn ∧ ∃ x, v = some (.ref x) ∧ retR y = true) ∨ (i = .return_ ∧ v = none ∧ mRet y = none)
theorem ret_MQ {p : Program} {l : Launch} {e : Env} {R : Room} {s : State} {m : MethodId} {args : Array Value} {below : List Frame} {meth : Method} {c : Code} {D : va_G} {cA : Nat → ClassId} {sz0 : Nat} {ro ad0 : Nat → Nat} {n0 y : Nat} {u : Option Value × aH}
    (hc : Cx p s m args meth c y) (hK : va_K D vwCl (tyL cA) s) {i : Instr} {pc : Nat} (hi : RetOk y i u.1) (hd : decode (mAt y).2.1 pc = .ok (i, 1))
    {ad : Nat → Nat} {H : Heap} {locs : List Loc} {cells slots : Nat} {ls : Array Slot} {L : List Value} (hr : Rel D cA sz0 ro s (mMax y) ad u.2 H locs ls L) (ha : ∀ k, (k < n0 ∨ u.2.length ≤ k) → ad k = ad0 k)
    (hb1 : cells ≤ R.cells) (hb2 : slots ≤ R.slots) :
    W p l e R s m args below meth c H locs cells slots (MQ below (aPost D cA sz0 ro ad0 n0 u.1 u.2) args s R.cells R.slots (A0 sz0)) (F0 m pc ls (u.1.toList.map (tv ad))) := by
  obtain ⟨hx, hb, hml, hret, hown, hts, hlk, hnm⟩ := hc
  obtain ⟨hP, hD, hS, hl, hro⟩ := hr
  have hq : ∀ t : State, t.heap = H → s.WarmedH t.vm → aPost D cA sz0 ro ad0 n0 u.1 u.2 args s (.returned (u.1.map (tv ad))) t := fun t ht hW =>
    ⟨ad, ha, hro, rfl, by rw [ht]; exact hP, hD, va_K.moved hW.alike hK, hS.F ht⟩
  refine W.widen (k := R.cells) (n := R.slots) hb1 hb2 ?_
  obtain ⟨v, hF⟩ := u
  rcases hi with ⟨rfl, x, h1, h2⟩ | ⟨rfl, x, h1, h2⟩ | ⟨rfl, x, h1, h2⟩ | ⟨rfl, h1, h2⟩
  · simp only at h1
    subst h1
    unfold retI at h2
    split at h2
    · rename_i ht
      exact W.iret hx hb (hret.trans ht) hq hS.2.2 hd
    · rename_i ht
      exact W.zret hx hb (hret.trans ht) (of_decide_eq_true h2) hq hS.2.2 hd
    · cases h2
  · simp only at h1
    subst h1
    exact W.lret hx hb (hret.trans h2) hq hS.2.2 hd
  · simp only at h1
    subst h1
    unfold retR at h2
    split at h2
    · rename_i ht
      exact W.aret hx hb (hret.trans ht) (Or.inl ⟨_, rfl⟩) (Or.inr ⟨_, rfl⟩) hq hS.2.2 hd
    · rename_i ht
      exact W.aret hx hb (hret.trans ht) (Or.inr ⟨_, rfl⟩) (Or.inr ⟨_, rfl⟩) hq hS.2.2 hd
    · cases h2
  · simp only at h1
    subst h1
    exact W.vret hx hb (hret.trans h2) hq hS.2.2 hd
def SimAt (scr : List Int32) (n : Nat) : Prop := ∀ (al : Bool) (d y pc : Nat) (L st : List Value) (h : aH) (u : Option Value × aH), run scr n al d y pc L st h = some u →
  ∀ (p : Program) (l : Launch) (e : Env) (R : Room) (s : State) (m : MethodId) (args : Array Value) (below : List Frame) (meth : Method) (c : Code) (D : va_G) (cA : Nat → ClassId) (sz0 : Nat) (ro : Nat → Nat),
  Cx p s m args meth c y → d ≤ R.frames → 64 * d + 64 ≤ R.locals → va_K D vwCl (tyL cA) s → Gl scr ro (A0 sz0) s s.heap → sz0 ≤ s.heap.size →
  ∀ (Q : State → Prop) (ad0 : Nat → Nat) (n0 : Nat),
  (∀ (i : Instr) (pc' : Nat) (ad' : Nat → Nat) (H' : Heap) (locs' : List Loc) (cells' slots' : Nat) (ls' : Array Slot) (L' : List Value), RetOk y i u.1 → decode (mAt y).2.1 pc' = .ok (i, 1) → Rel D cA sz0 ro s (mMax y) ad' u.2 H' locs' ls' L' → (∀ k, (k < n0 ∨ u.2.length ≤ k) → ad' k = ad0 k) → cells' ≤ R.cells → slots' ≤ R.slots →
    W p l e R s m args below meth c H' locs' cells' slots' Q (F0 m pc' ls' (u.1.toList.map (tv ad')))) →
  ∀ (ad : Nat → Nat) (H : Heap) (locs : List Loc) (cells slots : Nat) (ls : Array Slot), Rel D cA sz0 ro s (mMax y) ad h H locs ls L → n0 ≤ h.length → (∀ k, (k < n0 ∨ u.2.length ≤ k) → ad k = ad0 k) →
  cells + (u.2.length - h.length) ≤ R.cells → slots + (slt u.2 - slt h) ≤ R.slots →
  W p l e R s m args below meth c H locs cells slots Q (F0 m pc ls (st.map (tv ad)))
theorem met_of {n : Nat} (S : SimAt scr n) (l : Launch) {al : Bool} {d y : Nat} {As : List Value} {h : aH} {u : Option Value × aH} (hrun : run scr n al d y 0 (iniL y As) [] h = some u) (hy : y < 237) (hsp : (sprd As).length ≤ mMax y)
    {D : va_G} {cA : Nat → ClassId} {sz0 : Nat} {ro ad : Nat → Nat} (hro : ∀ k, 9000 ≤ k → ad k = ro k) :
    Met l (mAt y).1 (wsM y) (rmM d (u.2.length - h.length) (slt u.2 - slt h)) (aPre scr D cA sz0 ro ad h As) (aPost D cA sz0 ro ad h.length u.1 u.2) (u.2.length - h.length) (slt u.2 - slt h) (A0 sz0) := by
  obtain ⟨q, hq, rfl⟩ := mp_at hy
  obtain ⟨n1, n2, n3, n4, n5, n6, n7⟩ := mpN_ok q hq
  obtain ⟨m1, m2, m3, m4⟩ := mpT_ok q hq
  refine Met.ofWF (cc := (mAt q.1).2.1) (maxL := mMax q.1) (ret := mRet q.1) n3 rfl ?_
  intro p e s m args below meth c s₁ B hml hv
  obtain ⟨rfl, hP, hK, hD, hz, hG⟩ := hv
  have hts0 := atoms_spec (ws := wsM q.1) B.pre
  have hown : s.vm.findClass (cN (mCi q.1)) = some m.cls := by rw [← m3]; exact findClass_of_methodNamed B.named
  have hnm : meth.name = (mAt q.1).1.name := (name_of_methodNamed B.named B.method).1
  have hts : ∀ w ∈ uT, w.before (As.map (tv ad)).toArray s = true := by
    intro w hw
    obtain ⟨hw1, hw2⟩ := List.mem_filter.mp hw
    unfold okW at hw2
    by_cases hg : goodWord w = true
    · exact hts0 w (List.mem_cons_of_mem _ (List.mem_filter.mpr ⟨hw1, hg⟩))
    · have hb : bad4 w = true := by simpa [hg] using hw2
      exact bad_warm hb (State.WarmedH.refl s) (hG.2.2.2.2 w hw1 hb)
  have hc : Cx p s m (As.map (tv ad)).toArray meth c q.1 := ⟨B.exec, B.bytes, hml, B.returns, hown, hts, B.notSynchronized, fun _ => hnm⟩
  rw [lg_entry_eq]
  have hrel : Rel D cA sz0 ro s (mMax q.1) ad h s.heap [] ((lg_sl (As.map (tv ad)) ++ List.replicate (mMax q.1 - (lg_sl (As.map (tv ad))).length) Slot.unset).toArray) (iniL q.1 As) := ⟨hP, hD, va_S.rf, iniL_LV ad hsp, hro⟩
  exact S al d q.1 0 (iniL q.1 As) [] h u hrun p l e (rmM d (u.2.length - h.length) (slt u.2 - slt h)) s m _ below meth c D cA sz0 ro hc (Nat.le_refl _) (Nat.le_refl _) hK hG hz _ ad h.length
    (fun i pc' ad' H' locs' cells' slots' ls' L' h1 h2 h3 h4 h5 h6 => ret_MQ hc hK h1 h2 h3 h4 h5 h6) ad s.heap [] 0 0 _ hrel (Nat.le_refl _) (fun _ _ => rfl) (by simp [rmM]) (by simp [rmM])
theorem cutA_inv {y : Nat} {st : List Value} {q : List Value × List Value} (h : cutA y st = some q) : st = q.1.reverse ++ q.2 ∧ q.1.length = mNA y := by
  unfold cutA at h
  split at h
  · cases h
    exact ⟨by simp, by simp; omega⟩
  · cases h
theorem vOk_inv {h : aH} {As : List Value} {y : Nat} (hv : vOk scr h As y = true) : ∃ q0 r fs, As = .ref q0 :: r ∧ cellAt scr h q0 = some (.inr (mCi y, fs)) := by
  unfold vOk at hv
  split at hv
  · split at hv
    · rename_i ci fs he
      have : ci = mCi y := by simpa using hv
      subst this
      exact ⟨_, _, _, rfl, he⟩
    · cases hv
  · cases hv
theorem aRecv {D : va_G} {cA : Nat → ClassId} {sz0 : Nat} {ro ad : Nat → Nat} {s : State} {h : aH} {H : Heap} {locs : List Loc} (hK : va_K D vwCl (tyL cA) s) (hG : Gl scr ro (A0 sz0) s s.heap) (hP : va_P D vwCl (tw ad cA h) H) (hS : va_S (A0 sz0) s.heap H locs) (hro : ∀ k, 9000 ≤ k → ad k = ro k)
    {q0 ci : Nat} {fs : List Value} (he : cellAt scr h q0 = some (.inr (ci, fs))) : ∃ cellB : Cell, H[ad q0]? = some cellB ∧ cellB.vm.isStatics = false ∧ s.vm.findClass (cN ci) = some cellB.cls := by
  unfold cellAt at he
  split at he
  · obtain ⟨r, h1, -⟩ := hP q0 _ (tw_at he)
    have h10 : ci < 10 := (List.getElem?_eq_some_iff.mp h1).1
    exact va_recv hK hP (vwCl_at h10) (tw_at he)
  · obtain ⟨i, rfl, hi, rfl, rfl⟩ := roC_obj he
    obtain ⟨cell, h1, h2, h3, -⟩ := (hG.2.2.1 i hi).1.kept hS.2.1
    rw [hro _ (by omega)]
    exact ⟨cell, h1, h2, h3⟩
theorem cat_sum (ad : Nat → Nat) (r : List Value) : ((r.map (tv ad)).map fun v => v.category).sum = (r.map fun v => v.category).sum := by
  rw [List.map_map]
  congr 1
  exact List.map_congr_left (fun v _ => tv_cat ad v)
theorem okV_tv {ad ad' : Nat → Nat} {lo hi : Nat} (h : ∀ k, (k < lo ∨ hi ≤ k) → ad' k = ad k) (h5 : ad' 50000 = ad 50000) {v : Value} (hv : okV lo hi v = true) : tv ad' v = tv ad v := by
  cases v with
  | ref k => simp only [okV, Bool.or_eq_true, decide_eq_true_eq] at hv; simp only [tv]; rw [h k hv]
  | retAddr k => simp only [tv]; rw [h5]
  | _ => rfl
