variable {scr : List Int32}
-- ===== one instruction of the small machine is one of the machine =====
def Cx (p : Program) (s : State) (m : MethodId) (args : Array Value) (meth : Method) (c : Code) (y : Nat) : Prop :=
  p.tables.exec = Jvm.exec ∧ c.code = (mAt y).2.1 ∧ c.maxLocals = mMax y ∧ meth.sig.returnType = mRet y ∧ s.vm.findClass (cN (mCi y)) = some m.cls ∧ (∀ w ∈ uT, w.before args s = true) ∧ meth.locks = false ∧ (mIni y ≠ none → meth.name = (mAt y).1.name)
def Rel (D : va_G) (cA : Nat → ClassId) (sz0 : Nat) (ro : Nat → Nat) (s : State) (nL : Nat) (ad : Nat → Nat) (h : aH) (H : Heap) (locs : List Loc) (ls : Array Slot) (L : List Value) : Prop :=
  va_P D vwCl (tw ad cA h) H ∧ va_D (A0 sz0) (tw ad cA h) ∧ va_S (A0 sz0) s.heap H locs ∧ LV ad nL ls L ∧ ∀ k, 9000 ≤ k → ad k = ro k
theorem lt_of_inb {x : Int32} {n : Nat} (h : inb x n = true) : x.toNatClampNeg < n := Nat.not_le.mp fun q => (inb_iff.mp h) (Or.inr q)
theorem mIni_some {y a : Nat} (h : mIni y = some a) : (mAt y).1.name = "<init>" ∧ mCi y = a := by
  unfold mIni at h
  split at h
  · exact ⟨by assumption, Option.some.inj h⟩
  · cases h
set_option maxHeartbeats 4000000 in
set_option maxRecDepth 100000 in
theorem stp_sim {p : Program} {l : Launch} {e : Env} {R : Room} {s : State} {m : MethodId} {args : Array Value} {below : List Frame} {meth : Method} {c : Code} {D : va_G} {cA : Nat → ClassId} {sz0 : Nat} {ro : Nat → Nat} {y : Nat}
    (hc : Cx p s m args meth c y) (hK : va_K D vwCl (tyL cA) s) (hG : Gl scr ro (A0 sz0) s s.heap) (hz : sz0 ≤ s.heap.size)
    {al : Bool} {i : Instr} {len a b pc : Nat} {L st : List Value} {h : aH} {w : aF} (hs : stp scr al (mIni y) i len a b pc L st h = some w) (hd : decode (mAt y).2.1 pc = .ok (i, len)) (hok : okRb (mCi y) i a b = true)
    {ad : Nat → Nat} {H : Heap} {locs : List Loc} {cells slots : Nat} {ls : Array Slot} {Q : State → Prop} (hr : Rel D cA sz0 ro s (mMax y) ad h H locs ls L)
    (hbud : cells + (w.2.2.2.length - h.length) ≤ R.cells ∧ slots + (slt w.2.2.2 - slt h) ≤ R.slots)
    (kk : ∀ (ad' : Nat → Nat) (H' : Heap) (locs' : List Loc) (ls' : Array Slot) (cells' slots' : Nat), Rel D cA sz0 ro s (mMax y) ad' w.2.2.2 H' locs' ls' w.2.1 → (∀ k, (k < h.length ∨ w.2.2.2.length ≤ k) → ad' k = ad k) → cells' + h.length = cells + w.2.2.2.length → slots' + slt h = slots + slt w.2.2.2 →
      W p l e R s m args below meth c H' locs' cells' slots' Q (F0 m w.1 ls' (w.2.2.1.map (tv ad')))) :
    W p l e R s m args below meth c H locs cells slots Q (F0 m pc ls (st.map (tv ad))) := by
  obtain ⟨hx, hb, hml, hret, hown, hts, hlk, hnm⟩ := hc
  obtain ⟨hP, hD, hS, hl, hro⟩ := id hr
  have k0 : ∀ (pc' : Nat) (st' : List Value), w = (pc', L, st', h) → W p l e R s m args below meth c H locs cells slots Q (F0 m pc' ls (st'.map (tv ad))) := by
    rintro _ _ rfl
    exact kk ad H locs ls cells slots hr (fun _ _ => rfl) rfl rfl
  have kw : ∀ (pc' : Nat) (st' : List Value) (q : Nat) (e0 e1 : aC), h[q]? = some e0 → szC e1 = szC e0 → w = (pc', L, st', h.set q e1) → ∀ (H1 : Heap) (locs1 : List Loc), va_P D vwCl ((tw ad cA h).set q (ad q, te ad cA e1)) H1 → va_D (A0 sz0) ((tw ad cA h).set q (ad q, te ad cA e1)) → va_S (A0 sz0) s.heap H1 locs1 → W p l e R s m args below meth c H1 locs1 cells slots Q (F0 m pc' ls (st'.map (tv ad))) := by
    rintro pc' st' q e0 e1 h1 h2 rfl H1 locs1 hP1 hD1 hS1
    rw [tw_set] at hP1 hD1
    exact kk ad H1 locs1 ls cells slots ⟨hP1, hD1, hS1, hl, hro⟩ (fun _ _ => rfl) (by simp) (by rw [slt_set h1 h2])
  have hA : ∀ q, s.heap.size ≤ q → A0 sz0 q := fun q hq => Nat.le_trans hz hq
  cases i <;> (try (simp only [stp, reduceCtorEq] at hs; done))
  case iconst n =>
    obtain ⟨rfl, h1⟩ := lenO_inv hs
    cases h1
    exact lv_iconst hx hb hd rfl (k0 _ _ rfl)
  case bipush n =>
    obtain ⟨rfl, h1⟩ := lenO_inv hs
    cases h1
    exact lv_bipush hx hb hd rfl (k0 _ _ rfl)
  case sipush n =>
    obtain ⟨rfl, h1⟩ := lenO_inv hs
    cases h1
    exact lv_sipush hx hb hd rfl (k0 _ _ rfl)
  case lconst n =>
    obtain ⟨rfl, h1⟩ := lenO_inv hs
    cases h1
    exact lv_lconst hx hb hd rfl (k0 _ _ rfl)
  case ldc k =>
    obtain ⟨rfl, h1⟩ := lenO_inv hs
    cases h1
    simp only [okRb] at hok
    by_cases h0 : b = 0
    · rw [if_pos h0] at hok
      obtain ⟨ps, hm⟩ := m3_inv hok
      have k1 := k0 _ _ rfl
      rw [if_pos h0] at k1
      exact lv_ldc hx hb hown (hts _ (uM (List.mem_of_getElem? (ksT_ok _ hm)) rfl)) hd k1
    · rw [if_neg h0] at hok
      obtain ⟨q, hq, h2⟩ := List.any_eq_true.mp hok
      simp only [Bool.and_eq_true, beq_iff_eq] at h2
      obtain ⟨q1, q2, q3⟩ := q
      obtain ⟨e3, e4, e5⟩ := h2
      subst e3 e4 e5
      have hm := hq
      obtain ⟨tx, ht⟩ := hG.2.2.2.1 _ hm
      have e1 : ro (20000 + q3) = ad (20000 + q3) := (hro _ (by omega)).symm
      have k1 := k0 _ _ rfl
      rw [if_neg h0] at k1
      exact va_ldcS (tx := tx) hx hb hown ht hd (by rw [e1]; exact k1)
  case ldc_w k =>
    obtain ⟨rfl, h1⟩ := lenO_inv hs
    cases h1
    simp only [okRb] at hok
    by_cases h0 : b = 0
    · rw [if_pos h0] at hok
      obtain ⟨ps, hm⟩ := m3_inv hok
      have k1 := k0 _ _ rfl
      rw [if_pos h0] at k1
      exact lv_ldcw hx hb hown (hts _ (uM (List.mem_of_getElem? (ksT_ok _ hm)) rfl)) hd k1
    · rw [if_neg h0] at hok
      obtain ⟨q, hq, h2⟩ := List.any_eq_true.mp hok
      simp only [Bool.and_eq_true, beq_iff_eq] at h2
      obtain ⟨q1, q2, q3⟩ := q
      obtain ⟨e3, e4, e5⟩ := h2
      subst e3 e4 e5
      have hm := hq
      obtain ⟨tx, ht⟩ := hG.2.2.2.1 _ hm
      have e1 : ro (20000 + q3) = ad (20000 + q3) := (hro _ (by omega)).symm
      have k1 := k0 _ _ rfl
      rw [if_neg h0] at k1
      intro T hT X
      obtain ⟨t, a1, b1⟩ := k1 T hT X
      exact ⟨t, X.ldcStringW hx hown (text := tx) (a := ro (20000 + q3)) ht.1 ht.2 (g := F0 m pc ls (st.map (tv ad))) rfl (by rw [hb]; exact hd) t (by rw [e1]; exact a1), b1⟩
  case ldc2_w k =>
    obtain ⟨rfl, h1⟩ := lenO_inv hs
    cases h1
    simp only [okRb] at hok
    obtain ⟨ps, hm⟩ := m3_inv hok
    exact lv_ldc2 hx hb hown (hts _ (uM (List.mem_of_getElem? (klT_ok _ hm)) rfl)) hd (k0 _ _ rfl)
  case iload_n k =>
    obtain ⟨rfl, h1⟩ := lenO_inv hs
    obtain ⟨x, hx1, g1⟩ := lI_inv h1
    cases g1
    exact lv_iload_n hx hb hd rfl (hl.at hx1 (fun q => by cases q)) (k0 _ _ rfl)
  case iload k =>
    obtain ⟨rfl, h1⟩ := lenO_inv hs
    obtain ⟨x, hx1, g1⟩ := lI_inv h1
    cases g1
    exact lv_iload hx hb hd (hl.at hx1 (fun q => by cases q)) (k0 _ _ rfl)
  case lload_n k =>
    obtain ⟨rfl, h1⟩ := lenO_inv hs
    obtain ⟨x, hx1, g1⟩ := lJ_inv h1
    cases g1
    exact lv_lload_n hx hb hd rfl (hl.at hx1 (fun q => by cases q)) (k0 _ _ rfl)
  case lload k =>
    obtain ⟨rfl, h1⟩ := lenO_inv hs
    obtain ⟨x, hx1, g1⟩ := lJ_inv h1
    cases g1
    exact lv_lload hx hb hd (hl.at hx1 (fun q => by cases q)) (k0 _ _ rfl)
  case aload_n k =>
    obtain ⟨rfl, h1⟩ := lenO_inv hs
    obtain ⟨x, hx1, g1⟩ := lR_inv h1
    cases g1
    exact lv_aload_n hx hb hd rfl (hl.at hx1 (fun q => by cases q)) (k0 _ _ rfl)
  case aload k =>
    obtain ⟨rfl, h1⟩ := lenO_inv hs
    obtain ⟨x, hx1, g1⟩ := lR_inv h1
    cases g1
    exact lv_aload hx hb hd (hl.at hx1 (fun q => by cases q)) (k0 _ _ rfl)
  case istore_n k =>
    obtain ⟨rfl, h1⟩ := lenO_inv hs
    obtain ⟨x, r, rfl, g1⟩ := pI_inv h1
    obtain ⟨hk, g2⟩ := atL_inv g1
    cases g2
    have hk := of_decide_eq_true hk
    obtain ⟨hl0, l0, hl1, hl2⟩ := hl
    refine lv_istore_n hx hb hd rfl hl1 (by omega) rfl (fun ls1 hls1 => ?_)
    exact kk ad H locs ls1 cells slots ⟨hP, hD, hS, LV.set1 hl0 hl2 (by omega) hls1, hro⟩ (fun _ _ => rfl) rfl rfl
  case istore k =>
    obtain ⟨rfl, h1⟩ := lenO_inv hs
    obtain ⟨x, r, rfl, g1⟩ := pI_inv h1
    obtain ⟨hk, g2⟩ := atL_inv g1
    cases g2
    have hk := of_decide_eq_true hk
    obtain ⟨hl0, l0, hl1, hl2⟩ := hl
    refine lv_istore hx hb hd  hl1 (by omega) rfl (fun ls1 hls1 => ?_)
    exact kk ad H locs ls1 cells slots ⟨hP, hD, hS, LV.set1 hl0 hl2 (by omega) hls1, hro⟩ (fun _ _ => rfl) rfl rfl
  case lstore_n k =>
    obtain ⟨rfl, h1⟩ := lenO_inv hs
    obtain ⟨x, r, rfl, g1⟩ := pL_inv h1
    obtain ⟨hk, g2⟩ := atL_inv g1
    cases g2
    have hk := of_decide_eq_true hk
    obtain ⟨hl0, l0, hl1, hl2⟩ := hl
    refine lv_lstore_n hx hb hd rfl hl1 (by omega) rfl (fun ls1 hls1 => ?_)
    exact kk ad H locs ls1 cells slots ⟨hP, hD, hS, LV.set2 hl0 hl2 (by omega) hls1, hro⟩ (fun _ _ => rfl) rfl rfl
  case lstore k =>
    obtain ⟨rfl, h1⟩ := lenO_inv hs
    obtain ⟨x, r, rfl, g1⟩ := pL_inv h1
    obtain ⟨hk, g2⟩ := atL_inv g1
    cases g2
    have hk := of_decide_eq_true hk
    obtain ⟨hl0, l0, hl1, hl2⟩ := hl
    refine lv_lstore hx hb hd  hl1 (by omega) rfl (fun ls1 hls1 => ?_)
    exact kk ad H locs ls1 cells slots ⟨hP, hD, hS, LV.set2 hl0 hl2 (by omega) hls1, hro⟩ (fun _ _ => rfl) rfl rfl
  case astore_n k =>
    obtain ⟨rfl, h1⟩ := lenO_inv hs
    obtain ⟨x, r, rfl, g1⟩ := pR_inv h1
    obtain ⟨hk, g2⟩ := atL_inv g1
    cases g2
    have hk := of_decide_eq_true hk
    obtain ⟨hl0, l0, hl1, hl2⟩ := hl
    refine lv_astore_n hx hb hd rfl hl1 (by omega) rfl (fun ls1 hls1 => ?_)
    exact kk ad H locs ls1 cells slots ⟨hP, hD, hS, LV.set1 hl0 hl2 (by omega) hls1, hro⟩ (fun _ _ => rfl) rfl rfl
  case astore k =>
    obtain ⟨rfl, h1⟩ := lenO_inv hs
    obtain ⟨x, r, rfl, g1⟩ := pR_inv h1
    obtain ⟨hk, g2⟩ := atL_inv g1
    cases g2
    have hk := of_decide_eq_true hk
    obtain ⟨hl0, l0, hl1, hl2⟩ := hl
    refine lv_astore hx hb hd  hl1 (by omega) rfl (fun ls1 hls1 => ?_)
    exact kk ad H locs ls1 cells slots ⟨hP, hD, hS, LV.set1 hl0 hl2 (by omega) hls1, hro⟩ (fun _ _ => rfl) rfl rfl
  case iinc k n =>
    obtain ⟨rfl, h1⟩ := lenO_inv hs
    obtain ⟨x, hx1, g1⟩ := lI_inv h1
    obtain ⟨hk, g2⟩ := atL_inv g1
    cases g2
    have hk := of_decide_eq_true hk
    obtain ⟨hl0, l0, hl1, hl2⟩ := hl
    obtain ⟨z, hz1⟩ := List.getElem?_of_mem (hl2 k _ hx1 (fun q => by cases q))
    refine lv_iinc hx hb hd hl1 hz1 rfl (by omega) rfl (fun ls1 hls1 => ?_)
    exact kk ad H locs ls1 cells slots ⟨hP, hD, hS, LV.set1 hl0 hl2 (v := .int (x + Int32.ofInt n)) (by omega) hls1, hro⟩ (fun _ _ => rfl) rfl rfl
  case iadd =>
    obtain ⟨rfl, h1⟩ := lenO_inv hs
    obtain ⟨y1, r1, rfl, g1⟩ := pI_inv h1
    obtain ⟨x1, r2, rfl, g2⟩ := pI_inv g1
    cases g2
    exact lv_iadd hx hb hd (k0 _ _ rfl)
  case isub =>
    obtain ⟨rfl, h1⟩ := lenO_inv hs
    obtain ⟨y1, r1, rfl, g1⟩ := pI_inv h1
    obtain ⟨x1, r2, rfl, g2⟩ := pI_inv g1
    cases g2
    exact lv_isub hx hb hd (k0 _ _ rfl)
  case imul =>
    obtain ⟨rfl, h1⟩ := lenO_inv hs
    obtain ⟨y1, r1, rfl, g1⟩ := pI_inv h1
    obtain ⟨x1, r2, rfl, g2⟩ := pI_inv g1
    cases g2
    exact lv_imul hx hb hd (k0 _ _ rfl)
  case iand =>
    obtain ⟨rfl, h1⟩ := lenO_inv hs
    obtain ⟨y1, r1, rfl, g1⟩ := pI_inv h1
    obtain ⟨x1, r2, rfl, g2⟩ := pI_inv g1
    cases g2
    exact lv_iand hx hb hd (k0 _ _ rfl)
  case ior =>
    obtain ⟨rfl, h1⟩ := lenO_inv hs
    obtain ⟨y1, r1, rfl, g1⟩ := pI_inv h1
    obtain ⟨x1, r2, rfl, g2⟩ := pI_inv g1
    cases g2
    exact lv_ior hx hb hd (k0 _ _ rfl)
  case ixor =>
    obtain ⟨rfl, h1⟩ := lenO_inv hs
    obtain ⟨y1, r1, rfl, g1⟩ := pI_inv h1
    obtain ⟨x1, r2, rfl, g2⟩ := pI_inv g1
    cases g2
    exact lv_ixor hx hb hd (k0 _ _ rfl)
  case ishl =>
    obtain ⟨rfl, h1⟩ := lenO_inv hs
    obtain ⟨y1, r1, rfl, g1⟩ := pI_inv h1
    obtain ⟨x1, r2, rfl, g2⟩ := pI_inv g1
    cases g2
    exact lv_ishl hx hb hd (k0 _ _ rfl)
  case ishr =>
    obtain ⟨rfl, h1⟩ := lenO_inv hs
    obtain ⟨y1, r1, rfl, g1⟩ := pI_inv h1
    obtain ⟨x1, r2, rfl, g2⟩ := pI_inv g1
    cases g2
    exact lv_ishr hx hb hd (k0 _ _ rfl)
  case iushr =>
    obtain ⟨rfl, h1⟩ := lenO_inv hs
    obtain ⟨y1, r1, rfl, g1⟩ := pI_inv h1
    obtain ⟨x1, r2, rfl, g2⟩ := pI_inv g1
    cases g2
    exact lv_iushr hx hb hd rfl (k0 _ _ rfl)
  case ladd =>
    obtain ⟨rfl, h1⟩ := lenO_inv hs
    obtain ⟨y1, r1, rfl, g1⟩ := pL_inv h1
    obtain ⟨x1, r2, rfl, g2⟩ := pL_inv g1
    cases g2
    exact lv_ladd hx hb hd (k0 _ _ rfl)
  case lsub =>
    obtain ⟨rfl, h1⟩ := lenO_inv hs
    obtain ⟨y1, r1, rfl, g1⟩ := pL_inv h1
    obtain ⟨x1, r2, rfl, g2⟩ := pL_inv g1
    cases g2
    exact lv_lsub hx hb hd (k0 _ _ rfl)
  case lmul =>
    obtain ⟨rfl, h1⟩ := lenO_inv hs
    obtain ⟨y1, r1, rfl, g1⟩ := pL_inv h1
    obtain ⟨x1, r2, rfl, g2⟩ := pL_inv g1
    cases g2
    exact lv_lmul hx hb hd (k0 _ _ rfl)
  case land =>
    obtain ⟨rfl, h1⟩ := lenO_inv hs
    obtain ⟨y1, r1, rfl, g1⟩ := pL_inv h1
    obtain ⟨x1, r2, rfl, g2⟩ := pL_inv g1
    cases g2
    exact lv_land hx hb hd (k0 _ _ rfl)
  case lor =>
    obtain ⟨rfl, h1⟩ := lenO_inv hs
    obtain ⟨y1, r1, rfl, g1⟩ := pL_inv h1
    obtain ⟨x1, r2, rfl, g2⟩ := pL_inv g1
    cases g2
    exact lv_lor hx hb hd (k0 _ _ rfl)
  case idiv =>
    obtain ⟨rfl, h1⟩ := lenO_inv hs
    obtain ⟨y1, r1, rfl, g1⟩ := pI_inv h1
    obtain ⟨x1, r2, rfl, g2⟩ := pI_inv g1
    obtain ⟨hne, g3⟩ := atL_inv g2
    cases g3
    simp only [Bool.not_eq_true', decide_eq_false_iff_not] at hne
    exact lv_idiv hx hb hd hne (k0 _ _ rfl)
  case irem =>
    obtain ⟨rfl, h1⟩ := lenO_inv hs
    obtain ⟨y1, r1, rfl, g1⟩ := pI_inv h1
    obtain ⟨x1, r2, rfl, g2⟩ := pI_inv g1
    obtain ⟨hne, g3⟩ := atL_inv g2
    cases g3
    simp only [Bool.not_eq_true', decide_eq_false_iff_not] at hne
    exact lv_irem hx hb hd hne (k0 _ _ rfl)
  case ldiv =>
    obtain ⟨rfl, h1⟩ := lenO_inv hs
    obtain ⟨y1, r1, rfl, g1⟩ := pL_inv h1
    obtain ⟨x1, r2, rfl, g2⟩ := pL_inv g1
    obtain ⟨hne, g3⟩ := atL_inv g2
    cases g3
    simp only [Bool.not_eq_true', decide_eq_false_iff_not] at hne
    exact lv_ldiv hx hb hd hne (k0 _ _ rfl)
  case lrem =>
    obtain ⟨rfl, h1⟩ := lenO_inv hs
    obtain ⟨y1, r1, rfl, g1⟩ := pL_inv h1
    obtain ⟨x1, r2, rfl, g2⟩ := pL_inv g1
    obtain ⟨hne, g3⟩ := atL_inv g2
    cases g3
    simp only [Bool.not_eq_true', decide_eq_false_iff_not] at hne
    exact lv_lrem hx hb hd hne (k0 _ _ rfl)
  case lshl =>
    obtain ⟨rfl, h1⟩ := lenO_inv hs
    obtain ⟨y1, r1, rfl, g1⟩ := pI_inv h1
    obtain ⟨x1, r2, rfl, g2⟩ := pL_inv g1
    cases g2
    exact lv_lshl hx hb hd rfl (k0 _ _ rfl)
  case lcmp =>
    obtain ⟨rfl, h1⟩ := lenO_inv hs
    obtain ⟨y1, r1, rfl, g1⟩ := pL_inv h1
    obtain ⟨x1, r2, rfl, g2⟩ := pL_inv g1
    cases g2
    exact W.lcmp hx hb hd (k0 _ _ rfl)
  case ineg =>
    obtain ⟨rfl, h1⟩ := lenO_inv hs
    obtain ⟨x1, r1, rfl, g1⟩ := pI_inv h1
    cases g1
    exact lv_ineg hx hb hd (k0 _ _ rfl)
  case i2l =>
    obtain ⟨rfl, h1⟩ := lenO_inv hs
    obtain ⟨x1, r1, rfl, g1⟩ := pI_inv h1
    cases g1
    exact lv_i2l hx hb hd rfl (k0 _ _ rfl)
  case i2b =>
    obtain ⟨rfl, h1⟩ := lenO_inv hs
    obtain ⟨x1, r1, rfl, g1⟩ := pI_inv h1
    cases g1
    exact lv_i2b hx hb hd rfl (k0 _ _ rfl)
  case i2c =>
    obtain ⟨rfl, h1⟩ := lenO_inv hs
    obtain ⟨x1, r1, rfl, g1⟩ := pI_inv h1
    cases g1
    exact lv_i2c hx hb hd rfl (k0 _ _ rfl)
  case dup =>
    obtain ⟨rfl, h1⟩ := lenO_inv hs
    split at h1
    · obtain ⟨hv, g1⟩ := atL_inv h1
      cases g1
      exact lv_dup hx hb hd (by rw [tv_cat]; exact of_decide_eq_true hv) (k0 _ _ rfl)
    · cases h1
  case pop =>
    obtain ⟨rfl, h1⟩ := lenO_inv hs
    split at h1
    · obtain ⟨hv, g1⟩ := atL_inv h1
      cases g1
      exact lv_pop hx hb hd (by rw [tv_cat]; exact of_decide_eq_true hv) (k0 _ _ rfl)
    · cases h1
  case dup2 =>
    obtain ⟨rfl, h1⟩ := lenO_inv hs
    split at h1
    · obtain ⟨hv, g1⟩ := atL_inv h1
      cases g1
      simp only [Bool.and_eq_true, decide_eq_true_eq] at hv
      exact lv_dup2_11 hx hb hd (by rw [tv_cat]; exact hv.1) (by rw [tv_cat]; exact hv.2) (k0 _ _ rfl)
    · cases h1
  case ifCond cd off =>
    obtain ⟨rfl, h1⟩ := lenO_inv hs
    obtain ⟨x1, r1, rfl, g1⟩ := pI_inv h1
    obtain ⟨t, ht, g2⟩ := oB_inv g1
    cases g2
    cases cd with
    | eq => exact lv_if_eq hx hb hd (jmp_eq ht) (fun q => by have k1 := k0 _ _ rfl; rw [if_pos (by simp [cmpB, q])] at k1; exact k1) (fun q => by have k1 := k0 _ _ rfl; rw [if_neg (by simp [cmpB, q])] at k1; exact k1)
    | ne => exact lv_if_ne hx hb hd (jmp_eq ht) (fun q => by have k1 := k0 _ _ rfl; rw [if_pos (by simp [cmpB, q])] at k1; exact k1) (fun q => by have k1 := k0 _ _ rfl; rw [if_neg (by simp [cmpB, q])] at k1; exact k1)
    | lt => exact lv_if_lt hx hb hd (jmp_eq ht) (fun q => by have k1 := k0 _ _ rfl; rw [if_pos (by simp [cmpB, q])] at k1; exact k1) (fun q => by have k1 := k0 _ _ rfl; rw [if_neg (by simp [cmpB, q])] at k1; exact k1)
    | ge => exact lv_if_ge hx hb hd (jmp_eq ht) (fun q => by have k1 := k0 _ _ rfl; rw [if_pos (by simp [cmpB, q])] at k1; exact k1) (fun q => by have k1 := k0 _ _ rfl; rw [if_neg (by simp [cmpB, q])] at k1; exact k1)
    | gt => exact lv_if_gt hx hb hd (jmp_eq ht) (fun q => by have k1 := k0 _ _ rfl; rw [if_pos (by simp [cmpB, q])] at k1; exact k1) (fun q => by have k1 := k0 _ _ rfl; rw [if_neg (by simp [cmpB, q])] at k1; exact k1)
    | le => exact lv_if_le hx hb hd (jmp_eq ht) (fun q => by have k1 := k0 _ _ rfl; rw [if_pos (by simp [cmpB, q])] at k1; exact k1) (fun q => by have k1 := k0 _ _ rfl; rw [if_neg (by simp [cmpB, q])] at k1; exact k1)
  case if_icmp cd off =>
    obtain ⟨rfl, h1⟩ := lenO_inv hs
    obtain ⟨y1, r1, rfl, g1⟩ := pI_inv h1
    obtain ⟨x1, r2, rfl, g2⟩ := pI_inv g1
    obtain ⟨t, ht, g3⟩ := oB_inv g2
    cases g3
    cases cd with
    | eq => exact lv_icmp_eq hx hb hd (jmp_eq ht) (fun q => by have k1 := k0 _ _ rfl; rw [if_pos (by simp [cmpB, q])] at k1; exact k1) (fun q => by have k1 := k0 _ _ rfl; rw [if_neg (by simp [cmpB, q])] at k1; exact k1)
    | ne => exact lv_icmp_ne hx hb hd (jmp_eq ht) (fun q => by have k1 := k0 _ _ rfl; rw [if_pos (by simp [cmpB, q])] at k1; exact k1) (fun q => by have k1 := k0 _ _ rfl; rw [if_neg (by simp [cmpB, q])] at k1; exact k1)
    | lt => exact lv_icmp_lt hx hb hd (jmp_eq ht) (fun q => by have k1 := k0 _ _ rfl; rw [if_pos (by simp [cmpB, q])] at k1; exact k1) (fun q => by have k1 := k0 _ _ rfl; rw [if_neg (by simp [cmpB, q])] at k1; exact k1)
    | ge => exact lv_icmp_ge hx hb hd (jmp_eq ht) (fun q => by have k1 := k0 _ _ rfl; rw [if_pos (by simp [cmpB, q])] at k1; exact k1) (fun q => by have k1 := k0 _ _ rfl; rw [if_neg (by simp [cmpB, q])] at k1; exact k1)
    | gt => exact lv_icmp_gt hx hb hd (jmp_eq ht) (fun q => by have k1 := k0 _ _ rfl; rw [if_pos (by simp [cmpB, q])] at k1; exact k1) (fun q => by have k1 := k0 _ _ rfl; rw [if_neg (by simp [cmpB, q])] at k1; exact k1)
    | le => exact lv_icmp_le hx hb hd (jmp_eq ht) (fun q => by have k1 := k0 _ _ rfl; rw [if_pos (by simp [cmpB, q])] at k1; exact k1) (fun q => by have k1 := k0 _ _ rfl; rw [if_neg (by simp [cmpB, q])] at k1; exact k1)
  case goto off =>
    obtain ⟨rfl, h1⟩ := lenO_inv hs
    obtain ⟨t, ht, g1⟩ := oB_inv h1
    cases g1
    exact lv_goto hx hb hd (jmp_eq ht) (k0 _ _ rfl)
  case tableswitch dflt lo hi offs =>
    obtain ⟨x1, r1, rfl, g1⟩ := pI_inv hs
    obtain ⟨off, ho, g2⟩ := oB_inv g1
    obtain ⟨t, ht, g3⟩ := oB_inv g2
    cases g3
    by_cases hlo : x1.toInt < lo ∨ hi < x1.toInt
    · rw [if_pos hlo] at ho
      cases ho
      exact lv_tableOut hx hb hd hlo (jmp_eq ht) (k0 _ _ rfl)
    · rw [if_neg hlo] at ho
      exact lv_tableIn hx hb hd (fun q => hlo (Or.inl q)) (fun q => hlo (Or.inr q)) ho (jmp_eq ht) (k0 _ _ rfl)
  case lookupswitch dflt ps =>
    obtain ⟨x1, r1, rfl, g1⟩ := pI_inv hs
    obtain ⟨hp, g2⟩ := atL_inv g1
    obtain ⟨t, ht, g3⟩ := oB_inv g2
    cases g3
    exact lv_lookup hx hb hd hp rfl (jmp_eq ht) (k0 _ _ rfl)
  case getstatic k =>
    obtain ⟨rfl, h1⟩ := lenO_inv hs
    cases h1
    simp only [okRb] at hok
    obtain ⟨ps, hm⟩ := m3_inv hok
    obtain ⟨hm1, hm2⟩ := nsT_ok _ hm
    have hZ := hG.1 a hm2
    have e1 : tv ro (aSv a) = tv ad (aSv a) := by
      unfold aSv
      split
      · simp only [tv]; rw [hro _ (by omega)]
      · split
        · rfl
        · simp only [tv]; rw [hro _ (by omega)]
    rw [e1] at hZ
    by_cases h3 : a < 3
    · simp only [h3, if_true] at hm1
      exact va_getsN hx hb hZ hS hown (hts _ (uM (List.mem_of_getElem? hm1) rfl)) (fun _ q => q) hd (k0 _ _ rfl)
    · simp only [h3, if_false] at hm1
      exact va_gets hx hb hZ hS hown (hts _ (uM (List.mem_of_getElem? hm1) rfl)) (fun _ q => q) hd (k0 _ _ rfl)
  case getfield k =>
    obtain ⟨rfl, h1⟩ := lenO_inv hs
    obtain ⟨q, r1, rfl, g1⟩ := pR_inv h1
    obtain ⟨v, hv, g2⟩ := oB_inv g1
    obtain ⟨hkd, g3⟩ := atL_inv g2
    cases g3
    simp only [okRb] at hok
    unfold rdF cellAt at hv
    by_cases hq : q < 10000
    · rw [if_pos hq] at hv
      split at hv
      · rename_i c1 fs he
        split at hv
        · rename_i ec
          subst ec
          rw [Bool.or_eq_true] at hok
          rcases hok with hok | hok
          · obtain ⟨ps, hm⟩ := m4_inv hok
            obtain ⟨hm1, hm2, hm3⟩ := flT_ok _ hm
            have hv2 : (fs.map (tv ad))[b]? = some (tv ad v) := by rw [List.getElem?_map, hv]; rfl
            exact va_get (D := D) (ci := c1) (v := tv ad v) (C := cN c1) (T := fun k => TT c1 k) (N := NN c1) hx hb hts (inU c1 hm3) hown hK hP q (tw_at he) (vwCl_at hm3) b hm2 (hts _ (uM (List.mem_of_getElem? hm1) rfl)) (fun _ h9 => h9) hv2 hd (k0 _ _ rfl)
          · simp only [Bool.and_eq_true, beq_iff_eq] at hok
            obtain ⟨rr, h7, -⟩ := hP q _ (tw_at he)
            rw [hok.1] at h7
            cases h7
        · cases hv
      · cases hv
    · rw [if_neg hq] at hv
      split at hv
      · rename_i c1 fs he
        split at hv
        · rename_i ec
          subst ec
          obtain ⟨i, rfl, hi, rfl, rfl⟩ := roC_obj he
          rw [Bool.or_eq_true] at hok
          rcases hok with hok | hok
          · obtain ⟨ps, hm⟩ := m4_inv hok
            obtain ⟨hm1, hm2, hm3⟩ := flT_ok _ hm
            exact (Nat.lt_irrefl 10 hm3).elim
          · simp only [Bool.and_eq_true] at hok
            obtain ⟨ps, hm⟩ := m3_inv hok.2
            obtain ⟨hm1, hm2⟩ := fsT_ok _ hm
            obtain ⟨z1, z2, z3, z4⟩ := hG.2.2.1 i hi
            have e1 : ro (20000 + i) = ad (20000 + i) := (hro _ (by omega)).symm
            have e2 : ro (30000 + i) = ad (30000 + i) := (hro _ (by omega)).symm
            rw [e1] at z2 z3
            rw [e2] at z3
            have hb2 : b = 0 ∨ b = 1 := by simp only at hm2; omega
            rcases hb2 with rfl | rfl
            · cases hv
              exact vk_getf hx hb z3 hS hown (hts _ (uM (List.mem_of_getElem? hm1) rfl)) (fun _ h9 => h9) hd (k0 _ _ rfl)
            · cases hv
              exact vk_getf hx hb z2 hS hown (hts _ (uM (List.mem_of_getElem? hm1) rfl)) (fun _ h9 => h9) hd (k0 _ _ rfl)
        · cases hv
      · cases hv
  case putfield k =>
    obtain ⟨rfl, h1⟩ := lenO_inv hs
    split at h1
    · rename_i v q r1
      obtain ⟨hf, g1⟩ := atL_inv h1
      obtain ⟨h', hw, g2⟩ := oB_inv g1
      cases g2
      simp only [okRb] at hok
      obtain ⟨ps, hm⟩ := m4_inv hok
      obtain ⟨hm1, hm2, hm3⟩ := flT_ok _ hm
      simp only [Bool.and_eq_true, decide_eq_true_eq, Bool.or_eq_true, Bool.not_eq_true'] at hf
      obtain ⟨hf1, hf2, hf3⟩ := hf
      unfold wrF at hw
      split at hw
      · rename_i c1 fs he
        split at hw
        · rename_i ec
          obtain ⟨ec, hlt, hq⟩ := ec
          subst ec
          cases hw
          have hn : narrow (aFty c1 b) (tv ad v) = tv ad v := by
            cases v with
            | ref z => cases hty : aFty c1 b <;> rfl
            | retAddr z => rw [fits] at hf2 <;> (try cases hf2) <;> (intros; simp_all)
            | _ => exact hf1
          have hfit : fits (aFty c1 b) (tv ad v) = true := by
            cases v with
            | ref z => cases hty : aFty c1 b <;> (rw [hty] at hf2; first | rfl | cases hf2)
            | retAddr z => cases hty : aFty c1 b <;> (rw [hty] at hf2; cases hf2)
            | _ => exact hf2
          have e2 : te ad cA (.inr (c1, fs.set b v)) = .inr (c1, (fs.map (tv ad)).set b (tv ad v)) := by simp [te, List.map_set]
          by_cases hfin : aFin c1 b = false
          · rw [aFin_eq hm3] at hfin
            refine va_put (D := D) (ci := c1) (v := tv ad v) (ty := aFty c1 b) (C := cN c1) (T := fun k => TT c1 k) (N := NN c1) hx hb hts (inU c1 hm3) (fun k => aFty c1 k) (aFty_ok c1 hm3) (aNm_ok c1 hm3) hown hK hP hD hS q (tw_at he) (vwCl_at hm3) b hm2 (hts _ (uM (List.mem_of_getElem? hm1) rfl)) (fun _ h9 => h9) hfin (aFty_ok c1 hm3 b hm2) hn hfit (by simpa using hlt) hd (fun H1 locs1 hP1 hD1 hS1 => ?_)
            rw [← e2] at hP1 hD1
            exact kw _ _ q _ _ he (by simp [szC]) rfl H1 locs1 hP1 hD1 hS1
          · have hfin : aFin c1 b = true := by simpa using hfin
            have hini := hf3.resolve_left (by rw [hfin]; decide)
            obtain ⟨hi1, hi2⟩ := mIni_some hini
            rw [aFin_eq hm3] at hfin
            refine va_putF (D := D) (ci := c1) (v := tv ad v) (ty := aFty c1 b) (C := cN c1) (T := fun k => TT c1 k) (N := NN c1) hx hb hts (inU c1 hm3) (fun k => aFty c1 k) (aFty_ok c1 hm3) (aNm_ok c1 hm3) hown hK hP hD hS q (tw_at he) (vwCl_at hm3) b hm2 (hts _ (uM (List.mem_of_getElem? hm1) rfl)) (fun _ h9 => h9) hfin ((hnm (by rw [hini]; simp)).trans hi1) (by rw [hi2]; exact (aDef_len c1 hm3).2.2 b hm2) (aFty_ok c1 hm3 b hm2) hn hfit (by simpa using hlt) hd (fun H1 locs1 hP1 hD1 hS1 => ?_)
            rw [← e2] at hP1 hD1
            exact kw _ _ q _ _ he (by simp [szC]) rfl H1 locs1 hP1 hD1 hS1
        · cases hw
      · cases hw
    · cases h1
  case iaload =>
    obtain ⟨rfl, h1⟩ := lenO_inv hs
    obtain ⟨x1, r1, rfl, g1⟩ := pI_inv h1
    obtain ⟨q, r2, rfl, g2⟩ := pR_inv g1
    obtain ⟨v, hv, g3⟩ := oB_inv g2
    cases g3
    unfold rdA cellAt at hv
    by_cases hq : q < 10000
    · rw [if_pos hq] at hv
      split at hv
      · rename_i t1 l1 he
        split at hv
        · rename_i ec
          obtain ⟨rfl, hin⟩ := ec
          cases hv
          exact va_iald hx hb hK hP q 1 (tw_at he) (tyL_get cA (by decide)) (inb_iff.mp hin) hd (k0 _ _ rfl)
        · cases hv
      · cases hv
    · rw [if_neg hq] at hv
      split at hv
      · rename_i t1 l1 he
        split at hv
        · rename_i ec
          obtain ⟨rfl, hin⟩ := ec
          cases hv
          rcases roC_arr hq he with ⟨j, hj, rfl, ht, rfl⟩ | ⟨j, hj, rfl, ht, rfl⟩
          · have g1 := hG.2.1 j hj
            have e1 : ro (10000 + j) = ad (10000 + j) := (hro _ (by omega)).symm
            rw [e1] at g1
            exact va_ti hx hb g1 hS (inb_iff.mp hin) rfl hd (k0 _ _ rfl)
          · cases ht
        · cases hv
      · cases hv
  case baload =>
    obtain ⟨rfl, h1⟩ := lenO_inv hs
    obtain ⟨x1, r1, rfl, g1⟩ := pI_inv h1
    obtain ⟨q, r2, rfl, g2⟩ := pR_inv g1
    obtain ⟨v, hv, g3⟩ := oB_inv g2
    cases g3
    split at hv
    · rename_i v2 hv2
      cases hv
      unfold rdA cellAt at hv2
      by_cases hq : q < 10000
      · rw [if_pos hq] at hv2
        split at hv2
        · rename_i t1 l1 he
          split at hv2
          · rename_i ec
            obtain ⟨rfl, hin⟩ := ec
            cases hv2
            exact va_bald hx hb hK hP q 0 (tw_at he) (tyL_get cA (by decide)) (inb_iff.mp hin) hd (k0 _ _ rfl)
          · cases hv2
        · cases hv2
      · rw [if_neg hq] at hv2
        split at hv2
        · rename_i t1 l1 he
          split at hv2
          · rename_i ec
            obtain ⟨rfl, hin⟩ := ec
            cases hv2
            rcases roC_arr hq he with ⟨j, hj, rfl, ht, rfl⟩ | ⟨j, hj, rfl, ht, rfl⟩
            · cases ht
            · have g1 := (hG.2.2.1 j hj).2.2.2
              have e1 : ro (30000 + j) = ad (30000 + j) := (hro _ (by omega)).symm
              rw [e1] at g1
              exact va_tb hx hb g1 hS (inb_iff.mp hin) rfl hd (k0 _ _ rfl)
          · cases hv2
        · cases hv2
    · unfold rdA cellAt at hv
      by_cases hq : q < 10000
      · rw [if_pos hq] at hv
        split at hv
        · rename_i t1 l1 he
          split at hv
          · rename_i ec
            obtain ⟨rfl, hin⟩ := ec
            cases hv
            exact va_zald hx hb hK hP q 3 (tw_at he) (tyL_get cA (by decide)) (inb_iff.mp hin) hd (k0 _ _ rfl)
          · cases hv
        · cases hv
      · rw [if_neg hq] at hv
        split at hv
        · rename_i t1 l1 he
          split at hv
          · rename_i ec
            obtain ⟨rfl, hin⟩ := ec
            cases hv
            rcases roC_arr hq he with ⟨j, hj, rfl, ht, rfl⟩ | ⟨j, hj, rfl, ht, rfl⟩
            · cases ht
            · cases ht
          · cases hv
        · cases hv
  case laload =>
    obtain ⟨rfl, h1⟩ := lenO_inv hs
    obtain ⟨x1, r1, rfl, g1⟩ := pI_inv h1
    obtain ⟨q, r2, rfl, g2⟩ := pR_inv g1
    obtain ⟨v, hv, g3⟩ := oB_inv g2
    cases g3
    unfold rdJ at hv
    split at hv
    · rename_i t1 l1 he
      split at hv
      · rename_i ec
        obtain ⟨rfl, hin, hq⟩ := ec
        cases hv
        exact va_lald hx hb hK hP q 2 (tw_at he) (tyL_get cA (by decide)) (inb_iff.mp hin) hd (k0 _ _ rfl)
      · cases hv
    · cases hv
  case aaload =>
    obtain ⟨rfl, h1⟩ := lenO_inv hs
    obtain ⟨x1, r1, rfl, g1⟩ := pI_inv h1
    obtain ⟨q, r2, rfl, g2⟩ := pR_inv g1
    obtain ⟨v, hv, g3⟩ := oB_inv g2
    cases g3
    unfold rdR at hv
    split at hv
    · rename_i t1 l1 he
      split at hv
      · rename_i ec
        obtain ⟨ht, hin, hq⟩ := ec
        have k1 := k0 _ _ rfl
        have e1 : va_rf ((fun k => (l1.getD k none).map ad) x1.toNatClampNeg) = .ref (ad v) := by simp only [hv]; rfl
        rcases ht with rfl | rfl
        · exact va_aldq hx hb hK hP q 4 (C := "SecondNearest$Law") (tw_at he) (tyL_get cA (by decide)) (inb_iff.mp hin) hd (by rw [e1]; exact k1)
        · exact va_aldq hx hb hK hP q 5 (C := "SecondNearest$Scene") (tw_at he) (tyL_get cA (by decide)) (inb_iff.mp hin) hd (by rw [e1]; exact k1)
      · cases hv
    · cases hv
  case iastore =>
    obtain ⟨rfl, h1⟩ := lenO_inv hs
    obtain ⟨v, r0, rfl, g1⟩ := pI_inv h1
    obtain ⟨x1, r1, rfl, g2⟩ := pI_inv g1
    obtain ⟨q, r2, rfl, g3⟩ := pR_inv g2
    obtain ⟨h', hw, g4⟩ := oB_inv g3
    cases g4
    unfold wrA at hw
    split at hw
    · rename_i t1 l1 he
      split at hw
      · rename_i ec
        obtain ⟨rfl, hin, hq⟩ := ec
        cases hw
        refine va_iast hx hb hK hP hD hS q 1 (tw_at he) (tyL_get cA (by decide)) (inb_iff.mp hin) hd (fun H1 locs1 hP1 hD1 hS1 => ?_)
        skip
        rw [upd_getD (lt_of_inb hin)] at hP1 hD1
        exact kw _ _ q _ (.inl (1, .inl (l1.set x1.toNatClampNeg v))) he (by simp [szC]) rfl H1 locs1 (by simpa only [te, List.length_set] using hP1) (by simpa only [te, List.length_set] using hD1) hS1
      · cases hw
    · cases hw
  case bastore =>
    obtain ⟨rfl, h1⟩ := lenO_inv hs
    obtain ⟨v, r0, rfl, g1⟩ := pI_inv h1
    obtain ⟨x1, r1, rfl, g2⟩ := pI_inv g1
    obtain ⟨q, r2, rfl, g3⟩ := pR_inv g2
    obtain ⟨h', hw, g4⟩ := oB_inv g3
    cases g4
    split at hw
    · rename_i v2 hw2
      cases hw
      unfold wrA at hw2
      split at hw2
      · rename_i t1 l1 he
        split at hw2
        · rename_i ec
          obtain ⟨rfl, hin, hq⟩ := ec
          cases hw2
          refine va_bast hx hb hK hP hD hS q 0 (tw_at he) (tyL_get cA (by decide)) (inb_iff.mp hin) hd (fun H1 locs1 hP1 hD1 hS1 => ?_)
          rw [vp_nar_byte] at hP1 hD1
          rw [upd_getD (lt_of_inb hin)] at hP1 hD1
          exact kw _ _ q _ (.inl (0, .inl (l1.set x1.toNatClampNeg v.toInt8.toInt32))) he (by simp [szC]) rfl H1 locs1 (by simpa only [te, List.length_set] using hP1) (by simpa only [te, List.length_set] using hD1) hS1
        · cases hw2
      · cases hw2
    · unfold wrA at hw
      split at hw
      · rename_i t1 l1 he
        split at hw
        · rename_i ec
          obtain ⟨rfl, hin, hq⟩ := ec
          cases hw
          refine va_zast hx hb hK hP hD hS q 3 (tw_at he) (tyL_get cA (by decide)) (inb_iff.mp hin) hd (fun H1 locs1 hP1 hD1 hS1 => ?_)
          rw [show vp_nar .boolean v = v &&& 1 from rfl] at hP1 hD1
          rw [upd_getD (lt_of_inb hin)] at hP1 hD1
          exact kw _ _ q _ (.inl (3, .inl (l1.set x1.toNatClampNeg (v &&& 1)))) he (by simp [szC]) rfl H1 locs1 (by simpa only [te, List.length_set] using hP1) (by simpa only [te, List.length_set] using hD1) hS1
        · cases hw
      · cases hw
  case lastore =>
    obtain ⟨rfl, h1⟩ := lenO_inv hs
    obtain ⟨v, r0, rfl, g1⟩ := pL_inv h1
    obtain ⟨x1, r1, rfl, g2⟩ := pI_inv g1
    obtain ⟨q, r2, rfl, g3⟩ := pR_inv g2
    obtain ⟨h', hw, g4⟩ := oB_inv g3
    cases g4
    unfold wrJ at hw
    split at hw
    · rename_i t1 l1 he
      split at hw
      · rename_i ec
        obtain ⟨rfl, hin, hq⟩ := ec
        cases hw
        refine va_last hx hb hK hP hD hS q 2 (tw_at he) (tyL_get cA (by decide)) (inb_iff.mp hin) hd (fun H1 locs1 hP1 hD1 hS1 => ?_)
        rw [updL_getD (lt_of_inb hin)] at hP1 hD1
        exact kw _ _ q _ (.inl (2, .inr (.inl (l1.set x1.toNatClampNeg v)))) he (by simp [szC]) rfl H1 locs1 (by simpa only [te, List.length_set] using hP1) (by simpa only [te, List.length_set] using hD1) hS1
      · cases hw
    · cases hw
  case aastore =>
    obtain ⟨rfl, h1⟩ := lenO_inv hs
    obtain ⟨v, r0, rfl, g1⟩ := pR_inv h1
    obtain ⟨x1, r1, rfl, g2⟩ := pI_inv g1
    obtain ⟨q, r2, rfl, g3⟩ := pR_inv g2
    obtain ⟨h', hw, g4⟩ := oB_inv g3
    cases g4
    unfold wrR at hw
    split at hw
    · rename_i t1 l1 he
      split at hw
      · rename_i ci fs he2
        split at hw
        · rename_i ec
          obtain ⟨ht, hin, hq, hq2⟩ := ec
          cases hw
          rcases ht with ⟨rfl, rfl⟩ | ⟨rfl, rfl⟩
          · refine va_astq (r := (cN 1, (fun k => TT 1 k), NN 1)) hx hb hK hP hD hS q 4 v 1 (tw_at he) (tyL_get cA (by decide)) (tw_at he2) (vwCl_at (by decide)) (inb_iff.mp hin) hd (fun H1 locs1 hP1 hD1 hS1 => ?_)
            rw [updR_getD (lt_of_inb hin)] at hP1 hD1
            exact kw _ _ q _ (.inl (4, .inr (.inr (l1.set x1.toNatClampNeg (some v))))) he (by simp [szC]) rfl H1 locs1 (by simpa only [te, List.length_set] using hP1) (by simpa only [te, List.length_set] using hD1) hS1
          · refine va_astq (r := (cN 5, (fun k => TT 5 k), NN 5)) hx hb hK hP hD hS q 5 v 5 (tw_at he) (tyL_get cA (by decide)) (tw_at he2) (vwCl_at (by decide)) (inb_iff.mp hin) hd (fun H1 locs1 hP1 hD1 hS1 => ?_)
            rw [updR_getD (lt_of_inb hin)] at hP1 hD1
            exact kw _ _ q _ (.inl (5, .inr (.inr (l1.set x1.toNatClampNeg (some v))))) he (by simp [szC]) rfl H1 locs1 (by simpa only [te, List.length_set] using hP1) (by simpa only [te, List.length_set] using hD1) hS1
        · cases hw
      · cases hw
    · cases hw
  case arraylength =>
    obtain ⟨rfl, h1⟩ := lenO_inv hs
    obtain ⟨q, r1, rfl, g1⟩ := pR_inv h1
    obtain ⟨n, hv, g2⟩ := oB_inv g1
    cases g2
    unfold lenA cellAt at hv
    by_cases hq : q < 10000
    · rw [if_pos hq] at hv
      split at hv
      · rename_i t1 l1 he
        split at hv
        · rename_i ht
          cases hv
          exact va_alen hx hb hK hP q t1 (tw_at he) (tyL_get cA ht) rfl hd (k0 _ _ rfl)
        · cases hv
      · rename_i t1 l1 he
        split at hv
        · rename_i ht
          cases hv
          exact va_alen hx hb hK hP q t1 (tw_at he) (tyL_get cA ht) rfl hd (k0 _ _ rfl)
        · cases hv
      · rename_i t1 l1 he
        split at hv
        · rename_i ht
          cases hv
          exact va_alen hx hb hK hP q t1 (tw_at he) (tyL_get cA ht) rfl hd (k0 _ _ rfl)
        · cases hv
      · cases hv
    · rw [if_neg hq] at hv
      split at hv
      · rename_i t1 l1 he
        split at hv
        · rename_i ht
          cases hv
          rcases roC_arr hq he with ⟨j, hj, rfl, ht, rfl⟩ | ⟨j, hj, rfl, ht, rfl⟩
          · have g1 := hG.2.1 j hj
            have e1 : ro (10000 + j) = ad (10000 + j) := (hro _ (by omega)).symm
            rw [e1] at g1
            exact va_tlen hx hb g1 hS rfl hd (k0 _ _ rfl)
          · have g1 := (hG.2.2.1 j hj).2.2.2
            have e1 : ro (30000 + j) = ad (30000 + j) := (hro _ (by omega)).symm
            rw [e1] at g1
            exact va_tlen hx hb g1 hS rfl hd (k0 _ _ rfl)
        · cases hv
      · rename_i t1 l1 he
        exact (roC_no he).elim
      · rename_i t1 l1 he
        exact (roC_no he).elim
      · cases hv
  case new k =>
    obtain ⟨rfl, h1⟩ := lenO_inv hs
    obtain ⟨hw, g1⟩ := atL_inv h1
    cases g1
    simp only [Bool.and_eq_true, decide_eq_true_eq, wfN] at hw
    obtain ⟨hal, ⟨hw1, hw2, hw3, hw4⟩, hw5⟩ := hw
    simp only [okRb] at hok
    obtain ⟨ps, hm⟩ := m3_inv hok
    obtain ⟨hm1, -⟩ := clT_ok _ hm
    have hsz : szC (.inr (a, aDef a)) = NN a := (aDef_len a hw5).1
    simp only [slt_app, List.length_append, List.length_cons, List.length_nil, hsz] at hbud
    refine va_new (ci := a) (fs := aDef a) (C := cN a) (T := fun k => TT a k) (N := NN a) hx hb hts (inU a hw5) (fun k => aFty a k) (aFty_ok a hw5) hown (hts _ (uM (List.mem_of_getElem? hm1) rfl)) (hts _ (uM (List.mem_of_getElem? (inT_ok a hw5).1) rfl)) (hts _ (uM (inT_ok a hw5).2.1 rfl)) hK hP hD hS hA (vwCl_at hw5) (aDef_ok a hw5) (by omega) (by omega) hd (fun q H1 hP1 hD1 hS1 => ?_)
    have e1 : tw (fun k => if k = h.length then q else ad k) cA (h ++ [.inr (a, aDef a)]) = tw ad cA h ++ [(q, .inr (a, aDef a))] := by
      rw [tw_app, nr_tw hw4 hw3]
      simp only [te, aDef_tv hw5, if_true]
    rw [← e1] at hP1 hD1
    have e2 : ∀ v ∈ L, tv (fun k => if k = h.length then q else ad k) v = tv ad v := fun v hv => nrV_tv hw4 (List.all_eq_true.mp hw1 v hv)
    have e3 : st.map (tv (fun k => if k = h.length then q else ad k)) = st.map (tv ad) := List.map_congr_left (fun v hv => nrV_tv hw4 (List.all_eq_true.mp hw2 v hv))
    have k1 := kk (fun k => if k = h.length then q else ad k) H1 locs ls (cells + 1) (slots + NN a) ⟨hP1, hD1, hS1, hl.ad e2, fun k hk => by show (if k = h.length then q else ad k) = ro k; rw [if_neg (by omega)]; exact hro k hk⟩ (fun k hk => by show (if k = h.length then q else ad k) = ad k; simp only [List.length_append, List.length_cons, List.length_nil] at hk; rw [if_neg (by omega)]) (by simp; omega) (by rw [slt_app, hsz]; omega)
    simp only [List.map_cons, e3, tv, if_true] at k1
    exact k1
  case newarray t =>
    obtain ⟨rfl, h1⟩ := lenO_inv hs
    obtain ⟨n, r1, rfl, g1⟩ := pI_inv h1
    obtain ⟨hw, g2⟩ := atL_inv g1
    simp only [Bool.and_eq_true, decide_eq_true_eq, wfN, Bool.not_eq_true', decide_eq_false_iff_not] at hw
    obtain ⟨hal, ⟨hw1, hw2, hw3, hw4⟩, hw5⟩ := hw
    split at g2
    · cases g2
      simp only [slt_app, szC, List.length_append, List.length_cons, List.length_nil, List.length_replicate] at hbud
      refine va_newa (atype := .byte) (ty := .byte) (a0 := (n.toNatClampNeg, .inl (fun _ => 0))) (N' := n.toNatClampNeg) hx hb (hts _ (uM ayT_ok.1.1 rfl)) rfl hK hP hD hS hA (fun _ => rfl) (by simpa using hw5.1) rfl (by simp only [componentBytes]; omega) (by omega) (by omega) hd (fun q cB H1 hK1 hP1 hD1 hS1 => ?_)
      have ec : cB = cA 0 := by
        have g1 := (hK1.2 6 (cB, .byte) rfl).2
        have g2 := (hK.2 0 _ (tyL_get cA (by decide))).2
        exact Option.some.inj (g1.symm.trans g2)
      subst ec
      have e0 : te (fun k => if k = h.length then q else ad k) cA (.inl (0, .inl (List.replicate n.toNatClampNeg 0))) = .inl (cA 0, (n.toNatClampNeg, .inl (fun _ => 0))) := by
        simp only [te, List.length_replicate]
        congr 4
        funext k
        simp [List.getD_eq_getElem?_getD, List.getElem?_replicate]
        try (split <;> rfl)
      have e1 : tw (fun k => if k = h.length then q else ad k) cA (h ++ [(.inl (0, .inl (List.replicate n.toNatClampNeg 0)))]) = tw ad cA h ++ [(q, .inl (cA 0, (n.toNatClampNeg, .inl (fun _ => 0))))] := by
        rw [tw_app, nr_tw hw4 hw3, e0]
        simp only [if_true]
      rw [← e1] at hP1 hD1
      have e2 : ∀ v ∈ L, tv (fun k => if k = h.length then q else ad k) v = tv ad v := fun v hv => nrV_tv hw4 (List.all_eq_true.mp hw1 v hv)
      have e3 : r1.map (tv (fun k => if k = h.length then q else ad k)) = r1.map (tv ad) := List.map_congr_left (fun v hv => nrV_tv hw4 (List.all_eq_true.mp hw2 v hv))
      have k1 := kk (fun k => if k = h.length then q else ad k) H1 locs ls (cells + 1) (slots + n.toNatClampNeg) ⟨hP1, hD1, hS1, hl.ad e2, fun k hk => by show (if k = h.length then q else ad k) = ro k; rw [if_neg (by omega)]; exact hro k hk⟩ (fun k hk => by show (if k = h.length then q else ad k) = ad k; simp only [List.length_append, List.length_cons, List.length_nil] at hk; rw [if_neg (by omega)]) (by simp; omega) (by rw [slt_app]; simp only [szC, List.length_replicate]; omega)
      simp only [List.map_cons, e3, tv, if_true] at k1
      exact k1
    · cases g2
      simp only [slt_app, szC, List.length_append, List.length_cons, List.length_nil, List.length_replicate] at hbud
      refine va_newa (atype := .int) (ty := .int) (a0 := (n.toNatClampNeg, .inl (fun _ => 0))) (N' := n.toNatClampNeg) hx hb (hts _ (uM ayT_ok.1.2.1 rfl)) rfl hK hP hD hS hA (fun _ => rfl) (by simpa using hw5.1) rfl (by simp only [componentBytes]; omega) (by omega) (by omega) hd (fun q cB H1 hK1 hP1 hD1 hS1 => ?_)
      have ec : cB = cA 1 := by
        have g1 := (hK1.2 6 (cB, .int) rfl).2
        have g2 := (hK.2 1 _ (tyL_get cA (by decide))).2
        exact Option.some.inj (g1.symm.trans g2)
      subst ec
      have e0 : te (fun k => if k = h.length then q else ad k) cA (.inl (1, .inl (List.replicate n.toNatClampNeg 0))) = .inl (cA 1, (n.toNatClampNeg, .inl (fun _ => 0))) := by
        simp only [te, List.length_replicate]
        congr 4
        funext k
        simp [List.getD_eq_getElem?_getD, List.getElem?_replicate]
        try (split <;> rfl)
      have e1 : tw (fun k => if k = h.length then q else ad k) cA (h ++ [(.inl (1, .inl (List.replicate n.toNatClampNeg 0)))]) = tw ad cA h ++ [(q, .inl (cA 1, (n.toNatClampNeg, .inl (fun _ => 0))))] := by
        rw [tw_app, nr_tw hw4 hw3, e0]
        simp only [if_true]
      rw [← e1] at hP1 hD1
      have e2 : ∀ v ∈ L, tv (fun k => if k = h.length then q else ad k) v = tv ad v := fun v hv => nrV_tv hw4 (List.all_eq_true.mp hw1 v hv)
      have e3 : r1.map (tv (fun k => if k = h.length then q else ad k)) = r1.map (tv ad) := List.map_congr_left (fun v hv => nrV_tv hw4 (List.all_eq_true.mp hw2 v hv))
      have k1 := kk (fun k => if k = h.length then q else ad k) H1 locs ls (cells + 1) (slots + n.toNatClampNeg) ⟨hP1, hD1, hS1, hl.ad e2, fun k hk => by show (if k = h.length then q else ad k) = ro k; rw [if_neg (by omega)]; exact hro k hk⟩ (fun k hk => by show (if k = h.length then q else ad k) = ad k; simp only [List.length_append, List.length_cons, List.length_nil] at hk; rw [if_neg (by omega)]) (by simp; omega) (by rw [slt_app]; simp only [szC, List.length_replicate]; omega)
      simp only [List.map_cons, e3, tv, if_true] at k1
      exact k1
    · cases g2
      simp only [slt_app, szC, List.length_append, List.length_cons, List.length_nil, List.length_replicate] at hbud
      refine va_newa (atype := .boolean) (ty := .boolean) (a0 := (n.toNatClampNeg, .inl (fun _ => 0))) (N' := n.toNatClampNeg) hx hb (hts _ (uM ayT_ok.1.2.2.2 rfl)) rfl hK hP hD hS hA (fun _ => rfl) (by simpa using hw5.1) rfl (by simp only [componentBytes]; omega) (by omega) (by omega) hd (fun q cB H1 hK1 hP1 hD1 hS1 => ?_)
      have ec : cB = cA 3 := by
        have g1 := (hK1.2 6 (cB, .boolean) rfl).2
        have g2 := (hK.2 3 _ (tyL_get cA (by decide))).2
        exact Option.some.inj (g1.symm.trans g2)
      subst ec
      have e0 : te (fun k => if k = h.length then q else ad k) cA (.inl (3, .inl (List.replicate n.toNatClampNeg 0))) = .inl (cA 3, (n.toNatClampNeg, .inl (fun _ => 0))) := by
        simp only [te, List.length_replicate]
        congr 4
        funext k
        simp [List.getD_eq_getElem?_getD, List.getElem?_replicate]
        try (split <;> rfl)
      have e1 : tw (fun k => if k = h.length then q else ad k) cA (h ++ [(.inl (3, .inl (List.replicate n.toNatClampNeg 0)))]) = tw ad cA h ++ [(q, .inl (cA 3, (n.toNatClampNeg, .inl (fun _ => 0))))] := by
        rw [tw_app, nr_tw hw4 hw3, e0]
        simp only [if_true]
      rw [← e1] at hP1 hD1
      have e2 : ∀ v ∈ L, tv (fun k => if k = h.length then q else ad k) v = tv ad v := fun v hv => nrV_tv hw4 (List.all_eq_true.mp hw1 v hv)
      have e3 : r1.map (tv (fun k => if k = h.length then q else ad k)) = r1.map (tv ad) := List.map_congr_left (fun v hv => nrV_tv hw4 (List.all_eq_true.mp hw2 v hv))
      have k1 := kk (fun k => if k = h.length then q else ad k) H1 locs ls (cells + 1) (slots + n.toNatClampNeg) ⟨hP1, hD1, hS1, hl.ad e2, fun k hk => by show (if k = h.length then q else ad k) = ro k; rw [if_neg (by omega)]; exact hro k hk⟩ (fun k hk => by show (if k = h.length then q else ad k) = ad k; simp only [List.length_append, List.length_cons, List.length_nil] at hk; rw [if_neg (by omega)]) (by simp; omega) (by rw [slt_app]; simp only [szC, List.length_replicate]; omega)
      simp only [List.map_cons, e3, tv, if_true] at k1
      exact k1
    · cases g2
      simp only [slt_app, szC, List.length_append, List.length_cons, List.length_nil, List.length_replicate] at hbud
      refine va_newa (atype := .long) (ty := .long) (a0 := (n.toNatClampNeg, .inr (.inl (fun _ => 0)))) (N' := n.toNatClampNeg) hx hb (hts _ (uM ayT_ok.1.2.2.1 rfl)) rfl hK hP hD hS hA (fun _ => rfl) (by simpa using hw5.1) rfl (by simp only [componentBytes]; omega) (by omega) (by omega) hd (fun q cB H1 hK1 hP1 hD1 hS1 => ?_)
      have ec : cB = cA 2 := by
        have g1 := (hK1.2 6 (cB, .long) rfl).2
        have g2 := (hK.2 2 _ (tyL_get cA (by decide))).2
        exact Option.some.inj (g1.symm.trans g2)
      subst ec
      have e0 : te (fun k => if k = h.length then q else ad k) cA (.inl (2, .inr (.inl (List.replicate n.toNatClampNeg 0)))) = .inl (cA 2, (n.toNatClampNeg, .inr (.inl (fun _ => 0)))) := by
        simp only [te, List.length_replicate]
        congr 5
        funext k
        simp [List.getD_eq_getElem?_getD, List.getElem?_replicate]
        try (split <;> rfl)
      have e1 : tw (fun k => if k = h.length then q else ad k) cA (h ++ [(.inl (2, .inr (.inl (List.replicate n.toNatClampNeg 0))))]) = tw ad cA h ++ [(q, .inl (cA 2, (n.toNatClampNeg, .inr (.inl (fun _ => 0)))))] := by
        rw [tw_app, nr_tw hw4 hw3, e0]
        simp only [if_true]
      rw [← e1] at hP1 hD1
      have e2 : ∀ v ∈ L, tv (fun k => if k = h.length then q else ad k) v = tv ad v := fun v hv => nrV_tv hw4 (List.all_eq_true.mp hw1 v hv)
      have e3 : r1.map (tv (fun k => if k = h.length then q else ad k)) = r1.map (tv ad) := List.map_congr_left (fun v hv => nrV_tv hw4 (List.all_eq_true.mp hw2 v hv))
      have k1 := kk (fun k => if k = h.length then q else ad k) H1 locs ls (cells + 1) (slots + n.toNatClampNeg) ⟨hP1, hD1, hS1, hl.ad e2, fun k hk => by show (if k = h.length then q else ad k) = ro k; rw [if_neg (by omega)]; exact hro k hk⟩ (fun k hk => by show (if k = h.length then q else ad k) = ad k; simp only [List.length_append, List.length_cons, List.length_nil] at hk; rw [if_neg (by omega)]) (by simp; omega) (by rw [slt_app]; simp only [szC, List.length_replicate]; omega)
      simp only [List.map_cons, e3, tv, if_true] at k1
      exact k1
    · cases g2
  case anewarray k =>
    obtain ⟨rfl, h1⟩ := lenO_inv hs
    obtain ⟨n, r1, rfl, g1⟩ := pI_inv h1
    obtain ⟨hw, g2⟩ := atL_inv g1
    cases g2
    simp only [Bool.and_eq_true, decide_eq_true_eq, wfN, Bool.not_eq_true', decide_eq_false_iff_not, Bool.or_eq_true] at hw
    obtain ⟨hal, ⟨hw1, hw2, hw3, hw4⟩, hw5, hw6, hw7⟩ := hw
    have hw5 : ¬ n < 0 ∧ n.toNatClampNeg ≤ 10000 := ⟨by simpa using hw5, hw6⟩
    simp only [slt_app, szC, List.length_append, List.length_cons, List.length_nil, List.length_replicate] at hbud
    simp only [okRb] at hok
    have hts' : ∀ (C : String), Cond.arrayOver (.object C) ∈ lw_tbl → va_AO C s := fun C hC => by
      have h9 := hts _ (uM hC rfl)
      exact h9
    rcases hw7 with ht | ht
    · have ht : a = 4 := ht
      subst ht
      have hcl : m3 clT (mCi y) k 1 = true := by simpa using hok
      obtain ⟨ps, hm⟩ := m3_inv hcl
      obtain ⟨hm1, -⟩ := clT_ok _ hm
      refine va_newq (C := "SecondNearest$Law") (N' := n.toNatClampNeg) hx hb hown (hts _ (uM (List.mem_of_getElem? hm1) rfl)) (hts' _ ayT_ok.2.1.1) hK hP hD hS hA (by simpa using hw5.1) rfl (by omega) (by omega) (by omega) hd (fun q cB H1 hK1 hP1 hD1 hS1 => ?_)
      have ec : cB = cA 4 := by
        obtain ⟨_, _, _, _, _, g1⟩ := (hK1.2 6 (cB, .object "SecondNearest$Law") rfl).2
        obtain ⟨_, _, _, _, _, g2⟩ := (hK.2 4 _ (tyL_get cA (by decide))).2
        exact Option.some.inj (g1.symm.trans g2)
      subst ec
      have e0 : te (fun k => if k = h.length then q else ad k) cA (.inl (4, .inr (.inr (List.replicate n.toNatClampNeg none)))) = .inl (cA 4, n.toNatClampNeg, .inr (.inr (.inr (.inr (fun _ => none))))) := by
        simp only [te, List.length_replicate]
        congr 7
        funext k
        simp [List.getD_eq_getElem?_getD, List.getElem?_replicate]
        try (split <;> rfl)
      have e1 : tw (fun k => if k = h.length then q else ad k) cA (h ++ [.inl (4, .inr (.inr (List.replicate n.toNatClampNeg none)))]) = tw ad cA h ++ [(q, .inl (cA 4, n.toNatClampNeg, .inr (.inr (.inr (.inr (fun _ => none))))))] := by
        rw [tw_app, nr_tw hw4 hw3, e0]
        simp only [if_true]
      rw [← e1] at hP1 hD1
      have e2 : ∀ v ∈ L, tv (fun k => if k = h.length then q else ad k) v = tv ad v := fun v hv => nrV_tv hw4 (List.all_eq_true.mp hw1 v hv)
      have e3 : r1.map (tv (fun k => if k = h.length then q else ad k)) = r1.map (tv ad) := List.map_congr_left (fun v hv => nrV_tv hw4 (List.all_eq_true.mp hw2 v hv))
      have k1 := kk (fun k => if k = h.length then q else ad k) H1 locs ls (cells + 1) (slots + n.toNatClampNeg) ⟨hP1, hD1, hS1, hl.ad e2, fun k hk => by show (if k = h.length then q else ad k) = ro k; rw [if_neg (by omega)]; exact hro k hk⟩ (fun k hk => by show (if k = h.length then q else ad k) = ad k; simp only [List.length_append, List.length_cons, List.length_nil] at hk; rw [if_neg (by omega)]) (by simp; omega) (by rw [slt_app]; simp only [szC, List.length_replicate]; omega)
      simp only [List.map_cons, e3, tv, if_true] at k1
      exact k1
    · have ht : a = 5 := ht
      subst ht
      have hcl : m3 clT (mCi y) k 5 = true := by simpa using hok
      obtain ⟨ps, hm⟩ := m3_inv hcl
      obtain ⟨hm1, -⟩ := clT_ok _ hm
      refine va_newq (C := "SecondNearest$Scene") (N' := n.toNatClampNeg) hx hb hown (hts _ (uM (List.mem_of_getElem? hm1) rfl)) (hts' _ ayT_ok.2.1.2) hK hP hD hS hA (by simpa using hw5.1) rfl (by omega) (by omega) (by omega) hd (fun q cB H1 hK1 hP1 hD1 hS1 => ?_)
      have ec : cB = cA 5 := by
        obtain ⟨_, _, _, _, _, g1⟩ := (hK1.2 6 (cB, .object "SecondNearest$Scene") rfl).2
        obtain ⟨_, _, _, _, _, g2⟩ := (hK.2 5 _ (tyL_get cA (by decide))).2
        exact Option.some.inj (g1.symm.trans g2)
      subst ec
      have e0 : te (fun k => if k = h.length then q else ad k) cA (.inl (5, .inr (.inr (List.replicate n.toNatClampNeg none)))) = .inl (cA 5, n.toNatClampNeg, .inr (.inr (.inr (.inr (fun _ => none))))) := by
        simp only [te, List.length_replicate]
        congr 7
        funext k
        simp [List.getD_eq_getElem?_getD, List.getElem?_replicate]
        try (split <;> rfl)
      have e1 : tw (fun k => if k = h.length then q else ad k) cA (h ++ [.inl (5, .inr (.inr (List.replicate n.toNatClampNeg none)))]) = tw ad cA h ++ [(q, .inl (cA 5, n.toNatClampNeg, .inr (.inr (.inr (.inr (fun _ => none))))))] := by
        rw [tw_app, nr_tw hw4 hw3, e0]
        simp only [if_true]
      rw [← e1] at hP1 hD1
      have e2 : ∀ v ∈ L, tv (fun k => if k = h.length then q else ad k) v = tv ad v := fun v hv => nrV_tv hw4 (List.all_eq_true.mp hw1 v hv)
      have e3 : r1.map (tv (fun k => if k = h.length then q else ad k)) = r1.map (tv ad) := List.map_congr_left (fun v hv => nrV_tv hw4 (List.all_eq_true.mp hw2 v hv))
      have k1 := kk (fun k => if k = h.length then q else ad k) H1 locs ls (cells + 1) (slots + n.toNatClampNeg) ⟨hP1, hD1, hS1, hl.ad e2, fun k hk => by show (if k = h.length then q else ad k) = ro k; rw [if_neg (by omega)]; exact hro k hk⟩ (fun k hk => by show (if k = h.length then q else ad k) = ad k; simp only [List.length_append, List.length_cons, List.length_nil] at hk; rw [if_neg (by omega)]) (by simp; omega) (by rw [slt_app]; simp only [szC, List.length_replicate]; omega)
      simp only [List.map_cons, e3, tv, if_true] at k1
      exact k1
