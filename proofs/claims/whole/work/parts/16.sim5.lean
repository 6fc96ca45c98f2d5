variable {scr : List Int32}
theorem oc_in : Cond.code objectInit ⟨#[0xb1]⟩ 1 none ∈ lw_tbl := List.mem_of_getElem? (i := 118) (by decide +kernel)
set_option maxHeartbeats 8000000 in
set_option maxRecDepth 100000 in
theorem run_sim : ∀ n, SimAt scr n
  | 0 => by
    intro al d y pc L st h u e
    simp [run] at e
  | n + 1 => by
    have S : SimAt scr n := run_sim n
    intro al d y pc L st h u e p l ev R s m args below meth c D cA sz0 ro hc hRf hRl hK hG hz Q ad0 n0 hret ad H locs cells slots ls hr hn0 ha hb1 hb2
    unfold run at e
    obtain ⟨z, hzr, e⟩ := oB_inv e
    obtain ⟨hdec, hok⟩ := row_ok hzr
    obtain ⟨i, len, a, b⟩ := z
    obtain ⟨hx, hb, hml, hrt, hown, hts, hlk, hnm⟩ := id hc
    obtain ⟨hP, hD, hS, hl, hro⟩ := id hr
    cases i <;> dsimp only at e hdec hok
    case ireturn =>
      obtain ⟨rfl, e1⟩ := lenO_inv e
      split at e1
      · obtain ⟨h1, e2⟩ := atL_inv e1
        cases e2
        exact hret .ireturn pc ad H locs cells slots ls L (Or.inl ⟨rfl, _, rfl, h1⟩) hdec hr ha (by omega) (by omega)
      · cases e1
    case lreturn =>
      obtain ⟨rfl, e1⟩ := lenO_inv e
      split at e1
      · obtain ⟨h1, e2⟩ := atL_inv e1
        cases e2
        exact hret .lreturn pc ad H locs cells slots ls L (Or.inr (Or.inl ⟨rfl, _, rfl, of_decide_eq_true h1⟩)) hdec hr ha (by omega) (by omega)
      · cases e1
    case areturn =>
      obtain ⟨rfl, e1⟩ := lenO_inv e
      split at e1
      · obtain ⟨h1, e2⟩ := atL_inv e1
        cases e2
        exact hret .areturn pc ad H locs cells slots ls L (Or.inr (Or.inr (Or.inl ⟨rfl, _, rfl, h1⟩))) hdec hr ha (by omega) (by omega)
      · cases e1
    case return_ =>
      obtain ⟨rfl, e1⟩ := lenO_inv e
      split at e1
      · obtain ⟨h1, e2⟩ := atL_inv e1
        cases e2
        exact hret .return_ pc ad H locs cells slots ls L (Or.inr (Or.inr (Or.inr ⟨rfl, rfl, of_decide_eq_true h1⟩))) hdec hr ha (by omega) (by omega)
      · cases e1
    case invokevirtual k =>
      obtain ⟨rfl, e1⟩ := lenO_inv e
      split at e1
      · cases e1
      · rename_i d
        obtain ⟨q, hq, e2⟩ := oB_inv e1
        obtain ⟨h1, e3⟩ := atL_inv e2
        obtain ⟨u1, hu1, e3'⟩ := oB_inv e3
        obtain ⟨hrk, e4⟩ := atL_inv e3'
        simp only [Bool.and_eq_true, decide_eq_true_eq, rm8] at h1
        obtain ⟨hv, ⟨hr8, hsp⟩, hb0⟩ := h1
        subst hb0
        obtain ⟨As, rest⟩ := q
        obtain ⟨rfl, hlen⟩ := cutA_inv hq
        obtain ⟨q0, As', fs, rfl, hcell⟩ := vOk_inv hv
        simp only [okRb, Bool.and_eq_true, beq_self_eq_true, and_true] at hok
        obtain ⟨ps, hm⟩ := m4_inv hok
        obtain ⟨hm1, hm2⟩ := mlT_ok _ hm
        obtain ⟨hk0, -, -⟩ := mlK_ok _ hm
        obtain ⟨hks, hki⟩ := hk0 rfl
        obtain ⟨qq, hqq, hqa⟩ := mp_at hm2
        simp only at hm1 hm2 hks hki hqa
        subst hqa
        obtain ⟨n1, n2, n3, n4, n5, n6, n7⟩ := mpN_ok qq hqq
        obtain ⟨m1, m2, m3, m4⟩ := mpT_ok qq hqq
        rw [hks] at m1
        have m5 := (m4.resolve_left (by rw [hks]; decide)).resolve_left (by rw [hki]; decide)
        have mo1 := run_mono n hu1
        have mo2 := run_mono n e4
        have hM := met_of S l hu1 hm2 hsp (D := D) (cA := cA) (sz0 := sz0) (ro := ro) (ad := ad) hro
        have hl9 : Cond.methodLink (cN (mCi y)) k (mAt qq.1).1 ∈ lw_tbl := List.mem_of_getElem? hm1
        have hG9 : GoodIn uT (wsV (cN (mCi y)) k (cN (mCi qq.1)) (mAt qq.1).1 (wsM qq.1)) := by
          intro w hw
          unfold wsV at hw
          rcases List.mem_append.mp hw with hw | hw
          · simp only [List.mem_cons, List.not_mem_nil, or_false] at hw
            rcases hw with rfl | rfl | rfl | rfl
            · exact gU hl9 rfl
            · exact gU (List.mem_of_getElem? m1) rfl
            · exact gU (List.mem_of_getElem? m5) rfl
            · rw [← m3]; exact gU (List.mem_of_getElem? m2) rfl
          · exact gM hm2 w hw
        have hnn : (parseMethodDescriptor (mAt qq.1).1.desc).map (fun d => d.parameters.length) = some (As'.map (tv ad)).length := by
          rw [n4, hks]
          simp only [List.length_cons] at hlen
          simp
          omega
        have hrec := aRecv hK hG hP hS hro hcell
        refine aCall (va_runV (C := cN (mCi qq.1)) (b := ad q0) (As := As'.map (tv ad)) (rest := rest.map (tv ad)) ⟨hx, hb, hml, hown, hts⟩ hM (cwV _ hts hG9 rfl rfl rfl ⟨m3, n1, n2, hnn⟩ ⟨by simp only [rmM]; omega, by simp only [rmM]; omega⟩) ⟨aPre_blind, hrec, fun U hU hW => ?_⟩ rfl rfl hl.size ?_ (lv_room (by rw [cat_sum]; exact hr8)) hdec ⟨by have := mo1.1; have := mo2.1; omega, by have := mo1.2.1; have := mo2.2.1; omega⟩) hS (fun ad' H1 locs1 g1 g2 hP1 hD1 hS1 => ?_)
        · exact ⟨rfl, by rw [hU]; exact hP, va_K.moved hW.alike hK, hD, by rw [hU]; exact Nat.le_trans hz hS.1, by rw [hU]; exact hG.to hW hS.2.1⟩
        · simp [tv]
        · have ead : ad' = ad := by
            funext k
            apply g1
            have := (mo1.2.2 rfl).1
            omega
          subst ead
          have hst : (u1.1.map (tv ad')).toList ++ rest.map (tv ad') = (u1.1.toList ++ rest).map (tv ad') := by cases u1.1 <;> simp
          rw [hst]
          have hle := (mo1.2.2 rfl)
          exact S al _ y (pc + 3) L _ u1.2 u e4 p l ev R s m args below meth c D cA sz0 ro hc hRf hRl hK hG hz Q ad0 n0 hret ad' H1 locs1 _ _ ls ⟨hP1, hD1, hS1, hl, hro⟩ (by omega) ha (by have := mo1.1; have := mo2.1; omega) (by have := mo1.2.1; have := mo2.2.1; omega)
    case invokestatic k =>
      obtain ⟨rfl, e1⟩ := lenO_inv e
      split at e1
      · cases e1
      · rename_i d
        by_cases hb4 : b = 4
        · rw [if_pos hb4] at e1
          subst hb4
          split at e1
          · rename_i kk dp dq sp sq r
            obtain ⟨h1, e2⟩ := atL_inv e1
            obtain ⟨h', hcp, e3⟩ := oB_inv e2
            simp only [Bool.and_eq_true, decide_eq_true_eq] at h1
            obtain ⟨rfl, rfl, hr8⟩ := h1
            simp only [okRb, Bool.and_eq_true] at hok
            obtain ⟨ps, hm⟩ := m4_inv hok.1
            obtain ⟨hm1, hm2⟩ := mlT_ok _ hm
            have mo2 := run_mono n e3
            have hcl := cpA_len hcp
            have hl9 : Cond.methodLink (cN (mCi y)) k arraycopyName ∈ lw_tbl := List.mem_of_getElem? hm1
            unfold cpA at hcp
            split at hcp
            · rename_i t l1 t' l2 he1 he2
              split at hcp
              · rename_i g
                obtain ⟨rfl, ht, hl1, hl2, hkn, hq1, hq2, hfit⟩ := g
                cases hcp
                have ht6 : t < 6 := by omega
                have hprim : refKind (aTy t) = false := by rcases ht with rfl | rfl <;> rfl
                refine va_copyi (ty := aTy t) hx hb (hml.trans hl.size.symm) hown (hts _ (uM hl9 rfl)) (hts _ (uM ayT_ok.2.2.1.1 rfl)) (hts _ (uM ayT_ok.2.2.1.2.1 rfl)) (hts _ (uM ayT_ok.2.2.1.2.2 rfl)) hK hP hD hS sq dq t t (tw_at he1) (tw_at he2) (tyL_get cA ht6) (tyL_get cA ht6) hprim (by decide) (by decide) hkn (by rw [hl1]; simp) (by rw [hl2]; simp) ?_ (by omega) ?_ hdec (fun H1 locs1 hP1 hD1 hS1 => ?_)
                · intro i hi
                  have hz0 : (0 : Int32).toNatClampNeg = 0 := rfl
                  rw [hz0, Nat.zero_add]
                  have hi2 : i < l1.length := by omega
                  have := List.all_eq_true.mp hfit (l1.getD i 0) (by rw [List.getD_eq_getElem?_getD, List.getElem?_eq_getElem hi2]; exact List.getElem_mem hi2)
                  exact this
                · rw [cat_sum]
                  have : nativeFrameWords "java/lang/System" "arraycopy" 5 ≤ 40 := by decide
                  omega
                · have e5 : (Sum.inl (cA t, l2.length, Sum.inl (va_cpy (fun k => l1.getD k 0) (fun k => l2.getD k 0) (0 : Int32).toNatClampNeg (0 : Int32).toNatClampNeg kk.toNatClampNeg)) : va_E) = te ad cA (.inl (t, .inl l1)) := by
                    simp only [te]
                    rw [hl2, ← hl1]
                    congr 4
                    funext j
                    unfold va_cpy
                    have hz0 : (0 : Int32).toNatClampNeg = 0 := rfl
                    rw [hz0]
                    by_cases hj : j < l1.length
                    · rw [if_pos ⟨by omega, by omega⟩]; simp
                    · rw [if_neg (by omega)]
                      have hj2 : ¬ j < l2.length := by omega
                      simp [List.getD_eq_getElem?_getD, hj, hj2]
                  rw [e5, tw_set] at hP1 hD1
                  exact S al _ y (pc + 3) L r _ u e3 p l ev R s m args below meth c D cA sz0 ro hc hRf hRl hK hG hz Q ad0 n0 hret ad H1 locs1 _ _ ls ⟨hP1, hD1, hS1, hl, hro⟩ (by omega) ha (by omega) (by omega)
              · cases hcp
            · cases hcp
          · cases e1
        · rw [if_neg hb4] at e1
          obtain ⟨q, hq, e2⟩ := oB_inv e1
          obtain ⟨h1, e3⟩ := atL_inv e2
          obtain ⟨u1, hu1, e3'⟩ := oB_inv e3
          obtain ⟨hrk, e4⟩ := atL_inv e3'
          simp only [Bool.and_eq_true, decide_eq_true_eq, rm8] at h1
          obtain ⟨⟨hr8, hsp⟩, hb0⟩ := h1
          subst hb0
          obtain ⟨As, rest⟩ := q
          obtain ⟨rfl, hlen⟩ := cutA_inv hq
          simp only [okRb, Bool.and_eq_true] at hok
          obtain ⟨ps, hm⟩ := m4_inv hok.1
          obtain ⟨hm1, hm2⟩ := mlT_ok _ hm
          obtain ⟨-, hk1, -⟩ := mlK_ok _ hm
          have hks := hk1 rfl
          obtain ⟨qq, hqq, hqa⟩ := mp_at hm2
          simp only at hm1 hm2 hks hqa
          subst hqa
          obtain ⟨n1, n2, n3, n4, n5, n6, n7⟩ := mpN_ok qq hqq
          obtain ⟨m1, m2, m3, m4⟩ := mpT_ok qq hqq
          rw [hks] at m1
          have mo1 := run_mono n hu1
          have mo2 := run_mono n e4
          have hM := met_of S l hu1 hm2 hsp (D := D) (cA := cA) (sz0 := sz0) (ro := ro) (ad := ad) hro
          have hl9 : Cond.methodLink (cN (mCi y)) k (mAt qq.1).1 ∈ lw_tbl := List.mem_of_getElem? hm1
          have hG9 : GoodIn uT (va_wsS (cN (mCi y)) k (mAt qq.1).1 (wsM qq.1)) := by
            intro w hw
            unfold va_wsS at hw
            rcases List.mem_append.mp hw with hw | hw
            · simp only [List.mem_cons, List.not_mem_nil, or_false] at hw
              rcases hw with rfl | rfl | rfl
              · exact gU hl9 rfl
              · exact gU (List.mem_of_getElem? m1) rfl
              · exact gU (List.mem_of_getElem? m2) rfl
            · exact gM hm2 w hw
          have hnn : (parseMethodDescriptor (mAt qq.1).1.desc).map (fun d => d.parameters.length) = some (As.map (tv ad)).length := by
            rw [n4, hks]
            have hlen2 : As.length = mNA qq.1 := hlen
            simp [hlen2]
          refine aCall (va_runS (As := As.map (tv ad)) (rest := rest.map (tv ad)) ⟨hx, hb, hml, hown, hts⟩ hM (va_cwS _ hts hG9 rfl rfl rfl ⟨n1, n2, hnn⟩ ⟨by simp only [rmM]; omega, by simp only [rmM]; omega⟩) ⟨aPre_blind, fun U hU hW => ?_⟩ rfl rfl hl.size ?_ (lv_room (by rw [cat_sum]; exact hr8)) hdec ⟨by have := mo1.1; have := mo2.1; omega, by have := mo1.2.1; have := mo2.2.1; omega⟩) hS (fun ad' H1 locs1 g1 g2 hP1 hD1 hS1 => ?_)
          · exact ⟨rfl, by rw [hU]; exact hP, va_K.moved hW.alike hK, hD, by rw [hU]; exact Nat.le_trans hz hS.1, by rw [hU]; exact hG.to hW hS.2.1⟩
          · simp
          · have ead : ad' = ad := by
              funext k
              apply g1
              have := (mo1.2.2 rfl).1
              omega
            subst ead
            have hst : (u1.1.map (tv ad')).toList ++ rest.map (tv ad') = (u1.1.toList ++ rest).map (tv ad') := by cases u1.1 <;> simp
            rw [hst]
            have hle := (mo1.2.2 rfl)
            exact S al _ y (pc + 3) L _ u1.2 u e4 p l ev R s m args below meth c D cA sz0 ro hc hRf hRl hK hG hz Q ad0 n0 hret ad' H1 locs1 _ _ ls ⟨hP1, hD1, hS1, hl, hro⟩ (by omega) ha (by have := mo1.1; have := mo2.1; omega) (by have := mo1.2.1; have := mo2.2.1; omega)
    case invokespecial k =>
      obtain ⟨rfl, e1⟩ := lenO_inv e
      split at e1
      · cases e1
      · rename_i d
        by_cases hb3 : b = 3
        · rw [if_pos hb3] at e1
          subst hb3
          split at e1
          · rename_i q0 r
            obtain ⟨h1, e2⟩ := atL_inv e1
            have hr8 := of_decide_eq_true h1
            have hm3 : m4 mlT (mCi y) k a 3 = true := by
              simp only [okRb] at hok
              simpa using hok
            obtain ⟨ps, hm⟩ := m4_inv hm3
            obtain ⟨hm1, hm2⟩ := mlT_ok _ hm
            have hl9 : Cond.methodLink (cN (mCi y)) k objectInit ∈ lw_tbl := List.mem_of_getElem? hm1
            refine W.objInit hx hb hown (hts _ (uM hl9 rfl)) (hts _ (uM ayT_ok.2.2.2 rfl)) (hts _ (uM oc_in rfl)) (g := F0 m pc ls ((Value.ref q0 :: r).map (tv ad))) rfl (by rw [hml]; exact hl.size) (a := ad q0) (rest := r.map (tv ad)) rfl hdec (by omega) (by have := cat_sum ad r; show 2 * 0 + _ + 12 ≤ _; omega) ?_
            exact S al _ y (pc + 3) L r h u e2 p l ev R s m args below meth c D cA sz0 ro hc hRf hRl hK hG hz Q ad0 n0 hret ad H locs _ _ ls hr hn0 ha hb1 hb2
          · cases e1
        · rw [if_neg hb3] at e1
          obtain ⟨q, hq, e2⟩ := oB_inv e1
          obtain ⟨h1, e3⟩ := atL_inv e2
          obtain ⟨u1, hu1, e4⟩ := oB_inv e3
          obtain ⟨h6, e5⟩ := atL_inv e4
          simp only [Bool.and_eq_true, decide_eq_true_eq, rm8] at h1 h6
          obtain ⟨hal, hv, ⟨hr8, hsp⟩, hb0, hini⟩ := h1
          subst hb0
          obtain ⟨hrk, hiL, hiR⟩ := h6
          obtain ⟨As, rest⟩ := q
          obtain ⟨rfl, hlen⟩ := cutA_inv hq
          obtain ⟨q0, As', fs, rfl, hcell⟩ := vOk_inv hv
          obtain ⟨kd, ps, hkd, hm⟩ : ∃ kd ps, (kd = 2 ∨ kd = 5) ∧ (mCi y, k, a, kd, ps) ∈ mlT := by
            simp only [okRb, Bool.or_eq_true, Bool.and_eq_true] at hok
            rcases hok with hok | hok
            · obtain ⟨ps, hm⟩ := m4_inv hok.1
              exact ⟨2, ps, Or.inl rfl, hm⟩
            · obtain ⟨ps, hm⟩ := m4_inv hok.1
              exact ⟨5, ps, Or.inr rfl, hm⟩
          obtain ⟨hm1, hm2⟩ := mlT_ok _ hm
          obtain ⟨-, -, hk2⟩ := mlK_ok _ hm
          obtain ⟨hki, hks, hkr⟩ := hk2 hkd
          obtain ⟨qq, hqq, hqa⟩ := mp_at hm2
          simp only at hm1 hm2 hks hki hkr hqa
          subst hqa
          obtain ⟨n1, n2, n3, n4, n5, n6, n7⟩ := mpN_ok qq hqq
          obtain ⟨m1, m2, m3, m4⟩ := mpT_ok qq hqq
          rw [hks] at m1
          have hyn : (mAt qq.1).1.name = "<init>" := n7.mp hki
          have mo1 := run_mono n hu1
          have mo2 := run_mono n e5
          have hM := met_of S l hu1 hm2 hsp (D := D) (cA := cA) (sz0 := sz0) (ro := ro) (ad := ad) hro
          have hnn : (parseMethodDescriptor (mAt qq.1).1.desc).map (fun d => d.parameters.length) = some (As'.map (tv ad)).length := by
            rw [n4, hks]
            simp only [List.length_cons] at hlen
            simp
            omega
          have hin9 := hts _ (uM (List.mem_of_getElem? m1) rfl)
          have hini9 := hts _ (uM (List.mem_of_getElem? m2) rfl)
          have hPc : PreS s H (aPre scr D cA sz0 ro ad h (Value.ref q0 :: As')) (.ref (ad q0) :: As'.map (tv ad)) := ⟨aPre_blind, fun U hU hW => ⟨rfl, by rw [hU]; exact hP, va_K.moved hW.alike hK, hD, by rw [hU]; exact Nat.le_trans hz hS.1, by rw [hU]; exact hG.to hW hS.2.1⟩⟩
          have hrun : va_Run p l ev R s m args below meth c H locs cells slots (u1.2.length - h.length) (slt u1.2 - slt h) (F0 m pc ls (((Value.ref q0 :: As').reverse ++ rest).map (tv ad))) (rest.map (tv ad)) (aPost D cA sz0 ro ad h.length u1.1 u1.2 (Value.ref (ad q0) :: As'.map (tv ad)).toArray) (A0 sz0) := by
            have hws : wsM qq.1 = Cond.code (mAt qq.1).1 (mAt qq.1).2.1 (mMax qq.1) none :: lw_tbl.filter goodWord := by unfold wsM; rw [hkr]
            rcases hkd with rfl | rfl
            · have hl9 : Cond.methodLink (cN (mCi y)) k (mAt qq.1).1 ∈ lw_tbl := List.mem_of_getElem? hm1
              exact va_runI (As := As'.map (tv ad)) (rest := rest.map (tv ad)) ⟨hx, hb, hml, hown, hts⟩ hM (cwI _ hts (gM hm2) hws rfl rfl hini9 (hts _ (uM hl9 rfl)) hin9 hyn ⟨n1, n2, hnn⟩ ⟨by simp only [rmM]; omega, by simp only [rmM]; omega⟩) hPc rfl rfl hl.size (by simp [tv]) (lv_room (by rw [cat_sum]; exact hr8)) hdec ⟨by have := mo1.1; have := mo2.1; omega, by have := mo1.2.1; have := mo2.2.1; omega⟩
            · have hl9 : Cond.methodLinkNest (cN (mCi y)) k (mAt qq.1).1 "SecondNearest" ∈ lw_tbl := List.mem_of_getElem? hm1
              exact va_runIN (As := As'.map (tv ad)) (rest := rest.map (tv ad)) ⟨hx, hb, hml, hown, hts⟩ hM ⟨va_cnB _ hts (gM hm2) hws rfl rfl (va_Nw.of rfl (hts _ (uM hl9 rfl))) hini9 ⟨n1, n2, hnn⟩ ⟨by simp only [rmM]; omega, by simp only [rmM]; omega⟩, hyn, hin9⟩ hPc rfl rfl hl.size (by simp [tv]) (lv_room (by rw [cat_sum]; exact hr8)) hdec ⟨by have := mo1.1; have := mo2.1; omega, by have := mo1.2.1; have := mo2.2.1; omega⟩
          refine aCall hrun hS (fun ad' H1 locs1 g1 g2 hP1 hD1 hS1 => ?_)
          have h5 : ad' 50000 = ad 50000 := (g2 _ (by omega)).trans (hro _ (by omega)).symm
          have hL : ∀ v ∈ L, tv ad' v = tv ad v := fun v hv => okV_tv g1 h5 (List.all_eq_true.mp hiL v hv)
          have hR : rest.map (tv ad) = rest.map (tv ad') := List.map_congr_left (fun v hv => (okV_tv g1 h5 (List.all_eq_true.mp hiR v hv)).symm)
          have hst : (u1.1.map (tv ad')).toList ++ rest.map (tv ad) = (u1.1.toList ++ rest).map (tv ad') := by rw [hR]; cases u1.1 <;> simp
          rw [hst]
          exact S al _ y (pc + 3) L _ u1.2 u e5 p l ev R s m args below meth c D cA sz0 ro hc hRf hRl hK hG hz Q ad0 n0 hret ad' H1 locs1 _ _ ls ⟨hP1, hD1, hS1, hl.ad hL, g2⟩ (by have := mo1.1; omega) (fun k hk => by
            have := mo1.1
            have := mo2.1
            rw [g1 k (by omega)]
            exact ha k hk) (by have := mo1.1; have := mo2.1; omega) (by have := mo1.2.1; have := mo2.2.1; omega)
    all_goals
      obtain ⟨w, hw, e1⟩ := oB_inv e
      have mo1 := stp_mono hw
      have mo2 := run_mono n e1
      exact stp_sim hc hK hG hz hw hdec hok hr ⟨by have := mo1.1; have := mo2.1; omega, by have := mo1.2.1; have := mo2.2.1; omega⟩ (fun ad' H' locs' ls' cells' slots' g1 g2 g3 g4 => S al d y w.1 w.2.1 w.2.2.1 w.2.2.2 u e1 p l ev R s m args below meth c D cA sz0 ro hc hRf hRl hK hG hz Q ad0 n0 hret ad' H' locs' cells' slots' ls' g1 (by have := mo1.1; omega) (fun k hk => by
        have := mo1.1
        have := mo2.1
        rw [g2 k (by omega)]
        exact ha k hk) (by have := mo1.1; have := mo2.1; omega) (by have := mo1.2.1; have := mo2.2.1; omega))
