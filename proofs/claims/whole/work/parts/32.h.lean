variable {scr : List Int32}
-- ===== the constructors: objects made by objects =====
section CT7
variable {d y pc : Nat} {L st : List Value} {h l : aH} {K : Option Value → aH → Prop} {a b n N M ci : Nat} {fs : List Value}
/-- aload_0, new, dup -/
theorem E_nd {c kx m pe a0 b0 a1 a2 b2 : Nat} (hO : OB n N M h fs l) (hl : M < 900) (hn : n + (M + 1) = m) (hpe : pc + 1 + 3 + 1 = pe) (hL : (Value.ref n :: L).all (ltV (n + 1)) = true) (hst : st.all (ltV (n + 1)) = true)
    (q0 : rowAt y pc = some (.aload_n 0, 1, a0, b0)) (q1 : rowAt y (pc + 1) = some (.new kx, 3, c, a1)) (hc : c < 10) (q2 : rowAt y (pc + 1 + 3) = some (.dup, 1, a2, b2))
    (hE : E scr true d y pe (.ref n :: L) (.ref m :: .ref m :: .ref n :: st) (h ++ (.inr (ci, fs) :: l) ++ [.inr (c, aDef c)]) K) :
    E scr true d y pc (.ref n :: L) st (h ++ (.inr (ci, fs) :: l)) K := by
  subst hn
  subst hpe
  refine E_s (w := (pc + 1, .ref n :: L, .ref n :: st, h ++ (.inr (ci, fs) :: l))) q0 rfl rfl ?_
  refine E_new q1 (OB_wf hO hl (alV_mo (by omega) hL) ?_) hc ?_
  · rw [List.all_cons, alV_mo (show n + 1 ≤ n + (M + 1) by omega) hst]
    simp [ltV]
  · rw [OB_len hO]
    exact E_s q2 rfl rfl hE
theorem okV_of {lo hi : Nat} {l : List Value} (h : l.all (ltV lo) = true) : l.all (okV lo hi) = true := by
  rw [List.all_eq_true] at h ⊢
  intro v hv
  have := h v hv
  cases v with
  | ref k =>
    have hk : k < lo := of_decide_eq_true this
    show (decide (k < lo) || decide (hi ≤ k)) = true
    simp [hk]
  | _ => rfl
/-- the constructor of the cell that was made last -/
theorem E_cn {c cy kx m k M' pe : Nat} {As rest : List Value} {cells l' : aH} (hO : OB n N M h fs l) (hl : M < 900) (hn : n + (M + 1) = m) (hM : M + k = M') (hl' : l ++ cells = l') (hpe : pc + 3 = pe) (hL : L.all (ltV (m + 1)) = true) (hst : rest.all (ltV (m + 1)) = true)
    (hr : rowAt y pc = some (.invokespecial kx, 3, cy, 2)) (hcut : cutA cy st = some (.ref m :: As, rest)) (h8 : rm8 cy (.ref m :: As) rest = true) (hi : mIni cy = some c) (hci : mCi cy = c) (hret : mRet cy = none)
    (hck : cells.length = k) (hcs : cells.all (ltC (m + k)) = true)
    (hcall : ∀ K' : Option Value → aH → Prop, K' none (h ++ (.inr (ci, fs) :: l) ++ cells) → E scr true d cy 0 (iniL cy (.ref m :: As)) [] (h ++ (.inr (ci, fs) :: l) ++ [.inr (c, aDef c)]) K')
    (hE : OB n N M' h fs l' → E scr true (d + 1) y pe L rest (h ++ (.inr (ci, fs) :: l')) K) :
    E scr true (d + 1) y pc L st (h ++ (.inr (ci, fs) :: l) ++ [.inr (c, aDef c)]) K := by
  subst hM
  subst hl'
  subst hpe
  have hlen : (h ++ (.inr (ci, fs) :: l) : aH).length = m := by rw [OB_len hO]; exact hn
  have h9 := hO.2.1
  refine E_icall hr hcut h8 (by rw [hi, hci]) (vOk_ap hlen (by omega) hci) (hcall _ ?_)
  have hlo : (h ++ (.inr (ci, fs) :: l) ++ [.inr (c, aDef c)] : aH).length = m + 1 := by
    rw [List.length_append, hlen]
    rfl
  have e : h ++ (.inr (ci, fs) :: l) ++ cells = h ++ (.inr (ci, fs) :: (l ++ cells)) := by simp
  refine ⟨by unfold rOk; rw [hret], ?_, ?_, ?_⟩
  · rw [hlo]
    exact okV_of hL
  · rw [hlo]
    exact okV_of hst
  · rw [e]
    exact hE (OB_more hO hck (alC_mo (by omega) hcs))
/-- aload_0, getfield of the object itself, while a new cell stands at the end -/
theorem E_ga {kx v pe a0 b0 : Nat} {l' : aH} (hn : h.length = n) (h9 : n < 8000) (hpe : pc + 1 + 3 = pe)
    (q0 : rowAt y pc = some (.aload_n 0, 1, a0, b0)) (q1 : rowAt y (pc + 1) = some (.getfield kx, 3, ci, b)) (h1 : fKd ci b (.ref v) = true) (hb : fs[b]? = some (.ref v))
    (hE : E scr true d y pe (.ref n :: L) (.ref v :: st) (h ++ (.inr (ci, fs) :: l) ++ l') K) :
    E scr true d y pc (.ref n :: L) st (h ++ (.inr (ci, fs) :: l) ++ l') K := by
  subst hpe
  refine E_s (w := (pc + 1, .ref n :: L, .ref n :: st, h ++ (.inr (ci, fs) :: l) ++ l')) q0 rfl rfl ?_
  have e : h ++ (.inr (ci, fs) :: l) ++ l' = h ++ (.inr (ci, fs) :: (l ++ l')) := by simp
  rw [e] at hE
  show E scr true d y (pc + 1) (.ref n :: L) (.ref n :: st) (h ++ (.inr (ci, fs) :: l) ++ l') K
  rw [e]
  subst hn
  exact E_get (i := 0) (fs := fs) q1 h1 rfl hb (by omega) hE
theorem ltC_rep {n t k : Nat} : ltC n (.inl (t, .inr (.inr (List.replicate k none)))) = true := by
  unfold ltC
  dsimp only
  rw [List.all_eq_true]
  intro x hx
  rw [List.eq_of_mem_replicate hx]
/-- aload_0, push, anewarray, putfield -/
theorem E_anr {lp kx ka t m k M' pe a0 b0 a1 b1 b2 : Nat} {ip : Instr} {v : Int32} {fs' : List Value} {l' : aH} (hO : OB n N M h fs l) (hl : M < 900) (hL : (Value.ref n :: L).all (ltV (n + 1)) = true) (hst : st.all (ltV (n + 1)) = true) (hm : mIni y = some ci) (hn : n + (M + 1) = m) (hM : M + 1 = M') (hfs : fs.set b (.ref m) = fs') (hl' : l ++ [.inl (t, .inr (.inr (List.replicate k none)))] = l') (hpe : pc + 1 + lp + 3 + 3 = pe)
    (q0 : rowAt y pc = some (.aload_n 0, 1, a0, b0)) (q1 : rowAt y (pc + 1) = some (ip, lp, a1, b1)) (hi : isStp ip = true) (hs : ∀ (st : List Value) (h : aH), stp scr true (mIni y) ip lp a1 b1 (pc + 1) (.ref n :: L) st h = some (pc + 1 + lp, .ref n :: L, .int v :: st, h))
    (q2 : rowAt y (pc + 1 + lp) = some (.anewarray ka, 3, t, b2)) (hv : ¬ v < 0) (hk : v.toNatClampNeg = k) (hk2 : k ≤ 10000) (ht : t = 4 ∨ t = 5)
    (q3 : rowAt y (pc + 1 + lp + 3) = some (.putfield kx, 3, ci, b)) (h1 : ∀ q, narrow (aFty ci b) (.ref q) = .ref q) (h2 : ∀ q, fits (aFty ci b) (.ref q) = true) (hb : b < N)
    (hE : OB n N M' h fs' l' → E scr true d y pe (.ref n :: L) st (h ++ (.inr (ci, fs') :: l')) K) :
    E scr true d y pc (.ref n :: L) st (h ++ (.inr (ci, fs) :: l)) K := by
  subst hn
  subst hk
  subst hM
  subst hl'
  refine E_s (w := (pc + 1, .ref n :: L, .ref n :: st, h ++ (.inr (ci, fs) :: l))) q0 rfl rfl ?_
  refine E_s q1 hi (hs _ _) ?_
  have hw : wfN (.ref n :: L) (.ref n :: st) (h ++ (.inr (ci, fs) :: l)) = true := OB_wf hO hl (alV_mo (by omega) hL) (by
    rw [List.all_cons, alV_mo (show n + 1 ≤ n + (M + 1) by omega) hst]
    simp [ltV])
  refine E_s (w := (pc + 1 + lp + 3, .ref n :: L, .ref (h ++ (.inr (ci, fs) :: l) : aH).length :: .ref n :: st, h ++ (.inr (ci, fs) :: l) ++ [.inl (t, .inr (.inr (List.replicate v.toNatClampNeg none)))])) q2 rfl ?_ ?_
  · unfold stp
    exact lenO_some rfl (atL_some (by rcases ht with rfl | rfl <;> simp [hw, hv, hk2]) rfl)
  · have hO2 : OB n N (M + 1) h fs (l ++ [.inl (t, .inr (.inr (List.replicate v.toNatClampNeg none)))]) := OB_more hO rfl (by rw [List.all_cons, ltC_rep]; rfl)
    show E scr true d y (pc + 1 + lp + 3) (.ref n :: L) (.ref (h ++ (.inr (ci, fs) :: l) : aH).length :: .ref n :: st) (h ++ (.inr (ci, fs) :: l) ++ [.inl (t, .inr (.inr (List.replicate v.toNatClampNeg none)))]) K
    rw [OB_len hO, show h ++ (.inr (ci, fs) :: l) ++ [.inl (t, .inr (.inr (List.replicate v.toNatClampNeg none)))] = h ++ (.inr (ci, fs) :: (l ++ [.inl (t, .inr (.inr (List.replicate v.toNatClampNeg none)))])) by simp]
    exact E_pt hO2 hfs hpe q3 hm (h1 _) (h2 _) hb (decide_eq_true (show n + (M + 1) < n + 1 + (M + 1) by omega)) hE
end CT7
