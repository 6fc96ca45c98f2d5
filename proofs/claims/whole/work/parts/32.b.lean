variable {scr : List Int32}
-- ===== the constructors: rules =====
section CT1
variable {d y pc : Nat} {L st : List Value} {h : aH} {K : Option Value → aH → Prop} {a b : Nat}
theorem E_icall {kx : Nat} {As rest : List Value} (hr : rowAt y pc = some (.invokespecial kx, 3, a, 2)) (hc : cutA a st = some (As, rest)) (h8 : rm8 a As rest = true) (hi : mIni a = some (mCi a)) (hv : vOk scr h As a = true)
    (hE : E scr true d a 0 (iniL a As) [] h (fun r h' => rOk a r = true ∧ L.all (okV h.length h'.length) = true ∧ rest.all (okV h.length h'.length) = true ∧ E scr true (d + 1) y (pc + 3) L (r.toList ++ rest) h' K)) : E scr true (d + 1) y pc L st h K := by
  obtain ⟨n1, u1, hu, h2, h3, h4, n2, u, e5, k⟩ := hE
  refine ⟨max n1 n2 + 1, u, ?_, k⟩
  unfold run
  rw [hr]
  refine lenO_some rfl ?_
  dsimp only
  rw [if_neg (by decide)]
  exact oB_some (k := fun q => atL (true && (vOk scr h q.1 a && (rm8 a q.1 q.2 && (decide (2 = 2) && decide (mIni a = some (mCi a)))))) (oB (run scr (max n1 n2) true d a 0 (iniL a q.1) [] h) fun u => atL (rOk a u.1 && (L.all (okV h.length u.2.length) && q.2.all (okV h.length u.2.length))) (run scr (max n1 n2) true (d + 1) y (pc + 3) L (u.1.toList ++ q.2) u.2))) hc (atL_some (by simp [hv, h8, hi]) (oB_some (run_le (Nat.le_max_left _ _) hu) (atL_some (by rw [h2, h3, h4]; rfl) (run_le (Nat.le_max_right _ _) e5))))
theorem E_iobj {kx q : Nat} (hr : rowAt y pc = some (.invokespecial kx, 3, a, 3)) (h8 : (st.map fun v => v.category).sum ≤ 8) (hE : E scr true (d + 1) y (pc + 3) L st h K) : E scr true (d + 1) y pc L (.ref q :: st) h K := by
  obtain ⟨n, u, e, k⟩ := hE
  refine ⟨n + 1, u, ?_, k⟩
  unfold run
  rw [hr]
  refine lenO_some rfl ?_
  dsimp only
  rw [if_pos rfl]
  exact atL_some (by simpa using h8) e
theorem E_new {kx : Nat} (hr : rowAt y pc = some (.new kx, 3, a, b)) (hw : wfN L st h = true) (ha : a < 10) (hE : E scr true d y (pc + 3) L (.ref h.length :: st) (h ++ [.inr (a, aDef a)]) K) : E scr true d y pc L st h K := by
  rw [E_ex hr rfl]
  refine ⟨(pc + 3, L, .ref h.length :: st, h ++ [.inr (a, aDef a)]), ?_, hE⟩
  unfold stp
  exact lenO_some rfl (atL_some (by simp [hw, ha]) rfl)
theorem rdF_scr {q ci k : Nat} : rdF scr h q ci k = rdF [] h q ci k := by
  unfold rdF cellAt
  by_cases h1 : q < 10000
  · rw [if_pos h1, if_pos h1]
  · rw [if_neg h1, if_neg h1]
    unfold roC
    by_cases h2 : q < 20000
    · rw [if_pos h2, if_pos h2]
      generalize (roSt scr)[q - 10000]? = o1
      generalize (roSt [])[q - 10000]? = o2
      cases o1 <;> cases o2 <;> rfl
    · rw [if_neg h2, if_neg h2]
theorem cc_scr (q k : Nat) : (match cellAt scr h q with
    | some (.inr (ci, _)) => ci == k
    | _ => false) = (match cellAt [] h q with
    | some (.inr (ci, _)) => ci == k
    | _ => false) := by
  unfold cellAt
  by_cases h1 : q < 10000
  · rw [if_pos h1, if_pos h1]
  · rw [if_neg h1, if_neg h1]
    unfold roC
    by_cases h2 : q < 20000
    · rw [if_pos h2, if_pos h2]
      generalize (roSt scr)[q - 10000]? = o1
      generalize (roSt [])[q - 10000]? = o2
      cases o1 <;> cases o2 <;> rfl
    · rw [if_neg h2, if_neg h2]
theorem vOk_scr {q : Nat} {As : List Value} : vOk scr h (.ref q :: As) y = vOk [] h (.ref q :: As) y := cc_scr q (mCi y)
theorem lenA_scr {q : Nat} (hq : q < 10000) : lenA scr h q = lenA [] h q := by
  unfold lenA cellAt
  rw [if_pos hq, if_pos hq]
end CT1
