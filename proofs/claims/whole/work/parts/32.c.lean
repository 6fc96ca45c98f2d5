variable {scr : List Int32}
-- ===== the constructors: new rows, cells that are known =====
section CT2
variable {d y pc : Nat} {L st : List Value} {h : aH} {K : Option Value → aH → Prop} {a b : Nat}
def ltV (n : Nat) (v : Value) : Bool := match v with
  | .ref k => decide (k < n)
  | _ => true
def ltC (n : Nat) (c : aC) : Bool := match c with
  | .inr (_, fs) => fs.all (ltV n)
  | .inl (_, .inr (.inr l)) => l.all (fun k => match k with
    | some k => decide (k < n)
    | none => true)
  | _ => true
theorem nrV_lt {m n : Nat} {v : Value} (hm : m ≤ n) (hv : ltV m v = true) : nrV n v = true := by
  cases v with
  | ref k =>
    have hv : decide (k < m) = true := hv
    have hk : k < m := of_decide_eq_true hv
    show (!(k == n)) = true
    have : ¬ k = n := fun e => by
      rw [e] at hk
      exact Nat.lt_irrefl _ (Nat.lt_of_lt_of_le hk hm)
    simp [this]
  | _ => rfl
theorem nrC_lt {m n : Nat} {c : aC} (hm : m ≤ n) (hc : ltC m c = true) : nrC n c = true := by
  match c with
  | .inr (ci, fs) =>
    have hc : fs.all (ltV m) = true := hc
    show fs.all (nrV n) = true
    rw [List.all_eq_true] at hc ⊢
    exact fun v hv => nrV_lt hm (hc v hv)
  | .inl (t, .inr (.inr l)) =>
    have hc : l.all (fun k => match k with
      | some k => decide (k < m)
      | none => true) = true := hc
    show l.all (fun k => !(k == some n)) = true
    rw [List.all_eq_true] at hc ⊢
    intro v hv
    have := hc v hv
    cases v with
    | none => rfl
    | some k =>
      have hk : k < m := of_decide_eq_true this
      have : ¬ k = n := by omega
      simp [this]
  | .inl (t, .inr (.inl l)) => rfl
  | .inl (t, .inl l) => rfl
theorem wf_of {n : Nat} (h1 : L.all (ltV n) = true) (h2 : st.all (ltV n) = true) (h3 : h.all (ltC n) = true) (hn : n ≤ h.length) (h9 : h.length < 9000) : wfN L st h = true := by
  unfold wfN
  rw [List.all_eq_true] at h1 h2 h3
  simp only [Bool.and_eq_true, List.all_eq_true, decide_eq_true_eq]
  exact ⟨fun v hv => nrV_lt hn (h1 v hv), fun v hv => nrV_lt hn (h2 v hv), fun v hv => nrC_lt hn (h3 v hv), h9⟩
theorem E_naI {n : Int32} {k : Nat} (hr : rowAt y pc = some (.newarray .int, 2, a, b)) (hw : wfN L st h = true) (hn : ¬ n < 0) (hk : n.toNatClampNeg = k) (h4 : k ≤ 10000) (hE : E scr true d y (pc + 2) L (.ref h.length :: st) (h ++ [.inl (1, .inl (List.replicate k 0))]) K) : E scr true d y pc L (.int n :: st) h K := by
  rw [E_ex hr rfl]
  refine ⟨(pc + 2, L, .ref h.length :: st, h ++ [.inl (1, .inl (List.replicate k 0))]), ?_, hE⟩
  unfold stp
  subst hk
  exact lenO_some rfl (atL_some (by simp [hw, hn, h4]) rfl)
theorem E_naB {n : Int32} {k : Nat} (hr : rowAt y pc = some (.newarray .byte, 2, a, b)) (hw : wfN L st h = true) (hn : ¬ n < 0) (hk : n.toNatClampNeg = k) (h4 : k ≤ 10000) (hE : E scr true d y (pc + 2) L (.ref h.length :: st) (h ++ [.inl (0, .inl (List.replicate k 0))]) K) : E scr true d y pc L (.int n :: st) h K := by
  rw [E_ex hr rfl]
  refine ⟨(pc + 2, L, .ref h.length :: st, h ++ [.inl (0, .inl (List.replicate k 0))]), ?_, hE⟩
  unfold stp
  subst hk
  exact lenO_some rfl (atL_some (by simp [hw, hn, h4]) rfl)
theorem E_naZ {n : Int32} {k : Nat} (hr : rowAt y pc = some (.newarray .boolean, 2, a, b)) (hw : wfN L st h = true) (hn : ¬ n < 0) (hk : n.toNatClampNeg = k) (h4 : k ≤ 10000) (hE : E scr true d y (pc + 2) L (.ref h.length :: st) (h ++ [.inl (3, .inl (List.replicate k 0))]) K) : E scr true d y pc L (.int n :: st) h K := by
  rw [E_ex hr rfl]
  refine ⟨(pc + 2, L, .ref h.length :: st, h ++ [.inl (3, .inl (List.replicate k 0))]), ?_, hE⟩
  unfold stp
  subst hk
  exact lenO_some rfl (atL_some (by simp [hw, hn, h4]) rfl)
theorem E_naJ {n : Int32} {k : Nat} (hr : rowAt y pc = some (.newarray .long, 2, a, b)) (hw : wfN L st h = true) (hn : ¬ n < 0) (hk : n.toNatClampNeg = k) (h4 : k ≤ 10000) (hE : E scr true d y (pc + 2) L (.ref h.length :: st) (h ++ [.inl (2, .inr (.inl (List.replicate k 0)))]) K) : E scr true d y pc L (.int n :: st) h K := by
  rw [E_ex hr rfl]
  refine ⟨(pc + 2, L, .ref h.length :: st, h ++ [.inl (2, .inr (.inl (List.replicate k 0)))]), ?_, hE⟩
  unfold stp
  subst hk
  exact lenO_some rfl (atL_some (by simp [hw, hn, h4]) rfl)
/-- a field of a cell that came behind h -/
theorem wrF_ap {l : aH} {i ci k : Nat} {fs : List Value} {v : Value} (hi : l[i]? = some (.inr (ci, fs))) (hk : k < fs.length) (hb : h.length + i < 10000) : wrF (h ++ l) (h.length + i) ci k v = some (h ++ l.set i (.inr (ci, fs.set k v))) := by
  unfold wrF
  rw [List.getElem?_append_right (by omega), show h.length + i - h.length = i by omega, hi]
  dsimp only
  rw [if_pos ⟨rfl, hk, hb⟩, List.set_append_right _ _ (by omega), show h.length + i - h.length = i by omega]
end CT2
