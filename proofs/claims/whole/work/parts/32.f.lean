variable {scr : List Int32}
-- ===== the constructors: an object under way =====
section CT5
variable {d y pc : Nat} {L st : List Value} {h l : aH} {K : Option Value → aH → Prop} {a b : Nat}
theorem ltV_mo {m n : Nat} {v : Value} (hm : m ≤ n) (hv : ltV m v = true) : ltV n v = true := by
  cases v with
  | ref k =>
    have hk : k < m := of_decide_eq_true hv
    exact decide_eq_true (Nat.lt_of_lt_of_le hk hm)
  | _ => rfl
theorem ltC_mo {m n : Nat} {c : aC} (hm : m ≤ n) (hc : ltC m c = true) : ltC n c = true := by
  match c with
  | .inr (ci, fs) =>
    have hc : fs.all (ltV m) = true := hc
    show fs.all (ltV n) = true
    rw [List.all_eq_true] at hc ⊢
    exact fun v hv => ltV_mo hm (hc v hv)
  | .inl (t, .inr (.inr l)) =>
    have hc : l.all (fun k => match k with
      | some k => decide (k < m)
      | none => true) = true := hc
    show l.all (fun k => match k with
      | some k => decide (k < n)
      | none => true) = true
    rw [List.all_eq_true] at hc ⊢
    intro v hv
    have := hc v hv
    cases v with
    | none => rfl
    | some k =>
      have hk : k < m := of_decide_eq_true this
      exact decide_eq_true (Nat.lt_of_lt_of_le hk hm)
  | .inl (t, .inr (.inl l)) => rfl
  | .inl (t, .inl l) => rfl
theorem alV_mo {m n : Nat} {l : List Value} (hm : m ≤ n) (h : l.all (ltV m) = true) : l.all (ltV n) = true := by
  rw [List.all_eq_true] at h ⊢
  exact fun v hv => ltV_mo hm (h v hv)
theorem alC_mo {m n : Nat} {l : aH} (hm : m ≤ n) (h : l.all (ltC m) = true) : l.all (ltC n) = true := by
  rw [List.all_eq_true] at h ⊢
  exact fun v hv => ltC_mo hm (h v hv)
theorem all_set {α : Type} {p : α → Bool} {fs : List α} {b : Nat} {v : α} (h : fs.all p = true) (hv : p v = true) : (fs.set b v).all p = true := by
  rw [List.all_eq_true] at h ⊢
  intro x hx
  rcases List.mem_or_eq_of_mem_set hx with h1 | h1
  · exact h x h1
  · rw [h1]; exact hv
theorem set_same {α : Type} {h : List α} {q : Nat} {x : α} (e : h[q]? = some x) : h.set q x = h := by
  apply List.ext_getElem?
  intro i
  rw [List.getElem?_set]
  by_cases hi : q = i
  · subst hi
    rw [if_pos rfl, if_pos (List.getElem?_eq_some_iff.mp e).1, e]
  · rw [if_neg hi]
/-- an object under way behind h: its N fields fs, the M cells l that came behind it -/
def OB (n N M : Nat) (h : aH) (fs : List Value) (l : aH) : Prop := h.length = n ∧ n < 8000 ∧ h.all (ltC n) = true ∧ fs.length = N ∧ l.length = M ∧ fs.all (ltV (n + 1 + M)) = true ∧ l.all (ltC (n + 1 + M)) = true
variable {n N M ci : Nat} {fs : List Value}
theorem OB_len {x : aC} (hO : OB n N M h fs l) : (h ++ (x :: l)).length = n + (M + 1) := by
  rw [List.length_append, hO.1, ← hO.2.2.2.2.1]
  rfl
theorem OB_all (hO : OB n N M h fs l) : (h ++ (.inr (ci, fs) :: l)).all (ltC (n + (M + 1))) = true := by
  obtain ⟨o1, o2, o3, o4, o7, o5, o6⟩ := hO
  have e : n + 1 + M = n + (M + 1) := by omega
  rw [e] at o5 o6
  rw [List.all_append, alC_mo (by omega) o3, List.all_cons, o6]
  show (true && (fs.all (ltV (n + (M + 1))) && true)) = true
  rw [o5]
  rfl
theorem OB_wf (hO : OB n N M h fs l) (hl : M < 900) (hL : L.all (ltV (n + (M + 1))) = true) (hs : st.all (ltV (n + (M + 1))) = true) : wfN L st (h ++ (.inr (ci, fs) :: l)) = true := by
  have := hO.2.1
  refine wf_of (n := n + (M + 1)) hL hs (OB_all hO) ?_ ?_
  · rw [OB_len hO]
    exact Nat.le_refl _
  · rw [OB_len hO]
    omega
theorem OB_set {b : Nat} {v : Value} (hO : OB n N M h fs l) (hv : ltV (n + 1 + M) v = true) : OB n N M h (fs.set b v) l := by
  obtain ⟨o1, o2, o3, o4, o7, o5, o6⟩ := hO
  exact ⟨o1, o2, o3, by rw [List.length_set]; exact o4, o7, all_set o5 hv, o6⟩
theorem OB_more {cs : aH} {k : Nat} (hO : OB n N M h fs l) (hk : cs.length = k) (hc : cs.all (ltC (n + 1 + (M + k))) = true) : OB n N (M + k) h fs (l ++ cs) := by
  obtain ⟨o1, o2, o3, o4, o7, o5, o6⟩ := hO
  have e : n + 1 + M ≤ n + 1 + (M + k) := by omega
  refine ⟨o1, o2, o3, o4, by rw [List.length_append, o7, hk], alV_mo e o5, ?_⟩
  rw [List.all_append, alC_mo e o6, hc]
  rfl
/-- a field of the object itself is set -/
theorem E_pt {kx pe : Nat} {v : Value} {fs' : List Value} (hO : OB n N M h fs l) (hfs : fs.set b v = fs') (hpe : pc + 3 = pe) (hr : rowAt y pc = some (.putfield kx, 3, ci, b)) (hm : mIni y = some ci) (h1 : narrow (aFty ci b) v = v) (h2 : fits (aFty ci b) v = true) (hb : b < N) (hv : ltV (n + 1 + M) v = true) (hE : OB n N M h fs' l → E scr true d y pe L st (h ++ (.inr (ci, fs') :: l)) K) : E scr true d y pc L (v :: .ref n :: st) (h ++ (.inr (ci, fs) :: l)) K := by
  subst hfs
  subst hpe
  have hO2 := OB_set (b := b) hO hv
  obtain ⟨o1, o2, o3, o4, o7, o5, o6⟩ := hO
  subst o1
  exact E_put (i := 0) (fs := fs) hr h1 h2 (by rw [hm]; simp) rfl (by rw [o4]; exact hb) (by omega) (hE hO2)
/-- a new row, and the field for it -/
theorem E_row {lp kx m M' pe a0 b0 a1 b1 : Nat} {cl : aC} {ip : Instr} {v : Int32} {fs' : List Value} {l' : aH} (hO : OB n N M h fs l) (hl : M < 900) (hL : (Value.ref n :: L).all (ltV (n + 1)) = true) (hst : st.all (ltV (n + 1)) = true) (hm : mIni y = some ci) (hn : n + (M + 1) = m) (hM : M + 1 = M') (hfs : fs.set b (.ref m) = fs') (hl' : l ++ [cl] = l') (hpe : pc + 1 + lp + 2 + 3 = pe)
    (q0 : rowAt y pc = some (.aload_n 0, 1, a0, b0)) (q1 : rowAt y (pc + 1) = some (ip, lp, a1, b1)) (hi : isStp ip = true) (hs : ∀ (st : List Value) (h : aH), stp scr true (mIni y) ip lp a1 b1 (pc + 1) (.ref n :: L) st h = some (pc + 1 + lp, .ref n :: L, .int v :: st, h))
    (q2 : ∀ {st : List Value} {h : aH}, wfN (.ref n :: L) st h = true → E scr true d y (pc + 1 + lp + 2) (.ref n :: L) (.ref h.length :: st) (h ++ [cl]) K → E scr true d y (pc + 1 + lp) (.ref n :: L) (.int v :: st) h K)
    (hc : ltC 0 cl = true) (q3 : rowAt y (pc + 1 + lp + 2) = some (.putfield kx, 3, ci, b)) (h1 : ∀ q, narrow (aFty ci b) (.ref q) = .ref q) (h2 : ∀ q, fits (aFty ci b) (.ref q) = true) (hb : b < N)
    (hE : OB n N M' h fs' l' → E scr true d y pe (.ref n :: L) st (h ++ (.inr (ci, fs') :: l')) K) :
    E scr true d y pc (.ref n :: L) st (h ++ (.inr (ci, fs) :: l)) K := by
  subst hn
  subst hl'
  subst hM
  refine E_s (w := (pc + 1, .ref n :: L, .ref n :: st, h ++ (.inr (ci, fs) :: l))) q0 rfl rfl ?_
  refine E_s q1 hi (hs _ _) ?_
  refine q2 (OB_wf hO hl (alV_mo (by omega) hL) ?_) ?_
  · rw [List.all_cons, alV_mo (show n + 1 ≤ n + (M + 1) by omega) hst]
    simp [ltV]
  · rw [OB_len hO, show h ++ (.inr (ci, fs) :: l) ++ [cl] = h ++ (.inr (ci, fs) :: (l ++ [cl])) by simp]
    have hO2 : OB n N (M + 1) h fs (l ++ [cl]) := OB_more hO rfl (by rw [List.all_cons, ltC_mo (Nat.zero_le _) hc]; rfl)
    exact E_pt hO2 hfs hpe q3 hm (h1 _) (h2 _) hb (decide_eq_true (show n + (M + 1) < n + 1 + (M + 1) by omega)) hE
/-- an argument into its field -/
theorem E_arg {kx p pe a0 b0 a1 b1 : Nat} {k : Fin 4} {fs' : List Value} (hO : OB n N M h fs l) (hm : mIni y = some ci) (hp : p < n) (hfs : fs.set b (.ref p) = fs') (hpe : pc + 1 + 1 + 3 = pe)
    (q0 : rowAt y pc = some (.aload_n 0, 1, a0, b0)) (q1 : rowAt y (pc + 1) = some (.aload_n k, 1, a1, b1)) (hs : ∀ (st : List Value) (h : aH), stp scr true (mIni y) (.aload_n k) 1 a1 b1 (pc + 1) (.ref n :: L) st h = some (pc + 1 + 1, .ref n :: L, .ref p :: st, h))
    (q3 : rowAt y (pc + 1 + 1) = some (.putfield kx, 3, ci, b)) (h1 : ∀ q, narrow (aFty ci b) (.ref q) = .ref q) (h2 : ∀ q, fits (aFty ci b) (.ref q) = true) (hb : b < N)
    (hE : OB n N M h fs' l → E scr true d y pe (.ref n :: L) st (h ++ (.inr (ci, fs') :: l)) K) :
    E scr true d y pc (.ref n :: L) st (h ++ (.inr (ci, fs) :: l)) K := by
  refine E_s (w := (pc + 1, .ref n :: L, .ref n :: st, h ++ (.inr (ci, fs) :: l))) q0 rfl rfl ?_
  refine E_s q1 rfl (hs _ _) ?_
  exact E_pt hO hfs hpe q3 hm (h1 _) (h2 _) hb (decide_eq_true (show p < n + 1 + M by omega)) hE
/-- a number into its field -/
theorem E_num {lp kx pe a0 b0 a1 b1 : Nat} {ip : Instr} {v : Int32} {fs' : List Value} (hO : OB n N M h fs l) (hm : mIni y = some ci) (hfs : fs.set b (.int v) = fs') (hpe : pc + 1 + lp + 3 = pe)
    (q0 : rowAt y pc = some (.aload_n 0, 1, a0, b0)) (q1 : rowAt y (pc + 1) = some (ip, lp, a1, b1)) (hi : isStp ip = true) (hs : ∀ (st : List Value) (h : aH), stp scr true (mIni y) ip lp a1 b1 (pc + 1) (.ref n :: L) st h = some (pc + 1 + lp, .ref n :: L, .int v :: st, h))
    (q3 : rowAt y (pc + 1 + lp) = some (.putfield kx, 3, ci, b)) (h1 : narrow (aFty ci b) (.int v) = .int v) (h2 : fits (aFty ci b) (.int v) = true) (hb : b < N)
    (hE : OB n N M h fs' l → E scr true d y pe (.ref n :: L) st (h ++ (.inr (ci, fs') :: l)) K) :
    E scr true d y pc (.ref n :: L) st (h ++ (.inr (ci, fs) :: l)) K := by
  refine E_s (w := (pc + 1, .ref n :: L, .ref n :: st, h ++ (.inr (ci, fs) :: l))) q0 rfl rfl ?_
  refine E_s q1 hi (hs _ _) ?_
  exact E_pt hO hfs hpe q3 hm h1 h2 hb rfl hE
end CT5
