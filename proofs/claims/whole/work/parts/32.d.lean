variable {scr : List Int32}
-- ===== the constructors: fields =====
section CT3
variable {d y pc : Nat} {L st : List Value} {h l : aH} {K : Option Value → aH → Prop} {a b : Nat}
theorem E_put {kx i : Nat} {v : Value} {fs : List Value} (hr : rowAt y pc = some (.putfield kx, 3, a, b)) (h1 : narrow (aFty a b) v = v) (h2 : fits (aFty a b) v = true) (h3 : (!(aFin a b) || decide (mIni y = some a)) = true) (hi : l[i]? = some (.inr (a, fs))) (hk : b < fs.length) (hb : h.length + i < 10000) (hE : E scr true d y (pc + 3) L st (h ++ l.set i (.inr (a, fs.set b v))) K) : E scr true d y pc L (v :: .ref (h.length + i) :: st) (h ++ l) K := by
  rw [E_ex hr rfl]
  refine ⟨(pc + 3, L, st, h ++ l.set i (.inr (a, fs.set b v))), ?_, hE⟩
  unfold stp
  exact lenO_some rfl (atL_some (by rw [h2, h3]; simp [h1]) (oB_some (wrF_ap hi hk hb) rfl))
theorem E_get {kx i : Nat} {v : Value} {fs : List Value} (hr : rowAt y pc = some (.getfield kx, 3, a, b)) (h1 : fKd a b v = true) (hi : l[i]? = some (.inr (a, fs))) (hk : fs[b]? = some v) (hb : h.length + i < 10000) (hE : E scr true d y (pc + 3) L (v :: st) (h ++ l) K) : E scr true d y pc L (.ref (h.length + i) :: st) (h ++ l) K := by
  rw [E_ex hr rfl]
  refine ⟨(pc + 3, L, v :: st, h ++ l), ?_, hE⟩
  unfold stp
  have e : rdF scr (h ++ l) (h.length + i) a b = some v := by
    unfold rdF cellAt
    rw [if_pos hb, List.getElem?_append_right (by omega), show h.length + i - h.length = i by omega, hi]
    dsimp only
    rw [if_pos rfl, hk]
  exact lenO_some rfl (oB_some e (atL_some h1 rfl))
end CT3
