variable {scr : List Int32}
-- ===== the constructors: the tape =====
section CT4
variable {d y pc : Nat} {L st : List Value} {h l : aH} {K : Option Value → aH → Prop} {a b : Nat}
theorem E_s {i : Instr} {len : Nat} {w : aF} (hr : rowAt y pc = some (i, len, a, b)) (hi : isStp i = true) (hs : stp scr true (mIni y) i len a b pc L st h = some w) (hE : E scr true d y w.1 w.2.1 w.2.2.1 w.2.2.2 K) : E scr true d y pc L st h K := by
  rw [E_ex hr hi]
  exact ⟨w, hs, hE⟩
theorem q64_0 : rowAt 64 0 = some (.aload_n 0, 1, 0, 0) := by decide +kernel
theorem q64_1 : rowAt 64 1 = some (.invokespecial 3, 3, 0, 3) := by decide +kernel
theorem q64_4 : rowAt 64 4 = some (.aload_n 0, 1, 0, 0) := by decide +kernel
theorem q64_5 : rowAt 64 5 = some (.sipush 400, 3, 0, 0) := by decide +kernel
theorem q64_8 : rowAt 64 8 = some (.newarray .byte, 2, 0, 0) := by decide +kernel
theorem q64_10 : rowAt 64 10 = some (.putfield 11, 3, 6, 0) := by decide +kernel
theorem q64_13 : rowAt 64 13 = some (.return_, 1, 0, 0) := by decide +kernel
theorem ct64 (hh : h.all (ltC h.length) = true) (h9 : h.length < 8000) (hK : K none (h ++ [.inr (6, [.ref (h.length + 1), .int 0, .int 0, .int 0]), .inl (0, .inl (List.replicate 400 0))])) : E scr true (d + 1) 64 0 [.ref h.length] [] (h ++ [.inr (6, aDef 6)]) K := by
  have mono : ∀ n, h.length ≤ n → h.all (ltC n) = true := by
    intro n hn
    rw [List.all_eq_true] at hh ⊢
    intro c hc
    have := hh c hc
    match c with
    | .inr (ci, fs) =>
      have this : fs.all (ltV h.length) = true := this
      show fs.all (ltV n) = true
      rw [List.all_eq_true] at this ⊢
      intro v hv
      have := this v hv
      cases v with
      | ref k =>
        have hk : k < h.length := of_decide_eq_true this
        exact decide_eq_true (Nat.lt_of_lt_of_le hk hn)
      | _ => rfl
    | .inl (t, .inr (.inr l)) =>
      have this : l.all (fun k => match k with
        | some k => decide (k < h.length)
        | none => true) = true := this
      show l.all (fun k => match k with
        | some k => decide (k < n)
        | none => true) = true
      rw [List.all_eq_true] at this ⊢
      intro v hv
      have := this v hv
      cases v with
      | none => rfl
      | some k =>
        have hk : k < h.length := of_decide_eq_true this
        exact decide_eq_true (Nat.lt_of_lt_of_le hk hn)
    | .inl (t, .inr (.inl l)) => rfl
    | .inl (t, .inl l) => rfl
  apply E_s q64_0 rfl rfl
  apply E_iobj (d := d) q64_1 (by decide)
  apply E_s q64_4 rfl rfl
  apply E_s q64_5 rfl rfl
  apply E_naB (k := 400) q64_8 _ (by decide) (by decide) (by decide)
  · have e : (h ++ [Sum.inr (6, aDef 6)]).length = h.length + 1 := by simp
    rw [e, List.append_assoc]
    apply E_put (i := 0) (fs := aDef 6) q64_10 (by rfl) (by rfl) (by decide +kernel) rfl (by decide) (by omega)
    rw [E_vret q64_13 (by decide +kernel)]
    exact hK
  · apply wf_of (n := h.length + 1)
    · simp [ltV]
    · simp [ltV]
    · rw [List.all_append, mono _ (by omega)]
      rfl
    · simp
    · simp; omega
end CT4
