variable {scr : List Int32}
-- ===== the constructors: a row of objects filled =====
section CT8
variable {d y pc : Nat} {L st : List Value} {h l1 l2 : aH} {K : Option Value → aH → Prop} {a b n N M ci : Nat} {fs : List Value} {rs : List (Option Nat)}
theorem ltV_q {k n : Nat} (h : k < n) : ltV n (.ref k) = true := decide_eq_true h
theorem al_c {n : Nat} {v : Value} {l : List Value} (h1 : ltV n v = true) (h2 : l.all (ltV n) = true) : (v :: l).all (ltV n) = true := by rw [List.all_cons, h1, h2]; rfl
theorem al_k {n : Nat} {v : aC} {l : aH} (h1 : ltC n v = true) (h2 : l.all (ltC n) = true) : (v :: l).all (ltC n) = true := by rw [List.all_cons, h1, h2]; rfl
theorem wrR_ap {t c i q m : Nat} {x : aC} {fc : List Value} {cs : aH} (hn : h.length = n) (h9 : n + (l1.length + l2.length) < 9000) (hq : n + (l1.length + 1) = q) (hm : n + (l1.length + (l2.length + 1) + 1) = m) (ht : (t = 4 ∧ c = 1) ∨ (t = 5 ∧ c = 5)) (hi : i < rs.length) (hi2 : i < 2 ^ 31) :
    wrR (h ++ (x :: (l1 ++ (.inl (t, .inr (.inr rs)) :: (l2 ++ (.inr (c, fc) :: cs)))))) q (nI i) m = some (h ++ (x :: (l1 ++ (.inl (t, .inr (.inr (rs.set i (some m)))) :: (l2 ++ (.inr (c, fc) :: cs)))))) := by
  subst hn
  have e1 : (h ++ (x :: (l1 ++ (.inl (t, .inr (.inr rs)) :: (l2 ++ (.inr (c, fc) :: cs))))) : aH)[q]? = some (.inl (t, .inr (.inr rs))) := by
    rw [← hq, get_ap, List.getElem?_cons_succ, List.getElem?_append_right (Nat.le_refl _), Nat.sub_self]
    rfl
  have e2 : (h ++ (x :: (l1 ++ (.inl (t, .inr (.inr rs)) :: (l2 ++ (.inr (c, fc) :: cs))))) : aH)[m]? = some (.inr (c, fc)) := by
    rw [← hm, get_ap, List.getElem?_cons_succ, List.getElem?_append_right (by omega), show l1.length + (l2.length + 1) - l1.length = l2.length + 1 by omega, List.getElem?_cons_succ, List.getElem?_append_right (Nat.le_refl _), Nat.sub_self]
    rfl
  unfold wrR
  rw [e1]
  dsimp only
  rw [e2]
  dsimp only
  rw [if_pos ⟨ht, by rw [inb_nI hi2]; simp [hi], by omega, by omega⟩, nI_clamp hi2]
  refine congrArg some ?_
  rw [← hq, set_ap, List.set_cons_succ, List.set_append_right _ _ (Nat.le_refl _), Nat.sub_self]
  rfl
theorem OB_rs {t i m : Nat} {l3 : aH} (hO : OB n N M h fs (l1 ++ (.inl (t, .inr (.inr rs)) :: l3))) (hm : m < n + 1 + M) : OB n N M h fs (l1 ++ (.inl (t, .inr (.inr (rs.set i (some m)))) :: l3)) := by
  obtain ⟨o1, o2, o3, o4, o7, o5, o6⟩ := hO
  refine ⟨o1, o2, o3, o4, by rw [← o7]; simp, o5, ?_⟩
  rw [List.all_append, List.all_cons, Bool.and_eq_true, Bool.and_eq_true] at o6 ⊢
  refine ⟨o6.1, ?_, o6.2.2⟩
  have h1 := o6.2.1
  unfold ltC at h1 ⊢
  dsimp only at h1 ⊢
  exact all_set h1 (decide_eq_true hm)
/-- one more of the row: from the loop's head to the loop's head -/
theorem E_it {c cy kx kc ks q m t i cnt lp k M' tt x mx a0 b0 a1 b1 a2 b2 a3 b3 a5 b5 b6 a7 b7 a9 b9 a10 b10 a11 b11 : Nat} {off offg : Int} {ip : Instr} {v : Int32} {fc : List Value} {cs l2' : aH} {rs' : List (Option Nat)}
    (hO : OB n N M h fs (l1 ++ (.inl (t, .inr (.inr rs)) :: l2))) (hl : M < 900) (hq : n + (l1.length + 1) = q) (hn : n + (M + 1) = m) (hM : M + k = M') (hrs : rs.set i (some m) = rs') (hl2 : l2 ++ (.inr (c, fc) :: cs) = l2') (hlt : i < cnt) (hrl : i < rs.length) (h31 : cnt < 2 ^ 31) (ht : (t = 4 ∧ c = 1) ∨ (t = 5 ∧ c = 5)) (hc10 : c < 10)
    (r0 : rowAt y pc = some (.iload_n 1, 1, a0, b0)) (r1 : rowAt y (pc + 1) = some (ip, lp, a1, b1)) (hi : isStp ip = true) (hs : ∀ (st : List Value) (h : aH), stp scr true (mIni y) ip lp a1 b1 (pc + 1) [.ref n, .int (nI i)] st h = some (pc + 1 + lp, [.ref n, .int (nI i)], .int v :: st, h)) (hv : v = nI cnt)
    (r2 : rowAt y (pc + 1 + lp) = some (.if_icmp .ge off, 3, a2, b2)) (hj : jmp (pc + 1 + lp) off = some tt)
    (r3 : rowAt y (pc + 1 + lp + 3) = some (.aload_n 0, 1, a3, b3)) (r4 : rowAt y (pc + 1 + lp + 3 + 1) = some (.getfield kx, 3, ci, b)) (h1 : fKd ci b (.ref q) = true) (hb : fs[b]? = some (.ref q))
    (r5 : rowAt y (pc + 1 + lp + 3 + 1 + 3) = some (.iload_n 1, 1, a5, b5)) (r6 : rowAt y (pc + 1 + lp + 3 + 1 + 3 + 1) = some (.new kc, 3, c, b6)) (r7 : rowAt y (pc + 1 + lp + 3 + 1 + 3 + 1 + 3) = some (.dup, 1, a7, b7))
    (r8 : rowAt y (pc + 1 + lp + 3 + 1 + 3 + 1 + 3 + 1) = some (.invokespecial ks, 3, cy, 2)) (mi : mI cy 1 mx x) (hmx : 1 ≤ mx) (hin : mIni cy = some c) (hci : mCi cy = c) (hret : mRet cy = none) (hck : cs.length + 1 = k) (hcs : (.inr (c, fc) :: cs : aH).all (ltC (m + k)) = true)
    (hcall : ∀ K' : Option Value → aH → Prop, K' none (h ++ (.inr (ci, fs) :: (l1 ++ (.inl (t, .inr (.inr rs)) :: l2))) ++ (.inr (c, fc) :: cs)) → E scr true d cy 0 (iniL cy [.ref m]) [] (h ++ (.inr (ci, fs) :: (l1 ++ (.inl (t, .inr (.inr rs)) :: l2))) ++ [.inr (c, aDef c)]) K')
    (r9 : rowAt y (pc + 1 + lp + 3 + 1 + 3 + 1 + 3 + 1 + 3) = some (.aastore, 1, a9, b9)) (r10 : rowAt y (pc + 1 + lp + 3 + 1 + 3 + 1 + 3 + 1 + 3 + 1) = some (.iinc 1 1, 3, a10, b10)) (r11 : rowAt y (pc + 1 + lp + 3 + 1 + 3 + 1 + 3 + 1 + 3 + 1 + 3) = some (.goto offg, 3, a11, b11)) (hg : jmp (pc + 1 + lp + 3 + 1 + 3 + 1 + 3 + 1 + 3 + 1 + 3) offg = some pc)
    (hE : OB n N M' h fs (l1 ++ (.inl (t, .inr (.inr rs')) :: l2')) → E scr true (d + 1) y pc [.ref n, .int (nI (i + 1))] [] (h ++ (.inr (ci, fs) :: (l1 ++ (.inl (t, .inr (.inr rs')) :: l2')))) K) :
    E scr true (d + 1) y pc [.ref n, .int (nI i)] [] (h ++ (.inr (ci, fs) :: (l1 ++ (.inl (t, .inr (.inr rs)) :: l2)))) K := by
  subst hv
  subst hrs
  subst hl2
  subst hM
  have hlen : h.length = n := hO.1
  have h9 : n < 8000 := hO.2.1
  have hll : l1.length + (l2.length + 1) = M := by
    have := hO.2.2.2.2.1
    rw [List.length_append] at this
    exact this
  refine E_s (w := (pc + 1, [.ref n, .int (nI i)], [.int (nI i)], _)) r0 rfl rfl ?_
  refine E_s r1 hi (hs _ _) ?_
  show E scr true (d + 1) y (pc + 1 + lp) [.ref n, .int (nI i)] [.int (nI cnt), .int (nI i)] _ K
  rw [E_i2_ge r2 hj rfl rfl, if_neg (nI_ge hlt h31)]
  refine E_s (w := (pc + 1 + lp + 3 + 1, [.ref n, .int (nI i)], [.ref n], _)) r3 rfl rfl ?_
  show E scr true (d + 1) y (pc + 1 + lp + 3 + 1) [.ref n, .int (nI i)] [.ref n] (h ++ (.inr (ci, fs) :: (l1 ++ (.inl (t, .inr (.inr rs)) :: l2)))) K
  have hget : E scr true (d + 1) y (pc + 1 + lp + 3 + 1 + 3) [.ref n, .int (nI i)] [.ref q] (h ++ (.inr (ci, fs) :: (l1 ++ (.inl (t, .inr (.inr rs)) :: l2)))) K → E scr true (d + 1) y (pc + 1 + lp + 3 + 1) [.ref n, .int (nI i)] [.ref n] (h ++ (.inr (ci, fs) :: (l1 ++ (.inl (t, .inr (.inr rs)) :: l2)))) K := by
    intro hh
    subst hlen
    exact E_get (i := 0) (fs := fs) r4 h1 rfl hb (by omega) hh
  refine hget ?_
  refine E_s (w := (pc + 1 + lp + 3 + 1 + 3 + 1, [.ref n, .int (nI i)], [.int (nI i), .ref q], _)) r5 rfl rfl ?_
  refine E_new r6 (OB_wf hO hl ?_ ?_) hc10 ?_
  · exact al_c (ltV_q (by omega)) (al_c rfl rfl)
  · exact al_c rfl (al_c (ltV_q (by omega)) rfl)
  · show E scr true (d + 1) y (pc + 1 + lp + 3 + 1 + 3 + 1 + 3) [.ref n, .int (nI i)] (.ref (h ++ (.inr (ci, fs) :: (l1 ++ (.inl (t, .inr (.inr rs)) :: l2))) : aH).length :: [.int (nI i), .ref q]) (h ++ (.inr (ci, fs) :: (l1 ++ (.inl (t, .inr (.inr rs)) :: l2))) ++ [.inr (c, aDef c)]) K
    rw [OB_len hO, hn]
    refine E_s (w := (pc + 1 + lp + 3 + 1 + 3 + 1 + 3 + 1, [.ref n, .int (nI i)], [.ref m, .ref m, .int (nI i), .ref q], _)) r7 rfl rfl ?_
    refine E_cn (As := []) (rest := [.ref m, .int (nI i), .ref q]) hO hl hn rfl rfl rfl ?_ ?_ r8 (cut_n mi.1 rfl rfl) (rm8_n mi.2.1 (Nat.le_of_ble_eq_true rfl) hmx) hin hci hret (show (.inr (c, fc) :: cs : aH).length = k from hck) hcs hcall ?_
    · exact al_c (ltV_q (by omega)) (al_c rfl rfl)
    · exact al_c (ltV_q (by omega)) (al_c rfl (al_c (ltV_q (by omega)) rfl))
    · intro hO2
      have e : l1 ++ (.inl (t, .inr (.inr rs)) :: l2) ++ (.inr (c, fc) :: cs) = l1 ++ (.inl (t, .inr (.inr rs)) :: (l2 ++ (.inr (c, fc) :: cs))) := by simp
      rw [e] at hO2 ⊢
      have hO3 := OB_rs (i := i) (m := m) hO2 (by omega)
      have hw := wrR_ap (x := .inr (ci, fs)) (fc := fc) (cs := cs) (rs := rs) (l1 := l1) (l2 := l2) (t := t) (c := c) (i := i) (q := q) (m := m) hlen (by omega) hq (by omega) ht hrl (by omega)
      refine E_s (w := (pc + 1 + lp + 3 + 1 + 3 + 1 + 3 + 1 + 3 + 1, [.ref n, .int (nI i)], [], h ++ (.inr (ci, fs) :: (l1 ++ (.inl (t, .inr (.inr (rs.set i (some m)))) :: (l2 ++ (.inr (c, fc) :: cs))))))) r9 rfl ?_ ?_
      · unfold stp
        exact lenO_some rfl (oB_some hw rfl)
      · show E scr true (d + 1) y (pc + 1 + lp + 3 + 1 + 3 + 1 + 3 + 1 + 3 + 1) [.ref n, .int (nI i)] [] (h ++ (.inr (ci, fs) :: (l1 ++ (.inl (t, .inr (.inr (rs.set i (some m)))) :: (l2 ++ (.inr (c, fc) :: cs)))))) K
        rw [E_inc r10 (x := nI i) (c := 1) (L' := [.ref n, .int (nI (i + 1))]) rfl (by decide) (by rw [nI_1]; rfl) rfl, E_gt r11 hg rfl]
        exact hE hO3
/-- the loop's end -/
theorem E_ix {i cnt lp tt a0 b0 a1 b1 a2 b2 : Nat} {off : Int} {ip : Instr} {v : Int32} {H : aH} (hle : cnt = i) (h31 : cnt < 2 ^ 31)
    (r0 : rowAt y pc = some (.iload_n 1, 1, a0, b0)) (r1 : rowAt y (pc + 1) = some (ip, lp, a1, b1)) (hi : isStp ip = true) (hs : ∀ (st : List Value) (h : aH), stp scr true (mIni y) ip lp a1 b1 (pc + 1) [.ref n, .int (nI i)] st h = some (pc + 1 + lp, [.ref n, .int (nI i)], .int v :: st, h)) (hv : v = nI cnt)
    (r2 : rowAt y (pc + 1 + lp) = some (.if_icmp .ge off, 3, a2, b2)) (hj : jmp (pc + 1 + lp) off = some tt) (hE : E scr true d y tt [.ref n, .int (nI i)] [] H K) : E scr true d y pc [.ref n, .int (nI i)] [] H K := by
  subst hv
  subst hle
  refine E_s (w := (pc + 1, [.ref n, .int (nI cnt)], [.int (nI cnt)], _)) r0 rfl rfl ?_
  refine E_s r1 hi (hs _ _) ?_
  show E scr true d y (pc + 1 + lp) [.ref n, .int (nI cnt)] [.int (nI cnt), .int (nI cnt)] _ K
  rw [E_i2_ge r2 hj rfl rfl, if_pos (nI_le (Nat.le_refl _) h31)]
  exact hE
end CT8
