variable {scr : List Int32}
-- ===== what a run comes to, backwards =====
theorem oB_some {α β : Type} {x : Option α} {k : α → Option β} {v : α} {o : β} (h1 : x = some v) (h2 : k v = some o) : oB x k = some o := by subst h1; exact h2
theorem atL_some {α : Type} {c : Bool} {x : Option α} {o : α} (h1 : c = true) (h2 : x = some o) : atL c x = some o := by subst h1; exact h2
theorem lenO_some {α : Type} {n m : Nat} {x : Option α} {o : α} (h1 : n = m) (h2 : x = some o) : lenO n m x = some o := by subst h1; unfold lenO; rw [if_pos rfl]; exact h2
def isStp (i : Instr) : Bool := match i with
  | .ireturn => false
  | .lreturn => false
  | .areturn => false
  | .return_ => false
  | .invokevirtual _ => false
  | .invokestatic _ => false
  | .invokespecial _ => false
  | _ => true
theorem run_stp {n : Nat} {al : Bool} {d y pc : Nat} {L st : List Value} {h : aH} {i : Instr} {len a b : Nat} (hr : rowAt y pc = some (i, len, a, b)) (hi : isStp i = true) :
    run scr (n + 1) al d y pc L st h = oB (stp scr al (mIni y) i len a b pc L st h) fun w => run scr n al d y w.1 w.2.1 w.2.2.1 w.2.2.2 := by
  conv => lhs; unfold run
  rw [hr]
  cases i <;> first | rfl | (cases (show false = true from hi))
set_option maxHeartbeats 4000000 in
theorem run_up : ∀ (n : Nat) {al : Bool} {d y pc : Nat} {L st : List Value} {h : aH} {u : Option Value × aH}, run scr n al d y pc L st h = some u → run scr (n + 1) al d y pc L st h = some u
  | 0, _, _, _, _, _, _, _, _, e => by simp [run] at e
  | n + 1, al, d, y, pc, L, st, h, u, e => by
    unfold run at e
    obtain ⟨z, hz, e⟩ := oB_inv e
    unfold run
    refine oB_some hz ?_
    obtain ⟨i, len, a, b⟩ := z
    cases i <;> dsimp only at e ⊢
    case ireturn => exact e
    case lreturn => exact e
    case areturn => exact e
    case return_ => exact e
    case invokevirtual k =>
      obtain ⟨h0, e1⟩ := lenO_inv e
      refine lenO_some h0 ?_
      cases d with
      | zero => cases e1
      | succ d =>
        dsimp only at e1 ⊢
        obtain ⟨q, hq, e2⟩ := oB_inv e1
        refine oB_some hq ?_
        obtain ⟨h1, e3⟩ := atL_inv e2
        refine atL_some h1 ?_
        obtain ⟨u1, hu, e4⟩ := oB_inv e3
        refine oB_some (run_up n hu) ?_
        obtain ⟨h2, e5⟩ := atL_inv e4
        exact atL_some h2 (run_up n e5)
    case invokestatic k =>
      obtain ⟨h0, e1⟩ := lenO_inv e
      refine lenO_some h0 ?_
      cases d with
      | zero => cases e1
      | succ d =>
        dsimp only at e1 ⊢
        by_cases hb : b = 4
        · rw [if_pos hb] at e1 ⊢
          split at e1
          · obtain ⟨h1, e2⟩ := atL_inv e1
            refine atL_some h1 ?_
            obtain ⟨u1, hu, e3⟩ := oB_inv e2
            exact oB_some hu (run_up n e3)
          · cases e1
        · rw [if_neg hb] at e1 ⊢
          obtain ⟨q, hq, e2⟩ := oB_inv e1
          refine oB_some hq ?_
          obtain ⟨h1, e3⟩ := atL_inv e2
          refine atL_some h1 ?_
          obtain ⟨u1, hu, e4⟩ := oB_inv e3
          refine oB_some (run_up n hu) ?_
          obtain ⟨h2, e5⟩ := atL_inv e4
          exact atL_some h2 (run_up n e5)
    case invokespecial k =>
      obtain ⟨h0, e1⟩ := lenO_inv e
      refine lenO_some h0 ?_
      cases d with
      | zero => cases e1
      | succ d =>
        dsimp only at e1 ⊢
        by_cases hb : b = 3
        · rw [if_pos hb] at e1 ⊢
          split at e1
          · obtain ⟨h1, e2⟩ := atL_inv e1
            exact atL_some h1 (run_up n e2)
          · cases e1
        · rw [if_neg hb] at e1 ⊢
          obtain ⟨q, hq, e2⟩ := oB_inv e1
          refine oB_some hq ?_
          obtain ⟨h1, e3⟩ := atL_inv e2
          refine atL_some h1 ?_
          obtain ⟨u1, hu, e4⟩ := oB_inv e3
          refine oB_some (run_up n hu) ?_
          obtain ⟨h2, e5⟩ := atL_inv e4
          exact atL_some h2 (run_up n e5)
    all_goals
      obtain ⟨w, hw, e1⟩ := oB_inv e
      exact oB_some hw (run_up n e1)
theorem run_le {n m : Nat} (h : n ≤ m) {al : Bool} {d y pc : Nat} {L st : List Value} {hh : aH} {u : Option Value × aH} (e : run scr n al d y pc L st hh = some u) : run scr m al d y pc L st hh = some u := by
  induction h with
  | refl => exact e
  | step _ ih => exact run_up _ ih
def E (scr : List Int32) (al : Bool) (d y pc : Nat) (L st : List Value) (h : aH) (K : Option Value → aH → Prop) : Prop := ∃ n u, run scr n al d y pc L st h = some u ∧ K u.1 u.2
section EL
variable {al : Bool} {d y pc : Nat} {L st : List Value} {h : aH} {K : Option Value → aH → Prop} {i : Instr} {len a b : Nat}
theorem E_ex (hr : rowAt y pc = some (i, len, a, b)) (hi : isStp i = true) : E scr al d y pc L st h K = ∃ w, stp scr al (mIni y) i len a b pc L st h = some w ∧ E scr al d y w.1 w.2.1 w.2.2.1 w.2.2.2 K := by
  apply propext
  constructor
  · rintro ⟨n, u, e, k⟩
    cases n with
    | zero => simp [run] at e
    | succ n =>
      rw [run_stp hr hi] at e
      obtain ⟨w, hw, e1⟩ := oB_inv e
      exact ⟨w, hw, n, u, e1, k⟩
  · rintro ⟨w, hw, n, u, e, k⟩
    exact ⟨n + 1, u, by rw [run_stp hr hi]; exact oB_some hw e, k⟩
/-- an instruction whose next state is known -/
theorem go {w : aF} (hr : rowAt y pc = some (i, len, a, b)) (hi : isStp i = true) (hs : stp scr al (mIni y) i len a b pc L st h = some w) {T : Prop} (k : E scr al d y w.1 w.2.1 w.2.2.1 w.2.2.2 K = T) : E scr al d y pc L st h K = T := by
  rw [E_ex hr hi, ← k]
  apply propext
  constructor
  · rintro ⟨w', hw, e⟩
    cases hs.symm.trans hw
    exact e
  · intro e
    exact ⟨w, hs, e⟩
/-- a guarded instruction -/
theorem goIf {w : aF} {C : Prop} (hr : rowAt y pc = some (i, len, a, b)) (hi : isStp i = true) (hs : C → stp scr al (mIni y) i len a b pc L st h = some w) (hn : ¬ C → stp scr al (mIni y) i len a b pc L st h = none) {T : Prop} (k : E scr al d y w.1 w.2.1 w.2.2.1 w.2.2.2 K = T) : E scr al d y pc L st h K = (C ∧ T) := by
  rw [E_ex hr hi, ← k]
  apply propext
  constructor
  · rintro ⟨w', hw, e⟩
    by_cases hC : C
    · cases (hs hC).symm.trans hw
      exact ⟨hC, e⟩
    · rw [hn hC] at hw
      cases hw
  · rintro ⟨hC, e⟩
    exact ⟨w, hs hC, e⟩
def gI (scr : List Int32) (h : aH) (q ci f : Nat) (k : Int32 → Prop) : Prop := ∃ x, rdF scr h q ci f = some (.int x) ∧ k x
def gR (scr : List Int32) (h : aH) (q ci f : Nat) (k : Nat → Prop) : Prop := ∃ x, rdF scr h q ci f = some (.ref x) ∧ k x
theorem E_gI {kx q : Nat} {T : Int32 → Prop} (hr : rowAt y pc = some (.getfield kx, 3, a, b)) (hk : fInt a b = true) (k : ∀ x, E scr al d y (pc + 3) L (.int x :: st) h K = T x) : E scr al d y pc L (.ref q :: st) h K = gI scr h q a b T := by
  rw [E_ex hr rfl]
  apply propext
  constructor
  · rintro ⟨w, hw, he⟩
    obtain ⟨-, h1⟩ := lenO_inv hw
    obtain ⟨q', r', e0, h2⟩ := pR_inv h1
    cases e0
    obtain ⟨v, hv, h3⟩ := oB_inv h2
    obtain ⟨hkd, h4⟩ := atL_inv h3
    cases h4
    cases v with
    | int x => exact ⟨x, hv, by rw [← k x]; exact he⟩
    | ref x => simp [fKd, hk] at hkd
    | _ => cases hkd
  · rintro ⟨x, hv, ht⟩
    exact ⟨(pc + 3, L, .int x :: st, h), lenO_some rfl (oB_some (k := fun v => atL (fKd a b v) (some (pc + 3, L, v :: st, h))) hv (atL_some hk rfl)), by rw [← k x] at ht; exact ht⟩
theorem E_gR {kx q : Nat} {T : Nat → Prop} (hr : rowAt y pc = some (.getfield kx, 3, a, b)) (hk : fInt a b = false) (k : ∀ x, E scr al d y (pc + 3) L (.ref x :: st) h K = T x) : E scr al d y pc L (.ref q :: st) h K = gR scr h q a b T := by
  rw [E_ex hr rfl]
  apply propext
  constructor
  · rintro ⟨w, hw, he⟩
    obtain ⟨-, h1⟩ := lenO_inv hw
    obtain ⟨q', r', e0, h2⟩ := pR_inv h1
    cases e0
    obtain ⟨v, hv, h3⟩ := oB_inv h2
    obtain ⟨hkd, h4⟩ := atL_inv h3
    cases h4
    cases v with
    | ref x => exact ⟨x, hv, by rw [← k x]; exact he⟩
    | int x => simp [fKd, hk] at hkd
    | _ => cases hkd
  · rintro ⟨x, hv, ht⟩
    exact ⟨(pc + 3, L, .ref x :: st, h), lenO_some rfl (oB_some (k := fun v => atL (fKd a b v) (some (pc + 3, L, v :: st, h))) hv (atL_some (by simp [fKd, hk]) rfl)), by rw [← k x] at ht; exact ht⟩
/-- an instruction that reads: its answer x, by f -/
theorem E_rd {α : Type} {x0 : Option α} {f : α → aF} (hr : rowAt y pc = some (i, len, a, b)) (hi : isStp i = true) (hs : stp scr al (mIni y) i len a b pc L st h = oB x0 (fun v => some (f v))) {T : α → Prop} (k : ∀ v, E scr al d y (f v).1 (f v).2.1 (f v).2.2.1 (f v).2.2.2 K = T v) : E scr al d y pc L st h K = ∃ v, x0 = some v ∧ T v := by
  rw [E_ex hr hi, hs]
  apply propext
  constructor
  · rintro ⟨w, hw, he⟩
    obtain ⟨v, hv, h1⟩ := oB_inv hw
    cases h1
    exact ⟨v, hv, by rw [← k v]; exact he⟩
  · rintro ⟨v, hv, ht⟩
    exact ⟨f v, oB_some hv rfl, by rw [← k v] at ht; exact ht⟩
def aI (scr : List Int32) (h : aH) (q : Nat) (i : Int32) (k : Int32 → Prop) : Prop := ∃ v, rdA scr h q 1 i = some v ∧ k v
def aB (scr : List Int32) (h : aH) (q : Nat) (i : Int32) (k : Int32 → Prop) : Prop := ∃ v, (match rdA scr h q 0 i with | some v => some v | none => rdA scr h q 3 i) = some v ∧ k v
def aJ (h : aH) (q : Nat) (i : Int32) (k : Int64 → Prop) : Prop := ∃ v, rdJ h q i = some v ∧ k v
def aR (h : aH) (q : Nat) (i : Int32) (k : Nat → Prop) : Prop := ∃ v, rdR h q i = some v ∧ k v
def aN (scr : List Int32) (h : aH) (q : Nat) (k : Nat → Prop) : Prop := ∃ v, lenA scr h q = some v ∧ k v
def wI (h : aH) (q : Nat) (i v : Int32) (k : aH → Prop) : Prop := ∃ h', wrA h q 1 i v = some h' ∧ k h'
def wB (h : aH) (q : Nat) (i v : Int32) (k : aH → Prop) : Prop := ∃ h', (match wrA h q 0 i v.toInt8.toInt32 with | some v => some v | none => wrA h q 3 i (v &&& 1)) = some h' ∧ k h'
def wJ (h : aH) (q : Nat) (i : Int32) (v : Int64) (k : aH → Prop) : Prop := ∃ h', wrJ h q i v = some h' ∧ k h'
def wR (h : aH) (q : Nat) (i : Int32) (v : Nat) (k : aH → Prop) : Prop := ∃ h', wrR h q i v = some h' ∧ k h'
def pF (h : aH) (q ci f : Nat) (v : Value) (k : aH → Prop) : Prop := ∃ h', wrF h q ci f v = some h' ∧ k h'
def cP (h : aH) (sq dq : Nat) (n : Int32) (k : aH → Prop) : Prop := ∃ h', cpA h sq dq n = some h' ∧ k h'
theorem E_aI {q : Nat} {x : Int32} {T : Int32 → Prop} (hr : rowAt y pc = some (.iaload, 1, a, b)) (k : ∀ v, E scr al d y (pc + 1) L (.int v :: st) h K = T v) : E scr al d y pc L (.int x :: .ref q :: st) h K = aI scr h q x T := E_rd (f := fun v => (pc + 1, L, .int v :: st, h)) hr rfl rfl k
theorem E_aB {q : Nat} {x : Int32} {T : Int32 → Prop} (hr : rowAt y pc = some (.baload, 1, a, b)) (k : ∀ v, E scr al d y (pc + 1) L (.int v :: st) h K = T v) : E scr al d y pc L (.int x :: .ref q :: st) h K = aB scr h q x T := E_rd (f := fun v => (pc + 1, L, .int v :: st, h)) hr rfl rfl k
theorem E_aJ {q : Nat} {x : Int32} {T : Int64 → Prop} (hr : rowAt y pc = some (.laload, 1, a, b)) (k : ∀ v, E scr al d y (pc + 1) L (.long v :: st) h K = T v) : E scr al d y pc L (.int x :: .ref q :: st) h K = aJ h q x T := E_rd (f := fun v => (pc + 1, L, .long v :: st, h)) hr rfl rfl k
theorem E_aR {q : Nat} {x : Int32} {T : Nat → Prop} (hr : rowAt y pc = some (.aaload, 1, a, b)) (k : ∀ v, E scr al d y (pc + 1) L (.ref v :: st) h K = T v) : E scr al d y pc L (.int x :: .ref q :: st) h K = aR h q x T := E_rd (f := fun v => (pc + 1, L, .ref v :: st, h)) hr rfl rfl k
theorem E_aN {q : Nat} {T : Nat → Prop} (hr : rowAt y pc = some (.arraylength, 1, a, b)) (k : ∀ v, E scr al d y (pc + 1) L (.int (Int32.ofNat v) :: st) h K = T v) : E scr al d y pc L (.ref q :: st) h K = aN scr h q T := E_rd (f := fun v => (pc + 1, L, .int (Int32.ofNat v) :: st, h)) hr rfl rfl k
theorem E_wI {q : Nat} {x v : Int32} {T : aH → Prop} (hr : rowAt y pc = some (.iastore, 1, a, b)) (k : ∀ h', E scr al d y (pc + 1) L st h' K = T h') : E scr al d y pc L (.int v :: .int x :: .ref q :: st) h K = wI h q x v T := E_rd (f := fun h' => (pc + 1, L, st, h')) hr rfl rfl k
theorem E_wB {q : Nat} {x v : Int32} {T : aH → Prop} (hr : rowAt y pc = some (.bastore, 1, a, b)) (k : ∀ h', E scr al d y (pc + 1) L st h' K = T h') : E scr al d y pc L (.int v :: .int x :: .ref q :: st) h K = wB h q x v T := E_rd (f := fun h' => (pc + 1, L, st, h')) hr rfl rfl k
theorem E_wJ {q : Nat} {x : Int32} {v : Int64} {T : aH → Prop} (hr : rowAt y pc = some (.lastore, 1, a, b)) (k : ∀ h', E scr al d y (pc + 1) L st h' K = T h') : E scr al d y pc L (.long v :: .int x :: .ref q :: st) h K = wJ h q x v T := E_rd (f := fun h' => (pc + 1, L, st, h')) hr rfl rfl k
theorem E_wR {q v : Nat} {x : Int32} {T : aH → Prop} (hr : rowAt y pc = some (.aastore, 1, a, b)) (k : ∀ h', E scr al d y (pc + 1) L st h' K = T h') : E scr al d y pc L (.ref v :: .int x :: .ref q :: st) h K = wR h q x v T := E_rd (f := fun h' => (pc + 1, L, st, h')) hr rfl rfl k
theorem E_pF {q kx : Nat} {v : Value} {T : aH → Prop} (hr : rowAt y pc = some (.putfield kx, 3, a, b)) (hq : (decide (narrow (aFty a b) v = v) && (fits (aFty a b) v && (!(aFin a b) || decide (mIni y = some a)))) = true) (k : ∀ h', E scr al d y (pc + 3) L st h' K = T h') : E scr al d y pc L (v :: .ref q :: st) h K = pF h q a b v T := by
  refine E_rd (f := fun h' => (pc + 3, L, st, h')) hr rfl ?_ k
  show atL _ _ = _
  rw [hq]
  rfl
/-- a truth into a field -/
theorem E_pZ {q kx : Nat} {v : Int32} {T : aH → Prop} (hr : rowAt y pc = some (.putfield kx, 3, a, b)) (hq : aFty a b = .boolean ∧ aFin a b = false) (k : ∀ h', E scr al d y (pc + 3) L st h' K = T h') : E scr al d y pc L (.int v :: .ref q :: st) h K = ((v = 0 ∨ v = 1) ∧ pF h q a b (.int v) T) := by
  by_cases hv : v = 0 ∨ v = 1
  · rw [E_pF hr ?_ k]
    · simp [hv]
    · rw [hq.1, hq.2]
      rcases hv with rfl | rfl <;> rfl
  · rw [E_ex hr rfl]
    apply propext
    constructor
    · rintro ⟨w, hw, -⟩
      obtain ⟨-, h1⟩ := lenO_inv hw
      obtain ⟨h2, -⟩ := atL_inv h1
      simp only [Bool.and_eq_true, decide_eq_true_eq] at h2
      have h3 := h2.2.1
      rw [hq.1] at h3
      simp only [fits, Bool.or_eq_true, beq_iff_eq] at h3
      exact absurd h3 hv
    · rintro ⟨h1, -⟩
      exact absurd h1 hv
theorem ite_cmp {A B : Prop} (x z : Int32) : ((if cmpB .eq x z = true then A else B) = if x = z then A else B) ∧ ((if cmpB .ne x z = true then A else B) = if x = z then B else A) ∧ ((if cmpB .lt x z = true then A else B) = if x < z then A else B) ∧ ((if cmpB .ge x z = true then A else B) = if z ≤ x then A else B) ∧ ((if cmpB .gt x z = true then A else B) = if z < x then A else B) ∧ ((if cmpB .le x z = true then A else B) = if x ≤ z then A else B) := by
  refine ⟨by simp [cmpB], ?_, by simp [cmpB], by simp [cmpB], by simp [cmpB], by simp [cmpB]⟩
  by_cases h : x = z <;> simp [cmpB, h]
theorem E_if1 {c : ClassFile.Cond} {off : Int} {t : Nat} {x : Int32} {T1 T2 : Prop} (hr : rowAt y pc = some (.ifCond c off, 3, a, b)) (hj : jmp pc off = some t) (k1 : E scr al d y t L st h K = T1) (k2 : E scr al d y (pc + 3) L st h K = T2) : E scr al d y pc L (.int x :: st) h K = if cmpB c x 0 = true then T1 else T2 := by
  have hs : stp scr al (mIni y) (.ifCond c off) 3 a b pc L (.int x :: st) h = some (if cmpB c x 0 = true then t else pc + 3, L, st, h) := by
    show oB (jmp pc off) _ = _
    rw [hj]
    rfl
  refine go hr rfl hs ?_
  by_cases hc : cmpB c x 0 = true
  · simp only [hc, if_true]; exact k1
  · simp only [hc]; exact k2
theorem E_if2 {c : ClassFile.Cond} {off : Int} {t : Nat} {x z : Int32} {T1 T2 : Prop} (hr : rowAt y pc = some (.if_icmp c off, 3, a, b)) (hj : jmp pc off = some t) (k1 : E scr al d y t L st h K = T1) (k2 : E scr al d y (pc + 3) L st h K = T2) : E scr al d y pc L (.int z :: .int x :: st) h K = if cmpB c x z = true then T1 else T2 := by
  have hs : stp scr al (mIni y) (.if_icmp c off) 3 a b pc L (.int z :: .int x :: st) h = some (if cmpB c x z = true then t else pc + 3, L, st, h) := by
    show oB (jmp pc off) _ = _
    rw [hj]
    rfl
  refine go hr rfl hs ?_
  by_cases hc : cmpB c x z = true
  · simp only [hc, if_true]; exact k1
  · simp only [hc]; exact k2
theorem E_i1_eq {off : Int} {t : Nat} {x : Int32} {T1 T2 : Prop} (hr : rowAt y pc = some (.ifCond .eq off, 3, a, b)) (hj : jmp pc off = some t) (k1 : E scr al d y t L st h K = T1) (k2 : E scr al d y (pc + 3) L st h K = T2) : E scr al d y pc L (.int x :: st) h K = if x = 0 then T1 else T2 := (E_if1 hr hj k1 k2).trans (ite_cmp x 0).1
theorem E_i2_eq {off : Int} {t : Nat} {x z : Int32} {T1 T2 : Prop} (hr : rowAt y pc = some (.if_icmp .eq off, 3, a, b)) (hj : jmp pc off = some t) (k1 : E scr al d y t L st h K = T1) (k2 : E scr al d y (pc + 3) L st h K = T2) : E scr al d y pc L (.int z :: .int x :: st) h K = if x = z then T1 else T2 := (E_if2 hr hj k1 k2).trans (ite_cmp x z).1
theorem E_i1_ne {off : Int} {t : Nat} {x : Int32} {T1 T2 : Prop} (hr : rowAt y pc = some (.ifCond .ne off, 3, a, b)) (hj : jmp pc off = some t) (k1 : E scr al d y t L st h K = T1) (k2 : E scr al d y (pc + 3) L st h K = T2) : E scr al d y pc L (.int x :: st) h K = if x = 0 then T2 else T1 := (E_if1 hr hj k1 k2).trans (ite_cmp x 0).2.1
theorem E_i2_ne {off : Int} {t : Nat} {x z : Int32} {T1 T2 : Prop} (hr : rowAt y pc = some (.if_icmp .ne off, 3, a, b)) (hj : jmp pc off = some t) (k1 : E scr al d y t L st h K = T1) (k2 : E scr al d y (pc + 3) L st h K = T2) : E scr al d y pc L (.int z :: .int x :: st) h K = if x = z then T2 else T1 := (E_if2 hr hj k1 k2).trans (ite_cmp x z).2.1
theorem E_i1_lt {off : Int} {t : Nat} {x : Int32} {T1 T2 : Prop} (hr : rowAt y pc = some (.ifCond .lt off, 3, a, b)) (hj : jmp pc off = some t) (k1 : E scr al d y t L st h K = T1) (k2 : E scr al d y (pc + 3) L st h K = T2) : E scr al d y pc L (.int x :: st) h K = if x < 0 then T1 else T2 := (E_if1 hr hj k1 k2).trans (ite_cmp x 0).2.2.1
theorem E_i2_lt {off : Int} {t : Nat} {x z : Int32} {T1 T2 : Prop} (hr : rowAt y pc = some (.if_icmp .lt off, 3, a, b)) (hj : jmp pc off = some t) (k1 : E scr al d y t L st h K = T1) (k2 : E scr al d y (pc + 3) L st h K = T2) : E scr al d y pc L (.int z :: .int x :: st) h K = if x < z then T1 else T2 := (E_if2 hr hj k1 k2).trans (ite_cmp x z).2.2.1
theorem E_i1_ge {off : Int} {t : Nat} {x : Int32} {T1 T2 : Prop} (hr : rowAt y pc = some (.ifCond .ge off, 3, a, b)) (hj : jmp pc off = some t) (k1 : E scr al d y t L st h K = T1) (k2 : E scr al d y (pc + 3) L st h K = T2) : E scr al d y pc L (.int x :: st) h K = if 0 ≤ x then T1 else T2 := (E_if1 hr hj k1 k2).trans (ite_cmp x 0).2.2.2.1
theorem E_i2_ge {off : Int} {t : Nat} {x z : Int32} {T1 T2 : Prop} (hr : rowAt y pc = some (.if_icmp .ge off, 3, a, b)) (hj : jmp pc off = some t) (k1 : E scr al d y t L st h K = T1) (k2 : E scr al d y (pc + 3) L st h K = T2) : E scr al d y pc L (.int z :: .int x :: st) h K = if z ≤ x then T1 else T2 := (E_if2 hr hj k1 k2).trans (ite_cmp x z).2.2.2.1
theorem E_i1_gt {off : Int} {t : Nat} {x : Int32} {T1 T2 : Prop} (hr : rowAt y pc = some (.ifCond .gt off, 3, a, b)) (hj : jmp pc off = some t) (k1 : E scr al d y t L st h K = T1) (k2 : E scr al d y (pc + 3) L st h K = T2) : E scr al d y pc L (.int x :: st) h K = if 0 < x then T1 else T2 := (E_if1 hr hj k1 k2).trans (ite_cmp x 0).2.2.2.2.1
theorem E_i2_gt {off : Int} {t : Nat} {x z : Int32} {T1 T2 : Prop} (hr : rowAt y pc = some (.if_icmp .gt off, 3, a, b)) (hj : jmp pc off = some t) (k1 : E scr al d y t L st h K = T1) (k2 : E scr al d y (pc + 3) L st h K = T2) : E scr al d y pc L (.int z :: .int x :: st) h K = if z < x then T1 else T2 := (E_if2 hr hj k1 k2).trans (ite_cmp x z).2.2.2.2.1
theorem E_i1_le {off : Int} {t : Nat} {x : Int32} {T1 T2 : Prop} (hr : rowAt y pc = some (.ifCond .le off, 3, a, b)) (hj : jmp pc off = some t) (k1 : E scr al d y t L st h K = T1) (k2 : E scr al d y (pc + 3) L st h K = T2) : E scr al d y pc L (.int x :: st) h K = if x ≤ 0 then T1 else T2 := (E_if1 hr hj k1 k2).trans (ite_cmp x 0).2.2.2.2.2
theorem E_i2_le {off : Int} {t : Nat} {x z : Int32} {T1 T2 : Prop} (hr : rowAt y pc = some (.if_icmp .le off, 3, a, b)) (hj : jmp pc off = some t) (k1 : E scr al d y t L st h K = T1) (k2 : E scr al d y (pc + 3) L st h K = T2) : E scr al d y pc L (.int z :: .int x :: st) h K = if x ≤ z then T1 else T2 := (E_if2 hr hj k1 k2).trans (ite_cmp x z).2.2.2.2.2
theorem E_idiv {x z : Int32} {T : Prop} (hr : rowAt y pc = some (.idiv, 1, a, b)) (k : E scr al d y (pc + 1) L (.int (x / z) :: st) h K = T) : E scr al d y pc L (.int z :: .int x :: st) h K = (¬ z = 0 ∧ T) := goIf (w := (pc + 1, L, .int (x / z) :: st, h)) hr rfl (fun hz => by show atL (!decide (z = 0)) _ = _; simp [atL, hz]) (fun hz => by show atL (!decide (z = 0)) _ = _; simp at hz; simp [atL, hz]) k
theorem E_irem {x z : Int32} {T : Prop} (hr : rowAt y pc = some (.irem, 1, a, b)) (k : E scr al d y (pc + 1) L (.int (x - x / z * z) :: st) h K = T) : E scr al d y pc L (.int z :: .int x :: st) h K = (¬ z = 0 ∧ T) := goIf (w := (pc + 1, L, .int (x - x / z * z) :: st, h)) hr rfl (fun hz => by show atL (!decide (z = 0)) _ = _; simp [atL, hz]) (fun hz => by show atL (!decide (z = 0)) _ = _; simp at hz; simp [atL, hz]) k
theorem E_ldiv {x z : Int64} {T : Prop} (hr : rowAt y pc = some (.ldiv, 1, a, b)) (k : E scr al d y (pc + 1) L (.long (x / z) :: st) h K = T) : E scr al d y pc L (.long z :: .long x :: st) h K = (¬ z = 0 ∧ T) := goIf (w := (pc + 1, L, .long (x / z) :: st, h)) hr rfl (fun hz => by show atL (!decide (z = 0)) _ = _; simp [atL, hz]) (fun hz => by show atL (!decide (z = 0)) _ = _; simp at hz; simp [atL, hz]) k
theorem E_lrem {x z : Int64} {T : Prop} (hr : rowAt y pc = some (.lrem, 1, a, b)) (k : E scr al d y (pc + 1) L (.long (x - x / z * z) :: st) h K = T) : E scr al d y pc L (.long z :: .long x :: st) h K = (¬ z = 0 ∧ T) := goIf (w := (pc + 1, L, .long (x - x / z * z) :: st, h)) hr rfl (fun hz => by show atL (!decide (z = 0)) _ = _; simp [atL, hz]) (fun hz => by show atL (!decide (z = 0)) _ = _; simp at hz; simp [atL, hz]) k
theorem E_done (u : Option Value) (hr : ∀ n, run scr (n + 1) al d y pc L st h = some (u, h)) : E scr al d y pc L st h K = K u h := by
  apply propext
  constructor
  · rintro ⟨n, w, e, k⟩
    cases n with
    | zero => simp [run] at e
    | succ n =>
      cases (hr n).symm.trans e
      exact k
  · intro k
    exact ⟨1, _, hr 0, k⟩
theorem E_iret {x : Int32} (hr : rowAt y pc = some (.ireturn, 1, a, b)) (hq : retI y x = true) : E scr al d y pc L [.int x] h K = K (some (.int x)) h := E_done _ (fun n => by unfold run; rw [hr]; show atL (retI y x) _ = _; rw [hq]; rfl)
theorem E_lret {x : Int64} (hr : rowAt y pc = some (.lreturn, 1, a, b)) (hq : mRet y = some .long) : E scr al d y pc L [.long x] h K = K (some (.long x)) h := E_done _ (fun n => by unfold run; rw [hr]; show atL (decide (mRet y = some .long)) _ = _; rw [hq]; rfl)
theorem E_aret {x : Nat} (hr : rowAt y pc = some (.areturn, 1, a, b)) (hq : retR y = true) : E scr al d y pc L [.ref x] h K = K (some (.ref x)) h := E_done _ (fun n => by unfold run; rw [hr]; show atL (retR y) _ = _; rw [hq]; rfl)
theorem E_vret (hr : rowAt y pc = some (.return_, 1, a, b)) (hq : mRet y = none) : E scr al d y pc L [] h K = K none h := E_done _ (fun n => by unfold run; rw [hr]; show atL (decide (mRet y = none)) _ = _; rw [hq]; rfl)
theorem E_zret {x : Int32} (hr : rowAt y pc = some (.ireturn, 1, a, b)) (hq : mRet y = some .boolean) : E scr al d y pc L [.int x] h K = (x &&& 1 = x ∧ K (some (.int x)) h) := by
  by_cases hx : x &&& 1 = x
  · rw [E_iret hr (by simp [retI, hq, narrow, hx])]
    simp [hx]
  · apply propext
    constructor
    · rintro ⟨n, w, e, k⟩
      cases n with
      | zero => simp [run] at e
      | succ n =>
        unfold run at e
        rw [hr] at e
        obtain ⟨-, e1⟩ := lenO_inv e
        obtain ⟨e2, -⟩ := atL_inv e1
        simp [retI, hq, narrow] at e2
        exact absurd e2 hx
    · rintro ⟨h1, -⟩
      exact absurd h1 hx
theorem E_cong {K' : Option Value → aH → Prop} (hk : ∀ r h', K r h' = K' r h') : E scr al d y pc L st h K = E scr al d y pc L st h K' := by
  have : K = K' := funext fun r => funext fun h' => hk r h'
  rw [this]
theorem E_vcall {kx : Nat} {As rest : List Value} (hr : rowAt y pc = some (.invokevirtual kx, 3, a, 0)) (hc : cutA a st = some (As, rest)) (h8 : rm8 a As rest = true) :
    E scr al (d + 1) y pc L st h K = (vOk scr h As a = true ∧ E scr false d a 0 (iniL a As) [] h (fun r h' => rOk a r = true ∧ E scr al (d + 1) y (pc + 3) L (r.toList ++ rest) h' K)) := by
  apply propext
  constructor
  · rintro ⟨n, u, e, k⟩
    cases n with
    | zero => simp [run] at e
    | succ n =>
      unfold run at e
      rw [hr] at e
      obtain ⟨-, e1⟩ := lenO_inv e
      obtain ⟨q, hq, e2⟩ := oB_inv e1
      cases hc.symm.trans hq
      obtain ⟨h1, e3⟩ := atL_inv e2
      obtain ⟨u1, hu, e4⟩ := oB_inv e3
      obtain ⟨h2, e5⟩ := atL_inv e4
      simp only [Bool.and_eq_true] at h1
      exact ⟨h1.1, n, u1, hu, h2, n, u, e5, k⟩
  · rintro ⟨hv, n1, u1, hu, h2, n2, u, e5, k⟩
    refine ⟨max n1 n2 + 1, u, ?_, k⟩
    unfold run
    rw [hr]
    exact lenO_some rfl (oB_some (k := fun q => atL (vOk scr h q.1 a && (rm8 a q.1 q.2 && decide (0 = 0))) (oB (run scr (max n1 n2) false d a 0 (iniL a q.1) [] h) fun u => atL (rOk a u.1) (run scr (max n1 n2) al (d + 1) y (pc + 3) L (u.1.toList ++ q.2) u.2))) hc (atL_some (by simp [hv, h8]) (oB_some (run_le (Nat.le_max_left _ _) hu) (atL_some h2 (run_le (Nat.le_max_right _ _) e5)))))
theorem E_scall {kx : Nat} {As rest : List Value} (hr : rowAt y pc = some (.invokestatic kx, 3, a, 1)) (hc : cutA a st = some (As, rest)) (h8 : rm8 a As rest = true) :
    E scr al (d + 1) y pc L st h K = E scr false d a 0 (iniL a As) [] h (fun r h' => rOk a r = true ∧ E scr al (d + 1) y (pc + 3) L (r.toList ++ rest) h' K) := by
  apply propext
  constructor
  · rintro ⟨n, u, e, k⟩
    cases n with
    | zero => simp [run] at e
    | succ n =>
      unfold run at e
      rw [hr] at e
      obtain ⟨-, e1⟩ := lenO_inv e
      obtain ⟨q, hq, e2⟩ := oB_inv e1
      cases hc.symm.trans hq
      obtain ⟨h1, e3⟩ := atL_inv e2
      obtain ⟨u1, hu, e4⟩ := oB_inv e3
      obtain ⟨h2, e5⟩ := atL_inv e4
      exact ⟨n, u1, hu, h2, n, u, e5, k⟩
  · rintro ⟨n1, u1, hu, h2, n2, u, e5, k⟩
    refine ⟨max n1 n2 + 1, u, ?_, k⟩
    unfold run
    rw [hr]
    refine lenO_some rfl ?_
    dsimp only
    rw [if_neg (show ¬ (1 = 4) by decide)]
    exact (oB_some (k := fun q => atL (rm8 a q.1 q.2 && decide (1 = 1)) (oB (run scr (max n1 n2) false d a 0 (iniL a q.1) [] h) fun u => atL (rOk a u.1) (run scr (max n1 n2) al (d + 1) y (pc + 3) L (u.1.toList ++ q.2) u.2))) hc (atL_some (by simp [h8]) (oB_some (run_le (Nat.le_max_left _ _) hu) (atL_some h2 (run_le (Nat.le_max_right _ _) e5)))))
def rKd (y : Nat) : Nat := match mRet y with
  | none => 3
  | some .long => 1
  | some (.object _) => 2
  | some (.array _) => 2
  | some _ => 0
theorem rOk_I {a : Nat} {r : Option Value} (hk : rKd a = 0) : rOk a r = true ↔ ∃ x, r = some (.int x) := by
  unfold rKd at hk
  unfold rOk
  cases hm : mRet a with
  | none => rw [hm] at hk; first | (cases hk; done) | (cases r <;> simp)
  | some t =>
    rw [hm] at hk
    cases t <;> first | (cases hk; done) | (cases r with
      | none => simp
      | some v => cases v <;> simp)
def vI (scr : List Int32) (d y : Nat) (As : List Value) (h : aH) (k : Int32 → aH → Prop) : Prop := vOk scr h As y = true ∧ E scr false d y 0 (iniL y As) [] h (fun r h' => ∃ x, r = some (.int x) ∧ k x h')
def sI (scr : List Int32) (d y : Nat) (As : List Value) (h : aH) (k : Int32 → aH → Prop) : Prop := E scr false d y 0 (iniL y As) [] h (fun r h' => ∃ x, r = some (.int x) ∧ k x h')
theorem E_vI {kx : Nat} {As rest : List Value} {T : Int32 → aH → Prop} (hr : rowAt y pc = some (.invokevirtual kx, 3, a, 0)) (hc : cutA a st = some (As, rest)) (h8 : rm8 a As rest = true) (hk : rKd a = 0) (k : ∀ x h', E scr al (d + 1) y (pc + 3) L (.int x :: rest) h' K = T x h') : E scr al (d + 1) y pc L st h K = vI scr d a As h T := by
  rw [E_vcall hr hc h8]
  unfold vI
  congr 1
  exact E_cong (fun r h' => propext ⟨fun ⟨h1, h2⟩ => by
    obtain ⟨x, rfl⟩ := (rOk_I hk).mp h1
    exact ⟨x, rfl, by rw [← k x h']; exact h2⟩, by
    rintro ⟨x, rfl, h2⟩
    exact ⟨(rOk_I hk).mpr ⟨x, rfl⟩, by rw [← k x h'] at h2; exact h2⟩⟩)
theorem E_sI {kx : Nat} {As rest : List Value} {T : Int32 → aH → Prop} (hr : rowAt y pc = some (.invokestatic kx, 3, a, 1)) (hc : cutA a st = some (As, rest)) (h8 : rm8 a As rest = true) (hk : rKd a = 0) (k : ∀ x h', E scr al (d + 1) y (pc + 3) L (.int x :: rest) h' K = T x h') : E scr al (d + 1) y pc L st h K = sI scr d a As h T := by
  rw [E_scall hr hc h8]
  unfold sI
  exact E_cong (fun r h' => propext ⟨fun ⟨h1, h2⟩ => by
    obtain ⟨x, rfl⟩ := (rOk_I hk).mp h1
    exact ⟨x, rfl, by rw [← k x h']; exact h2⟩, by
    rintro ⟨x, rfl, h2⟩
    exact ⟨(rOk_I hk).mpr ⟨x, rfl⟩, by rw [← k x h'] at h2; exact h2⟩⟩)
theorem rOk_J {a : Nat} {r : Option Value} (hk : rKd a = 1) : rOk a r = true ↔ ∃ x, r = some (.long x) := by
  unfold rKd at hk
  unfold rOk
  cases hm : mRet a with
  | none => rw [hm] at hk; first | (cases hk; done) | (cases r <;> simp)
  | some t =>
    rw [hm] at hk
    cases t <;> first | (cases hk; done) | (cases r with
      | none => simp
      | some v => cases v <;> simp)
def vJ (scr : List Int32) (d y : Nat) (As : List Value) (h : aH) (k : Int64 → aH → Prop) : Prop := vOk scr h As y = true ∧ E scr false d y 0 (iniL y As) [] h (fun r h' => ∃ x, r = some (.long x) ∧ k x h')
def sJ (scr : List Int32) (d y : Nat) (As : List Value) (h : aH) (k : Int64 → aH → Prop) : Prop := E scr false d y 0 (iniL y As) [] h (fun r h' => ∃ x, r = some (.long x) ∧ k x h')
theorem E_vJ {kx : Nat} {As rest : List Value} {T : Int64 → aH → Prop} (hr : rowAt y pc = some (.invokevirtual kx, 3, a, 0)) (hc : cutA a st = some (As, rest)) (h8 : rm8 a As rest = true) (hk : rKd a = 1) (k : ∀ x h', E scr al (d + 1) y (pc + 3) L (.long x :: rest) h' K = T x h') : E scr al (d + 1) y pc L st h K = vJ scr d a As h T := by
  rw [E_vcall hr hc h8]
  unfold vJ
  congr 1
  exact E_cong (fun r h' => propext ⟨fun ⟨h1, h2⟩ => by
    obtain ⟨x, rfl⟩ := (rOk_J hk).mp h1
    exact ⟨x, rfl, by rw [← k x h']; exact h2⟩, by
    rintro ⟨x, rfl, h2⟩
    exact ⟨(rOk_J hk).mpr ⟨x, rfl⟩, by rw [← k x h'] at h2; exact h2⟩⟩)
theorem E_sJ {kx : Nat} {As rest : List Value} {T : Int64 → aH → Prop} (hr : rowAt y pc = some (.invokestatic kx, 3, a, 1)) (hc : cutA a st = some (As, rest)) (h8 : rm8 a As rest = true) (hk : rKd a = 1) (k : ∀ x h', E scr al (d + 1) y (pc + 3) L (.long x :: rest) h' K = T x h') : E scr al (d + 1) y pc L st h K = sJ scr d a As h T := by
  rw [E_scall hr hc h8]
  unfold sJ
  exact E_cong (fun r h' => propext ⟨fun ⟨h1, h2⟩ => by
    obtain ⟨x, rfl⟩ := (rOk_J hk).mp h1
    exact ⟨x, rfl, by rw [← k x h']; exact h2⟩, by
    rintro ⟨x, rfl, h2⟩
    exact ⟨(rOk_J hk).mpr ⟨x, rfl⟩, by rw [← k x h'] at h2; exact h2⟩⟩)
theorem rOk_R {a : Nat} {r : Option Value} (hk : rKd a = 2) : rOk a r = true ↔ ∃ x, r = some (.ref x) := by
  unfold rKd at hk
  unfold rOk
  cases hm : mRet a with
  | none => rw [hm] at hk; first | (cases hk; done) | (cases r <;> simp)
  | some t =>
    rw [hm] at hk
    cases t <;> first | (cases hk; done) | (cases r with
      | none => simp
      | some v => cases v <;> simp)
def vR (scr : List Int32) (d y : Nat) (As : List Value) (h : aH) (k : Nat → aH → Prop) : Prop := vOk scr h As y = true ∧ E scr false d y 0 (iniL y As) [] h (fun r h' => ∃ x, r = some (.ref x) ∧ k x h')
def sR (scr : List Int32) (d y : Nat) (As : List Value) (h : aH) (k : Nat → aH → Prop) : Prop := E scr false d y 0 (iniL y As) [] h (fun r h' => ∃ x, r = some (.ref x) ∧ k x h')
theorem E_vR {kx : Nat} {As rest : List Value} {T : Nat → aH → Prop} (hr : rowAt y pc = some (.invokevirtual kx, 3, a, 0)) (hc : cutA a st = some (As, rest)) (h8 : rm8 a As rest = true) (hk : rKd a = 2) (k : ∀ x h', E scr al (d + 1) y (pc + 3) L (.ref x :: rest) h' K = T x h') : E scr al (d + 1) y pc L st h K = vR scr d a As h T := by
  rw [E_vcall hr hc h8]
  unfold vR
  congr 1
  exact E_cong (fun r h' => propext ⟨fun ⟨h1, h2⟩ => by
    obtain ⟨x, rfl⟩ := (rOk_R hk).mp h1
    exact ⟨x, rfl, by rw [← k x h']; exact h2⟩, by
    rintro ⟨x, rfl, h2⟩
    exact ⟨(rOk_R hk).mpr ⟨x, rfl⟩, by rw [← k x h'] at h2; exact h2⟩⟩)
theorem E_sR {kx : Nat} {As rest : List Value} {T : Nat → aH → Prop} (hr : rowAt y pc = some (.invokestatic kx, 3, a, 1)) (hc : cutA a st = some (As, rest)) (h8 : rm8 a As rest = true) (hk : rKd a = 2) (k : ∀ x h', E scr al (d + 1) y (pc + 3) L (.ref x :: rest) h' K = T x h') : E scr al (d + 1) y pc L st h K = sR scr d a As h T := by
  rw [E_scall hr hc h8]
  unfold sR
  exact E_cong (fun r h' => propext ⟨fun ⟨h1, h2⟩ => by
    obtain ⟨x, rfl⟩ := (rOk_R hk).mp h1
    exact ⟨x, rfl, by rw [← k x h']; exact h2⟩, by
    rintro ⟨x, rfl, h2⟩
    exact ⟨(rOk_R hk).mpr ⟨x, rfl⟩, by rw [← k x h'] at h2; exact h2⟩⟩)
theorem rOk_V {a : Nat} {r : Option Value} (hk : rKd a = 3) : rOk a r = true ↔ r = none := by
  unfold rKd at hk
  unfold rOk
  cases hm : mRet a with
  | none => rw [hm] at hk; first | (cases hk; done) | (cases r <;> simp)
  | some t =>
    rw [hm] at hk
    cases t <;> first | (cases hk; done) | (cases r with
      | none => simp
      | some v => cases v <;> simp)
def vV (scr : List Int32) (d y : Nat) (As : List Value) (h : aH) (k : aH → Prop) : Prop := vOk scr h As y = true ∧ E scr false d y 0 (iniL y As) [] h (fun r h' => r = none ∧ k h')
def sV (scr : List Int32) (d y : Nat) (As : List Value) (h : aH) (k : aH → Prop) : Prop := E scr false d y 0 (iniL y As) [] h (fun r h' => r = none ∧ k h')
theorem E_vV {kx : Nat} {As rest : List Value} {T : aH → Prop} (hr : rowAt y pc = some (.invokevirtual kx, 3, a, 0)) (hc : cutA a st = some (As, rest)) (h8 : rm8 a As rest = true) (hk : rKd a = 3) (k : ∀ h', E scr al (d + 1) y (pc + 3) L (rest) h' K = T h') : E scr al (d + 1) y pc L st h K = vV scr d a As h T := by
  rw [E_vcall hr hc h8]
  unfold vV
  congr 1
  exact E_cong (fun r h' => propext ⟨fun ⟨h1, h2⟩ => by
    obtain rfl := (rOk_V hk).mp h1
    exact ⟨rfl, by rw [← k h']; exact h2⟩, by
    rintro ⟨rfl, h2⟩
    exact ⟨(rOk_V hk).mpr rfl, by rw [← k h'] at h2; exact h2⟩⟩)
theorem E_sV {kx : Nat} {As rest : List Value} {T : aH → Prop} (hr : rowAt y pc = some (.invokestatic kx, 3, a, 1)) (hc : cutA a st = some (As, rest)) (h8 : rm8 a As rest = true) (hk : rKd a = 3) (k : ∀ h', E scr al (d + 1) y (pc + 3) L (rest) h' K = T h') : E scr al (d + 1) y pc L st h K = sV scr d a As h T := by
  rw [E_scall hr hc h8]
  unfold sV
  exact E_cong (fun r h' => propext ⟨fun ⟨h1, h2⟩ => by
    obtain rfl := (rOk_V hk).mp h1
    exact ⟨rfl, by rw [← k h']; exact h2⟩, by
    rintro ⟨rfl, h2⟩
    exact ⟨(rOk_V hk).mpr rfl, by rw [← k h'] at h2; exact h2⟩⟩)
theorem E_cp {kx : Nat} {k0 : Int32} {dq sq : Nat} {T : aH → Prop} (hr : rowAt y pc = some (.invokestatic kx, 3, a, 4)) (h8 : (st.map fun v => v.category).sum ≤ 8) (k : ∀ h', E scr al (d + 1) y (pc + 3) L st h' K = T h') :
    E scr al (d + 1) y pc L (.int k0 :: .int 0 :: .ref dq :: .int 0 :: .ref sq :: st) h K = cP h sq dq k0 T := by
  apply propext
  constructor
  · rintro ⟨n, u, e, kk⟩
    cases n with
    | zero => simp [run] at e
    | succ n =>
      unfold run at e
      rw [hr] at e
      obtain ⟨-, e1⟩ := lenO_inv e
      obtain ⟨h1, e2⟩ := atL_inv e1
      obtain ⟨h', hu, e3⟩ := oB_inv e2
      exact ⟨h', hu, by rw [← k h']; exact ⟨n, u, e3, kk⟩⟩
  · rintro ⟨h', hu, ht⟩
    rw [← k h'] at ht
    obtain ⟨n, u, e, kk⟩ := ht
    refine ⟨n + 1, u, ?_, kk⟩
    unfold run
    rw [hr]
    exact lenO_some rfl (atL_some (by simp [h8]) (oB_some hu e))
end EL
