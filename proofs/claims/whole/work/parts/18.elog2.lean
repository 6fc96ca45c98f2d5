variable {scr : List Int32}
-- ===== rules that the printed blocks use =====
def irm (x z : Int32) : Int32 := x - x / z * z
def lrm (x z : Int64) : Int64 := x - x / z * z
section EM
variable {al : Bool} {d y pc : Nat} {L st : List Value} {h : aH} {K : Option Value → aH → Prop} {len a b : Nat} {T : Prop}
theorem E_ic {n : Int} {v : Int32} (hr : rowAt y pc = some (.iconst n, 1, a, b)) (hv : Int32.ofInt n = v) (k : E scr al d y (pc + 1) L (.int v :: st) h K = T) : E scr al d y pc L st h K = T := by subst hv; exact go (w := (pc + 1, L, .int (Int32.ofInt n) :: st, h)) hr rfl rfl k
theorem E_bip {n : Int} {v : Int32} (hr : rowAt y pc = some (.bipush n, 2, a, b)) (hv : (Int8.ofInt n).toInt32 = v) (k : E scr al d y (pc + 2) L (.int v :: st) h K = T) : E scr al d y pc L st h K = T := by subst hv; exact go (w := (pc + 2, L, .int (Int8.ofInt n).toInt32 :: st, h)) hr rfl rfl k
theorem E_sip {n : Int} {v : Int32} (hr : rowAt y pc = some (.sipush n, 3, a, b)) (hv : (Int16.ofInt n).toInt32 = v) (k : E scr al d y (pc + 3) L (.int v :: st) h K = T) : E scr al d y pc L st h K = T := by subst hv; exact go (w := (pc + 3, L, .int (Int16.ofInt n).toInt32 :: st, h)) hr rfl rfl k
theorem E_lc {n : Fin 2} {v : Int64} (hr : rowAt y pc = some (.lconst n, 1, a, b)) (hv : Int64.ofNat (n : Nat) = v) (k : E scr al d y (pc + 1) L (.long v :: st) h K = T) : E scr al d y pc L st h K = T := by subst hv; exact go (w := (pc + 1, L, .long (Int64.ofNat (n : Nat)) :: st, h)) hr rfl rfl k
theorem E_ldc {n : Nat} {v : Int32} (hr : rowAt y pc = some (.ldc n, 2, a, 0)) (hv : Int32.ofNat a = v) (k : E scr al d y (pc + 2) L (.int v :: st) h K = T) : E scr al d y pc L st h K = T := by subst hv; exact go (w := (pc + 2, L, .int (Int32.ofNat a) :: st, h)) hr rfl rfl k
theorem E_ldcw {n : Nat} {v : Int32} (hr : rowAt y pc = some (.ldc_w n, 3, a, 0)) (hv : Int32.ofNat a = v) (k : E scr al d y (pc + 3) L (.int v :: st) h K = T) : E scr al d y pc L st h K = T := by subst hv; exact go (w := (pc + 3, L, .int (Int32.ofNat a) :: st, h)) hr rfl rfl k
theorem E_lds {n v : Nat} (hr : rowAt y pc = some (.ldc n, 2, a, 1)) (hv : 20000 + a = v) (k : E scr al d y (pc + 2) L (.ref v :: st) h K = T) : E scr al d y pc L st h K = T := by subst hv; exact go (w := (pc + 2, L, .ref (20000 + a) :: st, h)) hr rfl rfl k
theorem E_ldsw {n v : Nat} (hr : rowAt y pc = some (.ldc_w n, 3, a, 1)) (hv : 20000 + a = v) (k : E scr al d y (pc + 3) L (.ref v :: st) h K = T) : E scr al d y pc L st h K = T := by subst hv; exact go (w := (pc + 3, L, .ref (20000 + a) :: st, h)) hr rfl rfl k
theorem E_ld2 {n : Nat} {v : Int64} (hr : rowAt y pc = some (.ldc2_w n, 3, a, b)) (hv : Int64.ofNat a = v) (k : E scr al d y (pc + 3) L (.long v :: st) h K = T) : E scr al d y pc L st h K = T := by subst hv; exact go (w := (pc + 3, L, .long (Int64.ofNat a) :: st, h)) hr rfl rfl k
theorem E_gs {n : Nat} {v : Value} (hr : rowAt y pc = some (.getstatic n, 3, a, b)) (hv : aSv a = v) (k : E scr al d y (pc + 3) L (v :: st) h K = T) : E scr al d y pc L st h K = T := by subst hv; exact go (w := (pc + 3, L, aSv a :: st, h)) hr rfl rfl k
theorem E_gt {off : Int} {t : Nat} (hr : rowAt y pc = some (.goto off, 3, a, b)) (hj : jmp pc off = some t) (k : E scr al d y t L st h K = T) : E scr al d y pc L st h K = T := by
  refine go (w := (t, L, st, h)) hr rfl ?_ k
  show oB (jmp pc off) _ = _
  rw [hj]
  rfl
theorem E_inc {j : Nat} {n : Int} {x c : Int32} {L' : List Value} (hr : rowAt y pc = some (.iinc j n, 3, a, b)) (hx : L[j]? = some (.int x)) (hc : Int32.ofInt n = c) (hL : s1L L j (.int (x + c)) = L') (k : E scr al d y (pc + 3) L' st h K = T) : E scr al d y pc L st h K = T := by
  subst hc
  subst hL
  have hlt : j < L.length := (List.getElem?_eq_some_iff.mp hx).1
  refine go (w := (pc + 3, s1L L j (.int (x + Int32.ofInt n)), st, h)) hr rfl ?_ k
  show lI L j _ = _
  unfold lI
  rw [hx]
  show atL (decide (j < L.length)) _ = _
  simp [atL, hlt]
theorem E_divc {x z : Int32} (hr : rowAt y pc = some (.idiv, 1, a, b)) (hz : ¬ z = 0) (k : E scr al d y (pc + 1) L (.int (x / z) :: st) h K = T) : E scr al d y pc L (.int z :: .int x :: st) h K = T := by rw [E_idiv hr k]; simp [hz]
theorem E_remc {x z : Int32} (hr : rowAt y pc = some (.irem, 1, a, b)) (hz : ¬ z = 0) (k : E scr al d y (pc + 1) L (.int (irm x z) :: st) h K = T) : E scr al d y pc L (.int z :: .int x :: st) h K = T := by rw [E_irem hr k]; simp [hz]
theorem E_rem {x z : Int32} (hr : rowAt y pc = some (.irem, 1, a, b)) (k : E scr al d y (pc + 1) L (.int (irm x z) :: st) h K = T) : E scr al d y pc L (.int z :: .int x :: st) h K = (¬ z = 0 ∧ T) := E_irem hr k
theorem E_remJ {x z : Int64} (hr : rowAt y pc = some (.lrem, 1, a, b)) (k : E scr al d y (pc + 1) L (.long (lrm x z) :: st) h K = T) : E scr al d y pc L (.long z :: .long x :: st) h K = (¬ z = 0 ∧ T) := E_lrem hr k
theorem E_pI {q kx : Nat} {v : Int32} {T : aH → Prop} (hr : rowAt y pc = some (.putfield kx, 3, a, b)) (hq : aFty a b = .int ∧ aFin a b = false) (k : ∀ h', E scr al d y (pc + 3) L st h' K = T h') : E scr al d y pc L (.int v :: .ref q :: st) h K = pF h q a b (.int v) T :=
  E_pF hr (by rw [hq.1, hq.2]; simp [narrow, fits]) k
theorem E_pRf {q kx v : Nat} {C : String} {T : aH → Prop} (hr : rowAt y pc = some (.putfield kx, 3, a, b)) (hq : aFty a b = .object C ∧ aFin a b = false) (k : ∀ h', E scr al d y (pc + 3) L st h' K = T h') : E scr al d y pc L (.ref v :: .ref q :: st) h K = pF h q a b (.ref v) T :=
  E_pF hr (by rw [hq.1, hq.2]; simp [narrow, fits]) k
theorem E_ri {x : Int32} (hr : rowAt y pc = some (.ireturn, 1, a, b)) (hq : mRet y = some .int) : E scr al d y pc L [.int x] h K = K (some (.int x)) h := E_iret hr (by unfold retI; rw [hq])
theorem E_rz {x : Int32} (hr : rowAt y pc = some (.ireturn, 1, a, b)) (hq : mRet y = some .boolean) (hx : x = 0 ∨ x = 1) : E scr al d y pc L [.int x] h K = K (some (.int x)) h := E_iret hr (by unfold retI; rw [hq]; rcases hx with rfl | rfl <;> rfl)
theorem E_nret {x : Int32} {t : FieldType} (hr : rowAt y pc = some (.ireturn, 1, a, b)) (hq : mRet y = some t) (ht : t = .byte ∨ t = .char) : E scr al d y pc L [.int x] h K = (narrow t (.int x) = .int x ∧ K (some (.int x)) h) := by
  have hre : retI y x = decide (narrow t (.int x) = .int x) := by
    unfold retI
    rw [hq]
    rcases ht with rfl | rfl <;> rfl
  by_cases hx : narrow t (.int x) = .int x
  · rw [E_iret hr (by rw [hre]; simp [hx])]
    simp [hx]
  · apply propext
    constructor
    · rintro ⟨n, w, e, k⟩
      cases n with
      | zero => simp [run] at e
      | succ n =>
        unfold run at e
        rw [hr] at e
        obtain ⟨-, e1⟩ := lenO_inv e
        obtain ⟨e2, -⟩ := atL_inv e1
        rw [hre] at e2
        exact absurd (of_decide_eq_true e2) hx
    · rintro ⟨h1, -⟩
      exact absurd h1 hx
theorem cut_n {n : Nat} {As rest : List Value} (hn : mNA a = n) (h1 : st = As.reverse ++ rest) (h2 : As.length = n) : cutA a st = some (As, rest) := by
  unfold cutA
  subst h1
  subst h2
  rw [hn]
  simp
theorem rm8_n {mx : Nat} {As rest : List Value} (hm : mMax a = mx) (h1 : (rest.map fun v => v.category).sum ≤ 8) (h2 : (sprd As).length ≤ mx) : rm8 a As rest = true := by
  unfold rm8
  rw [hm]
  simp [h1, h2]
abbrev mI (a n mx k : Nat) : Prop := mNA a = n ∧ mMax a = mx ∧ rKd a = k
def swE : List (Int32 × Nat) → Nat → Int32 → (Nat → Prop) → Prop
  | [], td, _, k => k td
  | q :: r, td, x, k => if x = q.1 then k q.2 else swE r td x k
def tsw (df lo hi : Int) (offs : Array Int) (pc : Nat) (x : Int) : Option Nat := oB (if x < lo ∨ hi < x then some df else offs[(x - lo).toNat]?) fun off => jmp pc off
theorem swE_of {f : Int32 → Option Nat} {k : Nat → Prop} : ∀ (ts : List (Int32 × Nat)) (td : Nat) (x : Int32), (∀ q ∈ ts, f q.1 = some q.2) → ((∀ q ∈ ts, x ≠ q.1) → f x = some td) → (∃ t, f x = some t ∧ k t) = swE ts td x k
  | [], td, x, h1, h2 => by
    have h3 := h2 (fun q hq => by cases hq)
    rw [h3]
    simp [swE]
  | q :: r, td, x, h1, h2 => by
    unfold swE
    by_cases hx : x = q.1
    · rw [if_pos hx, hx, h1 q List.mem_cons_self]
      simp
    · rw [if_neg hx]
      exact swE_of r td x (fun q' hq => h1 q' (List.mem_cons_of_mem _ hq)) (fun h3 => h2 (fun q' hq => by
        rcases List.mem_cons.mp hq with rfl | hq
        · exact hx
        · exact h3 q' hq))
theorem E_tab {df lo hi : Int} {offs : Array Int} {x : Int32} (ts : List (Int32 × Nat)) (td : Nat) (hr : rowAt y pc = some (.tableswitch df lo hi offs, len, a, b)) (h1 : ∀ q ∈ ts, tsw df lo hi offs pc q.1.toInt = some q.2) (h2 : jmp pc df = some td)
    (h3 : ∀ j, j < (hi - lo + 1).toNat → ∃ q ∈ ts, q.1.toInt = lo + j) : E scr al d y pc L (.int x :: st) h K = swE ts td x (fun t => E scr al d y t L st h K) := by
  have hs : stp scr al (mIni y) (.tableswitch df lo hi offs) len a b pc L (.int x :: st) h = oB (tsw df lo hi offs pc x.toInt) (fun t => some (t, L, st, h)) := by
    show oB (if x.toInt < lo ∨ hi < x.toInt then some df else offs[(x.toInt - lo).toNat]?) (fun off => oB (jmp pc off) fun t => some (t, L, st, h)) = _
    unfold tsw
    cases (if x.toInt < lo ∨ hi < x.toInt then some df else offs[(x.toInt - lo).toNat]?) <;> rfl
  rw [E_rd (f := fun t => (t, L, st, h)) hr rfl hs (T := fun t => E scr al d y t L st h K) (fun _ => rfl)]
  refine swE_of (f := fun z => tsw df lo hi offs pc z.toInt) ts td x h1 (fun h4 => ?_)
  unfold tsw
  rw [if_pos]
  · exact h2
  · by_cases g : x.toInt < lo ∨ hi < x.toInt
    · exact g
    · exfalso
      obtain ⟨q, hq, hqe⟩ := h3 (x.toInt - lo).toNat (by omega)
      refine h4 q hq (Int32.toInt_inj.mp ?_)
      rw [hqe]
      omega
theorem lks_none : ∀ (ps : List (Int × Int)) (df : Int) (x : Int), (∀ q ∈ ps, x ≠ q.1) → Op.lookupswitch.offset ps df x = df
  | [], df, x, _ => by simp [Op.lookupswitch.offset]
  | q :: r, df, x, h => by
    have h1 := h q List.mem_cons_self
    have ih := lks_none r df x (fun q' hq => h q' (List.mem_cons_of_mem _ hq))
    obtain ⟨q1, q2⟩ := q
    simp only [Op.lookupswitch.offset] at ih ⊢
    simp_all
    exact fun e => absurd e.symm h1
theorem E_lks {df : Int} {ps : Array (Int × Int)} {x : Int32} (ts : List (Int32 × Nat)) (td : Nat) (hr : rowAt y pc = some (.lookupswitch df ps, len, a, b)) (h0 : (ps.toList.zip (ps.toList.drop 1)).all (fun (a, next) => a.1 < next.1) = true) (h1 : ∀ q ∈ ts, jmp pc (Op.lookupswitch.offset ps.toList df q.1.toInt) = some q.2) (h2 : jmp pc df = some td)
    (h3 : ∀ p ∈ ps.toList, ∃ q ∈ ts, q.1.toInt = p.1) : E scr al d y pc L (.int x :: st) h K = swE ts td x (fun t => E scr al d y t L st h K) := by
  have hs : stp scr al (mIni y) (.lookupswitch df ps) len a b pc L (.int x :: st) h = oB (jmp pc (Op.lookupswitch.offset ps.toList df x.toInt)) (fun t => some (t, L, st, h)) := by
    show atL _ _ = _
    rw [h0]
    rfl
  rw [E_rd (f := fun t => (t, L, st, h)) hr rfl hs (T := fun t => E scr al d y t L st h K) (fun _ => rfl)]
  refine swE_of (f := fun z => jmp pc (Op.lookupswitch.offset ps.toList df z.toInt)) ts td x h1 (fun h4 => ?_)
  have h5 := lks_none ps.toList df x.toInt (fun p hp e => by
    obtain ⟨q, hq, hqe⟩ := h3 p hp
    exact h4 q hq (Int32.toInt_inj.mp (by rw [hqe]; exact e)))
  simp only [h5]
  exact h2
theorem E_none (hr : rowAt y pc = none) : E scr al d y pc L st h K = False := by
  apply propext
  constructor
  · rintro ⟨n, w, e, k⟩
    cases n with
    | zero => simp [run] at e
    | succ n =>
      unfold run at e
      rw [hr] at e
      cases e
  · intro q
    cases q
theorem ini_n {n mx k : Nat} {As L : List Value} (hm : mI a n mx k) (h1 : sprd As ++ List.replicate (mx - (sprd As).length) .null = L) : iniL a As = L := by
  unfold iniL
  rw [hm.2.1]
  exact h1
end EM
