variable {scr : List Int32}
-- ===== numbers, and what may be none =====
section AB1
theorem irm_nI {a d : Nat} (ha : a < 2 ^ 31) (h0 : 0 < d) (hd : d < 2 ^ 31) : irm (nI a) (nI d) = nI (a % d) := pk_rem ha h0 hd
theorem irm12 {a : Nat} (ha : a < 2 ^ 31) : irm (nI a) 12 = nI (a % 12) := irm_nI (d := 12) ha (by decide) (by decide)
theorem div12 {a : Nat} (ha : a < 2 ^ 31) : nI a / 12 = nI (a / 12) := pk_div (d := 12) ha (by decide) (by decide)
theorem inb_lt {a n : Nat} (h : a < n) (hn : n < 2 ^ 31) : inb (nI a) n = true := by rw [inb_nI (by omega)]; simp [h]
theorem getD_set {α : Type} {l : List α} {a b : Nat} {v z : α} (ha : a < l.length) : (l.set a v).getD b z = if a = b then v else l.getD b z := by
  rw [List.getD_eq_getElem?_getD, List.getD_eq_getElem?_getD, List.getElem?_set]
  by_cases h : a = b
  · subst h; simp [ha]
  · simp [h]
theorem lg_ls {l : List Int32} {a b : Nat} {v : Int32} (ha : a < l.length) (h1 : a < 2 ^ 31) (h2 : b < 2 ^ 31) : lg (ls l (nI a) v) (nI b) = if a = b then v else lg l (nI b) := by
  rw [ls_nI h1, lg_nI h2, lg_nI h2, getD_set ha]
theorem lgJ_nI {l : List Int64} {a : Nat} (h : a < 2 ^ 31) : lgJ l (nI a) = l.getD a 0 := by unfold lgJ; rw [nI_clamp h]
theorem lsJ_nI {l : List Int64} {a : Nat} {v : Int64} (h : a < 2 ^ 31) : lsJ l (nI a) v = l.set a v := by unfold lsJ; rw [nI_clamp h]
theorem lgJ_lsJ {l : List Int64} {a b : Nat} {v : Int64} (ha : a < l.length) (h1 : a < 2 ^ 31) (h2 : b < 2 ^ 31) : lgJ (lsJ l (nI a) v) (nI b) = if a = b then v else lgJ l (nI b) := by
  rw [lsJ_nI h1, lgJ_nI h2, lgJ_nI h2, getD_set ha]
/-- none: -1 -/
def oI (o : Option Nat) : Int32 := match o with
  | none => -1
  | some a => nI a
theorem oI_n : oI none = -1 := rfl
theorem oI_s {a : Nat} : oI (some a) = nI a := rfl
theorem neg1_lt : ((-1 : Int32) < 0) = True := by decide
theorem nI_lt0 {a : Nat} (h : a < 2 ^ 31) : (nI a < 0) = False := by simp [nI_pos h]
theorem nI_ne_neg {a : Nat} (h : a < 2 ^ 31) : ¬ nI a = -1 := fun e => nI_pos h (by rw [e]; decide)
theorem oI_lt0 {o : Option Nat} (h : ∀ a, o = some a → a < 2 ^ 31) : (oI o < 0) = (o = none) := by
  cases o with
  | none => simp [oI, neg1_lt]
  | some a => simp [oI, nI_pos (h a rfl)]
theorem oI_inj {o o' : Option Nat} (h : ∀ a, o = some a → a < 2 ^ 31) (h' : ∀ a, o' = some a → a < 2 ^ 31) : (oI o = oI o') = (o = o') := by
  cases o with
  | none =>
    cases o' with
    | none => simp
    | some a => simp only [oI]; simp [Ne.symm (nI_ne_neg (h' a rfl))]
  | some a =>
    cases o' with
    | none => simp only [oI]; simp [nI_ne_neg (h a rfl)]
    | some b => simp only [oI, nI_eq (h a rfl) (h' b rfl)]; simp
-- literals as numbers
theorem LI : (2 : Int32) = nI 2 ∧ (3 : Int32) = nI 3 ∧ (4 : Int32) = nI 4 ∧ (6 : Int32) = nI 6 ∧ (8 : Int32) = nI 8 ∧ (9 : Int32) = nI 9 ∧ (10 : Int32) = nI 10 ∧ (12 : Int32) = nI 12 ∧ (14 : Int32) = nI 14 ∧ (36 : Int32) = nI 36 ∧ (40 : Int32) = nI 40 ∧ (60 : Int32) = nI 60 ∧ (99 : Int32) = nI 99 ∧ (100 : Int32) = nI 100 ∧ (144 : Int32) = nI 144 ∧ (200 : Int32) = nI 200 ∧ (400 : Int32) = nI 400 := by
  refine ⟨rfl, rfl, rfl, rfl, rfl, rfl, rfl, rfl, rfl, rfl, rfl, rfl, rfl, rfl, rfl, rfl, rfl⟩
theorem NU : (∀ a b : Nat, nI a + nI b = nI (a + b)) ∧ (∀ a b : Nat, nI a * nI b = nI (a * b)) ∧ (∀ a : Nat, nI a + 1 = nI (a + 1)) := ⟨nI_add, pk_mul, nI_1⟩
end AB1
-- ===== the plain: P 0 0 columns, P 1 0 rows, P 2 0 people, P 3 0 heralds, P 4 kinds, P 5 ages, P 6 sorts =====
section AB2
abbrev Pn : Type := Nat → Nat → Nat
def pCo (P : Pn) : Nat := P 0 0
def pRo (P : Pn) : Nat := P 1 0
def pPe (P : Pn) : Nat := P 2 0
def pHe (P : Pn) : Nat := P 3 0
def pKd (P : Pn) (x : Nat) : Nat := P 4 x
def pAg (P : Pn) (w : Nat) : Nat := P 5 w
def pSo (P : Pn) (w : Nat) : Nat := P 6 w
def ceB (P : Pn) (x y : Nat) : Bool := decide (x < pCo P) && decide (y < pRo P)
def thB (P : Pn) (q : Nat) : Bool := ceB P (q % 12) (q / 12)
def gkB (k : Nat) : Bool := decide (k = 0) || decide (k = 3)
def exB (P : Pn) (w : Nat) : Bool := decide (w < pPe P) || (decide (12 ≤ w) && decide (w < 12 + pHe P))
def gaL (P : Pn) : List Nat := (List.range 144).filter (fun q => thB P q && decide (pKd P q = 3))
def wfP (P : Pn) : Prop := pCo P ≤ 12 ∧ pRo P ≤ 12 ∧ (pCo P = 0 ↔ pRo P = 0) ∧ pPe P ≤ 12 ∧ pHe P ≤ 2 ∧ (∀ q, pKd P q < 4) ∧ (∀ w, pAg P w < 100) ∧ (∀ w, pSo P w < 10) ∧ (pRo P = 0 → pPe P = 0 ∧ pHe P = 0)
theorem th_lt {P : Pn} (h : wfP P) {q : Nat} (hq : thB P q = true) : q < 144 := by
  obtain ⟨h1, h2, -⟩ := h
  simp only [thB, ceB, Bool.and_eq_true, decide_eq_true_eq] at hq
  omega
theorem ex_lt {P : Pn} (h : wfP P) {w : Nat} (hw : exB P w = true) : w < 14 := by
  obtain ⟨-, -, -, h4, h5, -⟩ := h
  simp only [exB, Bool.or_eq_true, Bool.and_eq_true, decide_eq_true_eq] at hw
  omega
/-- the ways, one more than they are -/
def wX (w : Nat) : Nat := [1, 2, 2, 2, 1, 0, 0, 0].getD w 0
def wY (w : Nat) : Nat := [0, 0, 1, 2, 2, 2, 1, 0].getD w 0
/-- the cell beside, by a way -/
def beO (P : Pn) (q w : Nat) : Option Nat :=
  if 1 ≤ q % 12 + wX w ∧ 1 ≤ q / 12 + wY w ∧ ceB P (q % 12 + wX w - 1) (q / 12 + wY w - 1) = true then some (12 * (q / 12 + wY w - 1) + (q % 12 + wX w - 1)) else none
theorem be_th {P : Pn} (h : wfP P) {q w r : Nat} (he : beO P q w = some r) : thB P r = true := by
  obtain ⟨h1, h2, -⟩ := h
  unfold beO at he
  split at he
  · rename_i hc
    cases he
    obtain ⟨-, -, hc⟩ := hc
    have hc' := hc
    simp only [ceB, Bool.and_eq_true, decide_eq_true_eq] at hc'
    unfold thB
    rw [show (12 * (q / 12 + wY w - 1) + (q % 12 + wX w - 1)) % 12 = q % 12 + wX w - 1 by omega, show (12 * (q / 12 + wY w - 1) + (q % 12 + wX w - 1)) / 12 = q / 12 + wY w - 1 by omega]
    exact hc
  · cases he
/-- the square of a distance -/
def sqD (x y : Nat) : Nat := (x - y) * (x - y) + (y - x) * (y - x)
def dsN (q r : Nat) : Nat := sqD (q % 12) (r % 12) + sqD (q / 12) (r / 12)
theorem sq_nI (x y : Nat) : (nI x - nI y) * (nI x - nI y) = nI (sqD x y) := by
  unfold sqD
  rcases Nat.le_total y x with h | h
  · rw [pk_sub h, pk_mul, show y - x = 0 by omega]; simp
  · have e : nI x - nI y = - nI (y - x) := by
      rw [← pk_sub h]
      exact (Int32.neg_sub).symm
    rw [e, Int32.neg_mul_neg, pk_mul, show x - y = 0 by omega]; simp
theorem apt_nI {q r : Nat} (hq : q < 2 ^ 31) (hr : r < 2 ^ 31) : apt (nI q) (nI r) = nI (dsN q r) := by
  unfold apt dsN
  rw [irm12 hq, irm12 hr, div12 hq, div12 hr, sq_nI, sq_nI, nI_add]
theorem sq_lt {x y : Nat} (hx : x < 12) (hy : y < 12) : sqD x y ≤ 121 := by
  have : ∀ x, x < 12 → ∀ y, y < 12 → sqD x y ≤ 121 := by decide +kernel
  exact this x hx y hy
theorem ds_lt {q r : Nat} (hq : q < 144) (hr : r < 144) : dsN q r ≤ 242 := by
  have h1 := sq_lt (x := q % 12) (y := r % 12) (by omega) (by omega)
  have h2 := sq_lt (x := q / 12) (y := r / 12) (by omega) (by omega)
  unfold dsN
  omega
theorem wy_nI : ∀ w, w < 8 → ∀ a, a < 12 → (nI a + wyX (nI w) = if 1 ≤ a + wX w then nI (a + wX w - 1) else -1) ∧ (nI a + wyY (nI w) = if 1 ≤ a + wY w then nI (a + wY w - 1) else -1) := by decide +kernel
theorem cB_nI {P : Pn} (h : wfP P) {x y : Nat} (hx : x < 2 ^ 31) (hy : y < 2 ^ 31) : cB (nI (pCo P)) (nI (pRo P)) (nI x) (nI y) = ceB P x y := by
  obtain ⟨h1, h2, -⟩ := h
  unfold cB ceB
  simp (disch := omega) only [LI, nI_leI, nI_lt0]
  rw [Bool.eq_iff_iff]
  simp
  omega
theorem cB_n1 {a b y : Int32} : cB a b (-1) y = false := by simp [cB, show ((-1 : Int32) < 0) = True from by decide]
theorem cB_n2 {a b x : Int32} : cB a b x (-1) = false := by simp [cB, show ((-1 : Int32) < 0) = True from by decide]
theorem bes_nI {P : Pn} (h : wfP P) {q w : Nat} (hq : q < 144) (hw : w < 8) : bes (nI (pCo P)) (nI (pRo P)) (nI q) (nI w) = oI (beO P q w) := by
  unfold bes
  have e1 := (wy_nI w hw (q % 12) (by omega)).1
  have e2 := (wy_nI w hw (q / 12) (by omega)).2
  rw [irm12 (by omega), div12 (by omega), e1, e2, if_neg]
  · unfold beO
    by_cases c1 : 1 ≤ q % 12 + wX w
    · by_cases c2 : 1 ≤ q / 12 + wY w
      · have hx : wX w ≤ 2 := by
          have : ∀ w, w < 8 → wX w ≤ 2 := by decide
          exact this w hw
        have hy : wY w ≤ 2 := by
          have : ∀ w, w < 8 → wY w ≤ 2 := by decide
          exact this w hw
        simp only [c1, c2, if_true, true_and, cB_nI h (show q % 12 + wX w - 1 < 2 ^ 31 by omega) (show q / 12 + wY w - 1 < 2 ^ 31 by omega)]
        split
        · simp only [LI, NU, oI]
        · rfl
      · simp only [c1, c2, if_true, if_false, cB_n2, false_and, and_false, Bool.false_eq_true, oI]
    · simp only [c1, if_false, cB_n1, false_and, Bool.false_eq_true, oI]
  · simp (disch := omega) only [LI, nI_leI, nI_lt0, false_or]
    omega
end AB2
