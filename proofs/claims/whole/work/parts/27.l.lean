variable {scr : List Int32}
-- ===== bits, and going round =====
section FI1
theorem ior_nI {a b : Nat} (ha : a < 2 ^ 31) (hb : b < 2 ^ 31) : nI a ||| nI b = nI (a ||| b) := by
  have hab : a ||| b < 2 ^ 31 := Nat.or_lt_two_pow ha hb
  apply Int32.toBitVec_inj.mp
  apply BitVec.eq_of_toNat_eq
  rw [Int32.toBitVec_or, BitVec.toNat_or, pk_tn (by omega), pk_tn (by omega), pk_tn (by omega)]
theorem iand_nI {a b : Nat} (ha : a < 2 ^ 31) (hb : b < 2 ^ 31) : nI a &&& nI b = nI (a &&& b) := by
  have hab : a &&& b ≤ a := Nat.and_le_left
  apply Int32.toBitVec_inj.mp
  apply BitVec.eq_of_toNat_eq
  rw [Int32.toBitVec_and, BitVec.toNat_and, pk_tn (by omega), pk_tn (by omega), pk_tn (by omega)]
theorem sh_ok : ∀ v, v < 12 → (((nI v &&& 31 : Int32)).toBitVec.smod 32).toNat = v ∧ ((1 : Int32) <<< ((nI v : Int32) &&& 31) : Int32) = nI (2 ^ v) ∧ 2 ^ v < 4096 := by decide +kernel
theorem ibit {m v : Nat} (hm : m < 2 ^ 31) (hv : v < 12) : ((((nI m : Int32) >>> ((nI v : Int32) &&& 31) : Int32) &&& 1) = 0) = (m.testBit v = false) := by
  have h1 := (sh_ok v hv).1
  rw [pk_shrN hm _ v h1, pk_andN (n := m / 2 ^ v) (by have := Nat.div_le_self m (2 ^ v); omega) 1 (by decide), Nat.testBit_eq_decide_div_mod_eq]
  have h2 : m / 2 ^ v % 2 < 2 := Nat.mod_lt _ (by decide)
  rw [show (0 : Int32) = nI 0 from rfl, nI_eq (by omega) (by omega)]
  apply propext
  simp only [decide_eq_false_iff_not]
  omega
theorem ibit1 {m v : Nat} (hm : m < 2 ^ 31) (hv : v < 12) : ((((nI m : Int32) >>> ((nI v : Int32) &&& 31) : Int32) &&& 1) = 1) = (m.testBit v = true) := by
  have h1 := (sh_ok v hv).1
  rw [pk_shrN hm _ v h1, pk_andN (n := m / 2 ^ v) (by have := Nat.div_le_self m (2 ^ v); omega) 1 (by decide), Nat.testBit_eq_decide_div_mod_eq]
  have h2 : m / 2 ^ v % 2 < 2 := Nat.mod_lt _ (by decide)
  rw [show (1 : Int32) = nI 1 from rfl, nI_eq (by omega) (by omega)]
  apply propext
  simp only [decide_eq_true_eq]
theorem iset {m v : Nat} (hm : m < 4096) (hv : v < 12) : (nI m ||| ((1 : Int32) <<< ((nI v : Int32) &&& 31) : Int32)) = nI (m ||| 2 ^ v) ∧ m ||| 2 ^ v < 4096 := by
  obtain ⟨-, h2, h3⟩ := sh_ok v hv
  rw [h2, ior_nI (by omega) (by omega)]
  exact ⟨rfl, Nat.or_lt_two_pow (n := 12) hm h3⟩
theorem bit_or {m v w : Nat} : (m ||| 2 ^ v).testBit w = (m.testBit w || decide (v = w)) := by rw [Nat.testBit_or, Nat.testBit_two_pow]
def bcN (m : Nat) : Nat := sm (fun i => tf (m.testBit i)) 12
theorem sm_up {F F' : Nat → Nat} {v : Nat} : ∀ n, v < n → (∀ i, i ≠ v → F' i = F i) → F' v = F v + 1 → sm F' n = sm F n + 1 := by
  intro n
  induction n with
  | zero => intro h; omega
  | succ n ih =>
    intro hv h1 h2
    by_cases e : v = n
    · subst e
      have : sm F' v = sm F v := sm_congr (fun i hi => h1 i (by omega))
      simp only [sm, this, h2]
      omega
    · have := ih (by omega) h1 h2
      simp only [sm, this, h1 n (Ne.symm e)]
      omega
theorem tf_1 (b : Bool) : tf b ≤ 1 := by unfold tf; split <;> omega
theorem smt_le {F : Nat → Bool} : ∀ n, sm (fun i => tf (F i)) n ≤ n := by
  intro n
  induction n with
  | zero => exact Nat.le_refl _
  | succ n ih =>
    have := tf_1 (F n)
    simp only [sm]
    omega
theorem smt_all {F : Nat → Bool} : ∀ n, sm (fun i => tf (F i)) n = n → ∀ i, i < n → F i = true := by
  intro n
  induction n with
  | zero => intro _ i hi; omega
  | succ n ih =>
    intro h i hi
    have h1 := tf_1 (F n)
    have h2 := smt_le (F := F) n
    simp only [sm] at h
    by_cases e : i = n
    · subst e
      have h3 : tf (F i) = 1 := by omega
      cases hb : F i with
      | true => rfl
      | false => rw [hb] at h3; simp [tf] at h3
    · exact ih (by omega) i (by omega)
theorem bc_le {m : Nat} : bcN m ≤ 12 := smt_le 12
theorem bc_all {m : Nat} (h : bcN m = 12) {v : Nat} (hv : v < 12) : m.testBit v = true := smt_all (F := fun i => m.testBit i) 12 h v hv
theorem bc_up {m v : Nat} (hv : v < 12) (h : m.testBit v = false) : bcN (m ||| 2 ^ v) = bcN m + 1 := by
  unfold bcN
  apply sm_up (v := v) 12 hv
  · intro i hi
    rw [bit_or]
    simp [Ne.symm hi]
  · rw [bit_or, h]
    simp [tf]
def bcV (n : Nat) : Nat :=
  let a := n - (n / 2 &&& 1431655765)
  let b := (a &&& 858993459) + (a / 4 &&& 858993459)
  let c := (b + b / 16) &&& 252645135
  let e := c + c / 256
  (e + e / 65536) % 64
theorem bc_64 : ∀ a, a < 64 → ∀ b, b < 64 → bcV (64 * a + b) = bcN (64 * a + b) := by decide +kernel
theorem bc_V {n : Nat} (hn : n < 4096) : bcV n = bcN n := by
  have := bc_64 (n / 64) (by omega) (n % 64) (by omega)
  rw [show 64 * (n / 64) + n % 64 = n by omega] at this
  exact this
theorem sp222 {d n : Nat} (hn : n < 4096) {h : aH} {T : Int32 → aH → Prop} : sI scr d 222 [.int (nI n)] h T = T (nI (bcN n)) h := by
  unfold sI
  rw [en222, b222_0]
  rw [← bc_V hn]
  have q1 : n / 2 &&& 1431655765 ≤ n / 2 := Nat.and_le_left
  have e1 : UInt32.toInt32 ((Int32.toUInt32 (nI n) : UInt32) >>> ((Int32.toUInt32 1 &&& Int32.toUInt32 31) : UInt32)) = nI (n / 2) := pk_ushrN (by omega) 1 1 (by decide)
  have e2 : nI (n / 2) &&& (1431655765 : Int32) = nI (n / 2 &&& 1431655765) := iand_nI (b := 1431655765) (by omega) (by decide)
  have e3 : nI n - nI (n / 2 &&& 1431655765) = nI (n - (n / 2 &&& 1431655765)) := pk_sub (by omega)
  simp only [e1, e2, e3]
  unfold bcV
  dsimp only
  generalize ha : n - (n / 2 &&& 1431655765) = a
  have ha2 : a < 4096 := by omega
  have q2 : a &&& 858993459 ≤ a := Nat.and_le_left
  have q3 : a / 4 &&& 858993459 ≤ a / 4 := Nat.and_le_left
  have e4 : UInt32.toInt32 ((Int32.toUInt32 (nI a) : UInt32) >>> ((Int32.toUInt32 2 &&& Int32.toUInt32 31) : UInt32)) = nI (a / 4) := pk_ushrN (by omega) 2 2 (by decide)
  have e5 : nI a &&& (858993459 : Int32) = nI (a &&& 858993459) := iand_nI (b := 858993459) (by omega) (by decide)
  have e6 : nI (a / 4) &&& (858993459 : Int32) = nI (a / 4 &&& 858993459) := iand_nI (b := 858993459) (by omega) (by decide)
  simp only [e4, e5, e6, nI_add]
  generalize hb : (a &&& 858993459) + (a / 4 &&& 858993459) = b
  have hb2 : b < 8192 := by omega
  have e7 : UInt32.toInt32 ((Int32.toUInt32 (nI b) : UInt32) >>> ((Int32.toUInt32 4 &&& Int32.toUInt32 31) : UInt32)) = nI (b / 16) := pk_ushrN (by omega) 4 4 (by decide)
  have q4 : b + b / 16 &&& 252645135 ≤ b + b / 16 := Nat.and_le_left
  have e8 : nI (b + b / 16) &&& (252645135 : Int32) = nI (b + b / 16 &&& 252645135) := iand_nI (b := 252645135) (by omega) (by decide)
  simp only [e7, nI_add, e8]
  generalize hc : b + b / 16 &&& 252645135 = c
  have hc2 : c < 16384 := by omega
  have e9 : UInt32.toInt32 ((Int32.toUInt32 (nI c) : UInt32) >>> ((Int32.toUInt32 8 &&& Int32.toUInt32 31) : UInt32)) = nI (c / 256) := pk_ushrN (by omega) 8 8 (by decide)
  simp only [e9, nI_add]
  generalize he : c + c / 256 = e
  have he2 : e < 32768 := by omega
  have e10 : UInt32.toInt32 ((Int32.toUInt32 (nI e) : UInt32) >>> ((Int32.toUInt32 16 &&& Int32.toUInt32 31) : UInt32)) = nI (e / 65536) := pk_ushrN (by omega) 16 16 (by decide)
  have e11 : nI (e + e / 65536) &&& (63 : Int32) = nI ((e + e / 65536) % 64) := pk_andN (by omega) 6 (by decide)
  simp only [e10, nI_add, e11, ex_i]
-- ===== one behind the other =====
def fiA (t : Nat → Option Nat) : Nat → Nat → Option Nat → Nat
  | 0, m, _ => m
  | _ + 1, m, none => m
  | u + 1, m, some v => if v < 12 ∧ m.testBit v = false then fiA t u (m ||| 2 ^ v) (t v) else m
def itT (t : Nat → Option Nat) (p : Nat) : Nat → Option Nat
  | 0 => some p
  | k + 1 => match itT t p k with
    | none => none
    | some v => if v < 12 then t v else none
/-- he comes round, for the first time behind k -/
def RT (t : Nat → Option Nat) (p k : Nat) : Prop := 1 ≤ k ∧ itT t p k = some p ∧ ∀ i, 1 ≤ i → i < k → itT t p i ≠ some p
variable {t : Nat → Option Nat} {p k : Nat}
theorem it_s {v : Nat} (h : itT t p k = some v) (hv : v < 12) : itT t p (k + 1) = t v := by simp only [itT, h, hv, if_true]
theorem it_add {i v : Nat} (h : itT t p i = some v) : ∀ m, itT t p (i + m) = itT t v m := by
  intro m
  induction m with
  | zero => exact h
  | succ m ih => rw [Nat.add_succ]; simp only [itT, ih]
theorem it_lt {v : Nat} (h : itT t p (k + 1) = some v) : ∃ u, u < 12 ∧ itT t p k = some u := by
  simp only [itT] at h
  cases e : itT t p k with
  | none => rw [e] at h; cases h
  | some u =>
    rw [e] at h
    by_cases hu : u < 12
    · exact ⟨u, hu, rfl⟩
    · simp [hu] at h
theorem it_lts : ∀ m v, itT t p (k + m + 1) = some v → ∃ u, u < 12 ∧ itT t p k = some u := by
  intro m
  induction m with
  | zero => intro v h; exact it_lt h
  | succ m ih =>
    intro v h
    obtain ⟨u, -, hu⟩ := it_lt (k := k + m + 1) h
    exact ih u hu
theorem RT_lt (h : RT t p k) {i : Nat} (hi : i < k) : ∃ u, u < 12 ∧ itT t p i = some u := by
  apply it_lts (k := i) (k - i - 1) p
  rw [show i + (k - i - 1) + 1 = k by omega]
  exact h.2.1
theorem RT_ds (h : RT t p k) {i j w : Nat} (hj : j < i) (hi : i < k) (h1 : itT t p i = some w) (h2 : itT t p j = some w) : False := by
  have e1 := it_add h1 (k - i)
  have e2 := it_add h2 (k - i)
  rw [show i + (k - i) = k by omega, h.2.1] at e1
  rw [← e1] at e2
  exact h.2.2 (j + (k - i)) (by omega) (by omega) e2
def mskT (t : Nat → Option Nat) (p : Nat) : Nat → Nat
  | 0 => 0
  | i + 1 => match itT t p i with
    | none => mskT t p i
    | some v => mskT t p i ||| 2 ^ v
theorem msk_s {i v : Nat} (h : itT t p i = some v) : mskT t p (i + 1) = mskT t p i ||| 2 ^ v := by simp only [mskT, h]
theorem msk_bit {w : Nat} : ∀ j, (mskT t p j).testBit w = true ↔ ∃ i, i < j ∧ itT t p i = some w := by
  intro j
  induction j with
  | zero =>
    simp only [mskT, Nat.zero_testBit]
    constructor
    · intro h; cases h
    · rintro ⟨i, hi, -⟩; omega
  | succ j ih =>
    cases e : itT t p j with
    | none =>
      simp only [mskT, e]
      rw [ih]
      constructor
      · rintro ⟨i, hi, h⟩; exact ⟨i, by omega, h⟩
      · rintro ⟨i, hi, h⟩
        by_cases e2 : i = j
        · rw [e2, e] at h; cases h
        · exact ⟨i, by omega, h⟩
    | some v =>
      rw [msk_s e, bit_or, Bool.or_eq_true, ih, decide_eq_true_eq]
      constructor
      · rintro (⟨i, hi, h⟩ | h)
        · exact ⟨i, by omega, h⟩
        · exact ⟨j, by omega, by rw [e, h]⟩
      · rintro ⟨i, hi, h⟩
        by_cases e2 : i = j
        · right
          rw [e2, e] at h
          cases h
          rfl
        · exact Or.inl ⟨i, by omega, h⟩
theorem RT_bc (h : RT t p k) : ∀ j, j ≤ k → bcN (mskT t p j) = j := by
  intro j
  induction j with
  | zero => intro _; show bcN 0 = 0; decide +kernel
  | succ j ih =>
    intro hj
    obtain ⟨u, hu, e⟩ := RT_lt h (i := j) (by omega)
    rw [msk_s e, bc_up hu, ih (by omega)]
    cases hb : (mskT t p j).testBit u with
    | false => rfl
    | true =>
      obtain ⟨i, hi, h2⟩ := (msk_bit j).mp hb
      exact (RT_ds h hi (by omega) e h2).elim
theorem RT_le (h : RT t p k) : k ≤ 12 := by
  have := RT_bc h k (Nat.le_refl _)
  have := bc_le (m := mskT t p k)
  omega
theorem RT_of : ∀ n, (∃ i, 1 ≤ i ∧ i ≤ n ∧ itT t p i = some p) → ∃ k, RT t p k := by
  intro n
  induction n with
  | zero => rintro ⟨i, h1, h2, -⟩; omega
  | succ n ih =>
    rintro ⟨i, h1, h2, h3⟩
    by_cases hx : ∃ i, 1 ≤ i ∧ i ≤ n ∧ itT t p i = some p
    · exact ih hx
    · have e : i = n + 1 := by
        by_cases e : i = n + 1
        · exact e
        · exact absurd ⟨i, h1, by omega, h3⟩ hx
      refine ⟨i, h1, h3, ?_⟩
      intro j hj1 hj2 hj3
      exact hx ⟨j, hj1, by omega, hj3⟩
def inR (t : Nat → Option Nat) (p : Nat) : Prop := ∃ k, RT t p k
theorem nR (h : ¬ inR t p) {i : Nat} (hi : 1 ≤ i) : itT t p i ≠ some p := fun e => h (RT_of i ⟨i, hi, Nat.le_refl _, e⟩)
theorem RT_uq {k' : Nat} (h : RT t p k) (h' : RT t p k') : k = k' := by
  rcases Nat.lt_trichotomy k k' with e | e | e
  · exact absurd h.2.1 (h'.2.2 k h.1 e)
  · exact e
  · exact absurd h'.2.1 (h.2.2 k' h'.1 e)
/-- who stands in a ring is in it himself -/
theorem RT_mem (h : RT t p k) {i w : Nat} (hi : i < k) (hw : itT t p i = some w) : inR t w ∧ ∃ i', i' < k ∧ itT t w i' = some p := by
  have e1 := it_add hw (k - i)
  rw [show i + (k - i) = k by omega, h.2.1] at e1
  have e2 := it_add e1.symm i
  rw [hw] at e2
  refine ⟨RT_of (k - i + i) ⟨k - i + i, by omega, Nat.le_refl _, e2⟩, ?_⟩
  by_cases e : i = 0
  · subst e
    cases hw
    exact ⟨0, by have := h.1; omega, rfl⟩
  · exact ⟨k - i, by omega, e1.symm⟩
/-- all that he comes to, he comes to in one round -/
theorem RT_mod (h : RT t p k) : ∀ n, ∃ i, i < k ∧ itT t p n = itT t p i := by
  intro n
  induction n with
  | zero => exact ⟨0, by have := h.1; omega, rfl⟩
  | succ n ih =>
    obtain ⟨i, hi, e⟩ := ih
    have es : itT t p (n + 1) = itT t p (i + 1) := by simp only [itT, e]
    by_cases e2 : i + 1 = k
    · exact ⟨0, by have := h.1; omega, by rw [es, e2, h.2.1]; rfl⟩
    · exact ⟨i + 1, by omega, es⟩
theorem RT_mask_lt (h : RT t p k) : ∀ j, j ≤ k → mskT t p j < 4096 := by
  intro j
  induction j with
  | zero => intro _; show 0 < 4096; decide
  | succ j ih =>
    intro hj
    obtain ⟨u, hu, e⟩ := RT_lt h (i := j) (by omega)
    rw [msk_s e]
    exact Nat.or_lt_two_pow (n := 12) (ih (by omega)) (sh_ok u hu).2.2
end FI1
