variable {scr : List Int32}
-- ===== situations packed =====
section RN
def at1 (o : Option Nat) : Nat := match o with
  | none => 0
  | some q => q + 1
theorem oI_1 (o : Option Nat) : oI o + 1 = nI (at1 o) := by
  cases o with
  | none => decide
  | some q => exact nI_1 q
theorem at1_inj {o o' : Option Nat} (h : at1 o = at1 o') : o = o' := by
  cases o <;> cases o' <;> simp_all [at1]
def nmF (a : Nat → Nat) (s : Nat) : Nat → Nat
  | 0 => 0
  | k + 1 => 256 * nmF a s k + a (s + k)
theorem nm_lt {a : Nat → Nat} (ha : ∀ i, a i < 256) {s : Nat} : ∀ k, nmF a s k < 256 ^ k := by
  intro k
  induction k with
  | zero => simp [nmF]
  | succ k ih =>
    simp only [nmF, Nat.pow_succ]
    have := ha (s + k)
    omega
theorem nm_inj {a b : Nat → Nat} (ha : ∀ i, a i < 256) (hb : ∀ i, b i < 256) {s : Nat} : ∀ k, nmF a s k = nmF b s k → ∀ i, i < k → a (s + i) = b (s + i) := by
  intro k
  induction k with
  | zero => intro _ i hi; omega
  | succ k ih =>
    intro h i hi
    simp only [nmF] at h
    have h1 := ha (s + k)
    have h2 := hb (s + k)
    by_cases e : i = k
    · subst e; omega
    · exact ih (by omega) i (by omega)
theorem nm_congr {a b : Nat → Nat} {s : Nat} : ∀ k, (∀ i, i < k → a (s + i) = b (s + i)) → nmF a s k = nmF b s k := by
  intro k
  induction k with
  | zero => intro _; rfl
  | succ k ih =>
    intro h
    simp only [nmF]
    rw [ih (fun i hi => h i (by omega)), h k (by omega)]
def lgN (n : Nat) : Int64 := Int64.ofBitVec (BitVec.ofNat 64 n)
theorem lgN_inj {a b : Nat} (ha : a < 2 ^ 64) (hb : b < 2 ^ 64) (h : lgN a = lgN b) : a = b := by
  have h1 := congrArg Int64.toBitVec h
  have h2 : BitVec.ofNat 64 a = BitVec.ofNat 64 b := h1
  have h3 := congrArg BitVec.toNat h2
  simp only [BitVec.toNat_ofNat] at h3
  rw [Nat.mod_eq_of_lt ha, Nat.mod_eq_of_lt hb] at h3
  exact h3
theorem toI64_nI : ∀ b, b < 256 → Int32.toInt64 (nI b) = lgN b := by decide +kernel
theorem sh8 {n b : Nat} (hb : b < 256) (hn : 256 * n + b < 2 ^ 64) : (((lgN n : Int64) <<< ((Int32.toInt64 8 &&& 63) : Int64) : Int64) ||| lgN b) = lgN (256 * n + b) := by
  have e8 : ((Int32.toInt64 8 &&& 63) : Int64) = 8 := by decide
  rw [e8]
  apply Int64.toBitVec_inj.mp
  rw [Int64.toBitVec_or, Int64.toBitVec_shiftLeft]
  have e : ((8 : Int64).toBitVec.smod 64) = 8#64 := by decide
  rw [e]
  show (BitVec.ofNat 64 n <<< 8) ||| BitVec.ofNat 64 b = BitVec.ofNat 64 (256 * n + b)
  apply BitVec.eq_of_toNat_eq
  rw [BitVec.toNat_or, BitVec.toNat_shiftLeft, BitVec.toNat_ofNat, BitVec.toNat_ofNat, BitVec.toNat_ofNat, Nat.mod_eq_of_lt (show n < 2 ^ 64 by omega), Nat.mod_eq_of_lt (show b < 2 ^ 64 by omega), Nat.mod_eq_of_lt hn, Nat.shiftLeft_eq, Nat.mod_eq_of_lt (show n * 2 ^ 8 < 2 ^ 64 by omega), ← Nat.shiftLeft_eq, ← Nat.shiftLeft_add_eq_or_of_lt (i := 8) hb n, Nat.shiftLeft_eq]
  omega
end RN
