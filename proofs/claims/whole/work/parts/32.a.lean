variable {scr : List Int32}
-- ===== the law's loop =====
section LP1
variable {f G f' G' : Nat → Nat → Int32} {J J' : Nat → Nat → Int64} {c : Value} {d : Nat} {T : Tp} {S : Sn} {Z : Lz} {I : Im}
theorem ro_S {k : Nat} (hk : k < scr.length) (h31 : scr.length < 2 ^ 31) {T : Int32 → Prop} {h : aH} : aI scr h 10003 (nI k) T = T (scr.getD k 0) := by
  unfold aI rdA cellAt
  have e1 : inb (nI k) scr.length = true := by rw [inb_nI (by omega)]; simpa using hk
  have e2 : (nI k).toNatClampNeg = k := nI_clamp (by omega)
  apply propext
  constructor
  · rintro ⟨v, hv, ht⟩
    have hv : (if 1 = 1 ∧ inb (nI k) scr.length = true then some (scr.getD (nI k).toNatClampNeg 0) else none) = some v := hv
    rw [if_pos ⟨rfl, e1⟩, e2] at hv
    cases hv
    exact ht
  · intro ht
    refine ⟨scr.getD k 0, ?_, ht⟩
    show (if 1 = 1 ∧ inb (nI k) scr.length = true then some (scr.getD (nI k).toNatClampNeg 0) else none) = some (scr.getD k 0)
    rw [if_pos ⟨rfl, e1⟩, e2]
theorem ro_SN {T : Nat → Prop} {h : aH} : aN scr h 10003 T = T scr.length := by
  unfold aN lenA cellAt
  apply propext
  constructor
  · rintro ⟨v, hv, ht⟩
    have hv : some scr.length = some v := hv
    cases hv
    exact ht
  · intro ht
    exact ⟨scr.length, rfl, ht⟩
def szL (p : Nat) (x : Nat ⊕ (Nat × List (Option Nat))) : Nat := match x with
  | .inl t => if t < 4 then ln p else (rwR t).length
  | .inr (_, fl) => fl.length
theorem szC_wo {p : Nat} {x : Nat ⊕ (Nat × List (Option Nat))} : szC (cellW f (fun q => rwN (ln q) (G q)) (fun q => rwN (ln q) (J q)) c p x) = szL p x := by
  match x with
  | .inl t =>
    unfold cellW szL
    dsimp only
    by_cases h2 : t = 2
    · rw [if_pos h2, if_pos (by omega)]
      exact rwN_len
    · rw [if_neg h2]
      by_cases h4 : t < 4
      · rw [if_pos h4, if_pos h4]
        exact rwN_len
      · rw [if_neg h4, if_neg h4]
        rfl
  | .inr (ci, fl) =>
    show (List.mapIdx _ fl).length = fl.length
    exact List.length_mapIdx
theorem slt_wo : slt (wo f G J c) = (LAY.mapIdx szL).sum := by
  unfold slt wo mk
  refine congrArg List.sum ?_
  apply List.ext_getElem?
  intro i
  rw [List.getElem?_map, List.getElem?_mapIdx, List.getElem?_mapIdx]
  cases LAY[i]? with
  | none => rfl
  | some x =>
    simp only [Option.map_some]
    rw [szC_wo]
theorem sz_all : (LAY.mapIdx szL).sum ≤ 7302250 := by decide +kernel
theorem len_wo : (wo f G J c).length = 167 := by
  unfold wo mk
  rw [List.length_mapIdx, LAY_len]
def KE : Option Value → aH → Prop := fun r h => r = some (.int 1) ∧ h.length ≤ 600000 ∧ slt h ≤ 7302250
theorem ke_wo : KE (some (.int 1)) (wo f G J c) := ⟨rfl, by rw [len_wo]; omega, by rw [slt_wo]; exact sz_all⟩
theorem m6_neg : ∀ n, n < 6 → nI n - 6 < 0 := by decide
theorem nI_p {i k : Nat} : nI i + nI k = nI (i + k) := nI_add i k
theorem lp_law (h30 : scr.length ≤ 3072) : ∀ u i f G J c T S Z I, scr.length - i = u → i ≤ 3072 → IC f G J T S Z I → IM f G T S Z I → WA T S Z I → E scr true 1000 237 18 [.ref 10003, .ref 0, .ref 125, .int (nI i)] [] (wo f G J c) KE := by
  intro u
  induction u using Nat.strongRecOn with
  | _ u ih =>
    intro i f G J c T S Z I hu hi hI hM hA
    rw [b237_18, ro_SN]
    by_cases hend : scr.length < i + 6
    · have : (Int32.ofNat scr.length - 6) < nI i := by
        show nI scr.length - 6 < nI i
        by_cases h6 : scr.length < 6
        · have a := m6_neg scr.length h6
          have b := nI_n9 (k := i) (by omega)
          exact Int32.lt_of_lt_of_le a b
        · have e : nI scr.length - 6 = nI (scr.length - 6) := pk_sub (b := 6) (by omega)
          rw [e]
          simp (disch := omega) only [NC]
          omega
      rw [if_pos this]
      exact ke_wo
    · have : ¬ (Int32.ofNat scr.length - 6) < nI i := by
        show ¬ nI scr.length - 6 < nI i
        have e : nI scr.length - 6 = nI (scr.length - 6) := pk_sub (b := 6) (by omega)
        rw [e]
        simp (disch := omega) only [NC]
        omega
      rw [if_neg this, ro_S (show i < scr.length by omega) (by omega)]
      have e1 : nI i + 1 = nI (i + 1) := nI_1 i
      have e2 : nI i + 2 = nI (i + 2) := nI_p (k := 2)
      have e3 : nI i + 3 = nI (i + 3) := nI_p (k := 3)
      have e4 : nI i + 4 = nI (i + 4) := nI_p (k := 4)
      have e5 : nI i + 5 = nI (i + 5) := nI_p (k := 5)
      have e6 : nI i + 6 = nI (i + 6) := nI_p (k := 6)
      have hC : NX (fun h => E scr true (999 + 1) 237 1037 [.ref 10003, .ref 0, .ref 125, .int (nI i)] [] h KE) := by
        intro f1 G1 J1 c1 T1 S1 Z1 I1 a1 a2 a3
        show E scr true (999 + 1) 237 1037 [.ref 10003, .ref 0, .ref 125, .int (nI i)] [] (wo f1 G1 J1 c1) KE
        rw [b237_1037, e6]
        exact ih (scr.length - (i + 6)) (by omega) (i + 6) f1 G1 J1 c1 T1 S1 Z1 I1 rfl (by omega) a1 a2 a3
      have r1 : ∀ {T : Int32 → Prop} {h : aH}, aI scr h 10003 (nI (i + 1)) T = T (scr.getD (i + 1) 0) := ro_S (by omega) (by omega)
      have r2 : ∀ {T : Int32 → Prop} {h : aH}, aI scr h 10003 (nI (i + 2)) T = T (scr.getD (i + 2) 0) := ro_S (by omega) (by omega)
      have r3 : ∀ {T : Int32 → Prop} {h : aH}, aI scr h 10003 (nI (i + 3)) T = T (scr.getD (i + 3) 0) := ro_S (by omega) (by omega)
      have r4 : ∀ {T : Int32 → Prop} {h : aH}, aI scr h 10003 (nI (i + 4)) T = T (scr.getD (i + 4) 0) := ro_S (by omega) (by omega)
      have r5 : ∀ {T : Int32 → Prop} {h : aH}, aI scr h 10003 (nI (i + 5)) T = T (scr.getD (i + 5) 0) := ro_S (by omega) (by omega)
      generalize scr.getD i 0 &&& 31 = w
      by_cases w0 : w = 0
      · rw [if_pos w0]
        have bb := b237_156 (scr := scr) 999 10003 0 125 (nI i) (wo f G J c) KE
        try simp only [e1, e2, e3, e4, e5, r1, r2, r3, r4, r5] at bb
        exact bb.mpr (op0 (scr := scr) (d := 979) hI hM hA hC)
      rw [if_neg w0]
      by_cases w1 : w = 1
      · rw [if_pos w1]
        have bb := b237_219 (scr := scr) 999 10003 0 125 (nI i) (wo f G J c) KE
        try simp only [e1, e2, e3, e4, e5, r1, r2, r3, r4, r5] at bb
        exact bb.mpr (op1 (scr := scr) (d := 979) hI hM hA hC)
      rw [if_neg w1]
      by_cases w2 : w = 2
      · rw [if_pos w2]
        have bb := b237_242 (scr := scr) 999 10003 0 125 (nI i) (wo f G J c) KE
        try simp only [e1, e2, e3, e4, e5, r1, r2, r3, r4, r5] at bb
        exact bb.mpr (op2 (scr := scr) (d := 979) hI hM hA hC)
      rw [if_neg w2]
      by_cases w3 : w = 3
      · rw [if_pos w3]
        have bb := b237_255 (scr := scr) 999 10003 0 125 (nI i) (wo f G J c) KE
        try simp only [e1, e2, e3, e4, e5, r1, r2, r3, r4, r5] at bb
        exact bb.mpr (op3 (scr := scr) (d := 959) hI hM hA hC)
      rw [if_neg w3]
      by_cases w4 : w = 4
      · rw [if_pos w4]
        have bb := b237_268 (scr := scr) 999 10003 0 125 (nI i) (wo f G J c) KE
        try simp only [e1, e2, e3, e4, e5, r1, r2, r3, r4, r5] at bb
        exact bb.mpr (op4 (scr := scr) (d := 979) hI hM hA hC)
      rw [if_neg w4]
      by_cases w5 : w = 5
      · rw [if_pos w5]
        have bb := b237_301 (scr := scr) 999 10003 0 125 (nI i) (wo f G J c) KE
        try simp only [e1, e2, e3, e4, e5, r1, r2, r3, r4, r5] at bb
        exact bb.mpr (op5 (scr := scr) (d := 979) hI hM hA hC)
      rw [if_neg w5]
      by_cases w6 : w = 6
      · rw [if_pos w6]
        have bb := b237_334 (scr := scr) 999 10003 0 125 (nI i) (wo f G J c) KE
        try simp only [e1, e2, e3, e4, e5, r1, r2, r3, r4, r5] at bb
        exact bb.mpr (op6 (scr := scr) (d := 979) hI hM hA hC)
      rw [if_neg w6]
      by_cases w7 : w = 7
      · rw [if_pos w7]
        have bb := b237_377 (scr := scr) 999 10003 0 125 (nI i) (wo f G J c) KE
        try simp only [e1, e2, e3, e4, e5, r1, r2, r3, r4, r5] at bb
        exact bb.mpr (op7 (scr := scr) (d := 979) hI hM hA hC)
      rw [if_neg w7]
      by_cases w8 : w = 8
      · rw [if_pos w8]
        have bb := b237_400 (scr := scr) 999 10003 0 125 (nI i) (wo f G J c) KE
        try simp only [e1, e2, e3, e4, e5, r1, r2, r3, r4, r5] at bb
        exact bb.mpr (op8 (scr := scr) (d := 979) hI hM hA hC)
      rw [if_neg w8]
      by_cases w9 : w = 9
      · rw [if_pos w9]
        have bb := b237_433 (scr := scr) 999 10003 0 125 (nI i) (wo f G J c) KE
        try simp only [e1, e2, e3, e4, e5, r1, r2, r3, r4, r5] at bb
        exact bb.mpr (op9 (scr := scr) (d := 979) hI hM hA hC)
      rw [if_neg w9]
      by_cases w10 : w = 10
      · rw [if_pos w10]
        have bb := b237_466 (scr := scr) 999 10003 0 125 (nI i) (wo f G J c) KE
        try simp only [e1, e2, e3, e4, e5, r1, r2, r3, r4, r5] at bb
        exact bb.mpr (op10 (scr := scr) (d := 979) hI hM hA hC)
      rw [if_neg w10]
      by_cases w11 : w = 11
      · rw [if_pos w11]
        have bb := b237_499 (scr := scr) 999 10003 0 125 (nI i) (wo f G J c) KE
        try simp only [e1, e2, e3, e4, e5, r1, r2, r3, r4, r5] at bb
        exact bb.mpr (op11 (scr := scr) (d := 979) hI hM hA hC)
      rw [if_neg w11]
      by_cases w12 : w = 12
      · rw [if_pos w12]
        have bb := b237_532 (scr := scr) 999 10003 0 125 (nI i) (wo f G J c) KE
        try simp only [e1, e2, e3, e4, e5, r1, r2, r3, r4, r5] at bb
        exact bb.mpr (op12 (scr := scr) (d := 979) hI hM hA hC)
      rw [if_neg w12]
      by_cases w13 : w = 13
      · rw [if_pos w13]
        have bb := b237_575 (scr := scr) 999 10003 0 125 (nI i) (wo f G J c) KE
        try simp only [e1, e2, e3, e4, e5, r1, r2, r3, r4, r5] at bb
        exact bb.mpr (op13 (scr := scr) (d := 979) hI hM hA hC)
      rw [if_neg w13]
      by_cases w14 : w = 14
      · rw [if_pos w14]
        have bb := b237_608 (scr := scr) 999 10003 0 125 (nI i) (wo f G J c) KE
        try simp only [e1, e2, e3, e4, e5, r1, r2, r3, r4, r5] at bb
        exact bb.mpr (op14 (scr := scr) (d := 979) hI hM hA hC)
      rw [if_neg w14]
      by_cases w15 : w = 15
      · rw [if_pos w15]
        have bb := b237_641 (scr := scr) 999 10003 0 125 (nI i) (wo f G J c) KE
        try simp only [e1, e2, e3, e4, e5, r1, r2, r3, r4, r5] at bb
        exact bb.mpr (op15 (scr := scr) (d := 979) hI hM hA hC)
      rw [if_neg w15]
      by_cases w16 : w = 16
      · rw [if_pos w16]
        have bb := b237_684 (scr := scr) 999 10003 0 125 (nI i) (wo f G J c) KE
        try simp only [e1, e2, e3, e4, e5, r1, r2, r3, r4, r5] at bb
        exact bb.mpr (op16 (scr := scr) (d := 979) hI hM hA hC)
      rw [if_neg w16]
      by_cases w17 : w = 17
      · rw [if_pos w17]
        have bb := b237_727 (scr := scr) 999 10003 0 125 (nI i) (wo f G J c) KE
        try simp only [e1, e2, e3, e4, e5, r1, r2, r3, r4, r5] at bb
        exact bb.mpr (op17 (scr := scr) (d := 979) hI hM hA hC)
      rw [if_neg w17]
      by_cases w18 : w = 18
      · rw [if_pos w18]
        have bb := b237_770 (scr := scr) 999 10003 0 125 (nI i) (wo f G J c) KE
        try simp only [e1, e2, e3, e4, e5, r1, r2, r3, r4, r5] at bb
        exact bb.mpr (op18 (scr := scr) (d := 979) hI hM hA hC)
      rw [if_neg w18]
      by_cases w19 : w = 19
      · rw [if_pos w19]
        have bb := b237_823 (scr := scr) 999 10003 0 125 (nI i) (wo f G J c) KE
        try simp only [e1, e2, e3, e4, e5, r1, r2, r3, r4, r5] at bb
        exact bb.mpr (op19 (scr := scr) (d := 979) hI hM hA hC)
      rw [if_neg w19]
      by_cases w20 : w = 20
      · rw [if_pos w20]
        have bb := b237_856 (scr := scr) 999 10003 0 125 (nI i) (wo f G J c) KE
        try simp only [e1, e2, e3, e4, e5, r1, r2, r3, r4, r5] at bb
        exact bb.mpr (op20 (scr := scr) (d := 979) hI hM hA hC)
      rw [if_neg w20]
      by_cases w21 : w = 21
      · rw [if_pos w21]
        have bb := b237_879 (scr := scr) 999 10003 0 125 (nI i) (wo f G J c) KE
        try simp only [e1, e2, e3, e4, e5, r1, r2, r3, r4, r5] at bb
        exact bb.mpr (op21 (scr := scr) (d := 979) hI hM hA hC)
      rw [if_neg w21]
      by_cases w22 : w = 22
      · rw [if_pos w22]
        have bb := b237_922 (scr := scr) 999 10003 0 125 (nI i) (wo f G J c) KE
        try simp only [e1, e2, e3, e4, e5, r1, r2, r3, r4, r5] at bb
        exact bb.mpr (op22 (scr := scr) (d := 979) hI hM hA hC)
      rw [if_neg w22]
      by_cases w23 : w = 23
      · rw [if_pos w23]
        have bb := b237_945 (scr := scr) 999 10003 0 125 (nI i) (wo f G J c) KE
        try simp only [e1, e2, e3, e4, e5, r1, r2, r3, r4, r5] at bb
        exact bb.mpr (op23 (scr := scr) (d := 979) hI hM hA hC)
      rw [if_neg w23]
      by_cases w24 : w = 24
      · rw [if_pos w24]
        have bb := b237_968 (scr := scr) 999 10003 0 125 (nI i) (wo f G J c) KE
        try simp only [e1, e2, e3, e4, e5, r1, r2, r3, r4, r5] at bb
        exact bb.mpr (op24 (scr := scr) (d := 979) hI hM hA hC)
      rw [if_neg w24]
      by_cases w25 : w = 25
      · rw [if_pos w25]
        have bb := b237_991 (scr := scr) 999 10003 0 125 (nI i) (wo f G J c) KE
        try simp only [e1, e2, e3, e4, e5, r1, r2, r3, r4, r5] at bb
        exact bb.mpr (op25 (scr := scr) (d := 979) hI hM hA hC)
      rw [if_neg w25]
      by_cases w26 : w = 26
      · rw [if_pos w26]
        have bb := b237_1014 (scr := scr) 999 10003 0 125 (nI i) (wo f G J c) KE
        try simp only [e1, e2, e3, e4, e5, r1, r2, r3, r4, r5] at bb
        exact bb.mpr (op26 (scr := scr) (d := 979) hI hM hA hC)
      rw [if_neg w26]
      exact hC f G J c T S Z I hI hM hA
end LP1
