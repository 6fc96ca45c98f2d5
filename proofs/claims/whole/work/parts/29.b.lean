variable {scr : List Int32}
-- ===== whatever comes in: a number from 0 on, or far away =====
section TQ
def dc (x : Int32) : Nat := if x < 0 then 2147483648 else x.toNatClampNeg
theorem dc_n {x : Int32} (h : x < 0) : dc x = 2147483648 := by simp [dc, h]
theorem dc_I {k : Nat} (h : k < 2 ^ 31) : dc (nI k) = k := by simp [dc, nI_pos h, nI_clamp h]
theorem dc_c (x : Int32) : x < 0 ∨ ∃ k, k < 2 ^ 31 ∧ x = nI k := by
  by_cases h : x < 0
  · exact Or.inl h
  · exact Or.inr (nI_of h)
theorem dc_of {x : Int32} {n : Nat} (h : dc x ≤ n) (hn : n < 2 ^ 31) : x = nI (dc x) := by
  rcases dc_c x with hx | ⟨k, hk, rfl⟩
  · rw [dc_n hx] at h; omega
  · rw [dc_I hk]
theorem DC (x : Int32) : (x < 0) = (dc x = 2147483648) ∧ (0 ≤ x) = (dc x < 2147483648) ∧ (x < 1) = (dc x = 2147483648 ∨ dc x = 0) ∧ (1 ≤ x) = (1 ≤ dc x ∧ dc x < 2147483648) ∧ (x = 0) = (dc x = 0) ∧ (x = 1) = (dc x = 1) ∧ (x ≤ 1) = (dc x ≤ 1 ∨ dc x = 2147483648) ∧ (x = -1 → dc x = 2147483648) ∧ dc x ≤ 2147483648 := by
  rcases dc_c x with hx | ⟨k, hk, rfl⟩
  · have h := NG hx
    rw [dc_n hx]
    simp only [h]
    simp
  · rw [dc_I hk]
    simp (disch := omega) only [NC]
    simp
    omega
theorem DK (x : Int32) {n : Nat} (hn : n < 2 ^ 31) : (nI n < x) = (n < dc x ∧ dc x < 2147483648) ∧ (x ≤ nI n) = (dc x ≤ n ∨ dc x = 2147483648) ∧ (nI n ≤ x) = (n ≤ dc x ∧ dc x < 2147483648) ∧ (x < nI n) = (dc x < n ∨ dc x = 2147483648) ∧ (x = nI n) = (dc x = n) := by
  rcases dc_c x with hx | ⟨k, hk, rfl⟩
  · have h := NG hx
    rw [dc_n hx]
    have e1 : (x < nI n) = True := eq_true (Int32.lt_of_lt_of_le hx (nI_pos' hn))
    simp (disch := omega) only [h, e1]
    simp
    omega
  · rw [dc_I hk]
    simp (disch := omega) only [NC]
    simp
    omega
theorem btw_dc (x : Int32) {a b : Nat} (ha : a < 2 ^ 31) (hb : b < 2 ^ 31) : btw x (nI a) (nI b) = decide (a ≤ dc x ∧ dc x ≤ b) := by
  unfold btw
  rw [Bool.eq_iff_iff]
  simp only [(DK x ha).2.2.2.1, (DK x hb).1]
  have := (DC x).2.2.2.2.2.2.2.2
  simp
  omega
theorem s121 {d : Nat} {x : Int32} {h : aH} {K : Int32 → aH → Prop} :
    (sI scr d 121 [.long x.toInt64, .long 0, .long 1] h K = K (bz (decide (dc x ≤ 1))) h) ∧ (sI scr d 121 [.long x.toInt64, .long 0, .long 2] h K = K (bz (decide (dc x ≤ 2))) h) ∧ (sI scr d 121 [.long x.toInt64, .long 0, .long 3] h K = K (bz (decide (dc x ≤ 3))) h) ∧ (sI scr d 121 [.long x.toInt64, .long 0, .long 7] h K = K (bz (decide (dc x ≤ 7))) h) ∧ (sI scr d 121 [.long x.toInt64, .long 0, .long 12] h K = K (bz (decide (dc x ≤ 12))) h) ∧ (sI scr d 121 [.long x.toInt64, .long 0, .long 200] h K = K (bz (decide (dc x ≤ 200))) h) ∧ (sI scr d 121 [.long x.toInt64, .long 1, .long 200] h K = K (bz (decide (1 ≤ dc x ∧ dc x ≤ 200))) h) := by
  have e : ∀ b, b < 2 ^ 31 → btw x (nI 0) (nI b) = decide (dc x ≤ b) := fun b hb => by rw [btw_dc x (by decide) hb]; simp
  refine ⟨?_, ?_, ?_, ?_, ?_, ?_, ?_⟩
  · rw [← e 1 (by decide)]; exact sp121 (lo := 0) (hi := 1)
  · rw [← e 2 (by decide)]; exact sp121 (lo := 0) (hi := 2)
  · rw [← e 3 (by decide)]; exact sp121 (lo := 0) (hi := 3)
  · rw [← e 7 (by decide)]; exact sp121 (lo := 0) (hi := 7)
  · rw [← e 12 (by decide)]; exact sp121 (lo := 0) (hi := 12)
  · rw [← e 200 (by decide)]; exact sp121 (lo := 0) (hi := 200)
  · rw [← btw_dc x (a := 1) (b := 200) (by decide) (by decide)]; exact sp121 (lo := 1) (hi := 200)
variable {f G f' G' : Nat → Nat → Int32} {J J' : Nat → Nat → Int64} {c : Value} {d : Nat} {T : Tp} {S : Sn} {Z : Lz} {I : Im} {P : Pn} {D : Dy}
theorem pB_dc (hP : wfP P) {x : Int32} : pB (nI (pPe P)) x = decide (dc x < pPe P) := by
  have p12 := hP.2.2.2.1
  have h0 := (DC x)
  have h1 := DK x (n := pPe P) (by omega)
  have h2 := DK x (n := 12) (by decide)
  unfold pB
  rw [show (12 : Int32) = nI 12 from rfl, Bool.eq_iff_iff]
  simp only [h0.1, h1.2.2.1, h2.2.2.1]
  have := h0.2.2.2.2.2.2.2.2
  simp
  omega
theorem c53 (hP : wfP P) (hs : RS f G 3 P) {x : Int32} {K : Int32 → aH → Prop} : vI scr d 53 [.ref 3, .int x] (wo f G J c) K = K (bz (decide (dc x < pPe P))) (wo f G J c) := by
  unfold wo
  rw [sp53 isS3, hs.1.2.2.2.1, pB_dc hP]
theorem hB_dc (hP : wfP P) {x : Int32} : hB (nI (pHe P)) x = decide (dc x < pHe P) := by
  have p2 := hP.2.2.2.2.1
  have h0 := (DC x)
  have h1 := DK x (n := pHe P) (by omega)
  have h2 := DK x (n := 2) (by decide)
  unfold hB
  rw [show (2 : Int32) = nI 2 from rfl, Bool.eq_iff_iff]
  simp only [h0.1, h1.2.2.1, h2.2.2.1]
  have := h0.2.2.2.2.2.2.2.2
  simp
  omega
theorem c54 (hP : wfP P) (hs : RS f G 3 P) {x : Int32} {K : Int32 → aH → Prop} : vI scr d 54 [.ref 3, .int x] (wo f G J c) K = K (bz (decide (dc x < pHe P))) (wo f G J c) := by
  unfold wo
  rw [sp54 isS3, hs.1.2.2.2.2, hB_dc hP]
theorem any_dc (hP : wfP P) {x : Int32} : anyB (nI (pPe P)) (nI (pHe P)) x = exB P (dc x) := by
  have p12 := hP.2.2.2.1
  have p2 := hP.2.2.2.2.1
  unfold anyB exB
  rw [pB_dc hP, hB_dc hP]
  congr 1
  rcases dc_c x with hx | ⟨k, hk, rfl⟩
  · rw [dc_n hx]
    have : x < 12 := Int32.lt_of_lt_of_le hx (by decide)
    simp [this]
    omega
  · rw [dc_I hk]
    by_cases h12 : k < 12
    · have : nI k < 12 := nI_lt (b := 12) h12 (by decide)
      simp [this]
      omega
    · have h1 : ¬ nI k < 12 := nI_nlt (b := 12) (by omega) hk
      rw [show nI k - 12 = nI (k - 12) from pk_sub (b := 12) (by omega), dc_I (by omega)]
      rw [Bool.eq_iff_iff]
      simp [h1]
      omega
theorem c55 (hP : wfP P) (hs : RS f G 3 P) {x : Int32} {K : Int32 → aH → Prop} : vI scr (d + 1) 55 [.ref 3, .int x] (wo f G J c) K = K (bz (exB P (dc x))) (wo f G J c) := by
  unfold wo
  rw [sp55 isS3, hs.1.2.2.2.1, hs.1.2.2.2.2, any_dc hP]
theorem cB_dc (hP : wfP P) {x y : Int32} : cB (nI (pCo P)) (nI (pRo P)) x y = ceB P (dc x) (dc y) := by
  have p12 := hP.1
  have p13 := hP.2.1
  have h0 := (DC x)
  have h1 := DK x (n := pCo P) (by omega)
  have h2 := DK x (n := 12) (by decide)
  have k0 := (DC y)
  have k1 := DK y (n := pRo P) (by omega)
  have k2 := DK y (n := 12) (by decide)
  unfold cB ceB
  rw [show (12 : Int32) = nI 12 from rfl, Bool.eq_iff_iff]
  simp only [h0.1, h1.2.2.1, h2.2.2.1, k0.1, k1.2.2.1, k2.2.2.1]
  have := h0.2.2.2.2.2.2.2.2
  have := k0.2.2.2.2.2.2.2.2
  simp
  omega
theorem c56 (hP : wfP P) (hs : RS f G 3 P) {x y : Int32} {K : Int32 → aH → Prop} : vI scr d 56 [.ref 3, .int x, .int y] (wo f G J c) K = K (bz (ceB P (dc x) (dc y))) (wo f G J c) := by
  unfold wo
  rw [sp56 isS3, hs.1.1, hs.1.2.1, cB_dc hP]
theorem c119 (hI : IC f G J T S Z I) (hA : WA T S Z I) {x : Int32} {K : Int32 → aH → Prop} : vI scr d 119 [.ref 0, .int x] (wo f G J c) K = K (bz (decide (0 < pRo S.1 ∧ dc x < Z.1))) (wo f G J c) := by
  have hz := hA.2.2.1.1
  have hr := hA.2.1.1.2.1
  have e1 := hI.2.1.1.1.2.1
  have e2 := hI.2.2.1.1
  have h0 := (DC x)
  have h1 := DK x (n := Z.1) (by omega)
  have h2 := DK x (n := 6) (by decide)
  unfold wo
  rw [sp119]
  congr 2
  unfold cwB
  rw [e1, e2, show (6 : Int32) = nI 6 from rfl, Bool.eq_iff_iff]
  simp (disch := omega) only [h0.1, h1.2.2.1, h2.2.2.1, NC]
  have := h0.2.2.2.2.2.2.2.2
  simp
  omega
theorem m124' (hA : WA T S Z I) (hM : IM f G T S Z I) {K : Int32 → aH → Prop} : vI scr d 124 [.ref 125] (wo f G J c) K = K (bz (decide (0 < pRo S.1))) (wo f G J c) := by
  rw [m124 hA.2.1.1 hM.2.1.1]
  have := hA.2.1.1.2.2.1
  congr 2
  rw [decide_eq_decide]
  omega
theorem m172 (hA : WA T S Z I) (hM : IM f G T S Z I) {x : Int32} {K : Int32 → aH → Prop} : vI scr (d + 1) 172 [.ref 125, .int x] (wo f G J c) K = K (bz (decide (dc x < Z.1))) (wo f G J c) := by
  have hz := hA.2.2.1.1
  unfold wo
  rw [sp172]
  unfold lwB
  rw [hM.2.2.1.1, btw_in (by omega)]
  congr 2
  unfold inN
  have h0 := (DC x)
  have h1 := DK x (n := Z.1) (by omega)
  rw [Bool.eq_iff_iff]
  simp only [h0.1, h1.2.2.1]
  have := h0.2.2.2.2.2.2.2.2
  simp
  omega
theorem m185 (hP : wfP P) (hm : MS G P) {x : Int32} {K : Int32 → aH → Prop} : vI scr (d + 1) 185 [.ref 125, .int x] (wo f G J c) K = K (bz (decide (dc x < pHe P))) (wo f G J c) := by
  have p2 := hP.2.2.2.2.1
  unfold wo
  rw [sp185 (n126 (G := G))]
  unfold hBm
  rw [l126.2.2.2, hm.1.2.2.2, btw_in (by omega)]
  congr 2
  unfold inN
  have h0 := (DC x)
  have h1 := DK x (n := pHe P) (by omega)
  rw [Bool.eq_iff_iff]
  simp only [h0.1, h1.2.2.1]
  have := h0.2.2.2.2.2.2.2.2
  simp
  omega
theorem m127' (hP : wfP P) (hm : MS G P) {x : Int32} {K : Int32 → aH → Prop} : vI scr (d + 1) 127 [.ref 125, .int x] (wo f G J c) K = K (bz (decide (dc x < pPe P))) (wo f G J c) := by
  have p2 := hP.2.2.2.1
  unfold wo
  rw [sp127 (n126 (G := G))]
  unfold pBm
  rw [l126.2.2.1, hm.1.2.2.1, btw_in (by omega)]
  congr 2
  unfold inN
  have h0 := (DC x)
  have h1 := DK x (n := pPe P) (by omega)
  rw [Bool.eq_iff_iff]
  simp only [h0.1, h1.2.2.1]
  have := h0.2.2.2.2.2.2.2.2
  simp
  omega
theorem m128' (hP : wfP P) (hm : MS G P) {x : Int32} {K : Int32 → aH → Prop} : vI scr (d + 2) 128 [.ref 125, .int x] (wo f G J c) K = K (bz (exB P (dc x))) (wo f G J c) := by
  have p2 := hP.2.2.2.2.1
  have p12 := hP.2.2.2.1
  rcases dc_c x with hx | ⟨k, hk, rfl⟩
  · unfold wo
    rw [sp128 (n126 (G := G)), dc_n hx]
    have e : exB P 2147483648 = false := by
      unfold exB
      simp
      omega
    rw [e]
    congr 2
    have hx12 : x < 12 := Int32.lt_of_lt_of_le hx (by decide)
    unfold whB pBm btw
    simp [hx, hx12]
  · rw [m128 hP hm hk, dc_I hk]
theorem m125' (hP : wfP P) (hm : MS G P) {x y : Int32} {K : Int32 → aH → Prop} : vI scr (d + 1) 125 [.ref 125, .int x, .int y] (wo f G J c) K = K (bz (ceB P (dc x) (dc y))) (wo f G J c) := by
  have c12 := hP.1
  have r12 := hP.2.1
  rcases dc_c x with hx | ⟨k, hk, rfl⟩
  · unfold wo
    rw [sp125 (n126 (G := G)), dc_n hx]
    have e : ceB P 2147483648 (dc y) = false := by
      unfold ceB
      simp
      omega
    rw [e]
    congr 2
    unfold cBm btw
    simp [hx]
  · rcases dc_c y with hy | ⟨m, hm2, rfl⟩
    · unfold wo
      rw [sp125 (n126 (G := G)), dc_n hy]
      have e : ceB P (dc (nI k)) 2147483648 = false := by
        unfold ceB
        simp
        omega
      rw [e]
      congr 2
      unfold cBm btw
      simp [hy]
    · rw [m125 hP hm hk hm2, dc_I hk, dc_I hm2]
theorem m195 (hA : WA T S Z I) (hM : IM f G T S Z I) {x y : Int32} {K : Int32 → aH → Prop} : vI scr (d + 2) 195 [.ref 125, .int x, .int y] (wo f G J c) K = K (bz (decide ((0 < pRo S.1 ∧ dc x < Z.1) ∧ dc y ≤ 200))) (wo f G J c) := by
  unfold vI
  rw [u195_ok, en195, b195_0]
  simp only [m124' hA hM, m172 hA hM, s121, bz_0, ex_i, true_and, decide_eq_false_iff_not]
  by_cases h1 : 0 < pRo S.1 <;> by_cases h2 : dc x < Z.1 <;> by_cases h3 : dc y ≤ 200 <;> simp [h1, h2, h3, bz]
end TQ
