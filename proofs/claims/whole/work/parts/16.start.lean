-- ===== the start: what stands outside, out of the Statement's premises =====
def txT : List String := ["row person herald", "stand follow", "if", "not", "x y age sort seen near gate beside elder", "and or", "row", "person", "herald", "follow", "stand", "if", "not", "x", "y", "age", "sort", "seen", "near", "gate", "beside", "elder", "and", "or"]
def FLn : List Jvm.Cond := flatC (Jvm.Cond.and given_1 narrow_1)
def stTm (j : Nat) : Jvm.Term := .static (stCl j) (stNm j) (stDs j)
def srTm (i : Nat) : Jvm.Term := .string (cN ((srT.getD i (0, 0, 0)).1)) (srT.getD i (0, 0, 0)).2.1
theorem sr_ok : ∀ q ∈ srT, srTm q.2.2 = .string (cN q.1) q.2.1 ∧ q.2.2 < 24 ∧ Cond.stringRef (cN q.1) q.2.1 (txT.getD q.2.2 "") ∈ lw_tbl := by decide +kernel
theorem st_ok : ∀ j, j < 5 → Cond.laysStatic (stCl j) (stNm j) (stDs j) ∈ lw_tbl ∧ Cond.initialized (stCl j) ∈ lw_tbl := by decide +kernel
theorem st_arr : ∀ j, j < 3 → Cond.arrayOf (stTm j) .int ∈ FLn ∧ Cond.eq (.length (stTm j)) (.int (Int32.ofNat (roSta.getD j []).length)) ∈ FLn ∧ ∀ k, k < (roSta.getD j []).length → Cond.eq (.elem (stTm j) (.int (Int32.ofNat k))) (.int ((roSta.getD j []).getD k 0)) ∈ FLn := by decide +kernel
theorem st_34 : Cond.eq (stTm 3) (.int 1) ∈ FLn ∧ Cond.isRef (stTm 4) ∈ FLn := by decide +kernel
theorem sr_c0 : (Cond.exactly (srTm 0) "java/lang/String" ∈ FLn ∧ Cond.eq (.field (srTm 0) "java/lang/String" "coder" "B") (.int 0) ∈ FLn) ∧ (Cond.arrayOf (.field (srTm 0) "java/lang/String" "value" "[B") .byte ∈ FLn ∧ Cond.eq (.length (.field (srTm 0) "java/lang/String" "value" "[B")) (.int (Int32.ofNat (roStr.getD 0 []).length)) ∈ FLn) ∧ ∀ k, k < (roStr.getD 0 []).length → Cond.eq (.elem (.field (srTm 0) "java/lang/String" "value" "[B") (.int (Int32.ofNat k))) (.int ((roStr.getD 0 []).getD k 0)) ∈ FLn := by decide +kernel
theorem sr_c1 : (Cond.exactly (srTm 1) "java/lang/String" ∈ FLn ∧ Cond.eq (.field (srTm 1) "java/lang/String" "coder" "B") (.int 0) ∈ FLn) ∧ (Cond.arrayOf (.field (srTm 1) "java/lang/String" "value" "[B") .byte ∈ FLn ∧ Cond.eq (.length (.field (srTm 1) "java/lang/String" "value" "[B")) (.int (Int32.ofNat (roStr.getD 1 []).length)) ∈ FLn) ∧ ∀ k, k < (roStr.getD 1 []).length → Cond.eq (.elem (.field (srTm 1) "java/lang/String" "value" "[B") (.int (Int32.ofNat k))) (.int ((roStr.getD 1 []).getD k 0)) ∈ FLn := by decide +kernel
theorem sr_c2 : (Cond.exactly (srTm 2) "java/lang/String" ∈ FLn ∧ Cond.eq (.field (srTm 2) "java/lang/String" "coder" "B") (.int 0) ∈ FLn) ∧ (Cond.arrayOf (.field (srTm 2) "java/lang/String" "value" "[B") .byte ∈ FLn ∧ Cond.eq (.length (.field (srTm 2) "java/lang/String" "value" "[B")) (.int (Int32.ofNat (roStr.getD 2 []).length)) ∈ FLn) ∧ ∀ k, k < (roStr.getD 2 []).length → Cond.eq (.elem (.field (srTm 2) "java/lang/String" "value" "[B") (.int (Int32.ofNat k))) (.int ((roStr.getD 2 []).getD k 0)) ∈ FLn := by decide +kernel
theorem sr_c3 : (Cond.exactly (srTm 3) "java/lang/String" ∈ FLn ∧ Cond.eq (.field (srTm 3) "java/lang/String" "coder" "B") (.int 0) ∈ FLn) ∧ (Cond.arrayOf (.field (srTm 3) "java/lang/String" "value" "[B") .byte ∈ FLn ∧ Cond.eq (.length (.field (srTm 3) "java/lang/String" "value" "[B")) (.int (Int32.ofNat (roStr.getD 3 []).length)) ∈ FLn) ∧ ∀ k, k < (roStr.getD 3 []).length → Cond.eq (.elem (.field (srTm 3) "java/lang/String" "value" "[B") (.int (Int32.ofNat k))) (.int ((roStr.getD 3 []).getD k 0)) ∈ FLn := by decide +kernel
theorem sr_c4 : (Cond.exactly (srTm 4) "java/lang/String" ∈ FLn ∧ Cond.eq (.field (srTm 4) "java/lang/String" "coder" "B") (.int 0) ∈ FLn) ∧ (Cond.arrayOf (.field (srTm 4) "java/lang/String" "value" "[B") .byte ∈ FLn ∧ Cond.eq (.length (.field (srTm 4) "java/lang/String" "value" "[B")) (.int (Int32.ofNat (roStr.getD 4 []).length)) ∈ FLn) ∧ ∀ k, k < (roStr.getD 4 []).length → Cond.eq (.elem (.field (srTm 4) "java/lang/String" "value" "[B") (.int (Int32.ofNat k))) (.int ((roStr.getD 4 []).getD k 0)) ∈ FLn := by decide +kernel
theorem sr_c5 : (Cond.exactly (srTm 5) "java/lang/String" ∈ FLn ∧ Cond.eq (.field (srTm 5) "java/lang/String" "coder" "B") (.int 0) ∈ FLn) ∧ (Cond.arrayOf (.field (srTm 5) "java/lang/String" "value" "[B") .byte ∈ FLn ∧ Cond.eq (.length (.field (srTm 5) "java/lang/String" "value" "[B")) (.int (Int32.ofNat (roStr.getD 5 []).length)) ∈ FLn) ∧ ∀ k, k < (roStr.getD 5 []).length → Cond.eq (.elem (.field (srTm 5) "java/lang/String" "value" "[B") (.int (Int32.ofNat k))) (.int ((roStr.getD 5 []).getD k 0)) ∈ FLn := by decide +kernel
theorem sr_c6 : (Cond.exactly (srTm 6) "java/lang/String" ∈ FLn ∧ Cond.eq (.field (srTm 6) "java/lang/String" "coder" "B") (.int 0) ∈ FLn) ∧ (Cond.arrayOf (.field (srTm 6) "java/lang/String" "value" "[B") .byte ∈ FLn ∧ Cond.eq (.length (.field (srTm 6) "java/lang/String" "value" "[B")) (.int (Int32.ofNat (roStr.getD 6 []).length)) ∈ FLn) ∧ ∀ k, k < (roStr.getD 6 []).length → Cond.eq (.elem (.field (srTm 6) "java/lang/String" "value" "[B") (.int (Int32.ofNat k))) (.int ((roStr.getD 6 []).getD k 0)) ∈ FLn := by decide +kernel
theorem sr_c7 : (Cond.exactly (srTm 7) "java/lang/String" ∈ FLn ∧ Cond.eq (.field (srTm 7) "java/lang/String" "coder" "B") (.int 0) ∈ FLn) ∧ (Cond.arrayOf (.field (srTm 7) "java/lang/String" "value" "[B") .byte ∈ FLn ∧ Cond.eq (.length (.field (srTm 7) "java/lang/String" "value" "[B")) (.int (Int32.ofNat (roStr.getD 7 []).length)) ∈ FLn) ∧ ∀ k, k < (roStr.getD 7 []).length → Cond.eq (.elem (.field (srTm 7) "java/lang/String" "value" "[B") (.int (Int32.ofNat k))) (.int ((roStr.getD 7 []).getD k 0)) ∈ FLn := by decide +kernel
theorem sr_c8 : (Cond.exactly (srTm 8) "java/lang/String" ∈ FLn ∧ Cond.eq (.field (srTm 8) "java/lang/String" "coder" "B") (.int 0) ∈ FLn) ∧ (Cond.arrayOf (.field (srTm 8) "java/lang/String" "value" "[B") .byte ∈ FLn ∧ Cond.eq (.length (.field (srTm 8) "java/lang/String" "value" "[B")) (.int (Int32.ofNat (roStr.getD 8 []).length)) ∈ FLn) ∧ ∀ k, k < (roStr.getD 8 []).length → Cond.eq (.elem (.field (srTm 8) "java/lang/String" "value" "[B") (.int (Int32.ofNat k))) (.int ((roStr.getD 8 []).getD k 0)) ∈ FLn := by decide +kernel
theorem sr_c9 : (Cond.exactly (srTm 9) "java/lang/String" ∈ FLn ∧ Cond.eq (.field (srTm 9) "java/lang/String" "coder" "B") (.int 0) ∈ FLn) ∧ (Cond.arrayOf (.field (srTm 9) "java/lang/String" "value" "[B") .byte ∈ FLn ∧ Cond.eq (.length (.field (srTm 9) "java/lang/String" "value" "[B")) (.int (Int32.ofNat (roStr.getD 9 []).length)) ∈ FLn) ∧ ∀ k, k < (roStr.getD 9 []).length → Cond.eq (.elem (.field (srTm 9) "java/lang/String" "value" "[B") (.int (Int32.ofNat k))) (.int ((roStr.getD 9 []).getD k 0)) ∈ FLn := by decide +kernel
theorem sr_c10 : (Cond.exactly (srTm 10) "java/lang/String" ∈ FLn ∧ Cond.eq (.field (srTm 10) "java/lang/String" "coder" "B") (.int 0) ∈ FLn) ∧ (Cond.arrayOf (.field (srTm 10) "java/lang/String" "value" "[B") .byte ∈ FLn ∧ Cond.eq (.length (.field (srTm 10) "java/lang/String" "value" "[B")) (.int (Int32.ofNat (roStr.getD 10 []).length)) ∈ FLn) ∧ ∀ k, k < (roStr.getD 10 []).length → Cond.eq (.elem (.field (srTm 10) "java/lang/String" "value" "[B") (.int (Int32.ofNat k))) (.int ((roStr.getD 10 []).getD k 0)) ∈ FLn := by decide +kernel
theorem sr_c11 : (Cond.exactly (srTm 11) "java/lang/String" ∈ FLn ∧ Cond.eq (.field (srTm 11) "java/lang/String" "coder" "B") (.int 0) ∈ FLn) ∧ (Cond.arrayOf (.field (srTm 11) "java/lang/String" "value" "[B") .byte ∈ FLn ∧ Cond.eq (.length (.field (srTm 11) "java/lang/String" "value" "[B")) (.int (Int32.ofNat (roStr.getD 11 []).length)) ∈ FLn) ∧ ∀ k, k < (roStr.getD 11 []).length → Cond.eq (.elem (.field (srTm 11) "java/lang/String" "value" "[B") (.int (Int32.ofNat k))) (.int ((roStr.getD 11 []).getD k 0)) ∈ FLn := by decide +kernel
theorem sr_c12 : (Cond.exactly (srTm 12) "java/lang/String" ∈ FLn ∧ Cond.eq (.field (srTm 12) "java/lang/String" "coder" "B") (.int 0) ∈ FLn) ∧ (Cond.arrayOf (.field (srTm 12) "java/lang/String" "value" "[B") .byte ∈ FLn ∧ Cond.eq (.length (.field (srTm 12) "java/lang/String" "value" "[B")) (.int (Int32.ofNat (roStr.getD 12 []).length)) ∈ FLn) ∧ ∀ k, k < (roStr.getD 12 []).length → Cond.eq (.elem (.field (srTm 12) "java/lang/String" "value" "[B") (.int (Int32.ofNat k))) (.int ((roStr.getD 12 []).getD k 0)) ∈ FLn := by decide +kernel
theorem sr_c13 : (Cond.exactly (srTm 13) "java/lang/String" ∈ FLn ∧ Cond.eq (.field (srTm 13) "java/lang/String" "coder" "B") (.int 0) ∈ FLn) ∧ (Cond.arrayOf (.field (srTm 13) "java/lang/String" "value" "[B") .byte ∈ FLn ∧ Cond.eq (.length (.field (srTm 13) "java/lang/String" "value" "[B")) (.int (Int32.ofNat (roStr.getD 13 []).length)) ∈ FLn) ∧ ∀ k, k < (roStr.getD 13 []).length → Cond.eq (.elem (.field (srTm 13) "java/lang/String" "value" "[B") (.int (Int32.ofNat k))) (.int ((roStr.getD 13 []).getD k 0)) ∈ FLn := by decide +kernel
theorem sr_c14 : (Cond.exactly (srTm 14) "java/lang/String" ∈ FLn ∧ Cond.eq (.field (srTm 14) "java/lang/String" "coder" "B") (.int 0) ∈ FLn) ∧ (Cond.arrayOf (.field (srTm 14) "java/lang/String" "value" "[B") .byte ∈ FLn ∧ Cond.eq (.length (.field (srTm 14) "java/lang/String" "value" "[B")) (.int (Int32.ofNat (roStr.getD 14 []).length)) ∈ FLn) ∧ ∀ k, k < (roStr.getD 14 []).length → Cond.eq (.elem (.field (srTm 14) "java/lang/String" "value" "[B") (.int (Int32.ofNat k))) (.int ((roStr.getD 14 []).getD k 0)) ∈ FLn := by decide +kernel
theorem sr_c15 : (Cond.exactly (srTm 15) "java/lang/String" ∈ FLn ∧ Cond.eq (.field (srTm 15) "java/lang/String" "coder" "B") (.int 0) ∈ FLn) ∧ (Cond.arrayOf (.field (srTm 15) "java/lang/String" "value" "[B") .byte ∈ FLn ∧ Cond.eq (.length (.field (srTm 15) "java/lang/String" "value" "[B")) (.int (Int32.ofNat (roStr.getD 15 []).length)) ∈ FLn) ∧ ∀ k, k < (roStr.getD 15 []).length → Cond.eq (.elem (.field (srTm 15) "java/lang/String" "value" "[B") (.int (Int32.ofNat k))) (.int ((roStr.getD 15 []).getD k 0)) ∈ FLn := by decide +kernel
theorem sr_c16 : (Cond.exactly (srTm 16) "java/lang/String" ∈ FLn ∧ Cond.eq (.field (srTm 16) "java/lang/String" "coder" "B") (.int 0) ∈ FLn) ∧ (Cond.arrayOf (.field (srTm 16) "java/lang/String" "value" "[B") .byte ∈ FLn ∧ Cond.eq (.length (.field (srTm 16) "java/lang/String" "value" "[B")) (.int (Int32.ofNat (roStr.getD 16 []).length)) ∈ FLn) ∧ ∀ k, k < (roStr.getD 16 []).length → Cond.eq (.elem (.field (srTm 16) "java/lang/String" "value" "[B") (.int (Int32.ofNat k))) (.int ((roStr.getD 16 []).getD k 0)) ∈ FLn := by decide +kernel
theorem sr_c17 : (Cond.exactly (srTm 17) "java/lang/String" ∈ FLn ∧ Cond.eq (.field (srTm 17) "java/lang/String" "coder" "B") (.int 0) ∈ FLn) ∧ (Cond.arrayOf (.field (srTm 17) "java/lang/String" "value" "[B") .byte ∈ FLn ∧ Cond.eq (.length (.field (srTm 17) "java/lang/String" "value" "[B")) (.int (Int32.ofNat (roStr.getD 17 []).length)) ∈ FLn) ∧ ∀ k, k < (roStr.getD 17 []).length → Cond.eq (.elem (.field (srTm 17) "java/lang/String" "value" "[B") (.int (Int32.ofNat k))) (.int ((roStr.getD 17 []).getD k 0)) ∈ FLn := by decide +kernel
theorem sr_c18 : (Cond.exactly (srTm 18) "java/lang/String" ∈ FLn ∧ Cond.eq (.field (srTm 18) "java/lang/String" "coder" "B") (.int 0) ∈ FLn) ∧ (Cond.arrayOf (.field (srTm 18) "java/lang/String" "value" "[B") .byte ∈ FLn ∧ Cond.eq (.length (.field (srTm 18) "java/lang/String" "value" "[B")) (.int (Int32.ofNat (roStr.getD 18 []).length)) ∈ FLn) ∧ ∀ k, k < (roStr.getD 18 []).length → Cond.eq (.elem (.field (srTm 18) "java/lang/String" "value" "[B") (.int (Int32.ofNat k))) (.int ((roStr.getD 18 []).getD k 0)) ∈ FLn := by decide +kernel
theorem sr_c19 : (Cond.exactly (srTm 19) "java/lang/String" ∈ FLn ∧ Cond.eq (.field (srTm 19) "java/lang/String" "coder" "B") (.int 0) ∈ FLn) ∧ (Cond.arrayOf (.field (srTm 19) "java/lang/String" "value" "[B") .byte ∈ FLn ∧ Cond.eq (.length (.field (srTm 19) "java/lang/String" "value" "[B")) (.int (Int32.ofNat (roStr.getD 19 []).length)) ∈ FLn) ∧ ∀ k, k < (roStr.getD 19 []).length → Cond.eq (.elem (.field (srTm 19) "java/lang/String" "value" "[B") (.int (Int32.ofNat k))) (.int ((roStr.getD 19 []).getD k 0)) ∈ FLn := by decide +kernel
theorem sr_c20 : (Cond.exactly (srTm 20) "java/lang/String" ∈ FLn ∧ Cond.eq (.field (srTm 20) "java/lang/String" "coder" "B") (.int 0) ∈ FLn) ∧ (Cond.arrayOf (.field (srTm 20) "java/lang/String" "value" "[B") .byte ∈ FLn ∧ Cond.eq (.length (.field (srTm 20) "java/lang/String" "value" "[B")) (.int (Int32.ofNat (roStr.getD 20 []).length)) ∈ FLn) ∧ ∀ k, k < (roStr.getD 20 []).length → Cond.eq (.elem (.field (srTm 20) "java/lang/String" "value" "[B") (.int (Int32.ofNat k))) (.int ((roStr.getD 20 []).getD k 0)) ∈ FLn := by decide +kernel
theorem sr_c21 : (Cond.exactly (srTm 21) "java/lang/String" ∈ FLn ∧ Cond.eq (.field (srTm 21) "java/lang/String" "coder" "B") (.int 0) ∈ FLn) ∧ (Cond.arrayOf (.field (srTm 21) "java/lang/String" "value" "[B") .byte ∈ FLn ∧ Cond.eq (.length (.field (srTm 21) "java/lang/String" "value" "[B")) (.int (Int32.ofNat (roStr.getD 21 []).length)) ∈ FLn) ∧ ∀ k, k < (roStr.getD 21 []).length → Cond.eq (.elem (.field (srTm 21) "java/lang/String" "value" "[B") (.int (Int32.ofNat k))) (.int ((roStr.getD 21 []).getD k 0)) ∈ FLn := by decide +kernel
theorem sr_c22 : (Cond.exactly (srTm 22) "java/lang/String" ∈ FLn ∧ Cond.eq (.field (srTm 22) "java/lang/String" "coder" "B") (.int 0) ∈ FLn) ∧ (Cond.arrayOf (.field (srTm 22) "java/lang/String" "value" "[B") .byte ∈ FLn ∧ Cond.eq (.length (.field (srTm 22) "java/lang/String" "value" "[B")) (.int (Int32.ofNat (roStr.getD 22 []).length)) ∈ FLn) ∧ ∀ k, k < (roStr.getD 22 []).length → Cond.eq (.elem (.field (srTm 22) "java/lang/String" "value" "[B") (.int (Int32.ofNat k))) (.int ((roStr.getD 22 []).getD k 0)) ∈ FLn := by decide +kernel
theorem sr_c23 : (Cond.exactly (srTm 23) "java/lang/String" ∈ FLn ∧ Cond.eq (.field (srTm 23) "java/lang/String" "coder" "B") (.int 0) ∈ FLn) ∧ (Cond.arrayOf (.field (srTm 23) "java/lang/String" "value" "[B") .byte ∈ FLn ∧ Cond.eq (.length (.field (srTm 23) "java/lang/String" "value" "[B")) (.int (Int32.ofNat (roStr.getD 23 []).length)) ∈ FLn) ∧ ∀ k, k < (roStr.getD 23 []).length → Cond.eq (.elem (.field (srTm 23) "java/lang/String" "value" "[B") (.int (Int32.ofNat k))) (.int ((roStr.getD 23 []).getD k 0)) ∈ FLn := by decide +kernel
theorem sr_c : ∀ i, i < 24 → (Cond.exactly (srTm i) "java/lang/String" ∈ FLn ∧ Cond.eq (.field (srTm i) "java/lang/String" "coder" "B") (.int 0) ∈ FLn) ∧ (Cond.arrayOf (.field (srTm i) "java/lang/String" "value" "[B") .byte ∈ FLn ∧ Cond.eq (.length (.field (srTm i) "java/lang/String" "value" "[B")) (.int (Int32.ofNat (roStr.getD i []).length)) ∈ FLn) ∧ ∀ k, k < (roStr.getD i []).length → Cond.eq (.elem (.field (srTm i) "java/lang/String" "value" "[B") (.int (Int32.ofNat k))) (.int ((roStr.getD i []).getD k 0)) ∈ FLn := by
  intro i hi
  rcases (show i = 0 ∨ i = 1 ∨ i = 2 ∨ i = 3 ∨ i = 4 ∨ i = 5 ∨ i = 6 ∨ i = 7 ∨ i = 8 ∨ i = 9 ∨ i = 10 ∨ i = 11 ∨ i = 12 ∨ i = 13 ∨ i = 14 ∨ i = 15 ∨ i = 16 ∨ i = 17 ∨ i = 18 ∨ i = 19 ∨ i = 20 ∨ i = 21 ∨ i = 22 ∨ i = 23 by omega) with rfl | rfl | rfl | rfl | rfl | rfl | rfl | rfl | rfl | rfl | rfl | rfl | rfl | rfl | rfl | rfl | rfl | rfl | rfl | rfl | rfl | rfl | rfl | rfl
  · exact sr_c0
  · exact sr_c1
  · exact sr_c2
  · exact sr_c3
  · exact sr_c4
  · exact sr_c5
  · exact sr_c6
  · exact sr_c7
  · exact sr_c8
  · exact sr_c9
  · exact sr_c10
  · exact sr_c11
  · exact sr_c12
  · exact sr_c13
  · exact sr_c14
  · exact sr_c15
  · exact sr_c16
  · exact sr_c17
  · exact sr_c18
  · exact sr_c19
  · exact sr_c20
  · exact sr_c21
  · exact sr_c22
  · exact sr_c23
theorem roStr_len : roStr.length = 24 ∧ ∀ i, i < 24 → (roStr.getD i []).length < 100 := by decide +kernel
theorem one_str {args : Array Value} {s : State} {A : Nat → Prop} (h : (Jvm.Cond.and given_1 narrow_1).before args s = true) (hA : ∀ a : Nat, a < s.heap.size → ¬ A a) (i : Nat) (hi : i < 24) : ∃ q : Nat × Nat, (srTm i).eval args s none [] s = some (.ref q.1) ∧ va_O "java/lang/String" q.1 A s s.heap ∧ va_OF "java/lang/String" "coder" "B" (.int 0) q.1 A s s.heap ∧ va_OF "java/lang/String" "value" "[B" (.ref q.2) q.1 A s s.heap ∧ va_T .byte q.2 (roStr.getD i []).length (fun k => .int ((roStr.getD i []).getD k 0)) A s s.heap := by
  have hf := flat_of_before _ h
  obtain ⟨⟨c1, c2⟩, ⟨c3, c4⟩, c5⟩ := sr_c i hi
  obtain ⟨adK, adV, hS, hE⟩ := vk_Sof (args := args) (s := s) (N := 1) (tm := fun _ => srTm i) (len := [(roStr.getD i []).length]) (byt := [roStr.getD i []]) (A := A)
    (fun k hk => by have := roStr_len.2 i hi; rw [show k = 0 by omega]; show (roStr.getD i []).length < 2 ^ 31; omega)
    (fun k hk => hf _ c1) (fun k hk => hf _ c2) (fun k hk => hf _ c3) (fun k hk => by rw [show k = 0 by omega]; exact hf _ c4)
    (fun k hk j hj => by
      have hk0 : k = 0 := by omega
      subst hk0
      exact hf _ (c5 j hj)) (fun a b ha hb hab => by omega) hA
  obtain ⟨g1, g2, g3, g4⟩ := hS.1 0 (by omega)
  exact ⟨(adK 0, adV 0), hE 0 (by omega), g1, g2, g3, g4⟩
theorem one_sta {args : Array Value} {s : State} {A : Nat → Prop} (h : (Jvm.Cond.and given_1 narrow_1).before args s = true) (hA : ∀ a : Nat, a < s.heap.size → ¬ A a) (j : Nat) (hj : j < 3) : ∃ t : Nat, (stTm j).eval args s none [] s = some (.ref t) ∧ va_T .int t (roSta.getD j []).length (fun k => .int ((roSta.getD j []).getD k 0)) A s s.heap := by
  have hf := flat_of_before _ h
  obtain ⟨c1, c2, c3⟩ := st_arr j hj
  have hl : (roSta.getD j []).length < 2 ^ 31 := by
    rcases (show j = 0 ∨ j = 1 ∨ j = 2 by omega) with rfl | rfl | rfl <;> decide
  exact va_Tof hl (hf _ c1) (va_eqt (hf _ c2)) (fun k hk => va_eqt (hf _ (c3 k hk))) hA
theorem Gl_start {args : Array Value} {s : State} {b L : Nat} {xs : Nat → Int32} (h : (Jvm.Cond.and given_1 narrow_1).before args s = true) (hts : ∀ w ∈ lw_tbl, w.before args s = true) (hX : va_X b L xs s s.heap) (hb : b < s.heap.size) (hL : L ≤ 3072) :
    ∃ ro : Nat → Nat, ro 10003 = b ∧ Gl ((List.range L).map xs) ro (A0 s.heap.size) s s.heap := by
  have hA : ∀ a : Nat, a < s.heap.size → ¬ A0 s.heap.size a := fun a ha q => absurd ha (Nat.not_lt.mpr q)
  have hf := flat_of_before _ h
  obtain ⟨aS, haS⟩ : ∃ aS : Nat → Nat × Nat, ∀ i, i < 24 → (srTm i).eval args s none [] s = some (.ref (aS i).1) ∧ va_O "java/lang/String" (aS i).1 (A0 s.heap.size) s s.heap ∧ va_OF "java/lang/String" "coder" "B" (.int 0) (aS i).1 (A0 s.heap.size) s s.heap ∧ va_OF "java/lang/String" "value" "[B" (.ref (aS i).2) (aS i).1 (A0 s.heap.size) s s.heap ∧ va_T .byte (aS i).2 (roStr.getD i []).length (fun k => .int ((roStr.getD i []).getD k 0)) (A0 s.heap.size) s s.heap := by
    have h0 : ∀ i : Nat, ∃ q : Nat × Nat, i < 24 → (srTm i).eval args s none [] s = some (.ref q.1) ∧ va_O "java/lang/String" q.1 (A0 s.heap.size) s s.heap ∧ va_OF "java/lang/String" "coder" "B" (.int 0) q.1 (A0 s.heap.size) s s.heap ∧ va_OF "java/lang/String" "value" "[B" (.ref q.2) q.1 (A0 s.heap.size) s s.heap ∧ va_T .byte q.2 (roStr.getD i []).length (fun k => .int ((roStr.getD i []).getD k 0)) (A0 s.heap.size) s s.heap := by
      intro i
      by_cases hi : i < 24
      · obtain ⟨q, hq⟩ := one_str h hA i hi
        exact ⟨q, fun _ => hq⟩
      · exact ⟨(0, 0), fun q => absurd q hi⟩
    exact Classical.axiomOfChoice h0
  obtain ⟨aT, haT⟩ : ∃ aT : Nat → Nat, ∀ j, j < 3 → (stTm j).eval args s none [] s = some (.ref (aT j)) ∧ va_T .int (aT j) (roSta.getD j []).length (fun k => .int ((roSta.getD j []).getD k 0)) (A0 s.heap.size) s s.heap := by
    have h0 : ∀ j : Nat, ∃ t : Nat, j < 3 → (stTm j).eval args s none [] s = some (.ref t) ∧ va_T .int t (roSta.getD j []).length (fun k => .int ((roSta.getD j []).getD k 0)) (A0 s.heap.size) s s.heap := by
      intro j
      by_cases hj : j < 3
      · obtain ⟨t, ht⟩ := one_sta h hA j hj
        exact ⟨t, fun _ => ht⟩
      · exact ⟨0, fun q => absurd q hj⟩
    exact Classical.axiomOfChoice h0
  obtain ⟨z, hz⟩ : ∃ z : Nat, va_Z (stCl 4) (stNm 4) (stDs 4) (match z with | 0 => .null | t + 1 => .ref t) (A0 s.heap.size) s s.heap := by
    rcases va_Zqof (hts _ (st_ok 4 (by decide)).1) (hts _ (st_ok 4 (by decide)).2) (hf _ st_34.2) hA with g | ⟨t, g⟩
    · exact ⟨0, g⟩
    · exact ⟨t + 1, g⟩
  refine ⟨fun k => if k = 50000 then z else if k = 10003 then b else if k < 20000 then aT (k - 10000) else if k < 30000 then (aS (k - 20000)).1 else (aS (k - 30000)).2, rfl, ?_, ?_, ?_, ?_, ?_⟩
  · intro j hj
    match j, hj with
    | 0, _ => exact va_Zref (hts _ (st_ok 0 (by decide)).1) (hts _ (st_ok 0 (by decide)).2) (haT 0 (by decide)).1 hA
    | 1, _ => exact va_Zref (hts _ (st_ok 1 (by decide)).1) (hts _ (st_ok 1 (by decide)).2) (haT 1 (by decide)).1 hA
    | 2, _ => exact va_Zref (hts _ (st_ok 2 (by decide)).1) (hts _ (st_ok 2 (by decide)).2) (haT 2 (by decide)).1 hA
    | 3, _ => exact va_Zof (hts _ (st_ok 3 (by decide)).1) (hts _ (st_ok 3 (by decide)).2) (va_eqi (hf _ st_34.1)) hA
    | 4, _ => exact hz
  · intro j hj
    match j, hj with
    | 0, _ => exact (haT 0 (by decide)).2
    | 1, _ => exact (haT 1 (by decide)).2
    | 2, _ => exact (haT 2 (by decide)).2
    | 3, _ =>
      obtain ⟨cell, h1, h2, h3, h4, h5⟩ := hX
      have e1 : (((roSt ((List.range L).map xs)).getD 3 []) : List Int32) = (List.range L).map xs := rfl
      rw [e1]
      refine ⟨cell, h1, h2, h3, by simp [h4], by simp [h4], fun k hk => ?_, hA b hb⟩
      have hk : k < L := by simpa using hk
      rw [h5 k hk]
      simp [List.getD_eq_getElem?_getD, hk]
  · intro i hi
    rw [roStr_len.1] at hi
    obtain ⟨-, g1, g2, g3, g4⟩ := haS i hi
    have e1 : ¬ 20000 + i = 50000 := by omega
    have e2 : ¬ 20000 + i = 10003 := by omega
    have e3 : ¬ 20000 + i < 20000 := by omega
    have e4 : 20000 + i < 30000 := by omega
    have e5 : ¬ 30000 + i = 50000 := by omega
    have e6 : ¬ 30000 + i = 10003 := by omega
    have e7 : ¬ 30000 + i < 20000 := by omega
    have e8 : ¬ 30000 + i < 30000 := by omega
    simp only [e1, e2, e3, e4, e5, e6, e7, e8, if_true, if_false, show 20000 + i - 20000 = i by omega, show 30000 + i - 30000 = i by omega]
    exact ⟨g1, g2, g3, g4⟩
  · intro q hq
    obtain ⟨c1, c2, c3⟩ := sr_ok q hq
    have g := (haS q.2.2 c2).1
    rw [c1] at g
    refine ⟨txT.getD q.2.2 "", ?_⟩
    have e1 : ¬ 20000 + q.2.2 = 50000 := by omega
    have e2 : ¬ 20000 + q.2.2 = 10003 := by omega
    have e3 : ¬ 20000 + q.2.2 < 20000 := by omega
    have e4 : 20000 + q.2.2 < 30000 := by omega
    simp only [e1, e2, e3, e4, if_true, if_false, show 20000 + q.2.2 - 20000 = q.2.2 by omega]
    exact vk_R.of (hts _ c3) g
  · intro w hw hb4
    exact bad_warm hb4 (State.WarmedH.refl s) (hts w hw)
theorem K_start {args : Array Value} {s : State} (hts : ∀ w ∈ lw_tbl, w.before args s = true) : ∃ (D : va_G) (cA : Nat → ClassId), va_K D vwCl (tyL cA) s := by
  have h0 : ∀ ci : Nat, ∃ q : ClassId × (Nat → Nat), ci < 10 → u_Kn s (cN ci) (fun k => TT ci k) (NN ci) q.1 q.2 := by
    intro ci
    by_cases h : ci < 10
    · obtain ⟨cC, iS, hk⟩ := u_known (C := cN ci) (T := fun k => TT ci k) (N := NN ci) (n := NN ci) hts (inT_ok ci h).2.2.1 (hts _ (List.mem_of_getElem? (inT_ok ci h).1))
      exact ⟨(cC, iS), fun _ => hk⟩
    · exact ⟨(0, fun _ => 0), fun q => absurd q h⟩
  obtain ⟨q, hq⟩ := Classical.axiomOfChoice h0
  have pr : ∀ (ty : FieldType), Cond.arrayClass ty ∈ lw_tbl → (∀ C, ty ≠ .object C) → ∃ cA : ClassId, ArrOfT s cA ty ∧ va_RA s cA ty := by
    intro ty hm hno
    obtain ⟨cA, kA, comp, g1, g2, g3⟩ := Cond.arrayClass_spec (hts _ hm)
    refine ⟨cA, fun N z => ⟨(fun k h => by cases h), kA, g2, comp, g3⟩, ?_⟩
    cases ty <;> first | exact g1 | (exact absurd rfl (hno _))
  have po : ∀ (C : String), Cond.arrayOver (.object C) ∈ lw_tbl → ∃ cA : ClassId, ArrOfT s cA (.object C) ∧ va_RA s cA (.object C) := by
    intro C hm
    obtain ⟨comp, cA, kA, g1, g2, g3, g4, g5⟩ := Cond.arrayOver_spec (hts _ hm)
    exact ⟨cA, fun N z => ⟨(fun k h => by cases h), kA, g3, comp, g4⟩, kA, comp, g3, g4, g1, g5⟩
  obtain ⟨c0, p0⟩ := pr .byte ayT_ok.1.1 (fun C h => by cases h)
  obtain ⟨c1, p1⟩ := pr .int ayT_ok.1.2.1 (fun C h => by cases h)
  obtain ⟨c2, p2⟩ := pr .long ayT_ok.1.2.2.1 (fun C h => by cases h)
  obtain ⟨c3, p3⟩ := pr .boolean ayT_ok.1.2.2.2 (fun C h => by cases h)
  obtain ⟨c4, p4⟩ := po _ ayT_ok.2.1.1
  obtain ⟨c5, p5⟩ := po _ ayT_ok.2.1.2
  refine ⟨(fun ci => (q ci).1, fun ci => (q ci).2), fun t => match t with | 0 => c0 | 1 => c1 | 2 => c2 | 3 => c3 | 4 => c4 | _ => c5, ?_, ?_⟩
  · intro ci x hx
    have h10 : ci < 10 := (List.getElem?_eq_some_iff.mp hx).1
    rw [vwCl_at h10] at hx
    cases hx
    exact hq ci h10
  · intro k x hx
    have h6 : k < 6 := (List.getElem?_eq_some_iff.mp hx).1
    rw [tyL_get _ h6] at hx
    cases hx
    match k, h6 with
    | 0, _ => exact p0
    | 1, _ => exact p1
    | 2, _ => exact p2
    | 3, _ => exact p3
    | 4, _ => exact p4
    | 5, _ => exact p5

