variable {scr : List Int32}
-- ===== the JDK's own: least and greatest, texts =====
section SP5
variable {h : aH} {d : Nat}
theorem sp224 {x : Int32} {T : Int32 → aH → Prop} : sI scr d 224 [.int x] h T = T (if 0 ≤ x then x else -x) h := by
  unfold sI
  rw [en224, b224_0]
  simp only [ex_i]
  split <;> rfl
theorem sp225 {x y : Int32} {T : Int32 → aH → Prop} : sI scr d 225 [.int x, .int y] h T = T (if x < y then y else x) h := by
  unfold sI
  rw [en225, b225_0]
  simp only [ex_i]
  split <;> rfl
theorem sp226 {x y : Int32} {T : Int32 → aH → Prop} : sI scr d 226 [.int x, .int y] h T = T (if y < x then y else x) h := by
  unfold sI
  rw [en226, b226_0]
  simp only [ex_i]
  split <;> rfl
/-- downwards -/
def fdv (x y : Int32) : Int32 := if 0 ≤ (x ^^^ y) then x / y else if x / y * y = x then x / y else x / y - 1
theorem sp223 {x y : Int32} (hy : ¬ y = 0) {T : Int32 → aH → Prop} : sI scr d 223 [.int x, .int y] h T = T (fdv x y) h := by
  unfold sI
  rw [en223, b223_0]
  simp only [ex_i, hy, not_false_eq_true, true_and]
  unfold fdv
  split
  · rfl
  · split <;> rfl
/-- the bytes of a text -/
def stx (i : Nat) : List Int32 := roStr.getD i []
theorem getD_mem {l : List Int32} {a : Nat} (ha : a < l.length) : l.getD a 0 ∈ l := by rw [List.getD_eq_getElem?_getD, List.getElem?_eq_getElem ha]; exact List.getElem_mem ha
theorem roStr24 : roStr.length = 24 := by decide +kernel
theorem ro_str {i : Nat} (hi : i < 24) : cellAt scr h (20000 + i) = some (.inr (10, [.ref (30000 + i), .int 0])) := by
  unfold cellAt roC
  rw [if_neg (by omega), if_neg (by omega), if_pos (by omega), if_pos (by rw [roStr24]; omega), show 20000 + i + 10000 = 30000 + i by omega]
theorem ro_byt {i : Nat} (hi : i < 24) : cellAt scr h (30000 + i) = some (.inl (0, .inl (stx i))) := by
  unfold cellAt roC stx
  rw [if_neg (by omega), if_neg (by omega), if_neg (by omega), show 30000 + i - 30000 = i by omega]
  have hl : i < roStr.length := by rw [roStr24]; exact hi
  rw [List.getElem?_eq_getElem hl, List.getD_eq_getElem?_getD, List.getElem?_eq_getElem hl]
  rfl
theorem g_val {i : Nat} (hi : i < 24) {T : Nat → Prop} : gR scr h (20000 + i) 10 0 T = T (30000 + i) := by
  unfold gR rdF
  rw [ro_str hi]
  simp
theorem g_cod {i : Nat} (hi : i < 24) {T : Int32 → Prop} : gI scr h (20000 + i) 10 1 T = T 0 := by
  unfold gI rdF
  rw [ro_str hi]
  simp
theorem n_byt {i : Nat} (hi : i < 24) {T : Nat → Prop} : aN scr h (30000 + i) T = T (stx i).length := by
  unfold aN lenA
  rw [ro_byt hi]
  simp
theorem a_byt {i : Nat} (hi : i < 24) {x : Int32} {T : Int32 → Prop} : aB scr h (30000 + i) x T = (inb x (stx i).length = true ∧ T (lg (stx i) x)) := by
  unfold aB rdA
  rw [ro_byt hi]
  by_cases e : inb x (stx i).length = true
  · simp [e, lg]
  · simp [e]
theorem vo_str {i y : Nat} (hi : i < 24) (hy : mCi y = 10) {As : List Value} : vOk scr h (.ref (20000 + i) :: As) y = true := by
  unfold vOk
  simp only [ro_str hi]
  simp [hy]
theorem sp229 {i : Nat} (hi : i < 24) {T : Int32 → aH → Prop} : vI scr d 229 [.ref (20000 + i)] h T = T 0 h := by
  unfold vI
  rw [vo_str hi (by decide +kernel), en229, b229_0]
  simp only [g_cod hi, ex_i]
  simp [narrow]
theorem sp230 {i : Nat} (hi : i < 24) {T : Int32 → aH → Prop} : vI scr d 230 [.ref (20000 + i)] h T = T 1 h := by
  unfold vI
  rw [vo_str hi (by decide +kernel), en230, b230_0]
  simp only [g_cod hi, ex_i]
  simp
theorem str_len : ∀ i, i < 24 → (stx i).length < 100 ∧ (nI (stx i).length) >>> ((0 : Int32) &&& 31) = nI (stx i).length ∧ (stx i).all (fun x => decide (UInt32.toInt32 (Int32.toUInt32 (x &&& 255) % 65536) = x) && decide (narrow .char (.int x) = .int x)) = true := by decide +kernel
/-- length() -/
theorem sp227 {i : Nat} (hi : i < 24) {T : Int32 → aH → Prop} : vI scr (d + 1) 227 [.ref (20000 + i)] h T = T (nI (stx i).length) h := by
  unfold vI
  rw [vo_str hi (by decide +kernel), en227, b227_0]
  simp only [g_val hi, n_byt hi, sp229 hi, ex_i, true_and]
  rw [show Int32.ofNat (stx i).length = nI (stx i).length from rfl, (str_len i hi).2.1]
theorem sp236 {x y : Int32} (h1 : ¬ x < 0) (h2 : x < y) {T : Int32 → aH → Prop} : sI scr d 236 [.int x, .int y, .retAddr 0] h T = T x h := by
  unfold sI
  rw [en236, b236_0]
  simp only [h1, h2, if_true, if_false, ex_i]
theorem sp231 {x y : Int32} (h1 : ¬ x < 0) (h2 : x < y) {T : aH → Prop} : sV scr (d + 1) 231 [.int x, .int y] h T = T h := by
  unfold sV
  rw [en231, b231_0]
  simp only [sp236 h1 h2, true_and]
theorem sp232 {i a : Nat} (hi : i < 24) (ha : a < (stx i).length) {T : Int32 → aH → Prop} : sI scr (d + 2) 232 [.ref (30000 + i), .int (nI a)] h T = T ((stx i).getD a 0) h := by
  have hl := (str_len i hi).1
  have hx := List.all_eq_true.mp (str_len i hi).2.2 ((stx i).getD a 0) (getD_mem ha)
  simp only [Bool.and_eq_true, decide_eq_true_eq] at hx
  have e1 : inb (nI a) (stx i).length = true := by rw [inb_nI (by omega)]; simp only [decide_eq_true_eq]; exact ha
  unfold sI
  rw [en232, b232_0]
  simp only [n_byt hi]
  rw [sp231 (nI_pos (by omega)) (show nI a < Int32.ofNat (stx i).length from nI_lt ha (by omega))]
  simp only [a_byt hi, e1, true_and, lg_nI (show a < 2 ^ 31 by omega), hx.1, hx.2, ex_i]
/-- charAt() -/
theorem sp228 {i a : Nat} (hi : i < 24) (ha : a < (stx i).length) {T : Int32 → aH → Prop} : vI scr (d + 3) 228 [.ref (20000 + i), .int (nI a)] h T = T ((stx i).getD a 0) h := by
  have hx := List.all_eq_true.mp (str_len i hi).2.2 ((stx i).getD a 0) (getD_mem ha)
  simp only [Bool.and_eq_true, decide_eq_true_eq] at hx
  unfold vI
  rw [vo_str hi (by decide +kernel), en228, b228_0]
  simp only [sp230 hi, g_val hi, sp232 hi ha, ex_i, true_and, hx.2]
  simp
end SP5
