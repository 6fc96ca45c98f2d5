variable {scr : List Int32}
-- ===== what methods do: scenes =====
section SP2
variable {f : Nat → Nat → Int32} {g : Nat → List Int32} {j : Nat → List Int64} {c : Value} {d p : Nat}
theorem small_byte {a : Nat} (h : a < 128) : (nI a).toInt8.toInt32 = nI a := by
  have : ∀ a, a < 128 → (nI a).toInt8.toInt32 = nI a := by decide +kernel
  exact this a h
theorem lift_len (g : Nat → List Int32) (p : Nat) (w : Int32) (q : Nat) : (liftG g p w q).length = (g q).length := by
  unfold liftG
  split
  · rfl
  · unfold up1
    split
    · rename_i e; rw [ls_len, e]
    · split
      · rename_i e; rw [ls_len, e]
      · rfl
/-- somebody goes from where he is to a place -/
def putG (g : Nat → List Int32) (p : Nat) (w q : Int32) : Nat → List Int32 :=
  if w < 0 ∨ 14 ≤ w ∨ q < 0 ∨ 144 ≤ q then g else
  up1 (up1 (liftG g p w) (p + 3) (ls (liftG g p w (p + 3)) w q)) (p + 2) (ls (liftG g p w (p + 2)) q w)
theorem put_len (g : Nat → List Int32) (p : Nat) (w q : Int32) (r : Nat) : (putG g p w q r).length = (g r).length := by
  unfold putG
  split
  · rfl
  · unfold up1
    split
    · rename_i e; rw [ls_len, lift_len, e]
    · split
      · rename_i e; rw [ls_len, lift_len, e]
      · exact lift_len g p w r
theorem sp60 (hp : isSc p) (h2 : (g (p + 2)).length = 144) (h3 : (g (p + 3)).length = 14) {w q : Int32} {T : aH → Prop} : vV scr (d + 1) 60 [.ref p, .int w, .int q] (mk f g j c) T = T (mk f (putG g p w q) j c) := by
  unfold vV
  rw [v60_ok hp, en60, b60_0]
  simp only [sp59 hp h2 h3, r_sc_at hp, r_sc_standing hp, w_sc_standing hp, w_sc_at hp, ex_v, true_and, lift_len, h2, h3, up1_ne (show ¬ p + 2 = p + 3 by omega)]
  unfold putG
  by_cases e1 : w < 0
  · simp [e1]
  by_cases e2 : 14 ≤ w
  · simp [e1, e2]
  by_cases e3 : q < 0
  · simp [e1, e2, e3]
  by_cases e4 : 144 ≤ q
  · simp [e1, e2, e3, e4]
  have hin : inb w 14 = true := inb_of (n := 14) (by decide) e1 e2
  have hin2 : inb q 144 = true := inb_of (n := 144) (by decide) e3 e4
  obtain ⟨a, ha, rfl⟩ := lit_of (n := 14) (by decide) e1 e2
  simp only [e1, e2, e3, e4, hin, hin2, if_false, true_and, or_self, small_byte (show a < 128 by omega)]
/-- a herald goes by a way: whether he could, and then where all stand -/
def goB (f : Nat → Nat → Int32) (g : Nat → List Int32) (p : Nat) (w way : Int32) : Bool :=
  !decide (w < 0) && (decide (w < 14) && (!decide (bes (f p 0) (f p 1) (lg (g (p + 3)) w) way < 0) && frB f g p (irm (bes (f p 0) (f p 1) (lg (g (p + 3)) w) way) 12) (bes (f p 0) (f p 1) (lg (g (p + 3)) w) way / 12)))
def goG (f : Nat → Nat → Int32) (g : Nat → List Int32) (p : Nat) (w way : Int32) : Nat → List Int32 :=
  if goB f g p w way then putG g p w (bes (f p 0) (f p 1) (lg (g (p + 3)) w) way) else g
theorem sp61 (hp : isSc p) (h1 : (g (p + 1)).length = 144) (h2 : (g (p + 2)).length = 144) (h3 : (g (p + 3)).length = 14) {w way : Int32} {T : Int32 → aH → Prop} : vI scr (d + 3) 61 [.ref p, .int w, .int way] (mk f g j c) T = T (bz (goB f g p w way)) (mk f (goG f g p w way) j c) := by
  unfold vI
  rw [v61_ok hp, en61, b61_0]
  simp only [sp58 hp, sp57 hp h1 h2, sp60 hp h2 h3, r_sc_at hp, a_sc_at hp, ex_i, true_and, h3, bz_0]
  unfold goG goB
  by_cases e1 : w < 0
  · simp [e1, bz]
  by_cases e2 : w < 14
  · have e3 : ¬ 14 ≤ w := Int32.not_le.mpr e2
    have hin : inb w 14 = true := inb_of (n := 14) (by decide) e1 e3
    simp only [e1, e2, hin, if_true, if_false, true_and, decide_true, decide_false, Bool.not_false, Bool.true_and]
    generalize bes (f p 0) (f p 1) (lg (g (p + 3)) w) way = z
    by_cases e4 : z < 0
    · simp [e4, bz]
    · simp only [e4, if_false, decide_false, Bool.not_false, Bool.true_and]
      cases frB f g p (irm z 12) (z / 12) <;> simp [bz]
  · simp [e1, e2, bz]
-- rows filled and copied
theorem fill_I {q n : Nat} (hq : LAY[q]? = some (.inl 1)) (hn : n < 2 ^ 31) {v : Int32} {K : Option Value → aH → Prop} : ∀ (k i : Nat) (g : Nat → List Int32), i + k = n → (g q).length = n →
    E scr false d 234 5 [.ref q, .int v, .int (nI i), .int (nI n)] [] (mk f g j c) K = K none (mk f (up1 g q ((g q).take i ++ List.replicate k v)) j c)
  | 0, i, g, hi, hg => by
    rw [b234_5, if_pos (nI_le (a := n) (b := i) (by omega) (by omega))]
    have e : up1 g q ((g q).take i ++ List.replicate 0 v) = g := by
      funext r
      unfold up1
      split
      · rename_i e; subst e; rw [List.replicate_zero, List.append_nil, List.take_of_length_le (by omega)]
      · rfl
    rw [e]
  | k + 1, i, g, hi, hg => by
    rw [b234_5, if_neg (nI_ge (by omega) hn), wI_mk hq, hg, inb_nI (by omega), nI_clamp (by omega), nI_1]
    have h1 : decide (i < n) = true := by simp; omega
    simp only [h1, true_and]
    rw [fill_I hq hn k (i + 1) _ (by omega) (by rw [up1_at]; simp [hg])]
    congr 2
    funext r
    unfold up1
    split
    · rename_i e
      subst e
      simp only [if_true]
      apply List.ext_getElem?
      intro m
      simp only [List.getElem?_append, List.getElem?_take, List.getElem?_set, List.getElem?_replicate, List.length_take, List.length_set, hg]
      by_cases h1 : m < i
      · have : ¬ i = m := by omega
        simp [this, show min (i + 1) n = i + 1 by omega, show min i n = i by omega, h1, show m < i + 1 by omega]
      · by_cases h2 : m = i
        · subst h2
          simp [show min (m + 1) n = m + 1 by omega, show min m n = m by omega, show m < n by omega]
        · simp [show min (i + 1) n = i + 1 by omega, show min i n = i by omega, h1, show ¬ m < i + 1 by omega]
          by_cases h3 : m - (i + 1) < k
          · simp [h3, show m - i < k + 1 by omega]
          · simp [h3, show ¬ m - i < k + 1 by omega]
    · rfl
theorem sp234 {q n : Nat} (hq : LAY[q]? = some (.inl 1)) (hn : n < 2 ^ 31) (hg : (g q).length = n) {v : Int32} {T : aH → Prop} : sV scr d 234 [.ref q, .int v] (mk f g j c) T = T (mk f (up1 g q (List.replicate n v)) j c) := by
  unfold sV
  rw [en234, b234_0, aN_mk (by decide) (by decide) hq, hg]
  show E scr false d 234 5 [.ref q, .int v, .int (nI 0), .int (nI n)] [] (mk f g j c) _ = _
  rw [fill_I hq hn n 0 g (by omega) hg]
  simp
theorem fill_B {q n : Nat} (hq : LAY[q]? = some (.inl 0)) (hn : n < 2 ^ 31) {v : Int32} (hv : v.toInt8.toInt32 = v) {K : Option Value → aH → Prop} : ∀ (k i : Nat) (g : Nat → List Int32), i + k = n → (g q).length = n →
    E scr false d 235 5 [.ref q, .int v, .int (nI i), .int (nI n)] [] (mk f g j c) K = K none (mk f (up1 g q ((g q).take i ++ List.replicate k v)) j c)
  | 0, i, g, hi, hg => by
    rw [b235_5, if_pos (nI_le (a := n) (b := i) (by omega) (by omega))]
    have e : up1 g q ((g q).take i ++ List.replicate 0 v) = g := by
      funext r
      unfold up1
      split
      · rename_i e; subst e; rw [List.replicate_zero, List.append_nil, List.take_of_length_le (by omega)]
      · rfl
    rw [e]
  | k + 1, i, g, hi, hg => by
    rw [b235_5, if_neg (nI_ge (by omega) hn), wB_mk hq, hg, inb_nI (by omega), nI_clamp (by omega), nI_1, hv]
    have h1 : decide (i < n) = true := by simp; omega
    simp only [h1, true_and]
    rw [fill_B hq hn hv k (i + 1) _ (by omega) (by rw [up1_at]; simp [hg])]
    congr 2
    funext r
    unfold up1
    split
    · rename_i e
      subst e
      simp only [if_true]
      apply List.ext_getElem?
      intro m
      simp only [List.getElem?_append, List.getElem?_take, List.getElem?_set, List.getElem?_replicate, List.length_take, List.length_set, hg]
      by_cases h1 : m < i
      · have : ¬ i = m := by omega
        simp [this, show min (i + 1) n = i + 1 by omega, show min i n = i by omega, h1, show m < i + 1 by omega]
      · by_cases h2 : m = i
        · subst h2
          simp [show min (m + 1) n = m + 1 by omega, show min m n = m by omega, show m < n by omega]
        · simp [show min (i + 1) n = i + 1 by omega, show min i n = i by omega, h1, show ¬ m < i + 1 by omega]
          by_cases h3 : m - (i + 1) < k
          · simp [h3, show m - i < k + 1 by omega]
          · simp [h3, show ¬ m - i < k + 1 by omega]
    · rfl
theorem sp235 {q n : Nat} (hq : LAY[q]? = some (.inl 0)) (hn : n < 2 ^ 31) (hg : (g q).length = n) {v : Int32} (hv : v.toInt8.toInt32 = v) {T : aH → Prop} : sV scr d 235 [.ref q, .int v] (mk f g j c) T = T (mk f (up1 g q (List.replicate n v)) j c) := by
  unfold sV
  rw [en235, b235_0, aN_mk (by decide) (by decide) hq, hg]
  show E scr false d 235 5 [.ref q, .int v, .int (nI 0), .int (nI n)] [] (mk f g j c) _ = _
  rw [fill_B hq hn hv n 0 g (by omega) hg]
  simp
end SP2
