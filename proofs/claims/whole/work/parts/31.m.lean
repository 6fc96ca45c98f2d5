variable {scr : List Int32}
-- ===== the law, read by the model: the stack =====
section LM5
variable {f G f' G' : Nat → Nat → Int32} {J J' : Nat → Nat → Int64} {c : Value} {d : Nat} {T : Tp} {p q r b dp : Nat} {s : Ls} {S : List Nat}
def MKs (f G : Nat → Nat → Int32) (dp : Nat) (S : List Nat) : Prop := f 125 25 = nI dp ∧ f 125 27 = nI S.length ∧ ∀ i, i < S.length → G 150 i = nI (S.getD i 0)
def FN (r : Nat) (f G f' G' : Nat → Nat → Int32) : Prop := (∀ o k, ¬ (o = 125 ∧ (k = 20 ∨ k = 21 ∨ k = 24 ∨ k = 25 ∨ k = 26 ∨ k = 27)) → f' o k = f o k) ∧ (∀ q k, ¬ ((q = 144 ∨ q = 145) ∧ 300 * r ≤ k) → q ≠ 150 → G' q k = G q k)
theorem FN_tr {f1 G1 f2 G2 : Nat → Nat → Int32} (h : FN r f G f1 G1) (h' : FN r f1 G1 f2 G2) : FN r f G f2 G2 := ⟨fun o k a => (h'.1 o k a).trans (h.1 o k a), fun q k a e => (h'.2 q k a e).trans (h.2 q k a e)⟩
theorem FN_fm (h : FM r f G f' G') : FN r f G f' G' := ⟨fun o k a => h.1 o k (by omega), fun q k a _ => h.2 q k a⟩
theorem FN_rf : FN r f G f G := ⟨fun _ _ _ => rfl, fun _ _ _ _ => rfl⟩
theorem FN_m : FN r f G (mS f q) G := FN_fm FM_m
theorem FN_u {k : Nat} {v : Int32} (hk : k = 20 ∨ k = 21 ∨ k = 24 ∨ k = 25 ∨ k = 26 ∨ k = 27) : FN r f G (up2 f 125 k v) G := ⟨fun o j a => up2_f (fun e => a ⟨e.1, by omega⟩), fun _ _ _ _ => rfl⟩
theorem MKs_fm (h : FM r f G f' G') (hm : MKs f G dp S) : MKs f' G' dp S := ⟨by rw [h.1 125 25 (by omega)]; exact hm.1, by rw [h.1 125 27 (by omega)]; exact hm.2.1, fun i hi => by rw [h.2 150 i (by omega)]; exact hm.2.2 i hi⟩
theorem LMs_st (h1 : ∀ k, k ≠ 25 → k ≠ 27 → f' 125 k = f 125 k) (h2 : ∀ q k, q ≠ 150 → G' q k = G q k) (h : LMs f G T r s) : LMs f' G' T r s := by
  obtain ⟨⟨⟨a1, a2, a3⟩, a4⟩, a5, a6, a7, a8, a9⟩ := h
  exact ⟨⟨⟨by rw [h1 19 (by omega) (by omega)]; exact a1, fun i hi => by rw [h2 143 i (by omega)]; exact a2 i hi, by rw [h1 28 (by omega) (by omega)]; exact a3⟩, by rw [h1 20 (by omega) (by omega)]; exact a4⟩, by rw [h1 21 (by omega) (by omega)]; exact a5, by rw [h1 22 (by omega) (by omega)]; exact a6, by rw [h1 24 (by omega) (by omega)]; exact a7, by rw [h1 26 (by omega) (by omega)]; exact a8, fun k hk => by rw [h2 144 _ (by omega), h2 145 _ (by omega)]; exact a9 k hk⟩
theorem getD_sn {S : List Nat} {x : Nat} : (S ++ [x]).getD S.length 0 = x := by
  rw [List.getD_eq_getElem?_getD, List.getElem?_append_right (Nat.le_refl _), Nat.sub_self]
  rfl
theorem getD_sl {S : List Nat} {x i : Nat} (h : i < S.length) : (S ++ [x]).getD i 0 = S.getD i 0 := by
  rw [List.getD_eq_getElem?_getD, List.getElem?_append_left h, ← List.getD_eq_getElem?_getD]
theorem len_sn {S : List Nat} {x : Nat} : (S ++ [x]).length = S.length + 1 := by rw [List.length_append]; rfl
theorem m155e (h : MKs f G dp []) {K : Int32 → aH → Prop} : vI scr d 155 [.ref 125] (wo f G J c) K = K (-1) (wo f G J c) := by
  have e : f 125 27 = 0 := h.2.1
  unfold vI
  rw [u155_ok, en155, b155_0]
  simp only [mO scr, e, if_true, ex_i, true_and]
theorem m155s {x : Nat} (h : MKs f G dp (S ++ [x])) (hS : S.length < 402) {K : Int32 → aH → Prop} : vI scr d 155 [.ref 125] (wo f G J c) K = K (nI x) (wo f G J c) := by
  have e : f 125 27 = nI (S.length + 1) := by rw [← len_sn (x := x)]; exact h.2.1
  have e2 : G 150 S.length = nI x := by rw [h.2.2 S.length (by rw [len_sn]; omega), getD_sn]
  have e3 : nI (S.length + 1) - 1 = nI S.length := nI_s1 (by omega)
  unfold vI
  rw [u155_ok, en155, b155_0]
  simp (disch := omega) only [mO scr, e, nI_nz (show 0 < S.length + 1 by omega) (show S.length + 1 < 2 ^ 30 by omega), if_false, e3, e2, ex_i, true_and]
theorem p40 {x : Nat} (hL : LMs f G T r s) (hM : MKs f G dp S) (hS : S.length < 402) {K : Option Value → aH → Prop} (hK : ∀ f' G', LMs f' G' T r s → MKs f' G' dp (S ++ [x]) → FN r f G f' G' → K none (wo f' G' J c)) : E scr false d 156 40 [.ref 125, .int (nI x)] [] (wo f G J c) K := by
  rw [b156_40]
  simp (disch := omega) only [mO scr, hM.2.1, nI_1]
  apply hK
  · exact LMs_st (fun k _ a => up2_f (by omega)) (fun q k a => up2_q a) hL
  · refine ⟨by rw [up2_f (by omega)]; exact hM.1, by rw [up2_s, len_sn], fun i hi => ?_⟩
    rw [len_sn] at hi
    by_cases e : i = S.length
    · rw [e, up2_s, getD_sn]
    · rw [up2_k e, getD_sl (by omega)]; exact hM.2.2 i (by omega)
  · exact ⟨fun o k a => up2_f (by omega), fun q k _ a => up2_q a⟩
theorem m156 {x : Nat} (hx : x = 10 ∨ x = 11) (hL : LMs f G T r s) (hM : MKs f G dp S) (hS : S.length < 402) {K : aH → Prop} (hK : ∀ f' G', LMs f' G' T r s → MKs f' G' dp (S ++ [x]) → FN r f G f' G' → K (wo f' G' J c)) : vV scr (d + 1) 156 [.ref 125, .int (nI x)] (wo f G J c) K := by
  unfold vV
  rw [u156_ok, en156, b156_0]
  refine ⟨rfl, ?_⟩
  have n9 : ¬ nI x = (9 : Int32) := by rcases hx with rfl | rfl <;> decide
  have n12 : ¬ nI x = (12 : Int32) := by rcases hx with rfl | rfl <;> decide
  rw [if_neg n9, if_neg n12]
  apply p40 hL hM hS
  intro f' G' a1 a2 a3
  exact ⟨rfl, hK f' G' a1 a2 a3⟩
/-- a NOT or a bracket is opened, unless it is too deep -/
theorem m156d {x : Nat} (hx : x = 9 ∨ x = 12) (hT : TX T) (hL : LMs f G T r s) (hp : s.1 ≤ T.1) (hM : MKs f G dp S) (hd : dp ≤ 10) (hS : S.length < 402) {K : aH → Prop} (hf : ∀ f' G', dp = 10 → XM 400 f' G' T (1 + 8 * s.1 + 2) → f' 125 20 = nI s.1 → FN r f G f' G' → K (wo f' G' J c)) (hK : ∀ f' G', dp < 10 → LMs f' G' T r s → MKs f' G' (dp + 1) (S ++ [x]) → FN r f G f' G' → K (wo f' G' J c)) : vV scr (d + 1) 156 [.ref 125, .int (nI x)] (wo f G J c) K := by
  have h400 := hT.1
  unfold vV
  rw [u156_ok, en156, b156_0]
  refine ⟨rfl, ?_⟩
  have go : E scr false (d + 1) 156 12 [.ref 125, .int (nI x)] [] (wo f G J c) (fun r h => r = none ∧ K h) := by
    rw [b156_12]
    simp (disch := omega) only [mO scr, hM.1, show (10 : Int32) = nI 10 from rfl, NC]
    by_cases h10 : dp = 10
    · rw [if_pos h10]
      simp only [mO scr, hL.1.2]
      rw [show (2 : Int32) = nI 2 from rfl, m142 hL.2.1, b156_30]
      have e25 : up2 f 125 21 (nI (1 + 8 * s.1 + 2)) 125 25 = nI dp := by rw [up2_f (by omega)]; exact hM.1
      simp only [mO scr, e25, nI_1]
      have x1 := XM_u (k := 25) (v := nI (dp + 1)) (by omega) (XM_bl (b := 400) (x := 1 + 8 * s.1 + 2) hL.1 (by omega) (by omega) (by omega))
      rw [b156_40]
      have e27 : up2 (up2 f 125 21 (nI (1 + 8 * s.1 + 2))) 125 25 (nI (dp + 1)) 125 27 = nI S.length := by rw [up2_f (by omega), up2_f (by omega)]; exact hM.2.1
      simp (disch := omega) only [mO scr, e27, nI_1]
      refine ⟨trivial, hf _ _ h10 ?_ (by rw [up2_f (by omega), up2_f (by omega), up2_f (by omega)]; exact hL.1.2) ⟨fun o k a => by rw [up2_f (by omega), up2_f (by omega), up2_f (by omega)], fun q k _ a => up2_q a⟩⟩
      obtain ⟨⟨y1, y2, y3⟩, y4⟩ := XM_u (k := 27) (v := nI (S.length + 1)) (by omega) x1
      exact ⟨⟨y1, fun i hi => by rw [up2_q (by decide)]; exact y2 i hi, y3⟩, y4⟩
    · rw [if_neg h10, b156_30]
      simp only [mO scr, hM.1, nI_1]
      have l1 : LMs (up2 f 125 25 (nI (dp + 1))) G T r s := LMs_st (fun k a _ => up2_f (by omega)) (fun _ _ _ => rfl) hL
      have m1 : MKs (up2 f 125 25 (nI (dp + 1))) G (dp + 1) S := ⟨up2_s, by rw [up2_f (by omega)]; exact hM.2.1, hM.2.2⟩
      apply p40 l1 m1 hS
      intro f' G' a1 a2 a3
      exact ⟨rfl, hK f' G' (by omega) a1 a2 (FN_tr (FN_u (by omega)) a3)⟩
  rcases hx with rfl | rfl
  · rw [if_pos (by decide)]; exact go
  · rw [if_neg (by decide), if_pos (by decide)]; exact go
def tne (S : List Nat) (x : Nat) : Prop := S = [] ∨ ∃ S' y, S = S' ++ [y] ∧ y ≠ x ∧ y < 2 ^ 20
def an9 (x j : Nat) : Nat := if x = 9 then j else 0
theorem rep_s {x j : Nat} : List.replicate (j + 1) x = List.replicate j x ++ [x] := List.replicate_succ'
theorem m157 {x k : Nat} (hxk : (x = 9 ∧ k = 22) ∨ (x = 10 ∧ k = 20) ∨ (x = 11 ∧ k = 21)) (hr : r < 6) (ht : tne S x) {K : Option Value → aH → Prop} : ∀ j (s : Ls) f G, LMs f G T r s → MKs f G (dp + an9 x j) (S ++ List.replicate j x) → S.length + j < 402 → s.2.1.length + j < 300 → (∀ f' G', LMs f' G' T r (s.1, s.2.1 ++ List.replicate j k, s.2.2) → MKs f' G' dp S → FN r f G f' G' → K none (wo f' G' J c)) → E scr false (d + 1) 157 0 [.ref 125, .int (nI x)] [] (wo f G J c) K := by
  have hx20 : x < 2 ^ 20 := by omega
  intro j
  induction j with
  | zero =>
    intro s f G hL hM hS hn hK
    have hM : MKs f G dp S := by
      have e : dp + an9 x 0 = dp := by unfold an9; split <;> rfl
      rw [e, List.replicate_zero, List.append_nil] at hM
      exact hM
    have hK0 := hK f G (by rw [List.replicate_zero, List.append_nil]; exact hL) hM FN_rf
    rw [b157_0]
    rcases ht with rfl | ⟨S', y, rfl, hy, hy2⟩
    · rw [m155e hM, if_neg (show ¬ ((-1 : Int32) = nI x) from fun e => by
        have h := nI_n9 (k := x) (by omega)
        rw [← e] at h
        exact absurd h (by decide))]
      exact hK0
    · rw [len_sn] at hS
      rw [m155s hM (by omega)]
      simp (disch := omega) only [NC, hy, if_false]
      exact hK0
  | succ j ih =>
    intro s f G hL hM hS hn hK
    have hM' : MKs f G (dp + an9 x (j + 1)) ((S ++ List.replicate j x) ++ [x]) := by rw [List.append_assoc, ← rep_s]; exact hM
    have hlen : (S ++ List.replicate j x).length = S.length + j := by rw [List.length_append, List.length_replicate]
    rw [b157_0, m155s hM' (by omega), if_pos rfl]
    simp only [mO scr, hL.2.1, if_true]
    have so : soM k = x ∧ nuM k = 0 := by
      rcases hxk with ⟨rfl, rfl⟩ | ⟨rfl, rfl⟩ | ⟨rfl, rfl⟩ <;> exact ⟨rfl, rfl⟩
    have key := m148 (scr := scr) (J := J) (c := c) (d := d) (k := k) hr hL (by omega) (K := fun h4 : aH => gI scr h4 125 9 27 (fun x6 : Int32 => pF h4 125 9 27 (.int (x6 - 1)) (fun h7 : aH => gI scr h7 125 9 25 (fun x8 : Int32 => (if nI x = 9 then E scr false (d + 1) 157 47 [.ref 125, .int (nI x)] [.int 1, .int x8, .ref 125] h7 K else E scr false (d + 1) 157 47 [.ref 125, .int (nI x)] [.int 0, .int x8, .ref 125] h7 K)))))
    rw [so.1, so.2] at key
    apply key
    intro f1 G1 l1 fm1
    have m1 := MKs_fm fm1 hM'
    have e27 : f1 125 27 = nI (S.length + j + 1) := by rw [← hlen, ← len_sn (x := x)]; exact m1.2.1
    have e3 : nI (S.length + j + 1) - 1 = nI (S.length + j) := nI_s1 (by omega)
    have e25 : up2 f1 125 27 (nI (S.length + j)) 125 25 = nI (dp + an9 x (j + 1)) := by rw [up2_f (by omega)]; exact m1.1
    simp only [mO scr, e27, e3, e25]
    have fin : ∀ v, v = nI (dp + an9 x j) → E scr false (d + 1) 157 0 [.ref 125, .int (nI x)] [] (wo (up2 (up2 f1 125 27 (nI (S.length + j))) 125 25 v) G1 J c) K := by
      intro v hv
      subst hv
      have l2 : LMs (up2 (up2 f1 125 27 (nI (S.length + j))) 125 25 (nI (dp + an9 x j))) G1 T r (s.1, s.2.1 ++ [k], s.2.2) := LMs_st (fun i a b => by rw [up2_f (by omega), up2_f (by omega)]) (fun _ _ _ => rfl) l1
      have m2 : MKs (up2 (up2 f1 125 27 (nI (S.length + j))) 125 25 (nI (dp + an9 x j))) G1 (dp + an9 x j) (S ++ List.replicate j x) := ⟨up2_s, by rw [up2_f (by omega), up2_s, hlen], fun i hi => by
        have := m1.2.2 i (by rw [len_sn]; omega)
        rw [getD_sl hi] at this
        exact this⟩
      apply ih _ _ _ l2 m2 (by omega) (by show (s.2.1 ++ [k]).length + j < 300; rw [len_sn]; omega)
      intro f' G' a1 a2 a3
      apply hK f' G' _ a2 (FN_tr (FN_fm fm1) (FN_tr (FN_u (by omega)) (FN_tr (FN_u (by omega)) a3)))
      have e : (s.2.1 ++ [k]) ++ List.replicate j k = s.2.1 ++ List.replicate (j + 1) k := by rw [List.replicate_succ, List.append_assoc]; rfl
      have a1 : LMs f' G' T r (s.1, (s.2.1 ++ [k]) ++ List.replicate j k, s.2.2) := a1
      rw [e] at a1
      exact a1
    by_cases h9 : x = 9
    · subst h9
      rw [if_pos (show nI 9 = (9 : Int32) from rfl), b157_47]
      simp only [mO scr]
      apply fin
      have : an9 9 (j + 1) = j + 1 := rfl
      have e2 : an9 9 j = j := rfl
      rw [this, e2, show dp + (j + 1) = dp + j + 1 by omega]
      exact nI_s1 (by omega)
    · rw [if_neg (show ¬ nI x = (9 : Int32) by rw [show (9 : Int32) = nI 9 from rfl]; simp (disch := omega) only [NC]; exact h9), b157_47]
      simp only [mO scr]
      apply fin
      have : ∀ j, an9 x j = 0 := fun j => by unfold an9; rw [if_neg h9]
      rw [this, this, show (0 : Int32) = nI 0 from rfl]
      exact pk_sub (b := 0) (by omega)
end LM5
