variable {scr : List Int32}
-- ===== the law: the model's call; both =====
section LM8
variable {f G f' G' : Nat → Nat → Int32} {J J' : Nat → Nat → Int64} {c : Value} {d : Nat} {T : Tp} {p q r b dp : Nat} {s : Ls} {L : Lq} {S : Sn} {Z : Lz} {I : Im}
theorem FC_fe (h : FE f G f' G) : FC r f G f' G := ⟨fun o k a => h.1 o k (by omega), fun _ _ _ _ _ => rfl⟩
theorem ml_lp (hT : TX T) (hr : r < 6) {K : Option Value → aH → Prop} : ∀ u L (s : Ls) f G, 13 - L.1 = u → LMs f G T r s → f 125 25 = 0 → MQs G r L → LJq L s.2.1 → s.1 ≤ T.1 → s.2.2 ≤ 60 → 3 * s.2.1.length ≤ 6 * s.2.2 + s.1 →
    (∀ x f' G' (l : Nat), lwL T u L s = .inl x → ITm f' G' T → f' 125 21 = nI x → FC r f G f' G' → E scr false (d + 12) 171 27 [.ref 125, .int (nI l), .int 0] [] (wo f' G' J c) K) →
    (∀ L' s' f' G', lwL T u L s = .inr (L', s'.2.1) → LMs f' G' T r s' → MQs G' r L' → FC r f G f' G' → E scr false (d + 12) 171 27 [.ref 125, .int (nI L'.1), .int 0] [] (wo f' G' J c) K) →
    E scr false (d + 12) 171 27 [.ref 125, .int (nI L.1), .int 1] [] (wo f G J c) K := by
  have h400 := hT.1
  intro u
  induction u with
  | zero => intro L s f G hu _ _ _ hJ; have := hJ.1; omega
  | succ u ih =>
    intro L s f G hu hl h25 hQ hJ hp hz hb hf hg
    simp only [lwL] at hf hg
    rw [b171_27, if_neg n10]
    apply m170 (d := d) hT hr hl h25 hQ hJ hp hz hb
    · intro x f1 G1 hx x1 fc1
      rw [hx] at hf
      apply m167x (d := d + 9) hT x1
      intro f2 it e21 fe
      rw [nI_1]
      exact hf x f2 G1 _ rfl it e21 (FC_tr fc1 (FC_fe fe))
    · intro k s1 f1 G1 hx l1 z1 q1 fc1
      obtain ⟨b1, b2, b3, b4, b5, ⟨l, v, b6, b7⟩, b8⟩ := cl_ok hx hp hz
      have li := LJq_add hJ b5 b4 b7
      rw [← b6] at li
      have sle := sk_le b2
      have sge := sk_ge (T := T) (p := s1.1)
      rw [hx] at hf hg
      dsimp only at hf hg
      apply m167 (d := d + 9) hT l1.1 b2 l1.2.1
      · intro he
        simp only [if_pos he] at hg
        have l2 : LMs (mS f1 (sk T s1.1 + 1)) G1 T r (sk T s1.1 + 1, s1.2) := LMs_mS l1
        rw [nI_1]
        exact hg (adL L k s1.2.1.length) (sk T s1.1 + 1, s1.2) _ _ rfl l2 q1 (FC_tr fc1 (FC_fn FN_m))
      · intro h59
        have hin := ch8_in (T := T) (p := sk T s1.1) (by omega)
        simp only [if_neg (show ¬ T.1 ≤ sk T s1.1 by omega), if_pos h59] at hf hg
        rw [nI_1]
        have l2 : LMs (mS f1 (sk T s1.1 + 1)) G1 T r (sk T s1.1 + 1, s1.2) := LMs_mS l1
        apply ih (adL L k s1.2.1.length) _ _ _ (by show 13 - (L.1 + 1) = u; omega) l2 (by rw [mS_at (by decide)]; exact z1) q1 li hin b3 (by show 3 * s1.2.1.length ≤ 6 * s1.2.2 + (sk T s1.1 + 1); omega)
        · intro x f2 G2 l hx2 it e21 fc2
          exact hf x f2 G2 l hx2 it e21 (FC_tr fc1 (FC_tr (FC_fn FN_m) fc2))
        · intro L' s' f2 G2 hx2 l3 q3 fc2
          exact hg L' s' f2 G2 hx2 l3 q3 (FC_tr fc1 (FC_tr (FC_fn FN_m) fc2))
      · intro he h59 f2 x2 fe
        simp only [if_neg he, if_neg h59] at hf
        rw [nI_1]
        exact hf _ f2 G1 _ rfl x2.1 x2.2.2.1 (FC_tr fc1 (FC_fe fe))
theorem LRm_fr {r r' : Nat} {L : Lw} (hr : r' < r) (hw : wfLw L) (h : ∀ q k, ¬ ((q = 144 ∨ q = 145) ∧ 300 * r ≤ k) → ¬ ((q = 147 ∨ q = 148 ∨ q = 149) ∧ 12 * r ≤ k) → ¬ (q = 146 ∧ k = r) → q ≠ 150 → G' q k = G q k) (hL : LRm G r' L) : LRm G' r' L := by
  obtain ⟨w1, w2, w3, w4⟩ := hw
  obtain ⟨a1, a2, a3⟩ := hL
  refine ⟨by rw [h 146 r' (by omega) (by omega) (by omega) (by omega)]; exact a1, fun i hi => ?_, fun i hi k hk => ?_⟩
  · rw [h 147 _ (by omega) (by omega) (by omega) (by omega), h 148 _ (by omega) (by omega) (by omega) (by omega), h 149 _ (by omega) (by omega) (by omega) (by omega)]
    exact a2 i hi
  · have := (w3 i hi).2
    rw [h 144 _ (by omega) (by omega) (by omega) (by omega), h 145 _ (by omega) (by omega) (by omega) (by omega)]
    exact a3 i hi k hk
theorem s171 (hM : IM f G T S Z I) (hA : WA T S Z I) {K : Int32 → aH → Prop} (h6 : Z.1 = 6 → K (-1) (wo f G J c)) (hf : ∀ x f' G', Z.1 < 6 → lwL T 13 lw0 (0, [], 0) = .inl x → MF f G J f' G' J → IM f' G' (0, T.2) S Z I → K (-2 - nI x) (wo f' G' J c)) (hg : ∀ L C f' G', Z.1 < 6 → lwL T 13 lw0 (0, [], 0) = .inr (L, C) → MF f G J f' G' J → IM f' G' (0, T.2) S (adZ Z (mkL L C)) I → K (nI Z.1) (wo f' G' J c)) : vI scr (d + 40) 171 [.ref 125] (wo f G J c) K := by
  have hT := TX_of hA
  have h400 := hT.1
  have hZ := hA.2.2.1.1
  have hWL := hA.2.2.1.2
  obtain ⟨a1, a2, a3, a4, a5⟩ := hM
  have e23 : f 125 23 = nI Z.1 := a3.1
  unfold vI
  rw [u171_ok, en171, b171_0]
  simp (disch := omega) only [mO scr, e23, show (6 : Int32) = nI 6 from rfl, NC, true_and]
  by_cases h : Z.1 = 6
  · rw [if_pos h]
    exact ⟨_, rfl, h6 h⟩
  · rw [if_neg h, m168]
    have hr : Z.1 < 6 := by omega
    generalize hf1 : stF5 (up2 f 125 22 (nI Z.1)) = f1
    have ef : ∀ o k, ¬ (o = 125 ∧ (k = 20 ∨ k = 21 ∨ k = 22 ∨ k = 24 ∨ k = 25 ∨ k = 26)) → f1 o k = f o k := by
      intro o k ho
      rw [← hf1, st_o (by omega), up2_f (by omega)]
    have z : ∀ k, k = 20 ∨ k = 21 ∨ k = 24 ∨ k = 25 ∨ k = 26 → f1 125 k = 0 := fun k hk => by rw [← hf1]; exact st_i hk
    have l0 : LMs f1 G T Z.1 (0, [], 0) := ⟨⟨⟨by rw [ef 125 19 (by omega)]; exact a1.1, a1.2.1, by rw [ef 125 28 (by omega)]; exact a1.2.2⟩, z 20 (by omega)⟩, z 21 (by omega), by rw [← hf1, st_o (by omega), up2_s], z 24 (by omega), z 26 (by omega), fun k hk => by have hk : k < 0 := hk; omega⟩
    -- what is kept
    have keep : ∀ f' G' (l v : Int32), FC Z.1 f1 G f' G' → MF f G J (up2 (up2 f' 125 19 0) 125 23 v) (up2 G' 146 Z.1 l) J ∧ (v = nI Z.1 → IM (up2 (up2 f' 125 19 0) 125 23 v) (up2 G' 146 Z.1 l) (0, T.2) S Z I) ∧ ITm (up2 (up2 f' 125 19 0) 125 23 v) (up2 G' 146 Z.1 l) (0, T.2) ∧ SCm (up2 G' 146 Z.1 l) S ∧ (∀ r', r' < Z.1 → LRm (up2 G' 146 Z.1 l) r' (Z.2 r')) ∧ IIm (up2 G' 146 Z.1 l) I ∧ (0 < pRo S.1 → ∀ q, q < 144 → up2 G' 146 Z.1 l 140 q = nI (gdA S.1 q)) := by
      intro f' G' l v fc
      have eg : ∀ q k, ¬ (144 ≤ q ∧ q ≤ 150) → up2 G' 146 Z.1 l q k = G q k := fun q k hq => by rw [up2_f (by omega), fc.2 q k (by omega) (by omega) (by omega)]
      have it : ITm (up2 (up2 f' 125 19 0) 125 23 v) (up2 G' 146 Z.1 l) (0, T.2) := ⟨by rw [up2_f (by omega), up2_s]; rfl, fun i hi => by have hi : i < 0 := hi; omega, by rw [up2_f (by omega), up2_f (by omega), fc.1 125 28 (by omega), ef 125 28 (by omega)]; exact a1.2.2⟩
      have sc : SCm (up2 G' 146 Z.1 l) S := SCm_e (fun q k hq => eg q k (by omega)) a2
      have lr : ∀ r', r' < Z.1 → LRm (up2 G' 146 Z.1 l) r' (Z.2 r') := fun r' hr' => LRm_fr hr' (hWL r' hr') (fun q k x1 x2 x3 x4 => by rw [up2_f x3, fc.2 q k x1 x2 x4]) (a3.2 r' hr')
      have ii : IIm (up2 G' 146 Z.1 l) I := IIm_e (fun k => ⟨eg 165 k (by omega), eg 166 k (by omega)⟩) a4
      have g140 : 0 < pRo S.1 → ∀ q, q < 144 → up2 G' 146 Z.1 l 140 q = nI (gdA S.1 q) := fun h0 q hq => by rw [eg 140 q (by omega)]; exact a5 h0 q hq
      refine ⟨⟨fun o k ho => by rw [up2_f (by omega), up2_f (by omega), fc.1 o k (by omega), ef o k (by omega)], fun q k hq => eg q k (by omega), fun _ _ _ => rfl⟩, fun hv => ⟨it, sc, ⟨by rw [up2_s]; exact hv, lr⟩, ii, g140⟩, it, sc, lr, ii, g140⟩
    rw [show (0 : Int32) = nI 0 from rfl]
    apply ml_lp (d := d + 28) hT hr 13 lw0 (0, [], 0) f1 G rfl l0 (z 25 (by omega)) (fun i hi => by have hi : i < 0 := hi; omega) LJq_0 (Nat.zero_le _) (Nat.zero_le _) (Nat.zero_le _)
    · intro x f2 G2 l hx it e21 fc
      obtain ⟨x0, x25⟩ := lw_x hT 13 lw0 (0, [], 0) x hx rfl LJq_0 (Nat.zero_le _) (Nat.zero_le _)
      have e22 : up2 f2 125 19 0 125 22 = nI Z.1 := by rw [up2_f (by omega), fc.1 125 22 (by omega), ← hf1, st_o (by omega), up2_s]
      have e23' : up2 f2 125 19 0 125 23 = nI Z.1 := by rw [up2_f (by omega), fc.1 125 23 (by omega), ef 125 23 (by omega)]; exact e23
      have e21' : up2 f2 125 19 0 125 21 = nI x := by rw [up2_f (by omega)]; exact e21
      rw [b171_27, if_pos rfl]
      simp (disch := omega) only [mO scr, e22, e23', e21', nI_nz x0 (show x < 2 ^ 30 by omega), if_false]
      rw [b171_79]
      have e0 : nI Z.1 + 0 = nI Z.1 := by rw [show (0 : Int32) = nI 0 from rfl, nI_add]; rfl
      have e21'' : up2 (up2 f2 125 19 0) 125 23 (nI Z.1) 125 21 = nI x := by rw [up2_f (by omega)]; exact e21'
      simp only [mO scr, e0, e21'', show ¬ (nI x ≤ 0) from nI_nle x0 (by omega), if_false]
      obtain ⟨k1, k2, -⟩ := keep f2 G2 (nI l) (nI Z.1) fc
      exact ⟨_, rfl, hf x _ _ hr hx k1 (k2 rfl)⟩
    · intro L' s' f2 G2 hx l2 q2 fc
      obtain ⟨lj, hC⟩ := lw_ok 13 lw0 (0, [], 0) L' s'.2.1 hx LJq_0 (Nat.zero_le _) hT.1 (Nat.zero_le _) (Nat.zero_le _)
      have e22 : up2 f2 125 19 0 125 22 = nI Z.1 := by rw [up2_f (by omega)]; exact l2.2.2.1
      have e23' : up2 f2 125 19 0 125 23 = nI Z.1 := by rw [up2_f (by omega), fc.1 125 23 (by omega), ef 125 23 (by omega)]; exact e23
      have e21' : up2 f2 125 19 0 125 21 = 0 := by rw [up2_f (by omega)]; exact l2.2.1
      rw [b171_27, if_pos rfl]
      simp (disch := omega) only [mO scr, e22, e23', e21', if_true]
      rw [b171_79]
      have e21'' : up2 (up2 f2 125 19 0) 125 23 (nI (Z.1 + 1)) 125 21 = 0 := by rw [up2_f (by omega)]; exact e21'
      simp only [mO scr, nI_1, e21'', show ((0 : Int32) ≤ 0) by decide, if_true, up2_s, nI_s1 (show 0 < Z.1 + 1 by omega), Nat.add_sub_cancel]
      obtain ⟨k1, -, k3, k4, k5, k6, k7⟩ := keep f2 G2 (nI L'.1) (nI (Z.1 + 1)) fc
      refine ⟨_, rfl, hg L' s'.2.1 _ _ hr hx k1 ⟨k3, k4, ⟨up2_s, fun r' hr' => ?_⟩, k6, k7⟩⟩
      have hr' : r' < Z.1 + 1 := hr'
      show LRm _ r' (if r' = Z.1 then mkL L' s'.2.1 else Z.2 r')
      by_cases e : r' = Z.1
      · rw [if_pos e, e]
        refine ⟨up2_s, fun i hi => ?_, fun i hi k hk => ?_⟩
        · rw [up2_q (by omega), up2_q (by omega), up2_q (by omega)]
          exact q2 i hi
        · have b := (lj.2.2.1 i hi).2.1
          have hk : k < L'.2.2 i := hk
          rw [up2_q (by omega), up2_q (by omega)]
          exact l2.2.2.2.2.2 k (by omega)
      · rw [if_neg e]
        exact k5 r' (by omega)
theorem op3 {C F : aH → Prop} (hI : IC f G J T S Z I) (hM : IM f G T S Z I) (hA : WA T S Z I) (hC : NX C) : vI scr (d + 40) 95 [.ref 0] (wo f G J c) (fun x h => vI scr (d + 40) 171 [.ref 125] h (fun x' h' => if x = x' then C h' else F h')) := by
  have hT := TX_of hA
  have tp0 : (0 ≤ 400) ∧ ∀ i, i < 0 → fits .byte (.int (T.2 i)) = true := ⟨by omega, fun i hi => by omega⟩
  by_cases h6 : Z.1 = 6
  · apply op_all (ans := -1) (T' := T) (S' := S) (Z' := Z) (I' := I) hM hA _ _ hC
    · intro K hK
      apply k95 hI hA
      · intro _; exact hK f G J c CF_rf hI
      · intro x f1 G1 c' h; omega
      · intro L C f1 G1 c' h; omega
    · intro f G J c hM K hK
      apply s171 hM hA
      · intro _; exact hK f G J MF_rf hM
      · intro x f1 G1 h; omega
      · intro L C f1 G1 h; omega
  · cases hx : lwL T 13 lw0 (0, [], 0) with
    | inl x =>
      have hA' : WA (0, T.2) S Z I := ⟨tp0, hA.2⟩
      apply op_all (ans := -2 - nI x) (T' := (0, T.2)) (S' := S) (Z' := Z) (I' := I) hM hA' _ _ hC
      · intro K hK
        apply k95 hI hA
        · intro h; exact absurd h h6
        · intro x' f1 G1 c' _ hx' cf hI1
          rw [hx] at hx'
          cases hx'
          exact hK f1 G1 J c' cf hI1
        · intro L C f1 G1 c' _ hx'
          rw [hx] at hx'
          cases hx'
      · intro f G J c hM K hK
        apply s171 hM hA
        · intro h; exact absurd h h6
        · intro x' f1 G1 _ hx' mf hM1
          rw [hx] at hx'
          cases hx'
          exact hK f1 G1 J mf hM1
        · intro L C f1 G1 _ hx'
          rw [hx] at hx'
          cases hx'
    | inr y =>
      obtain ⟨L', C'⟩ := y
      obtain ⟨lj, hC'⟩ := lw_ok 13 lw0 (0, [], 0) L' C' hx LJq_0 (Nat.zero_le _) hT.1 (Nat.zero_le _) (Nat.zero_le _)
      have hZ := hA.2.2.1.1
      have hA' : WA (0, T.2) S (adZ Z (mkL L' C')) I := ⟨tp0, hA.2.1, ⟨by show Z.1 + 1 ≤ 6; omega, fun r hr => by
        have hr : r < Z.1 + 1 := hr
        show wfLw (if r = Z.1 then mkL L' C' else Z.2 r)
        split
        · exact LJq_wf lj hC'
        · exact hA.2.2.1.2 r (by omega)⟩, hA.2.2.2⟩
      apply op_all (ans := nI Z.1) (T' := (0, T.2)) (S' := S) (Z' := adZ Z (mkL L' C')) (I' := I) hM hA' _ _ hC
      · intro K hK
        apply k95 hI hA
        · intro h; exact absurd h h6
        · intro x f1 G1 c' _ hx'
          rw [hx] at hx'
          cases hx'
        · intro L C f1 G1 c' _ hx' cf hI1
          rw [hx] at hx'
          cases hx'
          exact hK f1 G1 J c' cf hI1
      · intro f G J c hM K hK
        apply s171 hM hA
        · intro h; exact absurd h h6
        · intro x f1 G1 _ hx'
          rw [hx] at hx'
          cases hx'
        · intro L C f1 G1 _ hx' mf hM1
          rw [hx] at hx'
          cases hx'
          exact hK f1 G1 J mf hM1
end LM8
