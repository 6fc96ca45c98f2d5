variable {scr : List Int32}
-- ===== feed, images =====
section TZ
variable {f G f' G' : Nat → Nat → Int32} {J J' : Nat → Nat → Int64} {c : Value} {d : Nat} {T T' : Tp} {S S' : Sn} {Z Z' : Lz} {I I' : Im} {P : Pn} {D : Dy} {B : Nat → Nat} {L : Lw}
theorem yB_m (x : Int32) : (Int8.toInt32 (Int32.toInt8 ((x : Int32) >>> ((24 : Int32) &&& 31) : Int32))).toInt8.toInt32 = yB x 24 ∧ (Int8.toInt32 (Int32.toInt8 ((x : Int32) >>> ((16 : Int32) &&& 31) : Int32))).toInt8.toInt32 = yB x 16 ∧ (Int8.toInt32 (Int32.toInt8 ((x : Int32) >>> ((8 : Int32) &&& 31) : Int32))).toInt8.toInt32 = yB x 8 ∧ (Int8.toInt32 (Int32.toInt8 ((x : Int32) >>> ((0 : Int32) &&& 31) : Int32))).toInt8.toInt32 = yB x 0 := by
  unfold yB
  rw [yB_s x (s := 24) (k := 24) (by decide) (by decide) (by decide), yB_s x (s := 16) (k := 16) (by decide) (by decide) (by decide), yB_s x (s := 8) (k := 8) (by decide) (by decide) (by decide), yB_s x (s := 0) (k := 0) (by decide) (by decide) (by decide)]
  exact ⟨rfl, rfl, rfl, rfl⟩
theorem cad1 {n : Nat} {x s : Int32} (h1 : f 1 1 = nI n) (hn : n < 400) (hs : ¬ s < 0) {K : Option Value → aH → Prop} : E scr false d 66 3 [.ref 1, .int x, .int s] [] (wo f G J c) K = E scr false d 66 3 [.ref 1, .int x, .int (s + (-8))] [] (wo (up2 f 1 1 (nI (n + 1))) (up2 G 2 n (yB x s)) J c) K := by
  rw [b66_3]
  simp (disch := omega) only [hs, if_false, tA scr, h1, show (400 : Int32) = nI 400 from rfl, NC, show ¬ 400 ≤ n by omega, nI_1]
  rfl
theorem mad1 {n : Nat} {x s : Int32} (h1 : f 125 19 = nI n) (hn : n < 400) (hs : ¬ s < 0) {K : Option Value → aH → Prop} : E scr false d 139 3 [.ref 125, .int x, .int s] [] (wo f G J c) K = E scr false d 139 3 [.ref 125, .int x, .int (s + (-8))] [] (wo (up2 f 125 19 (nI (n + 1))) (up2 G 143 n (Int8.toInt32 (Int32.toInt8 ((x : Int32) >>> ((s : Int32) &&& 31) : Int32))).toInt8.toInt32) J c) K := by
  rw [b139_3]
  simp (disch := omega) only [hs, if_false, mO scr, h1, nI_1]
theorem pu_at {T : Tp} {x : Int32} {r n : Nat} (hn : T.1 = n) (hG : ∀ i, i < n → G r i = T.2 i) : ∀ i, i < n + 4 → up2 (up2 (up2 (up2 G r n (yB x 24)) r (n + 1) (yB x 16)) r (n + 2) (yB x 8)) r (n + 3) (yB x 0) r i = (pu4 T x).2 i := by
  intro i hi
  rw [up2_a, up2_a, up2_a, up2_a]
  show _ = if i = T.1 + 3 then yB x 0 else if i = T.1 + 2 then yB x 8 else if i = T.1 + 1 then yB x 16 else if i = T.1 then yB x 24 else T.2 i
  rw [hn]
  by_cases e3 : i = n + 3
  · rw [if_pos e3, if_pos e3]
  · rw [if_neg e3, if_neg e3]
    by_cases e2 : i = n + 2
    · rw [if_pos e2, if_pos e2]
    · rw [if_neg e2, if_neg e2]
      by_cases e1 : i = n + 1
      · rw [if_pos e1, if_pos e1]
      · rw [if_neg e1, if_neg e1]
        by_cases e0 : i = n
        · rw [if_pos e0, if_pos e0]
        · rw [if_neg e0, if_neg e0]
          exact hG i (by omega)
theorem c66 {x : Int32} (ht : ITc f G T) (hn : T.1 + 4 ≤ 400) {K : aH → Prop} (hK : ∀ f' G', ITc f' G' (pu4 T x) → (∀ o k, o ≠ 1 → f' o k = f o k) → (∀ q k, q ≠ 2 → G' q k = G q k) → K (wo f' G' J c)) : vV scr d 66 [.ref 1, .int x] (wo f G J c) K := by
  unfold vV
  rw [u66_ok, en66, b66_0]
  refine ⟨rfl, ?_⟩
  rw [cad1 ht.1 (by omega) (by decide), show (24 : Int32) + (-8) = 16 by decide, cad1 up2_s (by omega) (by decide), show (16 : Int32) + (-8) = 8 by decide, cad1 up2_s (by omega) (by decide), show (8 : Int32) + (-8) = 0 by decide, cad1 up2_s (by omega) (by decide), b66_3, if_pos (by decide)]
  refine ⟨rfl, hK _ _ ⟨up2_s, pu_at rfl ht.2⟩ ?_ ?_⟩
  · intro o k ho
    rw [up2_q ho, up2_q ho, up2_q ho, up2_q ho]
  · intro q k hq
    rw [up2_q hq, up2_q hq, up2_q hq, up2_q hq]
theorem m139 {x : Int32} (ht : ITm f G T) (hn : T.1 + 4 ≤ 400) {K : aH → Prop} (hK : ∀ f' G', ITm f' G' (pu4 T x) → (∀ o k, ¬ (o = 125 ∧ k = 19) → f' o k = f o k) → (∀ q k, q ≠ 143 → G' q k = G q k) → K (wo f' G' J c)) : vV scr d 139 [.ref 125, .int x] (wo f G J c) K := by
  obtain ⟨y1, y2, y3, y4⟩ := yB_m x
  unfold vV
  rw [u139_ok, en139, b139_0]
  refine ⟨rfl, ?_⟩
  rw [mad1 ht.1 (by omega) (by decide), show (24 : Int32) + (-8) = 16 by decide, mad1 up2_s (by omega) (by decide), show (16 : Int32) + (-8) = 8 by decide, mad1 up2_s (by omega) (by decide), show (8 : Int32) + (-8) = 0 by decide, mad1 up2_s (by omega) (by decide), b139_3, if_pos (by decide), y1, y2, y3, y4]
  have hf : ∀ o k, ¬ (o = 125 ∧ k = 19) → up2 (up2 (up2 (up2 f 125 19 (nI (T.1 + 1))) 125 19 (nI (T.1 + 1 + 1))) 125 19 (nI (T.1 + 1 + 1 + 1))) 125 19 (nI (T.1 + 1 + 1 + 1 + 1)) o k = f o k := by
    intro o k ho
    unfold up2
    rw [if_neg ho, if_neg ho, if_neg ho, if_neg ho]
  refine ⟨rfl, hK _ _ ⟨up2_s, pu_at rfl ht.2.1, ?_⟩ hf ?_⟩
  · rw [hf 125 28 (by decide)]
    exact ht.2.2
  · intro q k hq
    rw [up2_q hq, up2_q hq, up2_q hq, up2_q hq]
theorem pu_fit {x : Int32} (h : ∀ i, i < T.1 → fits .byte (.int (T.2 i)) = true) : ∀ i, i < (pu4 T x).1 → fits .byte (.int ((pu4 T x).2 i)) = true := by
  intro i hi
  have hi : i < T.1 + 4 := hi
  show fits .byte (.int (if i = T.1 + 3 then yB x 0 else if i = T.1 + 2 then yB x 8 else if i = T.1 + 1 then yB x 16 else if i = T.1 then yB x 24 else T.2 i)) = true
  by_cases e3 : i = T.1 + 3
  · rw [if_pos e3]; exact pk_fb _
  · rw [if_neg e3]
    by_cases e2 : i = T.1 + 2
    · rw [if_pos e2]; exact pk_fb _
    · rw [if_neg e2]
      by_cases e1 : i = T.1 + 1
      · rw [if_pos e1]; exact pk_fb _
      · rw [if_neg e1]
        by_cases e0 : i = T.1
        · rw [if_pos e0]; exact pk_fb _
        · rw [if_neg e0]
          exact h i (by omega)
theorem op0 {a1 a2 a3 a4 a5 : Int32} {C F : aH → Prop} (hI : IC f G J T S Z I) (hM : IM f G T S Z I) (hA : WA T S Z I) (hC : NX C) : vI scr (d + 20) 92 [.ref 0, .int a1, .int a2, .int a3, .int a4, .int a5] (wo f G J c) (fun x1 h => vI scr (d + 20) 138 [.ref 125, .int a1, .int a2, .int a3, .int a4, .int a5] h (fun x' h' => if x1 = x' then C h' else F h')) := by
  have hZ := hA.2.2.1.1
  have h400 := hA.1.1
  have e1 := hI.1.1
  have g1 := hM.1.1
  have c65 : ∀ K : Int32 → aH → Prop, vI scr (d + 19) 65 [.ref 1, .int 20] (wo f G J c) K = K (bz (decide (T.1 + 20 ≤ 400))) (wo f G J c) := by
    intro K
    unfold wo
    rw [sp65, e1, show (20 : Int32) = nI 20 from rfl, nI_add]
    congr 2
    have : (400 < nI (T.1 + 20)) = (400 < T.1 + 20) := propext (nI_ltI (a := 400) (by decide) (by omega))
    rw [Bool.eq_iff_iff]
    simp only [this]
    simp
  by_cases h : T.1 + 20 ≤ 400
  · have hA' : WA (pu4 (pu4 (pu4 (pu4 (pu4 T a1) a2) a3) a4) a5) S Z I := ⟨⟨h, pu_fit (pu_fit (pu_fit (pu_fit (pu_fit hA.1.2))))⟩, hA.2⟩
    apply op_all (ans := nI (T.1 + 20)) (T' := pu4 (pu4 (pu4 (pu4 (pu4 T a1) a2) a3) a4) a5) (S' := S) (Z' := Z) (I' := I) hM hA' _ _ hC
    · intro K hK
      unfold vI
      rw [u92_ok, en92, b92_0]
      simp only [tO scr, c65, h, decide_true, bz_t, n10, if_false, true_and]
      apply c66 hI.1 (by omega)
      intro f1 G1 t1 p1 q1
      simp only [tO scr]
      apply c66 t1 (by show T.1 + 4 + 4 ≤ 400; omega)
      intro f2 G2 t2 p2 q2
      simp only [tO scr]
      apply c66 t2 (by show T.1 + 4 + 4 + 4 ≤ 400; omega)
      intro f3 G3 t3 p3 q3
      simp only [tO scr]
      apply c66 t3 (by show T.1 + 4 + 4 + 4 + 4 ≤ 400; omega)
      intro f4 G4 t4 p4 q4
      simp only [tO scr]
      apply c66 t4 (by show T.1 + 4 + 4 + 4 + 4 + 4 ≤ 400; omega)
      intro f5 G5 t5 p5 q5
      have pf : ∀ o k, o ≠ 1 → f5 o k = f o k := fun o k ho => by rw [p5 o k ho, p4 o k ho, p3 o k ho, p2 o k ho, p1 o k ho]
      have pG : ∀ q k, q ≠ 2 → G5 q k = G q k := fun o k ho => by rw [q5 o k ho, q4 o k ho, q3 o k ho, q2 o k ho, q1 o k ho]
      simp only [tO scr, tA scr, t5.1]
      exact ⟨_, rfl, hK f5 G5 J c ⟨fun o k ho => pf o k (by omega), fun q k hq => pG q k (by omega), fun _ _ _ => rfl⟩ (IC_tp pf pG (fun _ _ => rfl) hZ t5 hI)⟩
    · intro f G J c hM K hK
      have g1 := hM.1.1
      unfold vI
      rw [u138_ok, en138, b138_0]
      have le : (nI T.1 + 20 ≤ (400 : Int32)) = True := by
        rw [show (20 : Int32) = nI 20 from rfl, nI_add]
        exact eq_true (nI_le (b := 400) h (by decide))
      simp only [mO scr, g1, le, if_true, true_and]
      apply m139 hM.1 (by omega)
      intro f1 G1 t1 p1 q1
      apply m139 t1 (by show T.1 + 4 + 4 ≤ 400; omega)
      intro f2 G2 t2 p2 q2
      apply m139 t2 (by show T.1 + 4 + 4 + 4 ≤ 400; omega)
      intro f3 G3 t3 p3 q3
      apply m139 t3 (by show T.1 + 4 + 4 + 4 + 4 ≤ 400; omega)
      intro f4 G4 t4 p4 q4
      apply m139 t4 (by show T.1 + 4 + 4 + 4 + 4 + 4 ≤ 400; omega)
      intro f5 G5 t5 p5 q5
      have pf : ∀ o k, ¬ (o = 125 ∧ k = 19) → f5 o k = f o k := fun o k ho => by rw [p5 o k ho, p4 o k ho, p3 o k ho, p2 o k ho, p1 o k ho]
      have pG : ∀ q k, q ≠ 143 → G5 q k = G q k := fun o k ho => by rw [q5 o k ho, q4 o k ho, q3 o k ho, q2 o k ho, q1 o k ho]
      simp only [mO scr, t5.1]
      exact ⟨_, rfl, hK f5 G5 J ⟨fun o k ho => pf o k (by omega), fun q k hq => pG q k (by omega), fun _ _ _ => rfl⟩ (IM_tp (pf 125 23 (by decide)) pG t5 hM)⟩
  · apply op_no (ans := -1) hI hM hA _ _ hC
    · intro K
      unfold vI
      rw [u92_ok, en92, b92_0]
      simp only [tO scr, c65, h, decide_false, bz_f, if_true, ex_i, true_and]
    · intro K
      unfold vI
      rw [u138_ok, en138, b138_0]
      have le : (nI T.1 + 20 ≤ (400 : Int32)) = False := by
        rw [show (20 : Int32) = nI 20 from rfl, nI_add]
        exact eq_false (nI_ge (a := 400) (by omega) (by omega))
      simp only [mO scr, g1, le, if_false, ex_i, true_and]
-- ===== rows kept in an image, and laid back =====
def svG (G : Nat → Nat → Int32) (a s n : Nat) : Nat → Nat → Int32 := fun q i => if q = 165 ∧ s ≤ i ∧ i < s + n then G a (i - s) else G q i
def ldG (G : Nat → Nat → Int32) (a s n : Nat) : Nat → Nat → Int32 := fun q i => if q = a ∧ i < n then G 165 (s + i) else G q i
theorem up_up {q k : Nat} {a b : Int32} : up2 (up2 f q k a) q k b = up2 f q k b := by
  funext q' k'
  unfold up2
  split <;> rfl
theorem svr_loop {a s n : Nat} (ha : LAY[a]? = some (.inl 1)) (hn : ln a = n) (ha5 : a ≠ 165) (hs : s + n ≤ 1320) (h55 : f 125 55 = 0) {K : Option Value → aH → Prop} : ∀ u i, n - i = u → i ≤ n → E scr false d 218 2 [.ref 125, .ref a, .int (nI i)] [] (wo (up2 f 125 54 (nI (s + i))) (svG G a s i) J c) K = K none (wo (up2 f 125 54 (nI (s + n))) (svG G a s n) J c) := by
  intro u
  induction u with
  | zero =>
    intro i hu hi
    have e : i = n := by omega
    rw [b218_2, wo_aN (t := 1) (by decide) (by decide) ha, hn, e, if_pos (show Int32.ofNat n ≤ nI n from nI_le (Nat.le_refl _) (by omega))]
  | succ u ih =>
    intro i hu hi
    have h1 : ¬ Int32.ofNat n ≤ nI i := nI_ge (by omega) (by omega)
    rw [b218_2, wo_aN (t := 1) (by decide) (by decide) ha, hn, if_neg h1]
    have e55 : up2 f 125 54 (nI (s + i)) 125 55 = 0 := by rw [up2_k (by decide)]; exact h55
    simp (disch := omega) only [mO scr, e55, if_true, up2_s, wo_aI ha (show i < ln a by omega), b218_42, up_up, nI_1]
    rw [show s + i + 1 = s + (i + 1) by omega, ← ih (i + 1) (by omega) (by omega)]
    congr 2
    funext q k
    unfold up2 svG
    by_cases e : q = 165 ∧ k = s + i
    · rw [if_pos e, if_neg (fun x => ha5 x.1), if_pos ⟨e.1, by omega, by omega⟩]
      congr 1
      omega
    · rw [if_neg e]
      by_cases e2 : q = 165 ∧ s ≤ k ∧ k < s + i
      · rw [if_pos e2, if_pos ⟨e2.1, e2.2.1, by omega⟩]
      · rw [if_neg e2, if_neg (fun x => by
          by_cases e3 : k = s + i
          · exact e ⟨x.1, e3⟩
          · exact e2 ⟨x.1, x.2.1, by omega⟩)]
theorem ld_loop2 {a s n : Nat} (ha : LAY[a]? = some (.inl 1)) (hn : ln a = n) (ha5 : a ≠ 165) (hs : s + n ≤ 1320) (h55 : f 125 55 = 1) {K : Option Value → aH → Prop} : ∀ u i, n - i = u → i ≤ n → E scr false d 218 2 [.ref 125, .ref a, .int (nI i)] [] (wo (up2 f 125 54 (nI (s + i))) (ldG G a s i) J c) K = K none (wo (up2 f 125 54 (nI (s + n))) (ldG G a s n) J c) := by
  intro u
  induction u with
  | zero =>
    intro i hu hi
    have e : i = n := by omega
    rw [b218_2, wo_aN (t := 1) (by decide) (by decide) ha, hn, e, if_pos (show Int32.ofNat n ≤ nI n from nI_le (Nat.le_refl _) (by omega))]
  | succ u ih =>
    intro i hu hi
    have h1 : ¬ Int32.ofNat n ≤ nI i := nI_ge (by omega) (by omega)
    rw [b218_2, wo_aN (t := 1) (by decide) (by decide) ha, hn, if_neg h1]
    have e55 : up2 f 125 54 (nI (s + i)) 125 55 = 1 := by rw [up2_k (by decide)]; exact h55
    simp (disch := omega) only [mO scr, e55, n10, if_false, up2_s, wo_wI ha (show i < ln a by omega), b218_42, up_up, nI_1]
    rw [show s + i + 1 = s + (i + 1) by omega, ← ih (i + 1) (by omega) (by omega)]
    congr 2
    funext q k
    unfold up2 ldG
    by_cases e : q = a ∧ k = i
    · rw [if_pos e, if_neg (fun x => ha5 x.1.symm), if_pos ⟨e.1, by omega⟩, e.2]
    · rw [if_neg e]
      by_cases e2 : q = a ∧ k < i
      · rw [if_pos e2, if_pos ⟨e2.1, by omega⟩]
      · rw [if_neg e2, if_neg (fun x => by
          by_cases e3 : k = i
          · exact e ⟨x.1, e3⟩
          · exact e2 ⟨x.1, by omega⟩)]
theorem sv_z {a s : Nat} : svG G a s 0 = G := by
  funext q i
  unfold svG
  rw [if_neg (by omega)]
theorem ld_z {a s : Nat} : ldG G a s 0 = G := by
  funext q i
  unfold ldG
  rw [if_neg (by omega)]
theorem m218s {a s n : Nat} (ha : LAY[a]? = some (.inl 1)) (hn : ln a = n) (ha5 : a ≠ 165) (hs : s + n ≤ 1320) (h54 : f 125 54 = nI s) (h55 : f 125 55 = 0) {K : aH → Prop} : vV scr d 218 [.ref 125, .ref a] (wo f G J c) K = K (wo (up2 f 125 54 (nI (s + n))) (svG G a s n) J c) := by
  unfold vV
  rw [u218_ok, en218, b218_0]
  have := svr_loop (scr := scr) (f := f) (G := G) (J := J) (c := c) (d := d) ha hn ha5 hs h55 (K := fun r h => r = none ∧ K h) n 0 rfl (by omega)
  rw [sv_z, Nat.add_zero, up2_id h54] at this
  have this : E scr false d 218 2 [.ref 125, .ref a, .int 0] [] (wo f G J c) (fun r h => r = none ∧ K h) = _ := this
  rw [this]
  simp
theorem m218l {a s n : Nat} (ha : LAY[a]? = some (.inl 1)) (hn : ln a = n) (ha5 : a ≠ 165) (hs : s + n ≤ 1320) (h54 : f 125 54 = nI s) (h55 : f 125 55 = 1) {K : aH → Prop} : vV scr d 218 [.ref 125, .ref a] (wo f G J c) K = K (wo (up2 f 125 54 (nI (s + n))) (ldG G a s n) J c) := by
  unfold vV
  rw [u218_ok, en218, b218_0]
  have := ld_loop2 (scr := scr) (f := f) (G := G) (J := J) (c := c) (d := d) ha hn ha5 hs h55 (K := fun r h => r = none ∧ K h) n 0 rfl (by omega)
  rw [ld_z, Nat.add_zero, up2_id h54] at this
  have this : E scr false d 218 2 [.ref 125, .ref a, .int 0] [] (wo f G J c) (fun r h => r = none ∧ K h) = _ := this
  rw [this]
  simp
def svA (G : Nat → Nat → Int32) (k : Nat) : Nat → Nat → Int32 := (svG (svG (svG (svG (svG (svG (svG (svG (svG G 126 (330 * k + 0) 6) 127 (330 * k + 6) 144) 128 (330 * k + 150) 12) 129 (330 * k + 162) 12) 135 (330 * k + 174) 14) 136 (330 * k + 188) 12) 137 (330 * k + 200) 40) 138 (330 * k + 240) 40) 139 (330 * k + 280) 40)
def ldA2 (G : Nat → Nat → Int32) (k : Nat) : Nat → Nat → Int32 := (ldG (ldG (ldG (ldG (ldG (ldG (ldG (ldG (ldG G 126 (330 * k + 0) 6) 127 (330 * k + 6) 144) 128 (330 * k + 150) 12) 129 (330 * k + 162) 12) 135 (330 * k + 174) 14) 136 (330 * k + 188) 12) 137 (330 * k + 200) 40) 138 (330 * k + 240) 40) 139 (330 * k + 280) 40)
theorem m219s {k : Nat} (hk : k < 4) {K : aH → Prop} (hK : ∀ f', (∀ o i, ¬ (o = 125 ∧ (i = 54 ∨ i = 55)) → f' o i = f o i) → K (wo f' (svA G k) J c)) : vV scr (d + 1) 219 [.ref 125, .int (nI k), .int 0] (wo f G J c) K := by
  unfold vV
  rw [u219_ok, en219, b219_0]
  have e330 : (330 : Int32) * nI k = nI (330 * k) := pk_mul 330 k
  simp only [mO scr, e330, true_or, or_true, true_and]
  have g0 : up2 (up2 f 125 54 (nI (330 * k))) 125 55 0 125 54 = nI (330 * k + 0) := by rw [up2_k (by decide), up2_s]; rfl
  have h0 : up2 (up2 f 125 54 (nI (330 * k))) 125 55 0 125 55 = 0 := up2_s
  generalize hf0 : up2 (up2 f 125 54 (nI (330 * k))) 125 55 0 = f0 at g0 h0 ⊢
  have q0 : ∀ o i, ¬ (o = 125 ∧ (i = 54 ∨ i = 55)) → f0 o i = f o i := by
    intro o i h
    rw [← hf0]
    unfold up2
    rw [if_neg (fun e => h ⟨e.1, Or.inr e.2⟩), if_neg (fun e => h ⟨e.1, Or.inl e.2⟩)]
  rw [m218s (a := 126) (s := 330 * k + 0) (n := 6) A_mo_scalar (by decide) (by decide) (by omega) g0 h0]
  have g1 : up2 f0 125 54 (nI (330 * k + 0 + 6)) 125 54 = nI (330 * k + 6) := by rw [up2_s, Nat.add_assoc]
  have h1 : up2 f0 125 54 (nI (330 * k + 0 + 6)) 125 55 = 0 := by rw [up2_k (by decide)]; exact h0
  have q1 : ∀ o i, ¬ (o = 125 ∧ (i = 54 ∨ i = 55)) → up2 f0 125 54 (nI (330 * k + 0 + 6)) o i = f o i := by
    intro o i h
    rw [← q0 o i h]
    unfold up2
    rw [if_neg (fun e => h ⟨e.1, Or.inl e.2⟩)]
  generalize up2 f0 125 54 (nI (330 * k + 0 + 6)) = f1 at g1 h1 q1 ⊢
  simp only [mO scr]
  rw [m218s (a := 127) (s := 330 * k + 6) (n := 144) A_mo_kind (by decide) (by decide) (by omega) g1 h1]
  have g2 : up2 f1 125 54 (nI (330 * k + 6 + 144)) 125 54 = nI (330 * k + 150) := by rw [up2_s, Nat.add_assoc]
  have h2 : up2 f1 125 54 (nI (330 * k + 6 + 144)) 125 55 = 0 := by rw [up2_k (by decide)]; exact h1
  have q2 : ∀ o i, ¬ (o = 125 ∧ (i = 54 ∨ i = 55)) → up2 f1 125 54 (nI (330 * k + 6 + 144)) o i = f o i := by
    intro o i h
    rw [← q1 o i h]
    unfold up2
    rw [if_neg (fun e => h ⟨e.1, Or.inl e.2⟩)]
  generalize up2 f1 125 54 (nI (330 * k + 6 + 144)) = f2 at g2 h2 q2 ⊢
  simp only [mO scr]
  rw [m218s (a := 128) (s := 330 * k + 150) (n := 12) A_mo_age (by decide) (by decide) (by omega) g2 h2]
  have g3 : up2 f2 125 54 (nI (330 * k + 150 + 12)) 125 54 = nI (330 * k + 162) := by rw [up2_s, Nat.add_assoc]
  have h3 : up2 f2 125 54 (nI (330 * k + 150 + 12)) 125 55 = 0 := by rw [up2_k (by decide)]; exact h2
  have q3 : ∀ o i, ¬ (o = 125 ∧ (i = 54 ∨ i = 55)) → up2 f2 125 54 (nI (330 * k + 150 + 12)) o i = f o i := by
    intro o i h
    rw [← q2 o i h]
    unfold up2
    rw [if_neg (fun e => h ⟨e.1, Or.inl e.2⟩)]
  generalize up2 f2 125 54 (nI (330 * k + 150 + 12)) = f3 at g3 h3 q3 ⊢
  simp only [mO scr]
  rw [m218s (a := 129) (s := 330 * k + 162) (n := 12) A_mo_sortOf (by decide) (by decide) (by omega) g3 h3]
  have g4 : up2 f3 125 54 (nI (330 * k + 162 + 12)) 125 54 = nI (330 * k + 174) := by rw [up2_s, Nat.add_assoc]
  have h4 : up2 f3 125 54 (nI (330 * k + 162 + 12)) 125 55 = 0 := by rw [up2_k (by decide)]; exact h3
  have q4 : ∀ o i, ¬ (o = 125 ∧ (i = 54 ∨ i = 55)) → up2 f3 125 54 (nI (330 * k + 162 + 12)) o i = f o i := by
    intro o i h
    rw [← q3 o i h]
    unfold up2
    rw [if_neg (fun e => h ⟨e.1, Or.inl e.2⟩)]
  generalize up2 f3 125 54 (nI (330 * k + 162 + 12)) = f4 at g4 h4 q4 ⊢
  simp only [mO scr]
  rw [m218s (a := 135) (s := 330 * k + 174) (n := 14) A_mo_place (by decide) (by decide) (by omega) g4 h4]
  have g5 : up2 f4 125 54 (nI (330 * k + 174 + 14)) 125 54 = nI (330 * k + 188) := by rw [up2_s, Nat.add_assoc]
  have h5 : up2 f4 125 54 (nI (330 * k + 174 + 14)) 125 55 = 0 := by rw [up2_k (by decide)]; exact h4
  have q5 : ∀ o i, ¬ (o = 125 ∧ (i = 54 ∨ i = 55)) → up2 f4 125 54 (nI (330 * k + 174 + 14)) o i = f o i := by
    intro o i h
    rw [← q4 o i h]
    unfold up2
    rw [if_neg (fun e => h ⟨e.1, Or.inl e.2⟩)]
  generalize up2 f4 125 54 (nI (330 * k + 174 + 14)) = f5 at g5 h5 q5 ⊢
  simp only [mO scr]
  rw [m218s (a := 136) (s := 330 * k + 188) (n := 12) A_mo_outAt (by decide) (by decide) (by omega) g5 h5]
  have g6 : up2 f5 125 54 (nI (330 * k + 188 + 12)) 125 54 = nI (330 * k + 200) := by rw [up2_s, Nat.add_assoc]
  have h6 : up2 f5 125 54 (nI (330 * k + 188 + 12)) 125 55 = 0 := by rw [up2_k (by decide)]; exact h5
  have q6 : ∀ o i, ¬ (o = 125 ∧ (i = 54 ∨ i = 55)) → up2 f5 125 54 (nI (330 * k + 188 + 12)) o i = f o i := by
    intro o i h
    rw [← q5 o i h]
    unfold up2
    rw [if_neg (fun e => h ⟨e.1, Or.inl e.2⟩)]
  generalize up2 f5 125 54 (nI (330 * k + 188 + 12)) = f6 at g6 h6 q6 ⊢
  simp only [mO scr]
  rw [m218s (a := 137) (s := 330 * k + 200) (n := 40) A_mo_spoorStep (by decide) (by decide) (by omega) g6 h6]
  have g7 : up2 f6 125 54 (nI (330 * k + 200 + 40)) 125 54 = nI (330 * k + 240) := by rw [up2_s, Nat.add_assoc]
  have h7 : up2 f6 125 54 (nI (330 * k + 200 + 40)) 125 55 = 0 := by rw [up2_k (by decide)]; exact h6
  have q7 : ∀ o i, ¬ (o = 125 ∧ (i = 54 ∨ i = 55)) → up2 f6 125 54 (nI (330 * k + 200 + 40)) o i = f o i := by
    intro o i h
    rw [← q6 o i h]
    unfold up2
    rw [if_neg (fun e => h ⟨e.1, Or.inl e.2⟩)]
  generalize up2 f6 125 54 (nI (330 * k + 200 + 40)) = f7 at g7 h7 q7 ⊢
  simp only [mO scr]
  rw [m218s (a := 138) (s := 330 * k + 240) (n := 40) A_mo_spoorWho (by decide) (by decide) (by omega) g7 h7]
  have g8 : up2 f7 125 54 (nI (330 * k + 240 + 40)) 125 54 = nI (330 * k + 280) := by rw [up2_s, Nat.add_assoc]
  have h8 : up2 f7 125 54 (nI (330 * k + 240 + 40)) 125 55 = 0 := by rw [up2_k (by decide)]; exact h7
  have q8 : ∀ o i, ¬ (o = 125 ∧ (i = 54 ∨ i = 55)) → up2 f7 125 54 (nI (330 * k + 240 + 40)) o i = f o i := by
    intro o i h
    rw [← q7 o i h]
    unfold up2
    rw [if_neg (fun e => h ⟨e.1, Or.inl e.2⟩)]
  generalize up2 f7 125 54 (nI (330 * k + 240 + 40)) = f8 at g8 h8 q8 ⊢
  simp only [mO scr]
  rw [m218s (a := 139) (s := 330 * k + 280) (n := 40) A_mo_spoorOther (by decide) (by decide) (by omega) g8 h8]
  have g9 : up2 f8 125 54 (nI (330 * k + 280 + 40)) 125 54 = nI (330 * k + 320) := by rw [up2_s, Nat.add_assoc]
  have h9 : up2 f8 125 54 (nI (330 * k + 280 + 40)) 125 55 = 0 := by rw [up2_k (by decide)]; exact h8
  have q9 : ∀ o i, ¬ (o = 125 ∧ (i = 54 ∨ i = 55)) → up2 f8 125 54 (nI (330 * k + 280 + 40)) o i = f o i := by
    intro o i h
    rw [← q8 o i h]
    unfold up2
    rw [if_neg (fun e => h ⟨e.1, Or.inl e.2⟩)]
  generalize up2 f8 125 54 (nI (330 * k + 280 + 40)) = f9 at g9 h9 q9 ⊢
  exact hK f9 q9
theorem m219l {k : Nat} (hk : k < 4) {K : aH → Prop} (hK : ∀ f', (∀ o i, ¬ (o = 125 ∧ (i = 54 ∨ i = 55)) → f' o i = f o i) → K (wo f' (ldA2 G k) J c)) : vV scr (d + 1) 219 [.ref 125, .int (nI k), .int 1] (wo f G J c) K := by
  unfold vV
  rw [u219_ok, en219, b219_0]
  have e330 : (330 : Int32) * nI k = nI (330 * k) := pk_mul 330 k
  simp only [mO scr, e330, true_or, or_true, true_and]
  have g0 : up2 (up2 f 125 54 (nI (330 * k))) 125 55 1 125 54 = nI (330 * k + 0) := by rw [up2_k (by decide), up2_s]; rfl
  have h0 : up2 (up2 f 125 54 (nI (330 * k))) 125 55 1 125 55 = 1 := up2_s
  generalize hf0 : up2 (up2 f 125 54 (nI (330 * k))) 125 55 1 = f0 at g0 h0 ⊢
  have q0 : ∀ o i, ¬ (o = 125 ∧ (i = 54 ∨ i = 55)) → f0 o i = f o i := by
    intro o i h
    rw [← hf0]
    unfold up2
    rw [if_neg (fun e => h ⟨e.1, Or.inr e.2⟩), if_neg (fun e => h ⟨e.1, Or.inl e.2⟩)]
  rw [m218l (a := 126) (s := 330 * k + 0) (n := 6) A_mo_scalar (by decide) (by decide) (by omega) g0 h0]
  have g1 : up2 f0 125 54 (nI (330 * k + 0 + 6)) 125 54 = nI (330 * k + 6) := by rw [up2_s, Nat.add_assoc]
  have h1 : up2 f0 125 54 (nI (330 * k + 0 + 6)) 125 55 = 1 := by rw [up2_k (by decide)]; exact h0
  have q1 : ∀ o i, ¬ (o = 125 ∧ (i = 54 ∨ i = 55)) → up2 f0 125 54 (nI (330 * k + 0 + 6)) o i = f o i := by
    intro o i h
    rw [← q0 o i h]
    unfold up2
    rw [if_neg (fun e => h ⟨e.1, Or.inl e.2⟩)]
  generalize up2 f0 125 54 (nI (330 * k + 0 + 6)) = f1 at g1 h1 q1 ⊢
  simp only [mO scr]
  rw [m218l (a := 127) (s := 330 * k + 6) (n := 144) A_mo_kind (by decide) (by decide) (by omega) g1 h1]
  have g2 : up2 f1 125 54 (nI (330 * k + 6 + 144)) 125 54 = nI (330 * k + 150) := by rw [up2_s, Nat.add_assoc]
  have h2 : up2 f1 125 54 (nI (330 * k + 6 + 144)) 125 55 = 1 := by rw [up2_k (by decide)]; exact h1
  have q2 : ∀ o i, ¬ (o = 125 ∧ (i = 54 ∨ i = 55)) → up2 f1 125 54 (nI (330 * k + 6 + 144)) o i = f o i := by
    intro o i h
    rw [← q1 o i h]
    unfold up2
    rw [if_neg (fun e => h ⟨e.1, Or.inl e.2⟩)]
  generalize up2 f1 125 54 (nI (330 * k + 6 + 144)) = f2 at g2 h2 q2 ⊢
  simp only [mO scr]
  rw [m218l (a := 128) (s := 330 * k + 150) (n := 12) A_mo_age (by decide) (by decide) (by omega) g2 h2]
  have g3 : up2 f2 125 54 (nI (330 * k + 150 + 12)) 125 54 = nI (330 * k + 162) := by rw [up2_s, Nat.add_assoc]
  have h3 : up2 f2 125 54 (nI (330 * k + 150 + 12)) 125 55 = 1 := by rw [up2_k (by decide)]; exact h2
  have q3 : ∀ o i, ¬ (o = 125 ∧ (i = 54 ∨ i = 55)) → up2 f2 125 54 (nI (330 * k + 150 + 12)) o i = f o i := by
    intro o i h
    rw [← q2 o i h]
    unfold up2
    rw [if_neg (fun e => h ⟨e.1, Or.inl e.2⟩)]
  generalize up2 f2 125 54 (nI (330 * k + 150 + 12)) = f3 at g3 h3 q3 ⊢
  simp only [mO scr]
  rw [m218l (a := 129) (s := 330 * k + 162) (n := 12) A_mo_sortOf (by decide) (by decide) (by omega) g3 h3]
  have g4 : up2 f3 125 54 (nI (330 * k + 162 + 12)) 125 54 = nI (330 * k + 174) := by rw [up2_s, Nat.add_assoc]
  have h4 : up2 f3 125 54 (nI (330 * k + 162 + 12)) 125 55 = 1 := by rw [up2_k (by decide)]; exact h3
  have q4 : ∀ o i, ¬ (o = 125 ∧ (i = 54 ∨ i = 55)) → up2 f3 125 54 (nI (330 * k + 162 + 12)) o i = f o i := by
    intro o i h
    rw [← q3 o i h]
    unfold up2
    rw [if_neg (fun e => h ⟨e.1, Or.inl e.2⟩)]
  generalize up2 f3 125 54 (nI (330 * k + 162 + 12)) = f4 at g4 h4 q4 ⊢
  simp only [mO scr]
  rw [m218l (a := 135) (s := 330 * k + 174) (n := 14) A_mo_place (by decide) (by decide) (by omega) g4 h4]
  have g5 : up2 f4 125 54 (nI (330 * k + 174 + 14)) 125 54 = nI (330 * k + 188) := by rw [up2_s, Nat.add_assoc]
  have h5 : up2 f4 125 54 (nI (330 * k + 174 + 14)) 125 55 = 1 := by rw [up2_k (by decide)]; exact h4
  have q5 : ∀ o i, ¬ (o = 125 ∧ (i = 54 ∨ i = 55)) → up2 f4 125 54 (nI (330 * k + 174 + 14)) o i = f o i := by
    intro o i h
    rw [← q4 o i h]
    unfold up2
    rw [if_neg (fun e => h ⟨e.1, Or.inl e.2⟩)]
  generalize up2 f4 125 54 (nI (330 * k + 174 + 14)) = f5 at g5 h5 q5 ⊢
  simp only [mO scr]
  rw [m218l (a := 136) (s := 330 * k + 188) (n := 12) A_mo_outAt (by decide) (by decide) (by omega) g5 h5]
  have g6 : up2 f5 125 54 (nI (330 * k + 188 + 12)) 125 54 = nI (330 * k + 200) := by rw [up2_s, Nat.add_assoc]
  have h6 : up2 f5 125 54 (nI (330 * k + 188 + 12)) 125 55 = 1 := by rw [up2_k (by decide)]; exact h5
  have q6 : ∀ o i, ¬ (o = 125 ∧ (i = 54 ∨ i = 55)) → up2 f5 125 54 (nI (330 * k + 188 + 12)) o i = f o i := by
    intro o i h
    rw [← q5 o i h]
    unfold up2
    rw [if_neg (fun e => h ⟨e.1, Or.inl e.2⟩)]
  generalize up2 f5 125 54 (nI (330 * k + 188 + 12)) = f6 at g6 h6 q6 ⊢
  simp only [mO scr]
  rw [m218l (a := 137) (s := 330 * k + 200) (n := 40) A_mo_spoorStep (by decide) (by decide) (by omega) g6 h6]
  have g7 : up2 f6 125 54 (nI (330 * k + 200 + 40)) 125 54 = nI (330 * k + 240) := by rw [up2_s, Nat.add_assoc]
  have h7 : up2 f6 125 54 (nI (330 * k + 200 + 40)) 125 55 = 1 := by rw [up2_k (by decide)]; exact h6
  have q7 : ∀ o i, ¬ (o = 125 ∧ (i = 54 ∨ i = 55)) → up2 f6 125 54 (nI (330 * k + 200 + 40)) o i = f o i := by
    intro o i h
    rw [← q6 o i h]
    unfold up2
    rw [if_neg (fun e => h ⟨e.1, Or.inl e.2⟩)]
  generalize up2 f6 125 54 (nI (330 * k + 200 + 40)) = f7 at g7 h7 q7 ⊢
  simp only [mO scr]
  rw [m218l (a := 138) (s := 330 * k + 240) (n := 40) A_mo_spoorWho (by decide) (by decide) (by omega) g7 h7]
  have g8 : up2 f7 125 54 (nI (330 * k + 240 + 40)) 125 54 = nI (330 * k + 280) := by rw [up2_s, Nat.add_assoc]
  have h8 : up2 f7 125 54 (nI (330 * k + 240 + 40)) 125 55 = 1 := by rw [up2_k (by decide)]; exact h7
  have q8 : ∀ o i, ¬ (o = 125 ∧ (i = 54 ∨ i = 55)) → up2 f7 125 54 (nI (330 * k + 240 + 40)) o i = f o i := by
    intro o i h
    rw [← q7 o i h]
    unfold up2
    rw [if_neg (fun e => h ⟨e.1, Or.inl e.2⟩)]
  generalize up2 f7 125 54 (nI (330 * k + 240 + 40)) = f8 at g8 h8 q8 ⊢
  simp only [mO scr]
  rw [m218l (a := 139) (s := 330 * k + 280) (n := 40) A_mo_spoorOther (by decide) (by decide) (by omega) g8 h8]
  have g9 : up2 f8 125 54 (nI (330 * k + 280 + 40)) 125 54 = nI (330 * k + 320) := by rw [up2_s, Nat.add_assoc]
  have h9 : up2 f8 125 54 (nI (330 * k + 280 + 40)) 125 55 = 1 := by rw [up2_k (by decide)]; exact h8
  have q9 : ∀ o i, ¬ (o = 125 ∧ (i = 54 ∨ i = 55)) → up2 f8 125 54 (nI (330 * k + 280 + 40)) o i = f o i := by
    intro o i h
    rw [← q8 o i h]
    unfold up2
    rw [if_neg (fun e => h ⟨e.1, Or.inl e.2⟩)]
  generalize up2 f8 125 54 (nI (330 * k + 280 + 40)) = f9 at g9 h9 q9 ⊢
  exact hK f9 q9
theorem sv_o {a s n q x : Nat} (h : q ≠ 165) : svG G a s n q x = G q x := by
  unfold svG
  rw [if_neg (fun e => h e.1)]
theorem sv_in {a s n x : Nat} (h1 : s ≤ x) (h2 : x < s + n) : svG G a s n 165 x = G a (x - s) := by
  unfold svG
  rw [if_pos ⟨rfl, h1, h2⟩]
theorem sv_out {a s n x : Nat} (h : x < s ∨ s + n ≤ x) : svG G a s n 165 x = G 165 x := by
  unfold svG
  rw [if_neg (by omega)]
theorem ld_o {a s n q x : Nat} (h : q ≠ a) : ldG G a s n q x = G q x := by
  unfold ldG
  rw [if_neg (fun e => h e.1)]
theorem ld_in {a s n x : Nat} (h2 : x < n) : ldG G a s n a x = G 165 (s + x) := by
  unfold ldG
  rw [if_pos ⟨rfl, h2⟩]
theorem svA_o {k q x : Nat} (h : q ≠ 165) : svA G k q x = G q x := by
  unfold svA
  rw [sv_o h, sv_o h, sv_o h, sv_o h, sv_o h, sv_o h, sv_o h, sv_o h, sv_o h]
theorem svA_out {k x : Nat} (h : x < 330 * k ∨ 330 * k + 320 ≤ x) : svA G k 165 x = G 165 x := by
  unfold svA
  rw [sv_out (by omega), sv_out (by omega), sv_out (by omega), sv_out (by omega), sv_out (by omega), sv_out (by omega), sv_out (by omega), sv_out (by omega), sv_out (by omega)]
theorem svA_126 {k i : Nat} (h : i < 6) : svA G k 165 (330 * k + 0 + i) = G 126 i := by
  unfold svA
  rw [sv_out (by omega), sv_out (by omega), sv_out (by omega), sv_out (by omega), sv_out (by omega), sv_out (by omega), sv_out (by omega), sv_out (by omega), sv_in (by omega) (by omega), show 330 * k + 0 + i - (330 * k + 0) = i by omega]
theorem svA_127 {k i : Nat} (h : i < 144) : svA G k 165 (330 * k + 6 + i) = G 127 i := by
  unfold svA
  rw [sv_out (by omega), sv_out (by omega), sv_out (by omega), sv_out (by omega), sv_out (by omega), sv_out (by omega), sv_out (by omega), sv_in (by omega) (by omega), sv_o (by decide), show 330 * k + 6 + i - (330 * k + 6) = i by omega]
theorem svA_128 {k i : Nat} (h : i < 12) : svA G k 165 (330 * k + 150 + i) = G 128 i := by
  unfold svA
  rw [sv_out (by omega), sv_out (by omega), sv_out (by omega), sv_out (by omega), sv_out (by omega), sv_out (by omega), sv_in (by omega) (by omega), sv_o (by decide), sv_o (by decide), show 330 * k + 150 + i - (330 * k + 150) = i by omega]
theorem svA_129 {k i : Nat} (h : i < 12) : svA G k 165 (330 * k + 162 + i) = G 129 i := by
  unfold svA
  rw [sv_out (by omega), sv_out (by omega), sv_out (by omega), sv_out (by omega), sv_out (by omega), sv_in (by omega) (by omega), sv_o (by decide), sv_o (by decide), sv_o (by decide), show 330 * k + 162 + i - (330 * k + 162) = i by omega]
theorem svA_135 {k i : Nat} (h : i < 14) : svA G k 165 (330 * k + 174 + i) = G 135 i := by
  unfold svA
  rw [sv_out (by omega), sv_out (by omega), sv_out (by omega), sv_out (by omega), sv_in (by omega) (by omega), sv_o (by decide), sv_o (by decide), sv_o (by decide), sv_o (by decide), show 330 * k + 174 + i - (330 * k + 174) = i by omega]
theorem svA_136 {k i : Nat} (h : i < 12) : svA G k 165 (330 * k + 188 + i) = G 136 i := by
  unfold svA
  rw [sv_out (by omega), sv_out (by omega), sv_out (by omega), sv_in (by omega) (by omega), sv_o (by decide), sv_o (by decide), sv_o (by decide), sv_o (by decide), sv_o (by decide), show 330 * k + 188 + i - (330 * k + 188) = i by omega]
theorem svA_137 {k i : Nat} (h : i < 40) : svA G k 165 (330 * k + 200 + i) = G 137 i := by
  unfold svA
  rw [sv_out (by omega), sv_out (by omega), sv_in (by omega) (by omega), sv_o (by decide), sv_o (by decide), sv_o (by decide), sv_o (by decide), sv_o (by decide), sv_o (by decide), show 330 * k + 200 + i - (330 * k + 200) = i by omega]
theorem svA_138 {k i : Nat} (h : i < 40) : svA G k 165 (330 * k + 240 + i) = G 138 i := by
  unfold svA
  rw [sv_out (by omega), sv_in (by omega) (by omega), sv_o (by decide), sv_o (by decide), sv_o (by decide), sv_o (by decide), sv_o (by decide), sv_o (by decide), sv_o (by decide), show 330 * k + 240 + i - (330 * k + 240) = i by omega]
theorem svA_139 {k i : Nat} (h : i < 40) : svA G k 165 (330 * k + 280 + i) = G 139 i := by
  unfold svA
  rw [sv_in (by omega) (by omega), sv_o (by decide), sv_o (by decide), sv_o (by decide), sv_o (by decide), sv_o (by decide), sv_o (by decide), sv_o (by decide), sv_o (by decide), show 330 * k + 280 + i - (330 * k + 280) = i by omega]
theorem ldA_126 {k i : Nat} (h : i < 6) : ldA2 G k 126 i = G 165 (330 * k + 0 + i) := by
  unfold ldA2
  rw [ld_o (by decide), ld_o (by decide), ld_o (by decide), ld_o (by decide), ld_o (by decide), ld_o (by decide), ld_o (by decide), ld_o (by decide), ld_in h]
theorem ldA_127 {k i : Nat} (h : i < 144) : ldA2 G k 127 i = G 165 (330 * k + 6 + i) := by
  unfold ldA2
  rw [ld_o (by decide), ld_o (by decide), ld_o (by decide), ld_o (by decide), ld_o (by decide), ld_o (by decide), ld_o (by decide), ld_in h, ld_o (by decide)]
theorem ldA_128 {k i : Nat} (h : i < 12) : ldA2 G k 128 i = G 165 (330 * k + 150 + i) := by
  unfold ldA2
  rw [ld_o (by decide), ld_o (by decide), ld_o (by decide), ld_o (by decide), ld_o (by decide), ld_o (by decide), ld_in h, ld_o (by decide), ld_o (by decide)]
theorem ldA_129 {k i : Nat} (h : i < 12) : ldA2 G k 129 i = G 165 (330 * k + 162 + i) := by
  unfold ldA2
  rw [ld_o (by decide), ld_o (by decide), ld_o (by decide), ld_o (by decide), ld_o (by decide), ld_in h, ld_o (by decide), ld_o (by decide), ld_o (by decide)]
theorem ldA_135 {k i : Nat} (h : i < 14) : ldA2 G k 135 i = G 165 (330 * k + 174 + i) := by
  unfold ldA2
  rw [ld_o (by decide), ld_o (by decide), ld_o (by decide), ld_o (by decide), ld_in h, ld_o (by decide), ld_o (by decide), ld_o (by decide), ld_o (by decide)]
theorem ldA_136 {k i : Nat} (h : i < 12) : ldA2 G k 136 i = G 165 (330 * k + 188 + i) := by
  unfold ldA2
  rw [ld_o (by decide), ld_o (by decide), ld_o (by decide), ld_in h, ld_o (by decide), ld_o (by decide), ld_o (by decide), ld_o (by decide), ld_o (by decide)]
theorem ldA_137 {k i : Nat} (h : i < 40) : ldA2 G k 137 i = G 165 (330 * k + 200 + i) := by
  unfold ldA2
  rw [ld_o (by decide), ld_o (by decide), ld_in h, ld_o (by decide), ld_o (by decide), ld_o (by decide), ld_o (by decide), ld_o (by decide), ld_o (by decide)]
theorem ldA_138 {k i : Nat} (h : i < 40) : ldA2 G k 138 i = G 165 (330 * k + 240 + i) := by
  unfold ldA2
  rw [ld_o (by decide), ld_in h, ld_o (by decide), ld_o (by decide), ld_o (by decide), ld_o (by decide), ld_o (by decide), ld_o (by decide), ld_o (by decide)]
theorem ldA_139 {k i : Nat} (h : i < 40) : ldA2 G k 139 i = G 165 (330 * k + 280 + i) := by
  unfold ldA2
  rw [ld_in h, ld_o (by decide), ld_o (by decide), ld_o (by decide), ld_o (by decide), ld_o (by decide), ld_o (by decide), ld_o (by decide), ld_o (by decide)]
theorem ldA_o {k q i : Nat} (h : ¬ (126 ≤ q ∧ q ≤ 129) ∧ ¬ (135 ≤ q ∧ q ≤ 139)) : ldA2 G k q i = G q i := by
  unfold ldA2
  rw [ld_o (by omega), ld_o (by omega), ld_o (by omega), ld_o (by omega), ld_o (by omega), ld_o (by omega), ld_o (by omega), ld_o (by omega), ld_o (by omega)]
end TZ
