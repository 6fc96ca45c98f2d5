variable {scr : List Int32}
-- ===== copies =====
section PA
variable {f G f' G' f1 G1 f2 G2 : Nat → Nat → Int32} {J J' J1 J2 : Nat → Nat → Int64} {c : Value} {d p q : Nat} {P : Pn} {D : Dy} {B : Nat → Nat} {L : Lw}
theorem wo_congrG (h : ∀ q k, k < ln q → G1 q k = G2 q k) : wo f G1 J c = wo f G2 J c := by
  unfold wo
  congr 1
  funext q
  exact rwN_congr (fun k hk => h q k hk)
def cpR (G : Nat → Nat → Int32) (a b : Nat) : Nat → Nat → Int32 := fun q k => if q = b then G a k else G q k
theorem lay_loop {a b n : Nat} (ha : LAY[a]? = some (.inl 1)) (hb : LAY[b]? = some (.inl 1)) (hab : a ≠ b) (na : ln a = n) (nb : ln b = n) {K : Option Value → aH → Prop} : ∀ m k, n - k = m → k ≤ n → ∀ G, E scr false d 166 2 [.ref a, .ref b, .int (nI k)] [] (wo f G J c) K = K none (wo f (fun q i => if q = b ∧ k ≤ i then G a i else G q i) J c) := by
  have hn31 : n < 2 ^ 31 := by rw [← na]; exact ln_lt
  intro m
  induction m with
  | zero =>
    intro k hm hk G
    rw [b166_2, wo_aN (t := 1) (by decide) (by decide) ha, na, if_pos (show Int32.ofNat n ≤ nI k from nI_le (a := n) (b := k) (by omega) (by omega))]
    refine congrArg (K none) (wo_congrG ?_)
    intro q i hi
    by_cases e : q = b
    · subst e
      rw [if_neg (by omega)]
    · rw [if_neg (fun h => e h.1)]
  | succ m ih =>
    intro k hm hk G
    rw [b166_2, wo_aN (t := 1) (by decide) (by decide) ha, na, if_neg (show ¬ Int32.ofNat n ≤ nI k from by
      show ¬ nI n ≤ nI k
      rw [nI_leI (by omega) (by omega)]; omega), wo_aI ha (by omega), wo_wI hb (by omega), nI_1, ih (k + 1) (by omega) (by omega)]
    refine congrArg (K none) (wo_congrG ?_)
    intro q i hi
    by_cases e : q = b
    · subst e
      by_cases e2 : k + 1 ≤ i
      · rw [if_pos ⟨rfl, e2⟩, if_pos ⟨rfl, by omega⟩, up2_q hab]
      · rw [if_neg (by omega), up2_a]
        by_cases e3 : i = k
        · rw [if_pos e3, if_pos ⟨rfl, by omega⟩, e3]
        · rw [if_neg e3, if_neg (by omega)]
    · rw [if_neg (fun h => e h.1), if_neg (fun h => e h.1), up2_q e]
theorem m166 {a b : Nat} (ha : LAY[a]? = some (.inl 1)) (hb : LAY[b]? = some (.inl 1)) (hab : a ≠ b) (hn : ln b = ln a) {T : aH → Prop} : sV scr d 166 [.ref a, .ref b] (wo f G J c) T = T (wo f (cpR G a b) J c) := by
  unfold sV
  rw [en166, b166_0, show (0 : Int32) = nI 0 from rfl, lay_loop ha hb hab rfl hn (ln a) 0 rfl (by omega)]
  simp only [true_and]
  refine congrArg T (wo_congrG ?_)
  intro q i _
  unfold cpR
  by_cases e : q = b
  · rw [if_pos ⟨e, by omega⟩, if_pos e]
  · rw [if_neg (fun h => e h.1), if_neg e]
def kpG (G : Nat → Nat → Int32) : Nat → Nat → Int32 := cpR (cpR (cpR G 126 154) 135 155) 136 156
def lbG (G : Nat → Nat → Int32) : Nat → Nat → Int32 := cpR (cpR (cpR G 154 126) 155 135) 156 136
theorem m193 {T : aH → Prop} : vV scr (d + 1) 193 [.ref 125] (wo f G J c) T = T (wo f (kpG G) J c) := by
  unfold vV
  rw [u193_ok, en193, b193_0]
  simp only [mO scr, m166 A_mo_scalar A_mo_keptScalar (by decide) rfl, m166 A_mo_place A_mo_keptPlace (by decide) rfl, m166 A_mo_outAt A_mo_keptOut (by decide) rfl, true_and]
  rfl
theorem m194 {T : aH → Prop} : vV scr (d + 1) 194 [.ref 125] (wo f G J c) T = T (wo f (lbG G) J c) := by
  unfold vV
  rw [u194_ok, en194, b194_0]
  simp only [mO scr, m166 A_mo_keptScalar A_mo_scalar (by decide) rfl, m166 A_mo_keptPlace A_mo_place (by decide) rfl, m166 A_mo_keptOut A_mo_outAt (by decide) rfl, true_and]
  rfl
theorem kp_at {q k : Nat} : kpG G q k = if q = 154 then G 126 k else if q = 155 then G 135 k else if q = 156 then G 136 k else G q k := by
  unfold kpG cpR
  by_cases h1 : q = 156
  · subst h1; rfl
  · by_cases h2 : q = 155
    · subst h2; rfl
    · by_cases h3 : q = 154
      · subst h3; rfl
      · simp [h1, h2, h3]
theorem lb_at {q k : Nat} : lbG G q k = if q = 126 then G 154 k else if q = 135 then G 155 k else if q = 136 then G 156 k else G q k := by
  unfold lbG cpR
  by_cases h1 : q = 136
  · subst h1; rfl
  · by_cases h2 : q = 135
    · subst h2; rfl
    · by_cases h3 : q = 126
      · subst h3; rfl
      · simp [h1, h2, h3]
/-- what the model's questions leave -/
def FQ (f G : Nat → Nat → Int32) (J : Nat → Nat → Int64) (f' G' : Nat → Nat → Int32) (J' : Nat → Nat → Int64) : Prop :=
  (∀ o k, ¬ (o = 125 ∧ (k = 18 ∨ k = 40)) → f' o k = f o k) ∧ (∀ q k, q ≠ 140 → q ≠ 141 → q ≠ 142 → ¬ (153 ≤ q ∧ q ≤ 164) → G' q k = G q k) ∧ (∀ q k, q ≠ 151 → q ≠ 152 → J' q k = J q k)
theorem FQ_rf : FQ f G J f G J := ⟨fun _ _ _ => rfl, fun _ _ _ _ _ _ => rfl, fun _ _ _ _ => rfl⟩
theorem FQ_tr (h : FQ f G J f1 G1 J1) (h' : FQ f1 G1 J1 f2 G2 J2) : FQ f G J f2 G2 J2 :=
  ⟨fun o k a => (h'.1 o k a).trans (h.1 o k a), fun q k a b c d => (h'.2.1 q k a b c d).trans (h.2.1 q k a b c d), fun q k a b => (h'.2.2 q k a b).trans (h.2.2 q k a b)⟩
/-- kept, walked, laid back -/
theorem FQ_kl (h : FRm f1 (kpG G) J f2 G2 J2) (hf : ∀ o k, ¬ (o = 125 ∧ (k = 18 ∨ k = 40)) → f1 o k = f o k) : FQ f G J f2 (lbG G2) J2 := by
  obtain ⟨h1, h2, h3⟩ := h
  refine ⟨fun o k a => (h1 o k a).trans (hf o k a), ?_, h3⟩
  intro q k a1 a2 a3 a4
  rw [lb_at]
  have e154 : ∀ k, G2 154 k = G 126 k := fun k => by rw [h2 154 k (by decide) (by decide) (by decide) (by decide) (by omega), kp_at]; rfl
  have e155 : ∀ k, G2 155 k = G 135 k := fun k => by rw [h2 155 k (by decide) (by decide) (by decide) (by decide) (by omega), kp_at]; rfl
  have e156 : ∀ k, G2 156 k = G 136 k := fun k => by rw [h2 156 k (by decide) (by decide) (by decide) (by decide) (by omega), kp_at]; rfl
  by_cases b1 : q = 126
  · rw [if_pos b1, e154, b1]
  · rw [if_neg b1]
    by_cases b2 : q = 135
    · rw [if_pos b2, e155, b2]
    · rw [if_neg b2]
      by_cases b3 : q = 136
      · rw [if_pos b3, e156, b3]
      · rw [if_neg b3, h2 q k b2 b3 a3 (by omega) (by omega), kp_at, if_neg (by omega), if_neg (by omega), if_neg (by omega)]
theorem CM_cg {r : Nat} (h : ∀ q k, (q = 126 ∧ k < 4) ∨ (127 ≤ q ∧ q ≤ 129) ∨ q = 140 ∨ (144 ≤ q ∧ q ≤ 149) → G' q k = G q k) (hx : CM G r P B L) : CM G' r P B L := by
  obtain ⟨hm, hL, hB⟩ := hx
  refine ⟨?_, LRm_cg (fun q k hq => h q k (by omega)) hL, fun q hq => by rw [h 140 q (by omega)]; exact hB q hq⟩
  have e : ∀ i, (127 ≤ i ∧ i ≤ 129) → ∀ k, G' i k = G i k := fun i hi k => h i k (by omega)
  unfold MS at hm ⊢
  simp only [h 126 0 (by omega), h 126 1 (by omega), h 126 2 (by omega), h 126 3 (by omega), e 127 (by omega), e 128 (by omega), e 129 (by omega)]
  exact hm
theorem MD_cg (h4 : G' 126 4 = G 126 4) (h : ∀ k, G' 135 k = G 135 k ∧ G' 136 k = G 136 k) (hd : MD G P D) : MD G' P D := by
  unfold MD at hd ⊢
  simp only [h4, (h _).1, (h _).2]
  exact hd
theorem kp_n {q k : Nat} (h : ¬ (154 ≤ q ∧ q ≤ 156)) : kpG G q k = G q k := by rw [kp_at, if_neg (by omega), if_neg (by omega), if_neg (by omega)]
theorem CM_kp {r : Nat} (hx : CM G r P B L) : CM (kpG G) r P B L := CM_cg (fun q k h => kp_n (by omega)) hx
theorem MD_kp (hd : MD G P D) : MD (kpG G) P D := MD_cg (kp_n (by omega)) (fun k => ⟨kp_n (by omega), kp_n (by omega)⟩) hd
theorem CM_fq {r : Nat} (h : FQ f G J f1 G1 J1) (h140 : ∀ q, q < 144 → G1 140 q = nI (B q)) (hx : CM G r P B L) : CM G1 r P B L := by
  obtain ⟨hm, hL, hB⟩ := hx
  obtain ⟨-, h2, -⟩ := h
  have hc : CM (fun q k => if q = 140 then G 140 k else G1 q k) r P B L := CM_cg (G := G) (fun q k hq => by
    show (if q = 140 then G 140 k else G1 q k) = G q k
    by_cases e : q = 140
    · rw [if_pos e, e]
    · rw [if_neg e]; exact h2 q k e (by omega) (by omega) (by omega)) ⟨hm, hL, hB⟩
  exact ⟨hc.1, hc.2.1, h140⟩
theorem MD_fq (h : FQ f G J f1 G1 J1) (hd : MD G P D) : MD G1 P D := MD_cg (h.2.1 126 4 (by decide) (by decide) (by decide) (by omega)) (fun k => ⟨h.2.1 135 k (by decide) (by decide) (by decide) (by omega), h.2.1 136 k (by decide) (by decide) (by decide) (by omega)⟩) hd
theorem TG_fq (h : ∀ q k, q = 140 → G1 q k = G q k) (hB : ∀ q, q < 144 → G 140 q = nI (B q)) : ∀ q, q < 144 → G1 140 q = nI (B q) := fun q hq => by rw [h 140 q rfl]; exact hB q hq
-- the class's copies
theorem fit_o {o : Option Nat} (h : ∀ a, o = some a → a < 14) : fits .byte (.int (oI o)) = true := by
  cases o with
  | none => decide
  | some a =>
    have : ∀ a, a < 14 → fits .byte (.int (nI a)) = true := by decide +kernel
    exact this a (h a rfl)
theorem scB (hq : isSc q) (hs : RS f G q P) (hd : RD f G q D) : scByte (fun r => rwN (ln r) (G r)) q := by
  obtain ⟨l1, l2, -⟩ := sc_ln hq
  refine ⟨?_, ?_⟩
  · rw [List.all_eq_true]
    intro x hx
    simp only [l1, rwN, List.mem_map, List.mem_range] at hx
    obtain ⟨k, hk, rfl⟩ := hx
    exact hs.2.2.2.2 k hk
  · rw [List.all_eq_true]
    intro x hx
    simp only [l2, rwN, List.mem_map, List.mem_range] at hx
    obtain ⟨k, hk, rfl⟩ := hx
    rw [hd.2.2.1 k hk]
    exact fit_o (fun a ha => (who_some ha).1)
theorem scL (hp : isSc p) : scLen (fun r => rwN (ln r) (G r)) p := by
  obtain ⟨l1, l2, l3, l4, l5, l6, l7, l8, l9⟩ := sc_ln hp
  simp only [scLen, rwN_len]
  exact ⟨l1, l2, l3, l4, l5, l6, l7, l8, l9⟩
theorem w51 (hp : isSc p) (hq : isSc q) (hne : ¬ p = q) (hs : RS f G q P) (hd : RD f G q D) {T : aH → Prop} (hT : ∀ f' G', (∀ k, k < 8 → f' p k = f q k) → (∀ o k, o ≠ p → f' o k = f o k) → (∀ i k, 1 ≤ i → i ≤ 9 → G' (p + i) k = G (q + i) k) → (∀ r k, ¬ (p + 1 ≤ r ∧ r ≤ p + 9) → G' r k = G r k) → T (wo f' G' J c)) : vV scr (d + 2) 51 [.ref p, .ref q] (wo f G J c) T := by
  have key : mk (cpPF (cpBF f p q) p q) (cpPG (cpBG (fun r => rwN (ln r) (G r)) p q) p q) (fun r => rwN (ln r) (J r)) c = wo (cpPF (cpBF f p q) p q) (fun r k => if p + 1 ≤ r ∧ r ≤ p + 9 then G (q + (r - p)) k else G r k) J c := by
    unfold wo
    congr 1
    funext r
    obtain ⟨l1, l2, l3, l4, l5, l6, l7, l8, l9⟩ := sc_ln hp
    obtain ⟨k1, k2, k3, k4, k5, k6, k7, k8, k9⟩ := sc_ln hq
    have dis : ∀ i j, i ≤ 9 → 1 ≤ i → j ≤ 9 → 1 ≤ j → q + i ≠ p + j := by
      intro i j hi h1 hj h2 e
      rcases hp with rfl | rfl | rfl | rfl | rfl | rfl | rfl | rfl <;> rcases hq with rfl | rfl | rfl | rfl | rfl | rfl | rfl | rfl <;> omega
    by_cases hr : p + 1 ≤ r ∧ r ≤ p + 9
    · simp only [hr, and_self, if_true]
      have : r = p + 1 ∨ r = p + 2 ∨ r = p + 3 ∨ r = p + 4 ∨ r = p + 5 ∨ r = p + 6 ∨ r = p + 7 ∨ r = p + 8 ∨ r = p + 9 := by omega
      have d2 := dis 2
      have d3 := dis 3
      have d6 := dis 6
      rcases this with rfl | rfl | rfl | rfl | rfl | rfl | rfl | rfl | rfl
      all_goals simp only [cpPG, cpBG, up1, Nat.add_right_inj, Nat.reduceEqDiff, if_true, if_false, Nat.add_sub_cancel_left, l1, l2, l3, l4, l5, l6, l7, l8, l9, k1, k2, k3, k4, k5, k6, k7, k8, k9, d2 1 (by omega) (by omega) (by omega) (by omega), d2 4 (by omega) (by omega) (by omega) (by omega), d2 5 (by omega) (by omega) (by omega) (by omega), d2 7 (by omega) (by omega) (by omega) (by omega), d2 8 (by omega) (by omega) (by omega) (by omega), d2 9 (by omega) (by omega) (by omega) (by omega), d3 1 (by omega) (by omega) (by omega) (by omega), d3 4 (by omega) (by omega) (by omega) (by omega), d3 5 (by omega) (by omega) (by omega) (by omega), d3 7 (by omega) (by omega) (by omega) (by omega), d3 8 (by omega) (by omega) (by omega) (by omega), d3 9 (by omega) (by omega) (by omega) (by omega), d6 1 (by omega) (by omega) (by omega) (by omega), d6 4 (by omega) (by omega) (by omega) (by omega), d6 5 (by omega) (by omega) (by omega) (by omega), d6 7 (by omega) (by omega) (by omega) (by omega), d6 8 (by omega) (by omega) (by omega) (by omega), d6 9 (by omega) (by omega) (by omega) (by omega)]
    · simp only [hr, if_false]
      have ne : ∀ i, 1 ≤ i → i ≤ 9 → r ≠ p + i := fun i h1 h2 e => hr ⟨by omega, by omega⟩
      simp only [cpPG, cpBG, up1, ne 1 (by omega) (by omega), ne 2 (by omega) (by omega), ne 3 (by omega) (by omega), ne 4 (by omega) (by omega), ne 5 (by omega) (by omega), ne 6 (by omega) (by omega), ne 7 (by omega) (by omega), ne 8 (by omega) (by omega), ne 9 (by omega) (by omega), if_false]
  have e1 : wo f G J c = mk f (fun r => rwN (ln r) (G r)) (fun r => rwN (ln r) (J r)) c := rfl
  rw [e1, sp51 hp hq hne (scL hp) (scL hq) (scB hq hs hd), key]
  apply hT
  · intro k hk
    have : k = 0 ∨ k = 1 ∨ k = 2 ∨ k = 3 ∨ k = 4 ∨ k = 5 ∨ k = 6 ∨ k = 7 := by omega
    have hne' : ¬ q = p := fun e => hne e.symm
    rcases this with rfl | rfl | rfl | rfl | rfl | rfl | rfl | rfl <;> simp [cpPF, cpBF, up2, hne']
  · intro o k ho
    simp [cpPF, cpBF, up2, ho]
  · intro i k h1 h2
    show (if p + 1 ≤ p + i ∧ p + i ≤ p + 9 then G (q + (p + i - p)) k else G (p + i) k) = _
    rw [if_pos ⟨by omega, by omega⟩, Nat.add_sub_cancel_left]
  · intro r k hr
    show (if p + 1 ≤ r ∧ r ≤ p + 9 then G (q + (r - p)) k else G r k) = _
    rw [if_neg hr]
theorem w52 (hp : isSc p) (hq : isSc q) (hne : ¬ p = q) (hs : RS f G q P) (hd : RD f G q D) {T : aH → Prop} (hT : ∀ f' G', (f' p 5 = f q 5 ∧ f' p 6 = f q 6) → (∀ o k, ¬ (o = p ∧ (k = 5 ∨ k = 6)) → f' o k = f o k) → (∀ k, G' (p + 2) k = G (q + 2) k ∧ G' (p + 3) k = G (q + 3) k ∧ G' (p + 6) k = G (q + 6) k) → (∀ r k, r ≠ p + 2 → r ≠ p + 3 → r ≠ p + 6 → G' r k = G r k) → T (wo f' G' J c)) : vV scr (d + 1) 52 [.ref p, .ref q] (wo f G J c) T := by
  have dis : ∀ i j, i ≤ 9 → 1 ≤ i → j ≤ 9 → 1 ≤ j → q + i ≠ p + j := by
    intro i j hi h1 hj h2 e
    rcases hp with rfl | rfl | rfl | rfl | rfl | rfl | rfl | rfl <;> rcases hq with rfl | rfl | rfl | rfl | rfl | rfl | rfl | rfl <;> omega
  have key : mk (cpPF f p q) (cpPG (fun r => rwN (ln r) (G r)) p q) (fun r => rwN (ln r) (J r)) c = wo (cpPF f p q) (fun r k => if r = p + 2 ∨ r = p + 3 ∨ r = p + 6 then G (q + (r - p)) k else G r k) J c := by
    unfold wo
    congr 1
    funext r
    obtain ⟨l1, l2, l3, l4, l5, l6, l7, l8, l9⟩ := sc_ln hp
    obtain ⟨k1, k2, k3, k4, k5, k6, k7, k8, k9⟩ := sc_ln hq
    by_cases hr : r = p + 2 ∨ r = p + 3 ∨ r = p + 6
    · simp only [hr, if_true]
      rcases hr with rfl | rfl | rfl
      all_goals simp only [cpPG, up1, Nat.add_right_inj, Nat.reduceEqDiff, if_true, if_false, Nat.add_sub_cancel_left, l2, l3, l6, k2, k3, k6]
    · simp only [hr, if_false]
      have n2 : r ≠ p + 2 := fun e => hr (Or.inl e)
      have n3 : r ≠ p + 3 := fun e => hr (Or.inr (Or.inl e))
      have n6 : r ≠ p + 6 := fun e => hr (Or.inr (Or.inr e))
      simp only [cpPG, up1, n2, n3, n6, if_false]
  have e1 : wo f G J c = mk f (fun r => rwN (ln r) (G r)) (fun r => rwN (ln r) (J r)) c := rfl
  rw [e1, sp52 hp hq hne (scL hp) (scL hq) (scB hq hs hd), key]
  have hne' : ¬ q = p := fun e => hne e.symm
  apply hT
  · simp [cpPF, up2, hne']
  · intro o k ho
    unfold cpPF up2
    rw [if_neg (fun e => ho ⟨e.1, Or.inr e.2⟩), if_neg (fun e => ho ⟨e.1, Or.inl e.2⟩)]
  · intro k
    refine ⟨?_, ?_, ?_⟩
    · show (if p + 2 = p + 2 ∨ _ then G (q + (p + 2 - p)) k else _) = _
      rw [if_pos (Or.inl rfl), Nat.add_sub_cancel_left]
    · show (if p + 3 = p + 2 ∨ p + 3 = p + 3 ∨ p + 3 = p + 6 then G (q + (p + 3 - p)) k else _) = _
      rw [if_pos (Or.inr (Or.inl rfl)), Nat.add_sub_cancel_left]
    · show (if p + 6 = p + 2 ∨ p + 6 = p + 3 ∨ p + 6 = p + 6 then G (q + (p + 6 - p)) k else _) = _
      rw [if_pos (Or.inr (Or.inr rfl)), Nat.add_sub_cancel_left]
  · intro r k h2 h3 h6
    show (if r = p + 2 ∨ r = p + 3 ∨ r = p + 6 then G (q + (r - p)) k else G r k) = _
    rw [if_neg (by omega)]
end PA
