variable {scr : List Int32}
-- ===== survey and fillsGates =====
section BG
variable {f G f' G' : Nat → Nat → Int32} {J J' : Nat → Nat → Int64} {c : Value} {d p : Nat} {P : Pn}
def fillG (G : Nat → Nat → Int32) (q : Nat) (v : Int32) : Nat → Nat → Int32 := fun r k => if r = q then v else G r k
def fillJ (J : Nat → Nat → Int64) (q : Nat) (v : Int64) : Nat → Nat → Int64 := fun r k => if r = q then v else J r k
theorem rwN_rep {α : Type} {n : Nat} {v : α} : rwN n (fun _ => v) = List.replicate n v := by
  unfold rwN
  rw [List.map_const']
  simp
theorem wf234 {q : Nat} (hq : LAY[q]? = some (.inl 1)) {v : Int32} {T : aH → Prop} : sV scr d 234 [.ref q, .int v] (wo f G J c) T = T (wo f (fillG G q v) J c) := by
  unfold wo
  rw [sp234 hq (ln_lt (q := q)) (by simp [rwN_len])]
  congr 2
  funext r
  unfold up1 fillG
  by_cases e : r = q
  · subst e
    simp only [if_true]
    exact rwN_rep.symm
  · simp only [e, if_false]
theorem fillJ_loop {q n : Nat} (hq : LAY[q]? = some (.inl 2)) (hn : ln q = n) {v : Int64} {K : Option Value → aH → Prop} : ∀ m k, n - k = m → k ≤ n → ∀ J, E scr false d 233 6 [.ref q, .long v, .null, .int (nI k), .int (nI n)] [] (wo f G J c) K = K none (wo f G (fun r i => if r = q ∧ k ≤ i ∧ i < n then v else J r i) c) := by
  have hn31 : n < 2 ^ 31 := by rw [← hn]; exact ln_lt
  intro m
  induction m with
  | zero =>
    intro k hm hk J
    rw [b233_6, if_pos (nI_le (by omega) (by omega))]
    have e : k = n := by omega
    congr 2
    funext r i
    rw [if_neg (by omega)]
  | succ m ih =>
    intro k hm hk J
    rw [b233_6, if_neg (by rw [nI_leI (by omega) (by omega)]; omega), wo_wJ hq (by omega), nI_1, ih (k + 1) (by omega) (by omega)]
    congr 2
    funext r i
    unfold upJ
    by_cases e1 : r = q ∧ k + 1 ≤ i ∧ i < n
    · rw [if_pos e1, if_pos ⟨e1.1, by omega, e1.2.2⟩]
    · rw [if_neg e1]
      by_cases e2 : r = q ∧ i = k
      · rw [if_pos e2, if_pos ⟨e2.1, by omega, by omega⟩]
      · rw [if_neg e2, if_neg (by omega)]
theorem wo_congrJ {J1 J2 : Nat → Nat → Int64} (h : ∀ q k, k < ln q → J1 q k = J2 q k) : wo f G J1 c = wo f G J2 c := by
  unfold wo
  congr 1
  funext q
  exact rwN_congr (fun k hk => h q k hk)
theorem wf233 {q : Nat} (hq : LAY[q]? = some (.inl 2)) {v : Int64} {T : aH → Prop} : sV scr d 233 [.ref q, .long v] (wo f G J c) T = T (wo f G (fillJ J q v) c) := by
  have e : aN scr (wo f G J c) q = fun T : Nat → Prop => T (ln q) := by
    funext T
    unfold wo
    rw [aNJ_mk hq]
    simp only [rwN_len]
  unfold sV
  rw [en233, b233_0, e]
  show E scr false d 233 6 [.ref q, .long v, .null, .int (nI 0), .int (nI (ln q))] [] (wo f G J c) (fun r h => r = none ∧ T h) = _
  rw [fillJ_loop hq rfl (ln q) 0 rfl (by omega)]
  simp only [true_and]
  refine congrArg T ?_
  apply wo_congrJ
  intro r k hk
  unfold fillJ
  by_cases e1 : r = q
  · subst e1
    rw [if_pos ⟨rfl, by omega, hk⟩, if_pos rfl]
  · rw [if_neg (fun e => e1 e.1), if_neg e1]
theorem w56 (hp : isSc p) (hP : wfP P) (hs : RS f G p P) {q : Nat} (hq : q < 2 ^ 31) {T : Int32 → aH → Prop} : vI scr d 56 [.ref p, .int (nI (q % 12)), .int (nI (q / 12))] (wo f G J c) T = T (bz (thB P q)) (wo f G J c) := by
  unfold wo
  rw [sp56 hp, hs.1.1, hs.1.2.1, cB_nI hP (by omega) (by omega)]
  rfl
def SR (a b : Nat) (G : Nat → Nat → Int32) (s : St) : Prop := (∀ r, r < 144 → G a r = nI (s.1 r)) ∧ (∀ j, j < s.2.2 → G b j = nI (s.2.1 j))
theorem SR_up {a b : Nat} (hab : a ≠ b) {s : St} {n v : Nat} (h : SR a b G s) : SR a b (up2 (up2 G a n (nI v)) b s.2.2 (nI n)) (upN s.1 n v, upN s.2.1 s.2.2 n, s.2.2 + 1) := by
  refine ⟨?_, ?_⟩
  · intro r hr
    rw [up2_q hab, up2_a]
    show _ = nI (upN s.1 n v r)
    rw [upN_at]
    by_cases e : r = n
    · simp [e]
    · simp [e, h.1 r hr]
  · intro j hj
    rw [up2_a, up2_q (Ne.symm hab)]
    show _ = nI (upN s.2.1 s.2.2 n j)
    rw [upN_at]
    by_cases e : j = s.2.2
    · simp [e]
    · have hj2 : j < s.2.2 + 1 := hj
      simp [e, h.2 j (by omega)]
theorem RS_51 (hp : isSc p) (h : ∀ q k, q ≠ 51 → q ≠ 52 → G' q k = G q k) (hs : RS f G p P) : RS f G' p P := by
  have e1 : ∀ i, i < 10 → ∀ k, G' (p + i) k = G (p + i) k := by
    intro i hi k
    apply h <;> rcases hp with rfl | rfl | rfl | rfl | rfl | rfl | rfl | rfl <;> omega
  unfold RS at hs ⊢
  simp only [e1 1 (by omega), e1 4 (by omega), e1 5 (by omega)]
  exact hs
theorem bg_none (h : ∀ r, ¬ (thB P r = true ∧ pKd P r = 3)) : ∀ q, bg0 P q = bg0 P 0 := by
  intro q
  induction q with
  | zero => rfl
  | succ q ih => simp only [bg0]; rw [if_neg (h q)]; exact ih
theorem ga_none (hP : wfP P) (h : (gaL P).length = 0) : ∀ r, ¬ (thB P r = true ∧ pKd P r = 3) := by
  intro r hr
  have hm : r ∈ gaL P := by
    unfold gaL
    rw [List.mem_filter]
    exact ⟨List.mem_range.mpr (th_lt hP hr.1), by simp [hr.1, hr.2]⟩
  have := List.length_pos_of_mem hm
  omega
theorem bfA_stop {s : St} {i : Nat} (h : (bfA P s i).2.2 ≤ i) : ∀ n, bfA P s (i + n) = bfA P s i := by
  intro n
  induction n with
  | zero => rfl
  | succ n ih =>
    show (if i + n < (bfA P s (i + n)).2.2 then bfR P (bfA P s (i + n)) (i + n) 8 else bfA P s (i + n)) = _
    rw [ih, if_neg (by omega)]
theorem bv_B {s : St} {i k : Nat} (h : BV P s i k) (q : Nat) : s.1 q = 99 ∨ s.1 q ≤ 72 := by
  rcases h.2.2.1 q with a | ⟨j, a, b⟩
  · exact Or.inl a
  · right; rw [← b]; exact (h.1 j a).2.2
theorem sv_way (hp : isSc p) (hP : wfP P) {s : St} {i : Nat} (hb : BV P s i 0) (hi : i < s.2.2) {K : Option Value → aH → Prop} : ∀ m k, 8 - k = m → k ≤ 8 → ∀ G, RS f G p P → SR 51 52 G (bfR P s i k) → (∀ G', SR 51 52 G' (bfR P s i 8) → (∀ q k, q ≠ 51 → q ≠ 52 → G' q k = G q k) → ∀ l4 l5 : Value, E scr false (d + 2) 1 93 [.ref 50, .ref p, .int (nI (bfR P s i 8).2.2), .int (nI (i + 1)), l4, l5] [] (wo f G' J c) K) → ∀ l5 : Value, E scr false (d + 2) 1 108 [.ref 50, .ref p, .int (nI (bfR P s i k).2.2), .int (nI i), .int (nI k), l5] [] (wo f G J c) K := by
  intro m
  induction m with
  | zero =>
    intro k hm hk G hs hr hK l5
    have e : k = 8 := by omega
    subst e
    rw [b1_108]
    simp (disch := omega) only [LI, NC, Nat.le_refl, if_true, nI_1]
    exact hK G hr (fun _ _ _ _ => rfl) _ _
  | succ m ih =>
    intro k hm hk G hs hr hK l5
    obtain ⟨bv, be, bq, bd⟩ := bv_R hP hb hi k (by omega)
    have deep := bv_deep hP hb hi
    have eQ := hr.2 i be
    have q144 := th_lt hP (bv.1 i be).1
    have e144 := bv_le hP bv
    have next : ∀ G', RS f G' p P → SR 51 52 G' (bfR P s i (k + 1)) → (∀ q k, q ≠ 51 → q ≠ 52 → G' q k = G q k) → ∀ l5 : Int32, E scr false (d + 2) 1 197 [.ref 50, .ref p, .int (nI (bfR P s i (k + 1)).2.2), .int (nI i), .int (nI k), .int l5] [] (wo f G' J c) K := by
      intro G' hs' hr' hfr l5
      rw [b1_197, nI_1]
      apply ih (k + 1) (by omega) (by omega) G' hs' hr'
      intro G2 a b l4 l5
      exact hK G2 a (fun q k h1 h2 => (b q k h1 h2).trans (hfr q k h1 h2)) l4 l5
    have es : bfR P s i (k + 1) = bfU P (bfR P s i k) i k := rfl
    rw [es] at next
    have eB0 : (bfR P s i k).1 ((bfR P s i k).2.1 i) = s.1 (s.2.1 i) := by rw [bq]; exact bd
    generalize bfR P s i k = t at *
    rw [b1_108]
    simp (disch := omega) only [LI, NC, show ¬ 8 ≤ k by omega, if_false, gRr scr, eQ, w58 hp hP hs q144 (show k < 8 by omega)]
    unfold bfU at next
    cases hbe : beO P (t.2.1 i) k with
    | none =>
      rw [hbe] at next
      simp only [oI_n, neg1_lt, if_true]
      exact next G hs hr (fun _ _ _ _ => rfl) _
    | some n =>
      rw [hbe] at next
      simp only at next
      have hth := be_th hP hbe
      have n144 := th_lt hP hth
      have hkn := hs.2.1 n hth
      have hk4 := hP.2.2.2.2.2.1 n
      have hBn := bv_B bv n
      have eBn := hr.1 n n144
      simp (disch := omega) only [oI_s, NC, if_false, gRr scr, sC scr hp, eBn, hkn, sp63, gB_nI hk4]
      by_cases hfull : 144 ≤ t.2.2
      · simp only [hfull, if_true]
        rw [if_neg (by
          rintro ⟨a, -⟩
          have := bv_room hP bv n144 a
          omega)] at next
        exact next G hs hr (fun _ _ _ _ => rfl) _
      · simp only [hfull, if_false]
        by_cases h99 : t.1 n = 99
        · simp only [h99, if_true]
          cases hg : gkB (pKd P n) with
          | false =>
            rw [if_neg (by rw [hg]; simp)] at next
            simp only [bz_f, if_true]
            exact next G hs hr (fun _ _ _ _ => rfl) _
          | true =>
            rw [if_pos ⟨h99, hg⟩] at next
            have eBi := hr.1 (t.2.1 i) q144
            simp (disch := omega) only [bz_t, show ¬ ((1 : Int32) = 0) by decide, if_false, gRr scr, eQ, eBi, nI_1]
            have fr : ∀ q k, q ≠ 51 → q ≠ 52 → up2 (up2 G 51 n (nI (t.1 (t.2.1 i) + 1))) 52 t.2.2 (nI n) q k = G q k := by
              intro q k h1 h2
              rw [up2_q h2, up2_q h1]
            exact next _ (RS_51 hp fr hs) (SR_up (by decide) hr) fr _
        · rw [if_neg (fun e => h99 e.1)] at next
          simp only [h99, if_false]
          exact next G hs hr (fun _ _ _ _ => rfl) _
theorem sv_loop (hp : isSc p) (hP : wfP P) {K : Option Value → aH → Prop} : ∀ m i, 144 - i = m → i ≤ 144 → ∀ G, RS f G p P → SR 51 52 G (bfA P (bg0 P 144) i) → (∀ G', SR 51 52 G' (bfA P (bg0 P 144) 144) → (∀ q k, q ≠ 51 → q ≠ 52 → G' q k = G q k) → K none (wo f G' J c)) → ∀ l4 l5 : Value, E scr false (d + 2) 1 93 [.ref 50, .ref p, .int (nI (bfA P (bg0 P 144) i).2.2), .int (nI i), l4, l5] [] (wo f G J c) K := by
  intro m
  induction m with
  | zero =>
    intro i hm hi G hs hr hK l4 l5
    have e : i = 144 := by omega
    subst e
    have e144 : (bfA P (bg0 P 144) 144).2.2 ≤ 144 := by
      rcases bv_A hP (bg_bv hP) 144 with a | ⟨-, a⟩ <;> exact bv_le hP a
    rw [b1_93]
    simp (disch := omega) only [NC, e144, if_true]
    exact hK G hr (fun _ _ _ _ => rfl)
  | succ m ih =>
    intro i hm hi G hs hr hK l4 l5
    have e144 : (bfA P (bg0 P 144) i).2.2 ≤ 144 := by
      rcases bv_A hP (bg_bv hP) i with a | ⟨-, a⟩ <;> exact bv_le hP a
    rw [b1_93]
    by_cases hst : (bfA P (bg0 P 144) i).2.2 ≤ i
    · simp (disch := omega) only [NC, hst, if_true]
      have := bfA_stop hst (144 - i)
      rw [show i + (144 - i) = 144 by omega] at this
      rw [← this] at hr
      exact hK G hr (fun _ _ _ _ => rfl)
    · simp (disch := omega) only [LI, NC, hst, show ¬ 144 ≤ i by omega, if_false]
      have bv : BV P (bfA P (bg0 P 144) i) i 0 := by
        rcases bv_A hP (bg_bv hP) i with a | ⟨a, -⟩
        · exact a
        · omega
      have es : bfA P (bg0 P 144) (i + 1) = bfR P (bfA P (bg0 P 144) i) i 8 := by
        show (if i < (bfA P (bg0 P 144) i).2.2 then _ else _) = _
        rw [if_pos (by omega)]
      rw [show (0 : Int32) = nI 0 from rfl]
      apply sv_way hp hP bv (by omega) 8 0 rfl (by omega) G hs hr
      intro G' hr' hfr l4 l5
      rw [← es] at hr' ⊢
      apply ih (i + 1) (by omega) (by omega) G' (RS_51 hp hfr hs) hr'
      intro G2 a b
      exact hK G2 a (fun q k h1 h2 => (b q k h1 h2).trans (hfr q k h1 h2))
theorem sv_gate (hp : isSc p) (hP : wfP P) (hga : 0 < (gaL P).length) {K : Option Value → aH → Prop} : ∀ m q, 144 - q = m → q ≤ 144 → ∀ G, RS f G p P → SR 51 52 G (bg0 P q) → (∀ G' (l3 : Int32), SR 51 52 G' (bg0 P 144) → (∀ q k, q ≠ 51 → q ≠ 52 → G' q k = G q k) → E scr false (d + 2) 1 91 [.ref 50, .ref p, .int (nI (bg0 P 144).2.2), .int l3, .null, .null] [] (wo f G' J c) K) → E scr false (d + 2) 1 29 [.ref 50, .ref p, .int (nI (bg0 P q).2.2), .int (nI q), .null, .null] [] (wo f G J c) K := by
  have hg144 : (gaL P).length ≤ 144 := by
    unfold gaL
    have := List.length_filter_le (fun q => thB P q && decide (pKd P q = 3)) (List.range 144)
    simpa using this
  intro m
  induction m with
  | zero =>
    intro q hm hq G hs hr hK
    have e : q = 144 := by omega
    subst e
    rw [b1_29]
    simp (disch := omega) only [sC scr hp, hs.1.2.2.1, NC, show ¬ (gaL P).length = 0 by omega, if_false, LI, Nat.le_refl, if_true]
    exact hK G _ hr (fun _ _ _ _ => rfl)
  | succ m ih =>
    intro q hm hq G hs hr hK
    have he := (bg_inv (P := P) q).2.2.2.2
    have next : ∀ G', RS f G' p P → SR 51 52 G' (bg0 P (q + 1)) → (∀ q k, q ≠ 51 → q ≠ 52 → G' q k = G q k) → E scr false (d + 2) 1 85 [.ref 50, .ref p, .int (nI (bg0 P (q + 1)).2.2), .int (nI q), .null, .null] [] (wo f G' J c) K := by
      intro G' hs' hr' hfr
      rw [b1_85, nI_1]
      apply ih (q + 1) (by omega) (by omega) G' hs' hr'
      intro G2 l3 a b
      exact hK G2 l3 a (fun q k h1 h2 => (b q k h1 h2).trans (hfr q k h1 h2))
    have es : bg0 P (q + 1) = if thB P q = true ∧ pKd P q = 3 then (upN (bg0 P q).1 q 0, upN (bg0 P q).2.1 (bg0 P q).2.2 q, (bg0 P q).2.2 + 1) else bg0 P q := rfl
    rw [es] at next
    generalize bg0 P q = s at *
    rw [b1_29]
    simp (disch := omega) only [sC scr hp, hs.1.2.2.1, NC, show ¬ (gaL P).length = 0 by omega, if_false, LI, show ¬ 144 ≤ q by omega]
    cases ht : thB P q with
    | true =>
      have hkq := hs.2.1 q ht
      have hk4 := hP.2.2.2.2.2.1 q
      simp (disch := omega) only [hkq, NC, irm_nI]
      by_cases h3 : pKd P q = 3
      · rw [if_pos ⟨ht, h3⟩] at next
        simp only [h3, if_true]
        rw [show nI q / nI 12 = nI (q / 12) from div12 (by omega), w56 hp hP hs (by omega), ht]
        simp (disch := omega) only [bz_t, show ¬ ((1 : Int32) = 0) by decide, if_false, gRr scr, nI_1]
        have fr : ∀ r k, r ≠ 51 → r ≠ 52 → up2 (up2 G 51 q 0) 52 s.2.2 (nI q) r k = G r k := by
          intro r k h1 h2
          rw [up2_q h2, up2_q h1]
        exact next _ (RS_51 hp fr hs) (SR_up (v := 0) (by decide) hr) fr
      · rw [if_neg (fun e => h3 e.2)] at next
        simp only [h3, if_false]
        exact next G hs hr (fun _ _ _ _ => rfl)
    | false =>
      rw [if_neg (fun e => by rw [ht] at e; cases e.1)] at next
      split
      · simp (disch := omega) only [irm_nI]
        rw [show nI q / nI 12 = nI (q / 12) from div12 (by omega), w56 hp hP hs (by omega), ht]
        simp only [bz_f, if_true]
        exact next G hs hr (fun _ _ _ _ => rfl)
      · exact next G hs hr (fun _ _ _ _ => rfl)
theorem w1 (hp : isSc p) (hP : wfP P) (hs : RS f G p P) {T : aH → Prop} (hT : ∀ G' J', (∀ q, q < 144 → G' 51 q = nI (gdA P q)) → CK J' P → (∀ q k, q ≠ 51 → q ≠ 52 → G' q k = G q k) → (∀ q k, q ≠ 53 → q ≠ 54 → J' q k = J q k) → T (wo f G' J' c)) : vV scr (d + 2) 1 [.ref 50, .ref p] (wo f G J c) T := by
  unfold vV
  rw [u1_ok, en1, b1_0]
  simp only [gRr scr, wf233 A_gr_known, wf233 A_gr_clear, wf234 A_gr_toGate, true_and]
  have fr0 : ∀ q k, q ≠ 51 → q ≠ 52 → fillG G 51 99 q k = G q k := by
    intro q k h1 _
    unfold fillG
    rw [if_neg h1]
  have hs0 := RS_51 hp fr0 hs
  have sr0 : SR 51 52 (fillG G 51 99) (bg0 P 0) := ⟨fun r _ => by unfold fillG; rw [if_pos rfl]; rfl, fun j hj => absurd hj (Nat.not_lt_zero _)⟩
  have ck : CK (fillJ (fillJ J 53 0) 54 0) P := by
    intro a b _ _ _
    have e1 : ∀ k, fillJ (fillJ J 53 0) 54 0 54 k = 0 := fun k => by simp [fillJ]
    have e2 : ∀ k, fillJ (fillJ J 53 0) 54 0 53 k = 0 := fun k => by simp [fillJ]
    rw [e1, e2, has_0]
    rfl
  have frJ : ∀ q k, q ≠ 53 → q ≠ 54 → fillJ (fillJ J 53 0) 54 0 q k = J q k := by
    intro q k h1 h2
    unfold fillJ
    rw [if_neg h2, if_neg h1]
  have fin : ∀ G' (l3 : Int32), SR 51 52 G' (bg0 P 144) → (∀ q k, q ≠ 51 → q ≠ 52 → G' q k = fillG G 51 99 q k) → E scr false (d + 2) 1 91 [.ref 50, .ref p, .int (nI (bg0 P 144).2.2), .int l3, .null, .null] [] (wo f G' (fillJ (fillJ J 53 0) 54 0) c) (fun r h => r = none ∧ T h) := by
    intro G' l3 hr hfr
    rw [b1_91, show (0 : Int32) = nI 0 from rfl]
    have hs' := RS_51 hp hfr hs0
    apply sv_loop hp hP 144 0 rfl (by omega) G' hs' hr
    intro G2 a b
    refine ⟨rfl, hT G2 _ ?_ ck ?_ frJ⟩
    · intro q hq; exact a.1 q hq
    · intro q k h1 h2
      rw [b q k h1 h2, hfr q k h1 h2, fr0 q k h1 h2]
  by_cases hga : (gaL P).length = 0
  · rw [b1_29]
    simp (disch := omega) only [sC scr hp, hs.1.2.2.1, hga, show (nI 0 ≤ 0) from by decide, if_true]
    have e := bg_none (ga_none hP hga) 144
    have := fin (fillG G 51 99) 0 (by rw [e]; exact sr0) (fun _ _ _ _ => rfl)
    rw [e] at this
    exact this
  · rw [show (0 : Int32) = nI 0 from rfl]
    exact sv_gate hp hP (by omega) 144 0 rfl (by omega) _ hs0 sr0 fin
end BG
