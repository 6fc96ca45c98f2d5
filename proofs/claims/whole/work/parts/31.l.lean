variable {scr : List Int32}
-- ===== the law, read by the model: comparing =====
section LM4
variable {f G f' G' : Nat → Nat → Int32} {J J' : Nat → Nat → Int64} {c : Value} {d : Nat} {T : Tp} {p q r b : Nat} {s : Ls}
theorem su_lsk : ∀ u w (s s' : Ls), suL T u w s = .inr s' → sk T s'.1 = s'.1 := by
  intro u
  induction u with
  | zero => intro w s s' h; cases h
  | succ u ih =>
    intro w s s' h
    simp only [suL] at h
    split at h
    · cases h; exact sk_sk
    · split at h
      · cases h
      · split at h
        · exact ih _ _ _ h
        · exact ih _ _ _ h
theorem su_sk {s s' : Ls} (h : suR T s = .inr s') : sk T s'.1 = s'.1 := by
  unfold suR at h
  split at h
  · cases h
  · exact su_lsk _ _ _ _ h
-- with a fault
theorem x90 {x p0 : Nat} {l1 l2 s0 : Int32} (hT : TX T) (h : XM 401 f G T x) (e20 : f 125 20 = nI p0) (hp : p0 ≤ 401) (hs : s0 = 0 ∨ s0 = 1) {K : Option Value → aH → Prop} (hK : ∀ f', XM 410 f' G T x → FM r f G f' G → K none (wo f' G J c)) : E scr false (d + 8) 154 90 [.ref 125, .int l1, .int l2] [.int s0, .int (nI p0), .ref 125] (wo f G J c) K := by
  rw [b154_90]
  simp only [mO scr]
  have e : ∃ n, n ≤ 402 ∧ nI p0 + s0 = nI n := by
    rcases hs with rfl | rfl
    · exact ⟨p0, by omega, by rw [show (0 : Int32) = nI 0 from rfl, nI_add]; rfl⟩
    · exact ⟨p0 + 1, by omega, by rw [nI_1]⟩
  obtain ⟨n, hn, en⟩ := e
  rw [en]
  have x1 : XM 402 (mS f n) G T x := XM_mS hn (XM_le (by omega) h)
  apply m153x (d := d) (r := r) hT (by omega) (by omega) x1
  intro f2 x2 fm2
  have fin : ∀ k : Int32, E scr false (d + 8) 154 139 [.ref 125, .int l1, .int l2] [.int k, .ref 125] (wo f2 G J c) K := by
    intro k
    rw [b154_139, m148x x2]
    exact hK _ (XM_le (by omega) x2) (FM_tr FM_m fm2)
  split
  · exact fin _
  · split
    · split
      · exact fin _
      · exact fin _
    · split
      · exact fin _
      · exact fin _
theorem x75 {x : Nat} {l1 s0 : Int32} (hT : TX T) (h : XM 401 f G T x) (hs : s0 = 0 ∨ s0 = 1) {K : Option Value → aH → Prop} (hK : ∀ f', XM 410 f' G T x → FM r f G f' G → K none (wo f' G J c)) : E scr false (d + 8) 154 75 [.ref 125, .int l1, .null] [.int s0] (wo f G J c) K := by
  obtain ⟨q, hq, mt⟩ := XM_MT h
  rw [b154_75]
  simp only [mO scr, mt.2]
  split
  · exact x90 (r := r) hT h mt.2 hq (Or.inl rfl) hK
  · exact x90 (r := r) hT h mt.2 hq (Or.inr rfl) hK
def k37 (scr : List Int32) (d : Nat) (l1 : Int32) (K : Option Value → aH → Prop) (h2 : aH) : Prop := gI scr h2 125 9 20 (fun x4 : Int32 => pF h2 125 9 20 (.int (x4 + 1)) (fun h5 : aH => (if l1 = 61 then E scr false (d + 8) 154 74 [.ref 125, .int l1, .null] [] h5 K else vI scr (d + 7) 143 [.ref 125] h5 (fun (x7 : Int32) (h6 : aH) => (if x7 = 61 then E scr false (d + 8) 154 75 [.ref 125, .int l1, .null] [.int 1] h6 K else E scr false (d + 8) 154 74 [.ref 125, .int l1, .null] [] h6 K)))))
theorem x37 {x : Nat} {l1 : Int32} (hT : TX T) (h : XM 400 f G T x) {K : Option Value → aH → Prop} (hK : ∀ f', XM 410 f' G T x → FM r f G f' G → K none (wo f' G J c)) : k37 scr d l1 K (wo f G J c) := by
  obtain ⟨q, hq, mt⟩ := XM_MT h
  unfold k37
  simp only [mO scr, mt.2, nI_1]
  have x1 : XM 401 (mS f (q + 1)) G T x := XM_mS (by omega) (XM_le (by omega) h)
  have mt1 : MT (mS f (q + 1)) G T (q + 1) := MT_mS mt
  have hK' : ∀ f', XM 410 f' G T x → FM r (mS f (q + 1)) G f' G → K none (wo f' G J c) := fun f' a1 a2 => hK f' a1 (FM_tr FM_m a2)
  have t74 : E scr false (d + 8) 154 74 [.ref 125, .int l1, .null] [] (wo (mS f (q + 1)) G J c) K := by
    rw [b154_74]
    exact x75 (r := r) hT x1 (Or.inl rfl) hK'
  by_cases h61 : l1 = 61
  · rw [if_pos h61]; exact t74
  · rw [if_neg h61]
    have := m143 (scr := scr) (J := J) (c := c) (d := d + 7) (K := fun (x7 : Int32) (h6 : aH) => (if x7 = 61 then E scr false (d + 8) 154 75 [.ref 125, .int l1, .null] [.int 1] h6 K else E scr false (d + 8) 154 74 [.ref 125, .int l1, .null] [] h6 K)) hT mt1 (by omega)
    refine this.mpr ?_
    show if hI T (q + 1) = 61 then _ else _
    split
    · exact x75 (r := r) hT x1 (Or.inr rfl) hK'
    · exact t74
theorem m154 (hT : TX T) (hr : r < 6) (h : LMs f G T r s) (hp : s.1 ≤ T.1) (hz : s.2.2 ≤ 60) (hb : 3 * s.2.1.length ≤ 6 * s.2.2 + s.1) {K : aH → Prop} (hf : ∀ x f' G', coL T s = .inl x → XM 410 f' G' T x → FM r f G f' G' → K (wo f' G' J c)) (hg : ∀ s' f' G', coL T s = .inr s' → LMs f' G' T r s' → FM r f G f' G' → K (wo f' G' J c)) : vV scr (d + 8) 154 [.ref 125] (wo f G J c) K := by
  have h400 := hT.1
  unfold coL at hf hg
  unfold vV
  rw [u154_ok, en154, b154_0]
  refine ⟨rfl, ?_⟩
  apply m153 (d := d) hT hr h hp hz hb
  · intro x f1 G1 hx x1 fm1
    rw [hx] at hf
    obtain ⟨q, hq, mt⟩ := XM_MT x1
    have go : ∀ l1 : Int32, E scr false (d + 8) 154 37 [.ref 125, .int l1, .null] [] (wo f1 G1 J c) (fun r h => r = none ∧ K h) := by
      intro l1
      rw [b154_37]
      simp only [mO scr, mt.2]
      apply m149x (d := d + 6) (r := r) x1
      intro f2 x2 _ fm2
      apply x37 (r := r) hT x2
      intro f3 x3 fm3
      exact ⟨rfl, hf x _ _ rfl x3 (FM_tr fm1 (FM_tr fm2 fm3))⟩
    rw [m143 hT mt (by omega)]
    split
    · exact go _
    · split
      · exact go _
      · split
        · exact go _
        · simp only [mO scr]
          rw [m142x (XM_ne x1)]
          exact ⟨trivial, hf x _ _ rfl (XM_le (by omega) x1) fm1⟩
  · intro s1 f1 G1 hx l1 fm1
    have ssk := su_sk hx
    obtain ⟨a1, a2, a3, -, a5⟩ := su_ok hp hx
    rw [hx] at hf hg
    dsimp only at hf hg
    have mt : MT f1 G1 T s1.1 := l1.1
    -- the second sum, and the sign's code
    have last : ∀ f2 G2 (e k l1' l2' p0 s0 : Nat), (if nI l1' = 61 then (6 : Int32) else if nI l1' = 60 then (if nI l2' = 0 then 4 else 5) else (if nI l2' = 0 then 8 else 7)) = nI (soM k) → 15 ≤ k → k ≤ 19 → cmR T s1.1 s1.2.2 = .inr (k, e) → p0 + s0 = e → LMs f2 G2 T r (p0, s1.2.1, s1.2.2 + 1) → FM r f1 G1 f2 G2 → E scr false (d + 8) 154 90 [.ref 125, .int (nI l1'), .int (nI l2')] [.int (nI s0), .int (nI p0), .ref 125] (wo f2 G2 J c) (fun r h => r = none ∧ K h) := by
      intro f2 G2 e k l1' l2' p0 s0 hk k1 k2 hc he l2 fm2
      obtain ⟨b1, b2, b3, b4, b5⟩ := cm_ok hc
      rw [hc] at hf hg
      dsimp only at hf hg
      rw [b154_90]
      simp only [mO scr, nI_add, he]
      have l3 : LMs (mS f2 e) G2 T r (e, s1.2.1, s1.2.2 + 1) := LMs_mS l2
      have fin : ∀ f4 G4, E scr false (d + 8) 154 139 [.ref 125, .int (nI l1'), .int (nI l2')] [.int (nI (soM k)), .ref 125] (wo f4 G4 J c) (fun r h => r = none ∧ K h) → (if nI l1' = 61 then E scr false (d + 8) 154 139 [.ref 125, .int (nI l1'), .int (nI l2')] [.int 6, .ref 125] (wo f4 G4 J c) (fun r h => r = none ∧ K h) else (if nI l1' = 60 then (if nI l2' = 0 then E scr false (d + 8) 154 139 [.ref 125, .int (nI l1'), .int (nI l2')] [.int 4, .ref 125] (wo f4 G4 J c) (fun r h => r = none ∧ K h) else E scr false (d + 8) 154 139 [.ref 125, .int (nI l1'), .int (nI l2')] [.int 5, .ref 125] (wo f4 G4 J c) (fun r h => r = none ∧ K h)) else (if nI l2' = 0 then E scr false (d + 8) 154 139 [.ref 125, .int (nI l1'), .int (nI l2')] [.int 8, .ref 125] (wo f4 G4 J c) (fun r h => r = none ∧ K h) else E scr false (d + 8) 154 139 [.ref 125, .int (nI l1'), .int (nI l2')] [.int 7, .ref 125] (wo f4 G4 J c) (fun r h => r = none ∧ K h)))) := by
        intro f4 G4 hE
        rw [← hk] at hE
        by_cases c1 : nI l1' = 61
        · rw [if_pos c1] at hE ⊢; exact hE
        · rw [if_neg c1] at hE ⊢
          by_cases c2 : nI l1' = 60
          · rw [if_pos c2] at hE ⊢
            by_cases c3 : nI l2' = 0
            · rw [if_pos c3] at hE ⊢; exact hE
            · rw [if_neg c3] at hE ⊢; exact hE
          · rw [if_neg c2] at hE ⊢
            by_cases c3 : nI l2' = 0
            · rw [if_pos c3] at hE ⊢; exact hE
            · rw [if_neg c3] at hE ⊢; exact hE
      apply m153 (d := d) hT hr l3 b2 (by show s1.2.2 + 1 ≤ 60; omega) (by show 3 * s1.2.1.length ≤ 6 * (s1.2.2 + 1) + e; omega)
      · intro x f4 G4 hx4 x4 fm4
        rw [hx4] at hf
        apply fin
        rw [b154_139, m148x x4]
        exact ⟨rfl, hf x _ _ rfl (XM_le (by omega) x4) (FM_tr fm1 (FM_tr fm2 (FM_tr FM_m fm4)))⟩
      · intro s4 f4 G4 hx4 l4 fm4
        obtain ⟨e1, e2, e3, e4, e5⟩ := su_ok (s := (e, s1.2.1, s1.2.2 + 1)) b2 hx4
        have e5 : 3 * s4.2.1.length + 3 + 6 * (s1.2.2 + 1) + e ≤ 3 * s1.2.1.length + 6 * s4.2.2 + s4.1 := e5
        rw [hx4] at hg
        apply fin
        rw [b154_139]
        have e0 : nuM k = 0 := by unfold nuM; rw [if_neg (by omega), if_neg (by omega)]
        have key := m148 (scr := scr) (J := J) (c := c) (d := d + 7) (k := k) hr l4 (by omega) (K := fun h1 => (none : Option Value) = none ∧ K h1)
        rw [e0] at key
        apply key
        intro f5 G5 l5 fm5
        exact ⟨rfl, hg _ _ _ rfl l5 (FM_tr fm1 (FM_tr fm2 (FM_tr FM_m (FM_tr fm4 fm5))))⟩
    -- the first sign
    have sign : ∀ c0, c0 = 60 ∨ c0 = 61 ∨ c0 = 62 → ch8 T s1.1 = c0 → E scr false (d + 8) 154 37 [.ref 125, .int (nI c0), .null] [] (wo f1 G1 J c) (fun r h => r = none ∧ K h) := by
      intro c0 hc0 ec
      have hin := ch8_in (T := T) (p := s1.1) (by omega)
      have cm : cmR T s1.1 s1.2.2 = if 60 ≤ s1.2.2 then .inl (1 + 8 * s1.1 + 3) else if c0 = 61 then .inr (17, s1.1 + 1) else if ch8 T (s1.1 + 1) = 61 then .inr ((if c0 = 60 then 16 else 18), s1.1 + 2) else .inr ((if c0 = 60 then 15 else 19), s1.1 + 1) := by
        unfold cmR
        rw [ssk, ec]
        rcases hc0 with rfl | rfl | rfl
        · simp only [if_true, Nat.reduceEqDiff, if_false]
        · simp only [if_true, Nat.reduceEqDiff, if_false]
        · simp only [if_true, Nat.reduceEqDiff, if_false]
      rw [b154_37]
      simp only [mO scr, mt.2]
      apply m149 (d := d + 6) hT l1 a2 a3 a2
      · intro f2 h60 x2 e20 fm2
        rw [cm, if_pos h60] at hf
        apply x37 (r := r) hT x2
        intro f3 x3 fm3
        exact ⟨rfl, hf _ _ _ rfl x3 (FM_tr fm1 (FM_tr fm2 fm3))⟩
      · intro f2 h60 l2 fm2
        rw [if_neg h60] at cm
        have mt2 : MT f2 G1 T s1.1 := l2.1
        simp only [mO scr, mt2.2, nI_1]
        have l3 : LMs (mS f2 (s1.1 + 1)) G1 T r (s1.1 + 1, s1.2.1, s1.2.2 + 1) := LMs_mS l2
        have mt3 : MT (mS f2 (s1.1 + 1)) G1 T (s1.1 + 1) := l3.1
        have fm3 : FM r f1 G1 (mS f2 (s1.1 + 1)) G1 := FM_tr fm2 FM_m
        have s75 : ∀ (k s0 : Nat), s0 = 0 ∨ s0 = 1 → 15 ≤ k → k ≤ 19 → (if nI c0 = 61 then (6 : Int32) else if nI c0 = 60 then (if nI s0 = 0 then 4 else 5) else (if nI s0 = 0 then 8 else 7)) = nI (soM k) → cmR T s1.1 s1.2.2 = .inr (k, s1.1 + 1 + s0) → E scr false (d + 8) 154 75 [.ref 125, .int (nI c0), .null] [.int (nI s0)] (wo (mS f2 (s1.1 + 1)) G1 J c) (fun r h => r = none ∧ K h) := by
          intro k s0 hs k1 k2 hk hc
          rw [b154_75]
          simp only [mO scr, mS_20]
          have := last (mS f2 (s1.1 + 1)) G1 _ k c0 s0 (s1.1 + 1) s0 hk k1 k2 hc rfl l3 fm3
          rcases hs with rfl | rfl
          · rw [if_pos (show nI 0 = (0 : Int32) from rfl)]; exact this
          · rw [if_neg (show ¬ nI 1 = (0 : Int32) by decide)]; exact this
        have fold : up2 f2 125 20 (nI (s1.1 + 1)) = mS f2 (s1.1 + 1) := rfl
        rw [fold]
        by_cases h61 : c0 = 61
        · subst h61
          rw [if_pos (show nI 61 = (61 : Int32) from rfl), b154_74]
          rw [if_pos rfl] at cm
          exact s75 17 0 (Or.inl rfl) (by omega) (by omega) (by decide) cm
        · rw [if_neg (show ¬ nI c0 = (61 : Int32) by rw [show (61 : Int32) = nI 61 from rfl]; simp (disch := omega) only [NC]; exact h61)]
          rw [if_neg h61] at cm
          have hh := m143 (scr := scr) (J := J) (c := c) (d := d + 7) (K := fun (x7 : Int32) (h6 : aH) => (if x7 = 61 then E scr false (d + 8) 154 75 [.ref 125, .int (nI c0), .null] [.int 1] h6 (fun r h => r = none ∧ K h) else E scr false (d + 8) 154 74 [.ref 125, .int (nI c0), .null] [] h6 (fun r h => r = none ∧ K h))) hT mt3 (by omega)
          refine hh.mpr ?_
          show if hI T (s1.1 + 1) = nI 61 then _ else _
          simp only [hI_eq (show 61 < 256 by decide)]
          by_cases e61 : ch8 T (s1.1 + 1) = 61
          · rw [if_pos e61] at cm ⊢
            rcases hc0 with rfl | rfl | rfl
            · exact s75 16 1 (Or.inr rfl) (by omega) (by omega) (by decide) cm
            · omega
            · exact s75 18 1 (Or.inr rfl) (by omega) (by omega) (by decide) cm
          · rw [if_neg e61] at cm ⊢
            rw [b154_74]
            rcases hc0 with rfl | rfl | rfl
            · exact s75 15 0 (Or.inl rfl) (by omega) (by omega) (by decide) cm
            · omega
            · exact s75 19 0 (Or.inl rfl) (by omega) (by omega) (by decide) cm
    rw [m143 hT mt (by omega)]
    show if hI T s1.1 = nI 60 then _ else _
    simp only [show (61 : Int32) = nI 61 from rfl, show (62 : Int32) = nI 62 from rfl, hI_eq (show 60 < 256 by decide), hI_eq (show 61 < 256 by decide), hI_eq (show 62 < 256 by decide)]
    have ei : ∀ k, ch8 T s1.1 = k → k < 256 → hI T s1.1 = nI k := fun k e hk => by rw [hI_eq hk]; exact e
    by_cases h60 : ch8 T s1.1 = 60
    · rw [if_pos h60, ei 60 h60 (by omega)]; exact sign 60 (by omega) h60
    · rw [if_neg h60]
      by_cases h61 : ch8 T s1.1 = 61
      · rw [if_pos h61, ei 61 h61 (by omega)]; exact sign 61 (by omega) h61
      · rw [if_neg h61]
        by_cases h62 : ch8 T s1.1 = 62
        · rw [if_pos h62, ei 62 h62 (by omega)]; exact sign 62 (by omega) h62
        · rw [if_neg h62]
          have cm : cmR T s1.1 s1.2.2 = .inl (1 + 8 * s1.1) := by
            unfold cmR
            rw [ssk, if_neg h60, if_neg h62, if_neg h61]
          rw [cm] at hf
          simp only [mO scr, mt.2]
          rw [show (0 : Int32) = nI 0 from rfl, m142 l1.2.1]
          exact ⟨trivial, hf _ _ _ rfl (XM_bl mt (by omega) (by omega) (by omega)) (FM_tr fm1 (FM_u (by omega)))⟩
end LM4
