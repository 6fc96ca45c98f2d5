variable {scr : List Int32}
-- ===== between calls: what stands for what =====
section TP1
variable {f G f' G' : Nat → Nat → Int32} {J J' : Nat → Nat → Int64} {c : Value} {d : Nat}
theorem laR {r : Nat} (hr : r < 6) {T : Nat → Prop} : aR (wo f G J c) 25 (nI r) T = T (26 + 4 * r) := by
  unfold wo
  rw [aR_mk (t := 4) (Or.inl rfl) rfl]
  have h : ∀ r, r < 6 → inb (nI r) (rwR 4).length = true ∧ (rwR 4).getD (nI r).toNatClampNeg none = some (26 + 4 * r) := by decide +kernel
  obtain ⟨h1, h2⟩ := h r hr
  rw [h1, h2]
  simp
theorem imR {k : Nat} (hk : k < 4) {T : Nat → Prop} : aR (wo f G J c) 83 (nI k) T = T (84 + 10 * k) := by
  unfold wo
  rw [aR_mk (t := 5) (Or.inr rfl) rfl]
  have h : ∀ r, r < 4 → inb (nI r) (rwR 5).length = true ∧ (rwR 5).getD (nI r).toNatClampNeg none = some (84 + 10 * r) := by decide +kernel
  obtain ⟨h1, h2⟩ := h k hk
  rw [h1, h2]
  simp
theorem isL {r : Nat} (hr : r < 6) : isLw (26 + 4 * r) := by
  have : r = 0 ∨ r = 1 ∨ r = 2 ∨ r = 3 ∨ r = 4 ∨ r = 5 := by omega
  unfold isLw
  rcases this with rfl | rfl | rfl | rfl | rfl | rfl <;> decide
theorem isI {k : Nat} (hk : k < 4) : isSc (84 + 10 * k) := by
  have : k = 0 ∨ k = 1 ∨ k = 2 ∨ k = 3 := by omega
  unfold isSc
  rcases this with rfl | rfl | rfl | rfl <;> decide
abbrev Tp : Type := Nat × (Nat → Int32)
abbrev Sn : Type := Pn × Dy × Sp
abbrev Lz : Type := Nat × (Nat → Lw)
abbrev Im : Type := Nat → Option Sn
-- the class
def ITc (f G : Nat → Nat → Int32) (T : Tp) : Prop := f 1 1 = nI T.1 ∧ ∀ i, i < T.1 → G 2 i = T.2 i
def SCN (f G : Nat → Nat → Int32) (J : Nat → Nat → Int64) (S : Sn) : Prop := RS f G 3 S.1 ∧ RD f G 3 S.2.1 ∧ RQ f G 3 S.2.2 ∧ CK J S.1 ∧ (0 < pRo S.1 → ∀ q, q < 144 → G 51 q = nI (gdA S.1 q))
def ILc (f G : Nat → Nat → Int32) (Z : Lz) : Prop := f 0 6 = nI Z.1 ∧ ∀ r, r < Z.1 → LRl f G (26 + 4 * r) (Z.2 r)
def IIc (f G : Nat → Nat → Int32) (I : Im) : Prop := ∀ k, k < 4 → G 124 k = bz (I k).isSome ∧ ∀ x, I k = some x → RS f G (84 + 10 * k) x.1 ∧ RD f G (84 + 10 * k) x.2.1 ∧ RQ f G (84 + 10 * k) x.2.2
def IDc (G : Nat → Nat → Int32) : Prop := ∀ q, q < 144 → fits .byte (.int (G 14 q)) = true
def IC (f G : Nat → Nat → Int32) (J : Nat → Nat → Int64) (T : Tp) (S : Sn) (Z : Lz) (I : Im) : Prop := ITc f G T ∧ SCN f G J S ∧ ILc f G Z ∧ IIc f G I ∧ IDc G
-- the model
def ITm (f G : Nat → Nat → Int32) (T : Tp) : Prop := f 125 19 = nI T.1 ∧ (∀ i, i < T.1 → G 143 i = T.2 i) ∧ f 125 28 = nI 9
def SCm (G : Nat → Nat → Int32) (S : Sn) : Prop := MS G S.1 ∧ MD G S.1 S.2.1 ∧ MSq G S.2.2
def ILm (f G : Nat → Nat → Int32) (Z : Lz) : Prop := f 125 23 = nI Z.1 ∧ ∀ r, r < Z.1 → LRm G r (Z.2 r)
/-- an image's rows, as if they were the rows themselves -/
def GI (G : Nat → Nat → Int32) (k : Nat) : Nat → Nat → Int32 := fun q i => if q = 126 then G 165 (330 * k + i) else if q = 127 then G 165 (330 * k + 6 + i) else if q = 128 then G 165 (330 * k + 150 + i) else if q = 129 then G 165 (330 * k + 162 + i) else if q = 135 then G 165 (330 * k + 174 + i) else if q = 136 then G 165 (330 * k + 188 + i) else if q = 137 then G 165 (330 * k + 200 + i) else if q = 138 then G 165 (330 * k + 240 + i) else if q = 139 then G 165 (330 * k + 280 + i) else 0
def IIm (G : Nat → Nat → Int32) (I : Im) : Prop := ∀ k, k < 4 → G 166 k = bz (I k).isSome ∧ ∀ x, I k = some x → SCm (GI G k) x
def IM (f G : Nat → Nat → Int32) (T : Tp) (S : Sn) (Z : Lz) (I : Im) : Prop := ITm f G T ∧ SCm G S ∧ ILm f G Z ∧ IIm G I ∧ (0 < pRo S.1 → ∀ q, q < 144 → G 140 q = nI (gdA S.1 q))
-- what is true of it
def WW (S : Sn) : Prop := wfP S.1 ∧ wfS S.1 S.2.1 ∧ dOc S.2.1 + cnP (dPl S.2.1) (pPe S.1) = pPe S.1 ∧ wfQ S.1 S.2.2 ∧ ∀ h, h < pHe S.1 → ∃ t, dPl S.2.1 (12 + h) = some t
def WA (T : Tp) (S : Sn) (Z : Lz) (I : Im) : Prop := (T.1 ≤ 400 ∧ ∀ i, i < T.1 → fits .byte (.int (T.2 i)) = true) ∧ WW S ∧ (Z.1 ≤ 6 ∧ ∀ r, r < Z.1 → wfLw (Z.2 r)) ∧ ∀ k x, I k = some x → WW x
/-- what the class leaves as it is: the model -/
def CF (f G : Nat → Nat → Int32) (J : Nat → Nat → Int64) (f' G' : Nat → Nat → Int32) (J' : Nat → Nat → Int64) : Prop := (∀ o k, 125 ≤ o → f' o k = f o k) ∧ (∀ q k, 125 ≤ q → G' q k = G q k) ∧ (∀ q k, 125 ≤ q → J' q k = J q k)
def MF (f G : Nat → Nat → Int32) (J : Nat → Nat → Int64) (f' G' : Nat → Nat → Int32) (J' : Nat → Nat → Int64) : Prop := (∀ o k, o < 125 → f' o k = f o k) ∧ (∀ q k, q < 125 → G' q k = G q k) ∧ (∀ q k, q < 125 → J' q k = J q k)
variable {T : Tp} {S : Sn} {Z : Lz} {I : Im}
theorem MS_e (h : ∀ k, G' 126 k = G 126 k ∧ G' 127 k = G 127 k ∧ G' 128 k = G 128 k ∧ G' 129 k = G 129 k) {P : Pn} (hm : MS G P) : MS G' P := by
  unfold MS at hm ⊢
  simp only [h]
  exact hm
theorem MD_e (h : ∀ k, G' 126 k = G 126 k ∧ G' 135 k = G 135 k ∧ G' 136 k = G 136 k) {P : Pn} {D : Dy} (hm : MD G P D) : MD G' P D := by
  unfold MD at hm ⊢
  simp only [h]
  exact hm
theorem MSq_e (h : ∀ k, G' 126 k = G 126 k ∧ G' 137 k = G 137 k ∧ G' 138 k = G 138 k ∧ G' 139 k = G 139 k) {Q : Sp} (hm : MSq G Q) : MSq G' Q := by
  unfold MSq at hm ⊢
  simp only [h]
  exact hm
theorem SCm_e (h : ∀ q k, (126 ≤ q ∧ q ≤ 129) ∨ (135 ≤ q ∧ q ≤ 139) → G' q k = G q k) (hm : SCm G S) : SCm G' S :=
  ⟨MS_e (fun k => ⟨h 126 k (by omega), h 127 k (by omega), h 128 k (by omega), h 129 k (by omega)⟩) hm.1, MD_e (fun k => ⟨h 126 k (by omega), h 135 k (by omega), h 136 k (by omega)⟩) hm.2.1, MSq_e (fun k => ⟨h 126 k (by omega), h 137 k (by omega), h 138 k (by omega), h 139 k (by omega)⟩) hm.2.2⟩
theorem GI_e (h : ∀ k, G' 165 k = G 165 k) (k : Nat) : GI G' k = GI G k := by
  funext q i
  unfold GI
  simp only [h]
theorem IIm_e (h : ∀ k, G' 165 k = G 165 k ∧ G' 166 k = G 166 k) (hI : IIm G I) : IIm G' I := by
  intro k hk
  rw [GI_e (fun k => (h k).1), (h k).2]
  exact hI k hk
theorem ITm_e (hf : ∀ k, f' 125 k = f 125 k) (hG : ∀ k, G' 143 k = G 143 k) (hT : ITm f G T) : ITm f' G' T := by
  unfold ITm at hT ⊢
  simp only [hf, hG]
  exact hT
theorem ILm_e (hf : f' 125 23 = f 125 23) (hG : ∀ q k, 144 ≤ q ∧ q ≤ 149 → G' q k = G q k) (hL : ILm f G Z) : ILm f' G' Z := by
  refine ⟨by rw [hf]; exact hL.1, fun r hr => LRm_cg (fun q k h => hG q k (by omega)) (hL.2 r hr)⟩
theorem IM_cf (h : CF f G J f' G' J') (hM : IM f G T S Z I) : IM f' G' T S Z I := by
  obtain ⟨h1, h2, -⟩ := h
  obtain ⟨a1, a2, a3, a4, a5⟩ := hM
  refine ⟨ITm_e (fun k => h1 125 k (by omega)) (fun k => h2 143 k (by omega)) a1, SCm_e (fun q k hq => h2 q k (by omega)) a2, ILm_e (h1 125 23 (by omega)) (fun q k hq => h2 q k (by omega)) a3, IIm_e (fun k => ⟨h2 165 k (by omega), h2 166 k (by omega)⟩) a4, ?_⟩
  intro h0 q hq
  rw [h2 140 q (by omega)]
  exact a5 h0 q hq
/-- the model's questions leave it as it was -/
theorem IM_fq (h : FQ f G J f' G' J') (h140 : 0 < pRo S.1 → ∀ q, q < 144 → G' 140 q = nI (gdA S.1 q)) (hM : IM f G T S Z I) : IM f' G' T S Z I := by
  obtain ⟨h1, h2, -⟩ := h
  obtain ⟨a1, a2, a3, a4, a5⟩ := hM
  refine ⟨?_, SCm_e (fun q k hq => h2 q k (by omega) (by omega) (by omega) (by omega)) a2, ILm_e (h1 125 23 (by omega)) (fun q k hq => h2 q k (by omega) (by omega) (by omega) (by omega)) a3, IIm_e (fun k => ⟨h2 165 k (by omega) (by omega) (by omega) (by omega), h2 166 k (by omega) (by omega) (by omega) (by omega)⟩) a4, h140⟩
  unfold ITm at a1 ⊢
  rw [h1 125 19 (by omega), h1 125 28 (by omega)]
  refine ⟨a1.1, fun i hi => ?_, a1.2.2⟩
  rw [h2 143 i (by omega) (by omega) (by omega) (by omega)]
  exact a1.2.1 i hi
theorem MF_fq (h : FQ f G J f' G' J') : MF f G J f' G' J' := ⟨fun o k ho => h.1 o k (by omega), fun q k hq => h.2.1 q k (by omega) (by omega) (by omega) (by omega), fun q k hq => h.2.2 q k (by omega) (by omega)⟩
theorem MF_rf : MF f G J f G J := ⟨fun _ _ _ => rfl, fun _ _ _ => rfl, fun _ _ _ => rfl⟩
theorem CF_rf : CF f G J f G J := ⟨fun _ _ _ => rfl, fun _ _ _ => rfl, fun _ _ _ => rfl⟩
-- congruences of the class's part
theorem RS_e {p : Nat} (hf : ∀ k, f' p k = f p k) (hG : ∀ i, i < 10 → ∀ k, G' (p + i) k = G (p + i) k) {P : Pn} (hs : RS f G p P) : RS f' G' p P := RS_cgx hf hG hs
theorem RD_e {p : Nat} (hf : ∀ k, f' p k = f p k) (hG : ∀ i, i < 10 → ∀ k, G' (p + i) k = G (p + i) k) {D : Dy} (hs : RD f G p D) : RD f' G' p D := RD_cg (hf 5) (hf 6) (hG 2 (by omega)) (hG 3 (by omega)) (hG 6 (by omega)) hs
theorem RQ_e {p : Nat} (hf : ∀ k, f' p k = f p k) (hG : ∀ i, i < 10 → ∀ k, G' (p + i) k = G (p + i) k) {Q : Sp} (hs : RQ f G p Q) : RQ f' G' p Q := by
  unfold RQ at hs ⊢
  simp only [hf 7, hG 7 (by omega), hG 8 (by omega), hG 9 (by omega)]
  exact hs
theorem LRl_e {q : Nat} (hf : ∀ k, f' q k = f q k) (hG : ∀ i, i < 4 → ∀ k, G' (q + i) k = G (q + i) k) {L : Lw} (hL : LRl f G q L) : LRl f' G' q L := by
  unfold LRl at hL ⊢
  simp only [hf 0, hG 1 (by omega), hG 2 (by omega), hG 3 (by omega)]
  exact hL
theorem IIc_e (hf : ∀ o k, 84 ≤ o → o ≤ 123 → f' o k = f o k) (hG : ∀ q k, 84 ≤ q → q ≤ 124 → G' q k = G q k) (hI : IIc f G I) : IIc f' G' I := by
  intro k hk
  obtain ⟨h1, h2⟩ := hI k hk
  refine ⟨by rw [hG 124 k (by omega) (by omega)]; exact h1, fun x hx => ?_⟩
  obtain ⟨b1, b2, b3⟩ := h2 x hx
  have ef : ∀ i, f' (84 + 10 * k) i = f (84 + 10 * k) i := fun i => hf _ i (by omega) (by omega)
  have eG : ∀ i, i < 10 → ∀ j, G' (84 + 10 * k + i) j = G (84 + 10 * k + i) j := fun i hi j => hG _ j (by omega) (by omega)
  exact ⟨RS_e ef eG b1, RD_e ef eG b2, RQ_e ef eG b3⟩
theorem ILc_e (h0 : f' 0 6 = f 0 6) (hf : ∀ o k, 26 ≤ o → o ≤ 49 → f' o k = f o k) (hG : ∀ q k, 26 ≤ q → q ≤ 49 → G' q k = G q k) (hZ : Z.1 ≤ 6) (hI : ILc f G Z) : ILc f' G' Z := by
  refine ⟨by rw [h0]; exact hI.1, fun r hr => LRl_e (fun k => hf _ k (by omega) (by omega)) (fun i hi k => hG _ k (by omega) (by omega)) (hI.2 r hr)⟩
/-- all but the scene is as it was -/
theorem IC_cg {S' : Sn} (hf : ∀ o k, o ≤ 1 ∨ (26 ≤ o ∧ o ≤ 49) ∨ (84 ≤ o ∧ o ≤ 123) → f' o k = f o k) (hG : ∀ q k, q = 2 ∨ q = 14 ∨ (26 ≤ q ∧ q ≤ 49) ∨ (84 ≤ q ∧ q ≤ 124) → G' q k = G q k) (hZ : Z.1 ≤ 6) (hs : SCN f' G' J' S') (hI : IC f G J T S Z I) : IC f' G' J' T S' Z I := by
  obtain ⟨a1, -, a3, a4, a5⟩ := hI
  refine ⟨?_, hs, ILc_e (hf 0 6 (by omega)) (fun o k x1 x2 => hf o k (by omega)) (fun o k x1 x2 => hG o k (by omega)) hZ a3, IIc_e (fun o k x1 x2 => hf o k (by omega)) (fun o k x1 x2 => hG o k (by omega)) a4, ?_⟩
  · refine ⟨by rw [hf 1 1 (by omega)]; exact a1.1, fun i hi => by rw [hG 2 i (by omega)]; exact a1.2 i hi⟩
  · intro q hq
    rw [hG 14 q (by omega)]
    exact a5 q hq
theorem IC_mf (h : MF f G J f' G' J') (hZ : Z.1 ≤ 6) (hI : IC f G J T S Z I) : IC f' G' J' T S Z I := by
  obtain ⟨h1, h2, h3⟩ := h
  obtain ⟨b1, b2, b3, b4, b5⟩ := hI.2.1
  refine IC_cg (fun o k ho => h1 o k (by omega)) (fun q k hq => h2 q k (by omega)) hZ ⟨RS_e (fun k => h1 3 k (by omega)) (fun i hi k => h2 _ k (by omega)) b1, RD_e (fun k => h1 3 k (by omega)) (fun i hi k => h2 _ k (by omega)) b2, RQ_e (fun k => h1 3 k (by omega)) (fun i hi k => h2 _ k (by omega)) b3, ?_, ?_⟩ hI
  · have e53 : ∀ k, J' 53 k = J 53 k := fun k => h3 53 k (by omega)
    have e54 : ∀ k, J' 54 k = J 54 k := fun k => h3 54 k (by omega)
    unfold CK at b4 ⊢
    simp only [e53, e54]
    exact b4
  · intro h0 q hq
    rw [h2 51 q (by omega)]
    exact b5 h0 q hq
theorem KC_of {r : Nat} (hI : IC f G J T S Z I) (hr : r < Z.1) (h0 : 0 < pRo S.1) : KC f G J (26 + 4 * r) S.1 (gdA S.1) (Z.2 r) S.2.1 := ⟨hI.2.1.1, hI.2.1.2.1, hI.2.1.2.2.2.1, hI.2.1.2.2.2.2 h0, hI.2.2.1.2 r hr⟩
theorem IC_fp {q : Nat} {L : Lw} (h : FP f G J f' G' J') (hk : KC f' G' J' q S.1 (gdA S.1) L S.2.1) (hZ : Z.1 ≤ 6) (hI : IC f G J T S Z I) : IC f' G' J' T S Z I := by
  obtain ⟨h1, h2, -⟩ := h
  refine IC_cg (fun o k ho => h1 o k (by omega) (by omega) (by omega)) (fun q k hq => h2 q k (by omega) (by omega) (by omega) (by omega) (by omega) (by omega) (by omega)) hZ ⟨hk.1, hk.2.1, ?_, hk.2.2.1, fun _ => hk.2.2.2.1⟩ hI
  exact RQ_e (fun k => h1 3 k (by omega) (by omega) (by omega)) (fun i hi k => h2 _ k (by omega) (by omega) (by omega) (by omega) (by omega) (by omega) (by omega)) hI.2.1.2.2.1
theorem CF_fp (h : FP f G J f' G' J') : CF f G J f' G' J' := ⟨fun o k ho => h.1 o k (by omega) (by omega) (by omega), fun q k hq => h.2.1 q k (by omega) (by omega) (by omega) (by omega) (by omega) (by omega) (by omega), fun q k hq => h.2.2 q k (by omega) (by omega) (by omega) (by omega) (by omega)⟩
theorem CM_of {r : Nat} (hM : IM f G T S Z I) (hr : r < Z.1) (h0 : 0 < pRo S.1) : CM G r S.1 (gdA S.1) (Z.2 r) := ⟨hM.2.1.1, hM.2.2.1.2 r hr, hM.2.2.2.2 h0⟩
end TP1
-- ===== numbers that come in =====
section TP2
theorem i_gt {k : Nat} (hk : k < 2 ^ 30) {x : Int32} : (nI k < x) = (nI (k + 1) ≤ x) := by
  have h1 := nI_toInt (n := k) (by omega)
  have h2 := nI_toInt (n := k + 1) (by omega)
  rw [Int32.lt_iff_toInt_lt, Int32.le_iff_toInt_le, h1, h2]
  apply propext
  omega
theorem i_lt {k : Nat} (hk : k < 2 ^ 30) {x : Int32} : (x ≤ nI k) = (x < nI (k + 1)) := by
  have h1 := nI_toInt (n := k) (by omega)
  have h2 := nI_toInt (n := k + 1) (by omega)
  rw [Int32.lt_iff_toInt_lt, Int32.le_iff_toInt_le, h1, h2]
  apply propext
  omega
/-- below nothing -/
theorem NG {x : Int32} (h : x < 0) : (x < 0) = True ∧ (0 ≤ x) = False ∧ (x < 1) = True ∧ (1 ≤ x) = False ∧ (∀ k : Nat, k < 2 ^ 31 → (nI k < x) = False) ∧ (∀ k : Nat, k < 2 ^ 31 → (x ≤ nI k) = True) ∧ (∀ k : Nat, k < 2 ^ 31 → (nI k ≤ x) = False) ∧ (∀ k : Nat, k < 2 ^ 31 → (x = nI k) = False) ∧ (x = 0) = False ∧ (x = 1) = False ∧ (x ≤ 1) = True := by
  have h' := h
  rw [Int32.lt_iff_toInt_lt] at h'
  have z0 : (0 : Int32).toInt = 0 := by decide
  have z1 : (1 : Int32).toInt = 1 := by decide
  rw [z0] at h'
  have e : ∀ k : Nat, k < 2 ^ 31 → (x = nI k) = False := fun k hk => eq_false (fun e => nI_pos hk (by rw [← e]; exact h))
  refine ⟨eq_true h, ?_, ?_, ?_, ?_, ?_, ?_, e, e 0 (by decide), e 1 (by decide), ?_⟩
  · rw [Int32.le_iff_toInt_le, z0]; exact eq_false (by omega)
  · rw [Int32.lt_iff_toInt_lt, z1]; exact eq_true (by omega)
  · rw [Int32.le_iff_toInt_le, z1]; exact eq_false (by omega)
  · intro k hk
    rw [Int32.lt_iff_toInt_lt, nI_toInt hk]; exact eq_false (by omega)
  · intro k hk
    rw [Int32.le_iff_toInt_le, nI_toInt hk]; exact eq_true (by omega)
  · intro k hk
    rw [Int32.le_iff_toInt_le, nI_toInt hk]; exact eq_false (by omega)
  · rw [Int32.le_iff_toInt_le, z1]; exact eq_true (by omega)
/-- beyond -/
theorem BG {x : Int32} {n : Nat} (hn : n < 2 ^ 31) (h : nI n ≤ x) (h1 : 2 ≤ n) : (x < 0) = False ∧ (0 ≤ x) = True ∧ (x < 1) = False ∧ (1 ≤ x) = True ∧ (∀ k : Nat, k < n → (nI k < x) = True) ∧ (∀ k : Nat, k < n → (x ≤ nI k) = False) ∧ (∀ k : Nat, k ≤ n → (nI k ≤ x) = True) ∧ (∀ k : Nat, k < n → (x = nI k) = False) ∧ (x = 0) = False ∧ (x = 1) = False ∧ (x ≤ 1) = False := by
  have h' := h
  rw [Int32.le_iff_toInt_le, nI_toInt hn] at h'
  have z0 : (0 : Int32).toInt = 0 := by decide
  have z1 : (1 : Int32).toInt = 1 := by decide
  have e : ∀ k : Nat, k < n → (x = nI k) = False := fun k hk => eq_false (fun e => by rw [e, nI_toInt (by omega)] at h'; omega)
  refine ⟨?_, ?_, ?_, ?_, ?_, ?_, ?_, e, e 0 (by omega), e 1 (by omega), ?_⟩
  · rw [Int32.lt_iff_toInt_lt, z0]; exact eq_false (by omega)
  · rw [Int32.le_iff_toInt_le, z0]; exact eq_true (by omega)
  · rw [Int32.lt_iff_toInt_lt, z1]; exact eq_false (by omega)
  · rw [Int32.le_iff_toInt_le, z1]; exact eq_true (by omega)
  · intro k hk
    rw [Int32.lt_iff_toInt_lt, nI_toInt (by omega)]; exact eq_true (by omega)
  · intro k hk
    rw [Int32.le_iff_toInt_le, nI_toInt (by omega)]; exact eq_false (by omega)
  · intro k hk
    rw [Int32.le_iff_toInt_le, nI_toInt (by omega)]; exact eq_true (by omega)
  · rw [Int32.le_iff_toInt_le, z1]; exact eq_false (by omega)
/-- from 0 on and below n -/
def inN (x : Int32) (n : Nat) : Bool := !decide (x < 0) && !decide (nI n ≤ x)
theorem inN_nI {k n : Nat} (hk : k < 2 ^ 31) (hn : n < 2 ^ 31) : inN (nI k) n = decide (k < n) := by
  unfold inN
  rw [Bool.eq_iff_iff]
  simp only [nI_pos hk, nI_leI hn hk]
  simp
theorem inN_lo {x : Int32} {n : Nat} (h : x < 0) : inN x n = false := by simp [inN, h]
theorem inN_hi {x : Int32} {n m : Nat} (hm : m < 2 ^ 31) (hn : n ≤ m) (h : nI m ≤ x) : inN x n = false := by
  have : nI n ≤ x := Int32.le_trans (nI_le hn hm) h
  simp [inN, this]
theorem btw_in {x : Int32} {n : Nat} (hn : n < 2 ^ 30) : btw x 0 (nI n - 1) = inN x n := by
  unfold btw inN
  congr 1
  have h1 : (nI n - 1 < x) = (nI n ≤ x) := by
    have e1 := pk_sub_toInt (a := n) (b := 1) hn (by decide)
    rw [Int32.lt_iff_toInt_lt, Int32.le_iff_toInt_le, show (1 : Int32) = nI 1 from rfl, e1, nI_toInt (by omega)]
    apply propext
    omega
  simp only [h1]
theorem btw_0 {x : Int32} {n : Nat} (hn : n < 2 ^ 30) : btw x 0 (nI n) = inN x (n + 1) := by
  unfold btw inN
  congr 1
  simp only [i_gt hn]
theorem btw_1 {x : Int32} {n : Nat} (hn : n < 2 ^ 30) : btw x 1 (nI n) = (inN x (n + 1) && !decide (x = 0)) := by
  unfold btw inN
  have h1 : (x < 1) = (x < 0 ∨ x = 0) := by
    have z0 : (0 : Int32).toInt = 0 := by decide
    have z1 : (1 : Int32).toInt = 1 := by decide
    rw [Int32.lt_iff_toInt_lt, Int32.lt_iff_toInt_lt, ← Int32.toInt_inj, z0, z1]
    apply propext
    omega
  simp only [h1, i_gt hn]
  rw [Bool.eq_iff_iff]
  simp
  constructor
  · rintro ⟨⟨a, b⟩, e⟩; exact ⟨⟨a, e⟩, b⟩
  · rintro ⟨⟨a, e⟩, b⟩; exact ⟨⟨a, b⟩, e⟩
end TP2
