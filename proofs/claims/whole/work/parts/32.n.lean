variable {scr : List Int32}
-- ===== the world as the constructors leave it =====
section CTD
def f0 (p k : Nat) : Int32 := if p = 125 ∧ k = 28 then nI 9 else 0
/-- rows that begin with -1: who stands, where, when out -/
def m1R (q : Nat) : Bool := [5, 6, 9, 15, 16, 19, 62, 63, 66, 72, 73, 76, 86, 87, 90, 96, 97, 100, 106, 107, 110, 116, 117, 120].contains q
def g0 (q : Nat) : Int32 := if m1R q = true then -1 else 0
def G0 (q _k : Nat) : Int32 := g0 q
def J0 (_q _k : Nat) : Int64 := 0
theorem wo_0 : wo f0 G0 J0 .null = mk f0 (fun q => List.replicate (ln q) (g0 q)) (fun q => List.replicate (ln q) 0) .null := by
  unfold wo
  have e1 : (fun q => rwN (ln q) (G0 q)) = fun q => List.replicate (ln q) (g0 q) := funext fun q => rwN_rep
  have e2 : (fun q => rwN (ln q) (J0 q)) = fun q => List.replicate (ln q) 0 := funext fun q => rwN_rep
  rw [e1, e2]
def cqW (p : Nat) : Prop := (topH ++ moCs 125)[p]? = (LAY[p]?).map (cellW f0 (fun q => List.replicate (ln q) (g0 q)) (fun q => List.replicate (ln q) 0) .null p)
def allQ : Nat → Prop
  | 0 => True
  | n + 1 => allQ n ∧ cqW n
theorem allQ_at : ∀ n p, allQ n → p < n → cqW p
  | 0, p, _, h => absurd h (Nat.not_lt_zero p)
  | n + 1, p, h, hp => by
    by_cases e : p = n
    · rw [e]
      exact h.2
    · exact allQ_at n p h.1 (by omega)
set_option maxRecDepth 4000 in
theorem allQ_0 : allQ 167 := by
  repeat (first | exact trivial | refine And.intro ?_ rfl)
theorem top_wo : topH ++ moCs 125 = wo f0 G0 J0 .null := by
  rw [wo_0]
  apply List.ext_getElem?
  intro p
  rw [mk_get]
  by_cases h : p < 167
  · exact allQ_at 167 p allQ_0 h
  · rw [List.getElem?_eq_none (by rw [List.length_append, topH_len]; show 125 + 42 ≤ p; omega), List.getElem?_eq_none (by rw [LAY_len]; omega)]
    rfl
-- ===== it stands for the empty state =====
def S0 : Sn := nwS P0 nob
def Z0 : Lz := (0, fun _ => (0, fun _ => 0, fun _ => 0, fun _ => 0))
def I0 : Im := fun _ => none
def T0 : Tp := (0, fun _ => 0)
theorem f0_z {p k : Nat} (h : ¬ (p = 125 ∧ k = 28)) : f0 p k = 0 := if_neg h
theorem ic_0 : IC f0 G0 J0 T0 S0 Z0 I0 := by
  refine ⟨⟨rfl, fun i hi => absurd hi (Nat.not_lt_zero i)⟩, ⟨⟨⟨rfl, rfl, ?_, rfl, rfl⟩, ?_, ?_, ?_, ?_⟩, ⟨rfl, rfl, ?_, ?_, ?_⟩, ⟨rfl, ?_⟩, ?_, ?_⟩, ⟨rfl, fun r hr => absurd hr (Nat.not_lt_zero r)⟩, ?_, ?_⟩
  · show f0 3 2 = nI (gaL P0).length
    rw [ga_P0]
    rfl
  · intro q hq
    have hq : thB P0 q = true := hq
    rw [th_P0] at hq
    cases hq
  · intro w hw
    exact absurd hw (Nat.not_lt_zero w)
  · intro w hw
    exact absurd hw (Nat.not_lt_zero w)
  · intro q _
    rfl
  · intro q _
    show G0 5 q = oI (who nob q)
    rw [who_nob]
    rfl
  · intro w _
    rfl
  · intro w _
    rfl
  · intro i hi
    exact absurd hi (Nat.not_lt_zero i)
  · intro a b ha
    have ha : thB P0 a = true := ha
    rw [th_P0] at ha
    cases ha
  · intro h
    exact absurd h (Nat.lt_irrefl 0)
  · intro k _
    exact ⟨rfl, fun x hx => by cases hx⟩
  · intro q _
    rfl
theorem ex_P0 {w : Nat} (h : exB P0 w = true) : False := by
  unfold exB at h
  have e1 : pPe P0 = 0 := rfl
  have e2 : pHe P0 = 0 := rfl
  rw [e1, e2] at h
  simp at h
  omega
theorem im_0 : IM f0 G0 T0 S0 Z0 I0 := by
  refine ⟨⟨rfl, fun i hi => absurd hi (Nat.not_lt_zero i), rfl⟩, ⟨⟨⟨rfl, rfl, rfl, rfl⟩, ?_, ?_, ?_⟩, ⟨rfl, ?_, ?_⟩, ⟨rfl, ?_⟩⟩, ⟨rfl, fun r hr => absurd hr (Nat.not_lt_zero r)⟩, ?_, ?_⟩
  · intro q hq
    have hq : thB P0 q = true := hq
    rw [th_P0] at hq
    cases hq
  · intro w hw
    exact absurd hw (Nat.not_lt_zero w)
  · intro w hw
    exact absurd hw (Nat.not_lt_zero w)
  · intro w hw
    exact (ex_P0 hw).elim
  · intro w hw
    exact absurd hw (Nat.not_lt_zero w)
  · intro i hi
    exact absurd hi (Nat.not_lt_zero i)
  · intro k _
    exact ⟨rfl, fun x hx => by cases hx⟩
  · intro h
    exact absurd h (Nat.lt_irrefl 0)
theorem wa_0 : WA T0 S0 Z0 I0 := by
  refine ⟨⟨Nat.zero_le _, fun i hi => absurd hi (Nat.not_lt_zero i)⟩, ⟨WD_0.1, ⟨WD_0.2.1, Nat.zero_le _⟩, rfl, ⟨Nat.zero_le _, fun i hi => absurd hi (Nat.not_lt_zero i)⟩, fun h hh => absurd hh (Nat.not_lt_zero h)⟩, ⟨Nat.zero_le _, fun r hr => absurd hr (Nat.not_lt_zero r)⟩, fun k x hx => by cases hx⟩
/-- the law, from its first instruction -/
theorem law_all (h30 : scr.length ≤ 3072) : E scr true 1000 237 0 [.ref 10003, .null, .null, .null] [] [] KE := by
  apply ct237
  rw [top_wo]
  exact lp_law h30 scr.length 0 f0 G0 J0 .null T0 S0 Z0 I0 rfl (by omega) ic_0 im_0 wa_0
end CTD
