variable {scr : List Int32}
-- ===== the law: the class's call =====
section LW8
variable {f G f' G' : Nat → Nat → Int32} {J J' : Nat → Nat → Int64} {c : Value} {d : Nat} {T : Tp} {p q : Nat} {s : Ls} {L : Lq} {S : Sn} {Z : Lz} {I : Im}
def adZ (Z : Lz) (L : Lw) : Lz := (Z.1 + 1, fun r => if r = Z.1 then L else Z.2 r)
theorem IC_fl2 (hZ : Z.1 < 6) (h : FL2 (26 + 4 * Z.1) f G f' G') (hI : IC f G J T S Z I) : CF f G J (up2 f' 1 1 0) G' J ∧ SCN (up2 f' 1 1 0) G' J S ∧ (∀ r, r < Z.1 → LRl (up2 f' 1 1 0) G' (26 + 4 * r) (Z.2 r)) ∧ IIc (up2 f' 1 1 0) G' I ∧ IDc G' ∧ up2 f' 1 1 0 0 6 = f 0 6 := by
  obtain ⟨h1, h2⟩ := h
  obtain ⟨-, ⟨b1, b2, b3, b4, b5⟩, a3, a4, a5⟩ := hI
  have hf : ∀ o k, ¬ o = 1 → ¬ (o = 24 ∧ k = 2) → ¬ o = 26 + 4 * Z.1 → up2 f' 1 1 0 o k = f o k := fun o k x1 x2 x3 => by rw [up2_q x1, h1 o k (by omega) x2 (by omega)]
  refine ⟨⟨fun o k ho => hf o k (by omega) (by omega) (by omega), fun r k hr => h2 r k (by omega), fun _ _ _ => rfl⟩, ⟨RS_e (fun k => hf 3 k (by omega) (by omega) (by omega)) (fun i hi k => h2 _ k (by omega)) b1, RD_e (fun k => hf 3 k (by omega) (by omega) (by omega)) (fun i hi k => h2 _ k (by omega)) b2, RQ_e (fun k => hf 3 k (by omega) (by omega) (by omega)) (fun i hi k => h2 _ k (by omega)) b3, b4, fun h0 q hq => by rw [h2 51 q (by omega)]; exact b5 h0 q hq⟩, fun r hr => LRl_e (fun k => hf _ k (by omega) (by omega) (by omega)) (fun i hi k => ?_) (a3.2 r hr), IIc_e (fun o k x1 x2 => hf o k (by omega) (by omega) (by omega)) (fun q k x1 x2 => h2 q k (by omega)) a4, fun q hq => by rw [h2 14 q (by omega)]; exact a5 q hq, hf 0 6 (by omega) (by omega) (by omega)⟩
  exact h2 _ k (by omega)
theorem k95 (hI : IC f G J T S Z I) (hA : WA T S Z I) {K : Int32 → aH → Prop} (h6 : Z.1 = 6 → K (-1) (wo f G J c)) (hf : ∀ x f' G' c', Z.1 < 6 → lwL T 13 lw0 (0, [], 0) = .inl x → CF f G J f' G' J → IC f' G' J (0, T.2) S Z I → K (-2 - nI x) (wo f' G' J c')) (hg : ∀ L C f' G' c', Z.1 < 6 → lwL T 13 lw0 (0, [], 0) = .inr (L, C) → CF f G J f' G' J → IC f' G' J (0, T.2) S (adZ Z (mkL L C)) I → K (nI Z.1) (wo f' G' J c')) : vI scr (d + 40) 95 [.ref 0] (wo f G J c) K := by
  have hT := TX_of hA
  have hZ := hA.2.2.1.1
  have e6 : f 0 6 = nI Z.1 := hI.2.2.1.1
  unfold vI
  rw [u95_ok, en95, b95_0]
  simp (disch := omega) only [tO scr, e6, nI_nn (show Z.1 < 2 ^ 30 by omega), if_false, show (6 : Int32) = nI 6 from rfl, NC, true_and]
  by_cases h : Z.1 < 6
  · rw [if_pos h, laR h]
    apply w8 (d := d + 7) hT (isL h) hI.1
    · intro x f1 G1 hx fl
      obtain ⟨x0, x25⟩ := lw_x hT 13 lw0 (0, [], 0) x hx rfl LJq_0 (Nat.zero_le _) (Nat.zero_le _)
      obtain ⟨cf, i2, i3, i4, i5, i6⟩ := IC_fl2 h fl hI
      simp only [tO scr, tA scr, nI_nz x0 (show x < 2 ^ 30 by omega), if_false]
      exact ⟨_, rfl, hf x _ _ _ h hx cf ⟨⟨up2_s, fun i hi => by have hi : i < 0 := hi; omega⟩, i2, ⟨by rw [i6]; exact e6, i3⟩, i4, i5⟩⟩
    · intro L' C' s' f1 G1 hx hs ls lq fl
      obtain ⟨cf, i2, i3, i4, i5, i6⟩ := IC_fl2 h fl hI
      obtain ⟨lj, hC⟩ := lw_ok 13 lw0 (0, [], 0) L' C' hx LJq_0 (Nat.zero_le _) hT.1 (Nat.zero_le _) (Nat.zero_le _)
      simp only [tO scr, tA scr, if_true, i6, e6, nI_1, up2_s]
      have e : nI (Z.1 + 1) - 1 = nI Z.1 := nI_s1 (by omega)
      rw [e]
      refine ⟨_, rfl, hg L' C' _ _ _ h hx ⟨fun o k ho => by rw [up2_q (by omega)]; exact cf.1 o k ho, cf.2.1, cf.2.2⟩ ⟨⟨by rw [up2_q (by decide)]; exact up2_s, fun i hi => by have hi : i < 0 := hi; omega⟩, ?_, ⟨up2_s, fun r hr => ?_⟩, IIc_e (fun o k x1 x2 => up2_q (by omega)) (fun _ _ _ _ => rfl) i4, i5⟩⟩
      · obtain ⟨b1, b2, b3, b4, b5⟩ := i2
        exact ⟨RS_e (fun k => up2_q (by omega)) (fun _ _ _ => rfl) b1, RD_e (fun k => up2_q (by omega)) (fun _ _ _ => rfl) b2, RQ_e (fun k => up2_q (by omega)) (fun _ _ _ => rfl) b3, b4, b5⟩
      · have hr : r < Z.1 + 1 := hr
        show LRl _ _ _ (if r = Z.1 then mkL L' C' else Z.2 r)
        by_cases e : r = Z.1
        · rw [if_pos e, e]
          have ez : ∀ k, up2 (up2 f1 1 1 0) 0 6 (nI (Z.1 + 1)) (26 + 4 * Z.1) k = f1 (26 + 4 * Z.1) k := fun k => by rw [up2_q (by omega), up2_q (by omega)]
          refine ⟨by rw [ez]; exact lq.1, lq.2.1, lq.2.2, fun i hi k hk => ?_⟩
          have b := (lj.2.2.1 i hi).2.1
          have hk : k < L'.2.2 i := hk
          have := ls.2.2.2.2 k (by rw [hs]; omega)
          rw [hs] at this
          exact this
        · rw [if_neg e]
          exact LRl_e (fun k => up2_q (by omega)) (fun _ _ _ => rfl) (i3 r (by omega))
  · rw [if_neg h]
    exact ⟨_, rfl, h6 (by omega)⟩
end LW8
