/-! THE CLAIM OUT OF ONE WALK OF THE LAW'S BODY. Your part is whole_start (and what it stands on); all else here is the same for every law, but numbers. -/
def R_law : String := "SecondNearestLaw"
def lw_P (b : Addr) (xs : List Int32) (args : Array Value) (s : State) : Prop := args = #[.ref b] ∧ s.IntsAt b xs ∧ xs.length ≤ 3072 ∧ (Jvm.Cond.and given_1 narrow_1).before args s = true
def lw_Q (_ : Array Value) (s : State) (o : Outcome) (t : State) : Prop := o = .returned (some (.int 1)) ∧ Framed s o t [] 600000 7302250
def lw_Z (below : List Frame) (a : Array Value) (s : State) : State → Prop := fun t => ∃ o, t.status = .running ∧ Ended t below o ∧ lw_Q a s o t
/-- the law's own end, with 1 on the stack, nothing written that was there before, its room as the claim has it -/
theorem lw_ret {p : Program} {l : Launch} {e : Env} {s : State} {m : MethodId} {below : List Frame} {meth : Method} {c : Code} {b : Nat} (hx : p.tables.exec = Jvm.exec) (hb : c.code = code) (hr : meth.sig.returnType = ret) (hlocks : meth.locks = false) {pc : Nat} {H : Heap} {ls : Array Slot} (hdg : decode code pc = .ok (.ireturn, 1)) : W p l e room_1 s m #[Value.ref b] below meth c H [] 600000 7302250 (lw_Z below #[Value.ref b] s) (F0 m pc ls [.int 1]) := by
  intro T hT X
  obtain ⟨fs, hret, hrun, hended, hW, hframe⟩ := X.leave (v := some (.int 1)) (hlocks := hlocks) (fun h => by rw [hr] at h; cases h)
  have hmeth' : T.vm.method? m = some meth := X.method'
  refine ⟨T.setFrames fs, ?_, .returned (some (.int 1)), hrun, hended, rfl, ⟨_, rfl⟩, hW, hframe⟩
  jvm_step X.here [X.here.top, hx, hb, hdg, hmeth', hr, ret, narrow_b1]
  (try refine ⟨rfl, ?_⟩); (try refine ⟨rfl, ?_⟩)
  first | (intro acts; rw [hret _ acts rfl rfl rfl]) | rw [hret _ _ rfl rfl rfl]
  exact Steps.refl _
/-- what holds at the law's entry: the machine, the code, the tables' words (any of lw_tbl by 'hts w (by decide +kernel)'), the script of L ints xs at the cell b, what the Statement gives of the start (any of its parts by flat_of_before) -/
def lw_At (p : Program) (s : State) (m : MethodId) (meth : Method) (c : Code) (b L : Nat) (xs : Nat → Int32) : Prop :=
  p.tables.exec = Jvm.exec ∧ c.code = code ∧ meth.sig.returnType = ret ∧ c.maxLocals = 4 ∧ s.vm.findClass R_law = some m.cls ∧ (∀ w ∈ lw_tbl, w.before #[Value.ref b] s = true) ∧ va_X b L xs s s.heap ∧ b < s.heap.size ∧ meth.locks = false ∧ (Jvm.Cond.and given_1 narrow_1).before #[Value.ref b] s = true

theorem mAt237 : mAt 237 = (yL_law, cL_law, 4, some .boolean, 1, 18, mr237) := by rfl
theorem mI237 : mIni 237 = none := by decide +kernel
/-- the law's walk out of a run of the small machine -/
theorem whole_of (hE : ∀ xs : List Int32, xs.length ≤ 3072 → E xs true 1000 237 0 [.ref 10003, .null, .null, .null] [] [] (fun r h => r = some (.int 1) ∧ h.length ≤ 600000 ∧ slt h ≤ 7302250))
    {p : Program} {e : Env} {s : State} {m : MethodId} {below : List Frame} {meth : Method} {c : Code} (l : Launch) {b L : Nat} {xs : Nat → Int32} (hL : L ≤ 3072) (C0 : lw_At p s m meth c b L xs) : W p l e room_1 s m #[Value.ref b] below meth c s.heap [] 0 0 (lw_Z below #[Value.ref b] s) (entryFrame m ([Value.ref b] : List Value).toArray 4) := by
  obtain ⟨hx, hb, hr, hml, hown, hts, hX, hbl, hlocks, hgv⟩ := id C0
  obtain ⟨ro, hro3, hG⟩ := Gl_start hgv hts hX hbl hL
  obtain ⟨D, cA, hK⟩ := K_start hts
  obtain ⟨n, u, hrun, h1, h2, h3⟩ := hE ((List.range L).map xs) (by simp; exact hL)
  obtain ⟨r, hF⟩ := u
  simp only at h1 h2 h3
  subst h1
  have em : mMax 237 = 4 := by unfold mMax; rw [mAt237]
  have hc : Cx p s m #[Value.ref b] meth c 237 := by
    refine ⟨hx, ?_, ?_, ?_, ?_, fun w hw => hts w (List.mem_filter.mp hw).1, hlocks, fun q => absurd mI237 q⟩
    · rw [mAt237]; exact hb
    · rw [em]; exact hml
    · unfold mRet; rw [mAt237]; exact hr
    · unfold mCi; rw [mAt237]; exact hown
  have hl := lv_entry ([.ref b]) (n := 4) (Nat.le_of_ble_eq_true rfl)
  rw [lg_entry_eq]
  generalize (lg_sl ([.ref b]) ++ List.replicate (4 - (lg_sl ([.ref b])).length) Slot.unset).toArray = ls at hl ⊢
  have hrel : Rel D cA s.heap.size ro s (mMax 237) ro [] s.heap [] ls [.ref 10003, .null, .null, .null] := by
    refine ⟨fun k q h => by simp [tw] at h, ⟨fun i j p q h => by simp [tw] at h, fun k q h => by simp [tw] at h⟩, va_S.rf, ⟨em.symm ▸ rfl, _, em.symm ▸ hl, fun i v hi hv => ?_⟩, fun _ _ => rfl⟩
    match i, hi with
    | 0, hi => cases hi; simp only [tv, hro3]; exact List.mem_cons_self
    | 1, hi => cases hi; exact absurd rfl hv
    | 2, hi => cases hi; exact absurd rfl hv
    | 3, hi => cases hi; exact absurd rfl hv
    | i + 4, hi => simp at hi
  refine run_sim n true 1000 237 0 [.ref 10003, .null, .null, .null] [] [] (some (.int 1), hF) hrun p l e room_1 s m #[Value.ref b] below meth c D cA s.heap.size ro hc (by decide) (by decide) hK hG (Nat.le_refl _) (lw_Z below #[Value.ref b] s) ro 0 ?_ ro s.heap [] 0 0 ls hrel (Nat.le_refl _) (fun _ _ => rfl) ?_ ?_
  · intro i pc' ad' H' locs' cells' slots' ls' L' hi hd hrel' ha hb1 hb2
    rcases hi with ⟨rfl, x, e1, e2⟩ | ⟨rfl, x, e1, e2⟩ | ⟨rfl, x, e1, e2⟩ | ⟨rfl, e1, e2⟩
    · cases e1
      rw [mAt237] at hd
      refine va_forget (fun q hq => hrel'.2.2.1.2.2 q hq) ?_
      refine W.widen (k := 600000) (n := 7302250) hb1 hb2 ?_
      exact lw_ret hx hb hr hlocks hd
    · cases e1
    · cases e1
    · cases e1
  · show 0 + (hF.length - 0) ≤ 600000
    omega
  · show 0 + (slt hF - slt []) ≤ 7302250
    have : slt [] = 0 := rfl
    omega
