variable {scr : List Int32}
-- ===== calls and returns: a run of the small machine is one of the machine =====
theorem wrF_len {h h' : aH} {q ci f : Nat} {v : Value} (e : wrF h q ci f v = some h') : h'.length = h.length ∧ slt h' = slt h := by
  unfold wrF at e
  split at e
  · rename_i c1 fs he
    split at e
    · cases e
      exact ⟨by simp, slt_set he (by simp [szC])⟩
    · cases e
  · cases e
theorem wrA_len {h h' : aH} {q t : Nat} {i v : Int32} (e : wrA h q t i v = some h') : h'.length = h.length ∧ slt h' = slt h := by
  unfold wrA at e
  split at e
  · rename_i c1 fs he
    split at e
    · cases e
      exact ⟨by simp, slt_set he (by simp [szC])⟩
    · cases e
  · cases e
theorem wrJ_len {h h' : aH} {q : Nat} {i : Int32} {v : Int64} (e : wrJ h q i v = some h') : h'.length = h.length ∧ slt h' = slt h := by
  unfold wrJ at e
  split at e
  · rename_i c1 fs he
    split at e
    · cases e
      exact ⟨by simp, slt_set he (by simp [szC])⟩
    · cases e
  · cases e
theorem wrR_len {h h' : aH} {q x : Nat} {i : Int32} (e : wrR h q i x = some h') : h'.length = h.length ∧ slt h' = slt h := by
  unfold wrR at e
  split at e
  · rename_i c1 fs he
    split at e
    · split at e
      · cases e
        exact ⟨by simp, slt_set he (by simp [szC])⟩
      · cases e
    · cases e
  · cases e
theorem cpA_len {h h' : aH} {sq dq : Nat} {n : Int32} (e : cpA h sq dq n = some h') : h'.length = h.length ∧ slt h' = slt h := by
  unfold cpA at e
  split at e
  · rename_i t l t' l' he1 he2
    split at e
    · rename_i g
      cases e
      exact ⟨by simp, slt_set he2 (by simp only [szC]; omega)⟩
    · cases e
  · cases e
def Mono (al : Bool) (h h' : aH) : Prop := h.length ≤ h'.length ∧ slt h ≤ slt h' ∧ (al = false → h'.length = h.length ∧ slt h' = slt h)
theorem Mono.rf (al : Bool) (h : aH) : Mono al h h := ⟨Nat.le_refl _, Nat.le_refl _, fun _ => ⟨rfl, rfl⟩⟩
theorem Mono.eq {al : Bool} {h h' : aH} (e : h'.length = h.length ∧ slt h' = slt h) : Mono al h h' := ⟨by omega, by omega, fun _ => e⟩
theorem Mono.tr {al : Bool} {h h' h'' : aH} (a : Mono al h h') (b : Mono al h' h'') : Mono al h h'' := ⟨Nat.le_trans a.1 b.1, Nat.le_trans a.2.1 b.2.1, fun q => ⟨(b.2.2 q).1.trans (a.2.2 q).1, (b.2.2 q).2.trans (a.2.2 q).2⟩⟩
theorem Mono.up {al : Bool} {h h' : aH} (a : Mono false h h') : Mono al h h' := ⟨a.1, a.2.1, fun _ => a.2.2 rfl⟩
theorem Mono.app {h : aH} {e : aC} : Mono true h (h ++ [e]) := ⟨by simp, by rw [slt_app]; omega, fun q => by cases q⟩
set_option maxHeartbeats 4000000 in
theorem stp_mono {al : Bool} {ini : Option Nat} {i : Instr} {len a b pc : Nat} {L st : List Value} {h : aH} {w : aF} (hs : stp scr al ini i len a b pc L st h = some w) : Mono al h w.2.2.2 := by
  cases i <;> (try (simp only [stp, reduceCtorEq] at hs; done))
  case iconst n =>
    obtain ⟨_, e1⟩ := lenO_inv hs
    cases e1
    exact Mono.rf _ _
  case bipush n =>
    obtain ⟨_, e1⟩ := lenO_inv hs
    cases e1
    exact Mono.rf _ _
  case sipush n =>
    obtain ⟨_, e1⟩ := lenO_inv hs
    cases e1
    exact Mono.rf _ _
  case lconst n =>
    obtain ⟨_, e1⟩ := lenO_inv hs
    cases e1
    exact Mono.rf _ _
  case ldc k =>
    obtain ⟨_, e1⟩ := lenO_inv hs
    cases e1
    exact Mono.rf _ _
  case ldc_w k =>
    obtain ⟨_, e1⟩ := lenO_inv hs
    cases e1
    exact Mono.rf _ _
  case ldc2_w k =>
    obtain ⟨_, e1⟩ := lenO_inv hs
    cases e1
    exact Mono.rf _ _
  case getstatic k =>
    obtain ⟨_, e1⟩ := lenO_inv hs
    cases e1
    exact Mono.rf _ _
  case iload_n k =>
    obtain ⟨_, e1⟩ := lenO_inv hs
    obtain ⟨_, _, e2⟩ := lI_inv e1
    cases e2
    exact Mono.rf _ _
  case iload k =>
    obtain ⟨_, e1⟩ := lenO_inv hs
    obtain ⟨_, _, e2⟩ := lI_inv e1
    cases e2
    exact Mono.rf _ _
  case lload_n k =>
    obtain ⟨_, e1⟩ := lenO_inv hs
    obtain ⟨_, _, e2⟩ := lJ_inv e1
    cases e2
    exact Mono.rf _ _
  case lload k =>
    obtain ⟨_, e1⟩ := lenO_inv hs
    obtain ⟨_, _, e2⟩ := lJ_inv e1
    cases e2
    exact Mono.rf _ _
  case aload_n k =>
    obtain ⟨_, e1⟩ := lenO_inv hs
    obtain ⟨_, _, e2⟩ := lR_inv e1
    cases e2
    exact Mono.rf _ _
  case aload k =>
    obtain ⟨_, e1⟩ := lenO_inv hs
    obtain ⟨_, _, e2⟩ := lR_inv e1
    cases e2
    exact Mono.rf _ _
  case istore_n k =>
    obtain ⟨_, e1⟩ := lenO_inv hs
    obtain ⟨_, _, _, e2⟩ := pI_inv e1
    obtain ⟨hal, e3⟩ := atL_inv e2
    cases e3
    exact Mono.rf _ _
  case istore k =>
    obtain ⟨_, e1⟩ := lenO_inv hs
    obtain ⟨_, _, _, e2⟩ := pI_inv e1
    obtain ⟨hal, e3⟩ := atL_inv e2
    cases e3
    exact Mono.rf _ _
  case lstore_n k =>
    obtain ⟨_, e1⟩ := lenO_inv hs
    obtain ⟨_, _, _, e2⟩ := pL_inv e1
    obtain ⟨hal, e3⟩ := atL_inv e2
    cases e3
    exact Mono.rf _ _
  case lstore k =>
    obtain ⟨_, e1⟩ := lenO_inv hs
    obtain ⟨_, _, _, e2⟩ := pL_inv e1
    obtain ⟨hal, e3⟩ := atL_inv e2
    cases e3
    exact Mono.rf _ _
  case astore_n k =>
    obtain ⟨_, e1⟩ := lenO_inv hs
    obtain ⟨_, _, _, e2⟩ := pR_inv e1
    obtain ⟨hal, e3⟩ := atL_inv e2
    cases e3
    exact Mono.rf _ _
  case astore k =>
    obtain ⟨_, e1⟩ := lenO_inv hs
    obtain ⟨_, _, _, e2⟩ := pR_inv e1
    obtain ⟨hal, e3⟩ := atL_inv e2
    cases e3
    exact Mono.rf _ _
  case iinc k n =>
    obtain ⟨_, e1⟩ := lenO_inv hs
    obtain ⟨_, _, e2⟩ := lI_inv e1
    obtain ⟨hal, e3⟩ := atL_inv e2
    cases e3
    exact Mono.rf _ _
  case iadd =>
    obtain ⟨_, e1⟩ := lenO_inv hs
    obtain ⟨_, _, _, e2⟩ := pI_inv e1
    obtain ⟨_, _, _, e3⟩ := pI_inv e2
    cases e3
    exact Mono.rf _ _
  case isub =>
    obtain ⟨_, e1⟩ := lenO_inv hs
    obtain ⟨_, _, _, e2⟩ := pI_inv e1
    obtain ⟨_, _, _, e3⟩ := pI_inv e2
    cases e3
    exact Mono.rf _ _
  case imul =>
    obtain ⟨_, e1⟩ := lenO_inv hs
    obtain ⟨_, _, _, e2⟩ := pI_inv e1
    obtain ⟨_, _, _, e3⟩ := pI_inv e2
    cases e3
    exact Mono.rf _ _
  case iand =>
    obtain ⟨_, e1⟩ := lenO_inv hs
    obtain ⟨_, _, _, e2⟩ := pI_inv e1
    obtain ⟨_, _, _, e3⟩ := pI_inv e2
    cases e3
    exact Mono.rf _ _
  case ior =>
    obtain ⟨_, e1⟩ := lenO_inv hs
    obtain ⟨_, _, _, e2⟩ := pI_inv e1
    obtain ⟨_, _, _, e3⟩ := pI_inv e2
    cases e3
    exact Mono.rf _ _
  case ixor =>
    obtain ⟨_, e1⟩ := lenO_inv hs
    obtain ⟨_, _, _, e2⟩ := pI_inv e1
    obtain ⟨_, _, _, e3⟩ := pI_inv e2
    cases e3
    exact Mono.rf _ _
  case ishl =>
    obtain ⟨_, e1⟩ := lenO_inv hs
    obtain ⟨_, _, _, e2⟩ := pI_inv e1
    obtain ⟨_, _, _, e3⟩ := pI_inv e2
    cases e3
    exact Mono.rf _ _
  case ishr =>
    obtain ⟨_, e1⟩ := lenO_inv hs
    obtain ⟨_, _, _, e2⟩ := pI_inv e1
    obtain ⟨_, _, _, e3⟩ := pI_inv e2
    cases e3
    exact Mono.rf _ _
  case iushr =>
    obtain ⟨_, e1⟩ := lenO_inv hs
    obtain ⟨_, _, _, e2⟩ := pI_inv e1
    obtain ⟨_, _, _, e3⟩ := pI_inv e2
    cases e3
    exact Mono.rf _ _
  case ladd =>
    obtain ⟨_, e1⟩ := lenO_inv hs
    obtain ⟨_, _, _, e2⟩ := pL_inv e1
    obtain ⟨_, _, _, e3⟩ := pL_inv e2
    cases e3
    exact Mono.rf _ _
  case lsub =>
    obtain ⟨_, e1⟩ := lenO_inv hs
    obtain ⟨_, _, _, e2⟩ := pL_inv e1
    obtain ⟨_, _, _, e3⟩ := pL_inv e2
    cases e3
    exact Mono.rf _ _
  case lmul =>
    obtain ⟨_, e1⟩ := lenO_inv hs
    obtain ⟨_, _, _, e2⟩ := pL_inv e1
    obtain ⟨_, _, _, e3⟩ := pL_inv e2
    cases e3
    exact Mono.rf _ _
  case land =>
    obtain ⟨_, e1⟩ := lenO_inv hs
    obtain ⟨_, _, _, e2⟩ := pL_inv e1
    obtain ⟨_, _, _, e3⟩ := pL_inv e2
    cases e3
    exact Mono.rf _ _
  case lor =>
    obtain ⟨_, e1⟩ := lenO_inv hs
    obtain ⟨_, _, _, e2⟩ := pL_inv e1
    obtain ⟨_, _, _, e3⟩ := pL_inv e2
    cases e3
    exact Mono.rf _ _
  case lcmp =>
    obtain ⟨_, e1⟩ := lenO_inv hs
    obtain ⟨_, _, _, e2⟩ := pL_inv e1
    obtain ⟨_, _, _, e3⟩ := pL_inv e2
    cases e3
    exact Mono.rf _ _
  case idiv =>
    obtain ⟨_, e1⟩ := lenO_inv hs
    obtain ⟨_, _, _, e2⟩ := pI_inv e1
    obtain ⟨_, _, _, e3⟩ := pI_inv e2
    obtain ⟨hal, e4⟩ := atL_inv e3
    cases e4
    exact Mono.rf _ _
  case irem =>
    obtain ⟨_, e1⟩ := lenO_inv hs
    obtain ⟨_, _, _, e2⟩ := pI_inv e1
    obtain ⟨_, _, _, e3⟩ := pI_inv e2
    obtain ⟨hal, e4⟩ := atL_inv e3
    cases e4
    exact Mono.rf _ _
  case ldiv =>
    obtain ⟨_, e1⟩ := lenO_inv hs
    obtain ⟨_, _, _, e2⟩ := pL_inv e1
    obtain ⟨_, _, _, e3⟩ := pL_inv e2
    obtain ⟨hal, e4⟩ := atL_inv e3
    cases e4
    exact Mono.rf _ _
  case lrem =>
    obtain ⟨_, e1⟩ := lenO_inv hs
    obtain ⟨_, _, _, e2⟩ := pL_inv e1
    obtain ⟨_, _, _, e3⟩ := pL_inv e2
    obtain ⟨hal, e4⟩ := atL_inv e3
    cases e4
    exact Mono.rf _ _
  case lshl =>
    obtain ⟨_, e1⟩ := lenO_inv hs
    obtain ⟨_, _, _, e2⟩ := pI_inv e1
    obtain ⟨_, _, _, e3⟩ := pL_inv e2
    cases e3
    exact Mono.rf _ _
  case ineg =>
    obtain ⟨_, e1⟩ := lenO_inv hs
    obtain ⟨_, _, _, e2⟩ := pI_inv e1
    cases e2
    exact Mono.rf _ _
  case i2l =>
    obtain ⟨_, e1⟩ := lenO_inv hs
    obtain ⟨_, _, _, e2⟩ := pI_inv e1
    cases e2
    exact Mono.rf _ _
  case i2b =>
    obtain ⟨_, e1⟩ := lenO_inv hs
    obtain ⟨_, _, _, e2⟩ := pI_inv e1
    cases e2
    exact Mono.rf _ _
  case i2c =>
    obtain ⟨_, e1⟩ := lenO_inv hs
    obtain ⟨_, _, _, e2⟩ := pI_inv e1
    cases e2
    exact Mono.rf _ _
  case dup =>
    obtain ⟨_, e1⟩ := lenO_inv hs
    split at e1
    · obtain ⟨_, e9⟩ := atL_inv e1
      cases e9
      exact Mono.rf _ _
    · cases e1
  case pop =>
    obtain ⟨_, e1⟩ := lenO_inv hs
    split at e1
    · obtain ⟨_, e9⟩ := atL_inv e1
      cases e9
      exact Mono.rf _ _
    · cases e1
  case dup2 =>
    obtain ⟨_, e1⟩ := lenO_inv hs
    split at e1
    · obtain ⟨_, e9⟩ := atL_inv e1
      cases e9
      exact Mono.rf _ _
    · cases e1
  case ifCond c off =>
    obtain ⟨_, e1⟩ := lenO_inv hs
    obtain ⟨_, _, _, e2⟩ := pI_inv e1
    obtain ⟨_, hw, e3⟩ := oB_inv e2
    cases e3
    exact Mono.rf _ _
  case if_icmp c off =>
    obtain ⟨_, e1⟩ := lenO_inv hs
    obtain ⟨_, _, _, e2⟩ := pI_inv e1
    obtain ⟨_, _, _, e3⟩ := pI_inv e2
    obtain ⟨_, hw, e4⟩ := oB_inv e3
    cases e4
    exact Mono.rf _ _
  case goto off =>
    obtain ⟨_, e1⟩ := lenO_inv hs
    obtain ⟨_, hw, e2⟩ := oB_inv e1
    cases e2
    exact Mono.rf _ _
  case tableswitch d lo hi offs =>
    obtain ⟨_, _, _, e1⟩ := pI_inv hs
    obtain ⟨_, hw, e2⟩ := oB_inv e1
    obtain ⟨_, hw, e3⟩ := oB_inv e2
    cases e3
    exact Mono.rf _ _
  case lookupswitch d ps =>
    obtain ⟨_, _, _, e1⟩ := pI_inv hs
    obtain ⟨hal, e2⟩ := atL_inv e1
    obtain ⟨_, hw, e3⟩ := oB_inv e2
    cases e3
    exact Mono.rf _ _
  case getfield k =>
    obtain ⟨_, e1⟩ := lenO_inv hs
    obtain ⟨_, _, _, e2⟩ := pR_inv e1
    obtain ⟨_, hw, e3⟩ := oB_inv e2
    obtain ⟨hal, e4⟩ := atL_inv e3
    cases e4
    exact Mono.rf _ _
  case putfield k =>
    obtain ⟨_, e1⟩ := lenO_inv hs
    split at e1
    · obtain ⟨_, e8⟩ := atL_inv e1
      obtain ⟨_, hw, e9⟩ := oB_inv e8
      cases e9
      exact Mono.eq (wrF_len hw)
    · cases e1
  case iaload =>
    obtain ⟨_, e1⟩ := lenO_inv hs
    obtain ⟨_, _, _, e2⟩ := pI_inv e1
    obtain ⟨_, _, _, e3⟩ := pR_inv e2
    obtain ⟨_, hw, e4⟩ := oB_inv e3
    cases e4
    exact Mono.rf _ _
  case baload =>
    obtain ⟨_, e1⟩ := lenO_inv hs
    obtain ⟨_, _, _, e2⟩ := pI_inv e1
    obtain ⟨_, _, _, e3⟩ := pR_inv e2
    obtain ⟨_, hw, e4⟩ := oB_inv e3
    cases e4
    exact Mono.rf _ _
  case laload =>
    obtain ⟨_, e1⟩ := lenO_inv hs
    obtain ⟨_, _, _, e2⟩ := pI_inv e1
    obtain ⟨_, _, _, e3⟩ := pR_inv e2
    obtain ⟨_, hw, e4⟩ := oB_inv e3
    cases e4
    exact Mono.rf _ _
  case aaload =>
    obtain ⟨_, e1⟩ := lenO_inv hs
    obtain ⟨_, _, _, e2⟩ := pI_inv e1
    obtain ⟨_, _, _, e3⟩ := pR_inv e2
    obtain ⟨_, hw, e4⟩ := oB_inv e3
    cases e4
    exact Mono.rf _ _
  case iastore =>
    obtain ⟨_, e1⟩ := lenO_inv hs
    obtain ⟨_, _, _, e2⟩ := pI_inv e1
    obtain ⟨_, _, _, e3⟩ := pI_inv e2
    obtain ⟨_, _, _, e4⟩ := pR_inv e3
    obtain ⟨_, hw, e5⟩ := oB_inv e4
    cases e5
    exact Mono.eq (wrA_len hw)
  case bastore =>
    obtain ⟨_, e1⟩ := lenO_inv hs
    obtain ⟨_, _, _, e2⟩ := pI_inv e1
    obtain ⟨_, _, _, e3⟩ := pI_inv e2
    obtain ⟨_, _, _, e4⟩ := pR_inv e3
    obtain ⟨_, hw, e5⟩ := oB_inv e4
    cases e5
    split at hw
    · rename_i q
      cases hw
      exact Mono.eq (wrA_len q)
    · exact Mono.eq (wrA_len hw)
  case lastore =>
    obtain ⟨_, e1⟩ := lenO_inv hs
    obtain ⟨_, _, _, e2⟩ := pL_inv e1
    obtain ⟨_, _, _, e3⟩ := pI_inv e2
    obtain ⟨_, _, _, e4⟩ := pR_inv e3
    obtain ⟨_, hw, e5⟩ := oB_inv e4
    cases e5
    exact Mono.eq (wrJ_len hw)
  case aastore =>
    obtain ⟨_, e1⟩ := lenO_inv hs
    obtain ⟨_, _, _, e2⟩ := pR_inv e1
    obtain ⟨_, _, _, e3⟩ := pI_inv e2
    obtain ⟨_, _, _, e4⟩ := pR_inv e3
    obtain ⟨_, hw, e5⟩ := oB_inv e4
    cases e5
    exact Mono.eq (wrR_len hw)
  case arraylength =>
    obtain ⟨_, e1⟩ := lenO_inv hs
    obtain ⟨_, _, _, e2⟩ := pR_inv e1
    obtain ⟨_, hw, e3⟩ := oB_inv e2
    cases e3
    exact Mono.rf _ _
  case new k =>
    obtain ⟨_, e1⟩ := lenO_inv hs
    obtain ⟨hal, e2⟩ := atL_inv e1
    cases e2
    simp only [Bool.and_eq_true] at hal
    obtain ⟨rfl, -⟩ := hal
    exact Mono.app
  case newarray t =>
    obtain ⟨_, e1⟩ := lenO_inv hs
    obtain ⟨_, _, _, e2⟩ := pI_inv e1
    obtain ⟨hal, e3⟩ := atL_inv e2
    simp only [Bool.and_eq_true] at hal
    obtain ⟨rfl, -⟩ := hal
    split at e3
    · cases e3
      exact Mono.app
    · cases e3
      exact Mono.app
    · cases e3
      exact Mono.app
    · cases e3
      exact Mono.app
    · cases e3
  case anewarray k =>
    obtain ⟨_, e1⟩ := lenO_inv hs
    obtain ⟨_, _, _, e2⟩ := pI_inv e1
    obtain ⟨hal, e3⟩ := atL_inv e2
    cases e3
    simp only [Bool.and_eq_true] at hal
    obtain ⟨rfl, -⟩ := hal
    exact Mono.app
set_option maxHeartbeats 4000000 in
theorem run_mono : ∀ (n : Nat) {al : Bool} {d y pc : Nat} {L st : List Value} {h : aH} {u : Option Value × aH}, run scr n al d y pc L st h = some u → Mono al h u.2
  | 0, _, _, _, _, _, _, _, _, e => by simp [run] at e
  | n + 1, al, d, y, pc, L, st, h, u, e => by
    unfold run at e
    obtain ⟨z, hz, e⟩ := oB_inv e
    split at e
    · obtain ⟨_, e⟩ := lenO_inv e
      split at e
      · obtain ⟨_, e⟩ := atL_inv e; cases e; exact Mono.rf _ _
      · cases e
    · obtain ⟨_, e⟩ := lenO_inv e
      split at e
      · obtain ⟨_, e⟩ := atL_inv e; cases e; exact Mono.rf _ _
      · cases e
    · obtain ⟨_, e⟩ := lenO_inv e
      split at e
      · obtain ⟨_, e⟩ := atL_inv e; cases e; exact Mono.rf _ _
      · cases e
    · obtain ⟨_, e⟩ := lenO_inv e
      split at e
      · obtain ⟨_, e⟩ := atL_inv e; cases e; exact Mono.rf _ _
      · cases e
    · obtain ⟨_, e⟩ := lenO_inv e
      split at e
      · cases e
      · obtain ⟨q, hq, e⟩ := oB_inv e
        obtain ⟨_, e⟩ := atL_inv e
        obtain ⟨x, hx, e⟩ := oB_inv e
        obtain ⟨_, e⟩ := atL_inv e
        exact (Mono.up (run_mono n hx)).tr (run_mono n e)
    · obtain ⟨_, e⟩ := lenO_inv e
      split at e
      · cases e
      · split at e
        · split at e
          · obtain ⟨_, e⟩ := atL_inv e
            obtain ⟨x, hx, e⟩ := oB_inv e
            exact (Mono.eq (cpA_len hx)).tr (run_mono n e)
          · cases e
        · obtain ⟨q, hq, e⟩ := oB_inv e
          obtain ⟨_, e⟩ := atL_inv e
          obtain ⟨x, hx, e⟩ := oB_inv e
          obtain ⟨_, e⟩ := atL_inv e
          exact (Mono.up (run_mono n hx)).tr (run_mono n e)
    · obtain ⟨_, e⟩ := lenO_inv e
      split at e
      · cases e
      · split at e
        · split at e
          · obtain ⟨_, e⟩ := atL_inv e
            exact run_mono n e
          · cases e
        · obtain ⟨q, hq, e⟩ := oB_inv e
          obtain ⟨_, e⟩ := atL_inv e
          obtain ⟨x, hx, e⟩ := oB_inv e
          obtain ⟨_, e⟩ := atL_inv e
          exact (run_mono n hx).tr (run_mono n e)
    · obtain ⟨w, hw, e⟩ := oB_inv e
      exact (stp_mono hw).tr (run_mono n e)
def aPost (D : va_G) (cA : Nat → ClassId) (sz0 : Nat) (ro ad : Nat → Nat) (n0 : Nat) (r : Option Value) (hF : aH) : Array Value → State → Outcome → State → Prop := fun _ st oc t =>
  ∃ ad' : Nat → Nat, (∀ k, (k < n0 ∨ hF.length ≤ k) → ad' k = ad k) ∧ (∀ k, 9000 ≤ k → ad' k = ro k) ∧ oc = .returned (r.map (tv ad')) ∧ va_P D vwCl (tw ad' cA hF) t.heap ∧ va_D (A0 sz0) (tw ad' cA hF) ∧ va_K D vwCl (tyL cA) t ∧ va_F (A0 sz0) st t
def aPre (scr : List Int32) (D : va_G) (cA : Nat → ClassId) (sz0 : Nat) (ro ad : Nat → Nat) (h : aH) (As : List Value) : Array Value → State → Prop :=
  va_Pc (As.map (tv ad)) (fun U => va_P D vwCl (tw ad cA h) U.heap ∧ va_K D vwCl (tyL cA) U ∧ va_D (A0 sz0) (tw ad cA h) ∧ sz0 ≤ U.heap.size ∧ Gl scr ro (A0 sz0) U U.heap)
def wsM (y : Nat) : List Jvm.Cond := Cond.code (mAt y).1 (mAt y).2.1 (mMax y) (mRet y) :: lw_tbl.filter goodWord
def rmM (d mc ms : Nat) : Room := { frames := d, cells := mc, slots := ms, locals := 64 * d + 64 }
theorem Met.ofWF {l : Launch} {y : MethodName} {ws ws' : List Jvm.Cond} {rm : Room} {Pc : Array Value → State → Prop} {Qc : Array Value → State → Outcome → State → Prop} {mc ms : Nat} {free : Addr → Prop} {cc : ByteArray} {maxL : Nat} {ret : Option FieldType}
    (hy : plainFor y = true) (hw : ws = Cond.code y cc maxL ret :: ws')
    (body : ∀ p e s m args below meth c s₁, BodyLoose p l y (headSpec ws rm) cc maxL ret e s m args below meth c s₁ → c.maxLocals = maxL → Pc args s →
      W p l e (headSpec ws rm).room s m args below meth c s.heap [] 0 0 (MQ below Qc args s mc ms free) (entryFrame m args maxL)) : Met l y ws rm Pc Qc mc ms free := by
  refine MetFree.of_bodySF (code := cc) (maxLocals := maxL) (ret := ret) hy ?_ ?_
  · intro args s m h hn
    obtain ⟨meth, c, h1, h2, h3, h4, h5, h6, -, -⟩ := Cond.code_spec hn (atoms_spec (ws := ws) h _ (by rw [hw]; exact List.mem_cons_self))
    exact ⟨meth, c, h1, h2, h3, h4, h5, h6⟩
  · intro p e s m args below meth c s₁ B hml hP _
    have hh0 : s₁.heap = s.heap := by rw [B.state]; rfl
    obtain ⟨t, a1, o, b1, b2, b3⟩ := body p e s m args below meth c s₁ B hml hP s₁ hh0 (Stand.of_body B)
    exact ⟨t, o, a1, b1, b2, ⟨b3.1, b3.2⟩⟩
theorem sprd_len (ad : Nat → Nat) : ∀ (As : List Value), (lg_sl (As.map (tv ad))).length = (sprd As).length
  | [] => rfl
  | v :: r => by
    have ih := sprd_len ad r
    cases v <;> simp_all [lg_sl, sprd, tv, Value.category]
    all_goals (try (cases ad 50000 <;> simp_all [Value.category]))
    all_goals (try omega)
theorem sprd_get (ad : Nat → Nat) : ∀ (As : List Value) (k i : Nat) (v : Value), (sprd As)[i]? = some v → v ≠ .null → (k + i, tv ad v) ∈ lv_args k (As.map (tv ad))
  | [], k, i, v => by intro h; simp [sprd] at h
  | x :: r, k, i, v => by
    intro h hv
    by_cases hc : x.category = 2
    · have e : sprd (x :: r) = x :: .null :: sprd r := by cases x <;> first | rfl | (simp [Value.category] at hc)
      rw [e] at h
      simp only [List.map_cons, lv_args, tv_cat, hc, if_true]
      match i, h with
      | 0, h => simp at h; subst h; exact List.mem_cons_self
      | 1, h => simp at h; exact absurd h.symm hv
      | i + 2, h =>
        refine List.mem_cons_of_mem _ ?_
        have := sprd_get ad r (k + 2) i v (by simpa using h) hv
        rw [show k + (i + 2) = k + 2 + i by omega]
        exact this
    · have e : sprd (x :: r) = x :: sprd r := by cases x <;> first | rfl | (simp [Value.category] at hc)
      rw [e] at h
      simp only [List.map_cons, lv_args, tv_cat, hc, if_false]
      match i, h with
      | 0, h => simp at h; subst h; exact List.mem_cons_self
      | i + 1, h =>
        refine List.mem_cons_of_mem _ ?_
        have := sprd_get ad r (k + 1) i v (by simpa using h) hv
        rw [show k + (i + 1) = k + 1 + i by omega]
        exact this
theorem iniL_LV (ad : Nat → Nat) {y : Nat} {As : List Value} (h : (sprd As).length ≤ mMax y) : LV ad (mMax y) ((lg_sl (As.map (tv ad)) ++ List.replicate (mMax y - (lg_sl (As.map (tv ad))).length) Slot.unset).toArray) (iniL y As) := by
  refine ⟨by simp [iniL]; omega, _, lv_entry (As.map (tv ad)) (n := mMax y) (by rw [sprd_len]; exact h), fun i v hi hv => ?_⟩
  unfold iniL at hi
  by_cases hlt : i < (sprd As).length
  · rw [List.getElem?_append_left hlt] at hi
    have := sprd_get ad As 0 i v hi hv
    rwa [Nat.zero_add] at this
  · rw [List.getElem?_append_right (by omega), List.getElem?_replicate] at hi
    split at hi
    · cases hi; exact absurd rfl hv
    · cases hi
theorem Gl.same {ro : Nat → Nat} {A : Nat → Prop} {s U : State} (h : Gl scr ro A s s.heap) (hv : U.vm = s.vm) (hh : U.heap = s.heap) : Gl scr ro A U U.heap := by
  have hW : s.WarmedH U.vm := by rw [hv]; exact State.WarmedH.refl s
  rw [hh]
  exact h.to hW (fun _ _ _ => rfl)
theorem aPre_blind {D : va_G} {cA : Nat → ClassId} {sz0 : Nat} {ro ad : Nat → Nat} {h : aH} {As : List Value} : FrameBlind (aPre scr D cA sz0 ro ad h As) := by
  intro a U g mk q
  obtain ⟨q0, qP, qK, qD, qz, qG⟩ := q
  exact ⟨q0, qP, va_K.moved (u := U) (U := U.calling g mk a) (Vm.Alike.refl U.vm) qK, qD, qz, qG.same rfl rfl⟩
theorem aCall {p : Program} {l : Launch} {e : Env} {R : Room} {s : State} {m : MethodId} {args : Array Value} {below : List Frame} {meth : Method} {c : Code} {H : Heap} {locs : List Loc} {cells slots : Nat} {Q : State → Prop} {pc : Nat} {ls : Array Slot} {rest st0 : List Value} {a : Array Value} {mc ms : Nat}
    {D : va_G} {cA : Nat → ClassId} {sz0 : Nat} {ro ad : Nat → Nat} {n0 : Nat} {r : Option Value} {hF : aH}
    (hr : va_Run p l e R s m args below meth c H locs cells slots mc ms (F0 m pc ls st0) rest (aPost D cA sz0 ro ad n0 r hF a) (A0 sz0)) (hS : va_S (A0 sz0) s.heap H locs)
    (kk : ∀ (ad' : Nat → Nat) (H1 : Heap) (locs1 : List Loc), (∀ k, (k < n0 ∨ hF.length ≤ k) → ad' k = ad k) → (∀ k, 9000 ≤ k → ad' k = ro k) → va_P D vwCl (tw ad' cA hF) H1 → va_D (A0 sz0) (tw ad' cA hF) → va_S (A0 sz0) s.heap H1 locs1 → W p l e R s m args below meth c H1 locs1 (cells + mc) (slots + ms) Q (F0 m (pc + 3) ls ((r.map (tv ad')).toList ++ rest))) :
    W p l e R s m args below meth c H locs cells slots Q (F0 m pc ls st0) := by
  intro T hT X
  obtain ⟨v, st₀, t, T', L, h0, X', hL, e1, e2, ⟨ad', g1, g2, hv, hP, hD, hK, hz, hk⟩, st⟩ := hr T hT X
  cases hv
  rw [h0] at hz hk
  rw [← e1] at hP
  obtain ⟨t2, a1, b1⟩ := kk ad' T'.heap (locs ++ L) g1 g2 hP hD
    ⟨Nat.le_trans hS.1 (by rw [e1]; exact hz), fun q h1 h2 => by rw [e1, hk q (Nat.lt_of_lt_of_le h1 hS.1) h2]; exact hS.2.1 q h1 h2, fun q hq => by
      rcases List.mem_append.mp hq with h | h
      · exact hS.2.2 q h
      · exact hL q h⟩ T' rfl X'
  exact ⟨t2, st t2 a1, b1⟩
