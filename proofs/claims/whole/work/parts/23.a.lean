variable {scr : List Int32}
-- ===== the rows of fields, bundled =====
section BN
variable {f : Nat → Nat → Int32} {g : Nat → List Int32} {j : Nat → List Int64} {c : Value}
theorem TO : (∀ {T : Nat → Prop}, gR scr (mk f g j c) 0 8 0 T = T 1) ∧
  (∀ {T : Nat → Prop}, gR scr (mk f g j c) 0 8 1 T = T 3) ∧
  (∀ {T : Nat → Prop}, gR scr (mk f g j c) 0 8 2 T = T 13) ∧
  (∀ {T : Nat → Prop}, gR scr (mk f g j c) 0 8 3 T = T 23) ∧
  (∀ {T : Nat → Prop}, gR scr (mk f g j c) 0 8 4 T = T 24) ∧
  (∀ {T : Nat → Prop}, gR scr (mk f g j c) 0 8 5 T = T 25) ∧
  (∀ {T : Int32 → Prop}, gI scr (mk f g j c) 0 8 6 T = T (f 0 6)) ∧
  (∀ {v : Int32} {T : aH → Prop}, pF (mk f g j c) 0 8 6 (.int v) T = T (mk (up2 f 0 6 v) g j c)) ∧
  (∀ {T : Nat → Prop}, gR scr (mk f g j c) 0 8 7 T = T 50) ∧
  (∀ {T : Nat → Prop}, gR scr (mk f g j c) 0 8 8 T = T 55) ∧
  (∀ {T : Nat → Prop}, gR scr (mk f g j c) 0 8 9 T = T 59) ∧
  (∀ {T : Nat → Prop}, gR scr (mk f g j c) 0 8 10 T = T 83) ∧
  (∀ {T : Nat → Prop}, gR scr (mk f g j c) 0 8 11 T = T 124) ∧
  (∀ {x : Int32} {T : Int32 → Prop}, aB scr (mk f g j c) 124 x T = (inb x (g 124).length = true ∧ T (lg (g 124) x))) ∧
  (∀ {x v : Int32} {T : aH → Prop}, wB (mk f g j c) 124 x v T = (inb x (g 124).length = true ∧ T (mk f (up1 g 124 (ls (g 124) x (v &&& 1))) j c))) := by
  refine ⟨?_, ?_, ?_, ?_, ?_, ?_, ?_, ?_, ?_, ?_, ?_, ?_, ?_, ?_, ?_⟩
  · intros; exact r_top_tape
  · intros; exact r_top_now
  · intros; exact r_top_draft
  · intros; exact r_top_plainReader
  · intros; exact r_top_lawReader
  · intros; exact r_top_laws
  · intros; exact i_top_lawCount
  · intros; exact p_top_lawCount
  · intros; exact r_top_ground
  · intros; exact r_top_walker
  · intros; exact r_top_planner
  · intros; exact r_top_images
  · intros; exact r_top_made
  · intros; exact a_top_made
  · intros; exact w_top_made
theorem TA : (∀ {T : Nat → Prop}, gR scr (mk f g j c) 1 6 0 T = T 2) ∧
  (∀ {T : Int32 → Prop}, gI scr (mk f g j c) 1 6 1 T = T (f 1 1)) ∧
  (∀ {v : Int32} {T : aH → Prop}, pF (mk f g j c) 1 6 1 (.int v) T = T (mk (up2 f 1 1 v) g j c)) ∧
  (∀ {T : Int32 → Prop}, gI scr (mk f g j c) 1 6 2 T = T (f 1 2)) ∧
  (∀ {v : Int32} {T : aH → Prop}, pF (mk f g j c) 1 6 2 (.int v) T = T (mk (up2 f 1 2 v) g j c)) ∧
  (∀ {T : Int32 → Prop}, gI scr (mk f g j c) 1 6 3 T = T (f 1 3)) ∧
  (∀ {v : Int32} {T : aH → Prop}, pF (mk f g j c) 1 6 3 (.int v) T = T (mk (up2 f 1 3 v) g j c)) ∧
  (∀ {x : Int32} {T : Int32 → Prop}, aB scr (mk f g j c) 2 x T = (inb x (g 2).length = true ∧ T (lg (g 2) x))) ∧
  (∀ {x v : Int32} {T : aH → Prop}, wB (mk f g j c) 2 x v T = (inb x (g 2).length = true ∧ T (mk f (up1 g 2 (ls (g 2) x v.toInt8.toInt32)) j c))) := by
  refine ⟨?_, ?_, ?_, ?_, ?_, ?_, ?_, ?_, ?_⟩
  · intros; exact r_tape_bytes
  · intros; exact i_tape_length
  · intros; exact p_tape_length
  · intros; exact i_tape_place
  · intros; exact p_tape_place
  · intros; exact i_tape_fault
  · intros; exact p_tape_fault
  · intros; exact a_tape_bytes
  · intros; exact w_tape_bytes
theorem SC {p : Nat} (hp : isSc p) : (∀ {T : Int32 → Prop}, gI scr (mk f g j c) p 5 0 T = T (f p 0)) ∧
  (∀ {v : Int32} {T : aH → Prop}, pF (mk f g j c) p 5 0 (.int v) T = T (mk (up2 f p 0 v) g j c)) ∧
  (∀ {T : Int32 → Prop}, gI scr (mk f g j c) p 5 1 T = T (f p 1)) ∧
  (∀ {v : Int32} {T : aH → Prop}, pF (mk f g j c) p 5 1 (.int v) T = T (mk (up2 f p 1 v) g j c)) ∧
  (∀ {T : Int32 → Prop}, gI scr (mk f g j c) p 5 2 T = T (f p 2)) ∧
  (∀ {v : Int32} {T : aH → Prop}, pF (mk f g j c) p 5 2 (.int v) T = T (mk (up2 f p 2 v) g j c)) ∧
  (∀ {T : Int32 → Prop}, gI scr (mk f g j c) p 5 3 T = T (f p 3)) ∧
  (∀ {v : Int32} {T : aH → Prop}, pF (mk f g j c) p 5 3 (.int v) T = T (mk (up2 f p 3 v) g j c)) ∧
  (∀ {T : Int32 → Prop}, gI scr (mk f g j c) p 5 4 T = T (f p 4)) ∧
  (∀ {v : Int32} {T : aH → Prop}, pF (mk f g j c) p 5 4 (.int v) T = T (mk (up2 f p 4 v) g j c)) ∧
  (∀ {T : Int32 → Prop}, gI scr (mk f g j c) p 5 5 T = T (f p 5)) ∧
  (∀ {v : Int32} {T : aH → Prop}, pF (mk f g j c) p 5 5 (.int v) T = T (mk (up2 f p 5 v) g j c)) ∧
  (∀ {T : Int32 → Prop}, gI scr (mk f g j c) p 5 6 T = T (f p 6)) ∧
  (∀ {v : Int32} {T : aH → Prop}, pF (mk f g j c) p 5 6 (.int v) T = T (mk (up2 f p 6 v) g j c)) ∧
  (∀ {T : Int32 → Prop}, gI scr (mk f g j c) p 5 7 T = T (f p 7)) ∧
  (∀ {v : Int32} {T : aH → Prop}, pF (mk f g j c) p 5 7 (.int v) T = T (mk (up2 f p 7 v) g j c)) ∧
  (∀ {T : Nat → Prop}, gR scr (mk f g j c) p 5 8 T = T (p + 1)) ∧
  (∀ {T : Nat → Prop}, gR scr (mk f g j c) p 5 9 T = T (p + 2)) ∧
  (∀ {T : Nat → Prop}, gR scr (mk f g j c) p 5 10 T = T (p + 3)) ∧
  (∀ {T : Nat → Prop}, gR scr (mk f g j c) p 5 11 T = T (p + 4)) ∧
  (∀ {T : Nat → Prop}, gR scr (mk f g j c) p 5 12 T = T (p + 5)) ∧
  (∀ {T : Nat → Prop}, gR scr (mk f g j c) p 5 13 T = T (p + 6)) ∧
  (∀ {T : Nat → Prop}, gR scr (mk f g j c) p 5 14 T = T (p + 7)) ∧
  (∀ {T : Nat → Prop}, gR scr (mk f g j c) p 5 15 T = T (p + 8)) ∧
  (∀ {T : Nat → Prop}, gR scr (mk f g j c) p 5 16 T = T (p + 9)) ∧
  (∀ {x : Int32} {T : Int32 → Prop}, aB scr (mk f g j c) (p + 1) x T = (inb x (g (p + 1)).length = true ∧ T (lg (g (p + 1)) x))) ∧
  (∀ {x v : Int32} {T : aH → Prop}, wB (mk f g j c) (p + 1) x v T = (inb x (g (p + 1)).length = true ∧ T (mk f (up1 g (p + 1) (ls (g (p + 1)) x v.toInt8.toInt32)) j c))) ∧
  (∀ {x : Int32} {T : Int32 → Prop}, aB scr (mk f g j c) (p + 2) x T = (inb x (g (p + 2)).length = true ∧ T (lg (g (p + 2)) x))) ∧
  (∀ {x v : Int32} {T : aH → Prop}, wB (mk f g j c) (p + 2) x v T = (inb x (g (p + 2)).length = true ∧ T (mk f (up1 g (p + 2) (ls (g (p + 2)) x v.toInt8.toInt32)) j c))) ∧
  (∀ {x : Int32} {T : Int32 → Prop}, aI scr (mk f g j c) (p + 3) x T = (inb x (g (p + 3)).length = true ∧ T (lg (g (p + 3)) x))) ∧
  (∀ {x v : Int32} {T : aH → Prop}, wI (mk f g j c) (p + 3) x v T = (inb x (g (p + 3)).length = true ∧ T (mk f (up1 g (p + 3) (ls (g (p + 3)) x v)) j c))) ∧
  (∀ {x : Int32} {T : Int32 → Prop}, aI scr (mk f g j c) (p + 4) x T = (inb x (g (p + 4)).length = true ∧ T (lg (g (p + 4)) x))) ∧
  (∀ {x v : Int32} {T : aH → Prop}, wI (mk f g j c) (p + 4) x v T = (inb x (g (p + 4)).length = true ∧ T (mk f (up1 g (p + 4) (ls (g (p + 4)) x v)) j c))) ∧
  (∀ {x : Int32} {T : Int32 → Prop}, aI scr (mk f g j c) (p + 5) x T = (inb x (g (p + 5)).length = true ∧ T (lg (g (p + 5)) x))) ∧
  (∀ {x v : Int32} {T : aH → Prop}, wI (mk f g j c) (p + 5) x v T = (inb x (g (p + 5)).length = true ∧ T (mk f (up1 g (p + 5) (ls (g (p + 5)) x v)) j c))) ∧
  (∀ {x : Int32} {T : Int32 → Prop}, aI scr (mk f g j c) (p + 6) x T = (inb x (g (p + 6)).length = true ∧ T (lg (g (p + 6)) x))) ∧
  (∀ {x v : Int32} {T : aH → Prop}, wI (mk f g j c) (p + 6) x v T = (inb x (g (p + 6)).length = true ∧ T (mk f (up1 g (p + 6) (ls (g (p + 6)) x v)) j c))) ∧
  (∀ {x : Int32} {T : Int32 → Prop}, aI scr (mk f g j c) (p + 7) x T = (inb x (g (p + 7)).length = true ∧ T (lg (g (p + 7)) x))) ∧
  (∀ {x v : Int32} {T : aH → Prop}, wI (mk f g j c) (p + 7) x v T = (inb x (g (p + 7)).length = true ∧ T (mk f (up1 g (p + 7) (ls (g (p + 7)) x v)) j c))) ∧
  (∀ {x : Int32} {T : Int32 → Prop}, aI scr (mk f g j c) (p + 8) x T = (inb x (g (p + 8)).length = true ∧ T (lg (g (p + 8)) x))) ∧
  (∀ {x v : Int32} {T : aH → Prop}, wI (mk f g j c) (p + 8) x v T = (inb x (g (p + 8)).length = true ∧ T (mk f (up1 g (p + 8) (ls (g (p + 8)) x v)) j c))) ∧
  (∀ {x : Int32} {T : Int32 → Prop}, aI scr (mk f g j c) (p + 9) x T = (inb x (g (p + 9)).length = true ∧ T (lg (g (p + 9)) x))) ∧
  (∀ {x v : Int32} {T : aH → Prop}, wI (mk f g j c) (p + 9) x v T = (inb x (g (p + 9)).length = true ∧ T (mk f (up1 g (p + 9) (ls (g (p + 9)) x v)) j c))) := by
  refine ⟨?_, ?_, ?_, ?_, ?_, ?_, ?_, ?_, ?_, ?_, ?_, ?_, ?_, ?_, ?_, ?_, ?_, ?_, ?_, ?_, ?_, ?_, ?_, ?_, ?_, ?_, ?_, ?_, ?_, ?_, ?_, ?_, ?_, ?_, ?_, ?_, ?_, ?_, ?_, ?_, ?_, ?_, ?_⟩
  · intros; exact i_sc_columns hp
  · intros; exact p_sc_columns hp
  · intros; exact i_sc_rows hp
  · intros; exact p_sc_rows hp
  · intros; exact i_sc_gates hp
  · intros; exact p_sc_gates hp
  · intros; exact i_sc_people hp
  · intros; exact p_sc_people hp
  · intros; exact i_sc_heralds hp
  · intros; exact p_sc_heralds hp
  · intros; exact i_sc_steps hp
  · intros; exact p_sc_steps hp
  · intros; exact i_sc_outCount hp
  · intros; exact p_sc_outCount hp
  · intros; exact i_sc_spoors hp
  · intros; exact p_sc_spoors hp
  · intros; exact r_sc_kinds hp
  · intros; exact r_sc_standing hp
  · intros; exact r_sc_at hp
  · intros; exact r_sc_age hp
  · intros; exact r_sc_sort hp
  · intros; exact r_sc_out hp
  · intros; exact r_sc_spoorStep hp
  · intros; exact r_sc_spoorPerson hp
  · intros; exact r_sc_spoorOther hp
  · intros; exact a_sc_kinds hp
  · intros; exact w_sc_kinds hp
  · intros; exact a_sc_standing hp
  · intros; exact w_sc_standing hp
  · intros; exact a_sc_at hp
  · intros; exact w_sc_at hp
  · intros; exact a_sc_age hp
  · intros; exact w_sc_age hp
  · intros; exact a_sc_sort hp
  · intros; exact w_sc_sort hp
  · intros; exact a_sc_out hp
  · intros; exact w_sc_out hp
  · intros; exact a_sc_spoorStep hp
  · intros; exact w_sc_spoorStep hp
  · intros; exact a_sc_spoorPerson hp
  · intros; exact w_sc_spoorPerson hp
  · intros; exact a_sc_spoorOther hp
  · intros; exact w_sc_spoorOther hp
theorem PR : (∀ {T : Nat → Prop}, gR scr (mk f g j c) 23 3 0 T = T 1) ∧
  (∀ {T : Nat → Prop}, gR scr (mk f g j c) 23 3 1 T = T 13) := by
  refine ⟨?_, ?_⟩
  · intros; exact r_pr_tape
  · intros; exact r_pr_scene
theorem LR : (∀ {T : Nat → Prop}, gR scr (mk f g j c) 24 2 0 T = T 1) ∧
  (∀ {T : Int32 → Prop}, gI scr (mk f g j c) 24 2 2 T = T (f 24 2)) ∧
  (∀ {v : Int32} {T : aH → Prop}, pF (mk f g j c) 24 2 2 (.int v) T = T (mk (up2 f 24 2 v) g j c)) := by
  refine ⟨?_, ?_, ?_⟩
  · intros; exact r_lr_tape
  · intros; exact i_lr_size
  · intros; exact p_lr_size
theorem LW {p : Nat} (hp : isLw p) : (∀ {T : Int32 → Prop}, gI scr (mk f g j c) p 1 0 T = T (f p 0)) ∧
  (∀ {v : Int32} {T : aH → Prop}, pF (mk f g j c) p 1 0 (.int v) T = T (mk (up2 f p 0 v) g j c)) ∧
  (∀ {T : Nat → Prop}, gR scr (mk f g j c) p 1 1 T = T (p + 1)) ∧
  (∀ {T : Nat → Prop}, gR scr (mk f g j c) p 1 2 T = T (p + 2)) ∧
  (∀ {T : Int32 → Prop}, gI scr (mk f g j c) p 1 3 T = T (f p 3)) ∧
  (∀ {v : Int32} {T : aH → Prop}, pF (mk f g j c) p 1 3 (.int v) T = T (mk (up2 f p 3 v) g j c)) ∧
  (∀ {T : Nat → Prop}, gR scr (mk f g j c) p 1 4 T = T (p + 3)) ∧
  (∀ {x : Int32} {T : Int32 → Prop}, aI scr (mk f g j c) (p + 1) x T = (inb x (g (p + 1)).length = true ∧ T (lg (g (p + 1)) x))) ∧
  (∀ {x v : Int32} {T : aH → Prop}, wI (mk f g j c) (p + 1) x v T = (inb x (g (p + 1)).length = true ∧ T (mk f (up1 g (p + 1) (ls (g (p + 1)) x v)) j c))) ∧
  (∀ {x : Int32} {T : Int32 → Prop}, aI scr (mk f g j c) (p + 2) x T = (inb x (g (p + 2)).length = true ∧ T (lg (g (p + 2)) x))) ∧
  (∀ {x v : Int32} {T : aH → Prop}, wI (mk f g j c) (p + 2) x v T = (inb x (g (p + 2)).length = true ∧ T (mk f (up1 g (p + 2) (ls (g (p + 2)) x v)) j c))) ∧
  (∀ {x : Int32} {T : Int32 → Prop}, aI scr (mk f g j c) (p + 3) x T = (inb x (g (p + 3)).length = true ∧ T (lg (g (p + 3)) x))) ∧
  (∀ {x v : Int32} {T : aH → Prop}, wI (mk f g j c) (p + 3) x v T = (inb x (g (p + 3)).length = true ∧ T (mk f (up1 g (p + 3) (ls (g (p + 3)) x v)) j c))) := by
  refine ⟨?_, ?_, ?_, ?_, ?_, ?_, ?_, ?_, ?_, ?_, ?_, ?_, ?_⟩
  · intros; exact i_lw_clauses hp
  · intros; exact p_lw_clauses hp
  · intros; exact r_lw_places hp
  · intros; exact r_lw_testEnds hp
  · intros; exact i_lw_length hp
  · intros; exact p_lw_length hp
  · intros; exact r_lw_code hp
  · intros; exact a_lw_places hp
  · intros; exact w_lw_places hp
  · intros; exact a_lw_testEnds hp
  · intros; exact w_lw_testEnds hp
  · intros; exact a_lw_code hp
  · intros; exact w_lw_code hp
theorem GR : (∀ {T : Nat → Prop}, gR scr (mk f g j c) 50 0 0 T = T 51) ∧
  (∀ {T : Nat → Prop}, gR scr (mk f g j c) 50 0 1 T = T 52) ∧
  (∀ {T : Nat → Prop}, gR scr (mk f g j c) 50 0 2 T = T 53) ∧
  (∀ {T : Nat → Prop}, gR scr (mk f g j c) 50 0 3 T = T 54) ∧
  (∀ {x : Int32} {T : Int32 → Prop}, aI scr (mk f g j c) 51 x T = (inb x (g 51).length = true ∧ T (lg (g 51) x))) ∧
  (∀ {x v : Int32} {T : aH → Prop}, wI (mk f g j c) 51 x v T = (inb x (g 51).length = true ∧ T (mk f (up1 g 51 (ls (g 51) x v)) j c))) ∧
  (∀ {x : Int32} {T : Int32 → Prop}, aI scr (mk f g j c) 52 x T = (inb x (g 52).length = true ∧ T (lg (g 52) x))) ∧
  (∀ {x v : Int32} {T : aH → Prop}, wI (mk f g j c) 52 x v T = (inb x (g 52).length = true ∧ T (mk f (up1 g 52 (ls (g 52) x v)) j c))) ∧
  (∀ {x : Int32} {T : Int64 → Prop}, aJ (mk f g j c) 53 x T = (inb x (j 53).length = true ∧ T (lgJ (j 53) x))) ∧
  (∀ {x : Int32} {v : Int64} {T : aH → Prop}, wJ (mk f g j c) 53 x v T = (inb x (j 53).length = true ∧ T (mk f g (up1 j 53 (lsJ (j 53) x v)) c))) ∧
  (∀ {x : Int32} {T : Int64 → Prop}, aJ (mk f g j c) 54 x T = (inb x (j 54).length = true ∧ T (lgJ (j 54) x))) ∧
  (∀ {x : Int32} {v : Int64} {T : aH → Prop}, wJ (mk f g j c) 54 x v T = (inb x (j 54).length = true ∧ T (mk f g (up1 j 54 (lsJ (j 54) x v)) c))) := by
  refine ⟨?_, ?_, ?_, ?_, ?_, ?_, ?_, ?_, ?_, ?_, ?_, ?_⟩
  · intros; exact r_gr_toGate
  · intros; exact r_gr_queue
  · intros; exact r_gr_known
  · intros; exact r_gr_clear
  · intros; exact a_gr_toGate
  · intros; exact w_gr_toGate
  · intros; exact a_gr_queue
  · intros; exact w_gr_queue
  · intros; exact a_gr_known
  · intros; exact w_gr_known
  · intros; exact a_gr_clear
  · intros; exact w_gr_clear
theorem WK : (∀ {T : Nat → Prop}, gR scr (mk f g j c) 55 7 0 T = T 50) ∧
  (∀ {T : Nat → Prop}, gR scr (mk f g j c) 55 7 1 T = T 56) ∧
  (∀ {T : Nat → Prop}, gR scr (mk f g j c) 55 7 2 T = T 57) ∧
  (∀ {T : Int32 → Prop}, gI scr (mk f g j c) 55 7 3 T = T (f 55 3)) ∧
  (∀ {v : Int32} {T : aH → Prop}, pF (mk f g j c) 55 7 3 (.int v) T = T (mk (up2 f 55 3 v) g j c)) ∧
  (∀ {T : Int32 → Prop}, gI scr (mk f g j c) 55 7 4 T = T (f 55 4)) ∧
  (∀ {v : Int32} {T : aH → Prop}, pF (mk f g j c) 55 7 4 (.int v) T = T (mk (up2 f 55 4 v) g j c)) ∧
  (∀ {T : Int32 → Prop}, gI scr (mk f g j c) 55 7 5 T = T (f 55 5)) ∧
  (∀ {v : Int32} {T : aH → Prop}, pF (mk f g j c) 55 7 5 (.int v) T = T (mk (up2 f 55 5 v) g j c)) ∧
  (∀ {T : Nat → Prop}, gR scr (mk f g j c) 55 7 6 T = T 58) ∧
  (∀ {T : Int32 → Prop}, gI scr (mk f g j c) 55 7 7 T = T (f 55 7)) ∧
  (∀ {v : Int32} {T : aH → Prop}, pF (mk f g j c) 55 7 7 (.int v) T = T (mk (up2 f 55 7 v) g j c)) ∧
  (∀ {x : Int32} {T : Int64 → Prop}, aJ (mk f g j c) 56 x T = (inb x (j 56).length = true ∧ T (lgJ (j 56) x))) ∧
  (∀ {x : Int32} {v : Int64} {T : aH → Prop}, wJ (mk f g j c) 56 x v T = (inb x (j 56).length = true ∧ T (mk f g (up1 j 56 (lsJ (j 56) x v)) c))) ∧
  (∀ {x : Int32} {T : Int32 → Prop}, aI scr (mk f g j c) 57 x T = (inb x (g 57).length = true ∧ T (lg (g 57) x))) ∧
  (∀ {x v : Int32} {T : aH → Prop}, wI (mk f g j c) 57 x v T = (inb x (g 57).length = true ∧ T (mk f (up1 g 57 (ls (g 57) x v)) j c))) ∧
  (∀ {x : Int32} {T : Int32 → Prop}, aI scr (mk f g j c) 58 x T = (inb x (g 58).length = true ∧ T (lg (g 58) x))) ∧
  (∀ {x v : Int32} {T : aH → Prop}, wI (mk f g j c) 58 x v T = (inb x (g 58).length = true ∧ T (mk f (up1 g 58 (ls (g 58) x v)) j c))) := by
  refine ⟨?_, ?_, ?_, ?_, ?_, ?_, ?_, ?_, ?_, ?_, ?_, ?_, ?_, ?_, ?_, ?_, ?_, ?_⟩
  · intros; exact r_wk_ground
  · intros; exact r_wk_stack
  · intros; exact r_wk_order
  · intros; exact i_wk_sighted
  · intros; exact p_wk_sighted
  · intros; exact i_wk_beside
  · intros; exact p_wk_beside
  · intros; exact i_wk_elder
  · intros; exact p_wk_elder
  · intros; exact r_wk_followed
  · intros; exact i_wk_went
  · intros; exact p_wk_went
  · intros; exact a_wk_stack
  · intros; exact w_wk_stack
  · intros; exact a_wk_order
  · intros; exact w_wk_order
  · intros; exact a_wk_followed
  · intros; exact w_wk_followed
theorem PL : (∀ {T : Nat → Prop}, gR scr (mk f g j c) 59 4 0 T = T 3) ∧
  (∀ {T : Nat → Prop}, gR scr (mk f g j c) 59 4 1 T = T 55) ∧
  (∀ {T : Nat → Prop}, gR scr (mk f g j c) 59 4 2 T = T 50) ∧
  (∀ {T : Nat → Prop}, gR scr (mk f g j c) 59 4 3 T = T 60) ∧
  (∀ {T : Nat → Prop}, gR scr (mk f g j c) 59 4 4 T = T 70) ∧
  (∀ {T : Nat → Prop}, gR scr (mk f g j c) 59 4 5 T = T 80) ∧
  (∀ {T : Nat → Prop}, gR scr (mk f g j c) 59 4 6 T = T 81) ∧
  (∀ {T : Nat → Prop}, gR scr (mk f g j c) 59 4 7 T = T 82) ∧
  (∀ {x : Int32} {T : Int64 → Prop}, aJ (mk f g j c) 80 x T = (inb x (j 80).length = true ∧ T (lgJ (j 80) x))) ∧
  (∀ {x : Int32} {v : Int64} {T : aH → Prop}, wJ (mk f g j c) 80 x v T = (inb x (j 80).length = true ∧ T (mk f g (up1 j 80 (lsJ (j 80) x v)) c))) ∧
  (∀ {x : Int32} {T : Int64 → Prop}, aJ (mk f g j c) 81 x T = (inb x (j 81).length = true ∧ T (lgJ (j 81) x))) ∧
  (∀ {x : Int32} {v : Int64} {T : aH → Prop}, wJ (mk f g j c) 81 x v T = (inb x (j 81).length = true ∧ T (mk f g (up1 j 81 (lsJ (j 81) x v)) c))) ∧
  (∀ {x : Int32} {T : Int32 → Prop}, aI scr (mk f g j c) 82 x T = (inb x (g 82).length = true ∧ T (lg (g 82) x))) ∧
  (∀ {x v : Int32} {T : aH → Prop}, wI (mk f g j c) 82 x v T = (inb x (g 82).length = true ∧ T (mk f (up1 g 82 (ls (g 82) x v)) j c))) := by
  refine ⟨?_, ?_, ?_, ?_, ?_, ?_, ?_, ?_, ?_, ?_, ?_, ?_, ?_, ?_⟩
  · intros; exact r_pl_now
  · intros; exact r_pl_walker
  · intros; exact r_pl_ground
  · intros; exact r_pl_trial
  · intros; exact r_pl_usual
  · intros; exact r_pl_firstEight
  · intros; exact r_pl_others
  · intros; exact r_pl_there
  · intros; exact a_pl_firstEight
  · intros; exact w_pl_firstEight
  · intros; exact a_pl_others
  · intros; exact w_pl_others
  · intros; exact a_pl_there
  · intros; exact w_pl_there
theorem MO : (∀ {T : Int32 → Prop}, gI scr (mk f g j c) 125 9 0 T = T (f 125 0)) ∧
  (∀ {v : Int32} {T : aH → Prop}, pF (mk f g j c) 125 9 0 (.int v) T = T (mk (up2 f 125 0 v) g j c)) ∧
  (∀ {T : Nat → Prop}, gR scr (mk f g j c) 125 9 1 T = T 126) ∧
  (∀ {T : Nat → Prop}, gR scr (mk f g j c) 125 9 2 T = T 127) ∧
  (∀ {T : Nat → Prop}, gR scr (mk f g j c) 125 9 3 T = T 128) ∧
  (∀ {T : Nat → Prop}, gR scr (mk f g j c) 125 9 4 T = T 129) ∧
  (∀ {T : Nat → Prop}, gR scr (mk f g j c) 125 9 5 T = T 130) ∧
  (∀ {T : Nat → Prop}, gR scr (mk f g j c) 125 9 6 T = T 131) ∧
  (∀ {T : Nat → Prop}, gR scr (mk f g j c) 125 9 7 T = T 132) ∧
  (∀ {T : Nat → Prop}, gR scr (mk f g j c) 125 9 8 T = T 133) ∧
  (∀ {T : Nat → Prop}, gR scr (mk f g j c) 125 9 9 T = T 134) ∧
  (∀ {T : Nat → Prop}, gR scr (mk f g j c) 125 9 10 T = T 135) ∧
  (∀ {T : Nat → Prop}, gR scr (mk f g j c) 125 9 11 T = T 136) ∧
  (∀ {T : Nat → Prop}, gR scr (mk f g j c) 125 9 12 T = T 137) ∧
  (∀ {T : Nat → Prop}, gR scr (mk f g j c) 125 9 13 T = T 138) ∧
  (∀ {T : Nat → Prop}, gR scr (mk f g j c) 125 9 14 T = T 139) ∧
  (∀ {T : Nat → Prop}, gR scr (mk f g j c) 125 9 15 T = T 140) ∧
  (∀ {T : Nat → Prop}, gR scr (mk f g j c) 125 9 16 T = T 141) ∧
  (∀ {T : Nat → Prop}, gR scr (mk f g j c) 125 9 17 T = T 142) ∧
  (∀ {T : Int32 → Prop}, gI scr (mk f g j c) 125 9 18 T = T (f 125 18)) ∧
  (∀ {v : Int32} {T : aH → Prop}, pF (mk f g j c) 125 9 18 (.int v) T = T (mk (up2 f 125 18 v) g j c)) ∧
  (∀ {T : Int32 → Prop}, gI scr (mk f g j c) 125 9 19 T = T (f 125 19)) ∧
  (∀ {v : Int32} {T : aH → Prop}, pF (mk f g j c) 125 9 19 (.int v) T = T (mk (up2 f 125 19 v) g j c)) ∧
  (∀ {T : Int32 → Prop}, gI scr (mk f g j c) 125 9 20 T = T (f 125 20)) ∧
  (∀ {v : Int32} {T : aH → Prop}, pF (mk f g j c) 125 9 20 (.int v) T = T (mk (up2 f 125 20 v) g j c)) ∧
  (∀ {T : Int32 → Prop}, gI scr (mk f g j c) 125 9 21 T = T (f 125 21)) ∧
  (∀ {v : Int32} {T : aH → Prop}, pF (mk f g j c) 125 9 21 (.int v) T = T (mk (up2 f 125 21 v) g j c)) ∧
  (∀ {T : Int32 → Prop}, gI scr (mk f g j c) 125 9 22 T = T (f 125 22)) ∧
  (∀ {v : Int32} {T : aH → Prop}, pF (mk f g j c) 125 9 22 (.int v) T = T (mk (up2 f 125 22 v) g j c)) ∧
  (∀ {T : Int32 → Prop}, gI scr (mk f g j c) 125 9 23 T = T (f 125 23)) ∧
  (∀ {v : Int32} {T : aH → Prop}, pF (mk f g j c) 125 9 23 (.int v) T = T (mk (up2 f 125 23 v) g j c)) ∧
  (∀ {T : Int32 → Prop}, gI scr (mk f g j c) 125 9 24 T = T (f 125 24)) ∧
  (∀ {v : Int32} {T : aH → Prop}, pF (mk f g j c) 125 9 24 (.int v) T = T (mk (up2 f 125 24 v) g j c)) ∧
  (∀ {T : Int32 → Prop}, gI scr (mk f g j c) 125 9 25 T = T (f 125 25)) ∧
  (∀ {v : Int32} {T : aH → Prop}, pF (mk f g j c) 125 9 25 (.int v) T = T (mk (up2 f 125 25 v) g j c)) ∧
  (∀ {T : Int32 → Prop}, gI scr (mk f g j c) 125 9 26 T = T (f 125 26)) ∧
  (∀ {v : Int32} {T : aH → Prop}, pF (mk f g j c) 125 9 26 (.int v) T = T (mk (up2 f 125 26 v) g j c)) ∧
  (∀ {T : Int32 → Prop}, gI scr (mk f g j c) 125 9 27 T = T (f 125 27)) ∧
  (∀ {v : Int32} {T : aH → Prop}, pF (mk f g j c) 125 9 27 (.int v) T = T (mk (up2 f 125 27 v) g j c)) ∧
  (∀ {T : Int32 → Prop}, gI scr (mk f g j c) 125 9 28 T = T (f 125 28)) ∧
  (∀ {v : Int32} {T : aH → Prop}, pF (mk f g j c) 125 9 28 (.int v) T = T (mk (up2 f 125 28 v) g j c)) ∧
  (∀ {T : Nat → Prop}, gR scr (mk f g j c) 125 9 29 T = T 143) ∧
  (∀ {T : Nat → Prop}, gR scr (mk f g j c) 125 9 30 T = T 144) ∧
  (∀ {T : Nat → Prop}, gR scr (mk f g j c) 125 9 31 T = T 145) ∧
  (∀ {T : Nat → Prop}, gR scr (mk f g j c) 125 9 32 T = T 146) ∧
  (∀ {T : Nat → Prop}, gR scr (mk f g j c) 125 9 33 T = T 147) ∧
  (∀ {T : Nat → Prop}, gR scr (mk f g j c) 125 9 34 T = T 148) ∧
  (∀ {T : Nat → Prop}, gR scr (mk f g j c) 125 9 35 T = T 149) ∧
  (∀ {T : Nat → Prop}, gR scr (mk f g j c) 125 9 36 T = T 150) ∧
  (∀ {T : Nat → Prop}, gR scr (mk f g j c) 125 9 37 T = T 151) ∧
  (∀ {T : Nat → Prop}, gR scr (mk f g j c) 125 9 38 T = T 152) ∧
  (∀ {T : Nat → Prop}, gR scr (mk f g j c) 125 9 39 T = T 153) ∧
  (∀ {T : Int32 → Prop}, gI scr (mk f g j c) 125 9 40 T = T (f 125 40)) ∧
  (∀ {v : Int32} {T : aH → Prop}, pF (mk f g j c) 125 9 40 (.int v) T = T (mk (up2 f 125 40 v) g j c)) ∧
  (∀ {T : Nat → Prop}, gR scr (mk f g j c) 125 9 41 T = T 154) ∧
  (∀ {T : Nat → Prop}, gR scr (mk f g j c) 125 9 42 T = T 155) ∧
  (∀ {T : Nat → Prop}, gR scr (mk f g j c) 125 9 43 T = T 156) ∧
  (∀ {T : Nat → Prop}, gR scr (mk f g j c) 125 9 44 T = T 157) ∧
  (∀ {T : Nat → Prop}, gR scr (mk f g j c) 125 9 45 T = T 158) ∧
  (∀ {T : Nat → Prop}, gR scr (mk f g j c) 125 9 46 T = T 159) ∧
  (∀ {T : Nat → Prop}, gR scr (mk f g j c) 125 9 47 T = T 160) ∧
  (∀ {T : Nat → Prop}, gR scr (mk f g j c) 125 9 48 T = T 161) ∧
  (∀ {T : Nat → Prop}, gR scr (mk f g j c) 125 9 49 T = T 162) ∧
  (∀ {T : Nat → Prop}, gR scr (mk f g j c) 125 9 50 T = T 163) ∧
  (∀ {T : Nat → Prop}, gR scr (mk f g j c) 125 9 51 T = T 164) ∧
  (∀ {T : Nat → Prop}, gR scr (mk f g j c) 125 9 52 T = T 165) ∧
  (∀ {T : Nat → Prop}, gR scr (mk f g j c) 125 9 53 T = T 166) ∧
  (∀ {T : Int32 → Prop}, gI scr (mk f g j c) 125 9 54 T = T (f 125 54)) ∧
  (∀ {v : Int32} {T : aH → Prop}, pF (mk f g j c) 125 9 54 (.int v) T = T (mk (up2 f 125 54 v) g j c)) ∧
  (∀ {T : Int32 → Prop}, gI scr (mk f g j c) 125 9 55 T = T (f 125 55)) ∧
  (∀ {v : Int32} {T : aH → Prop}, pF (mk f g j c) 125 9 55 (.int v) T = T (mk (up2 f 125 55 v) g j c)) ∧
  (∀ {x : Int32} {T : Int32 → Prop}, aI scr (mk f g j c) 126 x T = (inb x (g 126).length = true ∧ T (lg (g 126) x))) ∧
  (∀ {x v : Int32} {T : aH → Prop}, wI (mk f g j c) 126 x v T = (inb x (g 126).length = true ∧ T (mk f (up1 g 126 (ls (g 126) x v)) j c))) ∧
  (∀ {x : Int32} {T : Int32 → Prop}, aI scr (mk f g j c) 127 x T = (inb x (g 127).length = true ∧ T (lg (g 127) x))) ∧
  (∀ {x v : Int32} {T : aH → Prop}, wI (mk f g j c) 127 x v T = (inb x (g 127).length = true ∧ T (mk f (up1 g 127 (ls (g 127) x v)) j c))) ∧
  (∀ {x : Int32} {T : Int32 → Prop}, aI scr (mk f g j c) 128 x T = (inb x (g 128).length = true ∧ T (lg (g 128) x))) ∧
  (∀ {x v : Int32} {T : aH → Prop}, wI (mk f g j c) 128 x v T = (inb x (g 128).length = true ∧ T (mk f (up1 g 128 (ls (g 128) x v)) j c))) ∧
  (∀ {x : Int32} {T : Int32 → Prop}, aI scr (mk f g j c) 129 x T = (inb x (g 129).length = true ∧ T (lg (g 129) x))) ∧
  (∀ {x v : Int32} {T : aH → Prop}, wI (mk f g j c) 129 x v T = (inb x (g 129).length = true ∧ T (mk f (up1 g 129 (ls (g 129) x v)) j c))) ∧
  (∀ {x : Int32} {T : Int32 → Prop}, aI scr (mk f g j c) 130 x T = (inb x (g 130).length = true ∧ T (lg (g 130) x))) ∧
  (∀ {x v : Int32} {T : aH → Prop}, wI (mk f g j c) 130 x v T = (inb x (g 130).length = true ∧ T (mk f (up1 g 130 (ls (g 130) x v)) j c))) ∧
  (∀ {x : Int32} {T : Int32 → Prop}, aI scr (mk f g j c) 131 x T = (inb x (g 131).length = true ∧ T (lg (g 131) x))) ∧
  (∀ {x v : Int32} {T : aH → Prop}, wI (mk f g j c) 131 x v T = (inb x (g 131).length = true ∧ T (mk f (up1 g 131 (ls (g 131) x v)) j c))) ∧
  (∀ {x : Int32} {T : Int32 → Prop}, aI scr (mk f g j c) 132 x T = (inb x (g 132).length = true ∧ T (lg (g 132) x))) ∧
  (∀ {x v : Int32} {T : aH → Prop}, wI (mk f g j c) 132 x v T = (inb x (g 132).length = true ∧ T (mk f (up1 g 132 (ls (g 132) x v)) j c))) ∧
  (∀ {x : Int32} {T : Int32 → Prop}, aI scr (mk f g j c) 133 x T = (inb x (g 133).length = true ∧ T (lg (g 133) x))) ∧
  (∀ {x v : Int32} {T : aH → Prop}, wI (mk f g j c) 133 x v T = (inb x (g 133).length = true ∧ T (mk f (up1 g 133 (ls (g 133) x v)) j c))) ∧
  (∀ {x : Int32} {T : Int32 → Prop}, aI scr (mk f g j c) 134 x T = (inb x (g 134).length = true ∧ T (lg (g 134) x))) ∧
  (∀ {x v : Int32} {T : aH → Prop}, wI (mk f g j c) 134 x v T = (inb x (g 134).length = true ∧ T (mk f (up1 g 134 (ls (g 134) x v)) j c))) ∧
  (∀ {x : Int32} {T : Int32 → Prop}, aI scr (mk f g j c) 135 x T = (inb x (g 135).length = true ∧ T (lg (g 135) x))) ∧
  (∀ {x v : Int32} {T : aH → Prop}, wI (mk f g j c) 135 x v T = (inb x (g 135).length = true ∧ T (mk f (up1 g 135 (ls (g 135) x v)) j c))) ∧
  (∀ {x : Int32} {T : Int32 → Prop}, aI scr (mk f g j c) 136 x T = (inb x (g 136).length = true ∧ T (lg (g 136) x))) ∧
  (∀ {x v : Int32} {T : aH → Prop}, wI (mk f g j c) 136 x v T = (inb x (g 136).length = true ∧ T (mk f (up1 g 136 (ls (g 136) x v)) j c))) ∧
  (∀ {x : Int32} {T : Int32 → Prop}, aI scr (mk f g j c) 137 x T = (inb x (g 137).length = true ∧ T (lg (g 137) x))) ∧
  (∀ {x v : Int32} {T : aH → Prop}, wI (mk f g j c) 137 x v T = (inb x (g 137).length = true ∧ T (mk f (up1 g 137 (ls (g 137) x v)) j c))) ∧
  (∀ {x : Int32} {T : Int32 → Prop}, aI scr (mk f g j c) 138 x T = (inb x (g 138).length = true ∧ T (lg (g 138) x))) ∧
  (∀ {x v : Int32} {T : aH → Prop}, wI (mk f g j c) 138 x v T = (inb x (g 138).length = true ∧ T (mk f (up1 g 138 (ls (g 138) x v)) j c))) ∧
  (∀ {x : Int32} {T : Int32 → Prop}, aI scr (mk f g j c) 139 x T = (inb x (g 139).length = true ∧ T (lg (g 139) x))) ∧
  (∀ {x v : Int32} {T : aH → Prop}, wI (mk f g j c) 139 x v T = (inb x (g 139).length = true ∧ T (mk f (up1 g 139 (ls (g 139) x v)) j c))) ∧
  (∀ {x : Int32} {T : Int32 → Prop}, aI scr (mk f g j c) 140 x T = (inb x (g 140).length = true ∧ T (lg (g 140) x))) ∧
  (∀ {x v : Int32} {T : aH → Prop}, wI (mk f g j c) 140 x v T = (inb x (g 140).length = true ∧ T (mk f (up1 g 140 (ls (g 140) x v)) j c))) ∧
  (∀ {x : Int32} {T : Int32 → Prop}, aI scr (mk f g j c) 141 x T = (inb x (g 141).length = true ∧ T (lg (g 141) x))) ∧
  (∀ {x v : Int32} {T : aH → Prop}, wI (mk f g j c) 141 x v T = (inb x (g 141).length = true ∧ T (mk f (up1 g 141 (ls (g 141) x v)) j c))) ∧
  (∀ {x : Int32} {T : Int32 → Prop}, aI scr (mk f g j c) 142 x T = (inb x (g 142).length = true ∧ T (lg (g 142) x))) ∧
  (∀ {x v : Int32} {T : aH → Prop}, wI (mk f g j c) 142 x v T = (inb x (g 142).length = true ∧ T (mk f (up1 g 142 (ls (g 142) x v)) j c))) ∧
  (∀ {x : Int32} {T : Int32 → Prop}, aB scr (mk f g j c) 143 x T = (inb x (g 143).length = true ∧ T (lg (g 143) x))) ∧
  (∀ {x v : Int32} {T : aH → Prop}, wB (mk f g j c) 143 x v T = (inb x (g 143).length = true ∧ T (mk f (up1 g 143 (ls (g 143) x v.toInt8.toInt32)) j c))) ∧
  (∀ {x : Int32} {T : Int32 → Prop}, aI scr (mk f g j c) 144 x T = (inb x (g 144).length = true ∧ T (lg (g 144) x))) ∧
  (∀ {x v : Int32} {T : aH → Prop}, wI (mk f g j c) 144 x v T = (inb x (g 144).length = true ∧ T (mk f (up1 g 144 (ls (g 144) x v)) j c))) ∧
  (∀ {x : Int32} {T : Int32 → Prop}, aI scr (mk f g j c) 145 x T = (inb x (g 145).length = true ∧ T (lg (g 145) x))) ∧
  (∀ {x v : Int32} {T : aH → Prop}, wI (mk f g j c) 145 x v T = (inb x (g 145).length = true ∧ T (mk f (up1 g 145 (ls (g 145) x v)) j c))) ∧
  (∀ {x : Int32} {T : Int32 → Prop}, aI scr (mk f g j c) 146 x T = (inb x (g 146).length = true ∧ T (lg (g 146) x))) ∧
  (∀ {x v : Int32} {T : aH → Prop}, wI (mk f g j c) 146 x v T = (inb x (g 146).length = true ∧ T (mk f (up1 g 146 (ls (g 146) x v)) j c))) ∧
  (∀ {x : Int32} {T : Int32 → Prop}, aI scr (mk f g j c) 147 x T = (inb x (g 147).length = true ∧ T (lg (g 147) x))) ∧
  (∀ {x v : Int32} {T : aH → Prop}, wI (mk f g j c) 147 x v T = (inb x (g 147).length = true ∧ T (mk f (up1 g 147 (ls (g 147) x v)) j c))) ∧
  (∀ {x : Int32} {T : Int32 → Prop}, aI scr (mk f g j c) 148 x T = (inb x (g 148).length = true ∧ T (lg (g 148) x))) ∧
  (∀ {x v : Int32} {T : aH → Prop}, wI (mk f g j c) 148 x v T = (inb x (g 148).length = true ∧ T (mk f (up1 g 148 (ls (g 148) x v)) j c))) ∧
  (∀ {x : Int32} {T : Int32 → Prop}, aI scr (mk f g j c) 149 x T = (inb x (g 149).length = true ∧ T (lg (g 149) x))) ∧
  (∀ {x v : Int32} {T : aH → Prop}, wI (mk f g j c) 149 x v T = (inb x (g 149).length = true ∧ T (mk f (up1 g 149 (ls (g 149) x v)) j c))) ∧
  (∀ {x : Int32} {T : Int32 → Prop}, aI scr (mk f g j c) 150 x T = (inb x (g 150).length = true ∧ T (lg (g 150) x))) ∧
  (∀ {x v : Int32} {T : aH → Prop}, wI (mk f g j c) 150 x v T = (inb x (g 150).length = true ∧ T (mk f (up1 g 150 (ls (g 150) x v)) j c))) ∧
  (∀ {x : Int32} {T : Int64 → Prop}, aJ (mk f g j c) 151 x T = (inb x (j 151).length = true ∧ T (lgJ (j 151) x))) ∧
  (∀ {x : Int32} {v : Int64} {T : aH → Prop}, wJ (mk f g j c) 151 x v T = (inb x (j 151).length = true ∧ T (mk f g (up1 j 151 (lsJ (j 151) x v)) c))) ∧
  (∀ {x : Int32} {T : Int64 → Prop}, aJ (mk f g j c) 152 x T = (inb x (j 152).length = true ∧ T (lgJ (j 152) x))) ∧
  (∀ {x : Int32} {v : Int64} {T : aH → Prop}, wJ (mk f g j c) 152 x v T = (inb x (j 152).length = true ∧ T (mk f g (up1 j 152 (lsJ (j 152) x v)) c))) ∧
  (∀ {x : Int32} {T : Int32 → Prop}, aI scr (mk f g j c) 153 x T = (inb x (g 153).length = true ∧ T (lg (g 153) x))) ∧
  (∀ {x v : Int32} {T : aH → Prop}, wI (mk f g j c) 153 x v T = (inb x (g 153).length = true ∧ T (mk f (up1 g 153 (ls (g 153) x v)) j c))) ∧
  (∀ {x : Int32} {T : Int32 → Prop}, aI scr (mk f g j c) 154 x T = (inb x (g 154).length = true ∧ T (lg (g 154) x))) ∧
  (∀ {x v : Int32} {T : aH → Prop}, wI (mk f g j c) 154 x v T = (inb x (g 154).length = true ∧ T (mk f (up1 g 154 (ls (g 154) x v)) j c))) ∧
  (∀ {x : Int32} {T : Int32 → Prop}, aI scr (mk f g j c) 155 x T = (inb x (g 155).length = true ∧ T (lg (g 155) x))) ∧
  (∀ {x v : Int32} {T : aH → Prop}, wI (mk f g j c) 155 x v T = (inb x (g 155).length = true ∧ T (mk f (up1 g 155 (ls (g 155) x v)) j c))) ∧
  (∀ {x : Int32} {T : Int32 → Prop}, aI scr (mk f g j c) 156 x T = (inb x (g 156).length = true ∧ T (lg (g 156) x))) ∧
  (∀ {x v : Int32} {T : aH → Prop}, wI (mk f g j c) 156 x v T = (inb x (g 156).length = true ∧ T (mk f (up1 g 156 (ls (g 156) x v)) j c))) ∧
  (∀ {x : Int32} {T : Int32 → Prop}, aI scr (mk f g j c) 157 x T = (inb x (g 157).length = true ∧ T (lg (g 157) x))) ∧
  (∀ {x v : Int32} {T : aH → Prop}, wI (mk f g j c) 157 x v T = (inb x (g 157).length = true ∧ T (mk f (up1 g 157 (ls (g 157) x v)) j c))) ∧
  (∀ {x : Int32} {T : Int32 → Prop}, aI scr (mk f g j c) 158 x T = (inb x (g 158).length = true ∧ T (lg (g 158) x))) ∧
  (∀ {x v : Int32} {T : aH → Prop}, wI (mk f g j c) 158 x v T = (inb x (g 158).length = true ∧ T (mk f (up1 g 158 (ls (g 158) x v)) j c))) ∧
  (∀ {x : Int32} {T : Int32 → Prop}, aI scr (mk f g j c) 159 x T = (inb x (g 159).length = true ∧ T (lg (g 159) x))) ∧
  (∀ {x v : Int32} {T : aH → Prop}, wI (mk f g j c) 159 x v T = (inb x (g 159).length = true ∧ T (mk f (up1 g 159 (ls (g 159) x v)) j c))) ∧
  (∀ {x : Int32} {T : Int32 → Prop}, aI scr (mk f g j c) 160 x T = (inb x (g 160).length = true ∧ T (lg (g 160) x))) ∧
  (∀ {x v : Int32} {T : aH → Prop}, wI (mk f g j c) 160 x v T = (inb x (g 160).length = true ∧ T (mk f (up1 g 160 (ls (g 160) x v)) j c))) ∧
  (∀ {x : Int32} {T : Int32 → Prop}, aI scr (mk f g j c) 161 x T = (inb x (g 161).length = true ∧ T (lg (g 161) x))) ∧
  (∀ {x v : Int32} {T : aH → Prop}, wI (mk f g j c) 161 x v T = (inb x (g 161).length = true ∧ T (mk f (up1 g 161 (ls (g 161) x v)) j c))) ∧
  (∀ {x : Int32} {T : Int32 → Prop}, aI scr (mk f g j c) 162 x T = (inb x (g 162).length = true ∧ T (lg (g 162) x))) ∧
  (∀ {x v : Int32} {T : aH → Prop}, wI (mk f g j c) 162 x v T = (inb x (g 162).length = true ∧ T (mk f (up1 g 162 (ls (g 162) x v)) j c))) ∧
  (∀ {x : Int32} {T : Int32 → Prop}, aI scr (mk f g j c) 163 x T = (inb x (g 163).length = true ∧ T (lg (g 163) x))) ∧
  (∀ {x v : Int32} {T : aH → Prop}, wI (mk f g j c) 163 x v T = (inb x (g 163).length = true ∧ T (mk f (up1 g 163 (ls (g 163) x v)) j c))) ∧
  (∀ {x : Int32} {T : Int32 → Prop}, aI scr (mk f g j c) 164 x T = (inb x (g 164).length = true ∧ T (lg (g 164) x))) ∧
  (∀ {x v : Int32} {T : aH → Prop}, wI (mk f g j c) 164 x v T = (inb x (g 164).length = true ∧ T (mk f (up1 g 164 (ls (g 164) x v)) j c))) ∧
  (∀ {x : Int32} {T : Int32 → Prop}, aI scr (mk f g j c) 165 x T = (inb x (g 165).length = true ∧ T (lg (g 165) x))) ∧
  (∀ {x v : Int32} {T : aH → Prop}, wI (mk f g j c) 165 x v T = (inb x (g 165).length = true ∧ T (mk f (up1 g 165 (ls (g 165) x v)) j c))) ∧
  (∀ {x : Int32} {T : Int32 → Prop}, aB scr (mk f g j c) 166 x T = (inb x (g 166).length = true ∧ T (lg (g 166) x))) ∧
  (∀ {x v : Int32} {T : aH → Prop}, wB (mk f g j c) 166 x v T = (inb x (g 166).length = true ∧ T (mk f (up1 g 166 (ls (g 166) x (v &&& 1))) j c))) := by
  refine ⟨?_, ?_, ?_, ?_, ?_, ?_, ?_, ?_, ?_, ?_, ?_, ?_, ?_, ?_, ?_, ?_, ?_, ?_, ?_, ?_, ?_, ?_, ?_, ?_, ?_, ?_, ?_, ?_, ?_, ?_, ?_, ?_, ?_, ?_, ?_, ?_, ?_, ?_, ?_, ?_, ?_, ?_, ?_, ?_, ?_, ?_, ?_, ?_, ?_, ?_, ?_, ?_, ?_, ?_, ?_, ?_, ?_, ?_, ?_, ?_, ?_, ?_, ?_, ?_, ?_, ?_, ?_, ?_, ?_, ?_, ?_, ?_, ?_, ?_, ?_, ?_, ?_, ?_, ?_, ?_, ?_, ?_, ?_, ?_, ?_, ?_, ?_, ?_, ?_, ?_, ?_, ?_, ?_, ?_, ?_, ?_, ?_, ?_, ?_, ?_, ?_, ?_, ?_, ?_, ?_, ?_, ?_, ?_, ?_, ?_, ?_, ?_, ?_, ?_, ?_, ?_, ?_, ?_, ?_, ?_, ?_, ?_, ?_, ?_, ?_, ?_, ?_, ?_, ?_, ?_, ?_, ?_, ?_, ?_, ?_, ?_, ?_, ?_, ?_, ?_, ?_, ?_, ?_, ?_, ?_, ?_, ?_, ?_, ?_, ?_, ?_, ?_, ?_⟩
  · intros; exact i_mo_thrown
  · intros; exact p_mo_thrown
  · intros; exact r_mo_scalar
  · intros; exact r_mo_kind
  · intros; exact r_mo_age
  · intros; exact r_mo_sortOf
  · intros; exact r_mo_newScalar
  · intros; exact r_mo_newKind
  · intros; exact r_mo_newAge
  · intros; exact r_mo_newSort
  · intros; exact r_mo_newPlace
  · intros; exact r_mo_place
  · intros; exact r_mo_outAt
  · intros; exact r_mo_spoorStep
  · intros; exact r_mo_spoorWho
  · intros; exact r_mo_spoorOther
  · intros; exact r_mo_gateFar
  · intros; exact r_mo_row
  · intros; exact r_mo_seen
  · intros; exact i_mo_manySeen
  · intros; exact p_mo_manySeen
  · intros; exact i_mo_taped
  · intros; exact p_mo_taped
  · intros; exact i_mo_p
  · intros; exact p_mo_p
  · intros; exact i_mo_fault
  · intros; exact p_mo_fault
  · intros; exact i_mo_slot
  · intros; exact p_mo_slot
  · intros; exact i_mo_laws
  · intros; exact p_mo_laws
  · intros; exact i_mo_entries
  · intros; exact p_mo_entries
  · intros; exact i_mo_deep
  · intros; exact p_mo_deep
  · intros; exact i_mo_counted
  · intros; exact p_mo_counted
  · intros; exact i_mo_opened
  · intros; exact p_mo_opened
  · intros; exact i_mo_words
  · intros; exact p_mo_words
  · intros; exact r_mo_tape
  · intros; exact r_mo_sort
  · intros; exact r_mo_number
  · intros; exact r_mo_clauses
  · intros; exact r_mo_followed
  · intros; exact r_mo_testAt
  · intros; exact r_mo_endAt
  · intros; exact r_mo_open
  · intros; exact r_mo_asked
  · intros; exact r_mo_stack
  · intros; exact r_mo_lastFollowed
  · intros; exact i_mo_went
  · intros; exact p_mo_went
  · intros; exact r_mo_keptScalar
  · intros; exact r_mo_keptPlace
  · intros; exact r_mo_keptOut
  · intros; exact r_mo_stood0
  · intros; exact r_mo_target
  · intros; exact r_mo_withHim
  · intros; exact r_mo_keptLead
  · intros; exact r_mo_leadPlace
  · intros; exact r_mo_leadOut
  · intros; exact r_mo_there
  · intros; exact r_mo_goal
  · intros; exact r_mo_images
  · intros; exact r_mo_isMade
  · intros; exact i_mo_imageAt
  · intros; exact p_mo_imageAt
  · intros; exact i_mo_comesBack
  · intros; exact p_mo_comesBack
  · intros; exact a_mo_scalar
  · intros; exact w_mo_scalar
  · intros; exact a_mo_kind
  · intros; exact w_mo_kind
  · intros; exact a_mo_age
  · intros; exact w_mo_age
  · intros; exact a_mo_sortOf
  · intros; exact w_mo_sortOf
  · intros; exact a_mo_newScalar
  · intros; exact w_mo_newScalar
  · intros; exact a_mo_newKind
  · intros; exact w_mo_newKind
  · intros; exact a_mo_newAge
  · intros; exact w_mo_newAge
  · intros; exact a_mo_newSort
  · intros; exact w_mo_newSort
  · intros; exact a_mo_newPlace
  · intros; exact w_mo_newPlace
  · intros; exact a_mo_place
  · intros; exact w_mo_place
  · intros; exact a_mo_outAt
  · intros; exact w_mo_outAt
  · intros; exact a_mo_spoorStep
  · intros; exact w_mo_spoorStep
  · intros; exact a_mo_spoorWho
  · intros; exact w_mo_spoorWho
  · intros; exact a_mo_spoorOther
  · intros; exact w_mo_spoorOther
  · intros; exact a_mo_gateFar
  · intros; exact w_mo_gateFar
  · intros; exact a_mo_row
  · intros; exact w_mo_row
  · intros; exact a_mo_seen
  · intros; exact w_mo_seen
  · intros; exact a_mo_tape
  · intros; exact w_mo_tape
  · intros; exact a_mo_sort
  · intros; exact w_mo_sort
  · intros; exact a_mo_number
  · intros; exact w_mo_number
  · intros; exact a_mo_clauses
  · intros; exact w_mo_clauses
  · intros; exact a_mo_followed
  · intros; exact w_mo_followed
  · intros; exact a_mo_testAt
  · intros; exact w_mo_testAt
  · intros; exact a_mo_endAt
  · intros; exact w_mo_endAt
  · intros; exact a_mo_open
  · intros; exact w_mo_open
  · intros; exact a_mo_asked
  · intros; exact w_mo_asked
  · intros; exact a_mo_stack
  · intros; exact w_mo_stack
  · intros; exact a_mo_lastFollowed
  · intros; exact w_mo_lastFollowed
  · intros; exact a_mo_keptScalar
  · intros; exact w_mo_keptScalar
  · intros; exact a_mo_keptPlace
  · intros; exact w_mo_keptPlace
  · intros; exact a_mo_keptOut
  · intros; exact w_mo_keptOut
  · intros; exact a_mo_stood0
  · intros; exact w_mo_stood0
  · intros; exact a_mo_target
  · intros; exact w_mo_target
  · intros; exact a_mo_withHim
  · intros; exact w_mo_withHim
  · intros; exact a_mo_keptLead
  · intros; exact w_mo_keptLead
  · intros; exact a_mo_leadPlace
  · intros; exact w_mo_leadPlace
  · intros; exact a_mo_leadOut
  · intros; exact w_mo_leadOut
  · intros; exact a_mo_there
  · intros; exact w_mo_there
  · intros; exact a_mo_goal
  · intros; exact w_mo_goal
  · intros; exact a_mo_images
  · intros; exact w_mo_images
  · intros; exact a_mo_isMade
  · intros; exact w_mo_isMade
end BN
