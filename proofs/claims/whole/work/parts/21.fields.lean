variable {scr : List Int32}
section WS
variable {f : Nat → Nat → Int32} {g : Nat → List Int32} {j : Nat → List Int64} {c : Value}
/-- the cells of scenes -/
abbrev isSc (p : Nat) : Prop := p = 3 ∨ p = 13 ∨ p = 60 ∨ p = 70 ∨ p = 84 ∨ p = 94 ∨ p = 104 ∨ p = 114
/-- the cells of laws -/
abbrev isLw (p : Nat) : Prop := p = 26 ∨ p = 30 ∨ p = 34 ∨ p = 38 ∨ p = 42 ∨ p = 46
theorem L_top : LAY[0]? = some (.inr (8, [some 1, some 3, some 13, some 23, some 24, some 25, none, some 50, some 55, some 59, some 83, some 124])) := by rfl
theorem r_top_tape {T : Nat → Prop} : gR scr (mk f g j c) 0 8 0 T = T 1 := gR_mk L_top rfl (by decide)
theorem r_top_now {T : Nat → Prop} : gR scr (mk f g j c) 0 8 1 T = T 3 := gR_mk L_top rfl (by decide)
theorem r_top_draft {T : Nat → Prop} : gR scr (mk f g j c) 0 8 2 T = T 13 := gR_mk L_top rfl (by decide)
theorem r_top_plainReader {T : Nat → Prop} : gR scr (mk f g j c) 0 8 3 T = T 23 := gR_mk L_top rfl (by decide)
theorem r_top_lawReader {T : Nat → Prop} : gR scr (mk f g j c) 0 8 4 T = T 24 := gR_mk L_top rfl (by decide)
theorem r_top_laws {T : Nat → Prop} : gR scr (mk f g j c) 0 8 5 T = T 25 := gR_mk L_top rfl (by decide)
theorem i_top_lawCount {T : Int32 → Prop} : gI scr (mk f g j c) 0 8 6 T = T (f 0 6) := gI_mk L_top rfl
theorem p_top_lawCount {v : Int32} {T : aH → Prop} : pF (mk f g j c) 0 8 6 (.int v) T = T (mk (up2 f 0 6 v) g j c) := pF_mk L_top rfl
theorem r_top_ground {T : Nat → Prop} : gR scr (mk f g j c) 0 8 7 T = T 50 := gR_mk L_top rfl (by decide)
theorem r_top_walker {T : Nat → Prop} : gR scr (mk f g j c) 0 8 8 T = T 55 := gR_mk L_top rfl (by decide)
theorem r_top_planner {T : Nat → Prop} : gR scr (mk f g j c) 0 8 9 T = T 59 := gR_mk L_top rfl (by decide)
theorem r_top_images {T : Nat → Prop} : gR scr (mk f g j c) 0 8 10 T = T 83 := gR_mk L_top rfl (by decide)
theorem r_top_made {T : Nat → Prop} : gR scr (mk f g j c) 0 8 11 T = T 124 := gR_mk L_top rfl (by decide)
theorem A_top_made : LAY[124]? = some (.inl 3) := by rfl
theorem a_top_made {x : Int32} {T : Int32 → Prop} : aB scr (mk f g j c) 124 x T = (inb x (g 124).length = true ∧ T (lg (g 124) x)) := aB_mk (by decide) A_top_made
theorem w_top_made {x v : Int32} {T : aH → Prop} : wB (mk f g j c) 124 x v T = (inb x (g 124).length = true ∧ T (mk f (up1 g 124 (ls (g 124) x (v &&& 1))) j c)) := wZ_mk A_top_made
theorem L_tape : LAY[1]? = some (.inr (6, [some 2, none, none, none])) := by rfl
theorem r_tape_bytes {T : Nat → Prop} : gR scr (mk f g j c) 1 6 0 T = T 2 := gR_mk L_tape rfl (by decide)
theorem i_tape_length {T : Int32 → Prop} : gI scr (mk f g j c) 1 6 1 T = T (f 1 1) := gI_mk L_tape rfl
theorem p_tape_length {v : Int32} {T : aH → Prop} : pF (mk f g j c) 1 6 1 (.int v) T = T (mk (up2 f 1 1 v) g j c) := pF_mk L_tape rfl
theorem i_tape_place {T : Int32 → Prop} : gI scr (mk f g j c) 1 6 2 T = T (f 1 2) := gI_mk L_tape rfl
theorem p_tape_place {v : Int32} {T : aH → Prop} : pF (mk f g j c) 1 6 2 (.int v) T = T (mk (up2 f 1 2 v) g j c) := pF_mk L_tape rfl
theorem i_tape_fault {T : Int32 → Prop} : gI scr (mk f g j c) 1 6 3 T = T (f 1 3) := gI_mk L_tape rfl
theorem p_tape_fault {v : Int32} {T : aH → Prop} : pF (mk f g j c) 1 6 3 (.int v) T = T (mk (up2 f 1 3 v) g j c) := pF_mk L_tape rfl
theorem A_tape_bytes : LAY[2]? = some (.inl 0) := by rfl
theorem a_tape_bytes {x : Int32} {T : Int32 → Prop} : aB scr (mk f g j c) 2 x T = (inb x (g 2).length = true ∧ T (lg (g 2) x)) := aB_mk (by decide) A_tape_bytes
theorem w_tape_bytes {x v : Int32} {T : aH → Prop} : wB (mk f g j c) 2 x v T = (inb x (g 2).length = true ∧ T (mk f (up1 g 2 (ls (g 2) x v.toInt8.toInt32)) j c)) := wB_mk A_tape_bytes
theorem L_sc {p : Nat} (hp : isSc p) : LAY[p]? = some (.inr (5, [none, none, none, none, none, none, none, none, some (p + 1), some (p + 2), some (p + 3), some (p + 4), some (p + 5), some (p + 6), some (p + 7), some (p + 8), some (p + 9)])) := by rcases hp with rfl | rfl | rfl | rfl | rfl | rfl | rfl | rfl <;> rfl
theorem i_sc_columns {p : Nat} (hp : isSc p) {T : Int32 → Prop} : gI scr (mk f g j c) p 5 0 T = T (f p 0) := gI_mk (L_sc hp) rfl
theorem p_sc_columns {p : Nat} (hp : isSc p) {v : Int32} {T : aH → Prop} : pF (mk f g j c) p 5 0 (.int v) T = T (mk (up2 f p 0 v) g j c) := pF_mk (L_sc hp) rfl
theorem i_sc_rows {p : Nat} (hp : isSc p) {T : Int32 → Prop} : gI scr (mk f g j c) p 5 1 T = T (f p 1) := gI_mk (L_sc hp) rfl
theorem p_sc_rows {p : Nat} (hp : isSc p) {v : Int32} {T : aH → Prop} : pF (mk f g j c) p 5 1 (.int v) T = T (mk (up2 f p 1 v) g j c) := pF_mk (L_sc hp) rfl
theorem i_sc_gates {p : Nat} (hp : isSc p) {T : Int32 → Prop} : gI scr (mk f g j c) p 5 2 T = T (f p 2) := gI_mk (L_sc hp) rfl
theorem p_sc_gates {p : Nat} (hp : isSc p) {v : Int32} {T : aH → Prop} : pF (mk f g j c) p 5 2 (.int v) T = T (mk (up2 f p 2 v) g j c) := pF_mk (L_sc hp) rfl
theorem i_sc_people {p : Nat} (hp : isSc p) {T : Int32 → Prop} : gI scr (mk f g j c) p 5 3 T = T (f p 3) := gI_mk (L_sc hp) rfl
theorem p_sc_people {p : Nat} (hp : isSc p) {v : Int32} {T : aH → Prop} : pF (mk f g j c) p 5 3 (.int v) T = T (mk (up2 f p 3 v) g j c) := pF_mk (L_sc hp) rfl
theorem i_sc_heralds {p : Nat} (hp : isSc p) {T : Int32 → Prop} : gI scr (mk f g j c) p 5 4 T = T (f p 4) := gI_mk (L_sc hp) rfl
theorem p_sc_heralds {p : Nat} (hp : isSc p) {v : Int32} {T : aH → Prop} : pF (mk f g j c) p 5 4 (.int v) T = T (mk (up2 f p 4 v) g j c) := pF_mk (L_sc hp) rfl
theorem i_sc_steps {p : Nat} (hp : isSc p) {T : Int32 → Prop} : gI scr (mk f g j c) p 5 5 T = T (f p 5) := gI_mk (L_sc hp) rfl
theorem p_sc_steps {p : Nat} (hp : isSc p) {v : Int32} {T : aH → Prop} : pF (mk f g j c) p 5 5 (.int v) T = T (mk (up2 f p 5 v) g j c) := pF_mk (L_sc hp) rfl
theorem i_sc_outCount {p : Nat} (hp : isSc p) {T : Int32 → Prop} : gI scr (mk f g j c) p 5 6 T = T (f p 6) := gI_mk (L_sc hp) rfl
theorem p_sc_outCount {p : Nat} (hp : isSc p) {v : Int32} {T : aH → Prop} : pF (mk f g j c) p 5 6 (.int v) T = T (mk (up2 f p 6 v) g j c) := pF_mk (L_sc hp) rfl
theorem i_sc_spoors {p : Nat} (hp : isSc p) {T : Int32 → Prop} : gI scr (mk f g j c) p 5 7 T = T (f p 7) := gI_mk (L_sc hp) rfl
theorem p_sc_spoors {p : Nat} (hp : isSc p) {v : Int32} {T : aH → Prop} : pF (mk f g j c) p 5 7 (.int v) T = T (mk (up2 f p 7 v) g j c) := pF_mk (L_sc hp) rfl
theorem r_sc_kinds {p : Nat} (hp : isSc p) {T : Nat → Prop} : gR scr (mk f g j c) p 5 8 T = T (p + 1) := gR_mk (L_sc hp) rfl (by rcases hp with rfl | rfl | rfl | rfl | rfl | rfl | rfl | rfl <;> omega)
theorem r_sc_standing {p : Nat} (hp : isSc p) {T : Nat → Prop} : gR scr (mk f g j c) p 5 9 T = T (p + 2) := gR_mk (L_sc hp) rfl (by rcases hp with rfl | rfl | rfl | rfl | rfl | rfl | rfl | rfl <;> omega)
theorem r_sc_at {p : Nat} (hp : isSc p) {T : Nat → Prop} : gR scr (mk f g j c) p 5 10 T = T (p + 3) := gR_mk (L_sc hp) rfl (by rcases hp with rfl | rfl | rfl | rfl | rfl | rfl | rfl | rfl <;> omega)
theorem r_sc_age {p : Nat} (hp : isSc p) {T : Nat → Prop} : gR scr (mk f g j c) p 5 11 T = T (p + 4) := gR_mk (L_sc hp) rfl (by rcases hp with rfl | rfl | rfl | rfl | rfl | rfl | rfl | rfl <;> omega)
theorem r_sc_sort {p : Nat} (hp : isSc p) {T : Nat → Prop} : gR scr (mk f g j c) p 5 12 T = T (p + 5) := gR_mk (L_sc hp) rfl (by rcases hp with rfl | rfl | rfl | rfl | rfl | rfl | rfl | rfl <;> omega)
theorem r_sc_out {p : Nat} (hp : isSc p) {T : Nat → Prop} : gR scr (mk f g j c) p 5 13 T = T (p + 6) := gR_mk (L_sc hp) rfl (by rcases hp with rfl | rfl | rfl | rfl | rfl | rfl | rfl | rfl <;> omega)
theorem r_sc_spoorStep {p : Nat} (hp : isSc p) {T : Nat → Prop} : gR scr (mk f g j c) p 5 14 T = T (p + 7) := gR_mk (L_sc hp) rfl (by rcases hp with rfl | rfl | rfl | rfl | rfl | rfl | rfl | rfl <;> omega)
theorem r_sc_spoorPerson {p : Nat} (hp : isSc p) {T : Nat → Prop} : gR scr (mk f g j c) p 5 15 T = T (p + 8) := gR_mk (L_sc hp) rfl (by rcases hp with rfl | rfl | rfl | rfl | rfl | rfl | rfl | rfl <;> omega)
theorem r_sc_spoorOther {p : Nat} (hp : isSc p) {T : Nat → Prop} : gR scr (mk f g j c) p 5 16 T = T (p + 9) := gR_mk (L_sc hp) rfl (by rcases hp with rfl | rfl | rfl | rfl | rfl | rfl | rfl | rfl <;> omega)
theorem A_sc_kinds {p : Nat} (hp : isSc p) : LAY[(p + 1)]? = some (.inl 0) := by rcases hp with rfl | rfl | rfl | rfl | rfl | rfl | rfl | rfl <;> rfl
theorem a_sc_kinds {p : Nat} (hp : isSc p) {x : Int32} {T : Int32 → Prop} : aB scr (mk f g j c) (p + 1) x T = (inb x (g (p + 1)).length = true ∧ T (lg (g (p + 1)) x)) := aB_mk (by decide) (A_sc_kinds hp)
theorem w_sc_kinds {p : Nat} (hp : isSc p) {x v : Int32} {T : aH → Prop} : wB (mk f g j c) (p + 1) x v T = (inb x (g (p + 1)).length = true ∧ T (mk f (up1 g (p + 1) (ls (g (p + 1)) x v.toInt8.toInt32)) j c)) := wB_mk (A_sc_kinds hp)
theorem A_sc_standing {p : Nat} (hp : isSc p) : LAY[(p + 2)]? = some (.inl 0) := by rcases hp with rfl | rfl | rfl | rfl | rfl | rfl | rfl | rfl <;> rfl
theorem a_sc_standing {p : Nat} (hp : isSc p) {x : Int32} {T : Int32 → Prop} : aB scr (mk f g j c) (p + 2) x T = (inb x (g (p + 2)).length = true ∧ T (lg (g (p + 2)) x)) := aB_mk (by decide) (A_sc_standing hp)
theorem w_sc_standing {p : Nat} (hp : isSc p) {x v : Int32} {T : aH → Prop} : wB (mk f g j c) (p + 2) x v T = (inb x (g (p + 2)).length = true ∧ T (mk f (up1 g (p + 2) (ls (g (p + 2)) x v.toInt8.toInt32)) j c)) := wB_mk (A_sc_standing hp)
theorem A_sc_at {p : Nat} (hp : isSc p) : LAY[(p + 3)]? = some (.inl 1) := by rcases hp with rfl | rfl | rfl | rfl | rfl | rfl | rfl | rfl <;> rfl
theorem a_sc_at {p : Nat} (hp : isSc p) {x : Int32} {T : Int32 → Prop} : aI scr (mk f g j c) (p + 3) x T = (inb x (g (p + 3)).length = true ∧ T (lg (g (p + 3)) x)) := aI_mk (A_sc_at hp)
theorem w_sc_at {p : Nat} (hp : isSc p) {x v : Int32} {T : aH → Prop} : wI (mk f g j c) (p + 3) x v T = (inb x (g (p + 3)).length = true ∧ T (mk f (up1 g (p + 3) (ls (g (p + 3)) x v)) j c)) := wI_mk (A_sc_at hp)
theorem A_sc_age {p : Nat} (hp : isSc p) : LAY[(p + 4)]? = some (.inl 1) := by rcases hp with rfl | rfl | rfl | rfl | rfl | rfl | rfl | rfl <;> rfl
theorem a_sc_age {p : Nat} (hp : isSc p) {x : Int32} {T : Int32 → Prop} : aI scr (mk f g j c) (p + 4) x T = (inb x (g (p + 4)).length = true ∧ T (lg (g (p + 4)) x)) := aI_mk (A_sc_age hp)
theorem w_sc_age {p : Nat} (hp : isSc p) {x v : Int32} {T : aH → Prop} : wI (mk f g j c) (p + 4) x v T = (inb x (g (p + 4)).length = true ∧ T (mk f (up1 g (p + 4) (ls (g (p + 4)) x v)) j c)) := wI_mk (A_sc_age hp)
theorem A_sc_sort {p : Nat} (hp : isSc p) : LAY[(p + 5)]? = some (.inl 1) := by rcases hp with rfl | rfl | rfl | rfl | rfl | rfl | rfl | rfl <;> rfl
theorem a_sc_sort {p : Nat} (hp : isSc p) {x : Int32} {T : Int32 → Prop} : aI scr (mk f g j c) (p + 5) x T = (inb x (g (p + 5)).length = true ∧ T (lg (g (p + 5)) x)) := aI_mk (A_sc_sort hp)
theorem w_sc_sort {p : Nat} (hp : isSc p) {x v : Int32} {T : aH → Prop} : wI (mk f g j c) (p + 5) x v T = (inb x (g (p + 5)).length = true ∧ T (mk f (up1 g (p + 5) (ls (g (p + 5)) x v)) j c)) := wI_mk (A_sc_sort hp)
theorem A_sc_out {p : Nat} (hp : isSc p) : LAY[(p + 6)]? = some (.inl 1) := by rcases hp with rfl | rfl | rfl | rfl | rfl | rfl | rfl | rfl <;> rfl
theorem a_sc_out {p : Nat} (hp : isSc p) {x : Int32} {T : Int32 → Prop} : aI scr (mk f g j c) (p + 6) x T = (inb x (g (p + 6)).length = true ∧ T (lg (g (p + 6)) x)) := aI_mk (A_sc_out hp)
theorem w_sc_out {p : Nat} (hp : isSc p) {x v : Int32} {T : aH → Prop} : wI (mk f g j c) (p + 6) x v T = (inb x (g (p + 6)).length = true ∧ T (mk f (up1 g (p + 6) (ls (g (p + 6)) x v)) j c)) := wI_mk (A_sc_out hp)
theorem A_sc_spoorStep {p : Nat} (hp : isSc p) : LAY[(p + 7)]? = some (.inl 1) := by rcases hp with rfl | rfl | rfl | rfl | rfl | rfl | rfl | rfl <;> rfl
theorem a_sc_spoorStep {p : Nat} (hp : isSc p) {x : Int32} {T : Int32 → Prop} : aI scr (mk f g j c) (p + 7) x T = (inb x (g (p + 7)).length = true ∧ T (lg (g (p + 7)) x)) := aI_mk (A_sc_spoorStep hp)
theorem w_sc_spoorStep {p : Nat} (hp : isSc p) {x v : Int32} {T : aH → Prop} : wI (mk f g j c) (p + 7) x v T = (inb x (g (p + 7)).length = true ∧ T (mk f (up1 g (p + 7) (ls (g (p + 7)) x v)) j c)) := wI_mk (A_sc_spoorStep hp)
theorem A_sc_spoorPerson {p : Nat} (hp : isSc p) : LAY[(p + 8)]? = some (.inl 1) := by rcases hp with rfl | rfl | rfl | rfl | rfl | rfl | rfl | rfl <;> rfl
theorem a_sc_spoorPerson {p : Nat} (hp : isSc p) {x : Int32} {T : Int32 → Prop} : aI scr (mk f g j c) (p + 8) x T = (inb x (g (p + 8)).length = true ∧ T (lg (g (p + 8)) x)) := aI_mk (A_sc_spoorPerson hp)
theorem w_sc_spoorPerson {p : Nat} (hp : isSc p) {x v : Int32} {T : aH → Prop} : wI (mk f g j c) (p + 8) x v T = (inb x (g (p + 8)).length = true ∧ T (mk f (up1 g (p + 8) (ls (g (p + 8)) x v)) j c)) := wI_mk (A_sc_spoorPerson hp)
theorem A_sc_spoorOther {p : Nat} (hp : isSc p) : LAY[(p + 9)]? = some (.inl 1) := by rcases hp with rfl | rfl | rfl | rfl | rfl | rfl | rfl | rfl <;> rfl
theorem a_sc_spoorOther {p : Nat} (hp : isSc p) {x : Int32} {T : Int32 → Prop} : aI scr (mk f g j c) (p + 9) x T = (inb x (g (p + 9)).length = true ∧ T (lg (g (p + 9)) x)) := aI_mk (A_sc_spoorOther hp)
theorem w_sc_spoorOther {p : Nat} (hp : isSc p) {x v : Int32} {T : aH → Prop} : wI (mk f g j c) (p + 9) x v T = (inb x (g (p + 9)).length = true ∧ T (mk f (up1 g (p + 9) (ls (g (p + 9)) x v)) j c)) := wI_mk (A_sc_spoorOther hp)
theorem L_pr : LAY[23]? = some (.inr (3, [some 1, some 13])) := by rfl
theorem r_pr_tape {T : Nat → Prop} : gR scr (mk f g j c) 23 3 0 T = T 1 := gR_mk L_pr rfl (by decide)
theorem r_pr_scene {T : Nat → Prop} : gR scr (mk f g j c) 23 3 1 T = T 13 := gR_mk L_pr rfl (by decide)
theorem L_lr : LAY[24]? = some (.inr (2, [some 1, some 9999, none])) := by rfl
theorem r_lr_tape {T : Nat → Prop} : gR scr (mk f g j c) 24 2 0 T = T 1 := gR_mk L_lr rfl (by decide)
theorem i_lr_size {T : Int32 → Prop} : gI scr (mk f g j c) 24 2 2 T = T (f 24 2) := gI_mk L_lr rfl
theorem p_lr_size {v : Int32} {T : aH → Prop} : pF (mk f g j c) 24 2 2 (.int v) T = T (mk (up2 f 24 2 v) g j c) := pF_mk L_lr rfl
theorem L_lw {p : Nat} (hp : isLw p) : LAY[p]? = some (.inr (1, [none, some (p + 1), some (p + 2), none, some (p + 3)])) := by rcases hp with rfl | rfl | rfl | rfl | rfl | rfl <;> rfl
theorem i_lw_clauses {p : Nat} (hp : isLw p) {T : Int32 → Prop} : gI scr (mk f g j c) p 1 0 T = T (f p 0) := gI_mk (L_lw hp) rfl
theorem p_lw_clauses {p : Nat} (hp : isLw p) {v : Int32} {T : aH → Prop} : pF (mk f g j c) p 1 0 (.int v) T = T (mk (up2 f p 0 v) g j c) := pF_mk (L_lw hp) rfl
theorem r_lw_places {p : Nat} (hp : isLw p) {T : Nat → Prop} : gR scr (mk f g j c) p 1 1 T = T (p + 1) := gR_mk (L_lw hp) rfl (by rcases hp with rfl | rfl | rfl | rfl | rfl | rfl <;> omega)
theorem r_lw_testEnds {p : Nat} (hp : isLw p) {T : Nat → Prop} : gR scr (mk f g j c) p 1 2 T = T (p + 2) := gR_mk (L_lw hp) rfl (by rcases hp with rfl | rfl | rfl | rfl | rfl | rfl <;> omega)
theorem i_lw_length {p : Nat} (hp : isLw p) {T : Int32 → Prop} : gI scr (mk f g j c) p 1 3 T = T (f p 3) := gI_mk (L_lw hp) rfl
theorem p_lw_length {p : Nat} (hp : isLw p) {v : Int32} {T : aH → Prop} : pF (mk f g j c) p 1 3 (.int v) T = T (mk (up2 f p 3 v) g j c) := pF_mk (L_lw hp) rfl
theorem r_lw_code {p : Nat} (hp : isLw p) {T : Nat → Prop} : gR scr (mk f g j c) p 1 4 T = T (p + 3) := gR_mk (L_lw hp) rfl (by rcases hp with rfl | rfl | rfl | rfl | rfl | rfl <;> omega)
theorem A_lw_places {p : Nat} (hp : isLw p) : LAY[(p + 1)]? = some (.inl 1) := by rcases hp with rfl | rfl | rfl | rfl | rfl | rfl <;> rfl
theorem a_lw_places {p : Nat} (hp : isLw p) {x : Int32} {T : Int32 → Prop} : aI scr (mk f g j c) (p + 1) x T = (inb x (g (p + 1)).length = true ∧ T (lg (g (p + 1)) x)) := aI_mk (A_lw_places hp)
theorem w_lw_places {p : Nat} (hp : isLw p) {x v : Int32} {T : aH → Prop} : wI (mk f g j c) (p + 1) x v T = (inb x (g (p + 1)).length = true ∧ T (mk f (up1 g (p + 1) (ls (g (p + 1)) x v)) j c)) := wI_mk (A_lw_places hp)
theorem A_lw_testEnds {p : Nat} (hp : isLw p) : LAY[(p + 2)]? = some (.inl 1) := by rcases hp with rfl | rfl | rfl | rfl | rfl | rfl <;> rfl
theorem a_lw_testEnds {p : Nat} (hp : isLw p) {x : Int32} {T : Int32 → Prop} : aI scr (mk f g j c) (p + 2) x T = (inb x (g (p + 2)).length = true ∧ T (lg (g (p + 2)) x)) := aI_mk (A_lw_testEnds hp)
theorem w_lw_testEnds {p : Nat} (hp : isLw p) {x v : Int32} {T : aH → Prop} : wI (mk f g j c) (p + 2) x v T = (inb x (g (p + 2)).length = true ∧ T (mk f (up1 g (p + 2) (ls (g (p + 2)) x v)) j c)) := wI_mk (A_lw_testEnds hp)
theorem A_lw_code {p : Nat} (hp : isLw p) : LAY[(p + 3)]? = some (.inl 1) := by rcases hp with rfl | rfl | rfl | rfl | rfl | rfl <;> rfl
theorem a_lw_code {p : Nat} (hp : isLw p) {x : Int32} {T : Int32 → Prop} : aI scr (mk f g j c) (p + 3) x T = (inb x (g (p + 3)).length = true ∧ T (lg (g (p + 3)) x)) := aI_mk (A_lw_code hp)
theorem w_lw_code {p : Nat} (hp : isLw p) {x v : Int32} {T : aH → Prop} : wI (mk f g j c) (p + 3) x v T = (inb x (g (p + 3)).length = true ∧ T (mk f (up1 g (p + 3) (ls (g (p + 3)) x v)) j c)) := wI_mk (A_lw_code hp)
theorem L_gr : LAY[50]? = some (.inr (0, [some 51, some 52, some 53, some 54])) := by rfl
theorem r_gr_toGate {T : Nat → Prop} : gR scr (mk f g j c) 50 0 0 T = T 51 := gR_mk L_gr rfl (by decide)
theorem r_gr_queue {T : Nat → Prop} : gR scr (mk f g j c) 50 0 1 T = T 52 := gR_mk L_gr rfl (by decide)
theorem r_gr_known {T : Nat → Prop} : gR scr (mk f g j c) 50 0 2 T = T 53 := gR_mk L_gr rfl (by decide)
theorem r_gr_clear {T : Nat → Prop} : gR scr (mk f g j c) 50 0 3 T = T 54 := gR_mk L_gr rfl (by decide)
theorem A_gr_toGate : LAY[51]? = some (.inl 1) := by rfl
theorem a_gr_toGate {x : Int32} {T : Int32 → Prop} : aI scr (mk f g j c) 51 x T = (inb x (g 51).length = true ∧ T (lg (g 51) x)) := aI_mk A_gr_toGate
theorem w_gr_toGate {x v : Int32} {T : aH → Prop} : wI (mk f g j c) 51 x v T = (inb x (g 51).length = true ∧ T (mk f (up1 g 51 (ls (g 51) x v)) j c)) := wI_mk A_gr_toGate
theorem A_gr_queue : LAY[52]? = some (.inl 1) := by rfl
theorem a_gr_queue {x : Int32} {T : Int32 → Prop} : aI scr (mk f g j c) 52 x T = (inb x (g 52).length = true ∧ T (lg (g 52) x)) := aI_mk A_gr_queue
theorem w_gr_queue {x v : Int32} {T : aH → Prop} : wI (mk f g j c) 52 x v T = (inb x (g 52).length = true ∧ T (mk f (up1 g 52 (ls (g 52) x v)) j c)) := wI_mk A_gr_queue
theorem A_gr_known : LAY[53]? = some (.inl 2) := by rfl
theorem a_gr_known {x : Int32} {T : Int64 → Prop} : aJ (mk f g j c) 53 x T = (inb x (j 53).length = true ∧ T (lgJ (j 53) x)) := aJ_mk A_gr_known
theorem w_gr_known {x : Int32} {v : Int64} {T : aH → Prop} : wJ (mk f g j c) 53 x v T = (inb x (j 53).length = true ∧ T (mk f g (up1 j 53 (lsJ (j 53) x v)) c)) := wJ_mk A_gr_known
theorem A_gr_clear : LAY[54]? = some (.inl 2) := by rfl
theorem a_gr_clear {x : Int32} {T : Int64 → Prop} : aJ (mk f g j c) 54 x T = (inb x (j 54).length = true ∧ T (lgJ (j 54) x)) := aJ_mk A_gr_clear
theorem w_gr_clear {x : Int32} {v : Int64} {T : aH → Prop} : wJ (mk f g j c) 54 x v T = (inb x (j 54).length = true ∧ T (mk f g (up1 j 54 (lsJ (j 54) x v)) c)) := wJ_mk A_gr_clear
theorem L_wk : LAY[55]? = some (.inr (7, [some 50, some 56, some 57, none, none, none, some 58, none])) := by rfl
theorem r_wk_ground {T : Nat → Prop} : gR scr (mk f g j c) 55 7 0 T = T 50 := gR_mk L_wk rfl (by decide)
theorem r_wk_stack {T : Nat → Prop} : gR scr (mk f g j c) 55 7 1 T = T 56 := gR_mk L_wk rfl (by decide)
theorem r_wk_order {T : Nat → Prop} : gR scr (mk f g j c) 55 7 2 T = T 57 := gR_mk L_wk rfl (by decide)
theorem i_wk_sighted {T : Int32 → Prop} : gI scr (mk f g j c) 55 7 3 T = T (f 55 3) := gI_mk L_wk rfl
theorem p_wk_sighted {v : Int32} {T : aH → Prop} : pF (mk f g j c) 55 7 3 (.int v) T = T (mk (up2 f 55 3 v) g j c) := pF_mk L_wk rfl
theorem i_wk_beside {T : Int32 → Prop} : gI scr (mk f g j c) 55 7 4 T = T (f 55 4) := gI_mk L_wk rfl
theorem p_wk_beside {v : Int32} {T : aH → Prop} : pF (mk f g j c) 55 7 4 (.int v) T = T (mk (up2 f 55 4 v) g j c) := pF_mk L_wk rfl
theorem i_wk_elder {T : Int32 → Prop} : gI scr (mk f g j c) 55 7 5 T = T (f 55 5) := gI_mk L_wk rfl
theorem p_wk_elder {v : Int32} {T : aH → Prop} : pF (mk f g j c) 55 7 5 (.int v) T = T (mk (up2 f 55 5 v) g j c) := pF_mk L_wk rfl
theorem r_wk_followed {T : Nat → Prop} : gR scr (mk f g j c) 55 7 6 T = T 58 := gR_mk L_wk rfl (by decide)
theorem i_wk_went {T : Int32 → Prop} : gI scr (mk f g j c) 55 7 7 T = T (f 55 7) := gI_mk L_wk rfl
theorem p_wk_went {v : Int32} {T : aH → Prop} : pF (mk f g j c) 55 7 7 (.int v) T = T (mk (up2 f 55 7 v) g j c) := pF_mk L_wk rfl
theorem A_wk_stack : LAY[56]? = some (.inl 2) := by rfl
theorem a_wk_stack {x : Int32} {T : Int64 → Prop} : aJ (mk f g j c) 56 x T = (inb x (j 56).length = true ∧ T (lgJ (j 56) x)) := aJ_mk A_wk_stack
theorem w_wk_stack {x : Int32} {v : Int64} {T : aH → Prop} : wJ (mk f g j c) 56 x v T = (inb x (j 56).length = true ∧ T (mk f g (up1 j 56 (lsJ (j 56) x v)) c)) := wJ_mk A_wk_stack
theorem A_wk_order : LAY[57]? = some (.inl 1) := by rfl
theorem a_wk_order {x : Int32} {T : Int32 → Prop} : aI scr (mk f g j c) 57 x T = (inb x (g 57).length = true ∧ T (lg (g 57) x)) := aI_mk A_wk_order
theorem w_wk_order {x v : Int32} {T : aH → Prop} : wI (mk f g j c) 57 x v T = (inb x (g 57).length = true ∧ T (mk f (up1 g 57 (ls (g 57) x v)) j c)) := wI_mk A_wk_order
theorem A_wk_followed : LAY[58]? = some (.inl 1) := by rfl
theorem a_wk_followed {x : Int32} {T : Int32 → Prop} : aI scr (mk f g j c) 58 x T = (inb x (g 58).length = true ∧ T (lg (g 58) x)) := aI_mk A_wk_followed
theorem w_wk_followed {x v : Int32} {T : aH → Prop} : wI (mk f g j c) 58 x v T = (inb x (g 58).length = true ∧ T (mk f (up1 g 58 (ls (g 58) x v)) j c)) := wI_mk A_wk_followed
theorem L_pl : LAY[59]? = some (.inr (4, [some 3, some 55, some 50, some 60, some 70, some 80, some 81, some 82])) := by rfl
theorem r_pl_now {T : Nat → Prop} : gR scr (mk f g j c) 59 4 0 T = T 3 := gR_mk L_pl rfl (by decide)
theorem r_pl_walker {T : Nat → Prop} : gR scr (mk f g j c) 59 4 1 T = T 55 := gR_mk L_pl rfl (by decide)
theorem r_pl_ground {T : Nat → Prop} : gR scr (mk f g j c) 59 4 2 T = T 50 := gR_mk L_pl rfl (by decide)
theorem r_pl_trial {T : Nat → Prop} : gR scr (mk f g j c) 59 4 3 T = T 60 := gR_mk L_pl rfl (by decide)
theorem r_pl_usual {T : Nat → Prop} : gR scr (mk f g j c) 59 4 4 T = T 70 := gR_mk L_pl rfl (by decide)
theorem r_pl_firstEight {T : Nat → Prop} : gR scr (mk f g j c) 59 4 5 T = T 80 := gR_mk L_pl rfl (by decide)
theorem r_pl_others {T : Nat → Prop} : gR scr (mk f g j c) 59 4 6 T = T 81 := gR_mk L_pl rfl (by decide)
theorem r_pl_there {T : Nat → Prop} : gR scr (mk f g j c) 59 4 7 T = T 82 := gR_mk L_pl rfl (by decide)
theorem A_pl_firstEight : LAY[80]? = some (.inl 2) := by rfl
theorem a_pl_firstEight {x : Int32} {T : Int64 → Prop} : aJ (mk f g j c) 80 x T = (inb x (j 80).length = true ∧ T (lgJ (j 80) x)) := aJ_mk A_pl_firstEight
theorem w_pl_firstEight {x : Int32} {v : Int64} {T : aH → Prop} : wJ (mk f g j c) 80 x v T = (inb x (j 80).length = true ∧ T (mk f g (up1 j 80 (lsJ (j 80) x v)) c)) := wJ_mk A_pl_firstEight
theorem A_pl_others : LAY[81]? = some (.inl 2) := by rfl
theorem a_pl_others {x : Int32} {T : Int64 → Prop} : aJ (mk f g j c) 81 x T = (inb x (j 81).length = true ∧ T (lgJ (j 81) x)) := aJ_mk A_pl_others
theorem w_pl_others {x : Int32} {v : Int64} {T : aH → Prop} : wJ (mk f g j c) 81 x v T = (inb x (j 81).length = true ∧ T (mk f g (up1 j 81 (lsJ (j 81) x v)) c)) := wJ_mk A_pl_others
theorem A_pl_there : LAY[82]? = some (.inl 1) := by rfl
theorem a_pl_there {x : Int32} {T : Int32 → Prop} : aI scr (mk f g j c) 82 x T = (inb x (g 82).length = true ∧ T (lg (g 82) x)) := aI_mk A_pl_there
theorem w_pl_there {x v : Int32} {T : aH → Prop} : wI (mk f g j c) 82 x v T = (inb x (g 82).length = true ∧ T (mk f (up1 g 82 (ls (g 82) x v)) j c)) := wI_mk A_pl_there
theorem L_mo : LAY[125]? = some (.inr (9, [none, some 126, some 127, some 128, some 129, some 130, some 131, some 132, some 133, some 134, some 135, some 136, some 137, some 138, some 139, some 140, some 141, some 142, none, none, none, none, none, none, none, none, none, none, none, some 143, some 144, some 145, some 146, some 147, some 148, some 149, some 150, some 151, some 152, some 153, none, some 154, some 155, some 156, some 157, some 158, some 159, some 160, some 161, some 162, some 163, some 164, some 165, some 166, none, none])) := by rfl
theorem i_mo_thrown {T : Int32 → Prop} : gI scr (mk f g j c) 125 9 0 T = T (f 125 0) := gI_mk L_mo rfl
theorem p_mo_thrown {v : Int32} {T : aH → Prop} : pF (mk f g j c) 125 9 0 (.int v) T = T (mk (up2 f 125 0 v) g j c) := pF_mk L_mo rfl
theorem r_mo_scalar {T : Nat → Prop} : gR scr (mk f g j c) 125 9 1 T = T 126 := gR_mk L_mo rfl (by decide)
theorem r_mo_kind {T : Nat → Prop} : gR scr (mk f g j c) 125 9 2 T = T 127 := gR_mk L_mo rfl (by decide)
theorem r_mo_age {T : Nat → Prop} : gR scr (mk f g j c) 125 9 3 T = T 128 := gR_mk L_mo rfl (by decide)
theorem r_mo_sortOf {T : Nat → Prop} : gR scr (mk f g j c) 125 9 4 T = T 129 := gR_mk L_mo rfl (by decide)
theorem r_mo_newScalar {T : Nat → Prop} : gR scr (mk f g j c) 125 9 5 T = T 130 := gR_mk L_mo rfl (by decide)
theorem r_mo_newKind {T : Nat → Prop} : gR scr (mk f g j c) 125 9 6 T = T 131 := gR_mk L_mo rfl (by decide)
theorem r_mo_newAge {T : Nat → Prop} : gR scr (mk f g j c) 125 9 7 T = T 132 := gR_mk L_mo rfl (by decide)
theorem r_mo_newSort {T : Nat → Prop} : gR scr (mk f g j c) 125 9 8 T = T 133 := gR_mk L_mo rfl (by decide)
theorem r_mo_newPlace {T : Nat → Prop} : gR scr (mk f g j c) 125 9 9 T = T 134 := gR_mk L_mo rfl (by decide)
theorem r_mo_place {T : Nat → Prop} : gR scr (mk f g j c) 125 9 10 T = T 135 := gR_mk L_mo rfl (by decide)
theorem r_mo_outAt {T : Nat → Prop} : gR scr (mk f g j c) 125 9 11 T = T 136 := gR_mk L_mo rfl (by decide)
theorem r_mo_spoorStep {T : Nat → Prop} : gR scr (mk f g j c) 125 9 12 T = T 137 := gR_mk L_mo rfl (by decide)
theorem r_mo_spoorWho {T : Nat → Prop} : gR scr (mk f g j c) 125 9 13 T = T 138 := gR_mk L_mo rfl (by decide)
theorem r_mo_spoorOther {T : Nat → Prop} : gR scr (mk f g j c) 125 9 14 T = T 139 := gR_mk L_mo rfl (by decide)
theorem r_mo_gateFar {T : Nat → Prop} : gR scr (mk f g j c) 125 9 15 T = T 140 := gR_mk L_mo rfl (by decide)
theorem r_mo_row {T : Nat → Prop} : gR scr (mk f g j c) 125 9 16 T = T 141 := gR_mk L_mo rfl (by decide)
theorem r_mo_seen {T : Nat → Prop} : gR scr (mk f g j c) 125 9 17 T = T 142 := gR_mk L_mo rfl (by decide)
theorem i_mo_manySeen {T : Int32 → Prop} : gI scr (mk f g j c) 125 9 18 T = T (f 125 18) := gI_mk L_mo rfl
theorem p_mo_manySeen {v : Int32} {T : aH → Prop} : pF (mk f g j c) 125 9 18 (.int v) T = T (mk (up2 f 125 18 v) g j c) := pF_mk L_mo rfl
theorem i_mo_taped {T : Int32 → Prop} : gI scr (mk f g j c) 125 9 19 T = T (f 125 19) := gI_mk L_mo rfl
theorem p_mo_taped {v : Int32} {T : aH → Prop} : pF (mk f g j c) 125 9 19 (.int v) T = T (mk (up2 f 125 19 v) g j c) := pF_mk L_mo rfl
theorem i_mo_p {T : Int32 → Prop} : gI scr (mk f g j c) 125 9 20 T = T (f 125 20) := gI_mk L_mo rfl
theorem p_mo_p {v : Int32} {T : aH → Prop} : pF (mk f g j c) 125 9 20 (.int v) T = T (mk (up2 f 125 20 v) g j c) := pF_mk L_mo rfl
theorem i_mo_fault {T : Int32 → Prop} : gI scr (mk f g j c) 125 9 21 T = T (f 125 21) := gI_mk L_mo rfl
theorem p_mo_fault {v : Int32} {T : aH → Prop} : pF (mk f g j c) 125 9 21 (.int v) T = T (mk (up2 f 125 21 v) g j c) := pF_mk L_mo rfl
theorem i_mo_slot {T : Int32 → Prop} : gI scr (mk f g j c) 125 9 22 T = T (f 125 22) := gI_mk L_mo rfl
theorem p_mo_slot {v : Int32} {T : aH → Prop} : pF (mk f g j c) 125 9 22 (.int v) T = T (mk (up2 f 125 22 v) g j c) := pF_mk L_mo rfl
theorem i_mo_laws {T : Int32 → Prop} : gI scr (mk f g j c) 125 9 23 T = T (f 125 23) := gI_mk L_mo rfl
theorem p_mo_laws {v : Int32} {T : aH → Prop} : pF (mk f g j c) 125 9 23 (.int v) T = T (mk (up2 f 125 23 v) g j c) := pF_mk L_mo rfl
theorem i_mo_entries {T : Int32 → Prop} : gI scr (mk f g j c) 125 9 24 T = T (f 125 24) := gI_mk L_mo rfl
theorem p_mo_entries {v : Int32} {T : aH → Prop} : pF (mk f g j c) 125 9 24 (.int v) T = T (mk (up2 f 125 24 v) g j c) := pF_mk L_mo rfl
theorem i_mo_deep {T : Int32 → Prop} : gI scr (mk f g j c) 125 9 25 T = T (f 125 25) := gI_mk L_mo rfl
theorem p_mo_deep {v : Int32} {T : aH → Prop} : pF (mk f g j c) 125 9 25 (.int v) T = T (mk (up2 f 125 25 v) g j c) := pF_mk L_mo rfl
theorem i_mo_counted {T : Int32 → Prop} : gI scr (mk f g j c) 125 9 26 T = T (f 125 26) := gI_mk L_mo rfl
theorem p_mo_counted {v : Int32} {T : aH → Prop} : pF (mk f g j c) 125 9 26 (.int v) T = T (mk (up2 f 125 26 v) g j c) := pF_mk L_mo rfl
theorem i_mo_opened {T : Int32 → Prop} : gI scr (mk f g j c) 125 9 27 T = T (f 125 27) := gI_mk L_mo rfl
theorem p_mo_opened {v : Int32} {T : aH → Prop} : pF (mk f g j c) 125 9 27 (.int v) T = T (mk (up2 f 125 27 v) g j c) := pF_mk L_mo rfl
theorem i_mo_words {T : Int32 → Prop} : gI scr (mk f g j c) 125 9 28 T = T (f 125 28) := gI_mk L_mo rfl
theorem p_mo_words {v : Int32} {T : aH → Prop} : pF (mk f g j c) 125 9 28 (.int v) T = T (mk (up2 f 125 28 v) g j c) := pF_mk L_mo rfl
theorem r_mo_tape {T : Nat → Prop} : gR scr (mk f g j c) 125 9 29 T = T 143 := gR_mk L_mo rfl (by decide)
theorem r_mo_sort {T : Nat → Prop} : gR scr (mk f g j c) 125 9 30 T = T 144 := gR_mk L_mo rfl (by decide)
theorem r_mo_number {T : Nat → Prop} : gR scr (mk f g j c) 125 9 31 T = T 145 := gR_mk L_mo rfl (by decide)
theorem r_mo_clauses {T : Nat → Prop} : gR scr (mk f g j c) 125 9 32 T = T 146 := gR_mk L_mo rfl (by decide)
theorem r_mo_followed {T : Nat → Prop} : gR scr (mk f g j c) 125 9 33 T = T 147 := gR_mk L_mo rfl (by decide)
theorem r_mo_testAt {T : Nat → Prop} : gR scr (mk f g j c) 125 9 34 T = T 148 := gR_mk L_mo rfl (by decide)
theorem r_mo_endAt {T : Nat → Prop} : gR scr (mk f g j c) 125 9 35 T = T 149 := gR_mk L_mo rfl (by decide)
theorem r_mo_open {T : Nat → Prop} : gR scr (mk f g j c) 125 9 36 T = T 150 := gR_mk L_mo rfl (by decide)
theorem r_mo_asked {T : Nat → Prop} : gR scr (mk f g j c) 125 9 37 T = T 151 := gR_mk L_mo rfl (by decide)
theorem r_mo_stack {T : Nat → Prop} : gR scr (mk f g j c) 125 9 38 T = T 152 := gR_mk L_mo rfl (by decide)
theorem r_mo_lastFollowed {T : Nat → Prop} : gR scr (mk f g j c) 125 9 39 T = T 153 := gR_mk L_mo rfl (by decide)
theorem i_mo_went {T : Int32 → Prop} : gI scr (mk f g j c) 125 9 40 T = T (f 125 40) := gI_mk L_mo rfl
theorem p_mo_went {v : Int32} {T : aH → Prop} : pF (mk f g j c) 125 9 40 (.int v) T = T (mk (up2 f 125 40 v) g j c) := pF_mk L_mo rfl
theorem r_mo_keptScalar {T : Nat → Prop} : gR scr (mk f g j c) 125 9 41 T = T 154 := gR_mk L_mo rfl (by decide)
theorem r_mo_keptPlace {T : Nat → Prop} : gR scr (mk f g j c) 125 9 42 T = T 155 := gR_mk L_mo rfl (by decide)
theorem r_mo_keptOut {T : Nat → Prop} : gR scr (mk f g j c) 125 9 43 T = T 156 := gR_mk L_mo rfl (by decide)
theorem r_mo_stood0 {T : Nat → Prop} : gR scr (mk f g j c) 125 9 44 T = T 157 := gR_mk L_mo rfl (by decide)
theorem r_mo_target {T : Nat → Prop} : gR scr (mk f g j c) 125 9 45 T = T 158 := gR_mk L_mo rfl (by decide)
theorem r_mo_withHim {T : Nat → Prop} : gR scr (mk f g j c) 125 9 46 T = T 159 := gR_mk L_mo rfl (by decide)
theorem r_mo_keptLead {T : Nat → Prop} : gR scr (mk f g j c) 125 9 47 T = T 160 := gR_mk L_mo rfl (by decide)
theorem r_mo_leadPlace {T : Nat → Prop} : gR scr (mk f g j c) 125 9 48 T = T 161 := gR_mk L_mo rfl (by decide)
theorem r_mo_leadOut {T : Nat → Prop} : gR scr (mk f g j c) 125 9 49 T = T 162 := gR_mk L_mo rfl (by decide)
theorem r_mo_there {T : Nat → Prop} : gR scr (mk f g j c) 125 9 50 T = T 163 := gR_mk L_mo rfl (by decide)
theorem r_mo_goal {T : Nat → Prop} : gR scr (mk f g j c) 125 9 51 T = T 164 := gR_mk L_mo rfl (by decide)
theorem r_mo_images {T : Nat → Prop} : gR scr (mk f g j c) 125 9 52 T = T 165 := gR_mk L_mo rfl (by decide)
theorem r_mo_isMade {T : Nat → Prop} : gR scr (mk f g j c) 125 9 53 T = T 166 := gR_mk L_mo rfl (by decide)
theorem i_mo_imageAt {T : Int32 → Prop} : gI scr (mk f g j c) 125 9 54 T = T (f 125 54) := gI_mk L_mo rfl
theorem p_mo_imageAt {v : Int32} {T : aH → Prop} : pF (mk f g j c) 125 9 54 (.int v) T = T (mk (up2 f 125 54 v) g j c) := pF_mk L_mo rfl
theorem i_mo_comesBack {T : Int32 → Prop} : gI scr (mk f g j c) 125 9 55 T = T (f 125 55) := gI_mk L_mo rfl
theorem p_mo_comesBack {v : Int32} {T : aH → Prop} : pF (mk f g j c) 125 9 55 (.int v) T = T (mk (up2 f 125 55 v) g j c) := pF_mk L_mo rfl
theorem A_mo_scalar : LAY[126]? = some (.inl 1) := by rfl
theorem a_mo_scalar {x : Int32} {T : Int32 → Prop} : aI scr (mk f g j c) 126 x T = (inb x (g 126).length = true ∧ T (lg (g 126) x)) := aI_mk A_mo_scalar
theorem w_mo_scalar {x v : Int32} {T : aH → Prop} : wI (mk f g j c) 126 x v T = (inb x (g 126).length = true ∧ T (mk f (up1 g 126 (ls (g 126) x v)) j c)) := wI_mk A_mo_scalar
theorem A_mo_kind : LAY[127]? = some (.inl 1) := by rfl
theorem a_mo_kind {x : Int32} {T : Int32 → Prop} : aI scr (mk f g j c) 127 x T = (inb x (g 127).length = true ∧ T (lg (g 127) x)) := aI_mk A_mo_kind
theorem w_mo_kind {x v : Int32} {T : aH → Prop} : wI (mk f g j c) 127 x v T = (inb x (g 127).length = true ∧ T (mk f (up1 g 127 (ls (g 127) x v)) j c)) := wI_mk A_mo_kind
theorem A_mo_age : LAY[128]? = some (.inl 1) := by rfl
theorem a_mo_age {x : Int32} {T : Int32 → Prop} : aI scr (mk f g j c) 128 x T = (inb x (g 128).length = true ∧ T (lg (g 128) x)) := aI_mk A_mo_age
theorem w_mo_age {x v : Int32} {T : aH → Prop} : wI (mk f g j c) 128 x v T = (inb x (g 128).length = true ∧ T (mk f (up1 g 128 (ls (g 128) x v)) j c)) := wI_mk A_mo_age
theorem A_mo_sortOf : LAY[129]? = some (.inl 1) := by rfl
theorem a_mo_sortOf {x : Int32} {T : Int32 → Prop} : aI scr (mk f g j c) 129 x T = (inb x (g 129).length = true ∧ T (lg (g 129) x)) := aI_mk A_mo_sortOf
theorem w_mo_sortOf {x v : Int32} {T : aH → Prop} : wI (mk f g j c) 129 x v T = (inb x (g 129).length = true ∧ T (mk f (up1 g 129 (ls (g 129) x v)) j c)) := wI_mk A_mo_sortOf
theorem A_mo_newScalar : LAY[130]? = some (.inl 1) := by rfl
theorem a_mo_newScalar {x : Int32} {T : Int32 → Prop} : aI scr (mk f g j c) 130 x T = (inb x (g 130).length = true ∧ T (lg (g 130) x)) := aI_mk A_mo_newScalar
theorem w_mo_newScalar {x v : Int32} {T : aH → Prop} : wI (mk f g j c) 130 x v T = (inb x (g 130).length = true ∧ T (mk f (up1 g 130 (ls (g 130) x v)) j c)) := wI_mk A_mo_newScalar
theorem A_mo_newKind : LAY[131]? = some (.inl 1) := by rfl
theorem a_mo_newKind {x : Int32} {T : Int32 → Prop} : aI scr (mk f g j c) 131 x T = (inb x (g 131).length = true ∧ T (lg (g 131) x)) := aI_mk A_mo_newKind
theorem w_mo_newKind {x v : Int32} {T : aH → Prop} : wI (mk f g j c) 131 x v T = (inb x (g 131).length = true ∧ T (mk f (up1 g 131 (ls (g 131) x v)) j c)) := wI_mk A_mo_newKind
theorem A_mo_newAge : LAY[132]? = some (.inl 1) := by rfl
theorem a_mo_newAge {x : Int32} {T : Int32 → Prop} : aI scr (mk f g j c) 132 x T = (inb x (g 132).length = true ∧ T (lg (g 132) x)) := aI_mk A_mo_newAge
theorem w_mo_newAge {x v : Int32} {T : aH → Prop} : wI (mk f g j c) 132 x v T = (inb x (g 132).length = true ∧ T (mk f (up1 g 132 (ls (g 132) x v)) j c)) := wI_mk A_mo_newAge
theorem A_mo_newSort : LAY[133]? = some (.inl 1) := by rfl
theorem a_mo_newSort {x : Int32} {T : Int32 → Prop} : aI scr (mk f g j c) 133 x T = (inb x (g 133).length = true ∧ T (lg (g 133) x)) := aI_mk A_mo_newSort
theorem w_mo_newSort {x v : Int32} {T : aH → Prop} : wI (mk f g j c) 133 x v T = (inb x (g 133).length = true ∧ T (mk f (up1 g 133 (ls (g 133) x v)) j c)) := wI_mk A_mo_newSort
theorem A_mo_newPlace : LAY[134]? = some (.inl 1) := by rfl
theorem a_mo_newPlace {x : Int32} {T : Int32 → Prop} : aI scr (mk f g j c) 134 x T = (inb x (g 134).length = true ∧ T (lg (g 134) x)) := aI_mk A_mo_newPlace
theorem w_mo_newPlace {x v : Int32} {T : aH → Prop} : wI (mk f g j c) 134 x v T = (inb x (g 134).length = true ∧ T (mk f (up1 g 134 (ls (g 134) x v)) j c)) := wI_mk A_mo_newPlace
theorem A_mo_place : LAY[135]? = some (.inl 1) := by rfl
theorem a_mo_place {x : Int32} {T : Int32 → Prop} : aI scr (mk f g j c) 135 x T = (inb x (g 135).length = true ∧ T (lg (g 135) x)) := aI_mk A_mo_place
theorem w_mo_place {x v : Int32} {T : aH → Prop} : wI (mk f g j c) 135 x v T = (inb x (g 135).length = true ∧ T (mk f (up1 g 135 (ls (g 135) x v)) j c)) := wI_mk A_mo_place
theorem A_mo_outAt : LAY[136]? = some (.inl 1) := by rfl
theorem a_mo_outAt {x : Int32} {T : Int32 → Prop} : aI scr (mk f g j c) 136 x T = (inb x (g 136).length = true ∧ T (lg (g 136) x)) := aI_mk A_mo_outAt
theorem w_mo_outAt {x v : Int32} {T : aH → Prop} : wI (mk f g j c) 136 x v T = (inb x (g 136).length = true ∧ T (mk f (up1 g 136 (ls (g 136) x v)) j c)) := wI_mk A_mo_outAt
theorem A_mo_spoorStep : LAY[137]? = some (.inl 1) := by rfl
theorem a_mo_spoorStep {x : Int32} {T : Int32 → Prop} : aI scr (mk f g j c) 137 x T = (inb x (g 137).length = true ∧ T (lg (g 137) x)) := aI_mk A_mo_spoorStep
theorem w_mo_spoorStep {x v : Int32} {T : aH → Prop} : wI (mk f g j c) 137 x v T = (inb x (g 137).length = true ∧ T (mk f (up1 g 137 (ls (g 137) x v)) j c)) := wI_mk A_mo_spoorStep
theorem A_mo_spoorWho : LAY[138]? = some (.inl 1) := by rfl
theorem a_mo_spoorWho {x : Int32} {T : Int32 → Prop} : aI scr (mk f g j c) 138 x T = (inb x (g 138).length = true ∧ T (lg (g 138) x)) := aI_mk A_mo_spoorWho
theorem w_mo_spoorWho {x v : Int32} {T : aH → Prop} : wI (mk f g j c) 138 x v T = (inb x (g 138).length = true ∧ T (mk f (up1 g 138 (ls (g 138) x v)) j c)) := wI_mk A_mo_spoorWho
theorem A_mo_spoorOther : LAY[139]? = some (.inl 1) := by rfl
theorem a_mo_spoorOther {x : Int32} {T : Int32 → Prop} : aI scr (mk f g j c) 139 x T = (inb x (g 139).length = true ∧ T (lg (g 139) x)) := aI_mk A_mo_spoorOther
theorem w_mo_spoorOther {x v : Int32} {T : aH → Prop} : wI (mk f g j c) 139 x v T = (inb x (g 139).length = true ∧ T (mk f (up1 g 139 (ls (g 139) x v)) j c)) := wI_mk A_mo_spoorOther
theorem A_mo_gateFar : LAY[140]? = some (.inl 1) := by rfl
theorem a_mo_gateFar {x : Int32} {T : Int32 → Prop} : aI scr (mk f g j c) 140 x T = (inb x (g 140).length = true ∧ T (lg (g 140) x)) := aI_mk A_mo_gateFar
theorem w_mo_gateFar {x v : Int32} {T : aH → Prop} : wI (mk f g j c) 140 x v T = (inb x (g 140).length = true ∧ T (mk f (up1 g 140 (ls (g 140) x v)) j c)) := wI_mk A_mo_gateFar
theorem A_mo_row : LAY[141]? = some (.inl 1) := by rfl
theorem a_mo_row {x : Int32} {T : Int32 → Prop} : aI scr (mk f g j c) 141 x T = (inb x (g 141).length = true ∧ T (lg (g 141) x)) := aI_mk A_mo_row
theorem w_mo_row {x v : Int32} {T : aH → Prop} : wI (mk f g j c) 141 x v T = (inb x (g 141).length = true ∧ T (mk f (up1 g 141 (ls (g 141) x v)) j c)) := wI_mk A_mo_row
theorem A_mo_seen : LAY[142]? = some (.inl 1) := by rfl
theorem a_mo_seen {x : Int32} {T : Int32 → Prop} : aI scr (mk f g j c) 142 x T = (inb x (g 142).length = true ∧ T (lg (g 142) x)) := aI_mk A_mo_seen
theorem w_mo_seen {x v : Int32} {T : aH → Prop} : wI (mk f g j c) 142 x v T = (inb x (g 142).length = true ∧ T (mk f (up1 g 142 (ls (g 142) x v)) j c)) := wI_mk A_mo_seen
theorem A_mo_tape : LAY[143]? = some (.inl 0) := by rfl
theorem a_mo_tape {x : Int32} {T : Int32 → Prop} : aB scr (mk f g j c) 143 x T = (inb x (g 143).length = true ∧ T (lg (g 143) x)) := aB_mk (by decide) A_mo_tape
theorem w_mo_tape {x v : Int32} {T : aH → Prop} : wB (mk f g j c) 143 x v T = (inb x (g 143).length = true ∧ T (mk f (up1 g 143 (ls (g 143) x v.toInt8.toInt32)) j c)) := wB_mk A_mo_tape
theorem A_mo_sort : LAY[144]? = some (.inl 1) := by rfl
theorem a_mo_sort {x : Int32} {T : Int32 → Prop} : aI scr (mk f g j c) 144 x T = (inb x (g 144).length = true ∧ T (lg (g 144) x)) := aI_mk A_mo_sort
theorem w_mo_sort {x v : Int32} {T : aH → Prop} : wI (mk f g j c) 144 x v T = (inb x (g 144).length = true ∧ T (mk f (up1 g 144 (ls (g 144) x v)) j c)) := wI_mk A_mo_sort
theorem A_mo_number : LAY[145]? = some (.inl 1) := by rfl
theorem a_mo_number {x : Int32} {T : Int32 → Prop} : aI scr (mk f g j c) 145 x T = (inb x (g 145).length = true ∧ T (lg (g 145) x)) := aI_mk A_mo_number
theorem w_mo_number {x v : Int32} {T : aH → Prop} : wI (mk f g j c) 145 x v T = (inb x (g 145).length = true ∧ T (mk f (up1 g 145 (ls (g 145) x v)) j c)) := wI_mk A_mo_number
theorem A_mo_clauses : LAY[146]? = some (.inl 1) := by rfl
theorem a_mo_clauses {x : Int32} {T : Int32 → Prop} : aI scr (mk f g j c) 146 x T = (inb x (g 146).length = true ∧ T (lg (g 146) x)) := aI_mk A_mo_clauses
theorem w_mo_clauses {x v : Int32} {T : aH → Prop} : wI (mk f g j c) 146 x v T = (inb x (g 146).length = true ∧ T (mk f (up1 g 146 (ls (g 146) x v)) j c)) := wI_mk A_mo_clauses
theorem A_mo_followed : LAY[147]? = some (.inl 1) := by rfl
theorem a_mo_followed {x : Int32} {T : Int32 → Prop} : aI scr (mk f g j c) 147 x T = (inb x (g 147).length = true ∧ T (lg (g 147) x)) := aI_mk A_mo_followed
theorem w_mo_followed {x v : Int32} {T : aH → Prop} : wI (mk f g j c) 147 x v T = (inb x (g 147).length = true ∧ T (mk f (up1 g 147 (ls (g 147) x v)) j c)) := wI_mk A_mo_followed
theorem A_mo_testAt : LAY[148]? = some (.inl 1) := by rfl
theorem a_mo_testAt {x : Int32} {T : Int32 → Prop} : aI scr (mk f g j c) 148 x T = (inb x (g 148).length = true ∧ T (lg (g 148) x)) := aI_mk A_mo_testAt
theorem w_mo_testAt {x v : Int32} {T : aH → Prop} : wI (mk f g j c) 148 x v T = (inb x (g 148).length = true ∧ T (mk f (up1 g 148 (ls (g 148) x v)) j c)) := wI_mk A_mo_testAt
theorem A_mo_endAt : LAY[149]? = some (.inl 1) := by rfl
theorem a_mo_endAt {x : Int32} {T : Int32 → Prop} : aI scr (mk f g j c) 149 x T = (inb x (g 149).length = true ∧ T (lg (g 149) x)) := aI_mk A_mo_endAt
theorem w_mo_endAt {x v : Int32} {T : aH → Prop} : wI (mk f g j c) 149 x v T = (inb x (g 149).length = true ∧ T (mk f (up1 g 149 (ls (g 149) x v)) j c)) := wI_mk A_mo_endAt
theorem A_mo_open : LAY[150]? = some (.inl 1) := by rfl
theorem a_mo_open {x : Int32} {T : Int32 → Prop} : aI scr (mk f g j c) 150 x T = (inb x (g 150).length = true ∧ T (lg (g 150) x)) := aI_mk A_mo_open
theorem w_mo_open {x v : Int32} {T : aH → Prop} : wI (mk f g j c) 150 x v T = (inb x (g 150).length = true ∧ T (mk f (up1 g 150 (ls (g 150) x v)) j c)) := wI_mk A_mo_open
theorem A_mo_asked : LAY[151]? = some (.inl 2) := by rfl
theorem a_mo_asked {x : Int32} {T : Int64 → Prop} : aJ (mk f g j c) 151 x T = (inb x (j 151).length = true ∧ T (lgJ (j 151) x)) := aJ_mk A_mo_asked
theorem w_mo_asked {x : Int32} {v : Int64} {T : aH → Prop} : wJ (mk f g j c) 151 x v T = (inb x (j 151).length = true ∧ T (mk f g (up1 j 151 (lsJ (j 151) x v)) c)) := wJ_mk A_mo_asked
theorem A_mo_stack : LAY[152]? = some (.inl 2) := by rfl
theorem a_mo_stack {x : Int32} {T : Int64 → Prop} : aJ (mk f g j c) 152 x T = (inb x (j 152).length = true ∧ T (lgJ (j 152) x)) := aJ_mk A_mo_stack
theorem w_mo_stack {x : Int32} {v : Int64} {T : aH → Prop} : wJ (mk f g j c) 152 x v T = (inb x (j 152).length = true ∧ T (mk f g (up1 j 152 (lsJ (j 152) x v)) c)) := wJ_mk A_mo_stack
theorem A_mo_lastFollowed : LAY[153]? = some (.inl 1) := by rfl
theorem a_mo_lastFollowed {x : Int32} {T : Int32 → Prop} : aI scr (mk f g j c) 153 x T = (inb x (g 153).length = true ∧ T (lg (g 153) x)) := aI_mk A_mo_lastFollowed
theorem w_mo_lastFollowed {x v : Int32} {T : aH → Prop} : wI (mk f g j c) 153 x v T = (inb x (g 153).length = true ∧ T (mk f (up1 g 153 (ls (g 153) x v)) j c)) := wI_mk A_mo_lastFollowed
theorem A_mo_keptScalar : LAY[154]? = some (.inl 1) := by rfl
theorem a_mo_keptScalar {x : Int32} {T : Int32 → Prop} : aI scr (mk f g j c) 154 x T = (inb x (g 154).length = true ∧ T (lg (g 154) x)) := aI_mk A_mo_keptScalar
theorem w_mo_keptScalar {x v : Int32} {T : aH → Prop} : wI (mk f g j c) 154 x v T = (inb x (g 154).length = true ∧ T (mk f (up1 g 154 (ls (g 154) x v)) j c)) := wI_mk A_mo_keptScalar
theorem A_mo_keptPlace : LAY[155]? = some (.inl 1) := by rfl
theorem a_mo_keptPlace {x : Int32} {T : Int32 → Prop} : aI scr (mk f g j c) 155 x T = (inb x (g 155).length = true ∧ T (lg (g 155) x)) := aI_mk A_mo_keptPlace
theorem w_mo_keptPlace {x v : Int32} {T : aH → Prop} : wI (mk f g j c) 155 x v T = (inb x (g 155).length = true ∧ T (mk f (up1 g 155 (ls (g 155) x v)) j c)) := wI_mk A_mo_keptPlace
theorem A_mo_keptOut : LAY[156]? = some (.inl 1) := by rfl
theorem a_mo_keptOut {x : Int32} {T : Int32 → Prop} : aI scr (mk f g j c) 156 x T = (inb x (g 156).length = true ∧ T (lg (g 156) x)) := aI_mk A_mo_keptOut
theorem w_mo_keptOut {x v : Int32} {T : aH → Prop} : wI (mk f g j c) 156 x v T = (inb x (g 156).length = true ∧ T (mk f (up1 g 156 (ls (g 156) x v)) j c)) := wI_mk A_mo_keptOut
theorem A_mo_stood0 : LAY[157]? = some (.inl 1) := by rfl
theorem a_mo_stood0 {x : Int32} {T : Int32 → Prop} : aI scr (mk f g j c) 157 x T = (inb x (g 157).length = true ∧ T (lg (g 157) x)) := aI_mk A_mo_stood0
theorem w_mo_stood0 {x v : Int32} {T : aH → Prop} : wI (mk f g j c) 157 x v T = (inb x (g 157).length = true ∧ T (mk f (up1 g 157 (ls (g 157) x v)) j c)) := wI_mk A_mo_stood0
theorem A_mo_target : LAY[158]? = some (.inl 1) := by rfl
theorem a_mo_target {x : Int32} {T : Int32 → Prop} : aI scr (mk f g j c) 158 x T = (inb x (g 158).length = true ∧ T (lg (g 158) x)) := aI_mk A_mo_target
theorem w_mo_target {x v : Int32} {T : aH → Prop} : wI (mk f g j c) 158 x v T = (inb x (g 158).length = true ∧ T (mk f (up1 g 158 (ls (g 158) x v)) j c)) := wI_mk A_mo_target
theorem A_mo_withHim : LAY[159]? = some (.inl 1) := by rfl
theorem a_mo_withHim {x : Int32} {T : Int32 → Prop} : aI scr (mk f g j c) 159 x T = (inb x (g 159).length = true ∧ T (lg (g 159) x)) := aI_mk A_mo_withHim
theorem w_mo_withHim {x v : Int32} {T : aH → Prop} : wI (mk f g j c) 159 x v T = (inb x (g 159).length = true ∧ T (mk f (up1 g 159 (ls (g 159) x v)) j c)) := wI_mk A_mo_withHim
theorem A_mo_keptLead : LAY[160]? = some (.inl 1) := by rfl
theorem a_mo_keptLead {x : Int32} {T : Int32 → Prop} : aI scr (mk f g j c) 160 x T = (inb x (g 160).length = true ∧ T (lg (g 160) x)) := aI_mk A_mo_keptLead
theorem w_mo_keptLead {x v : Int32} {T : aH → Prop} : wI (mk f g j c) 160 x v T = (inb x (g 160).length = true ∧ T (mk f (up1 g 160 (ls (g 160) x v)) j c)) := wI_mk A_mo_keptLead
theorem A_mo_leadPlace : LAY[161]? = some (.inl 1) := by rfl
theorem a_mo_leadPlace {x : Int32} {T : Int32 → Prop} : aI scr (mk f g j c) 161 x T = (inb x (g 161).length = true ∧ T (lg (g 161) x)) := aI_mk A_mo_leadPlace
theorem w_mo_leadPlace {x v : Int32} {T : aH → Prop} : wI (mk f g j c) 161 x v T = (inb x (g 161).length = true ∧ T (mk f (up1 g 161 (ls (g 161) x v)) j c)) := wI_mk A_mo_leadPlace
theorem A_mo_leadOut : LAY[162]? = some (.inl 1) := by rfl
theorem a_mo_leadOut {x : Int32} {T : Int32 → Prop} : aI scr (mk f g j c) 162 x T = (inb x (g 162).length = true ∧ T (lg (g 162) x)) := aI_mk A_mo_leadOut
theorem w_mo_leadOut {x v : Int32} {T : aH → Prop} : wI (mk f g j c) 162 x v T = (inb x (g 162).length = true ∧ T (mk f (up1 g 162 (ls (g 162) x v)) j c)) := wI_mk A_mo_leadOut
theorem A_mo_there : LAY[163]? = some (.inl 1) := by rfl
theorem a_mo_there {x : Int32} {T : Int32 → Prop} : aI scr (mk f g j c) 163 x T = (inb x (g 163).length = true ∧ T (lg (g 163) x)) := aI_mk A_mo_there
theorem w_mo_there {x v : Int32} {T : aH → Prop} : wI (mk f g j c) 163 x v T = (inb x (g 163).length = true ∧ T (mk f (up1 g 163 (ls (g 163) x v)) j c)) := wI_mk A_mo_there
theorem A_mo_goal : LAY[164]? = some (.inl 1) := by rfl
theorem a_mo_goal {x : Int32} {T : Int32 → Prop} : aI scr (mk f g j c) 164 x T = (inb x (g 164).length = true ∧ T (lg (g 164) x)) := aI_mk A_mo_goal
theorem w_mo_goal {x v : Int32} {T : aH → Prop} : wI (mk f g j c) 164 x v T = (inb x (g 164).length = true ∧ T (mk f (up1 g 164 (ls (g 164) x v)) j c)) := wI_mk A_mo_goal
theorem A_mo_images : LAY[165]? = some (.inl 1) := by rfl
theorem a_mo_images {x : Int32} {T : Int32 → Prop} : aI scr (mk f g j c) 165 x T = (inb x (g 165).length = true ∧ T (lg (g 165) x)) := aI_mk A_mo_images
theorem w_mo_images {x v : Int32} {T : aH → Prop} : wI (mk f g j c) 165 x v T = (inb x (g 165).length = true ∧ T (mk f (up1 g 165 (ls (g 165) x v)) j c)) := wI_mk A_mo_images
theorem A_mo_isMade : LAY[166]? = some (.inl 3) := by rfl
theorem a_mo_isMade {x : Int32} {T : Int32 → Prop} : aB scr (mk f g j c) 166 x T = (inb x (g 166).length = true ∧ T (lg (g 166) x)) := aB_mk (by decide) A_mo_isMade
theorem w_mo_isMade {x v : Int32} {T : aH → Prop} : wB (mk f g j c) 166 x v T = (inb x (g 166).length = true ∧ T (mk f (up1 g 166 (ls (g 166) x (v &&& 1))) j c)) := wZ_mk A_mo_isMade
theorem v1_ok {As : List Value} : vOk scr (mk f g j c) (.ref 50 :: As) 1 = true := vOk_mk L_gr (by decide +kernel)
theorem v2_ok {As : List Value} : vOk scr (mk f g j c) (.ref 50 :: As) 2 = true := vOk_mk L_gr (by decide +kernel)
theorem v4_ok {p : Nat} (hp : isLw p) {As : List Value} : vOk scr (mk f g j c) (.ref p :: As) 4 = true := vOk_mk (L_lw hp) (by decide +kernel)
theorem v5_ok {p : Nat} (hp : isLw p) {As : List Value} : vOk scr (mk f g j c) (.ref p :: As) 5 = true := vOk_mk (L_lw hp) (by decide +kernel)
theorem v6_ok {p : Nat} (hp : isLw p) {As : List Value} : vOk scr (mk f g j c) (.ref p :: As) 6 = true := vOk_mk (L_lw hp) (by decide +kernel)
theorem v8_ok {As : List Value} : vOk scr (mk f g j c) (.ref 24 :: As) 8 = true := vOk_mk L_lr (by decide +kernel)
theorem v9_ok {As : List Value} : vOk scr (mk f g j c) (.ref 24 :: As) 9 = true := vOk_mk L_lr (by decide +kernel)
theorem v10_ok {As : List Value} : vOk scr (mk f g j c) (.ref 24 :: As) 10 = true := vOk_mk L_lr (by decide +kernel)
theorem v11_ok {As : List Value} : vOk scr (mk f g j c) (.ref 24 :: As) 11 = true := vOk_mk L_lr (by decide +kernel)
theorem v12_ok {As : List Value} : vOk scr (mk f g j c) (.ref 24 :: As) 12 = true := vOk_mk L_lr (by decide +kernel)
theorem v13_ok {As : List Value} : vOk scr (mk f g j c) (.ref 24 :: As) 13 = true := vOk_mk L_lr (by decide +kernel)
theorem v14_ok {As : List Value} : vOk scr (mk f g j c) (.ref 24 :: As) 14 = true := vOk_mk L_lr (by decide +kernel)
theorem v16_ok {As : List Value} : vOk scr (mk f g j c) (.ref 24 :: As) 16 = true := vOk_mk L_lr (by decide +kernel)
theorem v17_ok {As : List Value} : vOk scr (mk f g j c) (.ref 24 :: As) 17 = true := vOk_mk L_lr (by decide +kernel)
theorem v19_ok {As : List Value} : vOk scr (mk f g j c) (.ref 23 :: As) 19 = true := vOk_mk L_pr (by decide +kernel)
theorem v20_ok {As : List Value} : vOk scr (mk f g j c) (.ref 23 :: As) 20 = true := vOk_mk L_pr (by decide +kernel)
theorem v21_ok {As : List Value} : vOk scr (mk f g j c) (.ref 23 :: As) 21 = true := vOk_mk L_pr (by decide +kernel)
theorem v22_ok {As : List Value} : vOk scr (mk f g j c) (.ref 23 :: As) 22 = true := vOk_mk L_pr (by decide +kernel)
theorem v23_ok {As : List Value} : vOk scr (mk f g j c) (.ref 23 :: As) 23 = true := vOk_mk L_pr (by decide +kernel)
theorem v24_ok {As : List Value} : vOk scr (mk f g j c) (.ref 23 :: As) 24 = true := vOk_mk L_pr (by decide +kernel)
theorem v27_ok {As : List Value} : vOk scr (mk f g j c) (.ref 59 :: As) 27 = true := vOk_mk L_pl (by decide +kernel)
theorem v28_ok {As : List Value} : vOk scr (mk f g j c) (.ref 59 :: As) 28 = true := vOk_mk L_pl (by decide +kernel)
theorem v29_ok {As : List Value} : vOk scr (mk f g j c) (.ref 59 :: As) 29 = true := vOk_mk L_pl (by decide +kernel)
theorem v30_ok {As : List Value} : vOk scr (mk f g j c) (.ref 59 :: As) 30 = true := vOk_mk L_pl (by decide +kernel)
theorem v31_ok {As : List Value} : vOk scr (mk f g j c) (.ref 59 :: As) 31 = true := vOk_mk L_pl (by decide +kernel)
theorem v32_ok {As : List Value} : vOk scr (mk f g j c) (.ref 59 :: As) 32 = true := vOk_mk L_pl (by decide +kernel)
theorem v33_ok {As : List Value} : vOk scr (mk f g j c) (.ref 59 :: As) 33 = true := vOk_mk L_pl (by decide +kernel)
theorem v34_ok {As : List Value} : vOk scr (mk f g j c) (.ref 59 :: As) 34 = true := vOk_mk L_pl (by decide +kernel)
theorem v35_ok {As : List Value} : vOk scr (mk f g j c) (.ref 59 :: As) 35 = true := vOk_mk L_pl (by decide +kernel)
theorem v36_ok {As : List Value} : vOk scr (mk f g j c) (.ref 59 :: As) 36 = true := vOk_mk L_pl (by decide +kernel)
theorem v37_ok {As : List Value} : vOk scr (mk f g j c) (.ref 59 :: As) 37 = true := vOk_mk L_pl (by decide +kernel)
theorem v38_ok {As : List Value} : vOk scr (mk f g j c) (.ref 59 :: As) 38 = true := vOk_mk L_pl (by decide +kernel)
theorem v39_ok {As : List Value} : vOk scr (mk f g j c) (.ref 59 :: As) 39 = true := vOk_mk L_pl (by decide +kernel)
theorem v40_ok {As : List Value} : vOk scr (mk f g j c) (.ref 59 :: As) 40 = true := vOk_mk L_pl (by decide +kernel)
theorem v41_ok {As : List Value} : vOk scr (mk f g j c) (.ref 59 :: As) 41 = true := vOk_mk L_pl (by decide +kernel)
theorem v43_ok {As : List Value} : vOk scr (mk f g j c) (.ref 59 :: As) 43 = true := vOk_mk L_pl (by decide +kernel)
theorem v44_ok {As : List Value} : vOk scr (mk f g j c) (.ref 59 :: As) 44 = true := vOk_mk L_pl (by decide +kernel)
theorem v45_ok {As : List Value} : vOk scr (mk f g j c) (.ref 59 :: As) 45 = true := vOk_mk L_pl (by decide +kernel)
theorem v46_ok {As : List Value} : vOk scr (mk f g j c) (.ref 59 :: As) 46 = true := vOk_mk L_pl (by decide +kernel)
theorem v47_ok {As : List Value} : vOk scr (mk f g j c) (.ref 59 :: As) 47 = true := vOk_mk L_pl (by decide +kernel)
theorem v48_ok {As : List Value} : vOk scr (mk f g j c) (.ref 59 :: As) 48 = true := vOk_mk L_pl (by decide +kernel)
theorem v50_ok {p : Nat} (hp : isSc p) {As : List Value} : vOk scr (mk f g j c) (.ref p :: As) 50 = true := vOk_mk (L_sc hp) (by decide +kernel)
theorem v51_ok {p : Nat} (hp : isSc p) {As : List Value} : vOk scr (mk f g j c) (.ref p :: As) 51 = true := vOk_mk (L_sc hp) (by decide +kernel)
theorem v52_ok {p : Nat} (hp : isSc p) {As : List Value} : vOk scr (mk f g j c) (.ref p :: As) 52 = true := vOk_mk (L_sc hp) (by decide +kernel)
theorem v53_ok {p : Nat} (hp : isSc p) {As : List Value} : vOk scr (mk f g j c) (.ref p :: As) 53 = true := vOk_mk (L_sc hp) (by decide +kernel)
theorem v54_ok {p : Nat} (hp : isSc p) {As : List Value} : vOk scr (mk f g j c) (.ref p :: As) 54 = true := vOk_mk (L_sc hp) (by decide +kernel)
theorem v55_ok {p : Nat} (hp : isSc p) {As : List Value} : vOk scr (mk f g j c) (.ref p :: As) 55 = true := vOk_mk (L_sc hp) (by decide +kernel)
theorem v56_ok {p : Nat} (hp : isSc p) {As : List Value} : vOk scr (mk f g j c) (.ref p :: As) 56 = true := vOk_mk (L_sc hp) (by decide +kernel)
theorem v57_ok {p : Nat} (hp : isSc p) {As : List Value} : vOk scr (mk f g j c) (.ref p :: As) 57 = true := vOk_mk (L_sc hp) (by decide +kernel)
theorem v58_ok {p : Nat} (hp : isSc p) {As : List Value} : vOk scr (mk f g j c) (.ref p :: As) 58 = true := vOk_mk (L_sc hp) (by decide +kernel)
theorem v59_ok {p : Nat} (hp : isSc p) {As : List Value} : vOk scr (mk f g j c) (.ref p :: As) 59 = true := vOk_mk (L_sc hp) (by decide +kernel)
theorem v60_ok {p : Nat} (hp : isSc p) {As : List Value} : vOk scr (mk f g j c) (.ref p :: As) 60 = true := vOk_mk (L_sc hp) (by decide +kernel)
theorem v61_ok {p : Nat} (hp : isSc p) {As : List Value} : vOk scr (mk f g j c) (.ref p :: As) 61 = true := vOk_mk (L_sc hp) (by decide +kernel)
theorem v62_ok {p : Nat} (hp : isSc p) {As : List Value} : vOk scr (mk f g j c) (.ref p :: As) 62 = true := vOk_mk (L_sc hp) (by decide +kernel)
theorem v65_ok {As : List Value} : vOk scr (mk f g j c) (.ref 1 :: As) 65 = true := vOk_mk L_tape (by decide +kernel)
theorem v66_ok {As : List Value} : vOk scr (mk f g j c) (.ref 1 :: As) 66 = true := vOk_mk L_tape (by decide +kernel)
theorem v67_ok {As : List Value} : vOk scr (mk f g j c) (.ref 1 :: As) 67 = true := vOk_mk L_tape (by decide +kernel)
theorem v68_ok {As : List Value} : vOk scr (mk f g j c) (.ref 1 :: As) 68 = true := vOk_mk L_tape (by decide +kernel)
theorem v69_ok {As : List Value} : vOk scr (mk f g j c) (.ref 1 :: As) 69 = true := vOk_mk L_tape (by decide +kernel)
theorem v70_ok {As : List Value} : vOk scr (mk f g j c) (.ref 1 :: As) 70 = true := vOk_mk L_tape (by decide +kernel)
theorem v71_ok {As : List Value} : vOk scr (mk f g j c) (.ref 1 :: As) 71 = true := vOk_mk L_tape (by decide +kernel)
theorem v72_ok {As : List Value} : vOk scr (mk f g j c) (.ref 1 :: As) 72 = true := vOk_mk L_tape (by decide +kernel)
theorem v73_ok {As : List Value} : vOk scr (mk f g j c) (.ref 1 :: As) 73 = true := vOk_mk L_tape (by decide +kernel)
theorem v74_ok {As : List Value} : vOk scr (mk f g j c) (.ref 1 :: As) 74 = true := vOk_mk L_tape (by decide +kernel)
theorem v75_ok {As : List Value} : vOk scr (mk f g j c) (.ref 1 :: As) 75 = true := vOk_mk L_tape (by decide +kernel)
theorem v76_ok {As : List Value} : vOk scr (mk f g j c) (.ref 1 :: As) 76 = true := vOk_mk L_tape (by decide +kernel)
theorem v78_ok {As : List Value} : vOk scr (mk f g j c) (.ref 55 :: As) 78 = true := vOk_mk L_wk (by decide +kernel)
theorem v79_ok {As : List Value} : vOk scr (mk f g j c) (.ref 55 :: As) 79 = true := vOk_mk L_wk (by decide +kernel)
theorem v80_ok {As : List Value} : vOk scr (mk f g j c) (.ref 55 :: As) 80 = true := vOk_mk L_wk (by decide +kernel)
theorem v81_ok {As : List Value} : vOk scr (mk f g j c) (.ref 55 :: As) 81 = true := vOk_mk L_wk (by decide +kernel)
theorem v82_ok {As : List Value} : vOk scr (mk f g j c) (.ref 55 :: As) 82 = true := vOk_mk L_wk (by decide +kernel)
theorem v83_ok {As : List Value} : vOk scr (mk f g j c) (.ref 55 :: As) 83 = true := vOk_mk L_wk (by decide +kernel)
theorem v84_ok {As : List Value} : vOk scr (mk f g j c) (.ref 55 :: As) 84 = true := vOk_mk L_wk (by decide +kernel)
theorem v85_ok {As : List Value} : vOk scr (mk f g j c) (.ref 55 :: As) 85 = true := vOk_mk L_wk (by decide +kernel)
theorem v87_ok {As : List Value} : vOk scr (mk f g j c) (.ref 55 :: As) 87 = true := vOk_mk L_wk (by decide +kernel)
theorem v92_ok {As : List Value} : vOk scr (mk f g j c) (.ref 0 :: As) 92 = true := vOk_mk L_top (by decide +kernel)
theorem v93_ok {As : List Value} : vOk scr (mk f g j c) (.ref 0 :: As) 93 = true := vOk_mk L_top (by decide +kernel)
theorem v94_ok {As : List Value} : vOk scr (mk f g j c) (.ref 0 :: As) 94 = true := vOk_mk L_top (by decide +kernel)
theorem v95_ok {As : List Value} : vOk scr (mk f g j c) (.ref 0 :: As) 95 = true := vOk_mk L_top (by decide +kernel)
theorem v96_ok {As : List Value} : vOk scr (mk f g j c) (.ref 0 :: As) 96 = true := vOk_mk L_top (by decide +kernel)
theorem v97_ok {As : List Value} : vOk scr (mk f g j c) (.ref 0 :: As) 97 = true := vOk_mk L_top (by decide +kernel)
theorem v98_ok {As : List Value} : vOk scr (mk f g j c) (.ref 0 :: As) 98 = true := vOk_mk L_top (by decide +kernel)
theorem v99_ok {As : List Value} : vOk scr (mk f g j c) (.ref 0 :: As) 99 = true := vOk_mk L_top (by decide +kernel)
theorem v100_ok {As : List Value} : vOk scr (mk f g j c) (.ref 0 :: As) 100 = true := vOk_mk L_top (by decide +kernel)
theorem v101_ok {As : List Value} : vOk scr (mk f g j c) (.ref 0 :: As) 101 = true := vOk_mk L_top (by decide +kernel)
theorem v102_ok {As : List Value} : vOk scr (mk f g j c) (.ref 0 :: As) 102 = true := vOk_mk L_top (by decide +kernel)
theorem v103_ok {As : List Value} : vOk scr (mk f g j c) (.ref 0 :: As) 103 = true := vOk_mk L_top (by decide +kernel)
theorem v104_ok {As : List Value} : vOk scr (mk f g j c) (.ref 0 :: As) 104 = true := vOk_mk L_top (by decide +kernel)
theorem v105_ok {As : List Value} : vOk scr (mk f g j c) (.ref 0 :: As) 105 = true := vOk_mk L_top (by decide +kernel)
theorem v106_ok {As : List Value} : vOk scr (mk f g j c) (.ref 0 :: As) 106 = true := vOk_mk L_top (by decide +kernel)
theorem v107_ok {As : List Value} : vOk scr (mk f g j c) (.ref 0 :: As) 107 = true := vOk_mk L_top (by decide +kernel)
theorem v108_ok {As : List Value} : vOk scr (mk f g j c) (.ref 0 :: As) 108 = true := vOk_mk L_top (by decide +kernel)
theorem v109_ok {As : List Value} : vOk scr (mk f g j c) (.ref 0 :: As) 109 = true := vOk_mk L_top (by decide +kernel)
theorem v110_ok {As : List Value} : vOk scr (mk f g j c) (.ref 0 :: As) 110 = true := vOk_mk L_top (by decide +kernel)
theorem v111_ok {As : List Value} : vOk scr (mk f g j c) (.ref 0 :: As) 111 = true := vOk_mk L_top (by decide +kernel)
theorem v112_ok {As : List Value} : vOk scr (mk f g j c) (.ref 0 :: As) 112 = true := vOk_mk L_top (by decide +kernel)
theorem v113_ok {As : List Value} : vOk scr (mk f g j c) (.ref 0 :: As) 113 = true := vOk_mk L_top (by decide +kernel)
theorem v114_ok {As : List Value} : vOk scr (mk f g j c) (.ref 0 :: As) 114 = true := vOk_mk L_top (by decide +kernel)
theorem v115_ok {As : List Value} : vOk scr (mk f g j c) (.ref 0 :: As) 115 = true := vOk_mk L_top (by decide +kernel)
theorem v116_ok {As : List Value} : vOk scr (mk f g j c) (.ref 0 :: As) 116 = true := vOk_mk L_top (by decide +kernel)
theorem v117_ok {As : List Value} : vOk scr (mk f g j c) (.ref 0 :: As) 117 = true := vOk_mk L_top (by decide +kernel)
theorem v118_ok {As : List Value} : vOk scr (mk f g j c) (.ref 0 :: As) 118 = true := vOk_mk L_top (by decide +kernel)
theorem v119_ok {As : List Value} : vOk scr (mk f g j c) (.ref 0 :: As) 119 = true := vOk_mk L_top (by decide +kernel)
theorem v124_ok {As : List Value} : vOk scr (mk f g j c) (.ref 125 :: As) 124 = true := vOk_mk L_mo (by decide +kernel)
theorem v125_ok {As : List Value} : vOk scr (mk f g j c) (.ref 125 :: As) 125 = true := vOk_mk L_mo (by decide +kernel)
theorem v126_ok {As : List Value} : vOk scr (mk f g j c) (.ref 125 :: As) 126 = true := vOk_mk L_mo (by decide +kernel)
theorem v127_ok {As : List Value} : vOk scr (mk f g j c) (.ref 125 :: As) 127 = true := vOk_mk L_mo (by decide +kernel)
theorem v128_ok {As : List Value} : vOk scr (mk f g j c) (.ref 125 :: As) 128 = true := vOk_mk L_mo (by decide +kernel)
theorem v130_ok {As : List Value} : vOk scr (mk f g j c) (.ref 125 :: As) 130 = true := vOk_mk L_mo (by decide +kernel)
theorem v131_ok {As : List Value} : vOk scr (mk f g j c) (.ref 125 :: As) 131 = true := vOk_mk L_mo (by decide +kernel)
theorem v132_ok {As : List Value} : vOk scr (mk f g j c) (.ref 125 :: As) 132 = true := vOk_mk L_mo (by decide +kernel)
theorem v134_ok {As : List Value} : vOk scr (mk f g j c) (.ref 125 :: As) 134 = true := vOk_mk L_mo (by decide +kernel)
theorem v135_ok {As : List Value} : vOk scr (mk f g j c) (.ref 125 :: As) 135 = true := vOk_mk L_mo (by decide +kernel)
theorem v136_ok {As : List Value} : vOk scr (mk f g j c) (.ref 125 :: As) 136 = true := vOk_mk L_mo (by decide +kernel)
theorem v137_ok {As : List Value} : vOk scr (mk f g j c) (.ref 125 :: As) 137 = true := vOk_mk L_mo (by decide +kernel)
theorem v138_ok {As : List Value} : vOk scr (mk f g j c) (.ref 125 :: As) 138 = true := vOk_mk L_mo (by decide +kernel)
theorem v139_ok {As : List Value} : vOk scr (mk f g j c) (.ref 125 :: As) 139 = true := vOk_mk L_mo (by decide +kernel)
theorem v140_ok {As : List Value} : vOk scr (mk f g j c) (.ref 125 :: As) 140 = true := vOk_mk L_mo (by decide +kernel)
theorem v142_ok {As : List Value} : vOk scr (mk f g j c) (.ref 125 :: As) 142 = true := vOk_mk L_mo (by decide +kernel)
theorem v143_ok {As : List Value} : vOk scr (mk f g j c) (.ref 125 :: As) 143 = true := vOk_mk L_mo (by decide +kernel)
theorem v144_ok {As : List Value} : vOk scr (mk f g j c) (.ref 125 :: As) 144 = true := vOk_mk L_mo (by decide +kernel)
theorem v145_ok {As : List Value} : vOk scr (mk f g j c) (.ref 125 :: As) 145 = true := vOk_mk L_mo (by decide +kernel)
theorem v146_ok {As : List Value} : vOk scr (mk f g j c) (.ref 125 :: As) 146 = true := vOk_mk L_mo (by decide +kernel)
theorem v147_ok {As : List Value} : vOk scr (mk f g j c) (.ref 125 :: As) 147 = true := vOk_mk L_mo (by decide +kernel)
theorem v148_ok {As : List Value} : vOk scr (mk f g j c) (.ref 125 :: As) 148 = true := vOk_mk L_mo (by decide +kernel)
theorem v149_ok {As : List Value} : vOk scr (mk f g j c) (.ref 125 :: As) 149 = true := vOk_mk L_mo (by decide +kernel)
theorem v150_ok {As : List Value} : vOk scr (mk f g j c) (.ref 125 :: As) 150 = true := vOk_mk L_mo (by decide +kernel)
theorem v151_ok {As : List Value} : vOk scr (mk f g j c) (.ref 125 :: As) 151 = true := vOk_mk L_mo (by decide +kernel)
theorem v152_ok {As : List Value} : vOk scr (mk f g j c) (.ref 125 :: As) 152 = true := vOk_mk L_mo (by decide +kernel)
theorem v153_ok {As : List Value} : vOk scr (mk f g j c) (.ref 125 :: As) 153 = true := vOk_mk L_mo (by decide +kernel)
theorem v154_ok {As : List Value} : vOk scr (mk f g j c) (.ref 125 :: As) 154 = true := vOk_mk L_mo (by decide +kernel)
theorem v155_ok {As : List Value} : vOk scr (mk f g j c) (.ref 125 :: As) 155 = true := vOk_mk L_mo (by decide +kernel)
theorem v156_ok {As : List Value} : vOk scr (mk f g j c) (.ref 125 :: As) 156 = true := vOk_mk L_mo (by decide +kernel)
theorem v157_ok {As : List Value} : vOk scr (mk f g j c) (.ref 125 :: As) 157 = true := vOk_mk L_mo (by decide +kernel)
theorem v158_ok {As : List Value} : vOk scr (mk f g j c) (.ref 125 :: As) 158 = true := vOk_mk L_mo (by decide +kernel)
theorem v159_ok {As : List Value} : vOk scr (mk f g j c) (.ref 125 :: As) 159 = true := vOk_mk L_mo (by decide +kernel)
theorem v160_ok {As : List Value} : vOk scr (mk f g j c) (.ref 125 :: As) 160 = true := vOk_mk L_mo (by decide +kernel)
theorem v161_ok {As : List Value} : vOk scr (mk f g j c) (.ref 125 :: As) 161 = true := vOk_mk L_mo (by decide +kernel)
theorem v162_ok {As : List Value} : vOk scr (mk f g j c) (.ref 125 :: As) 162 = true := vOk_mk L_mo (by decide +kernel)
theorem v163_ok {As : List Value} : vOk scr (mk f g j c) (.ref 125 :: As) 163 = true := vOk_mk L_mo (by decide +kernel)
theorem v164_ok {As : List Value} : vOk scr (mk f g j c) (.ref 125 :: As) 164 = true := vOk_mk L_mo (by decide +kernel)
theorem v165_ok {As : List Value} : vOk scr (mk f g j c) (.ref 125 :: As) 165 = true := vOk_mk L_mo (by decide +kernel)
theorem v167_ok {As : List Value} : vOk scr (mk f g j c) (.ref 125 :: As) 167 = true := vOk_mk L_mo (by decide +kernel)
theorem v168_ok {As : List Value} : vOk scr (mk f g j c) (.ref 125 :: As) 168 = true := vOk_mk L_mo (by decide +kernel)
theorem v169_ok {As : List Value} : vOk scr (mk f g j c) (.ref 125 :: As) 169 = true := vOk_mk L_mo (by decide +kernel)
theorem v170_ok {As : List Value} : vOk scr (mk f g j c) (.ref 125 :: As) 170 = true := vOk_mk L_mo (by decide +kernel)
theorem v171_ok {As : List Value} : vOk scr (mk f g j c) (.ref 125 :: As) 171 = true := vOk_mk L_mo (by decide +kernel)
theorem v172_ok {As : List Value} : vOk scr (mk f g j c) (.ref 125 :: As) 172 = true := vOk_mk L_mo (by decide +kernel)
theorem v175_ok {As : List Value} : vOk scr (mk f g j c) (.ref 125 :: As) 175 = true := vOk_mk L_mo (by decide +kernel)
theorem v176_ok {As : List Value} : vOk scr (mk f g j c) (.ref 125 :: As) 176 = true := vOk_mk L_mo (by decide +kernel)
theorem v177_ok {As : List Value} : vOk scr (mk f g j c) (.ref 125 :: As) 177 = true := vOk_mk L_mo (by decide +kernel)
theorem v178_ok {As : List Value} : vOk scr (mk f g j c) (.ref 125 :: As) 178 = true := vOk_mk L_mo (by decide +kernel)
theorem v179_ok {As : List Value} : vOk scr (mk f g j c) (.ref 125 :: As) 179 = true := vOk_mk L_mo (by decide +kernel)
theorem v180_ok {As : List Value} : vOk scr (mk f g j c) (.ref 125 :: As) 180 = true := vOk_mk L_mo (by decide +kernel)
theorem v181_ok {As : List Value} : vOk scr (mk f g j c) (.ref 125 :: As) 181 = true := vOk_mk L_mo (by decide +kernel)
theorem v182_ok {As : List Value} : vOk scr (mk f g j c) (.ref 125 :: As) 182 = true := vOk_mk L_mo (by decide +kernel)
theorem v183_ok {As : List Value} : vOk scr (mk f g j c) (.ref 125 :: As) 183 = true := vOk_mk L_mo (by decide +kernel)
theorem v184_ok {As : List Value} : vOk scr (mk f g j c) (.ref 125 :: As) 184 = true := vOk_mk L_mo (by decide +kernel)
theorem v185_ok {As : List Value} : vOk scr (mk f g j c) (.ref 125 :: As) 185 = true := vOk_mk L_mo (by decide +kernel)
theorem v186_ok {As : List Value} : vOk scr (mk f g j c) (.ref 125 :: As) 186 = true := vOk_mk L_mo (by decide +kernel)
theorem v187_ok {As : List Value} : vOk scr (mk f g j c) (.ref 125 :: As) 187 = true := vOk_mk L_mo (by decide +kernel)
theorem v188_ok {As : List Value} : vOk scr (mk f g j c) (.ref 125 :: As) 188 = true := vOk_mk L_mo (by decide +kernel)
theorem v189_ok {As : List Value} : vOk scr (mk f g j c) (.ref 125 :: As) 189 = true := vOk_mk L_mo (by decide +kernel)
theorem v190_ok {As : List Value} : vOk scr (mk f g j c) (.ref 125 :: As) 190 = true := vOk_mk L_mo (by decide +kernel)
theorem v191_ok {As : List Value} : vOk scr (mk f g j c) (.ref 125 :: As) 191 = true := vOk_mk L_mo (by decide +kernel)
theorem v192_ok {As : List Value} : vOk scr (mk f g j c) (.ref 125 :: As) 192 = true := vOk_mk L_mo (by decide +kernel)
theorem v193_ok {As : List Value} : vOk scr (mk f g j c) (.ref 125 :: As) 193 = true := vOk_mk L_mo (by decide +kernel)
theorem v194_ok {As : List Value} : vOk scr (mk f g j c) (.ref 125 :: As) 194 = true := vOk_mk L_mo (by decide +kernel)
theorem v195_ok {As : List Value} : vOk scr (mk f g j c) (.ref 125 :: As) 195 = true := vOk_mk L_mo (by decide +kernel)
theorem v196_ok {As : List Value} : vOk scr (mk f g j c) (.ref 125 :: As) 196 = true := vOk_mk L_mo (by decide +kernel)
theorem v197_ok {As : List Value} : vOk scr (mk f g j c) (.ref 125 :: As) 197 = true := vOk_mk L_mo (by decide +kernel)
theorem v198_ok {As : List Value} : vOk scr (mk f g j c) (.ref 125 :: As) 198 = true := vOk_mk L_mo (by decide +kernel)
theorem v199_ok {As : List Value} : vOk scr (mk f g j c) (.ref 125 :: As) 199 = true := vOk_mk L_mo (by decide +kernel)
theorem v200_ok {As : List Value} : vOk scr (mk f g j c) (.ref 125 :: As) 200 = true := vOk_mk L_mo (by decide +kernel)
theorem v201_ok {As : List Value} : vOk scr (mk f g j c) (.ref 125 :: As) 201 = true := vOk_mk L_mo (by decide +kernel)
theorem v202_ok {As : List Value} : vOk scr (mk f g j c) (.ref 125 :: As) 202 = true := vOk_mk L_mo (by decide +kernel)
theorem v203_ok {As : List Value} : vOk scr (mk f g j c) (.ref 125 :: As) 203 = true := vOk_mk L_mo (by decide +kernel)
theorem v204_ok {As : List Value} : vOk scr (mk f g j c) (.ref 125 :: As) 204 = true := vOk_mk L_mo (by decide +kernel)
theorem v205_ok {As : List Value} : vOk scr (mk f g j c) (.ref 125 :: As) 205 = true := vOk_mk L_mo (by decide +kernel)
theorem v206_ok {As : List Value} : vOk scr (mk f g j c) (.ref 125 :: As) 206 = true := vOk_mk L_mo (by decide +kernel)
theorem v208_ok {As : List Value} : vOk scr (mk f g j c) (.ref 125 :: As) 208 = true := vOk_mk L_mo (by decide +kernel)
theorem v209_ok {As : List Value} : vOk scr (mk f g j c) (.ref 125 :: As) 209 = true := vOk_mk L_mo (by decide +kernel)
theorem v210_ok {As : List Value} : vOk scr (mk f g j c) (.ref 125 :: As) 210 = true := vOk_mk L_mo (by decide +kernel)
theorem v211_ok {As : List Value} : vOk scr (mk f g j c) (.ref 125 :: As) 211 = true := vOk_mk L_mo (by decide +kernel)
theorem v212_ok {As : List Value} : vOk scr (mk f g j c) (.ref 125 :: As) 212 = true := vOk_mk L_mo (by decide +kernel)
theorem v213_ok {As : List Value} : vOk scr (mk f g j c) (.ref 125 :: As) 213 = true := vOk_mk L_mo (by decide +kernel)
theorem v214_ok {As : List Value} : vOk scr (mk f g j c) (.ref 125 :: As) 214 = true := vOk_mk L_mo (by decide +kernel)
theorem v215_ok {As : List Value} : vOk scr (mk f g j c) (.ref 125 :: As) 215 = true := vOk_mk L_mo (by decide +kernel)
theorem v216_ok {As : List Value} : vOk scr (mk f g j c) (.ref 125 :: As) 216 = true := vOk_mk L_mo (by decide +kernel)
theorem v217_ok {As : List Value} : vOk scr (mk f g j c) (.ref 125 :: As) 217 = true := vOk_mk L_mo (by decide +kernel)
theorem v218_ok {As : List Value} : vOk scr (mk f g j c) (.ref 125 :: As) 218 = true := vOk_mk L_mo (by decide +kernel)
theorem v219_ok {As : List Value} : vOk scr (mk f g j c) (.ref 125 :: As) 219 = true := vOk_mk L_mo (by decide +kernel)
theorem v220_ok {As : List Value} : vOk scr (mk f g j c) (.ref 125 :: As) 220 = true := vOk_mk L_mo (by decide +kernel)
theorem v221_ok {As : List Value} : vOk scr (mk f g j c) (.ref 125 :: As) 221 = true := vOk_mk L_mo (by decide +kernel)
end WS
