variable {scr : List Int32}
-- ===== the constructors: the planner =====
section CTA
variable {d : Nat} {h : aH} {K : Option Value → aH → Prop}
theorem mn26 : mIni 26 = some 4 := by decide +kernel
theorem mc26 : mCi 26 = 4 := by decide +kernel
theorem mq26 : mRet 26 = none := by decide +kernel
theorem q26_0 : rowAt 26 0 = some (.aload_n 0, 1, 0, 0) := by decide +kernel
theorem q26_1 : rowAt 26 1 = some (.invokespecial 3, 3, 0, 3) := by decide +kernel
theorem q26_4 : rowAt 26 4 = some (.aload_n 0, 1, 0, 0) := by decide +kernel
theorem q26_5 : rowAt 26 5 = some (.new 9, 3, 5, 0) := by decide +kernel
theorem q26_8 : rowAt 26 8 = some (.dup, 1, 0, 0) := by decide +kernel
theorem q26_9 : rowAt 26 9 = some (.invokespecial 11, 3, 49, 2) := by decide +kernel
theorem q26_12 : rowAt 26 12 = some (.putfield 12, 3, 4, 3) := by decide +kernel
theorem q26_15 : rowAt 26 15 = some (.aload_n 0, 1, 0, 0) := by decide +kernel
theorem q26_16 : rowAt 26 16 = some (.new 9, 3, 5, 0) := by decide +kernel
theorem q26_19 : rowAt 26 19 = some (.dup, 1, 0, 0) := by decide +kernel
theorem q26_20 : rowAt 26 20 = some (.invokespecial 11, 3, 49, 2) := by decide +kernel
theorem q26_23 : rowAt 26 23 = some (.putfield 18, 3, 4, 4) := by decide +kernel
theorem q26_26 : rowAt 26 26 = some (.aload_n 0, 1, 0, 0) := by decide +kernel
theorem q26_27 : rowAt 26 27 = some (.sipush 401, 3, 0, 0) := by decide +kernel
theorem q26_30 : rowAt 26 30 = some (.newarray .long, 2, 0, 0) := by decide +kernel
theorem q26_32 : rowAt 26 32 = some (.putfield 21, 3, 4, 5) := by decide +kernel
theorem q26_35 : rowAt 26 35 = some (.aload_n 0, 1, 0, 0) := by decide +kernel
theorem q26_36 : rowAt 26 36 = some (.sipush 401, 3, 0, 0) := by decide +kernel
theorem q26_39 : rowAt 26 39 = some (.newarray .long, 2, 0, 0) := by decide +kernel
theorem q26_41 : rowAt 26 41 = some (.putfield 25, 3, 4, 6) := by decide +kernel
theorem q26_44 : rowAt 26 44 = some (.aload_n 0, 1, 0, 0) := by decide +kernel
theorem q26_45 : rowAt 26 45 = some (.bipush 12, 2, 0, 0) := by decide +kernel
theorem q26_47 : rowAt 26 47 = some (.newarray .int, 2, 0, 0) := by decide +kernel
theorem q26_49 : rowAt 26 49 = some (.putfield 28, 3, 4, 7) := by decide +kernel
theorem q26_52 : rowAt 26 52 = some (.aload_n 0, 1, 0, 0) := by decide +kernel
theorem q26_53 : rowAt 26 53 = some (.aload_n 1, 1, 0, 0) := by decide +kernel
theorem q26_54 : rowAt 26 54 = some (.putfield 32, 3, 4, 0) := by decide +kernel
theorem q26_57 : rowAt 26 57 = some (.aload_n 0, 1, 0, 0) := by decide +kernel
theorem q26_58 : rowAt 26 58 = some (.aload_n 2, 1, 0, 0) := by decide +kernel
theorem q26_59 : rowAt 26 59 = some (.putfield 35, 3, 4, 1) := by decide +kernel
theorem q26_62 : rowAt 26 62 = some (.aload_n 0, 1, 0, 0) := by decide +kernel
theorem q26_63 : rowAt 26 63 = some (.aload_n 3, 1, 0, 0) := by decide +kernel
theorem q26_64 : rowAt 26 64 = some (.putfield 39, 3, 4, 2) := by decide +kernel
theorem q26_67 : rowAt 26 67 = some (.return_, 1, 0, 0) := by decide +kernel
def plFs (n s w g : Nat) : List Value := [.ref s, .ref w, .ref g, .ref (n + 1), .ref (n + 11), .ref (n + 21), .ref (n + 22), .ref (n + 23)]
def plCs (n s w g : Nat) : aH := .inr (4, plFs n s w g) :: (scCs (n + 1) ++ (scCs (n + 11) ++ [.inl (2, .inr (.inl (List.replicate 401 0))), .inl (2, .inr (.inl (List.replicate 401 0))), .inl (1, .inl (List.replicate 12 0))]))
theorem plCs_ok {n s w g : Nat} (hs : s < n) (hw : w < n) (hg : g < n) : (plCs n s w g).all (ltC (n + 24)) = true := by
  unfold plCs
  rw [List.all_cons, List.all_append, List.all_append, alC_mo (by omega) (scCs_ok (n := n + 1)), alC_mo (by omega) (scCs_ok (n := n + 11))]
  have h1 : ltC (n + 24) (.inr (4, plFs n s w g)) = true := (show List.all _ _ = true from (al_c (ltV_q (by omega)) (al_c (ltV_q (by omega)) (al_c (ltV_q (by omega)) (al_c (ltV_q (by omega)) (al_c (ltV_q (by omega)) (al_c (ltV_q (by omega)) (al_c (ltV_q (by omega)) (al_c (ltV_q (by omega)) rfl)))))))))
  rw [h1]
  rfl
theorem ct26 {n s w g : Nat} (hh : h.all (ltC n) = true) (hn : h.length = n) (h9 : n < 7000) (hs : s < n) (hw : w < n) (hg : g < n) (hK : K none (h ++ plCs n s w g)) : E scr true (d + 2 + 1) 26 0 [.ref n, .ref s, .ref w, .ref g] [] (h ++ [.inr (4, aDef 4)]) K := by
  have hL : (Value.ref n :: [.ref s, .ref w, .ref g]).all (ltV (n + 1)) = true := (al_c (ltV_q (by omega)) (al_c (ltV_q (by omega)) (al_c (ltV_q (by omega)) (al_c (ltV_q (by omega)) rfl))))
  have hO : OB n 8 0 h [.null, .null, .null, .null, .null, .null, .null, .null] [] := ⟨hn, by omega, hh, rfl, rfl, rfl, rfl⟩
  refine E_s q26_0 rfl rfl ?_
  refine E_iobj (d := d + 2) q26_1 (by decide) ?_
  show E scr true (d + 2 + 1) 26 4 [.ref n, .ref s, .ref w, .ref g] [] (h ++ (.inr (4, [.null, .null, .null, .null, .null, .null, .null, .null]) :: [])) K
  refine E_nd (M := 0) (c := 5) (m := n + 1) (pe := 9) hO (by decide) rfl rfl hL rfl q26_4 q26_5 (by decide) q26_8 ?_
  refine E_cn (M := 0) (M' := 10) (k := 10) (m := n + 1) (pe := 12) (As := []) (rest := [.ref (n + 1), .ref n]) (cells := scCs (n + 1)) hO (by decide) rfl rfl rfl rfl (alV_mo (by omega) hL) (al_c (ltV_q (by omega)) (al_c (ltV_q (by omega)) rfl)) q26_9 (cut_n mi49.1 rfl rfl) (rm8_n mi49.2.1 (Nat.le_of_ble_eq_true rfl) (Nat.le_of_ble_eq_true rfl)) mn49 mc49 mq49 rfl scCs_ok (fun K' hk => by rw [ini_n mi49 (L := [.ref (n + 1)]) rfl]; exact ct49 (OB_all hO) (OB_len hO) (by omega) hk) (fun hO => ?_)
  refine E_pt (M := 10) (pe := 15) (fs' := [.null, .null, .null, .ref (n + 1), .null, .null, .null, .null]) hO rfl rfl q26_12 mn26 rfl rfl (by decide) (ltV_q (by omega)) (fun hO => ?_)
  refine E_nd (M := 10) (c := 5) (m := n + 11) (pe := 20) hO (by decide) rfl rfl hL rfl q26_15 q26_16 (by decide) q26_19 ?_
  refine E_cn (M := 10) (M' := 20) (k := 10) (m := n + 11) (pe := 23) (As := []) (rest := [.ref (n + 11), .ref n]) (cells := scCs (n + 11)) hO (by decide) rfl rfl rfl rfl (alV_mo (by omega) hL) (al_c (ltV_q (by omega)) (al_c (ltV_q (by omega)) rfl)) q26_20 (cut_n mi49.1 rfl rfl) (rm8_n mi49.2.1 (Nat.le_of_ble_eq_true rfl) (Nat.le_of_ble_eq_true rfl)) mn49 mc49 mq49 rfl scCs_ok (fun K' hk => by rw [ini_n mi49 (L := [.ref (n + 11)]) rfl]; exact ct49 (OB_all hO) (OB_len hO) (by omega) hk) (fun hO => ?_)
  refine E_pt (M := 20) (pe := 26) (fs' := [.null, .null, .null, .ref (n + 1), .ref (n + 11), .null, .null, .null]) hO rfl rfl q26_23 mn26 rfl rfl (by decide) (ltV_q (by omega)) (fun hO => ?_)
  refine E_row (M := 20) (M' := 21) (m := n + 21) (pe := 35) (fs' := [.null, .null, .null, .ref (n + 1), .ref (n + 11), .ref (n + 21), .null, .null]) (cl := .inl (2, .inr (.inl (List.replicate 401 0)))) hO (by decide) hL rfl mn26 rfl rfl rfl rfl rfl q26_26 q26_27 rfl (fun _ _ => rfl) (fun hw he => E_naJ (k := 401) q26_30 hw (by decide) (by decide) (by decide) he) rfl q26_32 (fun _ => rfl) (fun _ => rfl) (by decide) (fun hO => ?_)
  refine E_row (M := 21) (M' := 22) (m := n + 22) (pe := 44) (fs' := [.null, .null, .null, .ref (n + 1), .ref (n + 11), .ref (n + 21), .ref (n + 22), .null]) (cl := .inl (2, .inr (.inl (List.replicate 401 0)))) hO (by decide) hL rfl mn26 rfl rfl rfl rfl rfl q26_35 q26_36 rfl (fun _ _ => rfl) (fun hw he => E_naJ (k := 401) q26_39 hw (by decide) (by decide) (by decide) he) rfl q26_41 (fun _ => rfl) (fun _ => rfl) (by decide) (fun hO => ?_)
  refine E_row (M := 22) (M' := 23) (m := n + 23) (pe := 52) (fs' := [.null, .null, .null, .ref (n + 1), .ref (n + 11), .ref (n + 21), .ref (n + 22), .ref (n + 23)]) (cl := .inl (1, .inl (List.replicate 12 0))) hO (by decide) hL rfl mn26 rfl rfl rfl rfl rfl q26_44 q26_45 rfl (fun _ _ => rfl) (fun hw he => E_naI (k := 12) q26_47 hw (by decide) (by decide) (by decide) he) rfl q26_49 (fun _ => rfl) (fun _ => rfl) (by decide) (fun hO => ?_)
  refine E_arg (M := 23) (p := s) (pe := 57) (fs' := [.ref s, .null, .null, .ref (n + 1), .ref (n + 11), .ref (n + 21), .ref (n + 22), .ref (n + 23)]) hO mn26 hs rfl rfl q26_52 q26_53 (fun _ _ => rfl) q26_54 (fun _ => rfl) (fun _ => rfl) (by decide) (fun hO => ?_)
  refine E_arg (M := 23) (p := w) (pe := 62) (fs' := [.ref s, .ref w, .null, .ref (n + 1), .ref (n + 11), .ref (n + 21), .ref (n + 22), .ref (n + 23)]) hO mn26 hw rfl rfl q26_57 q26_58 (fun _ _ => rfl) q26_59 (fun _ => rfl) (fun _ => rfl) (by decide) (fun hO => ?_)
  refine E_arg (M := 23) (p := g) (pe := 67) (fs' := [.ref s, .ref w, .ref g, .ref (n + 1), .ref (n + 11), .ref (n + 21), .ref (n + 22), .ref (n + 23)]) hO mn26 hg rfl rfl q26_62 q26_63 (fun _ _ => rfl) q26_64 (fun _ => rfl) (fun _ => rfl) (by decide) (fun hO => ?_)
  rw [E_vret q26_67 mq26]
  exact hK
end CTA
