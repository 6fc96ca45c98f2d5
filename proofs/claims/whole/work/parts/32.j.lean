variable {scr : List Int32}
-- ===== the constructors: leaves =====
section CT9
variable {d : Nat} {h : aH} {K : Option Value → aH → Prop}
theorem mn0 : mIni 0 = some 0 := by decide +kernel
theorem mc0 : mCi 0 = 0 := by decide +kernel
theorem mq0 : mRet 0 = none := by decide +kernel
theorem q0_0 : rowAt 0 0 = some (.aload_n 0, 1, 0, 0) := by decide +kernel
theorem q0_1 : rowAt 0 1 = some (.invokespecial 3, 3, 0, 3) := by decide +kernel
theorem q0_4 : rowAt 0 4 = some (.aload_n 0, 1, 0, 0) := by decide +kernel
theorem q0_5 : rowAt 0 5 = some (.sipush 144, 3, 0, 0) := by decide +kernel
theorem q0_8 : rowAt 0 8 = some (.newarray .int, 2, 0, 0) := by decide +kernel
theorem q0_10 : rowAt 0 10 = some (.putfield 9, 3, 0, 0) := by decide +kernel
theorem q0_13 : rowAt 0 13 = some (.aload_n 0, 1, 0, 0) := by decide +kernel
theorem q0_14 : rowAt 0 14 = some (.sipush 144, 3, 0, 0) := by decide +kernel
theorem q0_17 : rowAt 0 17 = some (.newarray .int, 2, 0, 0) := by decide +kernel
theorem q0_19 : rowAt 0 19 = some (.putfield 15, 3, 0, 1) := by decide +kernel
theorem q0_22 : rowAt 0 22 = some (.aload_n 0, 1, 0, 0) := by decide +kernel
theorem q0_23 : rowAt 0 23 = some (.sipush 432, 3, 0, 0) := by decide +kernel
theorem q0_26 : rowAt 0 26 = some (.newarray .long, 2, 0, 0) := by decide +kernel
theorem q0_28 : rowAt 0 28 = some (.putfield 18, 3, 0, 2) := by decide +kernel
theorem q0_31 : rowAt 0 31 = some (.aload_n 0, 1, 0, 0) := by decide +kernel
theorem q0_32 : rowAt 0 32 = some (.sipush 432, 3, 0, 0) := by decide +kernel
theorem q0_35 : rowAt 0 35 = some (.newarray .long, 2, 0, 0) := by decide +kernel
theorem q0_37 : rowAt 0 37 = some (.putfield 22, 3, 0, 3) := by decide +kernel
theorem q0_40 : rowAt 0 40 = some (.return_, 1, 0, 0) := by decide +kernel
theorem mn3 : mIni 3 = some 1 := by decide +kernel
theorem mc3 : mCi 3 = 1 := by decide +kernel
theorem mq3 : mRet 3 = none := by decide +kernel
theorem q3_0 : rowAt 3 0 = some (.aload_n 0, 1, 0, 0) := by decide +kernel
theorem q3_1 : rowAt 3 1 = some (.invokespecial 1, 3, 0, 3) := by decide +kernel
theorem q3_4 : rowAt 3 4 = some (.aload_n 0, 1, 0, 0) := by decide +kernel
theorem q3_5 : rowAt 3 5 = some (.bipush 12, 2, 0, 0) := by decide +kernel
theorem q3_7 : rowAt 3 7 = some (.newarray .int, 2, 0, 0) := by decide +kernel
theorem q3_9 : rowAt 3 9 = some (.putfield 9, 3, 1, 1) := by decide +kernel
theorem q3_12 : rowAt 3 12 = some (.aload_n 0, 1, 0, 0) := by decide +kernel
theorem q3_13 : rowAt 3 13 = some (.bipush 12, 2, 0, 0) := by decide +kernel
theorem q3_15 : rowAt 3 15 = some (.newarray .int, 2, 0, 0) := by decide +kernel
theorem q3_17 : rowAt 3 17 = some (.putfield 13, 3, 1, 2) := by decide +kernel
theorem q3_20 : rowAt 3 20 = some (.aload_n 0, 1, 0, 0) := by decide +kernel
theorem q3_21 : rowAt 3 21 = some (.sipush 400, 3, 0, 0) := by decide +kernel
theorem q3_24 : rowAt 3 24 = some (.newarray .int, 2, 0, 0) := by decide +kernel
theorem q3_26 : rowAt 3 26 = some (.putfield 18, 3, 1, 4) := by decide +kernel
theorem q3_29 : rowAt 3 29 = some (.return_, 1, 0, 0) := by decide +kernel
theorem mn7 : mIni 7 = some 2 := by decide +kernel
theorem mc7 : mCi 7 = 2 := by decide +kernel
theorem mq7 : mRet 7 = none := by decide +kernel
theorem q7_0 : rowAt 7 0 = some (.aload_n 0, 1, 0, 0) := by decide +kernel
theorem q7_1 : rowAt 7 1 = some (.invokespecial 3, 3, 0, 3) := by decide +kernel
theorem q7_4 : rowAt 7 4 = some (.aload_n 0, 1, 0, 0) := by decide +kernel
theorem q7_5 : rowAt 7 5 = some (.aload_n 1, 1, 0, 0) := by decide +kernel
theorem q7_6 : rowAt 7 6 = some (.putfield 9, 3, 2, 0) := by decide +kernel
theorem q7_9 : rowAt 7 9 = some (.return_, 1, 0, 0) := by decide +kernel
theorem mn18 : mIni 18 = some 3 := by decide +kernel
theorem mc18 : mCi 18 = 3 := by decide +kernel
theorem mq18 : mRet 18 = none := by decide +kernel
theorem q18_0 : rowAt 18 0 = some (.aload_n 0, 1, 0, 0) := by decide +kernel
theorem q18_1 : rowAt 18 1 = some (.invokespecial 3, 3, 0, 3) := by decide +kernel
theorem q18_4 : rowAt 18 4 = some (.aload_n 0, 1, 0, 0) := by decide +kernel
theorem q18_5 : rowAt 18 5 = some (.aload_n 1, 1, 0, 0) := by decide +kernel
theorem q18_6 : rowAt 18 6 = some (.putfield 9, 3, 3, 0) := by decide +kernel
theorem q18_9 : rowAt 18 9 = some (.aload_n 0, 1, 0, 0) := by decide +kernel
theorem q18_10 : rowAt 18 10 = some (.aload_n 2, 1, 0, 0) := by decide +kernel
theorem q18_11 : rowAt 18 11 = some (.putfield 15, 3, 3, 1) := by decide +kernel
theorem q18_14 : rowAt 18 14 = some (.return_, 1, 0, 0) := by decide +kernel
theorem mn49 : mIni 49 = some 5 := by decide +kernel
theorem mc49 : mCi 49 = 5 := by decide +kernel
theorem mq49 : mRet 49 = none := by decide +kernel
theorem q49_0 : rowAt 49 0 = some (.aload_n 0, 1, 0, 0) := by decide +kernel
theorem q49_1 : rowAt 49 1 = some (.invokespecial 3, 3, 0, 3) := by decide +kernel
theorem q49_4 : rowAt 49 4 = some (.aload_n 0, 1, 0, 0) := by decide +kernel
theorem q49_5 : rowAt 49 5 = some (.sipush 144, 3, 0, 0) := by decide +kernel
theorem q49_8 : rowAt 49 8 = some (.newarray .byte, 2, 0, 0) := by decide +kernel
theorem q49_10 : rowAt 49 10 = some (.putfield 9, 3, 5, 8) := by decide +kernel
theorem q49_13 : rowAt 49 13 = some (.aload_n 0, 1, 0, 0) := by decide +kernel
theorem q49_14 : rowAt 49 14 = some (.sipush 144, 3, 0, 0) := by decide +kernel
theorem q49_17 : rowAt 49 17 = some (.newarray .byte, 2, 0, 0) := by decide +kernel
theorem q49_19 : rowAt 49 19 = some (.putfield 15, 3, 5, 9) := by decide +kernel
theorem q49_22 : rowAt 49 22 = some (.aload_n 0, 1, 0, 0) := by decide +kernel
theorem q49_23 : rowAt 49 23 = some (.bipush 14, 2, 0, 0) := by decide +kernel
theorem q49_25 : rowAt 49 25 = some (.newarray .int, 2, 0, 0) := by decide +kernel
theorem q49_27 : rowAt 49 27 = some (.putfield 18, 3, 5, 10) := by decide +kernel
theorem q49_30 : rowAt 49 30 = some (.aload_n 0, 1, 0, 0) := by decide +kernel
theorem q49_31 : rowAt 49 31 = some (.bipush 12, 2, 0, 0) := by decide +kernel
theorem q49_33 : rowAt 49 33 = some (.newarray .int, 2, 0, 0) := by decide +kernel
theorem q49_35 : rowAt 49 35 = some (.putfield 22, 3, 5, 11) := by decide +kernel
theorem q49_38 : rowAt 49 38 = some (.aload_n 0, 1, 0, 0) := by decide +kernel
theorem q49_39 : rowAt 49 39 = some (.bipush 12, 2, 0, 0) := by decide +kernel
theorem q49_41 : rowAt 49 41 = some (.newarray .int, 2, 0, 0) := by decide +kernel
theorem q49_43 : rowAt 49 43 = some (.putfield 25, 3, 5, 12) := by decide +kernel
theorem q49_46 : rowAt 49 46 = some (.aload_n 0, 1, 0, 0) := by decide +kernel
theorem q49_47 : rowAt 49 47 = some (.bipush 12, 2, 0, 0) := by decide +kernel
theorem q49_49 : rowAt 49 49 = some (.newarray .int, 2, 0, 0) := by decide +kernel
theorem q49_51 : rowAt 49 51 = some (.putfield 28, 3, 5, 13) := by decide +kernel
theorem q49_54 : rowAt 49 54 = some (.aload_n 0, 1, 0, 0) := by decide +kernel
theorem q49_55 : rowAt 49 55 = some (.bipush 40, 2, 0, 0) := by decide +kernel
theorem q49_57 : rowAt 49 57 = some (.newarray .int, 2, 0, 0) := by decide +kernel
theorem q49_59 : rowAt 49 59 = some (.putfield 31, 3, 5, 14) := by decide +kernel
theorem q49_62 : rowAt 49 62 = some (.aload_n 0, 1, 0, 0) := by decide +kernel
theorem q49_63 : rowAt 49 63 = some (.bipush 40, 2, 0, 0) := by decide +kernel
theorem q49_65 : rowAt 49 65 = some (.newarray .int, 2, 0, 0) := by decide +kernel
theorem q49_67 : rowAt 49 67 = some (.putfield 34, 3, 5, 15) := by decide +kernel
theorem q49_70 : rowAt 49 70 = some (.aload_n 0, 1, 0, 0) := by decide +kernel
theorem q49_71 : rowAt 49 71 = some (.bipush 40, 2, 0, 0) := by decide +kernel
theorem q49_73 : rowAt 49 73 = some (.newarray .int, 2, 0, 0) := by decide +kernel
theorem q49_75 : rowAt 49 75 = some (.putfield 37, 3, 5, 16) := by decide +kernel
theorem q49_78 : rowAt 49 78 = some (.aload_n 0, 1, 0, 0) := by decide +kernel
theorem q49_79 : rowAt 49 79 = some (.invokevirtual 40, 3, 50, 0) := by decide +kernel
theorem q49_82 : rowAt 49 82 = some (.return_, 1, 0, 0) := by decide +kernel
theorem mn77 : mIni 77 = some 7 := by decide +kernel
theorem mc77 : mCi 77 = 7 := by decide +kernel
theorem mq77 : mRet 77 = none := by decide +kernel
theorem q77_0 : rowAt 77 0 = some (.aload_n 0, 1, 0, 0) := by decide +kernel
theorem q77_1 : rowAt 77 1 = some (.invokespecial 3, 3, 0, 3) := by decide +kernel
theorem q77_4 : rowAt 77 4 = some (.aload_n 0, 1, 0, 0) := by decide +kernel
theorem q77_5 : rowAt 77 5 = some (.bipush 64, 2, 0, 0) := by decide +kernel
theorem q77_7 : rowAt 77 7 = some (.newarray .long, 2, 0, 0) := by decide +kernel
theorem q77_9 : rowAt 77 9 = some (.putfield 11, 3, 7, 1) := by decide +kernel
theorem q77_12 : rowAt 77 12 = some (.aload_n 0, 1, 0, 0) := by decide +kernel
theorem q77_13 : rowAt 77 13 = some (.bipush 14, 2, 0, 0) := by decide +kernel
theorem q77_15 : rowAt 77 15 = some (.newarray .int, 2, 0, 0) := by decide +kernel
theorem q77_17 : rowAt 77 17 = some (.putfield 15, 3, 7, 2) := by decide +kernel
theorem q77_20 : rowAt 77 20 = some (.aload_n 0, 1, 0, 0) := by decide +kernel
theorem q77_21 : rowAt 77 21 = some (.bipush 12, 2, 0, 0) := by decide +kernel
theorem q77_23 : rowAt 77 23 = some (.newarray .int, 2, 0, 0) := by decide +kernel
theorem q77_25 : rowAt 77 25 = some (.putfield 19, 3, 7, 6) := by decide +kernel
theorem q77_28 : rowAt 77 28 = some (.aload_n 0, 1, 0, 0) := by decide +kernel
theorem q77_29 : rowAt 77 29 = some (.aload_n 1, 1, 0, 0) := by decide +kernel
theorem q77_30 : rowAt 77 30 = some (.putfield 22, 3, 7, 0) := by decide +kernel
theorem q77_33 : rowAt 77 33 = some (.return_, 1, 0, 0) := by decide +kernel
theorem mn64 : mIni 64 = some 6 := by decide +kernel
theorem mc64 : mCi 64 = 6 := by decide +kernel
theorem mq64 : mRet 64 = none := by decide +kernel
def tpCs (n : Nat) : aH := [.inr (6, [.ref (n + 1), .int 0, .int 0, .int 0]), .inl (0, .inl (List.replicate 400 0))]
theorem tpCs_ok {n : Nat} : (tpCs n).all (ltC (n + 2)) = true := al_k (al_c (ltV_q (by omega)) (al_c rfl (al_c rfl (al_c rfl rfl)))) rfl
theorem ct64n {n : Nat} (hh : h.all (ltC n) = true) (hn : h.length = n) (h9 : n < 7500) (hK : K none (h ++ tpCs n)) : E scr true (d + 1) 64 0 [.ref n] [] (h ++ [.inr (6, aDef 6)]) K := by
  subst hn
  exact ct64 hh (by omega) hK
def grFs (n : Nat) : List Value := [.ref (n + 1), .ref (n + 2), .ref (n + 3), .ref (n + 4)]
def grRs : aH := [.inl (1, .inl (List.replicate 144 0)), .inl (1, .inl (List.replicate 144 0)), .inl (2, .inr (.inl (List.replicate 432 0))), .inl (2, .inr (.inl (List.replicate 432 0)))]
def grCs (n : Nat) : aH := .inr (0, grFs n) :: grRs
theorem grCs_ok {n : Nat} : (grCs n).all (ltC (n + 5)) = true := al_k (show List.all _ _ = true from (al_c (ltV_q (by omega)) (al_c (ltV_q (by omega)) (al_c (ltV_q (by omega)) (al_c (ltV_q (by omega)) rfl))))) rfl
theorem ct0 {n : Nat} (hh : h.all (ltC n) = true) (hn : h.length = n) (h9 : n < 7500) (hK : K none (h ++ grCs n)) : E scr true (d + 1) 0 0 [.ref n] [] (h ++ [.inr (0, aDef 0)]) K := by
  have hL : (Value.ref n :: []).all (ltV (n + 1)) = true := (al_c (ltV_q (by omega)) rfl)
  have hO : OB n 4 0 h [.null, .null, .null, .null] [] := ⟨hn, by omega, hh, rfl, rfl, rfl, rfl⟩
  refine E_s q0_0 rfl rfl ?_
  refine E_iobj (d := d) q0_1 (by decide) ?_
  show E scr true (d + 1) 0 4 [.ref n] [] (h ++ (.inr (0, [.null, .null, .null, .null]) :: [])) K
  refine E_row (M := 0) (M' := 1) (m := n + 1) (pe := 13) (fs' := [.ref (n + 1), .null, .null, .null]) (cl := .inl (1, .inl (List.replicate 144 0))) hO (by decide) hL rfl mn0 rfl rfl rfl rfl rfl q0_4 q0_5 rfl (fun _ _ => rfl) (fun hw he => E_naI (k := 144) q0_8 hw (by decide) (by decide) (by decide) he) rfl q0_10 (fun _ => rfl) (fun _ => rfl) (by decide) (fun hO => ?_)
  refine E_row (M := 1) (M' := 2) (m := n + 2) (pe := 22) (fs' := [.ref (n + 1), .ref (n + 2), .null, .null]) (cl := .inl (1, .inl (List.replicate 144 0))) hO (by decide) hL rfl mn0 rfl rfl rfl rfl rfl q0_13 q0_14 rfl (fun _ _ => rfl) (fun hw he => E_naI (k := 144) q0_17 hw (by decide) (by decide) (by decide) he) rfl q0_19 (fun _ => rfl) (fun _ => rfl) (by decide) (fun hO => ?_)
  refine E_row (M := 2) (M' := 3) (m := n + 3) (pe := 31) (fs' := [.ref (n + 1), .ref (n + 2), .ref (n + 3), .null]) (cl := .inl (2, .inr (.inl (List.replicate 432 0)))) hO (by decide) hL rfl mn0 rfl rfl rfl rfl rfl q0_22 q0_23 rfl (fun _ _ => rfl) (fun hw he => E_naJ (k := 432) q0_26 hw (by decide) (by decide) (by decide) he) rfl q0_28 (fun _ => rfl) (fun _ => rfl) (by decide) (fun hO => ?_)
  refine E_row (M := 3) (M' := 4) (m := n + 4) (pe := 40) (fs' := [.ref (n + 1), .ref (n + 2), .ref (n + 3), .ref (n + 4)]) (cl := .inl (2, .inr (.inl (List.replicate 432 0)))) hO (by decide) hL rfl mn0 rfl rfl rfl rfl rfl q0_31 q0_32 rfl (fun _ _ => rfl) (fun hw he => E_naJ (k := 432) q0_35 hw (by decide) (by decide) (by decide) he) rfl q0_37 (fun _ => rfl) (fun _ => rfl) (by decide) (fun hO => ?_)
  rw [E_vret q0_40 mq0]
  exact hK
def lwFs (n : Nat) : List Value := [.int 0, .ref (n + 1), .ref (n + 2), .int 0, .ref (n + 3)]
def lwRs : aH := [.inl (1, .inl (List.replicate 12 0)), .inl (1, .inl (List.replicate 12 0)), .inl (1, .inl (List.replicate 400 0))]
def lwCs (n : Nat) : aH := .inr (1, lwFs n) :: lwRs
theorem lwCs_ok {n : Nat} : (lwCs n).all (ltC (n + 4)) = true := al_k (show List.all _ _ = true from (al_c rfl (al_c (ltV_q (by omega)) (al_c (ltV_q (by omega)) (al_c rfl (al_c (ltV_q (by omega)) rfl)))))) rfl
theorem ct3 {n : Nat} (hh : h.all (ltC n) = true) (hn : h.length = n) (h9 : n < 7500) (hK : K none (h ++ lwCs n)) : E scr true (d + 1) 3 0 [.ref n] [] (h ++ [.inr (1, aDef 1)]) K := by
  have hL : (Value.ref n :: []).all (ltV (n + 1)) = true := (al_c (ltV_q (by omega)) rfl)
  have hO : OB n 5 0 h [.int 0, .null, .null, .int 0, .null] [] := ⟨hn, by omega, hh, rfl, rfl, rfl, rfl⟩
  refine E_s q3_0 rfl rfl ?_
  refine E_iobj (d := d) q3_1 (by decide) ?_
  show E scr true (d + 1) 3 4 [.ref n] [] (h ++ (.inr (1, [.int 0, .null, .null, .int 0, .null]) :: [])) K
  refine E_row (M := 0) (M' := 1) (m := n + 1) (pe := 12) (fs' := [.int 0, .ref (n + 1), .null, .int 0, .null]) (cl := .inl (1, .inl (List.replicate 12 0))) hO (by decide) hL rfl mn3 rfl rfl rfl rfl rfl q3_4 q3_5 rfl (fun _ _ => rfl) (fun hw he => E_naI (k := 12) q3_7 hw (by decide) (by decide) (by decide) he) rfl q3_9 (fun _ => rfl) (fun _ => rfl) (by decide) (fun hO => ?_)
  refine E_row (M := 1) (M' := 2) (m := n + 2) (pe := 20) (fs' := [.int 0, .ref (n + 1), .ref (n + 2), .int 0, .null]) (cl := .inl (1, .inl (List.replicate 12 0))) hO (by decide) hL rfl mn3 rfl rfl rfl rfl rfl q3_12 q3_13 rfl (fun _ _ => rfl) (fun hw he => E_naI (k := 12) q3_15 hw (by decide) (by decide) (by decide) he) rfl q3_17 (fun _ => rfl) (fun _ => rfl) (by decide) (fun hO => ?_)
  refine E_row (M := 2) (M' := 3) (m := n + 3) (pe := 29) (fs' := [.int 0, .ref (n + 1), .ref (n + 2), .int 0, .ref (n + 3)]) (cl := .inl (1, .inl (List.replicate 400 0))) hO (by decide) hL rfl mn3 rfl rfl rfl rfl rfl q3_20 q3_21 rfl (fun _ _ => rfl) (fun hw he => E_naI (k := 400) q3_24 hw (by decide) (by decide) (by decide) he) rfl q3_26 (fun _ => rfl) (fun _ => rfl) (by decide) (fun hO => ?_)
  rw [E_vret q3_29 mq3]
  exact hK
def wkFs (n g : Nat) : List Value := [.ref g, .ref (n + 1), .ref (n + 2), .int 0, .int 0, .int 0, .ref (n + 3), .int 0]
def wkRs : aH := [.inl (2, .inr (.inl (List.replicate 64 0))), .inl (1, .inl (List.replicate 14 0)), .inl (1, .inl (List.replicate 12 0))]
def wkCs (n g : Nat) : aH := .inr (7, wkFs n g) :: wkRs
theorem wkCs_ok {n g : Nat} (hg : g < n) : (wkCs n g).all (ltC (n + 4)) = true := al_k (show List.all _ _ = true from (al_c (ltV_q (by omega)) (al_c (ltV_q (by omega)) (al_c (ltV_q (by omega)) (al_c rfl (al_c rfl (al_c rfl (al_c (ltV_q (by omega)) (al_c rfl rfl))))))))) rfl
theorem ct77 {n g : Nat} (hh : h.all (ltC n) = true) (hn : h.length = n) (h9 : n < 7500) (hg : g < n) (hK : K none (h ++ wkCs n g)) : E scr true (d + 1) 77 0 [.ref n, .ref g] [] (h ++ [.inr (7, aDef 7)]) K := by
  have hL : (Value.ref n :: [.ref g]).all (ltV (n + 1)) = true := (al_c (ltV_q (by omega)) (al_c (ltV_q (by omega)) rfl))
  have hO : OB n 8 0 h [.null, .null, .null, .int 0, .int 0, .int 0, .null, .int 0] [] := ⟨hn, by omega, hh, rfl, rfl, rfl, rfl⟩
  refine E_s q77_0 rfl rfl ?_
  refine E_iobj (d := d) q77_1 (by decide) ?_
  show E scr true (d + 1) 77 4 [.ref n, .ref g] [] (h ++ (.inr (7, [.null, .null, .null, .int 0, .int 0, .int 0, .null, .int 0]) :: [])) K
  refine E_row (M := 0) (M' := 1) (m := n + 1) (pe := 12) (fs' := [.null, .ref (n + 1), .null, .int 0, .int 0, .int 0, .null, .int 0]) (cl := .inl (2, .inr (.inl (List.replicate 64 0)))) hO (by decide) hL rfl mn77 rfl rfl rfl rfl rfl q77_4 q77_5 rfl (fun _ _ => rfl) (fun hw he => E_naJ (k := 64) q77_7 hw (by decide) (by decide) (by decide) he) rfl q77_9 (fun _ => rfl) (fun _ => rfl) (by decide) (fun hO => ?_)
  refine E_row (M := 1) (M' := 2) (m := n + 2) (pe := 20) (fs' := [.null, .ref (n + 1), .ref (n + 2), .int 0, .int 0, .int 0, .null, .int 0]) (cl := .inl (1, .inl (List.replicate 14 0))) hO (by decide) hL rfl mn77 rfl rfl rfl rfl rfl q77_12 q77_13 rfl (fun _ _ => rfl) (fun hw he => E_naI (k := 14) q77_15 hw (by decide) (by decide) (by decide) he) rfl q77_17 (fun _ => rfl) (fun _ => rfl) (by decide) (fun hO => ?_)
  refine E_row (M := 2) (M' := 3) (m := n + 3) (pe := 28) (fs' := [.null, .ref (n + 1), .ref (n + 2), .int 0, .int 0, .int 0, .ref (n + 3), .int 0]) (cl := .inl (1, .inl (List.replicate 12 0))) hO (by decide) hL rfl mn77 rfl rfl rfl rfl rfl q77_20 q77_21 rfl (fun _ _ => rfl) (fun hw he => E_naI (k := 12) q77_23 hw (by decide) (by decide) (by decide) he) rfl q77_25 (fun _ => rfl) (fun _ => rfl) (by decide) (fun hO => ?_)
  refine E_arg (M := 3) (p := g) (pe := 33) (fs' := [.ref g, .ref (n + 1), .ref (n + 2), .int 0, .int 0, .int 0, .ref (n + 3), .int 0]) hO mn77 hg rfl rfl q77_28 q77_29 (fun _ _ => rfl) q77_30 (fun _ => rfl) (fun _ => rfl) (by decide) (fun hO => ?_)
  rw [E_vret q77_33 mq77]
  exact hK
def lrCs (n t : Nat) : aH := [.inr (2, [.ref t, .null, .int 0])]
theorem lrCs_ok {n t : Nat} (ht : t < n) : (lrCs n t).all (ltC (n + 1)) = true := al_k (show List.all _ _ = true from (al_c (ltV_q (by omega)) (al_c rfl (al_c rfl rfl)))) rfl
theorem ct7 {n t : Nat} (hh : h.all (ltC n) = true) (hn : h.length = n) (h9 : n < 7500) (ht : t < n) (hK : K none (h ++ lrCs n t)) : E scr true (d + 1) 7 0 [.ref n, .ref t] [] (h ++ [.inr (2, aDef 2)]) K := by
  have hL : (Value.ref n :: [.ref t]).all (ltV (n + 1)) = true := (al_c (ltV_q (by omega)) (al_c (ltV_q (by omega)) rfl))
  have hO : OB n 3 0 h [.null, .null, .int 0] [] := ⟨hn, by omega, hh, rfl, rfl, rfl, rfl⟩
  refine E_s q7_0 rfl rfl ?_
  refine E_iobj (d := d) q7_1 (by decide) ?_
  show E scr true (d + 1) 7 4 [.ref n, .ref t] [] (h ++ (.inr (2, [.null, .null, .int 0]) :: [])) K
  refine E_arg (M := 0) (p := t) (pe := 9) (fs' := [.ref t, .null, .int 0]) hO mn7 ht rfl rfl q7_4 q7_5 (fun _ _ => rfl) q7_6 (fun _ => rfl) (fun _ => rfl) (by decide) (fun hO => ?_)
  rw [E_vret q7_9 mq7]
  exact hK
def prCs (n t s : Nat) : aH := [.inr (3, [.ref t, .ref s])]
theorem prCs_ok {n t s : Nat} (ht : t < n) (hs : s < n) : (prCs n t s).all (ltC (n + 1)) = true := al_k (show List.all _ _ = true from (al_c (ltV_q (by omega)) (al_c (ltV_q (by omega)) rfl))) rfl
theorem ct18 {n t s : Nat} (hh : h.all (ltC n) = true) (hn : h.length = n) (h9 : n < 7500) (ht : t < n) (hs : s < n) (hK : K none (h ++ prCs n t s)) : E scr true (d + 1) 18 0 [.ref n, .ref t, .ref s] [] (h ++ [.inr (3, aDef 3)]) K := by
  have hL : (Value.ref n :: [.ref t, .ref s]).all (ltV (n + 1)) = true := (al_c (ltV_q (by omega)) (al_c (ltV_q (by omega)) (al_c (ltV_q (by omega)) rfl)))
  have hO : OB n 2 0 h [.null, .null] [] := ⟨hn, by omega, hh, rfl, rfl, rfl, rfl⟩
  refine E_s q18_0 rfl rfl ?_
  refine E_iobj (d := d) q18_1 (by decide) ?_
  show E scr true (d + 1) 18 4 [.ref n, .ref t, .ref s] [] (h ++ (.inr (3, [.null, .null]) :: [])) K
  refine E_arg (M := 0) (p := t) (pe := 9) (fs' := [.ref t, .null]) hO mn18 ht rfl rfl q18_4 q18_5 (fun _ _ => rfl) q18_6 (fun _ => rfl) (fun _ => rfl) (by decide) (fun hO => ?_)
  refine E_arg (M := 0) (p := s) (pe := 14) (fs' := [.ref t, .ref s]) hO mn18 hs rfl rfl q18_9 q18_10 (fun _ _ => rfl) q18_11 (fun _ => rfl) (fun _ => rfl) (by decide) (fun hO => ?_)
  rw [E_vret q18_14 mq18]
  exact hK
theorem scCs_ok {n : Nat} : (scCs n).all (ltC (n + 10)) = true := al_k (show List.all _ _ = true from (al_c rfl (al_c rfl (al_c rfl (al_c rfl (al_c rfl (al_c rfl (al_c rfl (al_c rfl (al_c (ltV_q (by omega)) (al_c (ltV_q (by omega)) (al_c (ltV_q (by omega)) (al_c (ltV_q (by omega)) (al_c (ltV_q (by omega)) (al_c (ltV_q (by omega)) (al_c (ltV_q (by omega)) (al_c (ltV_q (by omega)) (al_c (ltV_q (by omega)) rfl)))))))))))))))))) rfl
theorem ct49 {n : Nat} (hh : h.all (ltC n) = true) (hn : h.length = n) (h9 : n < 7500) (hK : K none (h ++ scCs n)) : E scr true (d + 1 + 1) 49 0 [.ref n] [] (h ++ [.inr (5, aDef 5)]) K := by
  have hL : (Value.ref n :: []).all (ltV (n + 1)) = true := (al_c (ltV_q (by omega)) rfl)
  have hO : OB n 17 0 h [.int 0, .int 0, .int 0, .int 0, .int 0, .int 0, .int 0, .int 0, .null, .null, .null, .null, .null, .null, .null, .null, .null] [] := ⟨hn, by omega, hh, rfl, rfl, rfl, rfl⟩
  refine E_s q49_0 rfl rfl ?_
  refine E_iobj (d := d + 1) q49_1 (by decide) ?_
  show E scr true (d + 1 + 1) 49 4 [.ref n] [] (h ++ (.inr (5, [.int 0, .int 0, .int 0, .int 0, .int 0, .int 0, .int 0, .int 0, .null, .null, .null, .null, .null, .null, .null, .null, .null]) :: [])) K
  refine E_row (M := 0) (M' := 1) (m := n + 1) (pe := 13) (fs' := [.int 0, .int 0, .int 0, .int 0, .int 0, .int 0, .int 0, .int 0, .ref (n + 1), .null, .null, .null, .null, .null, .null, .null, .null]) (cl := .inl (0, .inl (List.replicate 144 0))) hO (by decide) hL rfl mn49 rfl rfl rfl rfl rfl q49_4 q49_5 rfl (fun _ _ => rfl) (fun hw he => E_naB (k := 144) q49_8 hw (by decide) (by decide) (by decide) he) rfl q49_10 (fun _ => rfl) (fun _ => rfl) (by decide) (fun hO => ?_)
  refine E_row (M := 1) (M' := 2) (m := n + 2) (pe := 22) (fs' := [.int 0, .int 0, .int 0, .int 0, .int 0, .int 0, .int 0, .int 0, .ref (n + 1), .ref (n + 2), .null, .null, .null, .null, .null, .null, .null]) (cl := .inl (0, .inl (List.replicate 144 0))) hO (by decide) hL rfl mn49 rfl rfl rfl rfl rfl q49_13 q49_14 rfl (fun _ _ => rfl) (fun hw he => E_naB (k := 144) q49_17 hw (by decide) (by decide) (by decide) he) rfl q49_19 (fun _ => rfl) (fun _ => rfl) (by decide) (fun hO => ?_)
  refine E_row (M := 2) (M' := 3) (m := n + 3) (pe := 30) (fs' := [.int 0, .int 0, .int 0, .int 0, .int 0, .int 0, .int 0, .int 0, .ref (n + 1), .ref (n + 2), .ref (n + 3), .null, .null, .null, .null, .null, .null]) (cl := .inl (1, .inl (List.replicate 14 0))) hO (by decide) hL rfl mn49 rfl rfl rfl rfl rfl q49_22 q49_23 rfl (fun _ _ => rfl) (fun hw he => E_naI (k := 14) q49_25 hw (by decide) (by decide) (by decide) he) rfl q49_27 (fun _ => rfl) (fun _ => rfl) (by decide) (fun hO => ?_)
  refine E_row (M := 3) (M' := 4) (m := n + 4) (pe := 38) (fs' := [.int 0, .int 0, .int 0, .int 0, .int 0, .int 0, .int 0, .int 0, .ref (n + 1), .ref (n + 2), .ref (n + 3), .ref (n + 4), .null, .null, .null, .null, .null]) (cl := .inl (1, .inl (List.replicate 12 0))) hO (by decide) hL rfl mn49 rfl rfl rfl rfl rfl q49_30 q49_31 rfl (fun _ _ => rfl) (fun hw he => E_naI (k := 12) q49_33 hw (by decide) (by decide) (by decide) he) rfl q49_35 (fun _ => rfl) (fun _ => rfl) (by decide) (fun hO => ?_)
  refine E_row (M := 4) (M' := 5) (m := n + 5) (pe := 46) (fs' := [.int 0, .int 0, .int 0, .int 0, .int 0, .int 0, .int 0, .int 0, .ref (n + 1), .ref (n + 2), .ref (n + 3), .ref (n + 4), .ref (n + 5), .null, .null, .null, .null]) (cl := .inl (1, .inl (List.replicate 12 0))) hO (by decide) hL rfl mn49 rfl rfl rfl rfl rfl q49_38 q49_39 rfl (fun _ _ => rfl) (fun hw he => E_naI (k := 12) q49_41 hw (by decide) (by decide) (by decide) he) rfl q49_43 (fun _ => rfl) (fun _ => rfl) (by decide) (fun hO => ?_)
  refine E_row (M := 5) (M' := 6) (m := n + 6) (pe := 54) (fs' := [.int 0, .int 0, .int 0, .int 0, .int 0, .int 0, .int 0, .int 0, .ref (n + 1), .ref (n + 2), .ref (n + 3), .ref (n + 4), .ref (n + 5), .ref (n + 6), .null, .null, .null]) (cl := .inl (1, .inl (List.replicate 12 0))) hO (by decide) hL rfl mn49 rfl rfl rfl rfl rfl q49_46 q49_47 rfl (fun _ _ => rfl) (fun hw he => E_naI (k := 12) q49_49 hw (by decide) (by decide) (by decide) he) rfl q49_51 (fun _ => rfl) (fun _ => rfl) (by decide) (fun hO => ?_)
  refine E_row (M := 6) (M' := 7) (m := n + 7) (pe := 62) (fs' := [.int 0, .int 0, .int 0, .int 0, .int 0, .int 0, .int 0, .int 0, .ref (n + 1), .ref (n + 2), .ref (n + 3), .ref (n + 4), .ref (n + 5), .ref (n + 6), .ref (n + 7), .null, .null]) (cl := .inl (1, .inl (List.replicate 40 0))) hO (by decide) hL rfl mn49 rfl rfl rfl rfl rfl q49_54 q49_55 rfl (fun _ _ => rfl) (fun hw he => E_naI (k := 40) q49_57 hw (by decide) (by decide) (by decide) he) rfl q49_59 (fun _ => rfl) (fun _ => rfl) (by decide) (fun hO => ?_)
  refine E_row (M := 7) (M' := 8) (m := n + 8) (pe := 70) (fs' := [.int 0, .int 0, .int 0, .int 0, .int 0, .int 0, .int 0, .int 0, .ref (n + 1), .ref (n + 2), .ref (n + 3), .ref (n + 4), .ref (n + 5), .ref (n + 6), .ref (n + 7), .ref (n + 8), .null]) (cl := .inl (1, .inl (List.replicate 40 0))) hO (by decide) hL rfl mn49 rfl rfl rfl rfl rfl q49_62 q49_63 rfl (fun _ _ => rfl) (fun hw he => E_naI (k := 40) q49_65 hw (by decide) (by decide) (by decide) he) rfl q49_67 (fun _ => rfl) (fun _ => rfl) (by decide) (fun hO => ?_)
  refine E_row (M := 8) (M' := 9) (m := n + 9) (pe := 78) (fs' := [.int 0, .int 0, .int 0, .int 0, .int 0, .int 0, .int 0, .int 0, .ref (n + 1), .ref (n + 2), .ref (n + 3), .ref (n + 4), .ref (n + 5), .ref (n + 6), .ref (n + 7), .ref (n + 8), .ref (n + 9)]) (cl := .inl (1, .inl (List.replicate 40 0))) hO (by decide) hL rfl mn49 rfl rfl rfl rfl rfl q49_70 q49_71 rfl (fun _ _ => rfl) (fun hw he => E_naI (k := 40) q49_73 hw (by decide) (by decide) (by decide) he) rfl q49_75 (fun _ => rfl) (fun _ => rfl) (by decide) (fun hO => ?_)
  refine E_s (w := (79, [.ref n], [.ref n], _)) q49_78 rfl rfl ?_
  show E scr true (d + 1 + 1) 49 79 [.ref n] [.ref n] (h ++ (.inr (5, scFs n) :: scRs 0)) K
  rw [E_vV (d := d + 1) (st := [.ref n]) q49_79 (As := [.ref n]) (rest := []) (cut_n mi50.1 rfl rfl) (rm8_n mi50.2.1 (Nat.le_of_ble_eq_true rfl) (Nat.le_of_ble_eq_true rfl)) mi50.2.2 (fun _ => rfl), wipe_new hn (by omega)]
  rw [E_vret q49_82 mq49]
  exact hK
end CT9
