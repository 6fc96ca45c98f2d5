variable {scr : List Int32}
-- ===== the constructors: the class, the law's beginning =====
section CTC
variable {d : Nat} {h : aH} {K : Option Value → aH → Prop}
theorem mn91 : mIni 91 = some 8 := by decide +kernel
theorem mc91 : mCi 91 = 8 := by decide +kernel
theorem mq91 : mRet 91 = none := by decide +kernel
theorem q91_0 : rowAt 91 0 = some (.aload_n 0, 1, 0, 0) := by decide +kernel
theorem q91_1 : rowAt 91 1 = some (.invokespecial 1, 3, 0, 3) := by decide +kernel
theorem q91_4 : rowAt 91 4 = some (.aload_n 0, 1, 0, 0) := by decide +kernel
theorem q91_5 : rowAt 91 5 = some (.new 7, 3, 6, 0) := by decide +kernel
theorem q91_8 : rowAt 91 8 = some (.dup, 1, 0, 0) := by decide +kernel
theorem q91_9 : rowAt 91 9 = some (.invokespecial 9, 3, 64, 2) := by decide +kernel
theorem q91_12 : rowAt 91 12 = some (.putfield 10, 3, 8, 0) := by decide +kernel
theorem q91_15 : rowAt 91 15 = some (.aload_n 0, 1, 0, 0) := by decide +kernel
theorem q91_16 : rowAt 91 16 = some (.new 16, 3, 5, 0) := by decide +kernel
theorem q91_19 : rowAt 91 19 = some (.dup, 1, 0, 0) := by decide +kernel
theorem q91_20 : rowAt 91 20 = some (.invokespecial 18, 3, 49, 2) := by decide +kernel
theorem q91_23 : rowAt 91 23 = some (.putfield 19, 3, 8, 1) := by decide +kernel
theorem q91_26 : rowAt 91 26 = some (.aload_n 0, 1, 0, 0) := by decide +kernel
theorem q91_27 : rowAt 91 27 = some (.new 16, 3, 5, 0) := by decide +kernel
theorem q91_30 : rowAt 91 30 = some (.dup, 1, 0, 0) := by decide +kernel
theorem q91_31 : rowAt 91 31 = some (.invokespecial 18, 3, 49, 2) := by decide +kernel
theorem q91_34 : rowAt 91 34 = some (.putfield 23, 3, 8, 2) := by decide +kernel
theorem q91_37 : rowAt 91 37 = some (.aload_n 0, 1, 0, 0) := by decide +kernel
theorem q91_38 : rowAt 91 38 = some (.new 26, 3, 3, 0) := by decide +kernel
theorem q91_41 : rowAt 91 41 = some (.dup, 1, 0, 0) := by decide +kernel
theorem q91_42 : rowAt 91 42 = some (.aload_n 0, 1, 0, 0) := by decide +kernel
theorem q91_43 : rowAt 91 43 = some (.getfield 10, 3, 8, 0) := by decide +kernel
theorem q91_46 : rowAt 91 46 = some (.aload_n 0, 1, 0, 0) := by decide +kernel
theorem q91_47 : rowAt 91 47 = some (.getfield 23, 3, 8, 2) := by decide +kernel
theorem q91_50 : rowAt 91 50 = some (.invokespecial 28, 3, 18, 2) := by decide +kernel
theorem q91_53 : rowAt 91 53 = some (.putfield 31, 3, 8, 3) := by decide +kernel
theorem q91_56 : rowAt 91 56 = some (.aload_n 0, 1, 0, 0) := by decide +kernel
theorem q91_57 : rowAt 91 57 = some (.new 35, 3, 2, 0) := by decide +kernel
theorem q91_60 : rowAt 91 60 = some (.dup, 1, 0, 0) := by decide +kernel
theorem q91_61 : rowAt 91 61 = some (.aload_n 0, 1, 0, 0) := by decide +kernel
theorem q91_62 : rowAt 91 62 = some (.getfield 10, 3, 8, 0) := by decide +kernel
theorem q91_65 : rowAt 91 65 = some (.invokespecial 37, 3, 7, 2) := by decide +kernel
theorem q91_68 : rowAt 91 68 = some (.putfield 40, 3, 8, 4) := by decide +kernel
theorem q91_71 : rowAt 91 71 = some (.aload_n 0, 1, 0, 0) := by decide +kernel
theorem q91_72 : rowAt 91 72 = some (.bipush 6, 2, 0, 0) := by decide +kernel
theorem q91_74 : rowAt 91 74 = some (.anewarray 44, 3, 4, 0) := by decide +kernel
theorem q91_77 : rowAt 91 77 = some (.putfield 46, 3, 8, 5) := by decide +kernel
theorem q91_80 : rowAt 91 80 = some (.iconst 0, 1, 0, 0) := by decide +kernel
theorem q91_81 : rowAt 91 81 = some (.istore_n 1, 1, 0, 0) := by decide +kernel
theorem q91_82 : rowAt 91 82 = some (.iload_n 1, 1, 0, 0) := by decide +kernel
theorem q91_83 : rowAt 91 83 = some (.bipush 6, 2, 0, 0) := by decide +kernel
theorem q91_85 : rowAt 91 85 = some (.if_icmp .ge 22, 3, 0, 0) := by decide +kernel
theorem q91_88 : rowAt 91 88 = some (.aload_n 0, 1, 0, 0) := by decide +kernel
theorem q91_89 : rowAt 91 89 = some (.getfield 46, 3, 8, 5) := by decide +kernel
theorem q91_92 : rowAt 91 92 = some (.iload_n 1, 1, 0, 0) := by decide +kernel
theorem q91_93 : rowAt 91 93 = some (.new 44, 3, 1, 0) := by decide +kernel
theorem q91_96 : rowAt 91 96 = some (.dup, 1, 0, 0) := by decide +kernel
theorem q91_97 : rowAt 91 97 = some (.invokespecial 50, 3, 3, 2) := by decide +kernel
theorem q91_100 : rowAt 91 100 = some (.aastore, 1, 0, 0) := by decide +kernel
theorem q91_101 : rowAt 91 101 = some (.iinc 1 1, 3, 0, 0) := by decide +kernel
theorem q91_104 : rowAt 91 104 = some (.goto (-22), 3, 0, 0) := by decide +kernel
theorem q91_107 : rowAt 91 107 = some (.aload_n 0, 1, 0, 0) := by decide +kernel
theorem q91_108 : rowAt 91 108 = some (.iconst 0, 1, 0, 0) := by decide +kernel
theorem q91_109 : rowAt 91 109 = some (.putfield 51, 3, 8, 6) := by decide +kernel
theorem q91_112 : rowAt 91 112 = some (.aload_n 0, 1, 0, 0) := by decide +kernel
theorem q91_113 : rowAt 91 113 = some (.new 55, 3, 0, 0) := by decide +kernel
theorem q91_116 : rowAt 91 116 = some (.dup, 1, 0, 0) := by decide +kernel
theorem q91_117 : rowAt 91 117 = some (.invokespecial 57, 3, 0, 2) := by decide +kernel
theorem q91_120 : rowAt 91 120 = some (.putfield 58, 3, 8, 7) := by decide +kernel
theorem q91_123 : rowAt 91 123 = some (.aload_n 0, 1, 0, 0) := by decide +kernel
theorem q91_124 : rowAt 91 124 = some (.new 62, 3, 7, 0) := by decide +kernel
theorem q91_127 : rowAt 91 127 = some (.dup, 1, 0, 0) := by decide +kernel
theorem q91_128 : rowAt 91 128 = some (.aload_n 0, 1, 0, 0) := by decide +kernel
theorem q91_129 : rowAt 91 129 = some (.getfield 58, 3, 8, 7) := by decide +kernel
theorem q91_132 : rowAt 91 132 = some (.invokespecial 64, 3, 77, 2) := by decide +kernel
theorem q91_135 : rowAt 91 135 = some (.putfield 67, 3, 8, 8) := by decide +kernel
theorem q91_138 : rowAt 91 138 = some (.aload_n 0, 1, 0, 0) := by decide +kernel
theorem q91_139 : rowAt 91 139 = some (.new 71, 3, 4, 0) := by decide +kernel
theorem q91_142 : rowAt 91 142 = some (.dup, 1, 0, 0) := by decide +kernel
theorem q91_143 : rowAt 91 143 = some (.aload_n 0, 1, 0, 0) := by decide +kernel
theorem q91_144 : rowAt 91 144 = some (.getfield 19, 3, 8, 1) := by decide +kernel
theorem q91_147 : rowAt 91 147 = some (.aload_n 0, 1, 0, 0) := by decide +kernel
theorem q91_148 : rowAt 91 148 = some (.getfield 67, 3, 8, 8) := by decide +kernel
theorem q91_151 : rowAt 91 151 = some (.aload_n 0, 1, 0, 0) := by decide +kernel
theorem q91_152 : rowAt 91 152 = some (.getfield 58, 3, 8, 7) := by decide +kernel
theorem q91_155 : rowAt 91 155 = some (.invokespecial 73, 3, 26, 2) := by decide +kernel
theorem q91_158 : rowAt 91 158 = some (.putfield 76, 3, 8, 9) := by decide +kernel
theorem q91_161 : rowAt 91 161 = some (.aload_n 0, 1, 0, 0) := by decide +kernel
theorem q91_162 : rowAt 91 162 = some (.iconst 4, 1, 0, 0) := by decide +kernel
theorem q91_163 : rowAt 91 163 = some (.anewarray 16, 3, 5, 0) := by decide +kernel
theorem q91_166 : rowAt 91 166 = some (.putfield 80, 3, 8, 10) := by decide +kernel
theorem q91_169 : rowAt 91 169 = some (.iconst 0, 1, 0, 0) := by decide +kernel
theorem q91_170 : rowAt 91 170 = some (.istore_n 1, 1, 0, 0) := by decide +kernel
theorem q91_171 : rowAt 91 171 = some (.iload_n 1, 1, 0, 0) := by decide +kernel
theorem q91_172 : rowAt 91 172 = some (.iconst 4, 1, 0, 0) := by decide +kernel
theorem q91_173 : rowAt 91 173 = some (.if_icmp .ge 22, 3, 0, 0) := by decide +kernel
theorem q91_176 : rowAt 91 176 = some (.aload_n 0, 1, 0, 0) := by decide +kernel
theorem q91_177 : rowAt 91 177 = some (.getfield 80, 3, 8, 10) := by decide +kernel
theorem q91_180 : rowAt 91 180 = some (.iload_n 1, 1, 0, 0) := by decide +kernel
theorem q91_181 : rowAt 91 181 = some (.new 16, 3, 5, 0) := by decide +kernel
theorem q91_184 : rowAt 91 184 = some (.dup, 1, 0, 0) := by decide +kernel
theorem q91_185 : rowAt 91 185 = some (.invokespecial 18, 3, 49, 2) := by decide +kernel
theorem q91_188 : rowAt 91 188 = some (.aastore, 1, 0, 0) := by decide +kernel
theorem q91_189 : rowAt 91 189 = some (.iinc 1 1, 3, 0, 0) := by decide +kernel
theorem q91_192 : rowAt 91 192 = some (.goto (-21), 3, 0, 0) := by decide +kernel
theorem q91_195 : rowAt 91 195 = some (.aload_n 0, 1, 0, 0) := by decide +kernel
theorem q91_196 : rowAt 91 196 = some (.iconst 4, 1, 0, 0) := by decide +kernel
theorem q91_197 : rowAt 91 197 = some (.newarray .boolean, 2, 0, 0) := by decide +kernel
theorem q91_199 : rowAt 91 199 = some (.putfield 84, 3, 8, 11) := by decide +kernel
theorem q91_202 : rowAt 91 202 = some (.return_, 1, 0, 0) := by decide +kernel
theorem q237_0 : rowAt 237 0 = some (.new 7, 3, 8, 0) := by decide +kernel
theorem q237_3 : rowAt 237 3 = some (.dup, 1, 0, 0) := by decide +kernel
theorem q237_4 : rowAt 237 4 = some (.invokespecial 9, 3, 91, 2) := by decide +kernel
theorem q237_7 : rowAt 237 7 = some (.astore_n 1, 1, 0, 0) := by decide +kernel
theorem q237_8 : rowAt 237 8 = some (.new 10, 3, 9, 0) := by decide +kernel
theorem q237_11 : rowAt 237 11 = some (.dup, 1, 0, 0) := by decide +kernel
theorem q237_12 : rowAt 237 12 = some (.invokespecial 12, 3, 120, 2) := by decide +kernel
theorem q237_15 : rowAt 237 15 = some (.astore_n 2, 1, 0, 0) := by decide +kernel
theorem q237_16 : rowAt 237 16 = some (.iconst 0, 1, 0, 0) := by decide +kernel
theorem q237_17 : rowAt 237 17 = some (.istore_n 3, 1, 0, 0) := by decide +kernel
def topH : aH := .inr (8, [.ref 1, .ref 3, .ref 13, .ref 23, .ref 24, .ref 25, .int 0, .ref 50, .ref 55, .ref 59, .ref 83, .ref 124]) :: ((((((((((([] ++ tpCs 1) ++ scCs 3) ++ scCs 13) ++ prCs 23 1 13) ++ lrCs 24 1) ++ (.inl (4, .inr (.inr [some 26, some 30, some 34, some 38, some 42, some 46])) :: (((((([] ++ (.inr (1, lwFs 26) :: lwRs)) ++ (.inr (1, lwFs 30) :: lwRs)) ++ (.inr (1, lwFs 34) :: lwRs)) ++ (.inr (1, lwFs 38) :: lwRs)) ++ (.inr (1, lwFs 42) :: lwRs)) ++ (.inr (1, lwFs 46) :: lwRs)))) ++ grCs 50) ++ wkCs 55 50) ++ plCs 59 3 55 50) ++ (.inl (5, .inr (.inr [some 84, some 94, some 104, some 114])) :: (((([] ++ (.inr (5, scFs 84) :: scRs (-1))) ++ (.inr (5, scFs 94) :: scRs (-1))) ++ (.inr (5, scFs 104) :: scRs (-1))) ++ (.inr (5, scFs 114) :: scRs (-1))))) ++ [.inl (3, .inl (List.replicate 4 0))])
theorem ct91 (hK : K none topH) : E scr true (d + 3 + 1) 91 0 [.ref 0, .null] [] [.inr (8, aDef 8)] K := by
  have hL : (Value.ref 0 :: [.null]).all (ltV (0 + 1)) = true := al_c (ltV_q (by omega)) (al_c rfl rfl)
  have hO : OB 0 12 0 [] [.null, .null, .null, .null, .null, .null, .int 0, .null, .null, .null, .null, .null] [] := ⟨rfl, by decide, rfl, rfl, rfl, rfl, rfl⟩
  refine E_s q91_0 rfl rfl ?_
  refine E_iobj (d := d + 3) q91_1 (by decide) ?_
  show E scr true (d + 3 + 1) 91 4 [.ref 0, .null] [] (([] : aH) ++ (.inr (8, [.null, .null, .null, .null, .null, .null, .int 0, .null, .null, .null, .null, .null]) :: [])) K
  refine E_nd (M := 0) (c := 6) (m := 1) (pe := 9) hO (by decide) rfl rfl hL rfl q91_4 q91_5 (by decide) q91_8 ?_
  refine E_cn (M := 0) (M' := 2) (k := 2) (m := 1) (pe := 12) (As := []) (rest := [.ref 1, .ref 0]) (cells := tpCs 1) hO (by decide) rfl rfl rfl rfl (alV_mo (by omega) hL) (al_c (ltV_q (by omega)) (al_c (ltV_q (by omega)) rfl)) q91_9 (cut_n mi64.1 rfl rfl) (rm8_n mi64.2.1 (Nat.le_of_ble_eq_true rfl) (Nat.le_of_ble_eq_true rfl)) mn64 mc64 mq64 rfl tpCs_ok (fun K' hk => by rw [ini_n mi64 (L := [.ref 1]) rfl]; exact ct64n (OB_all hO) (OB_len hO) (by omega)  hk) (fun hO => ?_)
  refine E_pt (M := 2) (pe := 15) (fs' := [.ref 1, .null, .null, .null, .null, .null, .int 0, .null, .null, .null, .null, .null]) hO rfl rfl q91_12 mn91 rfl rfl (by decide) (ltV_q (by omega)) (fun hO => ?_)
  refine E_nd (M := 2) (c := 5) (m := 3) (pe := 20) hO (by decide) rfl rfl hL rfl q91_15 q91_16 (by decide) q91_19 ?_
  refine E_cn (M := 2) (M' := 12) (k := 10) (m := 3) (pe := 23) (As := []) (rest := [.ref 3, .ref 0]) (cells := scCs 3) hO (by decide) rfl rfl rfl rfl (alV_mo (by omega) hL) (al_c (ltV_q (by omega)) (al_c (ltV_q (by omega)) rfl)) q91_20 (cut_n mi49.1 rfl rfl) (rm8_n mi49.2.1 (Nat.le_of_ble_eq_true rfl) (Nat.le_of_ble_eq_true rfl)) mn49 mc49 mq49 rfl scCs_ok (fun K' hk => by rw [ini_n mi49 (L := [.ref 3]) rfl]; exact ct49 (OB_all hO) (OB_len hO) (by omega)  hk) (fun hO => ?_)
  refine E_pt (M := 12) (pe := 26) (fs' := [.ref 1, .ref 3, .null, .null, .null, .null, .int 0, .null, .null, .null, .null, .null]) hO rfl rfl q91_23 mn91 rfl rfl (by decide) (ltV_q (by omega)) (fun hO => ?_)
  refine E_nd (M := 12) (c := 5) (m := 13) (pe := 31) hO (by decide) rfl rfl hL rfl q91_26 q91_27 (by decide) q91_30 ?_
  refine E_cn (M := 12) (M' := 22) (k := 10) (m := 13) (pe := 34) (As := []) (rest := [.ref 13, .ref 0]) (cells := scCs 13) hO (by decide) rfl rfl rfl rfl (alV_mo (by omega) hL) (al_c (ltV_q (by omega)) (al_c (ltV_q (by omega)) rfl)) q91_31 (cut_n mi49.1 rfl rfl) (rm8_n mi49.2.1 (Nat.le_of_ble_eq_true rfl) (Nat.le_of_ble_eq_true rfl)) mn49 mc49 mq49 rfl scCs_ok (fun K' hk => by rw [ini_n mi49 (L := [.ref 13]) rfl]; exact ct49 (OB_all hO) (OB_len hO) (by omega)  hk) (fun hO => ?_)
  refine E_pt (M := 22) (pe := 37) (fs' := [.ref 1, .ref 3, .ref 13, .null, .null, .null, .int 0, .null, .null, .null, .null, .null]) hO rfl rfl q91_34 mn91 rfl rfl (by decide) (ltV_q (by omega)) (fun hO => ?_)
  refine E_nd (M := 22) (c := 3) (m := 23) (pe := 42) hO (by decide) rfl rfl hL rfl q91_37 q91_38 (by decide) q91_41 ?_
  refine E_ga (pe := 46) (v := 1) hO.1 hO.2.1 rfl q91_42 q91_43 rfl rfl ?_
  refine E_ga (pe := 50) (v := 13) hO.1 hO.2.1 rfl q91_46 q91_47 rfl rfl ?_
  refine E_cn (M := 22) (M' := 23) (k := 1) (m := 23) (pe := 53) (As := [.ref 1, .ref 13]) (rest := [.ref 23, .ref 0]) (cells := prCs 23 1 13) hO (by decide) rfl rfl rfl rfl (alV_mo (by omega) hL) (al_c (ltV_q (by omega)) (al_c (ltV_q (by omega)) rfl)) q91_50 (cut_n mi18.1 rfl rfl) (rm8_n mi18.2.1 (Nat.le_of_ble_eq_true rfl) (Nat.le_of_ble_eq_true rfl)) mn18 mc18 mq18 rfl (prCs_ok (by omega) (by omega)) (fun K' hk => by rw [ini_n mi18 (L := [.ref 23, .ref 1, .ref 13]) rfl]; exact ct18 (OB_all hO) (OB_len hO) (by omega) (by omega) (by omega) hk) (fun hO => ?_)
  refine E_pt (M := 23) (pe := 56) (fs' := [.ref 1, .ref 3, .ref 13, .ref 23, .null, .null, .int 0, .null, .null, .null, .null, .null]) hO rfl rfl q91_53 mn91 rfl rfl (by decide) (ltV_q (by omega)) (fun hO => ?_)
  refine E_nd (M := 23) (c := 2) (m := 24) (pe := 61) hO (by decide) rfl rfl hL rfl q91_56 q91_57 (by decide) q91_60 ?_
  refine E_ga (pe := 65) (v := 1) hO.1 hO.2.1 rfl q91_61 q91_62 rfl rfl ?_
  refine E_cn (M := 23) (M' := 24) (k := 1) (m := 24) (pe := 68) (As := [.ref 1]) (rest := [.ref 24, .ref 0]) (cells := lrCs 24 1) hO (by decide) rfl rfl rfl rfl (alV_mo (by omega) hL) (al_c (ltV_q (by omega)) (al_c (ltV_q (by omega)) rfl)) q91_65 (cut_n mi7.1 rfl rfl) (rm8_n mi7.2.1 (Nat.le_of_ble_eq_true rfl) (Nat.le_of_ble_eq_true rfl)) mn7 mc7 mq7 rfl (lrCs_ok (by omega)) (fun K' hk => by rw [ini_n mi7 (L := [.ref 24, .ref 1]) rfl]; exact ct7 (OB_all hO) (OB_len hO) (by omega) (by omega) hk) (fun hO => ?_)
  refine E_pt (M := 24) (pe := 71) (fs' := [.ref 1, .ref 3, .ref 13, .ref 23, .ref 24, .null, .int 0, .null, .null, .null, .null, .null]) hO rfl rfl q91_68 mn91 rfl rfl (by decide) (ltV_q (by omega)) (fun hO => ?_)
  refine E_anr (M := 24) (M' := 25) (m := 25) (k := 6) (pe := 80) (fs' := [.ref 1, .ref 3, .ref 13, .ref 23, .ref 24, .ref 25, .int 0, .null, .null, .null, .null, .null]) hO (by decide) hL rfl mn91 rfl rfl rfl rfl rfl q91_71 q91_72 rfl (fun _ _ => rfl) q91_74 (by decide) (by decide) (by decide) (by decide) q91_77 (fun _ => rfl) (fun _ => rfl) (by decide) (fun hO => ?_)
  rw [E_ic q91_80 (v := nI 0) (by decide) rfl]
  refine E_s (w := (82, [.ref 0, .int (nI 0)], [], _)) q91_81 rfl rfl ?_
  refine E_it (c := 1) (cy := 3) (q := 25) (m := 26) (t := 4) (i := 0) (cnt := 6) (k := 4) (M := 25) (M' := 29) (tt := 107) (fc := lwFs 26) (cs := lwRs) (rs' := [some 26, none, none, none, none, none]) hO (by decide) (by decide +kernel) rfl rfl rfl rfl (by decide) (by decide) (by decide) (by decide) (by decide) q91_82 q91_83 rfl (fun _ _ => rfl) (by decide) q91_85 (by decide) q91_88 q91_89 rfl rfl q91_92 q91_93 q91_96 q91_97 mi3 (by decide) mn3 mc3 mq3 rfl lwCs_ok (fun K' hk => by rw [ini_n mi3 (L := [.ref 26]) rfl]; exact ct3 (OB_all hO) (OB_len hO) (by omega) hk) q91_100 q91_101 q91_104 (by decide) (fun hO => ?_)
  refine E_it (c := 1) (cy := 3) (q := 25) (m := 30) (t := 4) (i := 1) (cnt := 6) (k := 4) (M := 29) (M' := 33) (tt := 107) (fc := lwFs 30) (cs := lwRs) (rs' := [some 26, some 30, none, none, none, none]) hO (by decide) (by decide +kernel) rfl rfl rfl rfl (by decide) (by decide) (by decide) (by decide) (by decide) q91_82 q91_83 rfl (fun _ _ => rfl) (by decide) q91_85 (by decide) q91_88 q91_89 rfl rfl q91_92 q91_93 q91_96 q91_97 mi3 (by decide) mn3 mc3 mq3 rfl lwCs_ok (fun K' hk => by rw [ini_n mi3 (L := [.ref 30]) rfl]; exact ct3 (OB_all hO) (OB_len hO) (by omega) hk) q91_100 q91_101 q91_104 (by decide) (fun hO => ?_)
  refine E_it (c := 1) (cy := 3) (q := 25) (m := 34) (t := 4) (i := 2) (cnt := 6) (k := 4) (M := 33) (M' := 37) (tt := 107) (fc := lwFs 34) (cs := lwRs) (rs' := [some 26, some 30, some 34, none, none, none]) hO (by decide) (by decide +kernel) rfl rfl rfl rfl (by decide) (by decide) (by decide) (by decide) (by decide) q91_82 q91_83 rfl (fun _ _ => rfl) (by decide) q91_85 (by decide) q91_88 q91_89 rfl rfl q91_92 q91_93 q91_96 q91_97 mi3 (by decide) mn3 mc3 mq3 rfl lwCs_ok (fun K' hk => by rw [ini_n mi3 (L := [.ref 34]) rfl]; exact ct3 (OB_all hO) (OB_len hO) (by omega) hk) q91_100 q91_101 q91_104 (by decide) (fun hO => ?_)
  refine E_it (c := 1) (cy := 3) (q := 25) (m := 38) (t := 4) (i := 3) (cnt := 6) (k := 4) (M := 37) (M' := 41) (tt := 107) (fc := lwFs 38) (cs := lwRs) (rs' := [some 26, some 30, some 34, some 38, none, none]) hO (by decide) (by decide +kernel) rfl rfl rfl rfl (by decide) (by decide) (by decide) (by decide) (by decide) q91_82 q91_83 rfl (fun _ _ => rfl) (by decide) q91_85 (by decide) q91_88 q91_89 rfl rfl q91_92 q91_93 q91_96 q91_97 mi3 (by decide) mn3 mc3 mq3 rfl lwCs_ok (fun K' hk => by rw [ini_n mi3 (L := [.ref 38]) rfl]; exact ct3 (OB_all hO) (OB_len hO) (by omega) hk) q91_100 q91_101 q91_104 (by decide) (fun hO => ?_)
  refine E_it (c := 1) (cy := 3) (q := 25) (m := 42) (t := 4) (i := 4) (cnt := 6) (k := 4) (M := 41) (M' := 45) (tt := 107) (fc := lwFs 42) (cs := lwRs) (rs' := [some 26, some 30, some 34, some 38, some 42, none]) hO (by decide) (by decide +kernel) rfl rfl rfl rfl (by decide) (by decide) (by decide) (by decide) (by decide) q91_82 q91_83 rfl (fun _ _ => rfl) (by decide) q91_85 (by decide) q91_88 q91_89 rfl rfl q91_92 q91_93 q91_96 q91_97 mi3 (by decide) mn3 mc3 mq3 rfl lwCs_ok (fun K' hk => by rw [ini_n mi3 (L := [.ref 42]) rfl]; exact ct3 (OB_all hO) (OB_len hO) (by omega) hk) q91_100 q91_101 q91_104 (by decide) (fun hO => ?_)
  refine E_it (c := 1) (cy := 3) (q := 25) (m := 46) (t := 4) (i := 5) (cnt := 6) (k := 4) (M := 45) (M' := 49) (tt := 107) (fc := lwFs 46) (cs := lwRs) (rs' := [some 26, some 30, some 34, some 38, some 42, some 46]) hO (by decide) (by decide +kernel) rfl rfl rfl rfl (by decide) (by decide) (by decide) (by decide) (by decide) q91_82 q91_83 rfl (fun _ _ => rfl) (by decide) q91_85 (by decide) q91_88 q91_89 rfl rfl q91_92 q91_93 q91_96 q91_97 mi3 (by decide) mn3 mc3 mq3 rfl lwCs_ok (fun K' hk => by rw [ini_n mi3 (L := [.ref 46]) rfl]; exact ct3 (OB_all hO) (OB_len hO) (by omega) hk) q91_100 q91_101 q91_104 (by decide) (fun hO => ?_)
  refine E_ix (n := 0) (i := 6) (cnt := 6) (tt := 107) rfl (by decide) q91_82 q91_83 rfl (fun _ _ => rfl) (by decide) q91_85 (by decide) ?_
  have hL : (Value.ref 0 :: [.int (nI 6)]).all (ltV (0 + 1)) = true := al_c (ltV_q (by omega)) (al_c rfl rfl)
  refine E_num (M := 49) (v := 0) (pe := 112) (fs' := [.ref 1, .ref 3, .ref 13, .ref 23, .ref 24, .ref 25, .int 0, .null, .null, .null, .null, .null]) hO mn91 rfl rfl q91_107 q91_108 rfl (fun _ _ => rfl) q91_109 rfl rfl (by decide) (fun hO => ?_)
  refine E_nd (M := 49) (c := 0) (m := 50) (pe := 117) hO (by decide) rfl rfl hL rfl q91_112 q91_113 (by decide) q91_116 ?_
  refine E_cn (M := 49) (M' := 54) (k := 5) (m := 50) (pe := 120) (As := []) (rest := [.ref 50, .ref 0]) (cells := grCs 50) hO (by decide) rfl rfl rfl rfl (alV_mo (by omega) hL) (al_c (ltV_q (by omega)) (al_c (ltV_q (by omega)) rfl)) q91_117 (cut_n mi0.1 rfl rfl) (rm8_n mi0.2.1 (Nat.le_of_ble_eq_true rfl) (Nat.le_of_ble_eq_true rfl)) mn0 mc0 mq0 rfl grCs_ok (fun K' hk => by rw [ini_n mi0 (L := [.ref 50]) rfl]; exact ct0 (OB_all hO) (OB_len hO) (by omega)  hk) (fun hO => ?_)
  refine E_pt (M := 54) (pe := 123) (fs' := [.ref 1, .ref 3, .ref 13, .ref 23, .ref 24, .ref 25, .int 0, .ref 50, .null, .null, .null, .null]) hO rfl rfl q91_120 mn91 rfl rfl (by decide) (ltV_q (by omega)) (fun hO => ?_)
  refine E_nd (M := 54) (c := 7) (m := 55) (pe := 128) hO (by decide) rfl rfl hL rfl q91_123 q91_124 (by decide) q91_127 ?_
  refine E_ga (pe := 132) (v := 50) hO.1 hO.2.1 rfl q91_128 q91_129 rfl rfl ?_
  refine E_cn (M := 54) (M' := 58) (k := 4) (m := 55) (pe := 135) (As := [.ref 50]) (rest := [.ref 55, .ref 0]) (cells := wkCs 55 50) hO (by decide) rfl rfl rfl rfl (alV_mo (by omega) hL) (al_c (ltV_q (by omega)) (al_c (ltV_q (by omega)) rfl)) q91_132 (cut_n mi77.1 rfl rfl) (rm8_n mi77.2.1 (Nat.le_of_ble_eq_true rfl) (Nat.le_of_ble_eq_true rfl)) mn77 mc77 mq77 rfl (wkCs_ok (by omega)) (fun K' hk => by rw [ini_n mi77 (L := [.ref 55, .ref 50]) rfl]; exact ct77 (OB_all hO) (OB_len hO) (by omega) (by omega) hk) (fun hO => ?_)
  refine E_pt (M := 58) (pe := 138) (fs' := [.ref 1, .ref 3, .ref 13, .ref 23, .ref 24, .ref 25, .int 0, .ref 50, .ref 55, .null, .null, .null]) hO rfl rfl q91_135 mn91 rfl rfl (by decide) (ltV_q (by omega)) (fun hO => ?_)
  refine E_nd (M := 58) (c := 4) (m := 59) (pe := 143) hO (by decide) rfl rfl hL rfl q91_138 q91_139 (by decide) q91_142 ?_
  refine E_ga (pe := 147) (v := 3) hO.1 hO.2.1 rfl q91_143 q91_144 rfl rfl ?_
  refine E_ga (pe := 151) (v := 55) hO.1 hO.2.1 rfl q91_147 q91_148 rfl rfl ?_
  refine E_ga (pe := 155) (v := 50) hO.1 hO.2.1 rfl q91_151 q91_152 rfl rfl ?_
  refine E_cn (M := 58) (M' := 82) (k := 24) (m := 59) (pe := 158) (As := [.ref 3, .ref 55, .ref 50]) (rest := [.ref 59, .ref 0]) (cells := plCs 59 3 55 50) hO (by decide) rfl rfl rfl rfl (alV_mo (by omega) hL) (al_c (ltV_q (by omega)) (al_c (ltV_q (by omega)) rfl)) q91_155 (cut_n mi26.1 rfl rfl) (rm8_n mi26.2.1 (Nat.le_of_ble_eq_true rfl) (Nat.le_of_ble_eq_true rfl)) mn26 mc26 mq26 rfl (plCs_ok (by omega) (by omega) (by omega)) (fun K' hk => by rw [ini_n mi26 (L := [.ref 59, .ref 3, .ref 55, .ref 50]) rfl]; exact ct26 (OB_all hO) (OB_len hO) (by omega) (by omega) (by omega) (by omega) hk) (fun hO => ?_)
  refine E_pt (M := 82) (pe := 161) (fs' := [.ref 1, .ref 3, .ref 13, .ref 23, .ref 24, .ref 25, .int 0, .ref 50, .ref 55, .ref 59, .null, .null]) hO rfl rfl q91_158 mn91 rfl rfl (by decide) (ltV_q (by omega)) (fun hO => ?_)
  refine E_anr (M := 82) (M' := 83) (m := 83) (k := 4) (pe := 169) (fs' := [.ref 1, .ref 3, .ref 13, .ref 23, .ref 24, .ref 25, .int 0, .ref 50, .ref 55, .ref 59, .ref 83, .null]) hO (by decide) hL rfl mn91 rfl rfl rfl rfl rfl q91_161 q91_162 rfl (fun _ _ => rfl) q91_163 (by decide) (by decide) (by decide) (by decide) q91_166 (fun _ => rfl) (fun _ => rfl) (by decide) (fun hO => ?_)
  rw [E_ic q91_169 (v := nI 0) (by decide) rfl]
  refine E_s (w := (171, [.ref 0, .int (nI 0)], [], _)) q91_170 rfl rfl ?_
  refine E_it (c := 5) (cy := 49) (q := 83) (m := 84) (t := 5) (i := 0) (cnt := 4) (k := 10) (M := 83) (M' := 93) (tt := 195) (fc := scFs 84) (cs := scRs (-1)) (rs' := [some 84, none, none, none]) hO (by decide) (by decide +kernel) rfl rfl rfl rfl (by decide) (by decide) (by decide) (by decide) (by decide) q91_171 q91_172 rfl (fun _ _ => rfl) (by decide) q91_173 (by decide) q91_176 q91_177 rfl rfl q91_180 q91_181 q91_184 q91_185 mi49 (by decide) mn49 mc49 mq49 rfl scCs_ok (fun K' hk => by rw [ini_n mi49 (L := [.ref 84]) rfl]; exact ct49 (OB_all hO) (OB_len hO) (by omega) hk) q91_188 q91_189 q91_192 (by decide) (fun hO => ?_)
  refine E_it (c := 5) (cy := 49) (q := 83) (m := 94) (t := 5) (i := 1) (cnt := 4) (k := 10) (M := 93) (M' := 103) (tt := 195) (fc := scFs 94) (cs := scRs (-1)) (rs' := [some 84, some 94, none, none]) hO (by decide) (by decide +kernel) rfl rfl rfl rfl (by decide) (by decide) (by decide) (by decide) (by decide) q91_171 q91_172 rfl (fun _ _ => rfl) (by decide) q91_173 (by decide) q91_176 q91_177 rfl rfl q91_180 q91_181 q91_184 q91_185 mi49 (by decide) mn49 mc49 mq49 rfl scCs_ok (fun K' hk => by rw [ini_n mi49 (L := [.ref 94]) rfl]; exact ct49 (OB_all hO) (OB_len hO) (by omega) hk) q91_188 q91_189 q91_192 (by decide) (fun hO => ?_)
  refine E_it (c := 5) (cy := 49) (q := 83) (m := 104) (t := 5) (i := 2) (cnt := 4) (k := 10) (M := 103) (M' := 113) (tt := 195) (fc := scFs 104) (cs := scRs (-1)) (rs' := [some 84, some 94, some 104, none]) hO (by decide) (by decide +kernel) rfl rfl rfl rfl (by decide) (by decide) (by decide) (by decide) (by decide) q91_171 q91_172 rfl (fun _ _ => rfl) (by decide) q91_173 (by decide) q91_176 q91_177 rfl rfl q91_180 q91_181 q91_184 q91_185 mi49 (by decide) mn49 mc49 mq49 rfl scCs_ok (fun K' hk => by rw [ini_n mi49 (L := [.ref 104]) rfl]; exact ct49 (OB_all hO) (OB_len hO) (by omega) hk) q91_188 q91_189 q91_192 (by decide) (fun hO => ?_)
  refine E_it (c := 5) (cy := 49) (q := 83) (m := 114) (t := 5) (i := 3) (cnt := 4) (k := 10) (M := 113) (M' := 123) (tt := 195) (fc := scFs 114) (cs := scRs (-1)) (rs' := [some 84, some 94, some 104, some 114]) hO (by decide) (by decide +kernel) rfl rfl rfl rfl (by decide) (by decide) (by decide) (by decide) (by decide) q91_171 q91_172 rfl (fun _ _ => rfl) (by decide) q91_173 (by decide) q91_176 q91_177 rfl rfl q91_180 q91_181 q91_184 q91_185 mi49 (by decide) mn49 mc49 mq49 rfl scCs_ok (fun K' hk => by rw [ini_n mi49 (L := [.ref 114]) rfl]; exact ct49 (OB_all hO) (OB_len hO) (by omega) hk) q91_188 q91_189 q91_192 (by decide) (fun hO => ?_)
  refine E_ix (n := 0) (i := 4) (cnt := 4) (tt := 195) rfl (by decide) q91_171 q91_172 rfl (fun _ _ => rfl) (by decide) q91_173 (by decide) ?_
  have hL : (Value.ref 0 :: [.int (nI 4)]).all (ltV (0 + 1)) = true := al_c (ltV_q (by omega)) (al_c rfl rfl)
  refine E_row (M := 123) (M' := 124) (m := 124) (pe := 202) (fs' := [.ref 1, .ref 3, .ref 13, .ref 23, .ref 24, .ref 25, .int 0, .ref 50, .ref 55, .ref 59, .ref 83, .ref 124]) (cl := .inl (3, .inl (List.replicate 4 0))) hO (by decide) hL rfl mn91 rfl rfl rfl rfl rfl q91_195 q91_196 rfl (fun _ _ => rfl) (fun hw he => E_naZ (k := 4) q91_197 hw (by decide) (by decide) (by decide) he) rfl q91_199 (fun _ => rfl) (fun _ => rfl) (by decide) (fun hO => ?_)
  rw [E_vret q91_202 mq91]
  exact hK
theorem topH_len : topH.length = 125 := by decide +kernel
theorem topH_ok : topH.all (ltC 125) = true := by decide +kernel
theorem wfT : wfN [.ref 10003, .ref 0, .null, .null] [] topH = true := by
  unfold wfN
  rw [topH_len]
  have h := topH_ok
  rw [List.all_eq_true] at h
  have h2 : topH.all (nrC 125) = true := by
    rw [List.all_eq_true]
    exact fun c hc => nrC_lt (Nat.le_refl _) (h c hc)
  rw [h2]
  decide
/-- the law's beginning: both objects are made -/
theorem ct237 (hE : E scr true 1000 237 18 [.ref 10003, .ref 0, .ref 125, .int (nI 0)] [] (topH ++ moCs 125) K) : E scr true 1000 237 0 [.ref 10003, .null, .null, .null] [] [] K := by
  refine E_new (a := 8) q237_0 (by decide +kernel) (by decide) ?_
  refine E_s (w := (4, [.ref 10003, .null, .null, .null], [.ref 0, .ref 0], [.inr (8, aDef 8)])) q237_3 rfl rfl ?_
  refine E_icall (d := 999) (As := [.ref 0]) (rest := [.ref 0]) q237_4 (cut_n mi91.1 rfl rfl) (rm8_n mi91.2.1 (Nat.le_of_ble_eq_true rfl) (Nat.le_of_ble_eq_true rfl)) (by rw [mn91, mc91]) (vOk_ap (h := []) (l := []) rfl (by decide) mc91) ?_
  rw [ini_n mi91 (L := [.ref 0, .null]) rfl]
  refine ct91 (d := 995) ⟨by unfold rOk; rw [mq91], ?_, ?_, ?_⟩
  · rw [topH_len]
    decide
  · rw [topH_len]
    decide
  · show E scr true 1000 237 7 [.ref 10003, .null, .null, .null] [.ref 0] topH K
    refine E_s (w := (8, [.ref 10003, .ref 0, .null, .null], [], topH)) q237_7 rfl rfl ?_
    refine E_new (a := 9) q237_8 wfT (by decide) ?_
    · show E scr true 1000 237 11 [.ref 10003, .ref 0, .null, .null] [.ref topH.length] (topH ++ [.inr (9, aDef 9)]) K
      rw [topH_len]
      refine E_s (w := (12, [.ref 10003, .ref 0, .null, .null], [.ref 125, .ref 125], topH ++ [.inr (9, aDef 9)])) q237_11 rfl rfl ?_
      refine E_icall (d := 999) (As := [.ref 125]) (rest := [.ref 125]) q237_12 (cut_n mi120.1 rfl rfl) (rm8_n mi120.2.1 (Nat.le_of_ble_eq_true rfl) (Nat.le_of_ble_eq_true rfl)) (by rw [mn120, mc120]) (vOk_ap topH_len (by decide) mc120) ?_
      rw [ini_n mi120 (L := [.ref 125]) rfl]
      refine ct120 (d := 998) topH_ok topH_len (by decide) ⟨by unfold rOk; rw [mq120], ?_, ?_, ?_⟩
      · rw [List.length_append, List.length_append, topH_len]
        decide
      · rw [List.length_append, List.length_append, topH_len]
        decide
      · show E scr true 1000 237 15 [.ref 10003, .ref 0, .null, .null] [.ref 125] (topH ++ moCs 125) K
        refine E_s (w := (16, [.ref 10003, .ref 0, .ref 125, .null], [], topH ++ moCs 125)) q237_15 rfl rfl ?_
        rw [E_ic q237_16 (v := nI 0) (by decide) rfl]
        exact E_s (w := (18, [.ref 10003, .ref 0, .ref 125, .int (nI 0)], [], topH ++ moCs 125)) q237_17 rfl rfl hE
end CTC
