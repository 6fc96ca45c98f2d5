variable {scr : List Int32}
-- 1 SecondNearest$Ground.survey(LSecondNearest$Scene;)V
theorem mq1 : mRet 1 = none := by decide +kernel
theorem r1_0 : rowAt 1 0 = some (.aload_n 0, 1, 0, 0) := by decide +kernel
theorem r1_1 : rowAt 1 1 = some (.getfield 18, 3, 0, 2) := by decide +kernel
theorem r1_4 : rowAt 1 4 = some (.lconst 0, 1, 0, 0) := by decide +kernel
theorem r1_5 : rowAt 1 5 = some (.invokestatic 25, 3, 233, 1) := by decide +kernel
theorem r1_8 : rowAt 1 8 = some (.aload_n 0, 1, 0, 0) := by decide +kernel
theorem r1_9 : rowAt 1 9 = some (.getfield 22, 3, 0, 3) := by decide +kernel
theorem r1_12 : rowAt 1 12 = some (.lconst 0, 1, 0, 0) := by decide +kernel
theorem r1_13 : rowAt 1 13 = some (.invokestatic 25, 3, 233, 1) := by decide +kernel
theorem r1_16 : rowAt 1 16 = some (.aload_n 0, 1, 0, 0) := by decide +kernel
theorem r1_17 : rowAt 1 17 = some (.getfield 9, 3, 0, 0) := by decide +kernel
theorem r1_20 : rowAt 1 20 = some (.bipush 99, 2, 0, 0) := by decide +kernel
theorem r1_22 : rowAt 1 22 = some (.invokestatic 31, 3, 234, 1) := by decide +kernel
theorem r1_25 : rowAt 1 25 = some (.iconst 0, 1, 0, 0) := by decide +kernel
theorem r1_26 : rowAt 1 26 = some (.istore_n 2, 1, 0, 0) := by decide +kernel
theorem r1_27 : rowAt 1 27 = some (.iconst 0, 1, 0, 0) := by decide +kernel
theorem r1_28 : rowAt 1 28 = some (.istore_n 3, 1, 0, 0) := by decide +kernel
theorem r1_29 : rowAt 1 29 = some (.aload_n 1, 1, 0, 0) := by decide +kernel
theorem r1_30 : rowAt 1 30 = some (.getfield 34, 3, 5, 2) := by decide +kernel
theorem r1_33 : rowAt 1 33 = some (.ifCond .le 58, 3, 0, 0) := by decide +kernel
theorem r1_36 : rowAt 1 36 = some (.iload_n 3, 1, 0, 0) := by decide +kernel
theorem r1_37 : rowAt 1 37 = some (.sipush 144, 3, 0, 0) := by decide +kernel
theorem r1_40 : rowAt 1 40 = some (.if_icmp .ge 51, 3, 0, 0) := by decide +kernel
theorem r1_43 : rowAt 1 43 = some (.aload_n 1, 1, 0, 0) := by decide +kernel
theorem r1_44 : rowAt 1 44 = some (.getfield 40, 3, 5, 8) := by decide +kernel
theorem r1_47 : rowAt 1 47 = some (.iload_n 3, 1, 0, 0) := by decide +kernel
theorem r1_48 : rowAt 1 48 = some (.baload, 1, 0, 0) := by decide +kernel
theorem r1_49 : rowAt 1 49 = some (.iconst 3, 1, 0, 0) := by decide +kernel
theorem r1_50 : rowAt 1 50 = some (.if_icmp .ne 35, 3, 0, 0) := by decide +kernel
theorem r1_53 : rowAt 1 53 = some (.aload_n 1, 1, 0, 0) := by decide +kernel
theorem r1_54 : rowAt 1 54 = some (.iload_n 3, 1, 0, 0) := by decide +kernel
theorem r1_55 : rowAt 1 55 = some (.bipush 12, 2, 0, 0) := by decide +kernel
theorem r1_57 : rowAt 1 57 = some (.irem, 1, 0, 0) := by decide +kernel
theorem r1_58 : rowAt 1 58 = some (.iload_n 3, 1, 0, 0) := by decide +kernel
theorem r1_59 : rowAt 1 59 = some (.bipush 12, 2, 0, 0) := by decide +kernel
theorem r1_61 : rowAt 1 61 = some (.idiv, 1, 0, 0) := by decide +kernel
theorem r1_62 : rowAt 1 62 = some (.invokevirtual 44, 3, 56, 0) := by decide +kernel
theorem r1_65 : rowAt 1 65 = some (.ifCond .eq 20, 3, 0, 0) := by decide +kernel
theorem r1_68 : rowAt 1 68 = some (.aload_n 0, 1, 0, 0) := by decide +kernel
theorem r1_69 : rowAt 1 69 = some (.getfield 9, 3, 0, 0) := by decide +kernel
theorem r1_72 : rowAt 1 72 = some (.iload_n 3, 1, 0, 0) := by decide +kernel
theorem r1_73 : rowAt 1 73 = some (.iconst 0, 1, 0, 0) := by decide +kernel
theorem r1_74 : rowAt 1 74 = some (.iastore, 1, 0, 0) := by decide +kernel
theorem r1_75 : rowAt 1 75 = some (.aload_n 0, 1, 0, 0) := by decide +kernel
theorem r1_76 : rowAt 1 76 = some (.getfield 15, 3, 0, 1) := by decide +kernel
theorem r1_79 : rowAt 1 79 = some (.iload_n 2, 1, 0, 0) := by decide +kernel
theorem r1_80 : rowAt 1 80 = some (.iload_n 3, 1, 0, 0) := by decide +kernel
theorem r1_81 : rowAt 1 81 = some (.iastore, 1, 0, 0) := by decide +kernel
theorem r1_82 : rowAt 1 82 = some (.iinc 2 1, 3, 0, 0) := by decide +kernel
theorem r1_85 : rowAt 1 85 = some (.iinc 3 1, 3, 0, 0) := by decide +kernel
theorem r1_88 : rowAt 1 88 = some (.goto (-59), 3, 0, 0) := by decide +kernel
theorem r1_91 : rowAt 1 91 = some (.iconst 0, 1, 0, 0) := by decide +kernel
theorem r1_92 : rowAt 1 92 = some (.istore_n 3, 1, 0, 0) := by decide +kernel
theorem r1_93 : rowAt 1 93 = some (.iload_n 3, 1, 0, 0) := by decide +kernel
theorem r1_94 : rowAt 1 94 = some (.iload_n 2, 1, 0, 0) := by decide +kernel
theorem r1_95 : rowAt 1 95 = some (.if_icmp .ge 114, 3, 0, 0) := by decide +kernel
theorem r1_98 : rowAt 1 98 = some (.iload_n 3, 1, 0, 0) := by decide +kernel
theorem r1_99 : rowAt 1 99 = some (.sipush 144, 3, 0, 0) := by decide +kernel
theorem r1_102 : rowAt 1 102 = some (.if_icmp .ge 107, 3, 0, 0) := by decide +kernel
theorem r1_105 : rowAt 1 105 = some (.iconst 0, 1, 0, 0) := by decide +kernel
theorem r1_106 : rowAt 1 106 = some (.istore 4, 2, 0, 0) := by decide +kernel
theorem r1_108 : rowAt 1 108 = some (.iload 4, 2, 0, 0) := by decide +kernel
theorem r1_110 : rowAt 1 110 = some (.bipush 8, 2, 0, 0) := by decide +kernel
theorem r1_112 : rowAt 1 112 = some (.if_icmp .ge 91, 3, 0, 0) := by decide +kernel
theorem r1_115 : rowAt 1 115 = some (.aload_n 1, 1, 0, 0) := by decide +kernel
theorem r1_116 : rowAt 1 116 = some (.aload_n 0, 1, 0, 0) := by decide +kernel
theorem r1_117 : rowAt 1 117 = some (.getfield 15, 3, 0, 1) := by decide +kernel
theorem r1_120 : rowAt 1 120 = some (.iload_n 3, 1, 0, 0) := by decide +kernel
theorem r1_121 : rowAt 1 121 = some (.iaload, 1, 0, 0) := by decide +kernel
theorem r1_122 : rowAt 1 122 = some (.iload 4, 2, 0, 0) := by decide +kernel
theorem r1_124 : rowAt 1 124 = some (.invokevirtual 48, 3, 58, 0) := by decide +kernel
theorem r1_127 : rowAt 1 127 = some (.istore 5, 2, 0, 0) := by decide +kernel
theorem r1_129 : rowAt 1 129 = some (.iload 5, 2, 0, 0) := by decide +kernel
theorem r1_131 : rowAt 1 131 = some (.ifCond .lt 66, 3, 0, 0) := by decide +kernel
theorem r1_134 : rowAt 1 134 = some (.iload_n 2, 1, 0, 0) := by decide +kernel
theorem r1_135 : rowAt 1 135 = some (.sipush 144, 3, 0, 0) := by decide +kernel
theorem r1_138 : rowAt 1 138 = some (.if_icmp .ge 59, 3, 0, 0) := by decide +kernel
theorem r1_141 : rowAt 1 141 = some (.aload_n 0, 1, 0, 0) := by decide +kernel
theorem r1_142 : rowAt 1 142 = some (.getfield 9, 3, 0, 0) := by decide +kernel
theorem r1_145 : rowAt 1 145 = some (.iload 5, 2, 0, 0) := by decide +kernel
theorem r1_147 : rowAt 1 147 = some (.iaload, 1, 0, 0) := by decide +kernel
theorem r1_148 : rowAt 1 148 = some (.bipush 99, 2, 0, 0) := by decide +kernel
theorem r1_150 : rowAt 1 150 = some (.if_icmp .ne 47, 3, 0, 0) := by decide +kernel
theorem r1_153 : rowAt 1 153 = some (.aload_n 1, 1, 0, 0) := by decide +kernel
theorem r1_154 : rowAt 1 154 = some (.getfield 40, 3, 5, 8) := by decide +kernel
theorem r1_157 : rowAt 1 157 = some (.iload 5, 2, 0, 0) := by decide +kernel
theorem r1_159 : rowAt 1 159 = some (.baload, 1, 0, 0) := by decide +kernel
theorem r1_160 : rowAt 1 160 = some (.invokestatic 52, 3, 63, 1) := by decide +kernel
theorem r1_163 : rowAt 1 163 = some (.ifCond .eq 34, 3, 0, 0) := by decide +kernel
theorem r1_166 : rowAt 1 166 = some (.aload_n 0, 1, 0, 0) := by decide +kernel
theorem r1_167 : rowAt 1 167 = some (.getfield 9, 3, 0, 0) := by decide +kernel
theorem r1_170 : rowAt 1 170 = some (.iload 5, 2, 0, 0) := by decide +kernel
theorem r1_172 : rowAt 1 172 = some (.aload_n 0, 1, 0, 0) := by decide +kernel
theorem r1_173 : rowAt 1 173 = some (.getfield 9, 3, 0, 0) := by decide +kernel
theorem r1_176 : rowAt 1 176 = some (.aload_n 0, 1, 0, 0) := by decide +kernel
theorem r1_177 : rowAt 1 177 = some (.getfield 15, 3, 0, 1) := by decide +kernel
theorem r1_180 : rowAt 1 180 = some (.iload_n 3, 1, 0, 0) := by decide +kernel
theorem r1_181 : rowAt 1 181 = some (.iaload, 1, 0, 0) := by decide +kernel
theorem r1_182 : rowAt 1 182 = some (.iaload, 1, 0, 0) := by decide +kernel
theorem r1_183 : rowAt 1 183 = some (.iconst 1, 1, 0, 0) := by decide +kernel
theorem r1_184 : rowAt 1 184 = some (.iadd, 1, 0, 0) := by decide +kernel
theorem r1_185 : rowAt 1 185 = some (.iastore, 1, 0, 0) := by decide +kernel
theorem r1_186 : rowAt 1 186 = some (.aload_n 0, 1, 0, 0) := by decide +kernel
theorem r1_187 : rowAt 1 187 = some (.getfield 15, 3, 0, 1) := by decide +kernel
theorem r1_190 : rowAt 1 190 = some (.iload_n 2, 1, 0, 0) := by decide +kernel
theorem r1_191 : rowAt 1 191 = some (.iload 5, 2, 0, 0) := by decide +kernel
theorem r1_193 : rowAt 1 193 = some (.iastore, 1, 0, 0) := by decide +kernel
theorem r1_194 : rowAt 1 194 = some (.iinc 2 1, 3, 0, 0) := by decide +kernel
theorem r1_197 : rowAt 1 197 = some (.iinc 4 1, 3, 0, 0) := by decide +kernel
theorem r1_200 : rowAt 1 200 = some (.goto (-92), 3, 0, 0) := by decide +kernel
theorem r1_203 : rowAt 1 203 = some (.iinc 3 1, 3, 0, 0) := by decide +kernel
theorem r1_206 : rowAt 1 206 = some (.goto (-113), 3, 0, 0) := by decide +kernel
theorem r1_209 : rowAt 1 209 = some (.return_, 1, 0, 0) := by decide +kernel
theorem en1 (a0 : Nat) (a1 : Nat) : iniL 1 [.ref a0, .ref a1] = [.ref a0, .ref a1, .null, .null, .null, .null] := ini_n mi1 rfl
theorem b1_0 (d : Nat) (l0 : Nat) (l1 : Nat) (h : aH) (K : Option Value → aH → Prop) : E scr false (d + 1) 1 0 [.ref l0, .ref l1, .null, .null, .null, .null] [] h K = gR scr h l0 0 2 (fun x1 : Nat => sV scr d 233 [.ref x1, .long 0] h (fun h2 : aH => gR scr h2 l0 0 3 (fun x4 : Nat => sV scr d 233 [.ref x4, .long 0] h2 (fun h5 : aH => gR scr h5 l0 0 0 (fun x7 : Nat => sV scr d 234 [.ref x7, .int 99] h5 (fun h8 : aH => E scr false (d + 1) 1 29 [.ref l0, .ref l1, .int 0, .int 0, .null, .null] [] h8 K)))))) := go (w := (1, [.ref l0, .ref l1, .null, .null, .null, .null], [.ref l0], h)) r1_0 rfl rfl (E_gR r1_1 rfl (fun x1 => E_lc r1_4 (v := 0) (by decide) (E_sV r1_5 (As := [.ref x1, .long 0]) (rest := []) (cut_n mi233.1 rfl rfl) (rm8_n mi233.2.1 (Nat.le_of_ble_eq_true rfl) (Nat.le_of_ble_eq_true rfl)) mi233.2.2 (fun h2 => go (w := (9, [.ref l0, .ref l1, .null, .null, .null, .null], [.ref l0], h2)) r1_8 rfl rfl (E_gR r1_9 rfl (fun x4 => E_lc r1_12 (v := 0) (by decide) (E_sV r1_13 (As := [.ref x4, .long 0]) (rest := []) (cut_n mi233.1 rfl rfl) (rm8_n mi233.2.1 (Nat.le_of_ble_eq_true rfl) (Nat.le_of_ble_eq_true rfl)) mi233.2.2 (fun h5 => go (w := (17, [.ref l0, .ref l1, .null, .null, .null, .null], [.ref l0], h5)) r1_16 rfl rfl (E_gR r1_17 rfl (fun x7 => E_bip r1_20 (v := 99) (by decide) (E_sV r1_22 (As := [.ref x7, .int 99]) (rest := []) (cut_n mi234.1 rfl rfl) (rm8_n mi234.2.1 (Nat.le_of_ble_eq_true rfl) (Nat.le_of_ble_eq_true rfl)) mi234.2.2 (fun h8 => E_ic r1_25 (v := 0) (by decide) (go (w := (27, [.ref l0, .ref l1, .int 0, .null, .null, .null], [], h8)) r1_26 rfl rfl (E_ic r1_27 (v := 0) (by decide) (go (w := (29, [.ref l0, .ref l1, .int 0, .int 0, .null, .null], [], h8)) r1_28 rfl rfl (rfl))))))))))))))))
theorem b1_29 (d : Nat) (l0 : Nat) (l1 : Nat) (l2 : Int32) (l3 : Int32) (h : aH) (K : Option Value → aH → Prop) : E scr false (d + 1) 1 29 [.ref l0, .ref l1, .int l2, .int l3, .null, .null] [] h K = gI scr h l1 5 2 (fun x1 : Int32 => (if x1 ≤ 0 then E scr false (d + 1) 1 91 [.ref l0, .ref l1, .int l2, .int l3, .null, .null] [] h K else (if 144 ≤ l3 then E scr false (d + 1) 1 91 [.ref l0, .ref l1, .int l2, .int l3, .null, .null] [] h K else gR scr h l1 5 8 (fun x2 : Nat => aB scr h x2 l3 (fun x3 : Int32 => (if x3 = 3 then vI scr d 56 [.ref l1, .int (irm l3 12), .int (l3 / 12)] h (fun (x5 : Int32) (h4 : aH) => (if x5 = 0 then E scr false (d + 1) 1 85 [.ref l0, .ref l1, .int l2, .int l3, .null, .null] [] h4 K else gR scr h4 l0 0 0 (fun x6 : Nat => wI h4 x6 l3 0 (fun h7 : aH => gR scr h7 l0 0 1 (fun x8 : Nat => wI h7 x8 l2 l3 (fun h9 : aH => E scr false (d + 1) 1 85 [.ref l0, .ref l1, .int (l2 + 1), .int l3, .null, .null] [] h9 K)))))) else E scr false (d + 1) 1 85 [.ref l0, .ref l1, .int l2, .int l3, .null, .null] [] h K)))))) := go (w := (30, [.ref l0, .ref l1, .int l2, .int l3, .null, .null], [.ref l1], h)) r1_29 rfl rfl (E_gI r1_30 rfl (fun x1 => E_i1_le r1_33 rfl (rfl) (go (w := (37, [.ref l0, .ref l1, .int l2, .int l3, .null, .null], [.int l3], h)) r1_36 rfl rfl (E_sip r1_37 (v := 144) (by decide) (E_i2_ge r1_40 rfl (rfl) (go (w := (44, [.ref l0, .ref l1, .int l2, .int l3, .null, .null], [.ref l1], h)) r1_43 rfl rfl (E_gR r1_44 rfl (fun x2 => go (w := (48, [.ref l0, .ref l1, .int l2, .int l3, .null, .null], [.int l3, .ref x2], h)) r1_47 rfl rfl (E_aB r1_48 (fun x3 => E_ic r1_49 (v := 3) (by decide) (E_i2_ne r1_50 rfl (rfl) (go (w := (54, [.ref l0, .ref l1, .int l2, .int l3, .null, .null], [.ref l1], h)) r1_53 rfl rfl (go (w := (55, [.ref l0, .ref l1, .int l2, .int l3, .null, .null], [.int l3, .ref l1], h)) r1_54 rfl rfl (E_bip r1_55 (v := 12) (by decide) (E_remc r1_57 (by decide) (go (w := (59, [.ref l0, .ref l1, .int l2, .int l3, .null, .null], [.int l3, .int (irm l3 12), .ref l1], h)) r1_58 rfl rfl (E_bip r1_59 (v := 12) (by decide) (E_divc r1_61 (by decide) (E_vI r1_62 (As := [.ref l1, .int (irm l3 12), .int (l3 / 12)]) (rest := []) (cut_n mi56.1 rfl rfl) (rm8_n mi56.2.1 (Nat.le_of_ble_eq_true rfl) (Nat.le_of_ble_eq_true rfl)) mi56.2.2 (fun x5 h4 => E_i1_eq r1_65 rfl (rfl) (go (w := (69, [.ref l0, .ref l1, .int l2, .int l3, .null, .null], [.ref l0], h4)) r1_68 rfl rfl (E_gR r1_69 rfl (fun x6 => go (w := (73, [.ref l0, .ref l1, .int l2, .int l3, .null, .null], [.int l3, .ref x6], h4)) r1_72 rfl rfl (E_ic r1_73 (v := 0) (by decide) (E_wI r1_74 (fun h7 => go (w := (76, [.ref l0, .ref l1, .int l2, .int l3, .null, .null], [.ref l0], h7)) r1_75 rfl rfl (E_gR r1_76 rfl (fun x8 => go (w := (80, [.ref l0, .ref l1, .int l2, .int l3, .null, .null], [.int l2, .ref x8], h7)) r1_79 rfl rfl (go (w := (81, [.ref l0, .ref l1, .int l2, .int l3, .null, .null], [.int l3, .int l2, .ref x8], h7)) r1_80 rfl rfl (E_wI r1_81 (fun h9 => E_inc r1_82 (c := 1) rfl (by decide) (L' := [.ref l0, .ref l1, .int (l2 + 1), .int l3, .null, .null]) rfl (rfl))))))))))))))))))))))))))))))))
theorem b1_85 (d : Nat) (l0 : Nat) (l1 : Nat) (l2 : Int32) (l3 : Int32) (h : aH) (K : Option Value → aH → Prop) : E scr false d 1 85 [.ref l0, .ref l1, .int l2, .int l3, .null, .null] [] h K = E scr false d 1 29 [.ref l0, .ref l1, .int l2, .int (l3 + 1), .null, .null] [] h K := E_inc r1_85 (c := 1) rfl (by decide) (L' := [.ref l0, .ref l1, .int l2, .int (l3 + 1), .null, .null]) rfl (E_gt r1_88 rfl (rfl))
theorem b1_91 (d : Nat) (l0 : Nat) (l1 : Nat) (l2 : Int32) (l3 : Int32) (h : aH) (K : Option Value → aH → Prop) : E scr false d 1 91 [.ref l0, .ref l1, .int l2, .int l3, .null, .null] [] h K = E scr false d 1 93 [.ref l0, .ref l1, .int l2, .int 0, .null, .null] [] h K := E_ic r1_91 (v := 0) (by decide) (go (w := (93, [.ref l0, .ref l1, .int l2, .int 0, .null, .null], [], h)) r1_92 rfl rfl (rfl))
theorem b1_93 (d : Nat) (l0 : Nat) (l1 : Nat) (l2 : Int32) (l3 : Int32) (l4 : Value) (l5 : Value) (h : aH) (K : Option Value → aH → Prop) : E scr false d 1 93 [.ref l0, .ref l1, .int l2, .int l3, l4, l5] [] h K = (if l2 ≤ l3 then K none h else (if 144 ≤ l3 then K none h else E scr false d 1 108 [.ref l0, .ref l1, .int l2, .int l3, .int 0, l5] [] h K)) := go (w := (94, [.ref l0, .ref l1, .int l2, .int l3, l4, l5], [.int l3], h)) r1_93 rfl rfl (go (w := (95, [.ref l0, .ref l1, .int l2, .int l3, l4, l5], [.int l2, .int l3], h)) r1_94 rfl rfl (E_i2_ge r1_95 rfl (E_vret r1_209 (mq1)) (go (w := (99, [.ref l0, .ref l1, .int l2, .int l3, l4, l5], [.int l3], h)) r1_98 rfl rfl (E_sip r1_99 (v := 144) (by decide) (E_i2_ge r1_102 rfl (E_vret r1_209 (mq1)) (E_ic r1_105 (v := 0) (by decide) (go (w := (108, [.ref l0, .ref l1, .int l2, .int l3, .int 0, l5], [], h)) r1_106 rfl rfl (rfl))))))))
theorem b1_108 (d : Nat) (l0 : Nat) (l1 : Nat) (l2 : Int32) (l3 : Int32) (l4 : Int32) (l5 : Value) (h : aH) (K : Option Value → aH → Prop) : E scr false (d + 1) 1 108 [.ref l0, .ref l1, .int l2, .int l3, .int l4, l5] [] h K = (if 8 ≤ l4 then E scr false (d + 1) 1 93 [.ref l0, .ref l1, .int l2, .int (l3 + 1), .int l4, l5] [] h K else gR scr h l0 0 1 (fun x1 : Nat => aI scr h x1 l3 (fun x2 : Int32 => vI scr d 58 [.ref l1, .int x2, .int l4] h (fun (x4 : Int32) (h3 : aH) => (if x4 < 0 then E scr false (d + 1) 1 197 [.ref l0, .ref l1, .int l2, .int l3, .int l4, .int x4] [] h3 K else (if 144 ≤ l2 then E scr false (d + 1) 1 197 [.ref l0, .ref l1, .int l2, .int l3, .int l4, .int x4] [] h3 K else gR scr h3 l0 0 0 (fun x5 : Nat => aI scr h3 x5 x4 (fun x6 : Int32 => (if x6 = 99 then gR scr h3 l1 5 8 (fun x7 : Nat => aB scr h3 x7 x4 (fun x8 : Int32 => sI scr d 63 [.int x8] h3 (fun (x10 : Int32) (h9 : aH) => (if x10 = 0 then E scr false (d + 1) 1 197 [.ref l0, .ref l1, .int l2, .int l3, .int l4, .int x4] [] h9 K else gR scr h9 l0 0 0 (fun x11 : Nat => gR scr h9 l0 0 0 (fun x12 : Nat => gR scr h9 l0 0 1 (fun x13 : Nat => aI scr h9 x13 l3 (fun x14 : Int32 => aI scr h9 x12 x14 (fun x15 : Int32 => wI h9 x11 x4 ((x15 + 1)) (fun h16 : aH => gR scr h16 l0 0 1 (fun x17 : Nat => wI h16 x17 l2 x4 (fun h18 : aH => E scr false (d + 1) 1 197 [.ref l0, .ref l1, .int (l2 + 1), .int l3, .int l4, .int x4] [] h18 K)))))))))))) else E scr false (d + 1) 1 197 [.ref l0, .ref l1, .int l2, .int l3, .int l4, .int x4] [] h3 K))))))))) := go (w := (110, [.ref l0, .ref l1, .int l2, .int l3, .int l4, l5], [.int l4], h)) r1_108 rfl rfl (E_bip r1_110 (v := 8) (by decide) (E_i2_ge r1_112 rfl (E_inc r1_203 (c := 1) rfl (by decide) (L' := [.ref l0, .ref l1, .int l2, .int (l3 + 1), .int l4, l5]) rfl (E_gt r1_206 rfl (rfl))) (go (w := (116, [.ref l0, .ref l1, .int l2, .int l3, .int l4, l5], [.ref l1], h)) r1_115 rfl rfl (go (w := (117, [.ref l0, .ref l1, .int l2, .int l3, .int l4, l5], [.ref l0, .ref l1], h)) r1_116 rfl rfl (E_gR r1_117 rfl (fun x1 => go (w := (121, [.ref l0, .ref l1, .int l2, .int l3, .int l4, l5], [.int l3, .ref x1, .ref l1], h)) r1_120 rfl rfl (E_aI r1_121 (fun x2 => go (w := (124, [.ref l0, .ref l1, .int l2, .int l3, .int l4, l5], [.int l4, .int x2, .ref l1], h)) r1_122 rfl rfl (E_vI r1_124 (As := [.ref l1, .int x2, .int l4]) (rest := []) (cut_n mi58.1 rfl rfl) (rm8_n mi58.2.1 (Nat.le_of_ble_eq_true rfl) (Nat.le_of_ble_eq_true rfl)) mi58.2.2 (fun x4 h3 => go (w := (129, [.ref l0, .ref l1, .int l2, .int l3, .int l4, .int x4], [], h3)) r1_127 rfl rfl (go (w := (131, [.ref l0, .ref l1, .int l2, .int l3, .int l4, .int x4], [.int x4], h3)) r1_129 rfl rfl (E_i1_lt r1_131 rfl (rfl) (go (w := (135, [.ref l0, .ref l1, .int l2, .int l3, .int l4, .int x4], [.int l2], h3)) r1_134 rfl rfl (E_sip r1_135 (v := 144) (by decide) (E_i2_ge r1_138 rfl (rfl) (go (w := (142, [.ref l0, .ref l1, .int l2, .int l3, .int l4, .int x4], [.ref l0], h3)) r1_141 rfl rfl (E_gR r1_142 rfl (fun x5 => go (w := (147, [.ref l0, .ref l1, .int l2, .int l3, .int l4, .int x4], [.int x4, .ref x5], h3)) r1_145 rfl rfl (E_aI r1_147 (fun x6 => E_bip r1_148 (v := 99) (by decide) (E_i2_ne r1_150 rfl (rfl) (go (w := (154, [.ref l0, .ref l1, .int l2, .int l3, .int l4, .int x4], [.ref l1], h3)) r1_153 rfl rfl (E_gR r1_154 rfl (fun x7 => go (w := (159, [.ref l0, .ref l1, .int l2, .int l3, .int l4, .int x4], [.int x4, .ref x7], h3)) r1_157 rfl rfl (E_aB r1_159 (fun x8 => E_sI r1_160 (As := [.int x8]) (rest := []) (cut_n mi63.1 rfl rfl) (rm8_n mi63.2.1 (Nat.le_of_ble_eq_true rfl) (Nat.le_of_ble_eq_true rfl)) mi63.2.2 (fun x10 h9 => E_i1_eq r1_163 rfl (rfl) (go (w := (167, [.ref l0, .ref l1, .int l2, .int l3, .int l4, .int x4], [.ref l0], h9)) r1_166 rfl rfl (E_gR r1_167 rfl (fun x11 => go (w := (172, [.ref l0, .ref l1, .int l2, .int l3, .int l4, .int x4], [.int x4, .ref x11], h9)) r1_170 rfl rfl (go (w := (173, [.ref l0, .ref l1, .int l2, .int l3, .int l4, .int x4], [.ref l0, .int x4, .ref x11], h9)) r1_172 rfl rfl (E_gR r1_173 rfl (fun x12 => go (w := (177, [.ref l0, .ref l1, .int l2, .int l3, .int l4, .int x4], [.ref l0, .ref x12, .int x4, .ref x11], h9)) r1_176 rfl rfl (E_gR r1_177 rfl (fun x13 => go (w := (181, [.ref l0, .ref l1, .int l2, .int l3, .int l4, .int x4], [.int l3, .ref x13, .ref x12, .int x4, .ref x11], h9)) r1_180 rfl rfl (E_aI r1_181 (fun x14 => E_aI r1_182 (fun x15 => E_ic r1_183 (v := 1) (by decide) (go (w := (185, [.ref l0, .ref l1, .int l2, .int l3, .int l4, .int x4], [.int (x15 + 1), .int x4, .ref x11], h9)) r1_184 rfl rfl (E_wI r1_185 (fun h16 => go (w := (187, [.ref l0, .ref l1, .int l2, .int l3, .int l4, .int x4], [.ref l0], h16)) r1_186 rfl rfl (E_gR r1_187 rfl (fun x17 => go (w := (191, [.ref l0, .ref l1, .int l2, .int l3, .int l4, .int x4], [.int l2, .ref x17], h16)) r1_190 rfl rfl (go (w := (193, [.ref l0, .ref l1, .int l2, .int l3, .int l4, .int x4], [.int x4, .int l2, .ref x17], h16)) r1_191 rfl rfl (E_wI r1_193 (fun h18 => E_inc r1_194 (c := 1) rfl (by decide) (L' := [.ref l0, .ref l1, .int (l2 + 1), .int l3, .int l4, .int x4]) rfl (rfl)))))))))))))))))))))))))))))))))))))))))))))))
theorem b1_197 (d : Nat) (l0 : Nat) (l1 : Nat) (l2 : Int32) (l3 : Int32) (l4 : Int32) (l5 : Int32) (h : aH) (K : Option Value → aH → Prop) : E scr false d 1 197 [.ref l0, .ref l1, .int l2, .int l3, .int l4, .int l5] [] h K = E scr false d 1 108 [.ref l0, .ref l1, .int l2, .int l3, .int (l4 + 1), .int l5] [] h K := E_inc r1_197 (c := 1) rfl (by decide) (L' := [.ref l0, .ref l1, .int l2, .int l3, .int (l4 + 1), .int l5]) rfl (E_gt r1_200 rfl (rfl))
-- 2 SecondNearest$Ground.isClear([BII)Z
theorem mq2 : mRet 2 = (some .boolean) := by decide +kernel
theorem r2_0 : rowAt 2 0 = some (.iload_n 2, 1, 0, 0) := by decide +kernel
theorem r2_1 : rowAt 2 1 = some (.iload_n 3, 1, 0, 0) := by decide +kernel
theorem r2_2 : rowAt 2 2 = some (.invokestatic 56, 3, 226, 1) := by decide +kernel
theorem r2_5 : rowAt 2 5 = some (.istore 4, 2, 0, 0) := by decide +kernel
theorem r2_7 : rowAt 2 7 = some (.iload_n 2, 1, 0, 0) := by decide +kernel
theorem r2_8 : rowAt 2 8 = some (.iload_n 3, 1, 0, 0) := by decide +kernel
theorem r2_9 : rowAt 2 9 = some (.invokestatic 61, 3, 225, 1) := by decide +kernel
theorem r2_12 : rowAt 2 12 = some (.istore 5, 2, 0, 0) := by decide +kernel
theorem r2_14 : rowAt 2 14 = some (.iload 4, 2, 0, 0) := by decide +kernel
theorem r2_16 : rowAt 2 16 = some (.ifCond .lt 19, 3, 0, 0) := by decide +kernel
theorem r2_19 : rowAt 2 19 = some (.iload 5, 2, 0, 0) := by decide +kernel
theorem r2_21 : rowAt 2 21 = some (.sipush 144, 3, 0, 0) := by decide +kernel
theorem r2_24 : rowAt 2 24 = some (.if_icmp .ge 11, 3, 0, 0) := by decide +kernel
theorem r2_27 : rowAt 2 27 = some (.aload_n 1, 1, 0, 0) := by decide +kernel
theorem r2_28 : rowAt 2 28 = some (.arraylength, 1, 0, 0) := by decide +kernel
theorem r2_29 : rowAt 2 29 = some (.sipush 144, 3, 0, 0) := by decide +kernel
theorem r2_32 : rowAt 2 32 = some (.if_icmp .ge 5, 3, 0, 0) := by decide +kernel
theorem r2_35 : rowAt 2 35 = some (.iconst 0, 1, 0, 0) := by decide +kernel
theorem r2_36 : rowAt 2 36 = some (.ireturn, 1, 0, 0) := by decide +kernel
theorem r2_37 : rowAt 2 37 = some (.iload 4, 2, 0, 0) := by decide +kernel
theorem r2_39 : rowAt 2 39 = some (.iconst 3, 1, 0, 0) := by decide +kernel
theorem r2_40 : rowAt 2 40 = some (.imul, 1, 0, 0) := by decide +kernel
theorem r2_41 : rowAt 2 41 = some (.iload 5, 2, 0, 0) := by decide +kernel
theorem r2_43 : rowAt 2 43 = some (.bipush 6, 2, 0, 0) := by decide +kernel
theorem r2_45 : rowAt 2 45 = some (.ishr, 1, 0, 0) := by decide +kernel
theorem r2_46 : rowAt 2 46 = some (.iadd, 1, 0, 0) := by decide +kernel
theorem r2_47 : rowAt 2 47 = some (.istore 6, 2, 0, 0) := by decide +kernel
theorem r2_49 : rowAt 2 49 = some (.lconst 1, 1, 0, 0) := by decide +kernel
theorem r2_50 : rowAt 2 50 = some (.iload 5, 2, 0, 0) := by decide +kernel
theorem r2_52 : rowAt 2 52 = some (.bipush 63, 2, 0, 0) := by decide +kernel
theorem r2_54 : rowAt 2 54 = some (.iand, 1, 0, 0) := by decide +kernel
theorem r2_55 : rowAt 2 55 = some (.lshl, 1, 0, 0) := by decide +kernel
theorem r2_56 : rowAt 2 56 = some (.lstore 7, 2, 0, 0) := by decide +kernel
theorem r2_58 : rowAt 2 58 = some (.aload_n 0, 1, 0, 0) := by decide +kernel
theorem r2_59 : rowAt 2 59 = some (.getfield 18, 3, 0, 2) := by decide +kernel
theorem r2_62 : rowAt 2 62 = some (.iload 6, 2, 0, 0) := by decide +kernel
theorem r2_64 : rowAt 2 64 = some (.laload, 1, 0, 0) := by decide +kernel
theorem r2_65 : rowAt 2 65 = some (.lload 7, 2, 0, 0) := by decide +kernel
theorem r2_67 : rowAt 2 67 = some (.land, 1, 0, 0) := by decide +kernel
theorem r2_68 : rowAt 2 68 = some (.lconst 0, 1, 0, 0) := by decide +kernel
theorem r2_69 : rowAt 2 69 = some (.lcmp, 1, 0, 0) := by decide +kernel
theorem r2_70 : rowAt 2 70 = some (.ifCond .eq 24, 3, 0, 0) := by decide +kernel
theorem r2_73 : rowAt 2 73 = some (.aload_n 0, 1, 0, 0) := by decide +kernel
theorem r2_74 : rowAt 2 74 = some (.getfield 22, 3, 0, 3) := by decide +kernel
theorem r2_77 : rowAt 2 77 = some (.iload 6, 2, 0, 0) := by decide +kernel
theorem r2_79 : rowAt 2 79 = some (.laload, 1, 0, 0) := by decide +kernel
theorem r2_80 : rowAt 2 80 = some (.lload 7, 2, 0, 0) := by decide +kernel
theorem r2_82 : rowAt 2 82 = some (.land, 1, 0, 0) := by decide +kernel
theorem r2_83 : rowAt 2 83 = some (.lconst 0, 1, 0, 0) := by decide +kernel
theorem r2_84 : rowAt 2 84 = some (.lcmp, 1, 0, 0) := by decide +kernel
theorem r2_85 : rowAt 2 85 = some (.ifCond .eq 7, 3, 0, 0) := by decide +kernel
theorem r2_88 : rowAt 2 88 = some (.iconst 1, 1, 0, 0) := by decide +kernel
theorem r2_89 : rowAt 2 89 = some (.goto 4, 3, 0, 0) := by decide +kernel
theorem r2_92 : rowAt 2 92 = some (.iconst 0, 1, 0, 0) := by decide +kernel
theorem r2_93 : rowAt 2 93 = some (.ireturn, 1, 0, 0) := by decide +kernel
theorem r2_94 : rowAt 2 94 = some (.aload_n 0, 1, 0, 0) := by decide +kernel
theorem r2_95 : rowAt 2 95 = some (.getfield 18, 3, 0, 2) := by decide +kernel
theorem r2_98 : rowAt 2 98 = some (.iload 6, 2, 0, 0) := by decide +kernel
theorem r2_100 : rowAt 2 100 = some (.dup2, 1, 0, 0) := by decide +kernel
theorem r2_101 : rowAt 2 101 = some (.laload, 1, 0, 0) := by decide +kernel
theorem r2_102 : rowAt 2 102 = some (.lload 7, 2, 0, 0) := by decide +kernel
theorem r2_104 : rowAt 2 104 = some (.lor, 1, 0, 0) := by decide +kernel
theorem r2_105 : rowAt 2 105 = some (.lastore, 1, 0, 0) := by decide +kernel
theorem r2_106 : rowAt 2 106 = some (.iload 5, 2, 0, 0) := by decide +kernel
theorem r2_108 : rowAt 2 108 = some (.bipush 12, 2, 0, 0) := by decide +kernel
theorem r2_110 : rowAt 2 110 = some (.irem, 1, 0, 0) := by decide +kernel
theorem r2_111 : rowAt 2 111 = some (.iload 4, 2, 0, 0) := by decide +kernel
theorem r2_113 : rowAt 2 113 = some (.bipush 12, 2, 0, 0) := by decide +kernel
theorem r2_115 : rowAt 2 115 = some (.irem, 1, 0, 0) := by decide +kernel
theorem r2_116 : rowAt 2 116 = some (.isub, 1, 0, 0) := by decide +kernel
theorem r2_117 : rowAt 2 117 = some (.istore 9, 2, 0, 0) := by decide +kernel
theorem r2_119 : rowAt 2 119 = some (.iload 5, 2, 0, 0) := by decide +kernel
theorem r2_121 : rowAt 2 121 = some (.bipush 12, 2, 0, 0) := by decide +kernel
theorem r2_123 : rowAt 2 123 = some (.idiv, 1, 0, 0) := by decide +kernel
theorem r2_124 : rowAt 2 124 = some (.iload 4, 2, 0, 0) := by decide +kernel
theorem r2_126 : rowAt 2 126 = some (.bipush 12, 2, 0, 0) := by decide +kernel
theorem r2_128 : rowAt 2 128 = some (.idiv, 1, 0, 0) := by decide +kernel
theorem r2_129 : rowAt 2 129 = some (.isub, 1, 0, 0) := by decide +kernel
theorem r2_130 : rowAt 2 130 = some (.istore 10, 2, 0, 0) := by decide +kernel
theorem r2_132 : rowAt 2 132 = some (.iload 9, 2, 0, 0) := by decide +kernel
theorem r2_134 : rowAt 2 134 = some (.invokestatic 64, 3, 224, 1) := by decide +kernel
theorem r2_137 : rowAt 2 137 = some (.iload 10, 2, 0, 0) := by decide +kernel
theorem r2_139 : rowAt 2 139 = some (.invokestatic 64, 3, 224, 1) := by decide +kernel
theorem r2_142 : rowAt 2 142 = some (.invokestatic 61, 3, 225, 1) := by decide +kernel
theorem r2_145 : rowAt 2 145 = some (.istore 11, 2, 0, 0) := by decide +kernel
theorem r2_147 : rowAt 2 147 = some (.iconst 1, 1, 0, 0) := by decide +kernel
theorem r2_148 : rowAt 2 148 = some (.istore 12, 2, 0, 0) := by decide +kernel
theorem r2_150 : rowAt 2 150 = some (.iload 12, 2, 0, 0) := by decide +kernel
theorem r2_152 : rowAt 2 152 = some (.iload 11, 2, 0, 0) := by decide +kernel
theorem r2_154 : rowAt 2 154 = some (.if_icmp .ge 92, 3, 0, 0) := by decide +kernel
theorem r2_157 : rowAt 2 157 = some (.iload 4, 2, 0, 0) := by decide +kernel
theorem r2_159 : rowAt 2 159 = some (.bipush 12, 2, 0, 0) := by decide +kernel
theorem r2_161 : rowAt 2 161 = some (.irem, 1, 0, 0) := by decide +kernel
theorem r2_162 : rowAt 2 162 = some (.iconst 2, 1, 0, 0) := by decide +kernel
theorem r2_163 : rowAt 2 163 = some (.iload 12, 2, 0, 0) := by decide +kernel
theorem r2_165 : rowAt 2 165 = some (.imul, 1, 0, 0) := by decide +kernel
theorem r2_166 : rowAt 2 166 = some (.iload 9, 2, 0, 0) := by decide +kernel
theorem r2_168 : rowAt 2 168 = some (.imul, 1, 0, 0) := by decide +kernel
theorem r2_169 : rowAt 2 169 = some (.iload 11, 2, 0, 0) := by decide +kernel
theorem r2_171 : rowAt 2 171 = some (.iadd, 1, 0, 0) := by decide +kernel
theorem r2_172 : rowAt 2 172 = some (.iconst 2, 1, 0, 0) := by decide +kernel
theorem r2_173 : rowAt 2 173 = some (.iload 11, 2, 0, 0) := by decide +kernel
theorem r2_175 : rowAt 2 175 = some (.imul, 1, 0, 0) := by decide +kernel
theorem r2_176 : rowAt 2 176 = some (.invokestatic 68, 3, 223, 1) := by decide +kernel
theorem r2_179 : rowAt 2 179 = some (.iadd, 1, 0, 0) := by decide +kernel
theorem r2_180 : rowAt 2 180 = some (.istore 13, 2, 0, 0) := by decide +kernel
theorem r2_182 : rowAt 2 182 = some (.iload 4, 2, 0, 0) := by decide +kernel
theorem r2_184 : rowAt 2 184 = some (.bipush 12, 2, 0, 0) := by decide +kernel
theorem r2_186 : rowAt 2 186 = some (.idiv, 1, 0, 0) := by decide +kernel
theorem r2_187 : rowAt 2 187 = some (.iconst 2, 1, 0, 0) := by decide +kernel
theorem r2_188 : rowAt 2 188 = some (.iload 12, 2, 0, 0) := by decide +kernel
theorem r2_190 : rowAt 2 190 = some (.imul, 1, 0, 0) := by decide +kernel
theorem r2_191 : rowAt 2 191 = some (.iload 10, 2, 0, 0) := by decide +kernel
theorem r2_193 : rowAt 2 193 = some (.imul, 1, 0, 0) := by decide +kernel
theorem r2_194 : rowAt 2 194 = some (.iload 11, 2, 0, 0) := by decide +kernel
theorem r2_196 : rowAt 2 196 = some (.iadd, 1, 0, 0) := by decide +kernel
theorem r2_197 : rowAt 2 197 = some (.iconst 2, 1, 0, 0) := by decide +kernel
theorem r2_198 : rowAt 2 198 = some (.iload 11, 2, 0, 0) := by decide +kernel
theorem r2_200 : rowAt 2 200 = some (.imul, 1, 0, 0) := by decide +kernel
theorem r2_201 : rowAt 2 201 = some (.invokestatic 68, 3, 223, 1) := by decide +kernel
theorem r2_204 : rowAt 2 204 = some (.iadd, 1, 0, 0) := by decide +kernel
theorem r2_205 : rowAt 2 205 = some (.istore 14, 2, 0, 0) := by decide +kernel
theorem r2_207 : rowAt 2 207 = some (.bipush 12, 2, 0, 0) := by decide +kernel
theorem r2_209 : rowAt 2 209 = some (.iload 14, 2, 0, 0) := by decide +kernel
theorem r2_211 : rowAt 2 211 = some (.imul, 1, 0, 0) := by decide +kernel
theorem r2_212 : rowAt 2 212 = some (.iload 13, 2, 0, 0) := by decide +kernel
theorem r2_214 : rowAt 2 214 = some (.iadd, 1, 0, 0) := by decide +kernel
theorem r2_215 : rowAt 2 215 = some (.istore 15, 2, 0, 0) := by decide +kernel
theorem r2_217 : rowAt 2 217 = some (.iload 15, 2, 0, 0) := by decide +kernel
theorem r2_219 : rowAt 2 219 = some (.ifCond .lt 21, 3, 0, 0) := by decide +kernel
theorem r2_222 : rowAt 2 222 = some (.iload 15, 2, 0, 0) := by decide +kernel
theorem r2_224 : rowAt 2 224 = some (.sipush 144, 3, 0, 0) := by decide +kernel
theorem r2_227 : rowAt 2 227 = some (.if_icmp .ge 13, 3, 0, 0) := by decide +kernel
theorem r2_230 : rowAt 2 230 = some (.aload_n 1, 1, 0, 0) := by decide +kernel
theorem r2_231 : rowAt 2 231 = some (.iload 15, 2, 0, 0) := by decide +kernel
theorem r2_233 : rowAt 2 233 = some (.baload, 1, 0, 0) := by decide +kernel
theorem r2_234 : rowAt 2 234 = some (.iconst 1, 1, 0, 0) := by decide +kernel
theorem r2_235 : rowAt 2 235 = some (.if_icmp .ne 5, 3, 0, 0) := by decide +kernel
theorem r2_238 : rowAt 2 238 = some (.iconst 0, 1, 0, 0) := by decide +kernel
theorem r2_239 : rowAt 2 239 = some (.ireturn, 1, 0, 0) := by decide +kernel
theorem r2_240 : rowAt 2 240 = some (.iinc 12 1, 3, 0, 0) := by decide +kernel
theorem r2_243 : rowAt 2 243 = some (.goto (-93), 3, 0, 0) := by decide +kernel
theorem r2_246 : rowAt 2 246 = some (.aload_n 0, 1, 0, 0) := by decide +kernel
theorem r2_247 : rowAt 2 247 = some (.getfield 22, 3, 0, 3) := by decide +kernel
theorem r2_250 : rowAt 2 250 = some (.iload 6, 2, 0, 0) := by decide +kernel
theorem r2_252 : rowAt 2 252 = some (.dup2, 1, 0, 0) := by decide +kernel
theorem r2_253 : rowAt 2 253 = some (.laload, 1, 0, 0) := by decide +kernel
theorem r2_254 : rowAt 2 254 = some (.lload 7, 2, 0, 0) := by decide +kernel
theorem r2_256 : rowAt 2 256 = some (.lor, 1, 0, 0) := by decide +kernel
theorem r2_257 : rowAt 2 257 = some (.lastore, 1, 0, 0) := by decide +kernel
theorem r2_258 : rowAt 2 258 = some (.iconst 1, 1, 0, 0) := by decide +kernel
theorem r2_259 : rowAt 2 259 = some (.ireturn, 1, 0, 0) := by decide +kernel
theorem en2 (a0 : Nat) (a1 : Nat) (a2 : Int32) (a3 : Int32) : iniL 2 [.ref a0, .ref a1, .int a2, .int a3] = [.ref a0, .ref a1, .int a2, .int a3, .null, .null, .null, .null, .null, .null, .null, .null, .null, .null, .null, .null] := ini_n mi2 rfl
set_option maxRecDepth 20000 in
theorem b2_0 (d : Nat) (l0 : Nat) (l1 : Nat) (l2 : Int32) (l3 : Int32) (h : aH) (K : Option Value → aH → Prop) : E scr false (d + 1) 2 0 [.ref l0, .ref l1, .int l2, .int l3, .null, .null, .null, .null, .null, .null, .null, .null, .null, .null, .null, .null] [] h K = sI scr d 226 [.int l2, .int l3] h (fun (x2 : Int32) (h1 : aH) => sI scr d 225 [.int l2, .int l3] h1 (fun (x4 : Int32) (h3 : aH) => (if x2 < 0 then K (some (.int 0)) h3 else (if 144 ≤ x4 then K (some (.int 0)) h3 else aN scr h3 l1 (fun x5 : Nat => (if 144 ≤ (Int32.ofNat x5) then gR scr h3 l0 0 2 (fun x6 : Nat => aJ h3 x6 (((x2 * 3) + ((x4 : Int32) >>> ((6 : Int32) &&& 31) : Int32))) (fun x7 : Int64 => (if (lg_cmp (x7 &&& ((1 : Int64) <<< ((Int32.toInt64 (x4 &&& 63) &&& 63) : Int64) : Int64)) 0) = 0 then gR scr h3 l0 0 2 (fun x8 : Nat => aJ h3 x8 (((x2 * 3) + ((x4 : Int32) >>> ((6 : Int32) &&& 31) : Int32))) (fun x9 : Int64 => wJ h3 x8 (((x2 * 3) + ((x4 : Int32) >>> ((6 : Int32) &&& 31) : Int32))) ((x9 ||| ((1 : Int64) <<< ((Int32.toInt64 (x4 &&& 63) &&& 63) : Int64) : Int64))) (fun h10 : aH => sI scr d 224 [.int ((irm x4 12) - (irm x2 12))] h10 (fun (x12 : Int32) (h11 : aH) => sI scr d 224 [.int ((x4 / 12) - (x2 / 12))] h11 (fun (x14 : Int32) (h13 : aH) => sI scr d 225 [.int x12, .int x14] h13 (fun (x16 : Int32) (h15 : aH) => E scr false (d + 1) 2 150 [.ref l0, .ref l1, .int l2, .int l3, .int x2, .int x4, .int ((x2 * 3) + ((x4 : Int32) >>> ((6 : Int32) &&& 31) : Int32)), .long ((1 : Int64) <<< ((Int32.toInt64 (x4 &&& 63) &&& 63) : Int64) : Int64), .null, .int ((irm x4 12) - (irm x2 12)), .int ((x4 / 12) - (x2 / 12)), .int x16, .int 1, .null, .null, .null] [] h15 K)))))) else gR scr h3 l0 0 3 (fun x17 : Nat => aJ h3 x17 (((x2 * 3) + ((x4 : Int32) >>> ((6 : Int32) &&& 31) : Int32))) (fun x18 : Int64 => (if (lg_cmp (x18 &&& ((1 : Int64) <<< ((Int32.toInt64 (x4 &&& 63) &&& 63) : Int64) : Int64)) 0) = 0 then K (some (.int 0)) h3 else K (some (.int 1)) h3)))))) else K (some (.int 0)) h3)))))) := go (w := (1, [.ref l0, .ref l1, .int l2, .int l3, .null, .null, .null, .null, .null, .null, .null, .null, .null, .null, .null, .null], [.int l2], h)) r2_0 rfl rfl (go (w := (2, [.ref l0, .ref l1, .int l2, .int l3, .null, .null, .null, .null, .null, .null, .null, .null, .null, .null, .null, .null], [.int l3, .int l2], h)) r2_1 rfl rfl (E_sI r2_2 (As := [.int l2, .int l3]) (rest := []) (cut_n mi226.1 rfl rfl) (rm8_n mi226.2.1 (Nat.le_of_ble_eq_true rfl) (Nat.le_of_ble_eq_true rfl)) mi226.2.2 (fun x2 h1 => go (w := (7, [.ref l0, .ref l1, .int l2, .int l3, .int x2, .null, .null, .null, .null, .null, .null, .null, .null, .null, .null, .null], [], h1)) r2_5 rfl rfl (go (w := (8, [.ref l0, .ref l1, .int l2, .int l3, .int x2, .null, .null, .null, .null, .null, .null, .null, .null, .null, .null, .null], [.int l2], h1)) r2_7 rfl rfl (go (w := (9, [.ref l0, .ref l1, .int l2, .int l3, .int x2, .null, .null, .null, .null, .null, .null, .null, .null, .null, .null, .null], [.int l3, .int l2], h1)) r2_8 rfl rfl (E_sI r2_9 (As := [.int l2, .int l3]) (rest := []) (cut_n mi225.1 rfl rfl) (rm8_n mi225.2.1 (Nat.le_of_ble_eq_true rfl) (Nat.le_of_ble_eq_true rfl)) mi225.2.2 (fun x4 h3 => go (w := (14, [.ref l0, .ref l1, .int l2, .int l3, .int x2, .int x4, .null, .null, .null, .null, .null, .null, .null, .null, .null, .null], [], h3)) r2_12 rfl rfl (go (w := (16, [.ref l0, .ref l1, .int l2, .int l3, .int x2, .int x4, .null, .null, .null, .null, .null, .null, .null, .null, .null, .null], [.int x2], h3)) r2_14 rfl rfl (E_i1_lt r2_16 rfl (E_ic r2_35 (v := 0) (by decide) (E_rz r2_36 (mq2) (by decide))) (go (w := (21, [.ref l0, .ref l1, .int l2, .int l3, .int x2, .int x4, .null, .null, .null, .null, .null, .null, .null, .null, .null, .null], [.int x4], h3)) r2_19 rfl rfl (E_sip r2_21 (v := 144) (by decide) (E_i2_ge r2_24 rfl (E_ic r2_35 (v := 0) (by decide) (E_rz r2_36 (mq2) (by decide))) (go (w := (28, [.ref l0, .ref l1, .int l2, .int l3, .int x2, .int x4, .null, .null, .null, .null, .null, .null, .null, .null, .null, .null], [.ref l1], h3)) r2_27 rfl rfl (E_aN r2_28 (fun x5 => E_sip r2_29 (v := 144) (by decide) (E_i2_ge r2_32 rfl (go (w := (39, [.ref l0, .ref l1, .int l2, .int l3, .int x2, .int x4, .null, .null, .null, .null, .null, .null, .null, .null, .null, .null], [.int x2], h3)) r2_37 rfl rfl (E_ic r2_39 (v := 3) (by decide) (go (w := (41, [.ref l0, .ref l1, .int l2, .int l3, .int x2, .int x4, .null, .null, .null, .null, .null, .null, .null, .null, .null, .null], [.int (x2 * 3)], h3)) r2_40 rfl rfl (go (w := (43, [.ref l0, .ref l1, .int l2, .int l3, .int x2, .int x4, .null, .null, .null, .null, .null, .null, .null, .null, .null, .null], [.int x4, .int (x2 * 3)], h3)) r2_41 rfl rfl (E_bip r2_43 (v := 6) (by decide) (go (w := (46, [.ref l0, .ref l1, .int l2, .int l3, .int x2, .int x4, .null, .null, .null, .null, .null, .null, .null, .null, .null, .null], [.int ((x4 : Int32) >>> ((6 : Int32) &&& 31) : Int32), .int (x2 * 3)], h3)) r2_45 rfl rfl (go (w := (47, [.ref l0, .ref l1, .int l2, .int l3, .int x2, .int x4, .null, .null, .null, .null, .null, .null, .null, .null, .null, .null], [.int ((x2 * 3) + ((x4 : Int32) >>> ((6 : Int32) &&& 31) : Int32))], h3)) r2_46 rfl rfl (go (w := (49, [.ref l0, .ref l1, .int l2, .int l3, .int x2, .int x4, .int ((x2 * 3) + ((x4 : Int32) >>> ((6 : Int32) &&& 31) : Int32)), .null, .null, .null, .null, .null, .null, .null, .null, .null], [], h3)) r2_47 rfl rfl (E_lc r2_49 (v := 1) (by decide) (go (w := (52, [.ref l0, .ref l1, .int l2, .int l3, .int x2, .int x4, .int ((x2 * 3) + ((x4 : Int32) >>> ((6 : Int32) &&& 31) : Int32)), .null, .null, .null, .null, .null, .null, .null, .null, .null], [.int x4, .long 1], h3)) r2_50 rfl rfl (E_bip r2_52 (v := 63) (by decide) (go (w := (55, [.ref l0, .ref l1, .int l2, .int l3, .int x2, .int x4, .int ((x2 * 3) + ((x4 : Int32) >>> ((6 : Int32) &&& 31) : Int32)), .null, .null, .null, .null, .null, .null, .null, .null, .null], [.int (x4 &&& 63), .long 1], h3)) r2_54 rfl rfl (go (w := (56, [.ref l0, .ref l1, .int l2, .int l3, .int x2, .int x4, .int ((x2 * 3) + ((x4 : Int32) >>> ((6 : Int32) &&& 31) : Int32)), .null, .null, .null, .null, .null, .null, .null, .null, .null], [.long ((1 : Int64) <<< ((Int32.toInt64 (x4 &&& 63) &&& 63) : Int64) : Int64)], h3)) r2_55 rfl rfl (go (w := (58, [.ref l0, .ref l1, .int l2, .int l3, .int x2, .int x4, .int ((x2 * 3) + ((x4 : Int32) >>> ((6 : Int32) &&& 31) : Int32)), .long ((1 : Int64) <<< ((Int32.toInt64 (x4 &&& 63) &&& 63) : Int64) : Int64), .null, .null, .null, .null, .null, .null, .null, .null], [], h3)) r2_56 rfl rfl (go (w := (59, [.ref l0, .ref l1, .int l2, .int l3, .int x2, .int x4, .int ((x2 * 3) + ((x4 : Int32) >>> ((6 : Int32) &&& 31) : Int32)), .long ((1 : Int64) <<< ((Int32.toInt64 (x4 &&& 63) &&& 63) : Int64) : Int64), .null, .null, .null, .null, .null, .null, .null, .null], [.ref l0], h3)) r2_58 rfl rfl (E_gR r2_59 rfl (fun x6 => go (w := (64, [.ref l0, .ref l1, .int l2, .int l3, .int x2, .int x4, .int ((x2 * 3) + ((x4 : Int32) >>> ((6 : Int32) &&& 31) : Int32)), .long ((1 : Int64) <<< ((Int32.toInt64 (x4 &&& 63) &&& 63) : Int64) : Int64), .null, .null, .null, .null, .null, .null, .null, .null], [.int ((x2 * 3) + ((x4 : Int32) >>> ((6 : Int32) &&& 31) : Int32)), .ref x6], h3)) r2_62 rfl rfl (E_aJ r2_64 (fun x7 => go (w := (67, [.ref l0, .ref l1, .int l2, .int l3, .int x2, .int x4, .int ((x2 * 3) + ((x4 : Int32) >>> ((6 : Int32) &&& 31) : Int32)), .long ((1 : Int64) <<< ((Int32.toInt64 (x4 &&& 63) &&& 63) : Int64) : Int64), .null, .null, .null, .null, .null, .null, .null, .null], [.long ((1 : Int64) <<< ((Int32.toInt64 (x4 &&& 63) &&& 63) : Int64) : Int64), .long x7], h3)) r2_65 rfl rfl (go (w := (68, [.ref l0, .ref l1, .int l2, .int l3, .int x2, .int x4, .int ((x2 * 3) + ((x4 : Int32) >>> ((6 : Int32) &&& 31) : Int32)), .long ((1 : Int64) <<< ((Int32.toInt64 (x4 &&& 63) &&& 63) : Int64) : Int64), .null, .null, .null, .null, .null, .null, .null, .null], [.long (x7 &&& ((1 : Int64) <<< ((Int32.toInt64 (x4 &&& 63) &&& 63) : Int64) : Int64))], h3)) r2_67 rfl rfl (E_lc r2_68 (v := 0) (by decide) (go (w := (70, [.ref l0, .ref l1, .int l2, .int l3, .int x2, .int x4, .int ((x2 * 3) + ((x4 : Int32) >>> ((6 : Int32) &&& 31) : Int32)), .long ((1 : Int64) <<< ((Int32.toInt64 (x4 &&& 63) &&& 63) : Int64) : Int64), .null, .null, .null, .null, .null, .null, .null, .null], [.int (lg_cmp (x7 &&& ((1 : Int64) <<< ((Int32.toInt64 (x4 &&& 63) &&& 63) : Int64) : Int64)) 0)], h3)) r2_69 rfl rfl (E_i1_eq r2_70 rfl (go (w := (95, [.ref l0, .ref l1, .int l2, .int l3, .int x2, .int x4, .int ((x2 * 3) + ((x4 : Int32) >>> ((6 : Int32) &&& 31) : Int32)), .long ((1 : Int64) <<< ((Int32.toInt64 (x4 &&& 63) &&& 63) : Int64) : Int64), .null, .null, .null, .null, .null, .null, .null, .null], [.ref l0], h3)) r2_94 rfl rfl (E_gR r2_95 rfl (fun x8 => go (w := (100, [.ref l0, .ref l1, .int l2, .int l3, .int x2, .int x4, .int ((x2 * 3) + ((x4 : Int32) >>> ((6 : Int32) &&& 31) : Int32)), .long ((1 : Int64) <<< ((Int32.toInt64 (x4 &&& 63) &&& 63) : Int64) : Int64), .null, .null, .null, .null, .null, .null, .null, .null], [.int ((x2 * 3) + ((x4 : Int32) >>> ((6 : Int32) &&& 31) : Int32)), .ref x8], h3)) r2_98 rfl rfl (go (w := (101, [.ref l0, .ref l1, .int l2, .int l3, .int x2, .int x4, .int ((x2 * 3) + ((x4 : Int32) >>> ((6 : Int32) &&& 31) : Int32)), .long ((1 : Int64) <<< ((Int32.toInt64 (x4 &&& 63) &&& 63) : Int64) : Int64), .null, .null, .null, .null, .null, .null, .null, .null], [.int ((x2 * 3) + ((x4 : Int32) >>> ((6 : Int32) &&& 31) : Int32)), .ref x8, .int ((x2 * 3) + ((x4 : Int32) >>> ((6 : Int32) &&& 31) : Int32)), .ref x8], h3)) r2_100 rfl rfl (E_aJ r2_101 (fun x9 => go (w := (104, [.ref l0, .ref l1, .int l2, .int l3, .int x2, .int x4, .int ((x2 * 3) + ((x4 : Int32) >>> ((6 : Int32) &&& 31) : Int32)), .long ((1 : Int64) <<< ((Int32.toInt64 (x4 &&& 63) &&& 63) : Int64) : Int64), .null, .null, .null, .null, .null, .null, .null, .null], [.long ((1 : Int64) <<< ((Int32.toInt64 (x4 &&& 63) &&& 63) : Int64) : Int64), .long x9, .int ((x2 * 3) + ((x4 : Int32) >>> ((6 : Int32) &&& 31) : Int32)), .ref x8], h3)) r2_102 rfl rfl (go (w := (105, [.ref l0, .ref l1, .int l2, .int l3, .int x2, .int x4, .int ((x2 * 3) + ((x4 : Int32) >>> ((6 : Int32) &&& 31) : Int32)), .long ((1 : Int64) <<< ((Int32.toInt64 (x4 &&& 63) &&& 63) : Int64) : Int64), .null, .null, .null, .null, .null, .null, .null, .null], [.long (x9 ||| ((1 : Int64) <<< ((Int32.toInt64 (x4 &&& 63) &&& 63) : Int64) : Int64)), .int ((x2 * 3) + ((x4 : Int32) >>> ((6 : Int32) &&& 31) : Int32)), .ref x8], h3)) r2_104 rfl rfl (E_wJ r2_105 (fun h10 => go (w := (108, [.ref l0, .ref l1, .int l2, .int l3, .int x2, .int x4, .int ((x2 * 3) + ((x4 : Int32) >>> ((6 : Int32) &&& 31) : Int32)), .long ((1 : Int64) <<< ((Int32.toInt64 (x4 &&& 63) &&& 63) : Int64) : Int64), .null, .null, .null, .null, .null, .null, .null, .null], [.int x4], h10)) r2_106 rfl rfl (E_bip r2_108 (v := 12) (by decide) (E_remc r2_110 (by decide) (go (w := (113, [.ref l0, .ref l1, .int l2, .int l3, .int x2, .int x4, .int ((x2 * 3) + ((x4 : Int32) >>> ((6 : Int32) &&& 31) : Int32)), .long ((1 : Int64) <<< ((Int32.toInt64 (x4 &&& 63) &&& 63) : Int64) : Int64), .null, .null, .null, .null, .null, .null, .null, .null], [.int x2, .int (irm x4 12)], h10)) r2_111 rfl rfl (E_bip r2_113 (v := 12) (by decide) (E_remc r2_115 (by decide) (go (w := (117, [.ref l0, .ref l1, .int l2, .int l3, .int x2, .int x4, .int ((x2 * 3) + ((x4 : Int32) >>> ((6 : Int32) &&& 31) : Int32)), .long ((1 : Int64) <<< ((Int32.toInt64 (x4 &&& 63) &&& 63) : Int64) : Int64), .null, .null, .null, .null, .null, .null, .null, .null], [.int ((irm x4 12) - (irm x2 12))], h10)) r2_116 rfl rfl (go (w := (119, [.ref l0, .ref l1, .int l2, .int l3, .int x2, .int x4, .int ((x2 * 3) + ((x4 : Int32) >>> ((6 : Int32) &&& 31) : Int32)), .long ((1 : Int64) <<< ((Int32.toInt64 (x4 &&& 63) &&& 63) : Int64) : Int64), .null, .int ((irm x4 12) - (irm x2 12)), .null, .null, .null, .null, .null, .null], [], h10)) r2_117 rfl rfl (go (w := (121, [.ref l0, .ref l1, .int l2, .int l3, .int x2, .int x4, .int ((x2 * 3) + ((x4 : Int32) >>> ((6 : Int32) &&& 31) : Int32)), .long ((1 : Int64) <<< ((Int32.toInt64 (x4 &&& 63) &&& 63) : Int64) : Int64), .null, .int ((irm x4 12) - (irm x2 12)), .null, .null, .null, .null, .null, .null], [.int x4], h10)) r2_119 rfl rfl (E_bip r2_121 (v := 12) (by decide) (E_divc r2_123 (by decide) (go (w := (126, [.ref l0, .ref l1, .int l2, .int l3, .int x2, .int x4, .int ((x2 * 3) + ((x4 : Int32) >>> ((6 : Int32) &&& 31) : Int32)), .long ((1 : Int64) <<< ((Int32.toInt64 (x4 &&& 63) &&& 63) : Int64) : Int64), .null, .int ((irm x4 12) - (irm x2 12)), .null, .null, .null, .null, .null, .null], [.int x2, .int (x4 / 12)], h10)) r2_124 rfl rfl (E_bip r2_126 (v := 12) (by decide) (E_divc r2_128 (by decide) (go (w := (130, [.ref l0, .ref l1, .int l2, .int l3, .int x2, .int x4, .int ((x2 * 3) + ((x4 : Int32) >>> ((6 : Int32) &&& 31) : Int32)), .long ((1 : Int64) <<< ((Int32.toInt64 (x4 &&& 63) &&& 63) : Int64) : Int64), .null, .int ((irm x4 12) - (irm x2 12)), .null, .null, .null, .null, .null, .null], [.int ((x4 / 12) - (x2 / 12))], h10)) r2_129 rfl rfl (go (w := (132, [.ref l0, .ref l1, .int l2, .int l3, .int x2, .int x4, .int ((x2 * 3) + ((x4 : Int32) >>> ((6 : Int32) &&& 31) : Int32)), .long ((1 : Int64) <<< ((Int32.toInt64 (x4 &&& 63) &&& 63) : Int64) : Int64), .null, .int ((irm x4 12) - (irm x2 12)), .int ((x4 / 12) - (x2 / 12)), .null, .null, .null, .null, .null], [], h10)) r2_130 rfl rfl (go (w := (134, [.ref l0, .ref l1, .int l2, .int l3, .int x2, .int x4, .int ((x2 * 3) + ((x4 : Int32) >>> ((6 : Int32) &&& 31) : Int32)), .long ((1 : Int64) <<< ((Int32.toInt64 (x4 &&& 63) &&& 63) : Int64) : Int64), .null, .int ((irm x4 12) - (irm x2 12)), .int ((x4 / 12) - (x2 / 12)), .null, .null, .null, .null, .null], [.int ((irm x4 12) - (irm x2 12))], h10)) r2_132 rfl rfl (E_sI r2_134 (As := [.int ((irm x4 12) - (irm x2 12))]) (rest := []) (cut_n mi224.1 rfl rfl) (rm8_n mi224.2.1 (Nat.le_of_ble_eq_true rfl) (Nat.le_of_ble_eq_true rfl)) mi224.2.2 (fun x12 h11 => go (w := (139, [.ref l0, .ref l1, .int l2, .int l3, .int x2, .int x4, .int ((x2 * 3) + ((x4 : Int32) >>> ((6 : Int32) &&& 31) : Int32)), .long ((1 : Int64) <<< ((Int32.toInt64 (x4 &&& 63) &&& 63) : Int64) : Int64), .null, .int ((irm x4 12) - (irm x2 12)), .int ((x4 / 12) - (x2 / 12)), .null, .null, .null, .null, .null], [.int ((x4 / 12) - (x2 / 12)), .int x12], h11)) r2_137 rfl rfl (E_sI r2_139 (As := [.int ((x4 / 12) - (x2 / 12))]) (rest := [.int x12]) (cut_n mi224.1 rfl rfl) (rm8_n mi224.2.1 (Nat.le_of_ble_eq_true rfl) (Nat.le_of_ble_eq_true rfl)) mi224.2.2 (fun x14 h13 => E_sI r2_142 (As := [.int x12, .int x14]) (rest := []) (cut_n mi225.1 rfl rfl) (rm8_n mi225.2.1 (Nat.le_of_ble_eq_true rfl) (Nat.le_of_ble_eq_true rfl)) mi225.2.2 (fun x16 h15 => go (w := (147, [.ref l0, .ref l1, .int l2, .int l3, .int x2, .int x4, .int ((x2 * 3) + ((x4 : Int32) >>> ((6 : Int32) &&& 31) : Int32)), .long ((1 : Int64) <<< ((Int32.toInt64 (x4 &&& 63) &&& 63) : Int64) : Int64), .null, .int ((irm x4 12) - (irm x2 12)), .int ((x4 / 12) - (x2 / 12)), .int x16, .null, .null, .null, .null], [], h15)) r2_145 rfl rfl (E_ic r2_147 (v := 1) (by decide) (go (w := (150, [.ref l0, .ref l1, .int l2, .int l3, .int x2, .int x4, .int ((x2 * 3) + ((x4 : Int32) >>> ((6 : Int32) &&& 31) : Int32)), .long ((1 : Int64) <<< ((Int32.toInt64 (x4 &&& 63) &&& 63) : Int64) : Int64), .null, .int ((irm x4 12) - (irm x2 12)), .int ((x4 / 12) - (x2 / 12)), .int x16, .int 1, .null, .null, .null], [], h15)) r2_148 rfl rfl (rfl))))))))))))))))))))))))))))))))) (go (w := (74, [.ref l0, .ref l1, .int l2, .int l3, .int x2, .int x4, .int ((x2 * 3) + ((x4 : Int32) >>> ((6 : Int32) &&& 31) : Int32)), .long ((1 : Int64) <<< ((Int32.toInt64 (x4 &&& 63) &&& 63) : Int64) : Int64), .null, .null, .null, .null, .null, .null, .null, .null], [.ref l0], h3)) r2_73 rfl rfl (E_gR r2_74 rfl (fun x17 => go (w := (79, [.ref l0, .ref l1, .int l2, .int l3, .int x2, .int x4, .int ((x2 * 3) + ((x4 : Int32) >>> ((6 : Int32) &&& 31) : Int32)), .long ((1 : Int64) <<< ((Int32.toInt64 (x4 &&& 63) &&& 63) : Int64) : Int64), .null, .null, .null, .null, .null, .null, .null, .null], [.int ((x2 * 3) + ((x4 : Int32) >>> ((6 : Int32) &&& 31) : Int32)), .ref x17], h3)) r2_77 rfl rfl (E_aJ r2_79 (fun x18 => go (w := (82, [.ref l0, .ref l1, .int l2, .int l3, .int x2, .int x4, .int ((x2 * 3) + ((x4 : Int32) >>> ((6 : Int32) &&& 31) : Int32)), .long ((1 : Int64) <<< ((Int32.toInt64 (x4 &&& 63) &&& 63) : Int64) : Int64), .null, .null, .null, .null, .null, .null, .null, .null], [.long ((1 : Int64) <<< ((Int32.toInt64 (x4 &&& 63) &&& 63) : Int64) : Int64), .long x18], h3)) r2_80 rfl rfl (go (w := (83, [.ref l0, .ref l1, .int l2, .int l3, .int x2, .int x4, .int ((x2 * 3) + ((x4 : Int32) >>> ((6 : Int32) &&& 31) : Int32)), .long ((1 : Int64) <<< ((Int32.toInt64 (x4 &&& 63) &&& 63) : Int64) : Int64), .null, .null, .null, .null, .null, .null, .null, .null], [.long (x18 &&& ((1 : Int64) <<< ((Int32.toInt64 (x4 &&& 63) &&& 63) : Int64) : Int64))], h3)) r2_82 rfl rfl (E_lc r2_83 (v := 0) (by decide) (go (w := (85, [.ref l0, .ref l1, .int l2, .int l3, .int x2, .int x4, .int ((x2 * 3) + ((x4 : Int32) >>> ((6 : Int32) &&& 31) : Int32)), .long ((1 : Int64) <<< ((Int32.toInt64 (x4 &&& 63) &&& 63) : Int64) : Int64), .null, .null, .null, .null, .null, .null, .null, .null], [.int (lg_cmp (x18 &&& ((1 : Int64) <<< ((Int32.toInt64 (x4 &&& 63) &&& 63) : Int64) : Int64)) 0)], h3)) r2_84 rfl rfl (E_i1_eq r2_85 rfl (E_ic r2_92 (v := 0) (by decide) (E_rz r2_93 (mq2) (by decide))) (E_ic r2_88 (v := 1) (by decide) (E_gt r2_89 rfl (E_rz r2_93 (mq2) (by decide)))))))))))))))))))))))))))))))))))) (E_ic r2_35 (v := 0) (by decide) (E_rz r2_36 (mq2) (by decide)))))))))))))))))))
theorem b2_150 (d : Nat) (l0 : Nat) (l1 : Nat) (l2 : Int32) (l3 : Int32) (l4 : Int32) (l5 : Int32) (l6 : Int32) (l7 : Int64) (l9 : Int32) (l10 : Int32) (l11 : Int32) (l12 : Int32) (l13 : Value) (l14 : Value) (l15 : Value) (h : aH) (K : Option Value → aH → Prop) : E scr false (d + 1) 2 150 [.ref l0, .ref l1, .int l2, .int l3, .int l4, .int l5, .int l6, .long l7, .null, .int l9, .int l10, .int l11, .int l12, l13, l14, l15] [] h K = (if l11 ≤ l12 then gR scr h l0 0 3 (fun x1 : Nat => aJ h x1 l6 (fun x2 : Int64 => wJ h x1 l6 ((x2 ||| l7)) (fun h3 : aH => K (some (.int 1)) h3))) else sI scr d 223 [.int (((2 * l12) * l9) + l11), .int (2 * l11)] h (fun (x5 : Int32) (h4 : aH) => sI scr d 223 [.int (((2 * l12) * l10) + l11), .int (2 * l11)] h4 (fun (x7 : Int32) (h6 : aH) => (if ((12 * ((l4 / 12) + x7)) + ((irm l4 12) + x5)) < 0 then E scr false (d + 1) 2 240 [.ref l0, .ref l1, .int l2, .int l3, .int l4, .int l5, .int l6, .long l7, .null, .int l9, .int l10, .int l11, .int l12, .int ((irm l4 12) + x5), .int ((l4 / 12) + x7), .int ((12 * ((l4 / 12) + x7)) + ((irm l4 12) + x5))] [] h6 K else (if 144 ≤ ((12 * ((l4 / 12) + x7)) + ((irm l4 12) + x5)) then E scr false (d + 1) 2 240 [.ref l0, .ref l1, .int l2, .int l3, .int l4, .int l5, .int l6, .long l7, .null, .int l9, .int l10, .int l11, .int l12, .int ((irm l4 12) + x5), .int ((l4 / 12) + x7), .int ((12 * ((l4 / 12) + x7)) + ((irm l4 12) + x5))] [] h6 K else aB scr h6 l1 (((12 * ((l4 / 12) + x7)) + ((irm l4 12) + x5))) (fun x8 : Int32 => (if x8 = 1 then K (some (.int 0)) h6 else E scr false (d + 1) 2 240 [.ref l0, .ref l1, .int l2, .int l3, .int l4, .int l5, .int l6, .long l7, .null, .int l9, .int l10, .int l11, .int l12, .int ((irm l4 12) + x5), .int ((l4 / 12) + x7), .int ((12 * ((l4 / 12) + x7)) + ((irm l4 12) + x5))] [] h6 K))))))) := go (w := (152, [.ref l0, .ref l1, .int l2, .int l3, .int l4, .int l5, .int l6, .long l7, .null, .int l9, .int l10, .int l11, .int l12, l13, l14, l15], [.int l12], h)) r2_150 rfl rfl (go (w := (154, [.ref l0, .ref l1, .int l2, .int l3, .int l4, .int l5, .int l6, .long l7, .null, .int l9, .int l10, .int l11, .int l12, l13, l14, l15], [.int l11, .int l12], h)) r2_152 rfl rfl (E_i2_ge r2_154 rfl (go (w := (247, [.ref l0, .ref l1, .int l2, .int l3, .int l4, .int l5, .int l6, .long l7, .null, .int l9, .int l10, .int l11, .int l12, l13, l14, l15], [.ref l0], h)) r2_246 rfl rfl (E_gR r2_247 rfl (fun x1 => go (w := (252, [.ref l0, .ref l1, .int l2, .int l3, .int l4, .int l5, .int l6, .long l7, .null, .int l9, .int l10, .int l11, .int l12, l13, l14, l15], [.int l6, .ref x1], h)) r2_250 rfl rfl (go (w := (253, [.ref l0, .ref l1, .int l2, .int l3, .int l4, .int l5, .int l6, .long l7, .null, .int l9, .int l10, .int l11, .int l12, l13, l14, l15], [.int l6, .ref x1, .int l6, .ref x1], h)) r2_252 rfl rfl (E_aJ r2_253 (fun x2 => go (w := (256, [.ref l0, .ref l1, .int l2, .int l3, .int l4, .int l5, .int l6, .long l7, .null, .int l9, .int l10, .int l11, .int l12, l13, l14, l15], [.long l7, .long x2, .int l6, .ref x1], h)) r2_254 rfl rfl (go (w := (257, [.ref l0, .ref l1, .int l2, .int l3, .int l4, .int l5, .int l6, .long l7, .null, .int l9, .int l10, .int l11, .int l12, l13, l14, l15], [.long (x2 ||| l7), .int l6, .ref x1], h)) r2_256 rfl rfl (E_wJ r2_257 (fun h3 => E_ic r2_258 (v := 1) (by decide) (E_rz r2_259 (mq2) (by decide))))))))))) (go (w := (159, [.ref l0, .ref l1, .int l2, .int l3, .int l4, .int l5, .int l6, .long l7, .null, .int l9, .int l10, .int l11, .int l12, l13, l14, l15], [.int l4], h)) r2_157 rfl rfl (E_bip r2_159 (v := 12) (by decide) (E_remc r2_161 (by decide) (E_ic r2_162 (v := 2) (by decide) (go (w := (165, [.ref l0, .ref l1, .int l2, .int l3, .int l4, .int l5, .int l6, .long l7, .null, .int l9, .int l10, .int l11, .int l12, l13, l14, l15], [.int l12, .int 2, .int (irm l4 12)], h)) r2_163 rfl rfl (go (w := (166, [.ref l0, .ref l1, .int l2, .int l3, .int l4, .int l5, .int l6, .long l7, .null, .int l9, .int l10, .int l11, .int l12, l13, l14, l15], [.int (2 * l12), .int (irm l4 12)], h)) r2_165 rfl rfl (go (w := (168, [.ref l0, .ref l1, .int l2, .int l3, .int l4, .int l5, .int l6, .long l7, .null, .int l9, .int l10, .int l11, .int l12, l13, l14, l15], [.int l9, .int (2 * l12), .int (irm l4 12)], h)) r2_166 rfl rfl (go (w := (169, [.ref l0, .ref l1, .int l2, .int l3, .int l4, .int l5, .int l6, .long l7, .null, .int l9, .int l10, .int l11, .int l12, l13, l14, l15], [.int ((2 * l12) * l9), .int (irm l4 12)], h)) r2_168 rfl rfl (go (w := (171, [.ref l0, .ref l1, .int l2, .int l3, .int l4, .int l5, .int l6, .long l7, .null, .int l9, .int l10, .int l11, .int l12, l13, l14, l15], [.int l11, .int ((2 * l12) * l9), .int (irm l4 12)], h)) r2_169 rfl rfl (go (w := (172, [.ref l0, .ref l1, .int l2, .int l3, .int l4, .int l5, .int l6, .long l7, .null, .int l9, .int l10, .int l11, .int l12, l13, l14, l15], [.int (((2 * l12) * l9) + l11), .int (irm l4 12)], h)) r2_171 rfl rfl (E_ic r2_172 (v := 2) (by decide) (go (w := (175, [.ref l0, .ref l1, .int l2, .int l3, .int l4, .int l5, .int l6, .long l7, .null, .int l9, .int l10, .int l11, .int l12, l13, l14, l15], [.int l11, .int 2, .int (((2 * l12) * l9) + l11), .int (irm l4 12)], h)) r2_173 rfl rfl (go (w := (176, [.ref l0, .ref l1, .int l2, .int l3, .int l4, .int l5, .int l6, .long l7, .null, .int l9, .int l10, .int l11, .int l12, l13, l14, l15], [.int (2 * l11), .int (((2 * l12) * l9) + l11), .int (irm l4 12)], h)) r2_175 rfl rfl (E_sI r2_176 (As := [.int (((2 * l12) * l9) + l11), .int (2 * l11)]) (rest := [.int (irm l4 12)]) (cut_n mi223.1 rfl rfl) (rm8_n mi223.2.1 (Nat.le_of_ble_eq_true rfl) (Nat.le_of_ble_eq_true rfl)) mi223.2.2 (fun x5 h4 => go (w := (180, [.ref l0, .ref l1, .int l2, .int l3, .int l4, .int l5, .int l6, .long l7, .null, .int l9, .int l10, .int l11, .int l12, l13, l14, l15], [.int ((irm l4 12) + x5)], h4)) r2_179 rfl rfl (go (w := (182, [.ref l0, .ref l1, .int l2, .int l3, .int l4, .int l5, .int l6, .long l7, .null, .int l9, .int l10, .int l11, .int l12, .int ((irm l4 12) + x5), l14, l15], [], h4)) r2_180 rfl rfl (go (w := (184, [.ref l0, .ref l1, .int l2, .int l3, .int l4, .int l5, .int l6, .long l7, .null, .int l9, .int l10, .int l11, .int l12, .int ((irm l4 12) + x5), l14, l15], [.int l4], h4)) r2_182 rfl rfl (E_bip r2_184 (v := 12) (by decide) (E_divc r2_186 (by decide) (E_ic r2_187 (v := 2) (by decide) (go (w := (190, [.ref l0, .ref l1, .int l2, .int l3, .int l4, .int l5, .int l6, .long l7, .null, .int l9, .int l10, .int l11, .int l12, .int ((irm l4 12) + x5), l14, l15], [.int l12, .int 2, .int (l4 / 12)], h4)) r2_188 rfl rfl (go (w := (191, [.ref l0, .ref l1, .int l2, .int l3, .int l4, .int l5, .int l6, .long l7, .null, .int l9, .int l10, .int l11, .int l12, .int ((irm l4 12) + x5), l14, l15], [.int (2 * l12), .int (l4 / 12)], h4)) r2_190 rfl rfl (go (w := (193, [.ref l0, .ref l1, .int l2, .int l3, .int l4, .int l5, .int l6, .long l7, .null, .int l9, .int l10, .int l11, .int l12, .int ((irm l4 12) + x5), l14, l15], [.int l10, .int (2 * l12), .int (l4 / 12)], h4)) r2_191 rfl rfl (go (w := (194, [.ref l0, .ref l1, .int l2, .int l3, .int l4, .int l5, .int l6, .long l7, .null, .int l9, .int l10, .int l11, .int l12, .int ((irm l4 12) + x5), l14, l15], [.int ((2 * l12) * l10), .int (l4 / 12)], h4)) r2_193 rfl rfl (go (w := (196, [.ref l0, .ref l1, .int l2, .int l3, .int l4, .int l5, .int l6, .long l7, .null, .int l9, .int l10, .int l11, .int l12, .int ((irm l4 12) + x5), l14, l15], [.int l11, .int ((2 * l12) * l10), .int (l4 / 12)], h4)) r2_194 rfl rfl (go (w := (197, [.ref l0, .ref l1, .int l2, .int l3, .int l4, .int l5, .int l6, .long l7, .null, .int l9, .int l10, .int l11, .int l12, .int ((irm l4 12) + x5), l14, l15], [.int (((2 * l12) * l10) + l11), .int (l4 / 12)], h4)) r2_196 rfl rfl (E_ic r2_197 (v := 2) (by decide) (go (w := (200, [.ref l0, .ref l1, .int l2, .int l3, .int l4, .int l5, .int l6, .long l7, .null, .int l9, .int l10, .int l11, .int l12, .int ((irm l4 12) + x5), l14, l15], [.int l11, .int 2, .int (((2 * l12) * l10) + l11), .int (l4 / 12)], h4)) r2_198 rfl rfl (go (w := (201, [.ref l0, .ref l1, .int l2, .int l3, .int l4, .int l5, .int l6, .long l7, .null, .int l9, .int l10, .int l11, .int l12, .int ((irm l4 12) + x5), l14, l15], [.int (2 * l11), .int (((2 * l12) * l10) + l11), .int (l4 / 12)], h4)) r2_200 rfl rfl (E_sI r2_201 (As := [.int (((2 * l12) * l10) + l11), .int (2 * l11)]) (rest := [.int (l4 / 12)]) (cut_n mi223.1 rfl rfl) (rm8_n mi223.2.1 (Nat.le_of_ble_eq_true rfl) (Nat.le_of_ble_eq_true rfl)) mi223.2.2 (fun x7 h6 => go (w := (205, [.ref l0, .ref l1, .int l2, .int l3, .int l4, .int l5, .int l6, .long l7, .null, .int l9, .int l10, .int l11, .int l12, .int ((irm l4 12) + x5), l14, l15], [.int ((l4 / 12) + x7)], h6)) r2_204 rfl rfl (go (w := (207, [.ref l0, .ref l1, .int l2, .int l3, .int l4, .int l5, .int l6, .long l7, .null, .int l9, .int l10, .int l11, .int l12, .int ((irm l4 12) + x5), .int ((l4 / 12) + x7), l15], [], h6)) r2_205 rfl rfl (E_bip r2_207 (v := 12) (by decide) (go (w := (211, [.ref l0, .ref l1, .int l2, .int l3, .int l4, .int l5, .int l6, .long l7, .null, .int l9, .int l10, .int l11, .int l12, .int ((irm l4 12) + x5), .int ((l4 / 12) + x7), l15], [.int ((l4 / 12) + x7), .int 12], h6)) r2_209 rfl rfl (go (w := (212, [.ref l0, .ref l1, .int l2, .int l3, .int l4, .int l5, .int l6, .long l7, .null, .int l9, .int l10, .int l11, .int l12, .int ((irm l4 12) + x5), .int ((l4 / 12) + x7), l15], [.int (12 * ((l4 / 12) + x7))], h6)) r2_211 rfl rfl (go (w := (214, [.ref l0, .ref l1, .int l2, .int l3, .int l4, .int l5, .int l6, .long l7, .null, .int l9, .int l10, .int l11, .int l12, .int ((irm l4 12) + x5), .int ((l4 / 12) + x7), l15], [.int ((irm l4 12) + x5), .int (12 * ((l4 / 12) + x7))], h6)) r2_212 rfl rfl (go (w := (215, [.ref l0, .ref l1, .int l2, .int l3, .int l4, .int l5, .int l6, .long l7, .null, .int l9, .int l10, .int l11, .int l12, .int ((irm l4 12) + x5), .int ((l4 / 12) + x7), l15], [.int ((12 * ((l4 / 12) + x7)) + ((irm l4 12) + x5))], h6)) r2_214 rfl rfl (go (w := (217, [.ref l0, .ref l1, .int l2, .int l3, .int l4, .int l5, .int l6, .long l7, .null, .int l9, .int l10, .int l11, .int l12, .int ((irm l4 12) + x5), .int ((l4 / 12) + x7), .int ((12 * ((l4 / 12) + x7)) + ((irm l4 12) + x5))], [], h6)) r2_215 rfl rfl (go (w := (219, [.ref l0, .ref l1, .int l2, .int l3, .int l4, .int l5, .int l6, .long l7, .null, .int l9, .int l10, .int l11, .int l12, .int ((irm l4 12) + x5), .int ((l4 / 12) + x7), .int ((12 * ((l4 / 12) + x7)) + ((irm l4 12) + x5))], [.int ((12 * ((l4 / 12) + x7)) + ((irm l4 12) + x5))], h6)) r2_217 rfl rfl (E_i1_lt r2_219 rfl (rfl) (go (w := (224, [.ref l0, .ref l1, .int l2, .int l3, .int l4, .int l5, .int l6, .long l7, .null, .int l9, .int l10, .int l11, .int l12, .int ((irm l4 12) + x5), .int ((l4 / 12) + x7), .int ((12 * ((l4 / 12) + x7)) + ((irm l4 12) + x5))], [.int ((12 * ((l4 / 12) + x7)) + ((irm l4 12) + x5))], h6)) r2_222 rfl rfl (E_sip r2_224 (v := 144) (by decide) (E_i2_ge r2_227 rfl (rfl) (go (w := (231, [.ref l0, .ref l1, .int l2, .int l3, .int l4, .int l5, .int l6, .long l7, .null, .int l9, .int l10, .int l11, .int l12, .int ((irm l4 12) + x5), .int ((l4 / 12) + x7), .int ((12 * ((l4 / 12) + x7)) + ((irm l4 12) + x5))], [.ref l1], h6)) r2_230 rfl rfl (go (w := (233, [.ref l0, .ref l1, .int l2, .int l3, .int l4, .int l5, .int l6, .long l7, .null, .int l9, .int l10, .int l11, .int l12, .int ((irm l4 12) + x5), .int ((l4 / 12) + x7), .int ((12 * ((l4 / 12) + x7)) + ((irm l4 12) + x5))], [.int ((12 * ((l4 / 12) + x7)) + ((irm l4 12) + x5)), .ref l1], h6)) r2_231 rfl rfl (E_aB r2_233 (fun x8 => E_ic r2_234 (v := 1) (by decide) (E_i2_ne r2_235 rfl (rfl) (E_ic r2_238 (v := 0) (by decide) (E_rz r2_239 (mq2) (by decide)))))))))))))))))))))))))))))))))))))))))))))))))))))
theorem b2_240 (d : Nat) (l0 : Nat) (l1 : Nat) (l2 : Int32) (l3 : Int32) (l4 : Int32) (l5 : Int32) (l6 : Int32) (l7 : Int64) (l9 : Int32) (l10 : Int32) (l11 : Int32) (l12 : Int32) (l13 : Int32) (l14 : Int32) (l15 : Int32) (h : aH) (K : Option Value → aH → Prop) : E scr false d 2 240 [.ref l0, .ref l1, .int l2, .int l3, .int l4, .int l5, .int l6, .long l7, .null, .int l9, .int l10, .int l11, .int l12, .int l13, .int l14, .int l15] [] h K = E scr false d 2 150 [.ref l0, .ref l1, .int l2, .int l3, .int l4, .int l5, .int l6, .long l7, .null, .int l9, .int l10, .int l11, .int (l12 + 1), .int l13, .int l14, .int l15] [] h K := E_inc r2_240 (c := 1) rfl (by decide) (L' := [.ref l0, .ref l1, .int l2, .int l3, .int l4, .int l5, .int l6, .long l7, .null, .int l9, .int l10, .int l11, .int (l12 + 1), .int l13, .int l14, .int l15]) rfl (E_gt r2_243 rfl (rfl))
-- 4 SecondNearest$Law.wipe()V
theorem mq4 : mRet 4 = none := by decide +kernel
theorem r4_0 : rowAt 4 0 = some (.aload_n 0, 1, 0, 0) := by decide +kernel
theorem r4_1 : rowAt 4 1 = some (.iconst 0, 1, 0, 0) := by decide +kernel
theorem r4_2 : rowAt 4 2 = some (.putfield 21, 3, 1, 0) := by decide +kernel
theorem r4_5 : rowAt 4 5 = some (.aload_n 0, 1, 0, 0) := by decide +kernel
theorem r4_6 : rowAt 4 6 = some (.iconst 0, 1, 0, 0) := by decide +kernel
theorem r4_7 : rowAt 4 7 = some (.putfield 25, 3, 1, 3) := by decide +kernel
theorem r4_10 : rowAt 4 10 = some (.return_, 1, 0, 0) := by decide +kernel
theorem en4 (a0 : Nat) : iniL 4 [.ref a0] = [.ref a0] := ini_n mi4 rfl
theorem b4_0 (d : Nat) (l0 : Nat) (h : aH) (K : Option Value → aH → Prop) : E scr false d 4 0 [.ref l0] [] h K = pF h l0 1 0 (.int 0) (fun h1 : aH => pF h1 l0 1 3 (.int 0) (fun h2 : aH => K none h2)) := go (w := (1, [.ref l0], [.ref l0], h)) r4_0 rfl rfl (E_ic r4_1 (v := 0) (by decide) (E_pI r4_2 ⟨rfl, rfl⟩ (fun h1 => go (w := (6, [.ref l0], [.ref l0], h1)) r4_5 rfl rfl (E_ic r4_6 (v := 0) (by decide) (E_pI r4_7 ⟨rfl, rfl⟩ (fun h2 => E_vret r4_10 (mq4)))))))
-- 5 SecondNearest$Law.emit(I)V
theorem mq5 : mRet 5 = none := by decide +kernel
theorem r5_0 : rowAt 5 0 = some (.aload_n 0, 1, 0, 0) := by decide +kernel
theorem r5_1 : rowAt 5 1 = some (.getfield 25, 3, 1, 3) := by decide +kernel
theorem r5_4 : rowAt 5 4 = some (.ifCond .lt 35, 3, 0, 0) := by decide +kernel
theorem r5_7 : rowAt 5 7 = some (.aload_n 0, 1, 0, 0) := by decide +kernel
theorem r5_8 : rowAt 5 8 = some (.getfield 25, 3, 1, 3) := by decide +kernel
theorem r5_11 : rowAt 5 11 = some (.aload_n 0, 1, 0, 0) := by decide +kernel
theorem r5_12 : rowAt 5 12 = some (.getfield 18, 3, 1, 4) := by decide +kernel
theorem r5_15 : rowAt 5 15 = some (.arraylength, 1, 0, 0) := by decide +kernel
theorem r5_16 : rowAt 5 16 = some (.if_icmp .ge 23, 3, 0, 0) := by decide +kernel
theorem r5_19 : rowAt 5 19 = some (.aload_n 0, 1, 0, 0) := by decide +kernel
theorem r5_20 : rowAt 5 20 = some (.getfield 18, 3, 1, 4) := by decide +kernel
theorem r5_23 : rowAt 5 23 = some (.aload_n 0, 1, 0, 0) := by decide +kernel
theorem r5_24 : rowAt 5 24 = some (.getfield 25, 3, 1, 3) := by decide +kernel
theorem r5_27 : rowAt 5 27 = some (.iload_n 1, 1, 0, 0) := by decide +kernel
theorem r5_28 : rowAt 5 28 = some (.iastore, 1, 0, 0) := by decide +kernel
theorem r5_29 : rowAt 5 29 = some (.aload_n 0, 1, 0, 0) := by decide +kernel
theorem r5_30 : rowAt 5 30 = some (.dup, 1, 0, 0) := by decide +kernel
theorem r5_31 : rowAt 5 31 = some (.getfield 25, 3, 1, 3) := by decide +kernel
theorem r5_34 : rowAt 5 34 = some (.iconst 1, 1, 0, 0) := by decide +kernel
theorem r5_35 : rowAt 5 35 = some (.iadd, 1, 0, 0) := by decide +kernel
theorem r5_36 : rowAt 5 36 = some (.putfield 25, 3, 1, 3) := by decide +kernel
theorem r5_39 : rowAt 5 39 = some (.return_, 1, 0, 0) := by decide +kernel
theorem en5 (a0 : Nat) (a1 : Int32) : iniL 5 [.ref a0, .int a1] = [.ref a0, .int a1] := ini_n mi5 rfl
theorem b5_0 (d : Nat) (l0 : Nat) (l1 : Int32) (h : aH) (K : Option Value → aH → Prop) : E scr false d 5 0 [.ref l0, .int l1] [] h K = gI scr h l0 1 3 (fun x1 : Int32 => (if x1 < 0 then K none h else gI scr h l0 1 3 (fun x2 : Int32 => gR scr h l0 1 4 (fun x3 : Nat => aN scr h x3 (fun x4 : Nat => (if (Int32.ofNat x4) ≤ x2 then K none h else gR scr h l0 1 4 (fun x5 : Nat => gI scr h l0 1 3 (fun x6 : Int32 => wI h x5 x6 l1 (fun h7 : aH => gI scr h7 l0 1 3 (fun x8 : Int32 => pF h7 l0 1 3 (.int (x8 + 1)) (fun h9 : aH => K none h9))))))))))) := go (w := (1, [.ref l0, .int l1], [.ref l0], h)) r5_0 rfl rfl (E_gI r5_1 rfl (fun x1 => E_i1_lt r5_4 rfl (E_vret r5_39 (mq5)) (go (w := (8, [.ref l0, .int l1], [.ref l0], h)) r5_7 rfl rfl (E_gI r5_8 rfl (fun x2 => go (w := (12, [.ref l0, .int l1], [.ref l0, .int x2], h)) r5_11 rfl rfl (E_gR r5_12 rfl (fun x3 => E_aN r5_15 (fun x4 => E_i2_ge r5_16 rfl (E_vret r5_39 (mq5)) (go (w := (20, [.ref l0, .int l1], [.ref l0], h)) r5_19 rfl rfl (E_gR r5_20 rfl (fun x5 => go (w := (24, [.ref l0, .int l1], [.ref l0, .ref x5], h)) r5_23 rfl rfl (E_gI r5_24 rfl (fun x6 => go (w := (28, [.ref l0, .int l1], [.int l1, .int x6, .ref x5], h)) r5_27 rfl rfl (E_wI r5_28 (fun h7 => go (w := (30, [.ref l0, .int l1], [.ref l0], h7)) r5_29 rfl rfl (go (w := (31, [.ref l0, .int l1], [.ref l0, .ref l0], h7)) r5_30 rfl rfl (E_gI r5_31 rfl (fun x8 => E_ic r5_34 (v := 1) (by decide) (go (w := (36, [.ref l0, .int l1], [.int (x8 + 1), .ref l0], h7)) r5_35 rfl rfl (E_pI r5_36 ⟨rfl, rfl⟩ (fun h9 => E_vret r5_39 (mq5))))))))))))))))))))))
-- 6 SecondNearest$Law.closeClause(I)V
theorem mq6 : mRet 6 = none := by decide +kernel
theorem r6_0 : rowAt 6 0 = some (.aload_n 0, 1, 0, 0) := by decide +kernel
theorem r6_1 : rowAt 6 1 = some (.getfield 21, 3, 1, 0) := by decide +kernel
theorem r6_4 : rowAt 6 4 = some (.ifCond .lt 45, 3, 0, 0) := by decide +kernel
theorem r6_7 : rowAt 6 7 = some (.aload_n 0, 1, 0, 0) := by decide +kernel
theorem r6_8 : rowAt 6 8 = some (.getfield 21, 3, 1, 0) := by decide +kernel
theorem r6_11 : rowAt 6 11 = some (.bipush 12, 2, 0, 0) := by decide +kernel
theorem r6_13 : rowAt 6 13 = some (.if_icmp .ge 36, 3, 0, 0) := by decide +kernel
theorem r6_16 : rowAt 6 16 = some (.aload_n 0, 1, 0, 0) := by decide +kernel
theorem r6_17 : rowAt 6 17 = some (.getfield 9, 3, 1, 1) := by decide +kernel
theorem r6_20 : rowAt 6 20 = some (.aload_n 0, 1, 0, 0) := by decide +kernel
theorem r6_21 : rowAt 6 21 = some (.getfield 21, 3, 1, 0) := by decide +kernel
theorem r6_24 : rowAt 6 24 = some (.iload_n 1, 1, 0, 0) := by decide +kernel
theorem r6_25 : rowAt 6 25 = some (.iastore, 1, 0, 0) := by decide +kernel
theorem r6_26 : rowAt 6 26 = some (.aload_n 0, 1, 0, 0) := by decide +kernel
theorem r6_27 : rowAt 6 27 = some (.getfield 13, 3, 1, 2) := by decide +kernel
theorem r6_30 : rowAt 6 30 = some (.aload_n 0, 1, 0, 0) := by decide +kernel
theorem r6_31 : rowAt 6 31 = some (.getfield 21, 3, 1, 0) := by decide +kernel
theorem r6_34 : rowAt 6 34 = some (.aload_n 0, 1, 0, 0) := by decide +kernel
theorem r6_35 : rowAt 6 35 = some (.getfield 25, 3, 1, 3) := by decide +kernel
theorem r6_38 : rowAt 6 38 = some (.iastore, 1, 0, 0) := by decide +kernel
theorem r6_39 : rowAt 6 39 = some (.aload_n 0, 1, 0, 0) := by decide +kernel
theorem r6_40 : rowAt 6 40 = some (.dup, 1, 0, 0) := by decide +kernel
theorem r6_41 : rowAt 6 41 = some (.getfield 21, 3, 1, 0) := by decide +kernel
theorem r6_44 : rowAt 6 44 = some (.iconst 1, 1, 0, 0) := by decide +kernel
theorem r6_45 : rowAt 6 45 = some (.iadd, 1, 0, 0) := by decide +kernel
theorem r6_46 : rowAt 6 46 = some (.putfield 21, 3, 1, 0) := by decide +kernel
theorem r6_49 : rowAt 6 49 = some (.return_, 1, 0, 0) := by decide +kernel
theorem en6 (a0 : Nat) (a1 : Int32) : iniL 6 [.ref a0, .int a1] = [.ref a0, .int a1] := ini_n mi6 rfl
theorem b6_0 (d : Nat) (l0 : Nat) (l1 : Int32) (h : aH) (K : Option Value → aH → Prop) : E scr false d 6 0 [.ref l0, .int l1] [] h K = gI scr h l0 1 0 (fun x1 : Int32 => (if x1 < 0 then K none h else gI scr h l0 1 0 (fun x2 : Int32 => (if 12 ≤ x2 then K none h else gR scr h l0 1 1 (fun x3 : Nat => gI scr h l0 1 0 (fun x4 : Int32 => wI h x3 x4 l1 (fun h5 : aH => gR scr h5 l0 1 2 (fun x6 : Nat => gI scr h5 l0 1 0 (fun x7 : Int32 => gI scr h5 l0 1 3 (fun x8 : Int32 => wI h5 x6 x7 x8 (fun h9 : aH => gI scr h9 l0 1 0 (fun x10 : Int32 => pF h9 l0 1 0 (.int (x10 + 1)) (fun h11 : aH => K none h11))))))))))))) := go (w := (1, [.ref l0, .int l1], [.ref l0], h)) r6_0 rfl rfl (E_gI r6_1 rfl (fun x1 => E_i1_lt r6_4 rfl (E_vret r6_49 (mq6)) (go (w := (8, [.ref l0, .int l1], [.ref l0], h)) r6_7 rfl rfl (E_gI r6_8 rfl (fun x2 => E_bip r6_11 (v := 12) (by decide) (E_i2_ge r6_13 rfl (E_vret r6_49 (mq6)) (go (w := (17, [.ref l0, .int l1], [.ref l0], h)) r6_16 rfl rfl (E_gR r6_17 rfl (fun x3 => go (w := (21, [.ref l0, .int l1], [.ref l0, .ref x3], h)) r6_20 rfl rfl (E_gI r6_21 rfl (fun x4 => go (w := (25, [.ref l0, .int l1], [.int l1, .int x4, .ref x3], h)) r6_24 rfl rfl (E_wI r6_25 (fun h5 => go (w := (27, [.ref l0, .int l1], [.ref l0], h5)) r6_26 rfl rfl (E_gR r6_27 rfl (fun x6 => go (w := (31, [.ref l0, .int l1], [.ref l0, .ref x6], h5)) r6_30 rfl rfl (E_gI r6_31 rfl (fun x7 => go (w := (35, [.ref l0, .int l1], [.ref l0, .int x7, .ref x6], h5)) r6_34 rfl rfl (E_gI r6_35 rfl (fun x8 => E_wI r6_38 (fun h9 => go (w := (40, [.ref l0, .int l1], [.ref l0], h9)) r6_39 rfl rfl (go (w := (41, [.ref l0, .int l1], [.ref l0, .ref l0], h9)) r6_40 rfl rfl (E_gI r6_41 rfl (fun x10 => E_ic r6_44 (v := 1) (by decide) (go (w := (46, [.ref l0, .int l1], [.int (x10 + 1), .ref l0], h9)) r6_45 rfl rfl (E_pI r6_46 ⟨rfl, rfl⟩ (fun h11 => E_vret r6_49 (mq6)))))))))))))))))))))))))))
-- 8 SecondNearest$LawReader.read(LSecondNearest$Law;)I
theorem mq8 : mRet 8 = (some .int) := by decide +kernel
theorem r8_0 : rowAt 8 0 = some (.aload_n 0, 1, 0, 0) := by decide +kernel
theorem r8_1 : rowAt 8 1 = some (.aload_n 1, 1, 0, 0) := by decide +kernel
theorem r8_2 : rowAt 8 2 = some (.putfield 15, 3, 2, 1) := by decide +kernel
theorem r8_5 : rowAt 8 5 = some (.aload_n 0, 1, 0, 0) := by decide +kernel
theorem r8_6 : rowAt 8 6 = some (.getfield 15, 3, 2, 1) := by decide +kernel
theorem r8_9 : rowAt 8 9 = some (.invokevirtual 19, 3, 4, 0) := by decide +kernel
theorem r8_12 : rowAt 8 12 = some (.aload_n 0, 1, 0, 0) := by decide +kernel
theorem r8_13 : rowAt 8 13 = some (.iconst 0, 1, 0, 0) := by decide +kernel
theorem r8_14 : rowAt 8 14 = some (.putfield 24, 3, 2, 2) := by decide +kernel
theorem r8_17 : rowAt 8 17 = some (.aload_n 0, 1, 0, 0) := by decide +kernel
theorem r8_18 : rowAt 8 18 = some (.getfield 9, 3, 2, 0) := by decide +kernel
theorem r8_21 : rowAt 8 21 = some (.invokevirtual 28, 3, 67, 0) := by decide +kernel
theorem r8_24 : rowAt 8 24 = some (.iconst 1, 1, 0, 0) := by decide +kernel
theorem r8_25 : rowAt 8 25 = some (.istore_n 2, 1, 0, 0) := by decide +kernel
theorem r8_26 : rowAt 8 26 = some (.iconst 0, 1, 0, 0) := by decide +kernel
theorem r8_27 : rowAt 8 27 = some (.istore_n 3, 1, 0, 0) := by decide +kernel
theorem r8_28 : rowAt 8 28 = some (.iload_n 2, 1, 0, 0) := by decide +kernel
theorem r8_29 : rowAt 8 29 = some (.ifCond .eq 41, 3, 0, 0) := by decide +kernel
theorem r8_32 : rowAt 8 32 = some (.iload_n 3, 1, 0, 0) := by decide +kernel
theorem r8_33 : rowAt 8 33 = some (.sipush 400, 3, 0, 0) := by decide +kernel
theorem r8_36 : rowAt 8 36 = some (.if_icmp .ge 34, 3, 0, 0) := by decide +kernel
theorem r8_39 : rowAt 8 39 = some (.aload_n 0, 1, 0, 0) := by decide +kernel
theorem r8_40 : rowAt 8 40 = some (.invokevirtual 33, 3, 9, 0) := by decide +kernel
theorem r8_43 : rowAt 8 43 = some (.ifCond .ne 11, 3, 0, 0) := by decide +kernel
theorem r8_46 : rowAt 8 46 = some (.aload_n 0, 1, 0, 0) := by decide +kernel
theorem r8_47 : rowAt 8 47 = some (.getfield 9, 3, 2, 0) := by decide +kernel
theorem r8_50 : rowAt 8 50 = some (.getfield 37, 3, 6, 3) := by decide +kernel
theorem r8_53 : rowAt 8 53 = some (.ireturn, 1, 0, 0) := by decide +kernel
theorem r8_54 : rowAt 8 54 = some (.aload_n 0, 1, 0, 0) := by decide +kernel
theorem r8_55 : rowAt 8 55 = some (.getfield 9, 3, 2, 0) := by decide +kernel
theorem r8_58 : rowAt 8 58 = some (.bipush 59, 2, 0, 0) := by decide +kernel
theorem r8_60 : rowAt 8 60 = some (.invokevirtual 40, 3, 71, 0) := by decide +kernel
theorem r8_63 : rowAt 8 63 = some (.istore_n 2, 1, 0, 0) := by decide +kernel
theorem r8_64 : rowAt 8 64 = some (.iinc 3 1, 3, 0, 0) := by decide +kernel
theorem r8_67 : rowAt 8 67 = some (.goto (-39), 3, 0, 0) := by decide +kernel
theorem r8_70 : rowAt 8 70 = some (.aload_n 0, 1, 0, 0) := by decide +kernel
theorem r8_71 : rowAt 8 71 = some (.getfield 9, 3, 2, 0) := by decide +kernel
theorem r8_74 : rowAt 8 74 = some (.invokevirtual 44, 3, 76, 0) := by decide +kernel
theorem r8_77 : rowAt 8 77 = some (.ifCond .eq 7, 3, 0, 0) := by decide +kernel
theorem r8_80 : rowAt 8 80 = some (.iconst 0, 1, 0, 0) := by decide +kernel
theorem r8_81 : rowAt 8 81 = some (.goto 10, 3, 0, 0) := by decide +kernel
theorem r8_84 : rowAt 8 84 = some (.aload_n 0, 1, 0, 0) := by decide +kernel
theorem r8_85 : rowAt 8 85 = some (.getfield 9, 3, 2, 0) := by decide +kernel
theorem r8_88 : rowAt 8 88 = some (.getfield 37, 3, 6, 3) := by decide +kernel
theorem r8_91 : rowAt 8 91 = some (.ireturn, 1, 0, 0) := by decide +kernel
theorem en8 (a0 : Nat) (a1 : Nat) : iniL 8 [.ref a0, .ref a1] = [.ref a0, .ref a1, .null, .null] := ini_n mi8 rfl
theorem b8_0 (d : Nat) (l0 : Nat) (l1 : Nat) (h : aH) (K : Option Value → aH → Prop) : E scr false (d + 1) 8 0 [.ref l0, .ref l1, .null, .null] [] h K = pF h l0 2 1 (.ref l1) (fun h1 : aH => gR scr h1 l0 2 1 (fun x2 : Nat => vV scr d 4 [.ref x2] h1 (fun h3 : aH => pF h3 l0 2 2 (.int 0) (fun h5 : aH => gR scr h5 l0 2 0 (fun x6 : Nat => vV scr d 67 [.ref x6] h5 (fun h7 : aH => E scr false (d + 1) 8 28 [.ref l0, .ref l1, .int 1, .int 0] [] h7 K)))))) := go (w := (1, [.ref l0, .ref l1, .null, .null], [.ref l0], h)) r8_0 rfl rfl (go (w := (2, [.ref l0, .ref l1, .null, .null], [.ref l1, .ref l0], h)) r8_1 rfl rfl (E_pRf r8_2 (C := "SecondNearest$Law") ⟨rfl, rfl⟩ (fun h1 => go (w := (6, [.ref l0, .ref l1, .null, .null], [.ref l0], h1)) r8_5 rfl rfl (E_gR r8_6 rfl (fun x2 => E_vV r8_9 (As := [.ref x2]) (rest := []) (cut_n mi4.1 rfl rfl) (rm8_n mi4.2.1 (Nat.le_of_ble_eq_true rfl) (Nat.le_of_ble_eq_true rfl)) mi4.2.2 (fun h3 => go (w := (13, [.ref l0, .ref l1, .null, .null], [.ref l0], h3)) r8_12 rfl rfl (E_ic r8_13 (v := 0) (by decide) (E_pI r8_14 ⟨rfl, rfl⟩ (fun h5 => go (w := (18, [.ref l0, .ref l1, .null, .null], [.ref l0], h5)) r8_17 rfl rfl (E_gR r8_18 rfl (fun x6 => E_vV r8_21 (As := [.ref x6]) (rest := []) (cut_n mi67.1 rfl rfl) (rm8_n mi67.2.1 (Nat.le_of_ble_eq_true rfl) (Nat.le_of_ble_eq_true rfl)) mi67.2.2 (fun h7 => E_ic r8_24 (v := 1) (by decide) (go (w := (26, [.ref l0, .ref l1, .int 1, .null], [], h7)) r8_25 rfl rfl (E_ic r8_26 (v := 0) (by decide) (go (w := (28, [.ref l0, .ref l1, .int 1, .int 0], [], h7)) r8_27 rfl rfl (rfl))))))))))))))))
theorem b8_28 (d : Nat) (l0 : Nat) (l1 : Nat) (l2 : Int32) (l3 : Int32) (h : aH) (K : Option Value → aH → Prop) : E scr false (d + 1) 8 28 [.ref l0, .ref l1, .int l2, .int l3] [] h K = (if l2 = 0 then E scr false (d + 1) 8 70 [.ref l0, .ref l1, .int l2, .int l3] [] h K else (if 400 ≤ l3 then E scr false (d + 1) 8 70 [.ref l0, .ref l1, .int l2, .int l3] [] h K else vI scr d 9 [.ref l0] h (fun (x2 : Int32) (h1 : aH) => (if x2 = 0 then gR scr h1 l0 2 0 (fun x6 : Nat => gI scr h1 x6 6 3 (fun x7 : Int32 => K (some (.int x7)) h1)) else gR scr h1 l0 2 0 (fun x3 : Nat => vI scr d 71 [.ref x3, .int 59] h1 (fun (x5 : Int32) (h4 : aH) => E scr false (d + 1) 8 28 [.ref l0, .ref l1, .int x5, .int (l3 + 1)] [] h4 K)))))) := go (w := (29, [.ref l0, .ref l1, .int l2, .int l3], [.int l2], h)) r8_28 rfl rfl (E_i1_eq r8_29 rfl (rfl) (go (w := (33, [.ref l0, .ref l1, .int l2, .int l3], [.int l3], h)) r8_32 rfl rfl (E_sip r8_33 (v := 400) (by decide) (E_i2_ge r8_36 rfl (rfl) (go (w := (40, [.ref l0, .ref l1, .int l2, .int l3], [.ref l0], h)) r8_39 rfl rfl (E_vI r8_40 (As := [.ref l0]) (rest := []) (cut_n mi9.1 rfl rfl) (rm8_n mi9.2.1 (Nat.le_of_ble_eq_true rfl) (Nat.le_of_ble_eq_true rfl)) mi9.2.2 (fun x2 h1 => E_i1_ne r8_43 rfl (go (w := (55, [.ref l0, .ref l1, .int l2, .int l3], [.ref l0], h1)) r8_54 rfl rfl (E_gR r8_55 rfl (fun x3 => E_bip r8_58 (v := 59) (by decide) (E_vI r8_60 (As := [.ref x3, .int 59]) (rest := []) (cut_n mi71.1 rfl rfl) (rm8_n mi71.2.1 (Nat.le_of_ble_eq_true rfl) (Nat.le_of_ble_eq_true rfl)) mi71.2.2 (fun x5 h4 => go (w := (64, [.ref l0, .ref l1, .int x5, .int l3], [], h4)) r8_63 rfl rfl (E_inc r8_64 (c := 1) rfl (by decide) (L' := [.ref l0, .ref l1, .int x5, .int (l3 + 1)]) rfl (E_gt r8_67 rfl (rfl)))))))) (go (w := (47, [.ref l0, .ref l1, .int l2, .int l3], [.ref l0], h1)) r8_46 rfl rfl (E_gR r8_47 rfl (fun x6 => E_gI r8_50 rfl (fun x7 => E_ri r8_53 (mq8))))))))))))
theorem b8_70 (d : Nat) (l0 : Nat) (l1 : Nat) (l2 : Int32) (l3 : Int32) (h : aH) (K : Option Value → aH → Prop) : E scr false (d + 1) 8 70 [.ref l0, .ref l1, .int l2, .int l3] [] h K = gR scr h l0 2 0 (fun x1 : Nat => vI scr d 76 [.ref x1] h (fun (x3 : Int32) (h2 : aH) => (if x3 = 0 then gR scr h2 l0 2 0 (fun x4 : Nat => gI scr h2 x4 6 3 (fun x5 : Int32 => K (some (.int x5)) h2)) else K (some (.int 0)) h2))) := go (w := (71, [.ref l0, .ref l1, .int l2, .int l3], [.ref l0], h)) r8_70 rfl rfl (E_gR r8_71 rfl (fun x1 => E_vI r8_74 (As := [.ref x1]) (rest := []) (cut_n mi76.1 rfl rfl) (rm8_n mi76.2.1 (Nat.le_of_ble_eq_true rfl) (Nat.le_of_ble_eq_true rfl)) mi76.2.2 (fun x3 h2 => E_i1_eq r8_77 rfl (go (w := (85, [.ref l0, .ref l1, .int l2, .int l3], [.ref l0], h2)) r8_84 rfl rfl (E_gR r8_85 rfl (fun x4 => E_gI r8_88 rfl (fun x5 => E_ri r8_91 (mq8))))) (E_ic r8_80 (v := 0) (by decide) (E_gt r8_81 rfl (E_ri r8_91 (mq8)))))))
-- 9 SecondNearest$LawReader.takeClause()Z
theorem mq9 : mRet 9 = (some .boolean) := by decide +kernel
theorem r9_0 : rowAt 9 0 = some (.aload_n 0, 1, 0, 0) := by decide +kernel
theorem r9_1 : rowAt 9 1 = some (.getfield 9, 3, 2, 0) := by decide +kernel
theorem r9_4 : rowAt 9 4 = some (.invokevirtual 47, 3, 69, 0) := by decide +kernel
theorem r9_7 : rowAt 9 7 = some (.istore_n 1, 1, 0, 0) := by decide +kernel
theorem r9_8 : rowAt 9 8 = some (.aload_n 0, 1, 0, 0) := by decide +kernel
theorem r9_9 : rowAt 9 9 = some (.getfield 9, 3, 2, 0) := by decide +kernel
theorem r9_12 : rowAt 9 12 = some (.ldc 51, 2, 1, 1) := by decide +kernel
theorem r9_14 : rowAt 9 14 = some (.invokevirtual 53, 3, 72, 0) := by decide +kernel
theorem r9_17 : rowAt 9 17 = some (.istore_n 2, 1, 0, 0) := by decide +kernel
theorem r9_18 : rowAt 9 18 = some (.iload_n 2, 1, 0, 0) := by decide +kernel
theorem r9_19 : rowAt 9 19 = some (.ifCond .ge 13, 3, 0, 0) := by decide +kernel
theorem r9_22 : rowAt 9 22 = some (.aload_n 0, 1, 0, 0) := by decide +kernel
theorem r9_23 : rowAt 9 23 = some (.getfield 9, 3, 2, 0) := by decide +kernel
theorem r9_26 : rowAt 9 26 = some (.iload_n 1, 1, 0, 0) := by decide +kernel
theorem r9_27 : rowAt 9 27 = some (.iconst 0, 1, 0, 0) := by decide +kernel
theorem r9_28 : rowAt 9 28 = some (.invokevirtual 57, 3, 70, 0) := by decide +kernel
theorem r9_31 : rowAt 9 31 = some (.ireturn, 1, 0, 0) := by decide +kernel
theorem r9_32 : rowAt 9 32 = some (.aload_n 0, 1, 0, 0) := by decide +kernel
theorem r9_33 : rowAt 9 33 = some (.getfield 15, 3, 2, 1) := by decide +kernel
theorem r9_36 : rowAt 9 36 = some (.getfield 61, 3, 1, 0) := by decide +kernel
theorem r9_39 : rowAt 9 39 = some (.bipush 12, 2, 0, 0) := by decide +kernel
theorem r9_41 : rowAt 9 41 = some (.if_icmp .lt 13, 3, 0, 0) := by decide +kernel
theorem r9_44 : rowAt 9 44 = some (.aload_n 0, 1, 0, 0) := by decide +kernel
theorem r9_45 : rowAt 9 45 = some (.getfield 9, 3, 2, 0) := by decide +kernel
theorem r9_48 : rowAt 9 48 = some (.iload_n 1, 1, 0, 0) := by decide +kernel
theorem r9_49 : rowAt 9 49 = some (.iconst 4, 1, 0, 0) := by decide +kernel
theorem r9_50 : rowAt 9 50 = some (.invokevirtual 57, 3, 70, 0) := by decide +kernel
theorem r9_53 : rowAt 9 53 = some (.ireturn, 1, 0, 0) := by decide +kernel
theorem r9_54 : rowAt 9 54 = some (.iload_n 2, 1, 0, 0) := by decide +kernel
theorem r9_55 : rowAt 9 55 = some (.ifCond .ne 7, 3, 0, 0) := by decide +kernel
theorem r9_58 : rowAt 9 58 = some (.iconst 0, 1, 0, 0) := by decide +kernel
theorem r9_59 : rowAt 9 59 = some (.goto 13, 3, 0, 0) := by decide +kernel
theorem r9_62 : rowAt 9 62 = some (.aload_n 0, 1, 0, 0) := by decide +kernel
theorem r9_63 : rowAt 9 63 = some (.getfield 9, 3, 2, 0) := by decide +kernel
theorem r9_66 : rowAt 9 66 = some (.iconst 1, 1, 0, 0) := by decide +kernel
theorem r9_67 : rowAt 9 67 = some (.bipush 9, 2, 0, 0) := by decide +kernel
theorem r9_69 : rowAt 9 69 = some (.invokevirtual 64, 3, 75, 0) := by decide +kernel
theorem r9_72 : rowAt 9 72 = some (.istore_n 3, 1, 0, 0) := by decide +kernel
theorem r9_73 : rowAt 9 73 = some (.iload_n 3, 1, 0, 0) := by decide +kernel
theorem r9_74 : rowAt 9 74 = some (.ifCond .ge 5, 3, 0, 0) := by decide +kernel
theorem r9_77 : rowAt 9 77 = some (.iconst 0, 1, 0, 0) := by decide +kernel
theorem r9_78 : rowAt 9 78 = some (.ireturn, 1, 0, 0) := by decide +kernel
theorem r9_79 : rowAt 9 79 = some (.aload_n 0, 1, 0, 0) := by decide +kernel
theorem r9_80 : rowAt 9 80 = some (.getfield 9, 3, 2, 0) := by decide +kernel
theorem r9_83 : rowAt 9 83 = some (.ldc 68, 2, 2, 1) := by decide +kernel
theorem r9_85 : rowAt 9 85 = some (.invokevirtual 53, 3, 72, 0) := by decide +kernel
theorem r9_88 : rowAt 9 88 = some (.ifCond .ne 13, 3, 0, 0) := by decide +kernel
theorem r9_91 : rowAt 9 91 = some (.aload_n 0, 1, 0, 0) := by decide +kernel
theorem r9_92 : rowAt 9 92 = some (.iconst 0, 1, 0, 0) := by decide +kernel
theorem r9_93 : rowAt 9 93 = some (.invokevirtual 70, 3, 10, 0) := by decide +kernel
theorem r9_96 : rowAt 9 96 = some (.ifCond .ne 5, 3, 0, 0) := by decide +kernel
theorem r9_99 : rowAt 9 99 = some (.iconst 0, 1, 0, 0) := by decide +kernel
theorem r9_100 : rowAt 9 100 = some (.ireturn, 1, 0, 0) := by decide +kernel
theorem r9_101 : rowAt 9 101 = some (.aload_n 0, 1, 0, 0) := by decide +kernel
theorem r9_102 : rowAt 9 102 = some (.getfield 15, 3, 2, 1) := by decide +kernel
theorem r9_105 : rowAt 9 105 = some (.iload_n 3, 1, 0, 0) := by decide +kernel
theorem r9_106 : rowAt 9 106 = some (.invokevirtual 74, 3, 6, 0) := by decide +kernel
theorem r9_109 : rowAt 9 109 = some (.iconst 1, 1, 0, 0) := by decide +kernel
theorem r9_110 : rowAt 9 110 = some (.ireturn, 1, 0, 0) := by decide +kernel
theorem en9 (a0 : Nat) : iniL 9 [.ref a0] = [.ref a0, .null, .null, .null] := ini_n mi9 rfl
theorem b9_0 (d : Nat) (l0 : Nat) (h : aH) (K : Option Value → aH → Prop) : E scr false (d + 1) 9 0 [.ref l0, .null, .null, .null] [] h K = gR scr h l0 2 0 (fun x1 : Nat => vI scr d 69 [.ref x1] h (fun (x3 : Int32) (h2 : aH) => gR scr h2 l0 2 0 (fun x4 : Nat => vI scr d 72 [.ref x4, .ref 20001] h2 (fun (x6 : Int32) (h5 : aH) => (if 0 ≤ x6 then gR scr h5 l0 2 1 (fun x7 : Nat => gI scr h5 x7 1 0 (fun x8 : Int32 => (if x8 < 12 then (if x6 = 0 then E scr false (d + 1) 9 72 [.ref l0, .int x3, .int x6, .null] [.int 0] h5 K else gR scr h5 l0 2 0 (fun x9 : Nat => vI scr d 75 [.ref x9, .int 1, .int 9] h5 (fun (x11 : Int32) (h10 : aH) => E scr false (d + 1) 9 72 [.ref l0, .int x3, .int x6, .null] [.int x11] h10 K))) else gR scr h5 l0 2 0 (fun x12 : Nat => vI scr d 70 [.ref x12, .int x3, .int 4] h5 (fun (x14 : Int32) (h13 : aH) => (x14 &&& 1 = x14 ∧ K (some (.int x14)) h13)))))) else gR scr h5 l0 2 0 (fun x15 : Nat => vI scr d 70 [.ref x15, .int x3, .int 0] h5 (fun (x17 : Int32) (h16 : aH) => (x17 &&& 1 = x17 ∧ K (some (.int x17)) h16)))))))) := go (w := (1, [.ref l0, .null, .null, .null], [.ref l0], h)) r9_0 rfl rfl (E_gR r9_1 rfl (fun x1 => E_vI r9_4 (As := [.ref x1]) (rest := []) (cut_n mi69.1 rfl rfl) (rm8_n mi69.2.1 (Nat.le_of_ble_eq_true rfl) (Nat.le_of_ble_eq_true rfl)) mi69.2.2 (fun x3 h2 => go (w := (8, [.ref l0, .int x3, .null, .null], [], h2)) r9_7 rfl rfl (go (w := (9, [.ref l0, .int x3, .null, .null], [.ref l0], h2)) r9_8 rfl rfl (E_gR r9_9 rfl (fun x4 => E_lds r9_12 (v := 20001) rfl (E_vI r9_14 (As := [.ref x4, .ref 20001]) (rest := []) (cut_n mi72.1 rfl rfl) (rm8_n mi72.2.1 (Nat.le_of_ble_eq_true rfl) (Nat.le_of_ble_eq_true rfl)) mi72.2.2 (fun x6 h5 => go (w := (18, [.ref l0, .int x3, .int x6, .null], [], h5)) r9_17 rfl rfl (go (w := (19, [.ref l0, .int x3, .int x6, .null], [.int x6], h5)) r9_18 rfl rfl (E_i1_ge r9_19 rfl (go (w := (33, [.ref l0, .int x3, .int x6, .null], [.ref l0], h5)) r9_32 rfl rfl (E_gR r9_33 rfl (fun x7 => E_gI r9_36 rfl (fun x8 => E_bip r9_39 (v := 12) (by decide) (E_i2_lt r9_41 rfl (go (w := (55, [.ref l0, .int x3, .int x6, .null], [.int x6], h5)) r9_54 rfl rfl (E_i1_ne r9_55 rfl (go (w := (63, [.ref l0, .int x3, .int x6, .null], [.ref l0], h5)) r9_62 rfl rfl (E_gR r9_63 rfl (fun x9 => E_ic r9_66 (v := 1) (by decide) (E_bip r9_67 (v := 9) (by decide) (E_vI r9_69 (As := [.ref x9, .int 1, .int 9]) (rest := []) (cut_n mi75.1 rfl rfl) (rm8_n mi75.2.1 (Nat.le_of_ble_eq_true rfl) (Nat.le_of_ble_eq_true rfl)) mi75.2.2 (fun x11 h10 => rfl)))))) (E_ic r9_58 (v := 0) (by decide) (E_gt r9_59 rfl (rfl))))) (go (w := (45, [.ref l0, .int x3, .int x6, .null], [.ref l0], h5)) r9_44 rfl rfl (E_gR r9_45 rfl (fun x12 => go (w := (49, [.ref l0, .int x3, .int x6, .null], [.int x3, .ref x12], h5)) r9_48 rfl rfl (E_ic r9_49 (v := 4) (by decide) (E_vI r9_50 (As := [.ref x12, .int x3, .int 4]) (rest := []) (cut_n mi70.1 rfl rfl) (rm8_n mi70.2.1 (Nat.le_of_ble_eq_true rfl) (Nat.le_of_ble_eq_true rfl)) mi70.2.2 (fun x14 h13 => E_zret r9_53 (mq9)))))))))))) (go (w := (23, [.ref l0, .int x3, .int x6, .null], [.ref l0], h5)) r9_22 rfl rfl (E_gR r9_23 rfl (fun x15 => go (w := (27, [.ref l0, .int x3, .int x6, .null], [.int x3, .ref x15], h5)) r9_26 rfl rfl (E_ic r9_27 (v := 0) (by decide) (E_vI r9_28 (As := [.ref x15, .int x3, .int 0]) (rest := []) (cut_n mi70.1 rfl rfl) (rm8_n mi70.2.1 (Nat.le_of_ble_eq_true rfl) (Nat.le_of_ble_eq_true rfl)) mi70.2.2 (fun x17 h16 => E_zret r9_31 (mq9)))))))))))))))))
theorem b9_72 (d : Nat) (l0 : Nat) (l1 : Int32) (l2 : Int32) (s0 : Int32) (h : aH) (K : Option Value → aH → Prop) : E scr false (d + 1) 9 72 [.ref l0, .int l1, .int l2, .null] [.int s0] h K = (if 0 ≤ s0 then gR scr h l0 2 0 (fun x1 : Nat => vI scr d 72 [.ref x1, .ref 20002] h (fun (x3 : Int32) (h2 : aH) => (if x3 = 0 then vI scr d 10 [.ref l0, .int 0] h2 (fun (x5 : Int32) (h4 : aH) => (if x5 = 0 then K (some (.int 0)) h4 else E scr false (d + 1) 9 101 [.ref l0, .int l1, .int l2, .int s0] [] h4 K)) else E scr false (d + 1) 9 101 [.ref l0, .int l1, .int l2, .int s0] [] h2 K))) else K (some (.int 0)) h) := go (w := (73, [.ref l0, .int l1, .int l2, .int s0], [], h)) r9_72 rfl rfl (go (w := (74, [.ref l0, .int l1, .int l2, .int s0], [.int s0], h)) r9_73 rfl rfl (E_i1_ge r9_74 rfl (go (w := (80, [.ref l0, .int l1, .int l2, .int s0], [.ref l0], h)) r9_79 rfl rfl (E_gR r9_80 rfl (fun x1 => E_lds r9_83 (v := 20002) rfl (E_vI r9_85 (As := [.ref x1, .ref 20002]) (rest := []) (cut_n mi72.1 rfl rfl) (rm8_n mi72.2.1 (Nat.le_of_ble_eq_true rfl) (Nat.le_of_ble_eq_true rfl)) mi72.2.2 (fun x3 h2 => E_i1_ne r9_88 rfl (rfl) (go (w := (92, [.ref l0, .int l1, .int l2, .int s0], [.ref l0], h2)) r9_91 rfl rfl (E_ic r9_92 (v := 0) (by decide) (E_vI r9_93 (As := [.ref l0, .int 0]) (rest := []) (cut_n mi10.1 rfl rfl) (rm8_n mi10.2.1 (Nat.le_of_ble_eq_true rfl) (Nat.le_of_ble_eq_true rfl)) mi10.2.2 (fun x5 h4 => E_i1_ne r9_96 rfl (rfl) (E_ic r9_99 (v := 0) (by decide) (E_rz r9_100 (mq9) (by decide)))))))))))) (E_ic r9_77 (v := 0) (by decide) (E_rz r9_78 (mq9) (by decide)))))
theorem b9_101 (d : Nat) (l0 : Nat) (l1 : Int32) (l2 : Int32) (l3 : Int32) (h : aH) (K : Option Value → aH → Prop) : E scr false (d + 1) 9 101 [.ref l0, .int l1, .int l2, .int l3] [] h K = gR scr h l0 2 1 (fun x1 : Nat => vV scr d 6 [.ref x1, .int l3] h (fun h2 : aH => K (some (.int 1)) h2)) := go (w := (102, [.ref l0, .int l1, .int l2, .int l3], [.ref l0], h)) r9_101 rfl rfl (E_gR r9_102 rfl (fun x1 => go (w := (106, [.ref l0, .int l1, .int l2, .int l3], [.int l3, .ref x1], h)) r9_105 rfl rfl (E_vV r9_106 (As := [.ref x1, .int l3]) (rest := []) (cut_n mi6.1 rfl rfl) (rm8_n mi6.2.1 (Nat.le_of_ble_eq_true rfl) (Nat.le_of_ble_eq_true rfl)) mi6.2.2 (fun h2 => E_ic r9_109 (v := 1) (by decide) (E_rz r9_110 (mq9) (by decide))))))
-- 10 SecondNearest$LawReader.takeTest(I)Z
theorem mq10 : mRet 10 = (some .boolean) := by decide +kernel
theorem r10_0 : rowAt 10 0 = some (.iconst 0, 1, 0, 0) := by decide +kernel
theorem r10_1 : rowAt 10 1 = some (.istore_n 2, 1, 0, 0) := by decide +kernel
theorem r10_2 : rowAt 10 2 = some (.aload_n 0, 1, 0, 0) := by decide +kernel
theorem r10_3 : rowAt 10 3 = some (.iload_n 1, 1, 0, 0) := by decide +kernel
theorem r10_4 : rowAt 10 4 = some (.invokevirtual 78, 3, 11, 0) := by decide +kernel
theorem r10_7 : rowAt 10 7 = some (.istore_n 3, 1, 0, 0) := by decide +kernel
theorem r10_8 : rowAt 10 8 = some (.iconst 0, 1, 0, 0) := by decide +kernel
theorem r10_9 : rowAt 10 9 = some (.istore 4, 2, 0, 0) := by decide +kernel
theorem r10_11 : rowAt 10 11 = some (.iload_n 3, 1, 0, 0) := by decide +kernel
theorem r10_12 : rowAt 10 12 = some (.ifCond .eq 91, 3, 0, 0) := by decide +kernel
theorem r10_15 : rowAt 10 15 = some (.iload 4, 2, 0, 0) := by decide +kernel
theorem r10_17 : rowAt 10 17 = some (.sipush 400, 3, 0, 0) := by decide +kernel
theorem r10_20 : rowAt 10 20 = some (.if_icmp .ge 83, 3, 0, 0) := by decide +kernel
theorem r10_23 : rowAt 10 23 = some (.aload_n 0, 1, 0, 0) := by decide +kernel
theorem r10_24 : rowAt 10 24 = some (.getfield 9, 3, 2, 0) := by decide +kernel
theorem r10_27 : rowAt 10 27 = some (.ldc 81, 2, 5, 1) := by decide +kernel
theorem r10_29 : rowAt 10 29 = some (.invokevirtual 53, 3, 72, 0) := by decide +kernel
theorem r10_32 : rowAt 10 32 = some (.istore 5, 2, 0, 0) := by decide +kernel
theorem r10_34 : rowAt 10 34 = some (.iload 5, 2, 0, 0) := by decide +kernel
theorem r10_36 : rowAt 10 36 = some (.ifCond .ge 6, 3, 0, 0) := by decide +kernel
theorem r10_39 : rowAt 10 39 = some (.goto 64, 3, 0, 0) := by decide +kernel
theorem r10_42 : rowAt 10 42 = some (.iload 5, 2, 0, 0) := by decide +kernel
theorem r10_44 : rowAt 10 44 = some (.iconst 1, 1, 0, 0) := by decide +kernel
theorem r10_45 : rowAt 10 45 = some (.if_icmp .ne 16, 3, 0, 0) := by decide +kernel
theorem r10_48 : rowAt 10 48 = some (.iload_n 2, 1, 0, 0) := by decide +kernel
theorem r10_49 : rowAt 10 49 = some (.ifCond .eq 12, 3, 0, 0) := by decide +kernel
theorem r10_52 : rowAt 10 52 = some (.aload_n 0, 1, 0, 0) := by decide +kernel
theorem r10_53 : rowAt 10 53 = some (.getfield 15, 3, 2, 1) := by decide +kernel
theorem r10_56 : rowAt 10 56 = some (.bipush 21, 2, 0, 0) := by decide +kernel
theorem r10_58 : rowAt 10 58 = some (.invokevirtual 83, 3, 5, 0) := by decide +kernel
theorem r10_61 : rowAt 10 61 = some (.iload_n 2, 1, 0, 0) := by decide +kernel
theorem r10_62 : rowAt 10 62 = some (.ifCond .ne 9, 3, 0, 0) := by decide +kernel
theorem r10_65 : rowAt 10 65 = some (.iload 5, 2, 0, 0) := by decide +kernel
theorem r10_67 : rowAt 10 67 = some (.iconst 1, 1, 0, 0) := by decide +kernel
theorem r10_68 : rowAt 10 68 = some (.if_icmp .ne 7, 3, 0, 0) := by decide +kernel
theorem r10_71 : rowAt 10 71 = some (.iconst 1, 1, 0, 0) := by decide +kernel
theorem r10_72 : rowAt 10 72 = some (.goto 4, 3, 0, 0) := by decide +kernel
theorem r10_75 : rowAt 10 75 = some (.iconst 0, 1, 0, 0) := by decide +kernel
theorem r10_76 : rowAt 10 76 = some (.istore_n 2, 1, 0, 0) := by decide +kernel
theorem r10_77 : rowAt 10 77 = some (.aload_n 0, 1, 0, 0) := by decide +kernel
theorem r10_78 : rowAt 10 78 = some (.iload_n 1, 1, 0, 0) := by decide +kernel
theorem r10_79 : rowAt 10 79 = some (.invokevirtual 78, 3, 11, 0) := by decide +kernel
theorem r10_82 : rowAt 10 82 = some (.istore_n 3, 1, 0, 0) := by decide +kernel
theorem r10_83 : rowAt 10 83 = some (.iload 5, 2, 0, 0) := by decide +kernel
theorem r10_85 : rowAt 10 85 = some (.ifCond .ne 12, 3, 0, 0) := by decide +kernel
theorem r10_88 : rowAt 10 88 = some (.aload_n 0, 1, 0, 0) := by decide +kernel
theorem r10_89 : rowAt 10 89 = some (.getfield 15, 3, 2, 1) := by decide +kernel
theorem r10_92 : rowAt 10 92 = some (.bipush 20, 2, 0, 0) := by decide +kernel
theorem r10_94 : rowAt 10 94 = some (.invokevirtual 83, 3, 5, 0) := by decide +kernel
theorem r10_97 : rowAt 10 97 = some (.iinc 4 1, 3, 0, 0) := by decide +kernel
theorem r10_100 : rowAt 10 100 = some (.goto (-89), 3, 0, 0) := by decide +kernel
theorem r10_103 : rowAt 10 103 = some (.iload_n 2, 1, 0, 0) := by decide +kernel
theorem r10_104 : rowAt 10 104 = some (.ifCond .eq 12, 3, 0, 0) := by decide +kernel
theorem r10_107 : rowAt 10 107 = some (.aload_n 0, 1, 0, 0) := by decide +kernel
theorem r10_108 : rowAt 10 108 = some (.getfield 15, 3, 2, 1) := by decide +kernel
theorem r10_111 : rowAt 10 111 = some (.bipush 21, 2, 0, 0) := by decide +kernel
theorem r10_113 : rowAt 10 113 = some (.invokevirtual 83, 3, 5, 0) := by decide +kernel
theorem r10_116 : rowAt 10 116 = some (.iload_n 3, 1, 0, 0) := by decide +kernel
theorem r10_117 : rowAt 10 117 = some (.ireturn, 1, 0, 0) := by decide +kernel
theorem en10 (a0 : Nat) (a1 : Int32) : iniL 10 [.ref a0, .int a1] = [.ref a0, .int a1, .null, .null, .null, .null] := ini_n mi10 rfl
theorem b10_0 (d : Nat) (l0 : Nat) (l1 : Int32) (h : aH) (K : Option Value → aH → Prop) : E scr false (d + 1) 10 0 [.ref l0, .int l1, .null, .null, .null, .null] [] h K = vI scr d 11 [.ref l0, .int l1] h (fun (x2 : Int32) (h1 : aH) => E scr false (d + 1) 10 11 [.ref l0, .int l1, .int 0, .int x2, .int 0, .null] [] h1 K) := E_ic r10_0 (v := 0) (by decide) (go (w := (2, [.ref l0, .int l1, .int 0, .null, .null, .null], [], h)) r10_1 rfl rfl (go (w := (3, [.ref l0, .int l1, .int 0, .null, .null, .null], [.ref l0], h)) r10_2 rfl rfl (go (w := (4, [.ref l0, .int l1, .int 0, .null, .null, .null], [.int l1, .ref l0], h)) r10_3 rfl rfl (E_vI r10_4 (As := [.ref l0, .int l1]) (rest := []) (cut_n mi11.1 rfl rfl) (rm8_n mi11.2.1 (Nat.le_of_ble_eq_true rfl) (Nat.le_of_ble_eq_true rfl)) mi11.2.2 (fun x2 h1 => go (w := (8, [.ref l0, .int l1, .int 0, .int x2, .null, .null], [], h1)) r10_7 rfl rfl (E_ic r10_8 (v := 0) (by decide) (go (w := (11, [.ref l0, .int l1, .int 0, .int x2, .int 0, .null], [], h1)) r10_9 rfl rfl (rfl))))))))
theorem b10_11 (d : Nat) (l0 : Nat) (l1 : Int32) (l2 : Int32) (l3 : Int32) (l4 : Int32) (l5 : Value) (h : aH) (K : Option Value → aH → Prop) : E scr false (d + 1) 10 11 [.ref l0, .int l1, .int l2, .int l3, .int l4, l5] [] h K = (if l3 = 0 then E scr false (d + 1) 10 103 [.ref l0, .int l1, .int l2, .int l3, .int l4, l5] [] h K else (if 400 ≤ l4 then E scr false (d + 1) 10 103 [.ref l0, .int l1, .int l2, .int l3, .int l4, l5] [] h K else gR scr h l0 2 0 (fun x1 : Nat => vI scr d 72 [.ref x1, .ref 20005] h (fun (x3 : Int32) (h2 : aH) => (if 0 ≤ x3 then (if x3 = 1 then (if l2 = 0 then E scr false (d + 1) 10 61 [.ref l0, .int l1, .int l2, .int l3, .int l4, .int x3] [] h2 K else gR scr h2 l0 2 1 (fun x4 : Nat => vV scr d 5 [.ref x4, .int 21] h2 (fun h5 : aH => E scr false (d + 1) 10 61 [.ref l0, .int l1, .int l2, .int l3, .int l4, .int x3] [] h5 K))) else E scr false (d + 1) 10 61 [.ref l0, .int l1, .int l2, .int l3, .int l4, .int x3] [] h2 K) else E scr false (d + 1) 10 103 [.ref l0, .int l1, .int l2, .int l3, .int l4, .int x3] [] h2 K))))) := go (w := (12, [.ref l0, .int l1, .int l2, .int l3, .int l4, l5], [.int l3], h)) r10_11 rfl rfl (E_i1_eq r10_12 rfl (rfl) (go (w := (17, [.ref l0, .int l1, .int l2, .int l3, .int l4, l5], [.int l4], h)) r10_15 rfl rfl (E_sip r10_17 (v := 400) (by decide) (E_i2_ge r10_20 rfl (rfl) (go (w := (24, [.ref l0, .int l1, .int l2, .int l3, .int l4, l5], [.ref l0], h)) r10_23 rfl rfl (E_gR r10_24 rfl (fun x1 => E_lds r10_27 (v := 20005) rfl (E_vI r10_29 (As := [.ref x1, .ref 20005]) (rest := []) (cut_n mi72.1 rfl rfl) (rm8_n mi72.2.1 (Nat.le_of_ble_eq_true rfl) (Nat.le_of_ble_eq_true rfl)) mi72.2.2 (fun x3 h2 => go (w := (34, [.ref l0, .int l1, .int l2, .int l3, .int l4, .int x3], [], h2)) r10_32 rfl rfl (go (w := (36, [.ref l0, .int l1, .int l2, .int l3, .int l4, .int x3], [.int x3], h2)) r10_34 rfl rfl (E_i1_ge r10_36 rfl (go (w := (44, [.ref l0, .int l1, .int l2, .int l3, .int l4, .int x3], [.int x3], h2)) r10_42 rfl rfl (E_ic r10_44 (v := 1) (by decide) (E_i2_ne r10_45 rfl (rfl) (go (w := (49, [.ref l0, .int l1, .int l2, .int l3, .int l4, .int x3], [.int l2], h2)) r10_48 rfl rfl (E_i1_eq r10_49 rfl (rfl) (go (w := (53, [.ref l0, .int l1, .int l2, .int l3, .int l4, .int x3], [.ref l0], h2)) r10_52 rfl rfl (E_gR r10_53 rfl (fun x4 => E_bip r10_56 (v := 21) (by decide) (E_vV r10_58 (As := [.ref x4, .int 21]) (rest := []) (cut_n mi5.1 rfl rfl) (rm8_n mi5.2.1 (Nat.le_of_ble_eq_true rfl) (Nat.le_of_ble_eq_true rfl)) mi5.2.2 (fun h5 => rfl)))))))))) (E_gt r10_39 rfl (rfl)))))))))))))
theorem b10_61 (d : Nat) (l0 : Nat) (l1 : Int32) (l2 : Int32) (l3 : Int32) (l4 : Int32) (l5 : Int32) (h : aH) (K : Option Value → aH → Prop) : E scr false d 10 61 [.ref l0, .int l1, .int l2, .int l3, .int l4, .int l5] [] h K = (if l2 = 0 then (if l5 = 1 then E scr false d 10 71 [.ref l0, .int l1, .int l2, .int l3, .int l4, .int l5] [] h K else E scr false d 10 76 [.ref l0, .int l1, .int l2, .int l3, .int l4, .int l5] [.int 0] h K) else E scr false d 10 71 [.ref l0, .int l1, .int l2, .int l3, .int l4, .int l5] [] h K) := go (w := (62, [.ref l0, .int l1, .int l2, .int l3, .int l4, .int l5], [.int l2], h)) r10_61 rfl rfl (E_i1_ne r10_62 rfl (rfl) (go (w := (67, [.ref l0, .int l1, .int l2, .int l3, .int l4, .int l5], [.int l5], h)) r10_65 rfl rfl (E_ic r10_67 (v := 1) (by decide) (E_i2_ne r10_68 rfl (E_ic r10_75 (v := 0) (by decide) (rfl)) (rfl)))))
theorem b10_71 (d : Nat) (l0 : Nat) (l1 : Int32) (l2 : Int32) (l3 : Int32) (l4 : Int32) (l5 : Int32) (h : aH) (K : Option Value → aH → Prop) : E scr false d 10 71 [.ref l0, .int l1, .int l2, .int l3, .int l4, .int l5] [] h K = E scr false d 10 76 [.ref l0, .int l1, .int l2, .int l3, .int l4, .int l5] [.int 1] h K := E_ic r10_71 (v := 1) (by decide) (E_gt r10_72 rfl (rfl))
theorem b10_76 (d : Nat) (l0 : Nat) (l1 : Int32) (l2 : Int32) (l3 : Int32) (l4 : Int32) (l5 : Int32) (s0 : Int32) (h : aH) (K : Option Value → aH → Prop) : E scr false (d + 1) 10 76 [.ref l0, .int l1, .int l2, .int l3, .int l4, .int l5] [.int s0] h K = vI scr d 11 [.ref l0, .int l1] h (fun (x2 : Int32) (h1 : aH) => (if l5 = 0 then gR scr h1 l0 2 1 (fun x3 : Nat => vV scr d 5 [.ref x3, .int 20] h1 (fun h4 : aH => E scr false (d + 1) 10 97 [.ref l0, .int l1, .int s0, .int x2, .int l4, .int l5] [] h4 K)) else E scr false (d + 1) 10 97 [.ref l0, .int l1, .int s0, .int x2, .int l4, .int l5] [] h1 K)) := go (w := (77, [.ref l0, .int l1, .int s0, .int l3, .int l4, .int l5], [], h)) r10_76 rfl rfl (go (w := (78, [.ref l0, .int l1, .int s0, .int l3, .int l4, .int l5], [.ref l0], h)) r10_77 rfl rfl (go (w := (79, [.ref l0, .int l1, .int s0, .int l3, .int l4, .int l5], [.int l1, .ref l0], h)) r10_78 rfl rfl (E_vI r10_79 (As := [.ref l0, .int l1]) (rest := []) (cut_n mi11.1 rfl rfl) (rm8_n mi11.2.1 (Nat.le_of_ble_eq_true rfl) (Nat.le_of_ble_eq_true rfl)) mi11.2.2 (fun x2 h1 => go (w := (83, [.ref l0, .int l1, .int s0, .int x2, .int l4, .int l5], [], h1)) r10_82 rfl rfl (go (w := (85, [.ref l0, .int l1, .int s0, .int x2, .int l4, .int l5], [.int l5], h1)) r10_83 rfl rfl (E_i1_ne r10_85 rfl (rfl) (go (w := (89, [.ref l0, .int l1, .int s0, .int x2, .int l4, .int l5], [.ref l0], h1)) r10_88 rfl rfl (E_gR r10_89 rfl (fun x3 => E_bip r10_92 (v := 20) (by decide) (E_vV r10_94 (As := [.ref x3, .int 20]) (rest := []) (cut_n mi5.1 rfl rfl) (rm8_n mi5.2.1 (Nat.le_of_ble_eq_true rfl) (Nat.le_of_ble_eq_true rfl)) mi5.2.2 (fun h4 => rfl)))))))))))
theorem b10_97 (d : Nat) (l0 : Nat) (l1 : Int32) (l2 : Int32) (l3 : Int32) (l4 : Int32) (l5 : Int32) (h : aH) (K : Option Value → aH → Prop) : E scr false d 10 97 [.ref l0, .int l1, .int l2, .int l3, .int l4, .int l5] [] h K = E scr false d 10 11 [.ref l0, .int l1, .int l2, .int l3, .int (l4 + 1), .int l5] [] h K := E_inc r10_97 (c := 1) rfl (by decide) (L' := [.ref l0, .int l1, .int l2, .int l3, .int (l4 + 1), .int l5]) rfl (E_gt r10_100 rfl (rfl))
theorem b10_103 (d : Nat) (l0 : Nat) (l1 : Int32) (l2 : Int32) (l3 : Int32) (l4 : Int32) (l5 : Value) (h : aH) (K : Option Value → aH → Prop) : E scr false (d + 1) 10 103 [.ref l0, .int l1, .int l2, .int l3, .int l4, l5] [] h K = (if l2 = 0 then (l3 &&& 1 = l3 ∧ K (some (.int l3)) h) else gR scr h l0 2 1 (fun x1 : Nat => vV scr d 5 [.ref x1, .int 21] h (fun h2 : aH => (l3 &&& 1 = l3 ∧ K (some (.int l3)) h2)))) := go (w := (104, [.ref l0, .int l1, .int l2, .int l3, .int l4, l5], [.int l2], h)) r10_103 rfl rfl (E_i1_eq r10_104 rfl (go (w := (117, [.ref l0, .int l1, .int l2, .int l3, .int l4, l5], [.int l3], h)) r10_116 rfl rfl (E_zret r10_117 (mq10))) (go (w := (108, [.ref l0, .int l1, .int l2, .int l3, .int l4, l5], [.ref l0], h)) r10_107 rfl rfl (E_gR r10_108 rfl (fun x1 => E_bip r10_111 (v := 21) (by decide) (E_vV r10_113 (As := [.ref x1, .int 21]) (rest := []) (cut_n mi5.1 rfl rfl) (rm8_n mi5.2.1 (Nat.le_of_ble_eq_true rfl) (Nat.le_of_ble_eq_true rfl)) mi5.2.2 (fun h2 => go (w := (117, [.ref l0, .int l1, .int l2, .int l3, .int l4, l5], [.int l3], h2)) r10_116 rfl rfl (E_zret r10_117 (mq10))))))))
-- 11 SecondNearest$LawReader.takeFact(I)Z
theorem mq11 : mRet 11 = (some .boolean) := by decide +kernel
theorem r11_0 : rowAt 11 0 = some (.aload_n 0, 1, 0, 0) := by decide +kernel
theorem r11_1 : rowAt 11 1 = some (.getfield 9, 3, 2, 0) := by decide +kernel
theorem r11_4 : rowAt 11 4 = some (.invokevirtual 47, 3, 69, 0) := by decide +kernel
theorem r11_7 : rowAt 11 7 = some (.istore_n 2, 1, 0, 0) := by decide +kernel
theorem r11_8 : rowAt 11 8 = some (.aload_n 0, 1, 0, 0) := by decide +kernel
theorem r11_9 : rowAt 11 9 = some (.getfield 9, 3, 2, 0) := by decide +kernel
theorem r11_12 : rowAt 11 12 = some (.bipush 91, 2, 0, 0) := by decide +kernel
theorem r11_14 : rowAt 11 14 = some (.invokevirtual 40, 3, 71, 0) := by decide +kernel
theorem r11_17 : rowAt 11 17 = some (.istore_n 3, 1, 0, 0) := by decide +kernel
theorem r11_18 : rowAt 11 18 = some (.iload_n 3, 1, 0, 0) := by decide +kernel
theorem r11_19 : rowAt 11 19 = some (.ifCond .ne 19, 3, 0, 0) := by decide +kernel
theorem r11_22 : rowAt 11 22 = some (.aload_n 0, 1, 0, 0) := by decide +kernel
theorem r11_23 : rowAt 11 23 = some (.getfield 9, 3, 2, 0) := by decide +kernel
theorem r11_26 : rowAt 11 26 = some (.ldc 86, 2, 3, 1) := by decide +kernel
theorem r11_28 : rowAt 11 28 = some (.invokevirtual 53, 3, 72, 0) := by decide +kernel
theorem r11_31 : rowAt 11 31 = some (.ifCond .ne 7, 3, 0, 0) := by decide +kernel
theorem r11_34 : rowAt 11 34 = some (.iconst 1, 1, 0, 0) := by decide +kernel
theorem r11_35 : rowAt 11 35 = some (.goto 4, 3, 0, 0) := by decide +kernel
theorem r11_38 : rowAt 11 38 = some (.iconst 0, 1, 0, 0) := by decide +kernel
theorem r11_39 : rowAt 11 39 = some (.istore 4, 2, 0, 0) := by decide +kernel
theorem r11_41 : rowAt 11 41 = some (.iload_n 3, 1, 0, 0) := by decide +kernel
theorem r11_42 : rowAt 11 42 = some (.ifCond .ne 8, 3, 0, 0) := by decide +kernel
theorem r11_45 : rowAt 11 45 = some (.iload 4, 2, 0, 0) := by decide +kernel
theorem r11_47 : rowAt 11 47 = some (.ifCond .eq 19, 3, 0, 0) := by decide +kernel
theorem r11_50 : rowAt 11 50 = some (.iload_n 1, 1, 0, 0) := by decide +kernel
theorem r11_51 : rowAt 11 51 = some (.bipush 10, 2, 0, 0) := by decide +kernel
theorem r11_53 : rowAt 11 53 = some (.if_icmp .lt 13, 3, 0, 0) := by decide +kernel
theorem r11_56 : rowAt 11 56 = some (.aload_n 0, 1, 0, 0) := by decide +kernel
theorem r11_57 : rowAt 11 57 = some (.getfield 9, 3, 2, 0) := by decide +kernel
theorem r11_60 : rowAt 11 60 = some (.iload_n 2, 1, 0, 0) := by decide +kernel
theorem r11_61 : rowAt 11 61 = some (.iconst 2, 1, 0, 0) := by decide +kernel
theorem r11_62 : rowAt 11 62 = some (.invokevirtual 57, 3, 70, 0) := by decide +kernel
theorem r11_65 : rowAt 11 65 = some (.ireturn, 1, 0, 0) := by decide +kernel
theorem r11_66 : rowAt 11 66 = some (.iload_n 3, 1, 0, 0) := by decide +kernel
theorem r11_67 : rowAt 11 67 = some (.ifCond .eq 49, 3, 0, 0) := by decide +kernel
theorem r11_70 : rowAt 11 70 = some (.aload_n 0, 1, 0, 0) := by decide +kernel
theorem r11_71 : rowAt 11 71 = some (.iload_n 1, 1, 0, 0) := by decide +kernel
theorem r11_72 : rowAt 11 72 = some (.iconst 1, 1, 0, 0) := by decide +kernel
theorem r11_73 : rowAt 11 73 = some (.iadd, 1, 0, 0) := by decide +kernel
theorem r11_74 : rowAt 11 74 = some (.invokevirtual 70, 3, 10, 0) := by decide +kernel
theorem r11_77 : rowAt 11 77 = some (.ifCond .eq 37, 3, 0, 0) := by decide +kernel
theorem r11_80 : rowAt 11 80 = some (.aload_n 0, 1, 0, 0) := by decide +kernel
theorem r11_81 : rowAt 11 81 = some (.getfield 9, 3, 2, 0) := by decide +kernel
theorem r11_84 : rowAt 11 84 = some (.bipush 93, 2, 0, 0) := by decide +kernel
theorem r11_86 : rowAt 11 86 = some (.invokevirtual 40, 3, 71, 0) := by decide +kernel
theorem r11_89 : rowAt 11 89 = some (.ifCond .ne 21, 3, 0, 0) := by decide +kernel
theorem r11_92 : rowAt 11 92 = some (.aload_n 0, 1, 0, 0) := by decide +kernel
theorem r11_93 : rowAt 11 93 = some (.getfield 9, 3, 2, 0) := by decide +kernel
theorem r11_96 : rowAt 11 96 = some (.aload_n 0, 1, 0, 0) := by decide +kernel
theorem r11_97 : rowAt 11 97 = some (.getfield 9, 3, 2, 0) := by decide +kernel
theorem r11_100 : rowAt 11 100 = some (.getfield 88, 3, 6, 2) := by decide +kernel
theorem r11_103 : rowAt 11 103 = some (.iconst 0, 1, 0, 0) := by decide +kernel
theorem r11_104 : rowAt 11 104 = some (.invokevirtual 57, 3, 70, 0) := by decide +kernel
theorem r11_107 : rowAt 11 107 = some (.ifCond .eq 7, 3, 0, 0) := by decide +kernel
theorem r11_110 : rowAt 11 110 = some (.iconst 1, 1, 0, 0) := by decide +kernel
theorem r11_111 : rowAt 11 111 = some (.goto 4, 3, 0, 0) := by decide +kernel
theorem r11_114 : rowAt 11 114 = some (.iconst 0, 1, 0, 0) := by decide +kernel
theorem r11_115 : rowAt 11 115 = some (.ireturn, 1, 0, 0) := by decide +kernel
theorem r11_116 : rowAt 11 116 = some (.iload 4, 2, 0, 0) := by decide +kernel
theorem r11_118 : rowAt 11 118 = some (.ifCond .eq 24, 3, 0, 0) := by decide +kernel
theorem r11_121 : rowAt 11 121 = some (.aload_n 0, 1, 0, 0) := by decide +kernel
theorem r11_122 : rowAt 11 122 = some (.iload_n 1, 1, 0, 0) := by decide +kernel
theorem r11_123 : rowAt 11 123 = some (.iconst 1, 1, 0, 0) := by decide +kernel
theorem r11_124 : rowAt 11 124 = some (.iadd, 1, 0, 0) := by decide +kernel
theorem r11_125 : rowAt 11 125 = some (.invokevirtual 78, 3, 11, 0) := by decide +kernel
theorem r11_128 : rowAt 11 128 = some (.istore 5, 2, 0, 0) := by decide +kernel
theorem r11_130 : rowAt 11 130 = some (.aload_n 0, 1, 0, 0) := by decide +kernel
theorem r11_131 : rowAt 11 131 = some (.getfield 15, 3, 2, 1) := by decide +kernel
theorem r11_134 : rowAt 11 134 = some (.bipush 22, 2, 0, 0) := by decide +kernel
theorem r11_136 : rowAt 11 136 = some (.invokevirtual 83, 3, 5, 0) := by decide +kernel
theorem r11_139 : rowAt 11 139 = some (.iload 5, 2, 0, 0) := by decide +kernel
theorem r11_141 : rowAt 11 141 = some (.ireturn, 1, 0, 0) := by decide +kernel
theorem r11_142 : rowAt 11 142 = some (.aload_n 0, 1, 0, 0) := by decide +kernel
theorem r11_143 : rowAt 11 143 = some (.invokevirtual 91, 3, 13, 0) := by decide +kernel
theorem r11_146 : rowAt 11 146 = some (.ifCond .eq 10, 3, 0, 0) := by decide +kernel
theorem r11_149 : rowAt 11 149 = some (.aload_n 0, 1, 0, 0) := by decide +kernel
theorem r11_150 : rowAt 11 150 = some (.invokevirtual 94, 3, 12, 0) := by decide +kernel
theorem r11_153 : rowAt 11 153 = some (.goto 4, 3, 0, 0) := by decide +kernel
theorem r11_156 : rowAt 11 156 = some (.iconst (-1), 1, 0, 0) := by decide +kernel
theorem r11_157 : rowAt 11 157 = some (.istore 5, 2, 0, 0) := by decide +kernel
theorem r11_159 : rowAt 11 159 = some (.iload 5, 2, 0, 0) := by decide +kernel
theorem r11_161 : rowAt 11 161 = some (.ifCond .lt 10, 3, 0, 0) := by decide +kernel
theorem r11_164 : rowAt 11 164 = some (.aload_n 0, 1, 0, 0) := by decide +kernel
theorem r11_165 : rowAt 11 165 = some (.invokevirtual 91, 3, 13, 0) := by decide +kernel
theorem r11_168 : rowAt 11 168 = some (.ifCond .ne 5, 3, 0, 0) := by decide +kernel
theorem r11_171 : rowAt 11 171 = some (.iconst 0, 1, 0, 0) := by decide +kernel
theorem r11_172 : rowAt 11 172 = some (.ireturn, 1, 0, 0) := by decide +kernel
theorem r11_173 : rowAt 11 173 = some (.aload_n 0, 1, 0, 0) := by decide +kernel
theorem r11_174 : rowAt 11 174 = some (.getfield 15, 3, 2, 1) := by decide +kernel
theorem r11_177 : rowAt 11 177 = some (.iload 5, 2, 0, 0) := by decide +kernel
theorem r11_179 : rowAt 11 179 = some (.invokevirtual 83, 3, 5, 0) := by decide +kernel
theorem r11_182 : rowAt 11 182 = some (.iconst 1, 1, 0, 0) := by decide +kernel
theorem r11_183 : rowAt 11 183 = some (.ireturn, 1, 0, 0) := by decide +kernel
theorem en11 (a0 : Nat) (a1 : Int32) : iniL 11 [.ref a0, .int a1] = [.ref a0, .int a1, .null, .null, .null, .null] := ini_n mi11 rfl
theorem b11_0 (d : Nat) (l0 : Nat) (l1 : Int32) (h : aH) (K : Option Value → aH → Prop) : E scr false (d + 1) 11 0 [.ref l0, .int l1, .null, .null, .null, .null] [] h K = gR scr h l0 2 0 (fun x1 : Nat => vI scr d 69 [.ref x1] h (fun (x3 : Int32) (h2 : aH) => gR scr h2 l0 2 0 (fun x4 : Nat => vI scr d 71 [.ref x4, .int 91] h2 (fun (x6 : Int32) (h5 : aH) => (if x6 = 0 then gR scr h5 l0 2 0 (fun x7 : Nat => vI scr d 72 [.ref x7, .ref 20003] h5 (fun (x9 : Int32) (h8 : aH) => (if x9 = 0 then E scr false (d + 1) 11 39 [.ref l0, .int l1, .int x3, .int x6, .null, .null] [.int 1] h8 K else E scr false (d + 1) 11 38 [.ref l0, .int l1, .int x3, .int x6, .null, .null] [] h8 K))) else E scr false (d + 1) 11 38 [.ref l0, .int l1, .int x3, .int x6, .null, .null] [] h5 K))))) := go (w := (1, [.ref l0, .int l1, .null, .null, .null, .null], [.ref l0], h)) r11_0 rfl rfl (E_gR r11_1 rfl (fun x1 => E_vI r11_4 (As := [.ref x1]) (rest := []) (cut_n mi69.1 rfl rfl) (rm8_n mi69.2.1 (Nat.le_of_ble_eq_true rfl) (Nat.le_of_ble_eq_true rfl)) mi69.2.2 (fun x3 h2 => go (w := (8, [.ref l0, .int l1, .int x3, .null, .null, .null], [], h2)) r11_7 rfl rfl (go (w := (9, [.ref l0, .int l1, .int x3, .null, .null, .null], [.ref l0], h2)) r11_8 rfl rfl (E_gR r11_9 rfl (fun x4 => E_bip r11_12 (v := 91) (by decide) (E_vI r11_14 (As := [.ref x4, .int 91]) (rest := []) (cut_n mi71.1 rfl rfl) (rm8_n mi71.2.1 (Nat.le_of_ble_eq_true rfl) (Nat.le_of_ble_eq_true rfl)) mi71.2.2 (fun x6 h5 => go (w := (18, [.ref l0, .int l1, .int x3, .int x6, .null, .null], [], h5)) r11_17 rfl rfl (go (w := (19, [.ref l0, .int l1, .int x3, .int x6, .null, .null], [.int x6], h5)) r11_18 rfl rfl (E_i1_ne r11_19 rfl (rfl) (go (w := (23, [.ref l0, .int l1, .int x3, .int x6, .null, .null], [.ref l0], h5)) r11_22 rfl rfl (E_gR r11_23 rfl (fun x7 => E_lds r11_26 (v := 20003) rfl (E_vI r11_28 (As := [.ref x7, .ref 20003]) (rest := []) (cut_n mi72.1 rfl rfl) (rm8_n mi72.2.1 (Nat.le_of_ble_eq_true rfl) (Nat.le_of_ble_eq_true rfl)) mi72.2.2 (fun x9 h8 => E_i1_ne r11_31 rfl (rfl) (E_ic r11_34 (v := 1) (by decide) (E_gt r11_35 rfl (rfl))))))))))))))))))
theorem b11_38 (d : Nat) (l0 : Nat) (l1 : Int32) (l2 : Int32) (l3 : Int32) (h : aH) (K : Option Value → aH → Prop) : E scr false d 11 38 [.ref l0, .int l1, .int l2, .int l3, .null, .null] [] h K = E scr false d 11 39 [.ref l0, .int l1, .int l2, .int l3, .null, .null] [.int 0] h K := E_ic r11_38 (v := 0) (by decide) (rfl)
theorem b11_39 (d : Nat) (l0 : Nat) (l1 : Int32) (l2 : Int32) (l3 : Int32) (s0 : Int32) (h : aH) (K : Option Value → aH → Prop) : E scr false d 11 39 [.ref l0, .int l1, .int l2, .int l3, .null, .null] [.int s0] h K = (if l3 = 0 then (if s0 = 0 then E scr false d 11 66 [.ref l0, .int l1, .int l2, .int l3, .int s0, .null] [] h K else E scr false d 11 50 [.ref l0, .int l1, .int l2, .int l3, .int s0, .null] [] h K) else E scr false d 11 50 [.ref l0, .int l1, .int l2, .int l3, .int s0, .null] [] h K) := go (w := (41, [.ref l0, .int l1, .int l2, .int l3, .int s0, .null], [], h)) r11_39 rfl rfl (go (w := (42, [.ref l0, .int l1, .int l2, .int l3, .int s0, .null], [.int l3], h)) r11_41 rfl rfl (E_i1_ne r11_42 rfl (rfl) (go (w := (47, [.ref l0, .int l1, .int l2, .int l3, .int s0, .null], [.int s0], h)) r11_45 rfl rfl (E_i1_eq r11_47 rfl (rfl) (rfl)))))
theorem b11_50 (d : Nat) (l0 : Nat) (l1 : Int32) (l2 : Int32) (l3 : Int32) (l4 : Int32) (h : aH) (K : Option Value → aH → Prop) : E scr false (d + 1) 11 50 [.ref l0, .int l1, .int l2, .int l3, .int l4, .null] [] h K = (if l1 < 10 then E scr false (d + 1) 11 66 [.ref l0, .int l1, .int l2, .int l3, .int l4, .null] [] h K else gR scr h l0 2 0 (fun x1 : Nat => vI scr d 70 [.ref x1, .int l2, .int 2] h (fun (x3 : Int32) (h2 : aH) => (x3 &&& 1 = x3 ∧ K (some (.int x3)) h2)))) := go (w := (51, [.ref l0, .int l1, .int l2, .int l3, .int l4, .null], [.int l1], h)) r11_50 rfl rfl (E_bip r11_51 (v := 10) (by decide) (E_i2_lt r11_53 rfl (rfl) (go (w := (57, [.ref l0, .int l1, .int l2, .int l3, .int l4, .null], [.ref l0], h)) r11_56 rfl rfl (E_gR r11_57 rfl (fun x1 => go (w := (61, [.ref l0, .int l1, .int l2, .int l3, .int l4, .null], [.int l2, .ref x1], h)) r11_60 rfl rfl (E_ic r11_61 (v := 2) (by decide) (E_vI r11_62 (As := [.ref x1, .int l2, .int 2]) (rest := []) (cut_n mi70.1 rfl rfl) (rm8_n mi70.2.1 (Nat.le_of_ble_eq_true rfl) (Nat.le_of_ble_eq_true rfl)) mi70.2.2 (fun x3 h2 => E_zret r11_65 (mq11)))))))))
theorem b11_66 (d : Nat) (l0 : Nat) (l1 : Int32) (l2 : Int32) (l3 : Int32) (l4 : Int32) (h : aH) (K : Option Value → aH → Prop) : E scr false (d + 1) 11 66 [.ref l0, .int l1, .int l2, .int l3, .int l4, .null] [] h K = (if l3 = 0 then (if l4 = 0 then vI scr d 13 [.ref l0] h (fun (x2 : Int32) (h1 : aH) => (if x2 = 0 then E scr false (d + 1) 11 157 [.ref l0, .int l1, .int l2, .int l3, .int l4, .null] [.int (-1)] h1 K else vI scr d 12 [.ref l0] h1 (fun (x4 : Int32) (h3 : aH) => E scr false (d + 1) 11 157 [.ref l0, .int l1, .int l2, .int l3, .int l4, .null] [.int x4] h3 K))) else vI scr d 11 [.ref l0, .int (l1 + 1)] h (fun (x6 : Int32) (h5 : aH) => gR scr h5 l0 2 1 (fun x7 : Nat => vV scr d 5 [.ref x7, .int 22] h5 (fun h8 : aH => (x6 &&& 1 = x6 ∧ K (some (.int x6)) h8))))) else vI scr d 10 [.ref l0, .int (l1 + 1)] h (fun (x11 : Int32) (h10 : aH) => (if x11 = 0 then K (some (.int 0)) h10 else gR scr h10 l0 2 0 (fun x12 : Nat => vI scr d 71 [.ref x12, .int 93] h10 (fun (x14 : Int32) (h13 : aH) => (if x14 = 0 then gR scr h13 l0 2 0 (fun x15 : Nat => gR scr h13 l0 2 0 (fun x16 : Nat => gI scr h13 x16 6 2 (fun x17 : Int32 => vI scr d 70 [.ref x15, .int x17, .int 0] h13 (fun (x19 : Int32) (h18 : aH) => (if x19 = 0 then K (some (.int 0)) h18 else E scr false (d + 1) 11 110 [.ref l0, .int l1, .int l2, .int l3, .int l4, .null] [] h18 K))))) else E scr false (d + 1) 11 110 [.ref l0, .int l1, .int l2, .int l3, .int l4, .null] [] h13 K)))))) := go (w := (67, [.ref l0, .int l1, .int l2, .int l3, .int l4, .null], [.int l3], h)) r11_66 rfl rfl (E_i1_eq r11_67 rfl (go (w := (118, [.ref l0, .int l1, .int l2, .int l3, .int l4, .null], [.int l4], h)) r11_116 rfl rfl (E_i1_eq r11_118 rfl (go (w := (143, [.ref l0, .int l1, .int l2, .int l3, .int l4, .null], [.ref l0], h)) r11_142 rfl rfl (E_vI r11_143 (As := [.ref l0]) (rest := []) (cut_n mi13.1 rfl rfl) (rm8_n mi13.2.1 (Nat.le_of_ble_eq_true rfl) (Nat.le_of_ble_eq_true rfl)) mi13.2.2 (fun x2 h1 => E_i1_eq r11_146 rfl (E_ic r11_156 (v := (-1)) (by decide) (rfl)) (go (w := (150, [.ref l0, .int l1, .int l2, .int l3, .int l4, .null], [.ref l0], h1)) r11_149 rfl rfl (E_vI r11_150 (As := [.ref l0]) (rest := []) (cut_n mi12.1 rfl rfl) (rm8_n mi12.2.1 (Nat.le_of_ble_eq_true rfl) (Nat.le_of_ble_eq_true rfl)) mi12.2.2 (fun x4 h3 => E_gt r11_153 rfl (rfl))))))) (go (w := (122, [.ref l0, .int l1, .int l2, .int l3, .int l4, .null], [.ref l0], h)) r11_121 rfl rfl (go (w := (123, [.ref l0, .int l1, .int l2, .int l3, .int l4, .null], [.int l1, .ref l0], h)) r11_122 rfl rfl (E_ic r11_123 (v := 1) (by decide) (go (w := (125, [.ref l0, .int l1, .int l2, .int l3, .int l4, .null], [.int (l1 + 1), .ref l0], h)) r11_124 rfl rfl (E_vI r11_125 (As := [.ref l0, .int (l1 + 1)]) (rest := []) (cut_n mi11.1 rfl rfl) (rm8_n mi11.2.1 (Nat.le_of_ble_eq_true rfl) (Nat.le_of_ble_eq_true rfl)) mi11.2.2 (fun x6 h5 => go (w := (130, [.ref l0, .int l1, .int l2, .int l3, .int l4, .int x6], [], h5)) r11_128 rfl rfl (go (w := (131, [.ref l0, .int l1, .int l2, .int l3, .int l4, .int x6], [.ref l0], h5)) r11_130 rfl rfl (E_gR r11_131 rfl (fun x7 => E_bip r11_134 (v := 22) (by decide) (E_vV r11_136 (As := [.ref x7, .int 22]) (rest := []) (cut_n mi5.1 rfl rfl) (rm8_n mi5.2.1 (Nat.le_of_ble_eq_true rfl) (Nat.le_of_ble_eq_true rfl)) mi5.2.2 (fun h8 => go (w := (141, [.ref l0, .int l1, .int l2, .int l3, .int l4, .int x6], [.int x6], h8)) r11_139 rfl rfl (E_zret r11_141 (mq11))))))))))))))) (go (w := (71, [.ref l0, .int l1, .int l2, .int l3, .int l4, .null], [.ref l0], h)) r11_70 rfl rfl (go (w := (72, [.ref l0, .int l1, .int l2, .int l3, .int l4, .null], [.int l1, .ref l0], h)) r11_71 rfl rfl (E_ic r11_72 (v := 1) (by decide) (go (w := (74, [.ref l0, .int l1, .int l2, .int l3, .int l4, .null], [.int (l1 + 1), .ref l0], h)) r11_73 rfl rfl (E_vI r11_74 (As := [.ref l0, .int (l1 + 1)]) (rest := []) (cut_n mi10.1 rfl rfl) (rm8_n mi10.2.1 (Nat.le_of_ble_eq_true rfl) (Nat.le_of_ble_eq_true rfl)) mi10.2.2 (fun x11 h10 => E_i1_eq r11_77 rfl (E_ic r11_114 (v := 0) (by decide) (E_rz r11_115 (mq11) (by decide))) (go (w := (81, [.ref l0, .int l1, .int l2, .int l3, .int l4, .null], [.ref l0], h10)) r11_80 rfl rfl (E_gR r11_81 rfl (fun x12 => E_bip r11_84 (v := 93) (by decide) (E_vI r11_86 (As := [.ref x12, .int 93]) (rest := []) (cut_n mi71.1 rfl rfl) (rm8_n mi71.2.1 (Nat.le_of_ble_eq_true rfl) (Nat.le_of_ble_eq_true rfl)) mi71.2.2 (fun x14 h13 => E_i1_ne r11_89 rfl (rfl) (go (w := (93, [.ref l0, .int l1, .int l2, .int l3, .int l4, .null], [.ref l0], h13)) r11_92 rfl rfl (E_gR r11_93 rfl (fun x15 => go (w := (97, [.ref l0, .int l1, .int l2, .int l3, .int l4, .null], [.ref l0, .ref x15], h13)) r11_96 rfl rfl (E_gR r11_97 rfl (fun x16 => E_gI r11_100 rfl (fun x17 => E_ic r11_103 (v := 0) (by decide) (E_vI r11_104 (As := [.ref x15, .int x17, .int 0]) (rest := []) (cut_n mi70.1 rfl rfl) (rm8_n mi70.2.1 (Nat.le_of_ble_eq_true rfl) (Nat.le_of_ble_eq_true rfl)) mi70.2.2 (fun x19 h18 => E_i1_eq r11_107 rfl (E_ic r11_114 (v := 0) (by decide) (E_rz r11_115 (mq11) (by decide))) (rfl)))))))))))))))))))))
theorem b11_110 (d : Nat) (l0 : Nat) (l1 : Int32) (l2 : Int32) (l3 : Int32) (l4 : Int32) (h : aH) (K : Option Value → aH → Prop) : E scr false d 11 110 [.ref l0, .int l1, .int l2, .int l3, .int l4, .null] [] h K = K (some (.int 1)) h := E_ic r11_110 (v := 1) (by decide) (E_gt r11_111 rfl (E_rz r11_115 (mq11) (by decide)))
theorem b11_157 (d : Nat) (l0 : Nat) (l1 : Int32) (l2 : Int32) (l3 : Int32) (l4 : Int32) (s0 : Int32) (h : aH) (K : Option Value → aH → Prop) : E scr false (d + 1) 11 157 [.ref l0, .int l1, .int l2, .int l3, .int l4, .null] [.int s0] h K = (if s0 < 0 then K (some (.int 0)) h else vI scr d 13 [.ref l0] h (fun (x2 : Int32) (h1 : aH) => (if x2 = 0 then K (some (.int 0)) h1 else gR scr h1 l0 2 1 (fun x3 : Nat => vV scr d 5 [.ref x3, .int s0] h1 (fun h4 : aH => K (some (.int 1)) h4))))) := go (w := (159, [.ref l0, .int l1, .int l2, .int l3, .int l4, .int s0], [], h)) r11_157 rfl rfl (go (w := (161, [.ref l0, .int l1, .int l2, .int l3, .int l4, .int s0], [.int s0], h)) r11_159 rfl rfl (E_i1_lt r11_161 rfl (E_ic r11_171 (v := 0) (by decide) (E_rz r11_172 (mq11) (by decide))) (go (w := (165, [.ref l0, .int l1, .int l2, .int l3, .int l4, .int s0], [.ref l0], h)) r11_164 rfl rfl (E_vI r11_165 (As := [.ref l0]) (rest := []) (cut_n mi13.1 rfl rfl) (rm8_n mi13.2.1 (Nat.le_of_ble_eq_true rfl) (Nat.le_of_ble_eq_true rfl)) mi13.2.2 (fun x2 h1 => E_i1_ne r11_168 rfl (go (w := (174, [.ref l0, .int l1, .int l2, .int l3, .int l4, .int s0], [.ref l0], h1)) r11_173 rfl rfl (E_gR r11_174 rfl (fun x3 => go (w := (179, [.ref l0, .int l1, .int l2, .int l3, .int l4, .int s0], [.int s0, .ref x3], h1)) r11_177 rfl rfl (E_vV r11_179 (As := [.ref x3, .int s0]) (rest := []) (cut_n mi5.1 rfl rfl) (rm8_n mi5.2.1 (Nat.le_of_ble_eq_true rfl) (Nat.le_of_ble_eq_true rfl)) mi5.2.2 (fun h4 => E_ic r11_182 (v := 1) (by decide) (E_rz r11_183 (mq11) (by decide))))))) (E_ic r11_171 (v := 0) (by decide) (E_rz r11_172 (mq11) (by decide))))))))
-- 12 SecondNearest$LawReader.takeComparing()I
theorem mq12 : mRet 12 = (some .int) := by decide +kernel
theorem r12_0 : rowAt 12 0 = some (.aload_n 0, 1, 0, 0) := by decide +kernel
theorem r12_1 : rowAt 12 1 = some (.getfield 9, 3, 2, 0) := by decide +kernel
theorem r12_4 : rowAt 12 4 = some (.invokevirtual 47, 3, 69, 0) := by decide +kernel
theorem r12_7 : rowAt 12 7 = some (.istore_n 1, 1, 0, 0) := by decide +kernel
theorem r12_8 : rowAt 12 8 = some (.aload_n 0, 1, 0, 0) := by decide +kernel
theorem r12_9 : rowAt 12 9 = some (.getfield 9, 3, 2, 0) := by decide +kernel
theorem r12_12 : rowAt 12 12 = some (.bipush 60, 2, 0, 0) := by decide +kernel
theorem r12_14 : rowAt 12 14 = some (.invokevirtual 40, 3, 71, 0) := by decide +kernel
theorem r12_17 : rowAt 12 17 = some (.istore_n 2, 1, 0, 0) := by decide +kernel
theorem r12_18 : rowAt 12 18 = some (.iload_n 2, 1, 0, 0) := by decide +kernel
theorem r12_19 : rowAt 12 19 = some (.ifCond .ne 19, 3, 0, 0) := by decide +kernel
theorem r12_22 : rowAt 12 22 = some (.aload_n 0, 1, 0, 0) := by decide +kernel
theorem r12_23 : rowAt 12 23 = some (.getfield 9, 3, 2, 0) := by decide +kernel
theorem r12_26 : rowAt 12 26 = some (.bipush 62, 2, 0, 0) := by decide +kernel
theorem r12_28 : rowAt 12 28 = some (.invokevirtual 40, 3, 71, 0) := by decide +kernel
theorem r12_31 : rowAt 12 31 = some (.ifCond .eq 7, 3, 0, 0) := by decide +kernel
theorem r12_34 : rowAt 12 34 = some (.iconst 1, 1, 0, 0) := by decide +kernel
theorem r12_35 : rowAt 12 35 = some (.goto 4, 3, 0, 0) := by decide +kernel
theorem r12_38 : rowAt 12 38 = some (.iconst 0, 1, 0, 0) := by decide +kernel
theorem r12_39 : rowAt 12 39 = some (.istore_n 3, 1, 0, 0) := by decide +kernel
theorem r12_40 : rowAt 12 40 = some (.aload_n 0, 1, 0, 0) := by decide +kernel
theorem r12_41 : rowAt 12 41 = some (.getfield 9, 3, 2, 0) := by decide +kernel
theorem r12_44 : rowAt 12 44 = some (.invokevirtual 97, 3, 68, 0) := by decide +kernel
theorem r12_47 : rowAt 12 47 = some (.bipush 61, 2, 0, 0) := by decide +kernel
theorem r12_49 : rowAt 12 49 = some (.if_icmp .ne 7, 3, 0, 0) := by decide +kernel
theorem r12_52 : rowAt 12 52 = some (.iconst 1, 1, 0, 0) := by decide +kernel
theorem r12_53 : rowAt 12 53 = some (.goto 4, 3, 0, 0) := by decide +kernel
theorem r12_56 : rowAt 12 56 = some (.iconst 0, 1, 0, 0) := by decide +kernel
theorem r12_57 : rowAt 12 57 = some (.istore 4, 2, 0, 0) := by decide +kernel
theorem r12_59 : rowAt 12 59 = some (.iload 4, 2, 0, 0) := by decide +kernel
theorem r12_61 : rowAt 12 61 = some (.ifCond .eq 16, 3, 0, 0) := by decide +kernel
theorem r12_64 : rowAt 12 64 = some (.aload_n 0, 1, 0, 0) := by decide +kernel
theorem r12_65 : rowAt 12 65 = some (.getfield 9, 3, 2, 0) := by decide +kernel
theorem r12_68 : rowAt 12 68 = some (.dup, 1, 0, 0) := by decide +kernel
theorem r12_69 : rowAt 12 69 = some (.getfield 88, 3, 6, 2) := by decide +kernel
theorem r12_72 : rowAt 12 72 = some (.iconst 1, 1, 0, 0) := by decide +kernel
theorem r12_73 : rowAt 12 73 = some (.iadd, 1, 0, 0) := by decide +kernel
theorem r12_74 : rowAt 12 74 = some (.putfield 88, 3, 6, 2) := by decide +kernel
theorem r12_77 : rowAt 12 77 = some (.iload_n 2, 1, 0, 0) := by decide +kernel
theorem r12_78 : rowAt 12 78 = some (.ifCond .ne 24, 3, 0, 0) := by decide +kernel
theorem r12_81 : rowAt 12 81 = some (.iload_n 3, 1, 0, 0) := by decide +kernel
theorem r12_82 : rowAt 12 82 = some (.ifCond .ne 20, 3, 0, 0) := by decide +kernel
theorem r12_85 : rowAt 12 85 = some (.iload 4, 2, 0, 0) := by decide +kernel
theorem r12_87 : rowAt 12 87 = some (.ifCond .ne 15, 3, 0, 0) := by decide +kernel
theorem r12_90 : rowAt 12 90 = some (.aload_n 0, 1, 0, 0) := by decide +kernel
theorem r12_91 : rowAt 12 91 = some (.getfield 9, 3, 2, 0) := by decide +kernel
theorem r12_94 : rowAt 12 94 = some (.iload_n 1, 1, 0, 0) := by decide +kernel
theorem r12_95 : rowAt 12 95 = some (.iconst 0, 1, 0, 0) := by decide +kernel
theorem r12_96 : rowAt 12 96 = some (.invokevirtual 57, 3, 70, 0) := by decide +kernel
theorem r12_99 : rowAt 12 99 = some (.pop, 1, 0, 0) := by decide +kernel
theorem r12_100 : rowAt 12 100 = some (.iconst (-1), 1, 0, 0) := by decide +kernel
theorem r12_101 : rowAt 12 101 = some (.ireturn, 1, 0, 0) := by decide +kernel
theorem r12_102 : rowAt 12 102 = some (.aload_n 0, 1, 0, 0) := by decide +kernel
theorem r12_103 : rowAt 12 103 = some (.iload_n 1, 1, 0, 0) := by decide +kernel
theorem r12_104 : rowAt 12 104 = some (.invokevirtual 100, 3, 17, 0) := by decide +kernel
theorem r12_107 : rowAt 12 107 = some (.ifCond .ne 5, 3, 0, 0) := by decide +kernel
theorem r12_110 : rowAt 12 110 = some (.iconst (-1), 1, 0, 0) := by decide +kernel
theorem r12_111 : rowAt 12 111 = some (.ireturn, 1, 0, 0) := by decide +kernel
theorem r12_112 : rowAt 12 112 = some (.iload_n 2, 1, 0, 0) := by decide +kernel
theorem r12_113 : rowAt 12 113 = some (.ifCond .eq 16, 3, 0, 0) := by decide +kernel
theorem r12_116 : rowAt 12 116 = some (.iload 4, 2, 0, 0) := by decide +kernel
theorem r12_118 : rowAt 12 118 = some (.ifCond .eq 8, 3, 0, 0) := by decide +kernel
theorem r12_121 : rowAt 12 121 = some (.bipush 16, 2, 0, 0) := by decide +kernel
theorem r12_123 : rowAt 12 123 = some (.goto 5, 3, 0, 0) := by decide +kernel
theorem r12_126 : rowAt 12 126 = some (.bipush 15, 2, 0, 0) := by decide +kernel
theorem r12_128 : rowAt 12 128 = some (.ireturn, 1, 0, 0) := by decide +kernel
theorem r12_129 : rowAt 12 129 = some (.iload_n 3, 1, 0, 0) := by decide +kernel
theorem r12_130 : rowAt 12 130 = some (.ifCond .ne 8, 3, 0, 0) := by decide +kernel
theorem r12_133 : rowAt 12 133 = some (.bipush 17, 2, 0, 0) := by decide +kernel
theorem r12_135 : rowAt 12 135 = some (.goto 15, 3, 0, 0) := by decide +kernel
theorem r12_138 : rowAt 12 138 = some (.iload 4, 2, 0, 0) := by decide +kernel
theorem r12_140 : rowAt 12 140 = some (.ifCond .eq 8, 3, 0, 0) := by decide +kernel
theorem r12_143 : rowAt 12 143 = some (.bipush 18, 2, 0, 0) := by decide +kernel
theorem r12_145 : rowAt 12 145 = some (.goto 5, 3, 0, 0) := by decide +kernel
theorem r12_148 : rowAt 12 148 = some (.bipush 19, 2, 0, 0) := by decide +kernel
theorem r12_150 : rowAt 12 150 = some (.ireturn, 1, 0, 0) := by decide +kernel
theorem en12 (a0 : Nat) : iniL 12 [.ref a0] = [.ref a0, .null, .null, .null, .null] := ini_n mi12 rfl
theorem b12_0 (d : Nat) (l0 : Nat) (h : aH) (K : Option Value → aH → Prop) : E scr false (d + 1) 12 0 [.ref l0, .null, .null, .null, .null] [] h K = gR scr h l0 2 0 (fun x1 : Nat => vI scr d 69 [.ref x1] h (fun (x3 : Int32) (h2 : aH) => gR scr h2 l0 2 0 (fun x4 : Nat => vI scr d 71 [.ref x4, .int 60] h2 (fun (x6 : Int32) (h5 : aH) => (if x6 = 0 then gR scr h5 l0 2 0 (fun x7 : Nat => vI scr d 71 [.ref x7, .int 62] h5 (fun (x9 : Int32) (h8 : aH) => (if x9 = 0 then E scr false (d + 1) 12 38 [.ref l0, .int x3, .int x6, .null, .null] [] h8 K else E scr false (d + 1) 12 39 [.ref l0, .int x3, .int x6, .null, .null] [.int 1] h8 K))) else E scr false (d + 1) 12 38 [.ref l0, .int x3, .int x6, .null, .null] [] h5 K))))) := go (w := (1, [.ref l0, .null, .null, .null, .null], [.ref l0], h)) r12_0 rfl rfl (E_gR r12_1 rfl (fun x1 => E_vI r12_4 (As := [.ref x1]) (rest := []) (cut_n mi69.1 rfl rfl) (rm8_n mi69.2.1 (Nat.le_of_ble_eq_true rfl) (Nat.le_of_ble_eq_true rfl)) mi69.2.2 (fun x3 h2 => go (w := (8, [.ref l0, .int x3, .null, .null, .null], [], h2)) r12_7 rfl rfl (go (w := (9, [.ref l0, .int x3, .null, .null, .null], [.ref l0], h2)) r12_8 rfl rfl (E_gR r12_9 rfl (fun x4 => E_bip r12_12 (v := 60) (by decide) (E_vI r12_14 (As := [.ref x4, .int 60]) (rest := []) (cut_n mi71.1 rfl rfl) (rm8_n mi71.2.1 (Nat.le_of_ble_eq_true rfl) (Nat.le_of_ble_eq_true rfl)) mi71.2.2 (fun x6 h5 => go (w := (18, [.ref l0, .int x3, .int x6, .null, .null], [], h5)) r12_17 rfl rfl (go (w := (19, [.ref l0, .int x3, .int x6, .null, .null], [.int x6], h5)) r12_18 rfl rfl (E_i1_ne r12_19 rfl (rfl) (go (w := (23, [.ref l0, .int x3, .int x6, .null, .null], [.ref l0], h5)) r12_22 rfl rfl (E_gR r12_23 rfl (fun x7 => E_bip r12_26 (v := 62) (by decide) (E_vI r12_28 (As := [.ref x7, .int 62]) (rest := []) (cut_n mi71.1 rfl rfl) (rm8_n mi71.2.1 (Nat.le_of_ble_eq_true rfl) (Nat.le_of_ble_eq_true rfl)) mi71.2.2 (fun x9 h8 => E_i1_eq r12_31 rfl (rfl) (E_ic r12_34 (v := 1) (by decide) (E_gt r12_35 rfl (rfl))))))))))))))))))
theorem b12_38 (d : Nat) (l0 : Nat) (l1 : Int32) (l2 : Int32) (h : aH) (K : Option Value → aH → Prop) : E scr false d 12 38 [.ref l0, .int l1, .int l2, .null, .null] [] h K = E scr false d 12 39 [.ref l0, .int l1, .int l2, .null, .null] [.int 0] h K := E_ic r12_38 (v := 0) (by decide) (rfl)
theorem b12_39 (d : Nat) (l0 : Nat) (l1 : Int32) (l2 : Int32) (s0 : Int32) (h : aH) (K : Option Value → aH → Prop) : E scr false (d + 1) 12 39 [.ref l0, .int l1, .int l2, .null, .null] [.int s0] h K = gR scr h l0 2 0 (fun x1 : Nat => vI scr d 68 [.ref x1] h (fun (x3 : Int32) (h2 : aH) => (if x3 = 61 then E scr false (d + 1) 12 57 [.ref l0, .int l1, .int l2, .int s0, .null] [.int 1] h2 K else E scr false (d + 1) 12 57 [.ref l0, .int l1, .int l2, .int s0, .null] [.int 0] h2 K))) := go (w := (40, [.ref l0, .int l1, .int l2, .int s0, .null], [], h)) r12_39 rfl rfl (go (w := (41, [.ref l0, .int l1, .int l2, .int s0, .null], [.ref l0], h)) r12_40 rfl rfl (E_gR r12_41 rfl (fun x1 => E_vI r12_44 (As := [.ref x1]) (rest := []) (cut_n mi68.1 rfl rfl) (rm8_n mi68.2.1 (Nat.le_of_ble_eq_true rfl) (Nat.le_of_ble_eq_true rfl)) mi68.2.2 (fun x3 h2 => E_bip r12_47 (v := 61) (by decide) (E_i2_ne r12_49 rfl (E_ic r12_56 (v := 0) (by decide) (rfl)) (E_ic r12_52 (v := 1) (by decide) (E_gt r12_53 rfl (rfl))))))))
theorem b12_57 (d : Nat) (l0 : Nat) (l1 : Int32) (l2 : Int32) (l3 : Int32) (s0 : Int32) (h : aH) (K : Option Value → aH → Prop) : E scr false d 12 57 [.ref l0, .int l1, .int l2, .int l3, .null] [.int s0] h K = (if s0 = 0 then E scr false d 12 77 [.ref l0, .int l1, .int l2, .int l3, .int s0] [] h K else gR scr h l0 2 0 (fun x1 : Nat => gI scr h x1 6 2 (fun x2 : Int32 => pF h x1 6 2 (.int (x2 + 1)) (fun h3 : aH => E scr false d 12 77 [.ref l0, .int l1, .int l2, .int l3, .int s0] [] h3 K)))) := go (w := (59, [.ref l0, .int l1, .int l2, .int l3, .int s0], [], h)) r12_57 rfl rfl (go (w := (61, [.ref l0, .int l1, .int l2, .int l3, .int s0], [.int s0], h)) r12_59 rfl rfl (E_i1_eq r12_61 rfl (rfl) (go (w := (65, [.ref l0, .int l1, .int l2, .int l3, .int s0], [.ref l0], h)) r12_64 rfl rfl (E_gR r12_65 rfl (fun x1 => go (w := (69, [.ref l0, .int l1, .int l2, .int l3, .int s0], [.ref x1, .ref x1], h)) r12_68 rfl rfl (E_gI r12_69 rfl (fun x2 => E_ic r12_72 (v := 1) (by decide) (go (w := (74, [.ref l0, .int l1, .int l2, .int l3, .int s0], [.int (x2 + 1), .ref x1], h)) r12_73 rfl rfl (E_pI r12_74 ⟨rfl, rfl⟩ (fun h3 => rfl))))))))))
theorem b12_77 (d : Nat) (l0 : Nat) (l1 : Int32) (l2 : Int32) (l3 : Int32) (l4 : Int32) (h : aH) (K : Option Value → aH → Prop) : E scr false (d + 1) 12 77 [.ref l0, .int l1, .int l2, .int l3, .int l4] [] h K = (if l2 = 0 then (if l3 = 0 then (if l4 = 0 then gR scr h l0 2 0 (fun x1 : Nat => vI scr d 70 [.ref x1, .int l1, .int 0] h (fun (x3 : Int32) (h2 : aH) => K (some (.int (-1))) h2)) else E scr false (d + 1) 12 102 [.ref l0, .int l1, .int l2, .int l3, .int l4] [] h K) else E scr false (d + 1) 12 102 [.ref l0, .int l1, .int l2, .int l3, .int l4] [] h K) else E scr false (d + 1) 12 102 [.ref l0, .int l1, .int l2, .int l3, .int l4] [] h K) := go (w := (78, [.ref l0, .int l1, .int l2, .int l3, .int l4], [.int l2], h)) r12_77 rfl rfl (E_i1_ne r12_78 rfl (rfl) (go (w := (82, [.ref l0, .int l1, .int l2, .int l3, .int l4], [.int l3], h)) r12_81 rfl rfl (E_i1_ne r12_82 rfl (rfl) (go (w := (87, [.ref l0, .int l1, .int l2, .int l3, .int l4], [.int l4], h)) r12_85 rfl rfl (E_i1_ne r12_87 rfl (rfl) (go (w := (91, [.ref l0, .int l1, .int l2, .int l3, .int l4], [.ref l0], h)) r12_90 rfl rfl (E_gR r12_91 rfl (fun x1 => go (w := (95, [.ref l0, .int l1, .int l2, .int l3, .int l4], [.int l1, .ref x1], h)) r12_94 rfl rfl (E_ic r12_95 (v := 0) (by decide) (E_vI r12_96 (As := [.ref x1, .int l1, .int 0]) (rest := []) (cut_n mi70.1 rfl rfl) (rm8_n mi70.2.1 (Nat.le_of_ble_eq_true rfl) (Nat.le_of_ble_eq_true rfl)) mi70.2.2 (fun x3 h2 => go (w := (100, [.ref l0, .int l1, .int l2, .int l3, .int l4], [], h2)) r12_99 rfl rfl (E_ic r12_100 (v := (-1)) (by decide) (E_ri r12_101 (mq12))))))))))))))
theorem b12_102 (d : Nat) (l0 : Nat) (l1 : Int32) (l2 : Int32) (l3 : Int32) (l4 : Int32) (h : aH) (K : Option Value → aH → Prop) : E scr false (d + 1) 12 102 [.ref l0, .int l1, .int l2, .int l3, .int l4] [] h K = vI scr d 17 [.ref l0, .int l1] h (fun (x2 : Int32) (h1 : aH) => (if x2 = 0 then K (some (.int (-1))) h1 else (if l2 = 0 then (if l3 = 0 then K (some (.int 17)) h1 else (if l4 = 0 then K (some (.int 19)) h1 else K (some (.int 18)) h1)) else (if l4 = 0 then K (some (.int 15)) h1 else K (some (.int 16)) h1)))) := go (w := (103, [.ref l0, .int l1, .int l2, .int l3, .int l4], [.ref l0], h)) r12_102 rfl rfl (go (w := (104, [.ref l0, .int l1, .int l2, .int l3, .int l4], [.int l1, .ref l0], h)) r12_103 rfl rfl (E_vI r12_104 (As := [.ref l0, .int l1]) (rest := []) (cut_n mi17.1 rfl rfl) (rm8_n mi17.2.1 (Nat.le_of_ble_eq_true rfl) (Nat.le_of_ble_eq_true rfl)) mi17.2.2 (fun x2 h1 => E_i1_ne r12_107 rfl (go (w := (113, [.ref l0, .int l1, .int l2, .int l3, .int l4], [.int l2], h1)) r12_112 rfl rfl (E_i1_eq r12_113 rfl (go (w := (130, [.ref l0, .int l1, .int l2, .int l3, .int l4], [.int l3], h1)) r12_129 rfl rfl (E_i1_ne r12_130 rfl (go (w := (140, [.ref l0, .int l1, .int l2, .int l3, .int l4], [.int l4], h1)) r12_138 rfl rfl (E_i1_eq r12_140 rfl (E_bip r12_148 (v := 19) (by decide) (E_ri r12_150 (mq12))) (E_bip r12_143 (v := 18) (by decide) (E_gt r12_145 rfl (E_ri r12_150 (mq12)))))) (E_bip r12_133 (v := 17) (by decide) (E_gt r12_135 rfl (E_ri r12_150 (mq12)))))) (go (w := (118, [.ref l0, .int l1, .int l2, .int l3, .int l4], [.int l4], h1)) r12_116 rfl rfl (E_i1_eq r12_118 rfl (E_bip r12_126 (v := 15) (by decide) (E_ri r12_128 (mq12))) (E_bip r12_121 (v := 16) (by decide) (E_gt r12_123 rfl (E_ri r12_128 (mq12)))))))) (E_ic r12_110 (v := (-1)) (by decide) (E_ri r12_111 (mq12))))))
-- 13 SecondNearest$LawReader.takeSum()Z
theorem mq13 : mRet 13 = (some .boolean) := by decide +kernel
theorem r13_0 : rowAt 13 0 = some (.iconst (-1), 1, 0, 0) := by decide +kernel
theorem r13_1 : rowAt 13 1 = some (.istore_n 1, 1, 0, 0) := by decide +kernel
theorem r13_2 : rowAt 13 2 = some (.aload_n 0, 1, 0, 0) := by decide +kernel
theorem r13_3 : rowAt 13 3 = some (.invokevirtual 103, 3, 16, 0) := by decide +kernel
theorem r13_6 : rowAt 13 6 = some (.istore_n 2, 1, 0, 0) := by decide +kernel
theorem r13_7 : rowAt 13 7 = some (.iconst 0, 1, 0, 0) := by decide +kernel
theorem r13_8 : rowAt 13 8 = some (.istore_n 3, 1, 0, 0) := by decide +kernel
theorem r13_9 : rowAt 13 9 = some (.iload_n 2, 1, 0, 0) := by decide +kernel
theorem r13_10 : rowAt 13 10 = some (.ifCond .eq 99, 3, 0, 0) := by decide +kernel
theorem r13_13 : rowAt 13 13 = some (.iload_n 3, 1, 0, 0) := by decide +kernel
theorem r13_14 : rowAt 13 14 = some (.sipush 400, 3, 0, 0) := by decide +kernel
theorem r13_17 : rowAt 13 17 = some (.if_icmp .ge 92, 3, 0, 0) := by decide +kernel
theorem r13_20 : rowAt 13 20 = some (.aload_n 0, 1, 0, 0) := by decide +kernel
theorem r13_21 : rowAt 13 21 = some (.invokevirtual 106, 3, 14, 0) := by decide +kernel
theorem r13_24 : rowAt 13 24 = some (.istore 4, 2, 0, 0) := by decide +kernel
theorem r13_26 : rowAt 13 26 = some (.iload 4, 2, 0, 0) := by decide +kernel
theorem r13_28 : rowAt 13 28 = some (.ifCond .ge 6, 3, 0, 0) := by decide +kernel
theorem r13_31 : rowAt 13 31 = some (.goto 78, 3, 0, 0) := by decide +kernel
theorem r13_34 : rowAt 13 34 = some (.iload 4, 2, 0, 0) := by decide +kernel
theorem r13_36 : rowAt 13 36 = some (.bipush 10, 2, 0, 0) := by decide +kernel
theorem r13_38 : rowAt 13 38 = some (.if_icmp .eq 10, 3, 0, 0) := by decide +kernel
theorem r13_41 : rowAt 13 41 = some (.iload 4, 2, 0, 0) := by decide +kernel
theorem r13_43 : rowAt 13 43 = some (.bipush 11, 2, 0, 0) := by decide +kernel
theorem r13_45 : rowAt 13 45 = some (.if_icmp .ne 7, 3, 0, 0) := by decide +kernel
theorem r13_48 : rowAt 13 48 = some (.iconst 1, 1, 0, 0) := by decide +kernel
theorem r13_49 : rowAt 13 49 = some (.goto 4, 3, 0, 0) := by decide +kernel
theorem r13_52 : rowAt 13 52 = some (.iconst 0, 1, 0, 0) := by decide +kernel
theorem r13_53 : rowAt 13 53 = some (.istore 5, 2, 0, 0) := by decide +kernel
theorem r13_55 : rowAt 13 55 = some (.iload 5, 2, 0, 0) := by decide +kernel
theorem r13_57 : rowAt 13 57 = some (.ifCond .eq 15, 3, 0, 0) := by decide +kernel
theorem r13_60 : rowAt 13 60 = some (.iload_n 1, 1, 0, 0) := by decide +kernel
theorem r13_61 : rowAt 13 61 = some (.ifCond .lt 11, 3, 0, 0) := by decide +kernel
theorem r13_64 : rowAt 13 64 = some (.aload_n 0, 1, 0, 0) := by decide +kernel
theorem r13_65 : rowAt 13 65 = some (.getfield 15, 3, 2, 1) := by decide +kernel
theorem r13_68 : rowAt 13 68 = some (.iload_n 1, 1, 0, 0) := by decide +kernel
theorem r13_69 : rowAt 13 69 = some (.invokevirtual 83, 3, 5, 0) := by decide +kernel
theorem r13_72 : rowAt 13 72 = some (.iload 5, 2, 0, 0) := by decide +kernel
theorem r13_74 : rowAt 13 74 = some (.ifCond .eq 8, 3, 0, 0) := by decide +kernel
theorem r13_77 : rowAt 13 77 = some (.iload 4, 2, 0, 0) := by decide +kernel
theorem r13_79 : rowAt 13 79 = some (.goto 4, 3, 0, 0) := by decide +kernel
theorem r13_82 : rowAt 13 82 = some (.iload_n 1, 1, 0, 0) := by decide +kernel
theorem r13_83 : rowAt 13 83 = some (.istore_n 1, 1, 0, 0) := by decide +kernel
theorem r13_84 : rowAt 13 84 = some (.aload_n 0, 1, 0, 0) := by decide +kernel
theorem r13_85 : rowAt 13 85 = some (.invokevirtual 103, 3, 16, 0) := by decide +kernel
theorem r13_88 : rowAt 13 88 = some (.istore_n 2, 1, 0, 0) := by decide +kernel
theorem r13_89 : rowAt 13 89 = some (.iload 5, 2, 0, 0) := by decide +kernel
theorem r13_91 : rowAt 13 91 = some (.ifCond .ne 12, 3, 0, 0) := by decide +kernel
theorem r13_94 : rowAt 13 94 = some (.aload_n 0, 1, 0, 0) := by decide +kernel
theorem r13_95 : rowAt 13 95 = some (.getfield 15, 3, 2, 1) := by decide +kernel
theorem r13_98 : rowAt 13 98 = some (.iload 4, 2, 0, 0) := by decide +kernel
theorem r13_100 : rowAt 13 100 = some (.invokevirtual 83, 3, 5, 0) := by decide +kernel
theorem r13_103 : rowAt 13 103 = some (.iinc 3 1, 3, 0, 0) := by decide +kernel
theorem r13_106 : rowAt 13 106 = some (.goto (-97), 3, 0, 0) := by decide +kernel
theorem r13_109 : rowAt 13 109 = some (.iload_n 1, 1, 0, 0) := by decide +kernel
theorem r13_110 : rowAt 13 110 = some (.ifCond .lt 11, 3, 0, 0) := by decide +kernel
theorem r13_113 : rowAt 13 113 = some (.aload_n 0, 1, 0, 0) := by decide +kernel
theorem r13_114 : rowAt 13 114 = some (.getfield 15, 3, 2, 1) := by decide +kernel
theorem r13_117 : rowAt 13 117 = some (.iload_n 1, 1, 0, 0) := by decide +kernel
theorem r13_118 : rowAt 13 118 = some (.invokevirtual 83, 3, 5, 0) := by decide +kernel
theorem r13_121 : rowAt 13 121 = some (.iload_n 2, 1, 0, 0) := by decide +kernel
theorem r13_122 : rowAt 13 122 = some (.ireturn, 1, 0, 0) := by decide +kernel
theorem en13 (a0 : Nat) : iniL 13 [.ref a0] = [.ref a0, .null, .null, .null, .null, .null] := ini_n mi13 rfl
theorem b13_0 (d : Nat) (l0 : Nat) (h : aH) (K : Option Value → aH → Prop) : E scr false (d + 1) 13 0 [.ref l0, .null, .null, .null, .null, .null] [] h K = vI scr d 16 [.ref l0] h (fun (x2 : Int32) (h1 : aH) => E scr false (d + 1) 13 9 [.ref l0, .int (-1), .int x2, .int 0, .null, .null] [] h1 K) := E_ic r13_0 (v := (-1)) (by decide) (go (w := (2, [.ref l0, .int (-1), .null, .null, .null, .null], [], h)) r13_1 rfl rfl (go (w := (3, [.ref l0, .int (-1), .null, .null, .null, .null], [.ref l0], h)) r13_2 rfl rfl (E_vI r13_3 (As := [.ref l0]) (rest := []) (cut_n mi16.1 rfl rfl) (rm8_n mi16.2.1 (Nat.le_of_ble_eq_true rfl) (Nat.le_of_ble_eq_true rfl)) mi16.2.2 (fun x2 h1 => go (w := (7, [.ref l0, .int (-1), .int x2, .null, .null, .null], [], h1)) r13_6 rfl rfl (E_ic r13_7 (v := 0) (by decide) (go (w := (9, [.ref l0, .int (-1), .int x2, .int 0, .null, .null], [], h1)) r13_8 rfl rfl (rfl)))))))
theorem b13_9 (d : Nat) (l0 : Nat) (l1 : Int32) (l2 : Int32) (l3 : Int32) (l4 : Value) (l5 : Value) (h : aH) (K : Option Value → aH → Prop) : E scr false (d + 1) 13 9 [.ref l0, .int l1, .int l2, .int l3, l4, l5] [] h K = (if l2 = 0 then E scr false (d + 1) 13 109 [.ref l0, .int l1, .int l2, .int l3, l4, l5] [] h K else (if 400 ≤ l3 then E scr false (d + 1) 13 109 [.ref l0, .int l1, .int l2, .int l3, l4, l5] [] h K else vI scr d 14 [.ref l0] h (fun (x2 : Int32) (h1 : aH) => (if 0 ≤ x2 then (if x2 = 10 then E scr false (d + 1) 13 48 [.ref l0, .int l1, .int l2, .int l3, .int x2, l5] [] h1 K else (if x2 = 11 then E scr false (d + 1) 13 48 [.ref l0, .int l1, .int l2, .int l3, .int x2, l5] [] h1 K else E scr false (d + 1) 13 53 [.ref l0, .int l1, .int l2, .int l3, .int x2, l5] [.int 0] h1 K)) else E scr false (d + 1) 13 109 [.ref l0, .int l1, .int l2, .int l3, .int x2, l5] [] h1 K)))) := go (w := (10, [.ref l0, .int l1, .int l2, .int l3, l4, l5], [.int l2], h)) r13_9 rfl rfl (E_i1_eq r13_10 rfl (rfl) (go (w := (14, [.ref l0, .int l1, .int l2, .int l3, l4, l5], [.int l3], h)) r13_13 rfl rfl (E_sip r13_14 (v := 400) (by decide) (E_i2_ge r13_17 rfl (rfl) (go (w := (21, [.ref l0, .int l1, .int l2, .int l3, l4, l5], [.ref l0], h)) r13_20 rfl rfl (E_vI r13_21 (As := [.ref l0]) (rest := []) (cut_n mi14.1 rfl rfl) (rm8_n mi14.2.1 (Nat.le_of_ble_eq_true rfl) (Nat.le_of_ble_eq_true rfl)) mi14.2.2 (fun x2 h1 => go (w := (26, [.ref l0, .int l1, .int l2, .int l3, .int x2, l5], [], h1)) r13_24 rfl rfl (go (w := (28, [.ref l0, .int l1, .int l2, .int l3, .int x2, l5], [.int x2], h1)) r13_26 rfl rfl (E_i1_ge r13_28 rfl (go (w := (36, [.ref l0, .int l1, .int l2, .int l3, .int x2, l5], [.int x2], h1)) r13_34 rfl rfl (E_bip r13_36 (v := 10) (by decide) (E_i2_eq r13_38 rfl (rfl) (go (w := (43, [.ref l0, .int l1, .int l2, .int l3, .int x2, l5], [.int x2], h1)) r13_41 rfl rfl (E_bip r13_43 (v := 11) (by decide) (E_i2_ne r13_45 rfl (E_ic r13_52 (v := 0) (by decide) (rfl)) (rfl))))))) (E_gt r13_31 rfl (rfl)))))))))))
theorem b13_48 (d : Nat) (l0 : Nat) (l1 : Int32) (l2 : Int32) (l3 : Int32) (l4 : Int32) (l5 : Value) (h : aH) (K : Option Value → aH → Prop) : E scr false d 13 48 [.ref l0, .int l1, .int l2, .int l3, .int l4, l5] [] h K = E scr false d 13 53 [.ref l0, .int l1, .int l2, .int l3, .int l4, l5] [.int 1] h K := E_ic r13_48 (v := 1) (by decide) (E_gt r13_49 rfl (rfl))
theorem b13_53 (d : Nat) (l0 : Nat) (l1 : Int32) (l2 : Int32) (l3 : Int32) (l4 : Int32) (l5 : Value) (s0 : Int32) (h : aH) (K : Option Value → aH → Prop) : E scr false (d + 1) 13 53 [.ref l0, .int l1, .int l2, .int l3, .int l4, l5] [.int s0] h K = (if s0 = 0 then E scr false (d + 1) 13 72 [.ref l0, .int l1, .int l2, .int l3, .int l4, .int s0] [] h K else (if l1 < 0 then E scr false (d + 1) 13 72 [.ref l0, .int l1, .int l2, .int l3, .int l4, .int s0] [] h K else gR scr h l0 2 1 (fun x1 : Nat => vV scr d 5 [.ref x1, .int l1] h (fun h2 : aH => E scr false (d + 1) 13 72 [.ref l0, .int l1, .int l2, .int l3, .int l4, .int s0] [] h2 K)))) := go (w := (55, [.ref l0, .int l1, .int l2, .int l3, .int l4, .int s0], [], h)) r13_53 rfl rfl (go (w := (57, [.ref l0, .int l1, .int l2, .int l3, .int l4, .int s0], [.int s0], h)) r13_55 rfl rfl (E_i1_eq r13_57 rfl (rfl) (go (w := (61, [.ref l0, .int l1, .int l2, .int l3, .int l4, .int s0], [.int l1], h)) r13_60 rfl rfl (E_i1_lt r13_61 rfl (rfl) (go (w := (65, [.ref l0, .int l1, .int l2, .int l3, .int l4, .int s0], [.ref l0], h)) r13_64 rfl rfl (E_gR r13_65 rfl (fun x1 => go (w := (69, [.ref l0, .int l1, .int l2, .int l3, .int l4, .int s0], [.int l1, .ref x1], h)) r13_68 rfl rfl (E_vV r13_69 (As := [.ref x1, .int l1]) (rest := []) (cut_n mi5.1 rfl rfl) (rm8_n mi5.2.1 (Nat.le_of_ble_eq_true rfl) (Nat.le_of_ble_eq_true rfl)) mi5.2.2 (fun h2 => rfl)))))))))
theorem b13_72 (d : Nat) (l0 : Nat) (l1 : Int32) (l2 : Int32) (l3 : Int32) (l4 : Int32) (l5 : Int32) (h : aH) (K : Option Value → aH → Prop) : E scr false d 13 72 [.ref l0, .int l1, .int l2, .int l3, .int l4, .int l5] [] h K = (if l5 = 0 then E scr false d 13 83 [.ref l0, .int l1, .int l2, .int l3, .int l4, .int l5] [.int l1] h K else E scr false d 13 83 [.ref l0, .int l1, .int l2, .int l3, .int l4, .int l5] [.int l4] h K) := go (w := (74, [.ref l0, .int l1, .int l2, .int l3, .int l4, .int l5], [.int l5], h)) r13_72 rfl rfl (E_i1_eq r13_74 rfl (go (w := (83, [.ref l0, .int l1, .int l2, .int l3, .int l4, .int l5], [.int l1], h)) r13_82 rfl rfl (rfl)) (go (w := (79, [.ref l0, .int l1, .int l2, .int l3, .int l4, .int l5], [.int l4], h)) r13_77 rfl rfl (E_gt r13_79 rfl (rfl))))
theorem b13_83 (d : Nat) (l0 : Nat) (l1 : Int32) (l2 : Int32) (l3 : Int32) (l4 : Int32) (l5 : Int32) (s0 : Int32) (h : aH) (K : Option Value → aH → Prop) : E scr false (d + 1) 13 83 [.ref l0, .int l1, .int l2, .int l3, .int l4, .int l5] [.int s0] h K = vI scr d 16 [.ref l0] h (fun (x2 : Int32) (h1 : aH) => (if l5 = 0 then gR scr h1 l0 2 1 (fun x3 : Nat => vV scr d 5 [.ref x3, .int l4] h1 (fun h4 : aH => E scr false (d + 1) 13 103 [.ref l0, .int s0, .int x2, .int l3, .int l4, .int l5] [] h4 K)) else E scr false (d + 1) 13 103 [.ref l0, .int s0, .int x2, .int l3, .int l4, .int l5] [] h1 K)) := go (w := (84, [.ref l0, .int s0, .int l2, .int l3, .int l4, .int l5], [], h)) r13_83 rfl rfl (go (w := (85, [.ref l0, .int s0, .int l2, .int l3, .int l4, .int l5], [.ref l0], h)) r13_84 rfl rfl (E_vI r13_85 (As := [.ref l0]) (rest := []) (cut_n mi16.1 rfl rfl) (rm8_n mi16.2.1 (Nat.le_of_ble_eq_true rfl) (Nat.le_of_ble_eq_true rfl)) mi16.2.2 (fun x2 h1 => go (w := (89, [.ref l0, .int s0, .int x2, .int l3, .int l4, .int l5], [], h1)) r13_88 rfl rfl (go (w := (91, [.ref l0, .int s0, .int x2, .int l3, .int l4, .int l5], [.int l5], h1)) r13_89 rfl rfl (E_i1_ne r13_91 rfl (rfl) (go (w := (95, [.ref l0, .int s0, .int x2, .int l3, .int l4, .int l5], [.ref l0], h1)) r13_94 rfl rfl (E_gR r13_95 rfl (fun x3 => go (w := (100, [.ref l0, .int s0, .int x2, .int l3, .int l4, .int l5], [.int l4, .ref x3], h1)) r13_98 rfl rfl (E_vV r13_100 (As := [.ref x3, .int l4]) (rest := []) (cut_n mi5.1 rfl rfl) (rm8_n mi5.2.1 (Nat.le_of_ble_eq_true rfl) (Nat.le_of_ble_eq_true rfl)) mi5.2.2 (fun h4 => rfl))))))))))
theorem b13_103 (d : Nat) (l0 : Nat) (l1 : Int32) (l2 : Int32) (l3 : Int32) (l4 : Int32) (l5 : Int32) (h : aH) (K : Option Value → aH → Prop) : E scr false d 13 103 [.ref l0, .int l1, .int l2, .int l3, .int l4, .int l5] [] h K = E scr false d 13 9 [.ref l0, .int l1, .int l2, .int (l3 + 1), .int l4, .int l5] [] h K := E_inc r13_103 (c := 1) rfl (by decide) (L' := [.ref l0, .int l1, .int l2, .int (l3 + 1), .int l4, .int l5]) rfl (E_gt r13_106 rfl (rfl))
theorem b13_109 (d : Nat) (l0 : Nat) (l1 : Int32) (l2 : Int32) (l3 : Int32) (l4 : Value) (l5 : Value) (h : aH) (K : Option Value → aH → Prop) : E scr false (d + 1) 13 109 [.ref l0, .int l1, .int l2, .int l3, l4, l5] [] h K = (if l1 < 0 then (l2 &&& 1 = l2 ∧ K (some (.int l2)) h) else gR scr h l0 2 1 (fun x1 : Nat => vV scr d 5 [.ref x1, .int l1] h (fun h2 : aH => (l2 &&& 1 = l2 ∧ K (some (.int l2)) h2)))) := go (w := (110, [.ref l0, .int l1, .int l2, .int l3, l4, l5], [.int l1], h)) r13_109 rfl rfl (E_i1_lt r13_110 rfl (go (w := (122, [.ref l0, .int l1, .int l2, .int l3, l4, l5], [.int l2], h)) r13_121 rfl rfl (E_zret r13_122 (mq13))) (go (w := (114, [.ref l0, .int l1, .int l2, .int l3, l4, l5], [.ref l0], h)) r13_113 rfl rfl (E_gR r13_114 rfl (fun x1 => go (w := (118, [.ref l0, .int l1, .int l2, .int l3, l4, l5], [.int l1, .ref x1], h)) r13_117 rfl rfl (E_vV r13_118 (As := [.ref x1, .int l1]) (rest := []) (cut_n mi5.1 rfl rfl) (rm8_n mi5.2.1 (Nat.le_of_ble_eq_true rfl) (Nat.le_of_ble_eq_true rfl)) mi5.2.2 (fun h2 => go (w := (122, [.ref l0, .int l1, .int l2, .int l3, l4, l5], [.int l2], h2)) r13_121 rfl rfl (E_zret r13_122 (mq13))))))))
-- 14 SecondNearest$LawReader.takeWorking()I
theorem mq14 : mRet 14 = (some .int) := by decide +kernel
theorem r14_0 : rowAt 14 0 = some (.aload_n 0, 1, 0, 0) := by decide +kernel
theorem r14_1 : rowAt 14 1 = some (.getfield 9, 3, 2, 0) := by decide +kernel
theorem r14_4 : rowAt 14 4 = some (.invokevirtual 47, 3, 69, 0) := by decide +kernel
theorem r14_7 : rowAt 14 7 = some (.pop, 1, 0, 0) := by decide +kernel
theorem r14_8 : rowAt 14 8 = some (.aload_n 0, 1, 0, 0) := by decide +kernel
theorem r14_9 : rowAt 14 9 = some (.getfield 9, 3, 2, 0) := by decide +kernel
theorem r14_12 : rowAt 14 12 = some (.invokevirtual 97, 3, 68, 0) := by decide +kernel
theorem r14_15 : rowAt 14 15 = some (.invokestatic 109, 3, 15, 1) := by decide +kernel
theorem r14_18 : rowAt 14 18 = some (.istore_n 1, 1, 0, 0) := by decide +kernel
theorem r14_19 : rowAt 14 19 = some (.iload_n 1, 1, 0, 0) := by decide +kernel
theorem r14_20 : rowAt 14 20 = some (.ifCond .lt 16, 3, 0, 0) := by decide +kernel
theorem r14_23 : rowAt 14 23 = some (.aload_n 0, 1, 0, 0) := by decide +kernel
theorem r14_24 : rowAt 14 24 = some (.getfield 9, 3, 2, 0) := by decide +kernel
theorem r14_27 : rowAt 14 27 = some (.dup, 1, 0, 0) := by decide +kernel
theorem r14_28 : rowAt 14 28 = some (.getfield 88, 3, 6, 2) := by decide +kernel
theorem r14_31 : rowAt 14 31 = some (.iconst 1, 1, 0, 0) := by decide +kernel
theorem r14_32 : rowAt 14 32 = some (.iadd, 1, 0, 0) := by decide +kernel
theorem r14_33 : rowAt 14 33 = some (.putfield 88, 3, 6, 2) := by decide +kernel
theorem r14_36 : rowAt 14 36 = some (.iload_n 1, 1, 0, 0) := by decide +kernel
theorem r14_37 : rowAt 14 37 = some (.ireturn, 1, 0, 0) := by decide +kernel
theorem en14 (a0 : Nat) : iniL 14 [.ref a0] = [.ref a0, .null] := ini_n mi14 rfl
theorem b14_0 (d : Nat) (l0 : Nat) (h : aH) (K : Option Value → aH → Prop) : E scr false (d + 1) 14 0 [.ref l0, .null] [] h K = gR scr h l0 2 0 (fun x1 : Nat => vI scr d 69 [.ref x1] h (fun (x3 : Int32) (h2 : aH) => gR scr h2 l0 2 0 (fun x4 : Nat => vI scr d 68 [.ref x4] h2 (fun (x6 : Int32) (h5 : aH) => sI scr d 15 [.int x6] h5 (fun (x8 : Int32) (h7 : aH) => (if x8 < 0 then K (some (.int x8)) h7 else gR scr h7 l0 2 0 (fun x9 : Nat => gI scr h7 x9 6 2 (fun x10 : Int32 => pF h7 x9 6 2 (.int (x10 + 1)) (fun h11 : aH => K (some (.int x8)) h11))))))))) := go (w := (1, [.ref l0, .null], [.ref l0], h)) r14_0 rfl rfl (E_gR r14_1 rfl (fun x1 => E_vI r14_4 (As := [.ref x1]) (rest := []) (cut_n mi69.1 rfl rfl) (rm8_n mi69.2.1 (Nat.le_of_ble_eq_true rfl) (Nat.le_of_ble_eq_true rfl)) mi69.2.2 (fun x3 h2 => go (w := (8, [.ref l0, .null], [], h2)) r14_7 rfl rfl (go (w := (9, [.ref l0, .null], [.ref l0], h2)) r14_8 rfl rfl (E_gR r14_9 rfl (fun x4 => E_vI r14_12 (As := [.ref x4]) (rest := []) (cut_n mi68.1 rfl rfl) (rm8_n mi68.2.1 (Nat.le_of_ble_eq_true rfl) (Nat.le_of_ble_eq_true rfl)) mi68.2.2 (fun x6 h5 => E_sI r14_15 (As := [.int x6]) (rest := []) (cut_n mi15.1 rfl rfl) (rm8_n mi15.2.1 (Nat.le_of_ble_eq_true rfl) (Nat.le_of_ble_eq_true rfl)) mi15.2.2 (fun x8 h7 => go (w := (19, [.ref l0, .int x8], [], h7)) r14_18 rfl rfl (go (w := (20, [.ref l0, .int x8], [.int x8], h7)) r14_19 rfl rfl (E_i1_lt r14_20 rfl (go (w := (37, [.ref l0, .int x8], [.int x8], h7)) r14_36 rfl rfl (E_ri r14_37 (mq14))) (go (w := (24, [.ref l0, .int x8], [.ref l0], h7)) r14_23 rfl rfl (E_gR r14_24 rfl (fun x9 => go (w := (28, [.ref l0, .int x8], [.ref x9, .ref x9], h7)) r14_27 rfl rfl (E_gI r14_28 rfl (fun x10 => E_ic r14_31 (v := 1) (by decide) (go (w := (33, [.ref l0, .int x8], [.int (x10 + 1), .ref x9], h7)) r14_32 rfl rfl (E_pI r14_33 ⟨rfl, rfl⟩ (fun h11 => go (w := (37, [.ref l0, .int x8], [.int x8], h11)) r14_36 rfl rfl (E_ri r14_37 (mq14))))))))))))))))))))
-- 15 SecondNearest$LawReader.workingOf(I)I
theorem mq15 : mRet 15 = (some .int) := by decide +kernel
theorem r15_0 : rowAt 15 0 = some (.iload_n 0, 1, 0, 0) := by decide +kernel
theorem r15_1 : rowAt 15 1 = some (.tableswitch 74 37 47 #[71, 74, 74, 74, 74, 65, 59, 74, 62, 74, 68], 59, 0, 0) := by decide +kernel
theorem r15_60 : rowAt 15 60 = some (.bipush 10, 2, 0, 0) := by decide +kernel
theorem r15_62 : rowAt 15 62 = some (.ireturn, 1, 0, 0) := by decide +kernel
theorem r15_63 : rowAt 15 63 = some (.bipush 11, 2, 0, 0) := by decide +kernel
theorem r15_65 : rowAt 15 65 = some (.ireturn, 1, 0, 0) := by decide +kernel
theorem r15_66 : rowAt 15 66 = some (.bipush 12, 2, 0, 0) := by decide +kernel
theorem r15_68 : rowAt 15 68 = some (.ireturn, 1, 0, 0) := by decide +kernel
theorem r15_69 : rowAt 15 69 = some (.bipush 13, 2, 0, 0) := by decide +kernel
theorem r15_71 : rowAt 15 71 = some (.ireturn, 1, 0, 0) := by decide +kernel
theorem r15_72 : rowAt 15 72 = some (.bipush 14, 2, 0, 0) := by decide +kernel
theorem r15_74 : rowAt 15 74 = some (.ireturn, 1, 0, 0) := by decide +kernel
theorem r15_75 : rowAt 15 75 = some (.iconst (-1), 1, 0, 0) := by decide +kernel
theorem r15_76 : rowAt 15 76 = some (.ireturn, 1, 0, 0) := by decide +kernel
theorem en15 (a0 : Int32) : iniL 15 [.int a0] = [.int a0] := ini_n mi15 rfl
theorem b15_0 (d : Nat) (l0 : Int32) (h : aH) (K : Option Value → aH → Prop) : E scr false d 15 0 [.int l0] [] h K = (if l0 = 37 then E scr false d 15 72 [.int l0] [] h K else (if l0 = 38 then E scr false d 15 75 [.int l0] [] h K else (if l0 = 39 then E scr false d 15 75 [.int l0] [] h K else (if l0 = 40 then E scr false d 15 75 [.int l0] [] h K else (if l0 = 41 then E scr false d 15 75 [.int l0] [] h K else (if l0 = 42 then E scr false d 15 66 [.int l0] [] h K else (if l0 = 43 then E scr false d 15 60 [.int l0] [] h K else (if l0 = 44 then E scr false d 15 75 [.int l0] [] h K else (if l0 = 45 then E scr false d 15 63 [.int l0] [] h K else (if l0 = 46 then E scr false d 15 75 [.int l0] [] h K else (if l0 = 47 then E scr false d 15 69 [.int l0] [] h K else E scr false d 15 75 [.int l0] [] h K))))))))))) := go (w := (1, [.int l0], [.int l0], h)) r15_0 rfl rfl (E_tab (pc := 1) [(37, 72), (38, 75), (39, 75), (40, 75), (41, 75), (42, 66), (43, 60), (44, 75), (45, 63), (46, 75), (47, 69)] 75 r15_1 (by decide +kernel) (by decide +kernel) (by decide +kernel))
theorem b15_60 (d : Nat) (l0 : Int32) (h : aH) (K : Option Value → aH → Prop) : E scr false d 15 60 [.int l0] [] h K = K (some (.int 10)) h := E_bip r15_60 (v := 10) (by decide) (E_ri r15_62 (mq15))
theorem b15_63 (d : Nat) (l0 : Int32) (h : aH) (K : Option Value → aH → Prop) : E scr false d 15 63 [.int l0] [] h K = K (some (.int 11)) h := E_bip r15_63 (v := 11) (by decide) (E_ri r15_65 (mq15))
theorem b15_66 (d : Nat) (l0 : Int32) (h : aH) (K : Option Value → aH → Prop) : E scr false d 15 66 [.int l0] [] h K = K (some (.int 12)) h := E_bip r15_66 (v := 12) (by decide) (E_ri r15_68 (mq15))
theorem b15_69 (d : Nat) (l0 : Int32) (h : aH) (K : Option Value → aH → Prop) : E scr false d 15 69 [.int l0] [] h K = K (some (.int 13)) h := E_bip r15_69 (v := 13) (by decide) (E_ri r15_71 (mq15))
theorem b15_72 (d : Nat) (l0 : Int32) (h : aH) (K : Option Value → aH → Prop) : E scr false d 15 72 [.int l0] [] h K = K (some (.int 14)) h := E_bip r15_72 (v := 14) (by decide) (E_ri r15_74 (mq15))
theorem b15_75 (d : Nat) (l0 : Int32) (h : aH) (K : Option Value → aH → Prop) : E scr false d 15 75 [.int l0] [] h K = K (some (.int (-1))) h := E_ic r15_75 (v := (-1)) (by decide) (E_ri r15_76 (mq15))
-- 16 SecondNearest$LawReader.takeValue()Z
theorem mq16 : mRet 16 = (some .boolean) := by decide +kernel
theorem r16_0 : rowAt 16 0 = some (.aload_n 0, 1, 0, 0) := by decide +kernel
theorem r16_1 : rowAt 16 1 = some (.getfield 9, 3, 2, 0) := by decide +kernel
theorem r16_4 : rowAt 16 4 = some (.invokevirtual 47, 3, 69, 0) := by decide +kernel
theorem r16_7 : rowAt 16 7 = some (.istore_n 1, 1, 0, 0) := by decide +kernel
theorem r16_8 : rowAt 16 8 = some (.aload_n 0, 1, 0, 0) := by decide +kernel
theorem r16_9 : rowAt 16 9 = some (.getfield 9, 3, 2, 0) := by decide +kernel
theorem r16_12 : rowAt 16 12 = some (.invokevirtual 113, 3, 74, 0) := by decide +kernel
theorem r16_15 : rowAt 16 15 = some (.istore_n 2, 1, 0, 0) := by decide +kernel
theorem r16_16 : rowAt 16 16 = some (.iload_n 2, 1, 0, 0) := by decide +kernel
theorem r16_17 : rowAt 16 17 = some (.ifCond .eq 16, 3, 0, 0) := by decide +kernel
theorem r16_20 : rowAt 16 20 = some (.aload_n 0, 1, 0, 0) := by decide +kernel
theorem r16_21 : rowAt 16 21 = some (.getfield 9, 3, 2, 0) := by decide +kernel
theorem r16_24 : rowAt 16 24 = some (.iconst 0, 1, 0, 0) := by decide +kernel
theorem r16_25 : rowAt 16 25 = some (.ldc 116, 2, 99999, 0) := by decide +kernel
theorem r16_27 : rowAt 16 27 = some (.invokevirtual 64, 3, 75, 0) := by decide +kernel
theorem r16_30 : rowAt 16 30 = some (.goto 12, 3, 0, 0) := by decide +kernel
theorem r16_33 : rowAt 16 33 = some (.aload_n 0, 1, 0, 0) := by decide +kernel
theorem r16_34 : rowAt 16 34 = some (.getfield 9, 3, 2, 0) := by decide +kernel
theorem r16_37 : rowAt 16 37 = some (.ldc 117, 2, 4, 1) := by decide +kernel
theorem r16_39 : rowAt 16 39 = some (.invokevirtual 53, 3, 72, 0) := by decide +kernel
theorem r16_42 : rowAt 16 42 = some (.istore_n 3, 1, 0, 0) := by decide +kernel
theorem r16_43 : rowAt 16 43 = some (.iload_n 3, 1, 0, 0) := by decide +kernel
theorem r16_44 : rowAt 16 44 = some (.ifCond .ge 13, 3, 0, 0) := by decide +kernel
theorem r16_47 : rowAt 16 47 = some (.aload_n 0, 1, 0, 0) := by decide +kernel
theorem r16_48 : rowAt 16 48 = some (.getfield 9, 3, 2, 0) := by decide +kernel
theorem r16_51 : rowAt 16 51 = some (.iload_n 1, 1, 0, 0) := by decide +kernel
theorem r16_52 : rowAt 16 52 = some (.iconst 0, 1, 0, 0) := by decide +kernel
theorem r16_53 : rowAt 16 53 = some (.invokevirtual 57, 3, 70, 0) := by decide +kernel
theorem r16_56 : rowAt 16 56 = some (.ireturn, 1, 0, 0) := by decide +kernel
theorem r16_57 : rowAt 16 57 = some (.aload_n 0, 1, 0, 0) := by decide +kernel
theorem r16_58 : rowAt 16 58 = some (.iload_n 1, 1, 0, 0) := by decide +kernel
theorem r16_59 : rowAt 16 59 = some (.invokevirtual 100, 3, 17, 0) := by decide +kernel
theorem r16_62 : rowAt 16 62 = some (.ifCond .ne 5, 3, 0, 0) := by decide +kernel
theorem r16_65 : rowAt 16 65 = some (.iconst 0, 1, 0, 0) := by decide +kernel
theorem r16_66 : rowAt 16 66 = some (.ireturn, 1, 0, 0) := by decide +kernel
theorem r16_67 : rowAt 16 67 = some (.aload_n 0, 1, 0, 0) := by decide +kernel
theorem r16_68 : rowAt 16 68 = some (.getfield 15, 3, 2, 1) := by decide +kernel
theorem r16_71 : rowAt 16 71 = some (.iload_n 2, 1, 0, 0) := by decide +kernel
theorem r16_72 : rowAt 16 72 = some (.ifCond .eq 10, 3, 0, 0) := by decide +kernel
theorem r16_75 : rowAt 16 75 = some (.bipush 32, 2, 0, 0) := by decide +kernel
theorem r16_77 : rowAt 16 77 = some (.iload_n 3, 1, 0, 0) := by decide +kernel
theorem r16_78 : rowAt 16 78 = some (.iadd, 1, 0, 0) := by decide +kernel
theorem r16_79 : rowAt 16 79 = some (.goto 4, 3, 0, 0) := by decide +kernel
theorem r16_82 : rowAt 16 82 = some (.iload_n 3, 1, 0, 0) := by decide +kernel
theorem r16_83 : rowAt 16 83 = some (.invokevirtual 83, 3, 5, 0) := by decide +kernel
theorem r16_86 : rowAt 16 86 = some (.iconst 1, 1, 0, 0) := by decide +kernel
theorem r16_87 : rowAt 16 87 = some (.ireturn, 1, 0, 0) := by decide +kernel
theorem en16 (a0 : Nat) : iniL 16 [.ref a0] = [.ref a0, .null, .null, .null] := ini_n mi16 rfl
theorem b16_0 (d : Nat) (l0 : Nat) (h : aH) (K : Option Value → aH → Prop) : E scr false (d + 1) 16 0 [.ref l0, .null, .null, .null] [] h K = gR scr h l0 2 0 (fun x1 : Nat => vI scr d 69 [.ref x1] h (fun (x3 : Int32) (h2 : aH) => gR scr h2 l0 2 0 (fun x4 : Nat => vI scr d 74 [.ref x4] h2 (fun (x6 : Int32) (h5 : aH) => (if x6 = 0 then gR scr h5 l0 2 0 (fun x7 : Nat => vI scr d 72 [.ref x7, .ref 20004] h5 (fun (x9 : Int32) (h8 : aH) => E scr false (d + 1) 16 42 [.ref l0, .int x3, .int x6, .null] [.int x9] h8 K)) else gR scr h5 l0 2 0 (fun x10 : Nat => vI scr d 75 [.ref x10, .int 0, .int 99999] h5 (fun (x12 : Int32) (h11 : aH) => E scr false (d + 1) 16 42 [.ref l0, .int x3, .int x6, .null] [.int x12] h11 K))))))) := go (w := (1, [.ref l0, .null, .null, .null], [.ref l0], h)) r16_0 rfl rfl (E_gR r16_1 rfl (fun x1 => E_vI r16_4 (As := [.ref x1]) (rest := []) (cut_n mi69.1 rfl rfl) (rm8_n mi69.2.1 (Nat.le_of_ble_eq_true rfl) (Nat.le_of_ble_eq_true rfl)) mi69.2.2 (fun x3 h2 => go (w := (8, [.ref l0, .int x3, .null, .null], [], h2)) r16_7 rfl rfl (go (w := (9, [.ref l0, .int x3, .null, .null], [.ref l0], h2)) r16_8 rfl rfl (E_gR r16_9 rfl (fun x4 => E_vI r16_12 (As := [.ref x4]) (rest := []) (cut_n mi74.1 rfl rfl) (rm8_n mi74.2.1 (Nat.le_of_ble_eq_true rfl) (Nat.le_of_ble_eq_true rfl)) mi74.2.2 (fun x6 h5 => go (w := (16, [.ref l0, .int x3, .int x6, .null], [], h5)) r16_15 rfl rfl (go (w := (17, [.ref l0, .int x3, .int x6, .null], [.int x6], h5)) r16_16 rfl rfl (E_i1_eq r16_17 rfl (go (w := (34, [.ref l0, .int x3, .int x6, .null], [.ref l0], h5)) r16_33 rfl rfl (E_gR r16_34 rfl (fun x7 => E_lds r16_37 (v := 20004) rfl (E_vI r16_39 (As := [.ref x7, .ref 20004]) (rest := []) (cut_n mi72.1 rfl rfl) (rm8_n mi72.2.1 (Nat.le_of_ble_eq_true rfl) (Nat.le_of_ble_eq_true rfl)) mi72.2.2 (fun x9 h8 => rfl))))) (go (w := (21, [.ref l0, .int x3, .int x6, .null], [.ref l0], h5)) r16_20 rfl rfl (E_gR r16_21 rfl (fun x10 => E_ic r16_24 (v := 0) (by decide) (E_ldc r16_25 (v := 99999) (by decide) (E_vI r16_27 (As := [.ref x10, .int 0, .int 99999]) (rest := []) (cut_n mi75.1 rfl rfl) (rm8_n mi75.2.1 (Nat.le_of_ble_eq_true rfl) (Nat.le_of_ble_eq_true rfl)) mi75.2.2 (fun x12 h11 => E_gt r16_30 rfl (rfl))))))))))))))))
theorem b16_42 (d : Nat) (l0 : Nat) (l1 : Int32) (l2 : Int32) (s0 : Int32) (h : aH) (K : Option Value → aH → Prop) : E scr false (d + 1) 16 42 [.ref l0, .int l1, .int l2, .null] [.int s0] h K = (if 0 ≤ s0 then vI scr d 17 [.ref l0, .int l1] h (fun (x2 : Int32) (h1 : aH) => (if x2 = 0 then K (some (.int 0)) h1 else gR scr h1 l0 2 1 (fun x3 : Nat => (if l2 = 0 then E scr false (d + 1) 16 83 [.ref l0, .int l1, .int l2, .int s0] [.int s0, .ref x3] h1 K else E scr false (d + 1) 16 83 [.ref l0, .int l1, .int l2, .int s0] [.int (32 + s0), .ref x3] h1 K)))) else gR scr h l0 2 0 (fun x4 : Nat => vI scr d 70 [.ref x4, .int l1, .int 0] h (fun (x6 : Int32) (h5 : aH) => (x6 &&& 1 = x6 ∧ K (some (.int x6)) h5)))) := go (w := (43, [.ref l0, .int l1, .int l2, .int s0], [], h)) r16_42 rfl rfl (go (w := (44, [.ref l0, .int l1, .int l2, .int s0], [.int s0], h)) r16_43 rfl rfl (E_i1_ge r16_44 rfl (go (w := (58, [.ref l0, .int l1, .int l2, .int s0], [.ref l0], h)) r16_57 rfl rfl (go (w := (59, [.ref l0, .int l1, .int l2, .int s0], [.int l1, .ref l0], h)) r16_58 rfl rfl (E_vI r16_59 (As := [.ref l0, .int l1]) (rest := []) (cut_n mi17.1 rfl rfl) (rm8_n mi17.2.1 (Nat.le_of_ble_eq_true rfl) (Nat.le_of_ble_eq_true rfl)) mi17.2.2 (fun x2 h1 => E_i1_ne r16_62 rfl (go (w := (68, [.ref l0, .int l1, .int l2, .int s0], [.ref l0], h1)) r16_67 rfl rfl (E_gR r16_68 rfl (fun x3 => go (w := (72, [.ref l0, .int l1, .int l2, .int s0], [.int l2, .ref x3], h1)) r16_71 rfl rfl (E_i1_eq r16_72 rfl (go (w := (83, [.ref l0, .int l1, .int l2, .int s0], [.int s0, .ref x3], h1)) r16_82 rfl rfl (rfl)) (E_bip r16_75 (v := 32) (by decide) (go (w := (78, [.ref l0, .int l1, .int l2, .int s0], [.int s0, .int 32, .ref x3], h1)) r16_77 rfl rfl (go (w := (79, [.ref l0, .int l1, .int l2, .int s0], [.int (32 + s0), .ref x3], h1)) r16_78 rfl rfl (E_gt r16_79 rfl (rfl))))))))) (E_ic r16_65 (v := 0) (by decide) (E_rz r16_66 (mq16) (by decide))))))) (go (w := (48, [.ref l0, .int l1, .int l2, .int s0], [.ref l0], h)) r16_47 rfl rfl (E_gR r16_48 rfl (fun x4 => go (w := (52, [.ref l0, .int l1, .int l2, .int s0], [.int l1, .ref x4], h)) r16_51 rfl rfl (E_ic r16_52 (v := 0) (by decide) (E_vI r16_53 (As := [.ref x4, .int l1, .int 0]) (rest := []) (cut_n mi70.1 rfl rfl) (rm8_n mi70.2.1 (Nat.le_of_ble_eq_true rfl) (Nat.le_of_ble_eq_true rfl)) mi70.2.2 (fun x6 h5 => E_zret r16_56 (mq16)))))))))
theorem b16_83 (d : Nat) (l0 : Nat) (l1 : Int32) (l2 : Int32) (l3 : Int32) (s0 : Int32) (s1 : Nat) (h : aH) (K : Option Value → aH → Prop) : E scr false (d + 1) 16 83 [.ref l0, .int l1, .int l2, .int l3] [.int s0, .ref s1] h K = vV scr d 5 [.ref s1, .int s0] h (fun h1 : aH => K (some (.int 1)) h1) := E_vV r16_83 (As := [.ref s1, .int s0]) (rest := []) (cut_n mi5.1 rfl rfl) (rm8_n mi5.2.1 (Nat.le_of_ble_eq_true rfl) (Nat.le_of_ble_eq_true rfl)) mi5.2.2 (fun h1 => E_ic r16_86 (v := 1) (by decide) (E_rz r16_87 (mq16) (by decide)))
-- 17 SecondNearest$LawReader.grow(I)Z
theorem mq17 : mRet 17 = (some .boolean) := by decide +kernel
theorem r17_0 : rowAt 17 0 = some (.aload_n 0, 1, 0, 0) := by decide +kernel
theorem r17_1 : rowAt 17 1 = some (.getfield 24, 3, 2, 2) := by decide +kernel
theorem r17_4 : rowAt 17 4 = some (.bipush 60, 2, 0, 0) := by decide +kernel
theorem r17_6 : rowAt 17 6 = some (.if_icmp .lt 13, 3, 0, 0) := by decide +kernel
theorem r17_9 : rowAt 17 9 = some (.aload_n 0, 1, 0, 0) := by decide +kernel
theorem r17_10 : rowAt 17 10 = some (.getfield 9, 3, 2, 0) := by decide +kernel
theorem r17_13 : rowAt 17 13 = some (.iload_n 1, 1, 0, 0) := by decide +kernel
theorem r17_14 : rowAt 17 14 = some (.iconst 3, 1, 0, 0) := by decide +kernel
theorem r17_15 : rowAt 17 15 = some (.invokevirtual 57, 3, 70, 0) := by decide +kernel
theorem r17_18 : rowAt 17 18 = some (.ireturn, 1, 0, 0) := by decide +kernel
theorem r17_19 : rowAt 17 19 = some (.aload_n 0, 1, 0, 0) := by decide +kernel
theorem r17_20 : rowAt 17 20 = some (.dup, 1, 0, 0) := by decide +kernel
theorem r17_21 : rowAt 17 21 = some (.getfield 24, 3, 2, 2) := by decide +kernel
theorem r17_24 : rowAt 17 24 = some (.iconst 1, 1, 0, 0) := by decide +kernel
theorem r17_25 : rowAt 17 25 = some (.iadd, 1, 0, 0) := by decide +kernel
theorem r17_26 : rowAt 17 26 = some (.putfield 24, 3, 2, 2) := by decide +kernel
theorem r17_29 : rowAt 17 29 = some (.iconst 1, 1, 0, 0) := by decide +kernel
theorem r17_30 : rowAt 17 30 = some (.ireturn, 1, 0, 0) := by decide +kernel
theorem en17 (a0 : Nat) (a1 : Int32) : iniL 17 [.ref a0, .int a1] = [.ref a0, .int a1] := ini_n mi17 rfl
theorem b17_0 (d : Nat) (l0 : Nat) (l1 : Int32) (h : aH) (K : Option Value → aH → Prop) : E scr false (d + 1) 17 0 [.ref l0, .int l1] [] h K = gI scr h l0 2 2 (fun x1 : Int32 => (if x1 < 60 then gI scr h l0 2 2 (fun x2 : Int32 => pF h l0 2 2 (.int (x2 + 1)) (fun h3 : aH => K (some (.int 1)) h3)) else gR scr h l0 2 0 (fun x4 : Nat => vI scr d 70 [.ref x4, .int l1, .int 3] h (fun (x6 : Int32) (h5 : aH) => (x6 &&& 1 = x6 ∧ K (some (.int x6)) h5))))) := go (w := (1, [.ref l0, .int l1], [.ref l0], h)) r17_0 rfl rfl (E_gI r17_1 rfl (fun x1 => E_bip r17_4 (v := 60) (by decide) (E_i2_lt r17_6 rfl (go (w := (20, [.ref l0, .int l1], [.ref l0], h)) r17_19 rfl rfl (go (w := (21, [.ref l0, .int l1], [.ref l0, .ref l0], h)) r17_20 rfl rfl (E_gI r17_21 rfl (fun x2 => E_ic r17_24 (v := 1) (by decide) (go (w := (26, [.ref l0, .int l1], [.int (x2 + 1), .ref l0], h)) r17_25 rfl rfl (E_pI r17_26 ⟨rfl, rfl⟩ (fun h3 => E_ic r17_29 (v := 1) (by decide) (E_rz r17_30 (mq17) (by decide))))))))) (go (w := (10, [.ref l0, .int l1], [.ref l0], h)) r17_9 rfl rfl (E_gR r17_10 rfl (fun x4 => go (w := (14, [.ref l0, .int l1], [.int l1, .ref x4], h)) r17_13 rfl rfl (E_ic r17_14 (v := 3) (by decide) (E_vI r17_15 (As := [.ref x4, .int l1, .int 3]) (rest := []) (cut_n mi70.1 rfl rfl) (rm8_n mi70.2.1 (Nat.le_of_ble_eq_true rfl) (Nat.le_of_ble_eq_true rfl)) mi70.2.2 (fun x6 h5 => E_zret r17_18 (mq17))))))))))
-- 19 SecondNearest$PlainReader.read()I
theorem mq19 : mRet 19 = (some .int) := by decide +kernel
theorem r19_0 : rowAt 19 0 = some (.aload_n 0, 1, 0, 0) := by decide +kernel
theorem r19_1 : rowAt 19 1 = some (.getfield 9, 3, 3, 0) := by decide +kernel
theorem r19_4 : rowAt 19 4 = some (.invokevirtual 19, 3, 67, 0) := by decide +kernel
theorem r19_7 : rowAt 19 7 = some (.aload_n 0, 1, 0, 0) := by decide +kernel
theorem r19_8 : rowAt 19 8 = some (.getfield 15, 3, 3, 1) := by decide +kernel
theorem r19_11 : rowAt 19 11 = some (.invokevirtual 24, 3, 50, 0) := by decide +kernel
theorem r19_14 : rowAt 19 14 = some (.iconst 1, 1, 0, 0) := by decide +kernel
theorem r19_15 : rowAt 19 15 = some (.istore_n 1, 1, 0, 0) := by decide +kernel
theorem r19_16 : rowAt 19 16 = some (.iconst 0, 1, 0, 0) := by decide +kernel
theorem r19_17 : rowAt 19 17 = some (.istore_n 2, 1, 0, 0) := by decide +kernel
theorem r19_18 : rowAt 19 18 = some (.iload_n 1, 1, 0, 0) := by decide +kernel
theorem r19_19 : rowAt 19 19 = some (.ifCond .eq 41, 3, 0, 0) := by decide +kernel
theorem r19_22 : rowAt 19 22 = some (.iload_n 2, 1, 0, 0) := by decide +kernel
theorem r19_23 : rowAt 19 23 = some (.sipush 400, 3, 0, 0) := by decide +kernel
theorem r19_26 : rowAt 19 26 = some (.if_icmp .ge 34, 3, 0, 0) := by decide +kernel
theorem r19_29 : rowAt 19 29 = some (.aload_n 0, 1, 0, 0) := by decide +kernel
theorem r19_30 : rowAt 19 30 = some (.invokevirtual 29, 3, 20, 0) := by decide +kernel
theorem r19_33 : rowAt 19 33 = some (.ifCond .ne 11, 3, 0, 0) := by decide +kernel
theorem r19_36 : rowAt 19 36 = some (.aload_n 0, 1, 0, 0) := by decide +kernel
theorem r19_37 : rowAt 19 37 = some (.getfield 9, 3, 3, 0) := by decide +kernel
theorem r19_40 : rowAt 19 40 = some (.getfield 33, 3, 6, 3) := by decide +kernel
theorem r19_43 : rowAt 19 43 = some (.ireturn, 1, 0, 0) := by decide +kernel
theorem r19_44 : rowAt 19 44 = some (.aload_n 0, 1, 0, 0) := by decide +kernel
theorem r19_45 : rowAt 19 45 = some (.getfield 9, 3, 3, 0) := by decide +kernel
theorem r19_48 : rowAt 19 48 = some (.bipush 59, 2, 0, 0) := by decide +kernel
theorem r19_50 : rowAt 19 50 = some (.invokevirtual 37, 3, 71, 0) := by decide +kernel
theorem r19_53 : rowAt 19 53 = some (.istore_n 1, 1, 0, 0) := by decide +kernel
theorem r19_54 : rowAt 19 54 = some (.iinc 2 1, 3, 0, 0) := by decide +kernel
theorem r19_57 : rowAt 19 57 = some (.goto (-39), 3, 0, 0) := by decide +kernel
theorem r19_60 : rowAt 19 60 = some (.aload_n 0, 1, 0, 0) := by decide +kernel
theorem r19_61 : rowAt 19 61 = some (.getfield 9, 3, 3, 0) := by decide +kernel
theorem r19_64 : rowAt 19 64 = some (.invokevirtual 41, 3, 76, 0) := by decide +kernel
theorem r19_67 : rowAt 19 67 = some (.ifCond .eq 7, 3, 0, 0) := by decide +kernel
theorem r19_70 : rowAt 19 70 = some (.iconst 0, 1, 0, 0) := by decide +kernel
theorem r19_71 : rowAt 19 71 = some (.goto 10, 3, 0, 0) := by decide +kernel
theorem r19_74 : rowAt 19 74 = some (.aload_n 0, 1, 0, 0) := by decide +kernel
theorem r19_75 : rowAt 19 75 = some (.getfield 9, 3, 3, 0) := by decide +kernel
theorem r19_78 : rowAt 19 78 = some (.getfield 33, 3, 6, 3) := by decide +kernel
theorem r19_81 : rowAt 19 81 = some (.ireturn, 1, 0, 0) := by decide +kernel
theorem en19 (a0 : Nat) : iniL 19 [.ref a0] = [.ref a0, .null, .null] := ini_n mi19 rfl
theorem b19_0 (d : Nat) (l0 : Nat) (h : aH) (K : Option Value → aH → Prop) : E scr false (d + 1) 19 0 [.ref l0, .null, .null] [] h K = gR scr h l0 3 0 (fun x1 : Nat => vV scr d 67 [.ref x1] h (fun h2 : aH => gR scr h2 l0 3 1 (fun x4 : Nat => vV scr d 50 [.ref x4] h2 (fun h5 : aH => E scr false (d + 1) 19 18 [.ref l0, .int 1, .int 0] [] h5 K)))) := go (w := (1, [.ref l0, .null, .null], [.ref l0], h)) r19_0 rfl rfl (E_gR r19_1 rfl (fun x1 => E_vV r19_4 (As := [.ref x1]) (rest := []) (cut_n mi67.1 rfl rfl) (rm8_n mi67.2.1 (Nat.le_of_ble_eq_true rfl) (Nat.le_of_ble_eq_true rfl)) mi67.2.2 (fun h2 => go (w := (8, [.ref l0, .null, .null], [.ref l0], h2)) r19_7 rfl rfl (E_gR r19_8 rfl (fun x4 => E_vV r19_11 (As := [.ref x4]) (rest := []) (cut_n mi50.1 rfl rfl) (rm8_n mi50.2.1 (Nat.le_of_ble_eq_true rfl) (Nat.le_of_ble_eq_true rfl)) mi50.2.2 (fun h5 => E_ic r19_14 (v := 1) (by decide) (go (w := (16, [.ref l0, .int 1, .null], [], h5)) r19_15 rfl rfl (E_ic r19_16 (v := 0) (by decide) (go (w := (18, [.ref l0, .int 1, .int 0], [], h5)) r19_17 rfl rfl (rfl))))))))))
theorem b19_18 (d : Nat) (l0 : Nat) (l1 : Int32) (l2 : Int32) (h : aH) (K : Option Value → aH → Prop) : E scr false (d + 1) 19 18 [.ref l0, .int l1, .int l2] [] h K = (if l1 = 0 then E scr false (d + 1) 19 60 [.ref l0, .int l1, .int l2] [] h K else (if 400 ≤ l2 then E scr false (d + 1) 19 60 [.ref l0, .int l1, .int l2] [] h K else vI scr d 20 [.ref l0] h (fun (x2 : Int32) (h1 : aH) => (if x2 = 0 then gR scr h1 l0 3 0 (fun x6 : Nat => gI scr h1 x6 6 3 (fun x7 : Int32 => K (some (.int x7)) h1)) else gR scr h1 l0 3 0 (fun x3 : Nat => vI scr d 71 [.ref x3, .int 59] h1 (fun (x5 : Int32) (h4 : aH) => E scr false (d + 1) 19 18 [.ref l0, .int x5, .int (l2 + 1)] [] h4 K)))))) := go (w := (19, [.ref l0, .int l1, .int l2], [.int l1], h)) r19_18 rfl rfl (E_i1_eq r19_19 rfl (rfl) (go (w := (23, [.ref l0, .int l1, .int l2], [.int l2], h)) r19_22 rfl rfl (E_sip r19_23 (v := 400) (by decide) (E_i2_ge r19_26 rfl (rfl) (go (w := (30, [.ref l0, .int l1, .int l2], [.ref l0], h)) r19_29 rfl rfl (E_vI r19_30 (As := [.ref l0]) (rest := []) (cut_n mi20.1 rfl rfl) (rm8_n mi20.2.1 (Nat.le_of_ble_eq_true rfl) (Nat.le_of_ble_eq_true rfl)) mi20.2.2 (fun x2 h1 => E_i1_ne r19_33 rfl (go (w := (45, [.ref l0, .int l1, .int l2], [.ref l0], h1)) r19_44 rfl rfl (E_gR r19_45 rfl (fun x3 => E_bip r19_48 (v := 59) (by decide) (E_vI r19_50 (As := [.ref x3, .int 59]) (rest := []) (cut_n mi71.1 rfl rfl) (rm8_n mi71.2.1 (Nat.le_of_ble_eq_true rfl) (Nat.le_of_ble_eq_true rfl)) mi71.2.2 (fun x5 h4 => go (w := (54, [.ref l0, .int x5, .int l2], [], h4)) r19_53 rfl rfl (E_inc r19_54 (c := 1) rfl (by decide) (L' := [.ref l0, .int x5, .int (l2 + 1)]) rfl (E_gt r19_57 rfl (rfl)))))))) (go (w := (37, [.ref l0, .int l1, .int l2], [.ref l0], h1)) r19_36 rfl rfl (E_gR r19_37 rfl (fun x6 => E_gI r19_40 rfl (fun x7 => E_ri r19_43 (mq19))))))))))))
theorem b19_60 (d : Nat) (l0 : Nat) (l1 : Int32) (l2 : Int32) (h : aH) (K : Option Value → aH → Prop) : E scr false (d + 1) 19 60 [.ref l0, .int l1, .int l2] [] h K = gR scr h l0 3 0 (fun x1 : Nat => vI scr d 76 [.ref x1] h (fun (x3 : Int32) (h2 : aH) => (if x3 = 0 then gR scr h2 l0 3 0 (fun x4 : Nat => gI scr h2 x4 6 3 (fun x5 : Int32 => K (some (.int x5)) h2)) else K (some (.int 0)) h2))) := go (w := (61, [.ref l0, .int l1, .int l2], [.ref l0], h)) r19_60 rfl rfl (E_gR r19_61 rfl (fun x1 => E_vI r19_64 (As := [.ref x1]) (rest := []) (cut_n mi76.1 rfl rfl) (rm8_n mi76.2.1 (Nat.le_of_ble_eq_true rfl) (Nat.le_of_ble_eq_true rfl)) mi76.2.2 (fun x3 h2 => E_i1_eq r19_67 rfl (go (w := (75, [.ref l0, .int l1, .int l2], [.ref l0], h2)) r19_74 rfl rfl (E_gR r19_75 rfl (fun x4 => E_gI r19_78 rfl (fun x5 => E_ri r19_81 (mq19))))) (E_ic r19_70 (v := 0) (by decide) (E_gt r19_71 rfl (E_ri r19_81 (mq19)))))))
-- 20 SecondNearest$PlainReader.takeClause()Z
theorem mq20 : mRet 20 = (some .boolean) := by decide +kernel
theorem r20_0 : rowAt 20 0 = some (.aload_n 0, 1, 0, 0) := by decide +kernel
theorem r20_1 : rowAt 20 1 = some (.getfield 9, 3, 3, 0) := by decide +kernel
theorem r20_4 : rowAt 20 4 = some (.invokevirtual 44, 3, 69, 0) := by decide +kernel
theorem r20_7 : rowAt 20 7 = some (.istore_n 1, 1, 0, 0) := by decide +kernel
theorem r20_8 : rowAt 20 8 = some (.aload_n 0, 1, 0, 0) := by decide +kernel
theorem r20_9 : rowAt 20 9 = some (.getfield 9, 3, 3, 0) := by decide +kernel
theorem r20_12 : rowAt 20 12 = some (.ldc 48, 2, 0, 1) := by decide +kernel
theorem r20_14 : rowAt 20 14 = some (.invokevirtual 50, 3, 72, 0) := by decide +kernel
theorem r20_17 : rowAt 20 17 = some (.tableswitch 45 0 2 #[27, 33, 39], 27, 0, 0) := by decide +kernel
theorem r20_44 : rowAt 20 44 = some (.aload_n 0, 1, 0, 0) := by decide +kernel
theorem r20_45 : rowAt 20 45 = some (.iload_n 1, 1, 0, 0) := by decide +kernel
theorem r20_46 : rowAt 20 46 = some (.invokevirtual 54, 3, 21, 0) := by decide +kernel
theorem r20_49 : rowAt 20 49 = some (.ireturn, 1, 0, 0) := by decide +kernel
theorem r20_50 : rowAt 20 50 = some (.aload_n 0, 1, 0, 0) := by decide +kernel
theorem r20_51 : rowAt 20 51 = some (.iload_n 1, 1, 0, 0) := by decide +kernel
theorem r20_52 : rowAt 20 52 = some (.invokevirtual 58, 3, 22, 0) := by decide +kernel
theorem r20_55 : rowAt 20 55 = some (.ireturn, 1, 0, 0) := by decide +kernel
theorem r20_56 : rowAt 20 56 = some (.aload_n 0, 1, 0, 0) := by decide +kernel
theorem r20_57 : rowAt 20 57 = some (.iload_n 1, 1, 0, 0) := by decide +kernel
theorem r20_58 : rowAt 20 58 = some (.invokevirtual 61, 3, 23, 0) := by decide +kernel
theorem r20_61 : rowAt 20 61 = some (.ireturn, 1, 0, 0) := by decide +kernel
theorem r20_62 : rowAt 20 62 = some (.aload_n 0, 1, 0, 0) := by decide +kernel
theorem r20_63 : rowAt 20 63 = some (.getfield 9, 3, 3, 0) := by decide +kernel
theorem r20_66 : rowAt 20 66 = some (.iload_n 1, 1, 0, 0) := by decide +kernel
theorem r20_67 : rowAt 20 67 = some (.iconst 0, 1, 0, 0) := by decide +kernel
theorem r20_68 : rowAt 20 68 = some (.invokevirtual 64, 3, 70, 0) := by decide +kernel
theorem r20_71 : rowAt 20 71 = some (.ireturn, 1, 0, 0) := by decide +kernel
theorem en20 (a0 : Nat) : iniL 20 [.ref a0] = [.ref a0, .null] := ini_n mi20 rfl
theorem b20_0 (d : Nat) (l0 : Nat) (h : aH) (K : Option Value → aH → Prop) : E scr false (d + 1) 20 0 [.ref l0, .null] [] h K = gR scr h l0 3 0 (fun x1 : Nat => vI scr d 69 [.ref x1] h (fun (x3 : Int32) (h2 : aH) => gR scr h2 l0 3 0 (fun x4 : Nat => vI scr d 72 [.ref x4, .ref 20000] h2 (fun (x6 : Int32) (h5 : aH) => (if x6 = 0 then E scr false (d + 1) 20 44 [.ref l0, .int x3] [] h5 K else (if x6 = 1 then E scr false (d + 1) 20 50 [.ref l0, .int x3] [] h5 K else (if x6 = 2 then E scr false (d + 1) 20 56 [.ref l0, .int x3] [] h5 K else E scr false (d + 1) 20 62 [.ref l0, .int x3] [] h5 K))))))) := go (w := (1, [.ref l0, .null], [.ref l0], h)) r20_0 rfl rfl (E_gR r20_1 rfl (fun x1 => E_vI r20_4 (As := [.ref x1]) (rest := []) (cut_n mi69.1 rfl rfl) (rm8_n mi69.2.1 (Nat.le_of_ble_eq_true rfl) (Nat.le_of_ble_eq_true rfl)) mi69.2.2 (fun x3 h2 => go (w := (8, [.ref l0, .int x3], [], h2)) r20_7 rfl rfl (go (w := (9, [.ref l0, .int x3], [.ref l0], h2)) r20_8 rfl rfl (E_gR r20_9 rfl (fun x4 => E_lds r20_12 (v := 20000) rfl (E_vI r20_14 (As := [.ref x4, .ref 20000]) (rest := []) (cut_n mi72.1 rfl rfl) (rm8_n mi72.2.1 (Nat.le_of_ble_eq_true rfl) (Nat.le_of_ble_eq_true rfl)) mi72.2.2 (fun x6 h5 => E_tab (pc := 17) [(0, 44), (1, 50), (2, 56)] 62 r20_17 (by decide +kernel) (by decide +kernel) (by decide +kernel)))))))))
theorem b20_44 (d : Nat) (l0 : Nat) (l1 : Int32) (h : aH) (K : Option Value → aH → Prop) : E scr false (d + 1) 20 44 [.ref l0, .int l1] [] h K = vI scr d 21 [.ref l0, .int l1] h (fun (x2 : Int32) (h1 : aH) => (x2 &&& 1 = x2 ∧ K (some (.int x2)) h1)) := go (w := (45, [.ref l0, .int l1], [.ref l0], h)) r20_44 rfl rfl (go (w := (46, [.ref l0, .int l1], [.int l1, .ref l0], h)) r20_45 rfl rfl (E_vI r20_46 (As := [.ref l0, .int l1]) (rest := []) (cut_n mi21.1 rfl rfl) (rm8_n mi21.2.1 (Nat.le_of_ble_eq_true rfl) (Nat.le_of_ble_eq_true rfl)) mi21.2.2 (fun x2 h1 => E_zret r20_49 (mq20))))
theorem b20_50 (d : Nat) (l0 : Nat) (l1 : Int32) (h : aH) (K : Option Value → aH → Prop) : E scr false (d + 1) 20 50 [.ref l0, .int l1] [] h K = vI scr d 22 [.ref l0, .int l1] h (fun (x2 : Int32) (h1 : aH) => (x2 &&& 1 = x2 ∧ K (some (.int x2)) h1)) := go (w := (51, [.ref l0, .int l1], [.ref l0], h)) r20_50 rfl rfl (go (w := (52, [.ref l0, .int l1], [.int l1, .ref l0], h)) r20_51 rfl rfl (E_vI r20_52 (As := [.ref l0, .int l1]) (rest := []) (cut_n mi22.1 rfl rfl) (rm8_n mi22.2.1 (Nat.le_of_ble_eq_true rfl) (Nat.le_of_ble_eq_true rfl)) mi22.2.2 (fun x2 h1 => E_zret r20_55 (mq20))))
theorem b20_56 (d : Nat) (l0 : Nat) (l1 : Int32) (h : aH) (K : Option Value → aH → Prop) : E scr false (d + 1) 20 56 [.ref l0, .int l1] [] h K = vI scr d 23 [.ref l0, .int l1] h (fun (x2 : Int32) (h1 : aH) => (x2 &&& 1 = x2 ∧ K (some (.int x2)) h1)) := go (w := (57, [.ref l0, .int l1], [.ref l0], h)) r20_56 rfl rfl (go (w := (58, [.ref l0, .int l1], [.int l1, .ref l0], h)) r20_57 rfl rfl (E_vI r20_58 (As := [.ref l0, .int l1]) (rest := []) (cut_n mi23.1 rfl rfl) (rm8_n mi23.2.1 (Nat.le_of_ble_eq_true rfl) (Nat.le_of_ble_eq_true rfl)) mi23.2.2 (fun x2 h1 => E_zret r20_61 (mq20))))
theorem b20_62 (d : Nat) (l0 : Nat) (l1 : Int32) (h : aH) (K : Option Value → aH → Prop) : E scr false (d + 1) 20 62 [.ref l0, .int l1] [] h K = gR scr h l0 3 0 (fun x1 : Nat => vI scr d 70 [.ref x1, .int l1, .int 0] h (fun (x3 : Int32) (h2 : aH) => (x3 &&& 1 = x3 ∧ K (some (.int x3)) h2))) := go (w := (63, [.ref l0, .int l1], [.ref l0], h)) r20_62 rfl rfl (E_gR r20_63 rfl (fun x1 => go (w := (67, [.ref l0, .int l1], [.int l1, .ref x1], h)) r20_66 rfl rfl (E_ic r20_67 (v := 0) (by decide) (E_vI r20_68 (As := [.ref x1, .int l1, .int 0]) (rest := []) (cut_n mi70.1 rfl rfl) (rm8_n mi70.2.1 (Nat.le_of_ble_eq_true rfl) (Nat.le_of_ble_eq_true rfl)) mi70.2.2 (fun x3 h2 => E_zret r20_71 (mq20))))))
-- 21 SecondNearest$PlainReader.takeRow(I)Z
theorem mq21 : mRet 21 = (some .boolean) := by decide +kernel
theorem r21_0 : rowAt 21 0 = some (.aload_n 0, 1, 0, 0) := by decide +kernel
theorem r21_1 : rowAt 21 1 = some (.getfield 15, 3, 3, 1) := by decide +kernel
theorem r21_4 : rowAt 21 4 = some (.getfield 68, 3, 5, 1) := by decide +kernel
theorem r21_7 : rowAt 21 7 = some (.bipush 12, 2, 0, 0) := by decide +kernel
theorem r21_9 : rowAt 21 9 = some (.if_icmp .ge 21, 3, 0, 0) := by decide +kernel
theorem r21_12 : rowAt 21 12 = some (.aload_n 0, 1, 0, 0) := by decide +kernel
theorem r21_13 : rowAt 21 13 = some (.getfield 15, 3, 3, 1) := by decide +kernel
theorem r21_16 : rowAt 21 16 = some (.getfield 71, 3, 5, 3) := by decide +kernel
theorem r21_19 : rowAt 21 19 = some (.aload_n 0, 1, 0, 0) := by decide +kernel
theorem r21_20 : rowAt 21 20 = some (.getfield 15, 3, 3, 1) := by decide +kernel
theorem r21_23 : rowAt 21 23 = some (.getfield 74, 3, 5, 4) := by decide +kernel
theorem r21_26 : rowAt 21 26 = some (.iadd, 1, 0, 0) := by decide +kernel
theorem r21_27 : rowAt 21 27 = some (.ifCond .le 13, 3, 0, 0) := by decide +kernel
theorem r21_30 : rowAt 21 30 = some (.aload_n 0, 1, 0, 0) := by decide +kernel
theorem r21_31 : rowAt 21 31 = some (.getfield 9, 3, 3, 0) := by decide +kernel
theorem r21_34 : rowAt 21 34 = some (.iload_n 1, 1, 0, 0) := by decide +kernel
theorem r21_35 : rowAt 21 35 = some (.iconst 4, 1, 0, 0) := by decide +kernel
theorem r21_36 : rowAt 21 36 = some (.invokevirtual 64, 3, 70, 0) := by decide +kernel
theorem r21_39 : rowAt 21 39 = some (.ireturn, 1, 0, 0) := by decide +kernel
theorem r21_40 : rowAt 21 40 = some (.aload_n 0, 1, 0, 0) := by decide +kernel
theorem r21_41 : rowAt 21 41 = some (.getfield 9, 3, 3, 0) := by decide +kernel
theorem r21_44 : rowAt 21 44 = some (.invokevirtual 44, 3, 69, 0) := by decide +kernel
theorem r21_47 : rowAt 21 47 = some (.istore_n 2, 1, 0, 0) := by decide +kernel
theorem r21_48 : rowAt 21 48 = some (.iconst 0, 1, 0, 0) := by decide +kernel
theorem r21_49 : rowAt 21 49 = some (.istore_n 3, 1, 0, 0) := by decide +kernel
theorem r21_50 : rowAt 21 50 = some (.iload_n 3, 1, 0, 0) := by decide +kernel
theorem r21_51 : rowAt 21 51 = some (.bipush 12, 2, 0, 0) := by decide +kernel
theorem r21_53 : rowAt 21 53 = some (.if_icmp .gt 110, 3, 0, 0) := by decide +kernel
theorem r21_56 : rowAt 21 56 = some (.aload_n 0, 1, 0, 0) := by decide +kernel
theorem r21_57 : rowAt 21 57 = some (.getfield 9, 3, 3, 0) := by decide +kernel
theorem r21_60 : rowAt 21 60 = some (.invokevirtual 77, 3, 68, 0) := by decide +kernel
theorem r21_63 : rowAt 21 63 = some (.invokestatic 80, 3, 25, 1) := by decide +kernel
theorem r21_66 : rowAt 21 66 = some (.istore 4, 2, 0, 0) := by decide +kernel
theorem r21_68 : rowAt 21 68 = some (.iload 4, 2, 0, 0) := by decide +kernel
theorem r21_70 : rowAt 21 70 = some (.ifCond .ge 6, 3, 0, 0) := by decide +kernel
theorem r21_73 : rowAt 21 73 = some (.goto 90, 3, 0, 0) := by decide +kernel
theorem r21_76 : rowAt 21 76 = some (.iload_n 3, 1, 0, 0) := by decide +kernel
theorem r21_77 : rowAt 21 77 = some (.bipush 12, 2, 0, 0) := by decide +kernel
theorem r21_79 : rowAt 21 79 = some (.if_icmp .ne 19, 3, 0, 0) := by decide +kernel
theorem r21_82 : rowAt 21 82 = some (.aload_n 0, 1, 0, 0) := by decide +kernel
theorem r21_83 : rowAt 21 83 = some (.getfield 9, 3, 3, 0) := by decide +kernel
theorem r21_86 : rowAt 21 86 = some (.aload_n 0, 1, 0, 0) := by decide +kernel
theorem r21_87 : rowAt 21 87 = some (.getfield 9, 3, 3, 0) := by decide +kernel
theorem r21_90 : rowAt 21 90 = some (.getfield 84, 3, 6, 2) := by decide +kernel
theorem r21_93 : rowAt 21 93 = some (.iconst 5, 1, 0, 0) := by decide +kernel
theorem r21_94 : rowAt 21 94 = some (.invokevirtual 64, 3, 70, 0) := by decide +kernel
theorem r21_97 : rowAt 21 97 = some (.ireturn, 1, 0, 0) := by decide +kernel
theorem r21_98 : rowAt 21 98 = some (.aload_n 0, 1, 0, 0) := by decide +kernel
theorem r21_99 : rowAt 21 99 = some (.getfield 15, 3, 3, 1) := by decide +kernel
theorem r21_102 : rowAt 21 102 = some (.getfield 87, 3, 5, 8) := by decide +kernel
theorem r21_105 : rowAt 21 105 = some (.bipush 12, 2, 0, 0) := by decide +kernel
theorem r21_107 : rowAt 21 107 = some (.aload_n 0, 1, 0, 0) := by decide +kernel
theorem r21_108 : rowAt 21 108 = some (.getfield 15, 3, 3, 1) := by decide +kernel
theorem r21_111 : rowAt 21 111 = some (.getfield 68, 3, 5, 1) := by decide +kernel
theorem r21_114 : rowAt 21 114 = some (.imul, 1, 0, 0) := by decide +kernel
theorem r21_115 : rowAt 21 115 = some (.iload_n 3, 1, 0, 0) := by decide +kernel
theorem r21_116 : rowAt 21 116 = some (.iadd, 1, 0, 0) := by decide +kernel
theorem r21_117 : rowAt 21 117 = some (.iload 4, 2, 0, 0) := by decide +kernel
theorem r21_119 : rowAt 21 119 = some (.i2b, 1, 0, 0) := by decide +kernel
theorem r21_120 : rowAt 21 120 = some (.bastore, 1, 0, 0) := by decide +kernel
theorem r21_121 : rowAt 21 121 = some (.aload_n 0, 1, 0, 0) := by decide +kernel
theorem r21_122 : rowAt 21 122 = some (.getfield 15, 3, 3, 1) := by decide +kernel
theorem r21_125 : rowAt 21 125 = some (.dup, 1, 0, 0) := by decide +kernel
theorem r21_126 : rowAt 21 126 = some (.getfield 91, 3, 5, 2) := by decide +kernel
theorem r21_129 : rowAt 21 129 = some (.iload 4, 2, 0, 0) := by decide +kernel
theorem r21_131 : rowAt 21 131 = some (.iconst 3, 1, 0, 0) := by decide +kernel
theorem r21_132 : rowAt 21 132 = some (.if_icmp .ne 7, 3, 0, 0) := by decide +kernel
theorem r21_135 : rowAt 21 135 = some (.iconst 1, 1, 0, 0) := by decide +kernel
theorem r21_136 : rowAt 21 136 = some (.goto 4, 3, 0, 0) := by decide +kernel
theorem r21_139 : rowAt 21 139 = some (.iconst 0, 1, 0, 0) := by decide +kernel
theorem r21_140 : rowAt 21 140 = some (.iadd, 1, 0, 0) := by decide +kernel
theorem r21_141 : rowAt 21 141 = some (.putfield 91, 3, 5, 2) := by decide +kernel
theorem r21_144 : rowAt 21 144 = some (.aload_n 0, 1, 0, 0) := by decide +kernel
theorem r21_145 : rowAt 21 145 = some (.getfield 9, 3, 3, 0) := by decide +kernel
theorem r21_148 : rowAt 21 148 = some (.dup, 1, 0, 0) := by decide +kernel
theorem r21_149 : rowAt 21 149 = some (.getfield 84, 3, 6, 2) := by decide +kernel
theorem r21_152 : rowAt 21 152 = some (.iconst 1, 1, 0, 0) := by decide +kernel
theorem r21_153 : rowAt 21 153 = some (.iadd, 1, 0, 0) := by decide +kernel
theorem r21_154 : rowAt 21 154 = some (.putfield 84, 3, 6, 2) := by decide +kernel
theorem r21_157 : rowAt 21 157 = some (.iinc 3 1, 3, 0, 0) := by decide +kernel
theorem r21_160 : rowAt 21 160 = some (.goto (-110), 3, 0, 0) := by decide +kernel
theorem r21_163 : rowAt 21 163 = some (.aload_n 0, 1, 0, 0) := by decide +kernel
theorem r21_164 : rowAt 21 164 = some (.getfield 9, 3, 3, 0) := by decide +kernel
theorem r21_167 : rowAt 21 167 = some (.getfield 84, 3, 6, 2) := by decide +kernel
theorem r21_170 : rowAt 21 170 = some (.iload_n 2, 1, 0, 0) := by decide +kernel
theorem r21_171 : rowAt 21 171 = some (.isub, 1, 0, 0) := by decide +kernel
theorem r21_172 : rowAt 21 172 = some (.istore_n 3, 1, 0, 0) := by decide +kernel
theorem r21_173 : rowAt 21 173 = some (.iload_n 3, 1, 0, 0) := by decide +kernel
theorem r21_174 : rowAt 21 174 = some (.ifCond .ne 13, 3, 0, 0) := by decide +kernel
theorem r21_177 : rowAt 21 177 = some (.aload_n 0, 1, 0, 0) := by decide +kernel
theorem r21_178 : rowAt 21 178 = some (.getfield 9, 3, 3, 0) := by decide +kernel
theorem r21_181 : rowAt 21 181 = some (.iload_n 2, 1, 0, 0) := by decide +kernel
theorem r21_182 : rowAt 21 182 = some (.iconst 0, 1, 0, 0) := by decide +kernel
theorem r21_183 : rowAt 21 183 = some (.invokevirtual 64, 3, 70, 0) := by decide +kernel
theorem r21_186 : rowAt 21 186 = some (.ireturn, 1, 0, 0) := by decide +kernel
theorem r21_187 : rowAt 21 187 = some (.aload_n 0, 1, 0, 0) := by decide +kernel
theorem r21_188 : rowAt 21 188 = some (.getfield 15, 3, 3, 1) := by decide +kernel
theorem r21_191 : rowAt 21 191 = some (.getfield 68, 3, 5, 1) := by decide +kernel
theorem r21_194 : rowAt 21 194 = some (.ifCond .le 32, 3, 0, 0) := by decide +kernel
theorem r21_197 : rowAt 21 197 = some (.iload_n 3, 1, 0, 0) := by decide +kernel
theorem r21_198 : rowAt 21 198 = some (.aload_n 0, 1, 0, 0) := by decide +kernel
theorem r21_199 : rowAt 21 199 = some (.getfield 15, 3, 3, 1) := by decide +kernel
theorem r21_202 : rowAt 21 202 = some (.getfield 94, 3, 5, 0) := by decide +kernel
theorem r21_205 : rowAt 21 205 = some (.if_icmp .eq 21, 3, 0, 0) := by decide +kernel
theorem r21_208 : rowAt 21 208 = some (.aload_n 0, 1, 0, 0) := by decide +kernel
theorem r21_209 : rowAt 21 209 = some (.getfield 9, 3, 3, 0) := by decide +kernel
theorem r21_212 : rowAt 21 212 = some (.aload_n 0, 1, 0, 0) := by decide +kernel
theorem r21_213 : rowAt 21 213 = some (.getfield 9, 3, 3, 0) := by decide +kernel
theorem r21_216 : rowAt 21 216 = some (.getfield 84, 3, 6, 2) := by decide +kernel
theorem r21_219 : rowAt 21 219 = some (.iconst 1, 1, 0, 0) := by decide +kernel
theorem r21_220 : rowAt 21 220 = some (.isub, 1, 0, 0) := by decide +kernel
theorem r21_221 : rowAt 21 221 = some (.iconst 5, 1, 0, 0) := by decide +kernel
theorem r21_222 : rowAt 21 222 = some (.invokevirtual 64, 3, 70, 0) := by decide +kernel
theorem r21_225 : rowAt 21 225 = some (.ireturn, 1, 0, 0) := by decide +kernel
theorem r21_226 : rowAt 21 226 = some (.aload_n 0, 1, 0, 0) := by decide +kernel
theorem r21_227 : rowAt 21 227 = some (.getfield 15, 3, 3, 1) := by decide +kernel
theorem r21_230 : rowAt 21 230 = some (.iload_n 3, 1, 0, 0) := by decide +kernel
theorem r21_231 : rowAt 21 231 = some (.putfield 94, 3, 5, 0) := by decide +kernel
theorem r21_234 : rowAt 21 234 = some (.aload_n 0, 1, 0, 0) := by decide +kernel
theorem r21_235 : rowAt 21 235 = some (.getfield 15, 3, 3, 1) := by decide +kernel
theorem r21_238 : rowAt 21 238 = some (.dup, 1, 0, 0) := by decide +kernel
theorem r21_239 : rowAt 21 239 = some (.getfield 68, 3, 5, 1) := by decide +kernel
theorem r21_242 : rowAt 21 242 = some (.iconst 1, 1, 0, 0) := by decide +kernel
theorem r21_243 : rowAt 21 243 = some (.iadd, 1, 0, 0) := by decide +kernel
theorem r21_244 : rowAt 21 244 = some (.putfield 68, 3, 5, 1) := by decide +kernel
theorem r21_247 : rowAt 21 247 = some (.iconst 1, 1, 0, 0) := by decide +kernel
theorem r21_248 : rowAt 21 248 = some (.ireturn, 1, 0, 0) := by decide +kernel
theorem en21 (a0 : Nat) (a1 : Int32) : iniL 21 [.ref a0, .int a1] = [.ref a0, .int a1, .null, .null, .null] := ini_n mi21 rfl
theorem b21_0 (d : Nat) (l0 : Nat) (l1 : Int32) (h : aH) (K : Option Value → aH → Prop) : E scr false (d + 1) 21 0 [.ref l0, .int l1, .null, .null, .null] [] h K = gR scr h l0 3 1 (fun x1 : Nat => gI scr h x1 5 1 (fun x2 : Int32 => (if 12 ≤ x2 then E scr false (d + 1) 21 30 [.ref l0, .int l1, .null, .null, .null] [] h K else gR scr h l0 3 1 (fun x3 : Nat => gI scr h x3 5 3 (fun x4 : Int32 => gR scr h l0 3 1 (fun x5 : Nat => gI scr h x5 5 4 (fun x6 : Int32 => (if (x4 + x6) ≤ 0 then gR scr h l0 3 0 (fun x7 : Nat => vI scr d 69 [.ref x7] h (fun (x9 : Int32) (h8 : aH) => E scr false (d + 1) 21 50 [.ref l0, .int l1, .int x9, .int 0, .null] [] h8 K)) else E scr false (d + 1) 21 30 [.ref l0, .int l1, .null, .null, .null] [] h K)))))))) := go (w := (1, [.ref l0, .int l1, .null, .null, .null], [.ref l0], h)) r21_0 rfl rfl (E_gR r21_1 rfl (fun x1 => E_gI r21_4 rfl (fun x2 => E_bip r21_7 (v := 12) (by decide) (E_i2_ge r21_9 rfl (rfl) (go (w := (13, [.ref l0, .int l1, .null, .null, .null], [.ref l0], h)) r21_12 rfl rfl (E_gR r21_13 rfl (fun x3 => E_gI r21_16 rfl (fun x4 => go (w := (20, [.ref l0, .int l1, .null, .null, .null], [.ref l0, .int x4], h)) r21_19 rfl rfl (E_gR r21_20 rfl (fun x5 => E_gI r21_23 rfl (fun x6 => go (w := (27, [.ref l0, .int l1, .null, .null, .null], [.int (x4 + x6)], h)) r21_26 rfl rfl (E_i1_le r21_27 rfl (go (w := (41, [.ref l0, .int l1, .null, .null, .null], [.ref l0], h)) r21_40 rfl rfl (E_gR r21_41 rfl (fun x7 => E_vI r21_44 (As := [.ref x7]) (rest := []) (cut_n mi69.1 rfl rfl) (rm8_n mi69.2.1 (Nat.le_of_ble_eq_true rfl) (Nat.le_of_ble_eq_true rfl)) mi69.2.2 (fun x9 h8 => go (w := (48, [.ref l0, .int l1, .int x9, .null, .null], [], h8)) r21_47 rfl rfl (E_ic r21_48 (v := 0) (by decide) (go (w := (50, [.ref l0, .int l1, .int x9, .int 0, .null], [], h8)) r21_49 rfl rfl (rfl))))))) (rfl)))))))))))))
theorem b21_30 (d : Nat) (l0 : Nat) (l1 : Int32) (h : aH) (K : Option Value → aH → Prop) : E scr false (d + 1) 21 30 [.ref l0, .int l1, .null, .null, .null] [] h K = gR scr h l0 3 0 (fun x1 : Nat => vI scr d 70 [.ref x1, .int l1, .int 4] h (fun (x3 : Int32) (h2 : aH) => (x3 &&& 1 = x3 ∧ K (some (.int x3)) h2))) := go (w := (31, [.ref l0, .int l1, .null, .null, .null], [.ref l0], h)) r21_30 rfl rfl (E_gR r21_31 rfl (fun x1 => go (w := (35, [.ref l0, .int l1, .null, .null, .null], [.int l1, .ref x1], h)) r21_34 rfl rfl (E_ic r21_35 (v := 4) (by decide) (E_vI r21_36 (As := [.ref x1, .int l1, .int 4]) (rest := []) (cut_n mi70.1 rfl rfl) (rm8_n mi70.2.1 (Nat.le_of_ble_eq_true rfl) (Nat.le_of_ble_eq_true rfl)) mi70.2.2 (fun x3 h2 => E_zret r21_39 (mq21))))))
theorem b21_50 (d : Nat) (l0 : Nat) (l1 : Int32) (l2 : Int32) (l3 : Int32) (l4 : Value) (h : aH) (K : Option Value → aH → Prop) : E scr false (d + 1) 21 50 [.ref l0, .int l1, .int l2, .int l3, l4] [] h K = (if 12 < l3 then E scr false (d + 1) 21 163 [.ref l0, .int l1, .int l2, .int l3, l4] [] h K else gR scr h l0 3 0 (fun x1 : Nat => vI scr d 68 [.ref x1] h (fun (x3 : Int32) (h2 : aH) => sI scr d 25 [.int x3] h2 (fun (x5 : Int32) (h4 : aH) => (if 0 ≤ x5 then (if l3 = 12 then gR scr h4 l0 3 0 (fun x13 : Nat => gR scr h4 l0 3 0 (fun x14 : Nat => gI scr h4 x14 6 2 (fun x15 : Int32 => vI scr d 70 [.ref x13, .int x15, .int 5] h4 (fun (x17 : Int32) (h16 : aH) => (x17 &&& 1 = x17 ∧ K (some (.int x17)) h16))))) else gR scr h4 l0 3 1 (fun x6 : Nat => gR scr h4 x6 5 8 (fun x7 : Nat => gR scr h4 l0 3 1 (fun x8 : Nat => gI scr h4 x8 5 1 (fun x9 : Int32 => wB h4 x7 (((12 * x9) + l3)) ((Int8.toInt32 (Int32.toInt8 x5))) (fun h10 : aH => gR scr h10 l0 3 1 (fun x11 : Nat => gI scr h10 x11 5 2 (fun x12 : Int32 => (if x5 = 3 then E scr false (d + 1) 21 140 [.ref l0, .int l1, .int l2, .int l3, .int x5] [.int 1, .int x12, .ref x11] h10 K else E scr false (d + 1) 21 140 [.ref l0, .int l1, .int l2, .int l3, .int x5] [.int 0, .int x12, .ref x11] h10 K))))))))) else E scr false (d + 1) 21 163 [.ref l0, .int l1, .int l2, .int l3, .int x5] [] h4 K))))) := go (w := (51, [.ref l0, .int l1, .int l2, .int l3, l4], [.int l3], h)) r21_50 rfl rfl (E_bip r21_51 (v := 12) (by decide) (E_i2_gt r21_53 rfl (rfl) (go (w := (57, [.ref l0, .int l1, .int l2, .int l3, l4], [.ref l0], h)) r21_56 rfl rfl (E_gR r21_57 rfl (fun x1 => E_vI r21_60 (As := [.ref x1]) (rest := []) (cut_n mi68.1 rfl rfl) (rm8_n mi68.2.1 (Nat.le_of_ble_eq_true rfl) (Nat.le_of_ble_eq_true rfl)) mi68.2.2 (fun x3 h2 => E_sI r21_63 (As := [.int x3]) (rest := []) (cut_n mi25.1 rfl rfl) (rm8_n mi25.2.1 (Nat.le_of_ble_eq_true rfl) (Nat.le_of_ble_eq_true rfl)) mi25.2.2 (fun x5 h4 => go (w := (68, [.ref l0, .int l1, .int l2, .int l3, .int x5], [], h4)) r21_66 rfl rfl (go (w := (70, [.ref l0, .int l1, .int l2, .int l3, .int x5], [.int x5], h4)) r21_68 rfl rfl (E_i1_ge r21_70 rfl (go (w := (77, [.ref l0, .int l1, .int l2, .int l3, .int x5], [.int l3], h4)) r21_76 rfl rfl (E_bip r21_77 (v := 12) (by decide) (E_i2_ne r21_79 rfl (go (w := (99, [.ref l0, .int l1, .int l2, .int l3, .int x5], [.ref l0], h4)) r21_98 rfl rfl (E_gR r21_99 rfl (fun x6 => E_gR r21_102 rfl (fun x7 => E_bip r21_105 (v := 12) (by decide) (go (w := (108, [.ref l0, .int l1, .int l2, .int l3, .int x5], [.ref l0, .int 12, .ref x7], h4)) r21_107 rfl rfl (E_gR r21_108 rfl (fun x8 => E_gI r21_111 rfl (fun x9 => go (w := (115, [.ref l0, .int l1, .int l2, .int l3, .int x5], [.int (12 * x9), .ref x7], h4)) r21_114 rfl rfl (go (w := (116, [.ref l0, .int l1, .int l2, .int l3, .int x5], [.int l3, .int (12 * x9), .ref x7], h4)) r21_115 rfl rfl (go (w := (117, [.ref l0, .int l1, .int l2, .int l3, .int x5], [.int ((12 * x9) + l3), .ref x7], h4)) r21_116 rfl rfl (go (w := (119, [.ref l0, .int l1, .int l2, .int l3, .int x5], [.int x5, .int ((12 * x9) + l3), .ref x7], h4)) r21_117 rfl rfl (go (w := (120, [.ref l0, .int l1, .int l2, .int l3, .int x5], [.int (Int8.toInt32 (Int32.toInt8 x5)), .int ((12 * x9) + l3), .ref x7], h4)) r21_119 rfl rfl (E_wB r21_120 (fun h10 => go (w := (122, [.ref l0, .int l1, .int l2, .int l3, .int x5], [.ref l0], h10)) r21_121 rfl rfl (E_gR r21_122 rfl (fun x11 => go (w := (126, [.ref l0, .int l1, .int l2, .int l3, .int x5], [.ref x11, .ref x11], h10)) r21_125 rfl rfl (E_gI r21_126 rfl (fun x12 => go (w := (131, [.ref l0, .int l1, .int l2, .int l3, .int x5], [.int x5, .int x12, .ref x11], h10)) r21_129 rfl rfl (E_ic r21_131 (v := 3) (by decide) (E_i2_ne r21_132 rfl (E_ic r21_139 (v := 0) (by decide) (rfl)) (E_ic r21_135 (v := 1) (by decide) (E_gt r21_136 rfl (rfl))))))))))))))))))))))) (go (w := (83, [.ref l0, .int l1, .int l2, .int l3, .int x5], [.ref l0], h4)) r21_82 rfl rfl (E_gR r21_83 rfl (fun x13 => go (w := (87, [.ref l0, .int l1, .int l2, .int l3, .int x5], [.ref l0, .ref x13], h4)) r21_86 rfl rfl (E_gR r21_87 rfl (fun x14 => E_gI r21_90 rfl (fun x15 => E_ic r21_93 (v := 5) (by decide) (E_vI r21_94 (As := [.ref x13, .int x15, .int 5]) (rest := []) (cut_n mi70.1 rfl rfl) (rm8_n mi70.2.1 (Nat.le_of_ble_eq_true rfl) (Nat.le_of_ble_eq_true rfl)) mi70.2.2 (fun x17 h16 => E_zret r21_97 (mq21)))))))))))) (E_gt r21_73 rfl (rfl)))))))))))
theorem b21_140 (d : Nat) (l0 : Nat) (l1 : Int32) (l2 : Int32) (l3 : Int32) (l4 : Int32) (s0 : Int32) (s1 : Int32) (s2 : Nat) (h : aH) (K : Option Value → aH → Prop) : E scr false d 21 140 [.ref l0, .int l1, .int l2, .int l3, .int l4] [.int s0, .int s1, .ref s2] h K = pF h s2 5 2 (.int (s1 + s0)) (fun h1 : aH => gR scr h1 l0 3 0 (fun x2 : Nat => gI scr h1 x2 6 2 (fun x3 : Int32 => pF h1 x2 6 2 (.int (x3 + 1)) (fun h4 : aH => E scr false d 21 50 [.ref l0, .int l1, .int l2, .int (l3 + 1), .int l4] [] h4 K)))) := go (w := (141, [.ref l0, .int l1, .int l2, .int l3, .int l4], [.int (s1 + s0), .ref s2], h)) r21_140 rfl rfl (E_pI r21_141 ⟨rfl, rfl⟩ (fun h1 => go (w := (145, [.ref l0, .int l1, .int l2, .int l3, .int l4], [.ref l0], h1)) r21_144 rfl rfl (E_gR r21_145 rfl (fun x2 => go (w := (149, [.ref l0, .int l1, .int l2, .int l3, .int l4], [.ref x2, .ref x2], h1)) r21_148 rfl rfl (E_gI r21_149 rfl (fun x3 => E_ic r21_152 (v := 1) (by decide) (go (w := (154, [.ref l0, .int l1, .int l2, .int l3, .int l4], [.int (x3 + 1), .ref x2], h1)) r21_153 rfl rfl (E_pI r21_154 ⟨rfl, rfl⟩ (fun h4 => E_inc r21_157 (c := 1) rfl (by decide) (L' := [.ref l0, .int l1, .int l2, .int (l3 + 1), .int l4]) rfl (E_gt r21_160 rfl (rfl)))))))))))
theorem b21_163 (d : Nat) (l0 : Nat) (l1 : Int32) (l2 : Int32) (l3 : Int32) (l4 : Value) (h : aH) (K : Option Value → aH → Prop) : E scr false (d + 1) 21 163 [.ref l0, .int l1, .int l2, .int l3, l4] [] h K = gR scr h l0 3 0 (fun x1 : Nat => gI scr h x1 6 2 (fun x2 : Int32 => (if (x2 - l2) = 0 then gR scr h l0 3 0 (fun x12 : Nat => vI scr d 70 [.ref x12, .int l2, .int 0] h (fun (x14 : Int32) (h13 : aH) => (x14 &&& 1 = x14 ∧ K (some (.int x14)) h13))) else gR scr h l0 3 1 (fun x3 : Nat => gI scr h x3 5 1 (fun x4 : Int32 => (if x4 ≤ 0 then E scr false (d + 1) 21 226 [.ref l0, .int l1, .int l2, .int (x2 - l2), l4] [] h K else gR scr h l0 3 1 (fun x5 : Nat => gI scr h x5 5 0 (fun x6 : Int32 => (if (x2 - l2) = x6 then E scr false (d + 1) 21 226 [.ref l0, .int l1, .int l2, .int (x2 - l2), l4] [] h K else gR scr h l0 3 0 (fun x7 : Nat => gR scr h l0 3 0 (fun x8 : Nat => gI scr h x8 6 2 (fun x9 : Int32 => vI scr d 70 [.ref x7, .int (x9 - 1), .int 5] h (fun (x11 : Int32) (h10 : aH) => (x11 &&& 1 = x11 ∧ K (some (.int x11)) h10)))))))))))))) := go (w := (164, [.ref l0, .int l1, .int l2, .int l3, l4], [.ref l0], h)) r21_163 rfl rfl (E_gR r21_164 rfl (fun x1 => E_gI r21_167 rfl (fun x2 => go (w := (171, [.ref l0, .int l1, .int l2, .int l3, l4], [.int l2, .int x2], h)) r21_170 rfl rfl (go (w := (172, [.ref l0, .int l1, .int l2, .int l3, l4], [.int (x2 - l2)], h)) r21_171 rfl rfl (go (w := (173, [.ref l0, .int l1, .int l2, .int (x2 - l2), l4], [], h)) r21_172 rfl rfl (go (w := (174, [.ref l0, .int l1, .int l2, .int (x2 - l2), l4], [.int (x2 - l2)], h)) r21_173 rfl rfl (E_i1_ne r21_174 rfl (go (w := (188, [.ref l0, .int l1, .int l2, .int (x2 - l2), l4], [.ref l0], h)) r21_187 rfl rfl (E_gR r21_188 rfl (fun x3 => E_gI r21_191 rfl (fun x4 => E_i1_le r21_194 rfl (rfl) (go (w := (198, [.ref l0, .int l1, .int l2, .int (x2 - l2), l4], [.int (x2 - l2)], h)) r21_197 rfl rfl (go (w := (199, [.ref l0, .int l1, .int l2, .int (x2 - l2), l4], [.ref l0, .int (x2 - l2)], h)) r21_198 rfl rfl (E_gR r21_199 rfl (fun x5 => E_gI r21_202 rfl (fun x6 => E_i2_eq r21_205 rfl (rfl) (go (w := (209, [.ref l0, .int l1, .int l2, .int (x2 - l2), l4], [.ref l0], h)) r21_208 rfl rfl (E_gR r21_209 rfl (fun x7 => go (w := (213, [.ref l0, .int l1, .int l2, .int (x2 - l2), l4], [.ref l0, .ref x7], h)) r21_212 rfl rfl (E_gR r21_213 rfl (fun x8 => E_gI r21_216 rfl (fun x9 => E_ic r21_219 (v := 1) (by decide) (go (w := (221, [.ref l0, .int l1, .int l2, .int (x2 - l2), l4], [.int (x9 - 1), .ref x7], h)) r21_220 rfl rfl (E_ic r21_221 (v := 5) (by decide) (E_vI r21_222 (As := [.ref x7, .int (x9 - 1), .int 5]) (rest := []) (cut_n mi70.1 rfl rfl) (rm8_n mi70.2.1 (Nat.le_of_ble_eq_true rfl) (Nat.le_of_ble_eq_true rfl)) mi70.2.2 (fun x11 h10 => E_zret r21_225 (mq21)))))))))))))))))))) (go (w := (178, [.ref l0, .int l1, .int l2, .int (x2 - l2), l4], [.ref l0], h)) r21_177 rfl rfl (E_gR r21_178 rfl (fun x12 => go (w := (182, [.ref l0, .int l1, .int l2, .int (x2 - l2), l4], [.int l2, .ref x12], h)) r21_181 rfl rfl (E_ic r21_182 (v := 0) (by decide) (E_vI r21_183 (As := [.ref x12, .int l2, .int 0]) (rest := []) (cut_n mi70.1 rfl rfl) (rm8_n mi70.2.1 (Nat.le_of_ble_eq_true rfl) (Nat.le_of_ble_eq_true rfl)) mi70.2.2 (fun x14 h13 => E_zret r21_186 (mq21))))))))))))))
theorem b21_226 (d : Nat) (l0 : Nat) (l1 : Int32) (l2 : Int32) (l3 : Int32) (l4 : Value) (h : aH) (K : Option Value → aH → Prop) : E scr false d 21 226 [.ref l0, .int l1, .int l2, .int l3, l4] [] h K = gR scr h l0 3 1 (fun x1 : Nat => pF h x1 5 0 (.int l3) (fun h2 : aH => gR scr h2 l0 3 1 (fun x3 : Nat => gI scr h2 x3 5 1 (fun x4 : Int32 => pF h2 x3 5 1 (.int (x4 + 1)) (fun h5 : aH => K (some (.int 1)) h5))))) := go (w := (227, [.ref l0, .int l1, .int l2, .int l3, l4], [.ref l0], h)) r21_226 rfl rfl (E_gR r21_227 rfl (fun x1 => go (w := (231, [.ref l0, .int l1, .int l2, .int l3, l4], [.int l3, .ref x1], h)) r21_230 rfl rfl (E_pI r21_231 ⟨rfl, rfl⟩ (fun h2 => go (w := (235, [.ref l0, .int l1, .int l2, .int l3, l4], [.ref l0], h2)) r21_234 rfl rfl (E_gR r21_235 rfl (fun x3 => go (w := (239, [.ref l0, .int l1, .int l2, .int l3, l4], [.ref x3, .ref x3], h2)) r21_238 rfl rfl (E_gI r21_239 rfl (fun x4 => E_ic r21_242 (v := 1) (by decide) (go (w := (244, [.ref l0, .int l1, .int l2, .int l3, l4], [.int (x4 + 1), .ref x3], h2)) r21_243 rfl rfl (E_pI r21_244 ⟨rfl, rfl⟩ (fun h5 => E_ic r21_247 (v := 1) (by decide) (E_rz r21_248 (mq21) (by decide)))))))))))))
-- 22 SecondNearest$PlainReader.takePerson(I)Z
theorem mq22 : mRet 22 = (some .boolean) := by decide +kernel
theorem r22_0 : rowAt 22 0 = some (.aload_n 0, 1, 0, 0) := by decide +kernel
theorem r22_1 : rowAt 22 1 = some (.getfield 15, 3, 3, 1) := by decide +kernel
theorem r22_4 : rowAt 22 4 = some (.getfield 68, 3, 5, 1) := by decide +kernel
theorem r22_7 : rowAt 22 7 = some (.ifCond .eq 15, 3, 0, 0) := by decide +kernel
theorem r22_10 : rowAt 22 10 = some (.aload_n 0, 1, 0, 0) := by decide +kernel
theorem r22_11 : rowAt 22 11 = some (.getfield 15, 3, 3, 1) := by decide +kernel
theorem r22_14 : rowAt 22 14 = some (.getfield 71, 3, 5, 3) := by decide +kernel
theorem r22_17 : rowAt 22 17 = some (.bipush 12, 2, 0, 0) := by decide +kernel
theorem r22_19 : rowAt 22 19 = some (.if_icmp .lt 13, 3, 0, 0) := by decide +kernel
theorem r22_22 : rowAt 22 22 = some (.aload_n 0, 1, 0, 0) := by decide +kernel
theorem r22_23 : rowAt 22 23 = some (.getfield 9, 3, 3, 0) := by decide +kernel
theorem r22_26 : rowAt 22 26 = some (.iload_n 1, 1, 0, 0) := by decide +kernel
theorem r22_27 : rowAt 22 27 = some (.iconst 4, 1, 0, 0) := by decide +kernel
theorem r22_28 : rowAt 22 28 = some (.invokevirtual 64, 3, 70, 0) := by decide +kernel
theorem r22_31 : rowAt 22 31 = some (.ireturn, 1, 0, 0) := by decide +kernel
theorem r22_32 : rowAt 22 32 = some (.aload_n 0, 1, 0, 0) := by decide +kernel
theorem r22_33 : rowAt 22 33 = some (.invokevirtual 97, 3, 24, 0) := by decide +kernel
theorem r22_36 : rowAt 22 36 = some (.istore_n 2, 1, 0, 0) := by decide +kernel
theorem r22_37 : rowAt 22 37 = some (.iload_n 2, 1, 0, 0) := by decide +kernel
theorem r22_38 : rowAt 22 38 = some (.ifCond .ge 7, 3, 0, 0) := by decide +kernel
theorem r22_41 : rowAt 22 41 = some (.iconst (-1), 1, 0, 0) := by decide +kernel
theorem r22_42 : rowAt 22 42 = some (.goto 13, 3, 0, 0) := by decide +kernel
theorem r22_45 : rowAt 22 45 = some (.aload_n 0, 1, 0, 0) := by decide +kernel
theorem r22_46 : rowAt 22 46 = some (.getfield 9, 3, 3, 0) := by decide +kernel
theorem r22_49 : rowAt 22 49 = some (.iconst 0, 1, 0, 0) := by decide +kernel
theorem r22_50 : rowAt 22 50 = some (.bipush 99, 2, 0, 0) := by decide +kernel
theorem r22_52 : rowAt 22 52 = some (.invokevirtual 100, 3, 75, 0) := by decide +kernel
theorem r22_55 : rowAt 22 55 = some (.istore_n 3, 1, 0, 0) := by decide +kernel
theorem r22_56 : rowAt 22 56 = some (.iload_n 3, 1, 0, 0) := by decide +kernel
theorem r22_57 : rowAt 22 57 = some (.ifCond .ge 7, 3, 0, 0) := by decide +kernel
theorem r22_60 : rowAt 22 60 = some (.iconst (-1), 1, 0, 0) := by decide +kernel
theorem r22_61 : rowAt 22 61 = some (.goto 13, 3, 0, 0) := by decide +kernel
theorem r22_64 : rowAt 22 64 = some (.aload_n 0, 1, 0, 0) := by decide +kernel
theorem r22_65 : rowAt 22 65 = some (.getfield 9, 3, 3, 0) := by decide +kernel
theorem r22_68 : rowAt 22 68 = some (.iconst 0, 1, 0, 0) := by decide +kernel
theorem r22_69 : rowAt 22 69 = some (.bipush 9, 2, 0, 0) := by decide +kernel
theorem r22_71 : rowAt 22 71 = some (.invokevirtual 100, 3, 75, 0) := by decide +kernel
theorem r22_74 : rowAt 22 74 = some (.istore 4, 2, 0, 0) := by decide +kernel
theorem r22_76 : rowAt 22 76 = some (.iload 4, 2, 0, 0) := by decide +kernel
theorem r22_78 : rowAt 22 78 = some (.ifCond .ge 5, 3, 0, 0) := by decide +kernel
theorem r22_81 : rowAt 22 81 = some (.iconst 0, 1, 0, 0) := by decide +kernel
theorem r22_82 : rowAt 22 82 = some (.ireturn, 1, 0, 0) := by decide +kernel
theorem r22_83 : rowAt 22 83 = some (.aload_n 0, 1, 0, 0) := by decide +kernel
theorem r22_84 : rowAt 22 84 = some (.getfield 15, 3, 3, 1) := by decide +kernel
theorem r22_87 : rowAt 22 87 = some (.getfield 104, 3, 5, 11) := by decide +kernel
theorem r22_90 : rowAt 22 90 = some (.aload_n 0, 1, 0, 0) := by decide +kernel
theorem r22_91 : rowAt 22 91 = some (.getfield 15, 3, 3, 1) := by decide +kernel
theorem r22_94 : rowAt 22 94 = some (.getfield 71, 3, 5, 3) := by decide +kernel
theorem r22_97 : rowAt 22 97 = some (.iload_n 3, 1, 0, 0) := by decide +kernel
theorem r22_98 : rowAt 22 98 = some (.iastore, 1, 0, 0) := by decide +kernel
theorem r22_99 : rowAt 22 99 = some (.aload_n 0, 1, 0, 0) := by decide +kernel
theorem r22_100 : rowAt 22 100 = some (.getfield 15, 3, 3, 1) := by decide +kernel
theorem r22_103 : rowAt 22 103 = some (.getfield 108, 3, 5, 12) := by decide +kernel
theorem r22_106 : rowAt 22 106 = some (.aload_n 0, 1, 0, 0) := by decide +kernel
theorem r22_107 : rowAt 22 107 = some (.getfield 15, 3, 3, 1) := by decide +kernel
theorem r22_110 : rowAt 22 110 = some (.getfield 71, 3, 5, 3) := by decide +kernel
theorem r22_113 : rowAt 22 113 = some (.iload 4, 2, 0, 0) := by decide +kernel
theorem r22_115 : rowAt 22 115 = some (.iastore, 1, 0, 0) := by decide +kernel
theorem r22_116 : rowAt 22 116 = some (.aload_n 0, 1, 0, 0) := by decide +kernel
theorem r22_117 : rowAt 22 117 = some (.getfield 15, 3, 3, 1) := by decide +kernel
theorem r22_120 : rowAt 22 120 = some (.aload_n 0, 1, 0, 0) := by decide +kernel
theorem r22_121 : rowAt 22 121 = some (.getfield 15, 3, 3, 1) := by decide +kernel
theorem r22_124 : rowAt 22 124 = some (.getfield 71, 3, 5, 3) := by decide +kernel
theorem r22_127 : rowAt 22 127 = some (.iload_n 2, 1, 0, 0) := by decide +kernel
theorem r22_128 : rowAt 22 128 = some (.invokevirtual 111, 3, 60, 0) := by decide +kernel
theorem r22_131 : rowAt 22 131 = some (.aload_n 0, 1, 0, 0) := by decide +kernel
theorem r22_132 : rowAt 22 132 = some (.getfield 15, 3, 3, 1) := by decide +kernel
theorem r22_135 : rowAt 22 135 = some (.dup, 1, 0, 0) := by decide +kernel
theorem r22_136 : rowAt 22 136 = some (.getfield 71, 3, 5, 3) := by decide +kernel
theorem r22_139 : rowAt 22 139 = some (.iconst 1, 1, 0, 0) := by decide +kernel
theorem r22_140 : rowAt 22 140 = some (.iadd, 1, 0, 0) := by decide +kernel
theorem r22_141 : rowAt 22 141 = some (.putfield 71, 3, 5, 3) := by decide +kernel
theorem r22_144 : rowAt 22 144 = some (.iconst 1, 1, 0, 0) := by decide +kernel
theorem r22_145 : rowAt 22 145 = some (.ireturn, 1, 0, 0) := by decide +kernel
theorem en22 (a0 : Nat) (a1 : Int32) : iniL 22 [.ref a0, .int a1] = [.ref a0, .int a1, .null, .null, .null] := ini_n mi22 rfl
theorem b22_0 (d : Nat) (l0 : Nat) (l1 : Int32) (h : aH) (K : Option Value → aH → Prop) : E scr false (d + 1) 22 0 [.ref l0, .int l1, .null, .null, .null] [] h K = gR scr h l0 3 1 (fun x1 : Nat => gI scr h x1 5 1 (fun x2 : Int32 => (if x2 = 0 then E scr false (d + 1) 22 22 [.ref l0, .int l1, .null, .null, .null] [] h K else gR scr h l0 3 1 (fun x3 : Nat => gI scr h x3 5 3 (fun x4 : Int32 => (if x4 < 12 then vI scr d 24 [.ref l0] h (fun (x6 : Int32) (h5 : aH) => (if 0 ≤ x6 then gR scr h5 l0 3 0 (fun x7 : Nat => vI scr d 75 [.ref x7, .int 0, .int 99] h5 (fun (x9 : Int32) (h8 : aH) => E scr false (d + 1) 22 55 [.ref l0, .int l1, .int x6, .null, .null] [.int x9] h8 K)) else E scr false (d + 1) 22 55 [.ref l0, .int l1, .int x6, .null, .null] [.int (-1)] h5 K)) else E scr false (d + 1) 22 22 [.ref l0, .int l1, .null, .null, .null] [] h K)))))) := go (w := (1, [.ref l0, .int l1, .null, .null, .null], [.ref l0], h)) r22_0 rfl rfl (E_gR r22_1 rfl (fun x1 => E_gI r22_4 rfl (fun x2 => E_i1_eq r22_7 rfl (rfl) (go (w := (11, [.ref l0, .int l1, .null, .null, .null], [.ref l0], h)) r22_10 rfl rfl (E_gR r22_11 rfl (fun x3 => E_gI r22_14 rfl (fun x4 => E_bip r22_17 (v := 12) (by decide) (E_i2_lt r22_19 rfl (go (w := (33, [.ref l0, .int l1, .null, .null, .null], [.ref l0], h)) r22_32 rfl rfl (E_vI r22_33 (As := [.ref l0]) (rest := []) (cut_n mi24.1 rfl rfl) (rm8_n mi24.2.1 (Nat.le_of_ble_eq_true rfl) (Nat.le_of_ble_eq_true rfl)) mi24.2.2 (fun x6 h5 => go (w := (37, [.ref l0, .int l1, .int x6, .null, .null], [], h5)) r22_36 rfl rfl (go (w := (38, [.ref l0, .int l1, .int x6, .null, .null], [.int x6], h5)) r22_37 rfl rfl (E_i1_ge r22_38 rfl (go (w := (46, [.ref l0, .int l1, .int x6, .null, .null], [.ref l0], h5)) r22_45 rfl rfl (E_gR r22_46 rfl (fun x7 => E_ic r22_49 (v := 0) (by decide) (E_bip r22_50 (v := 99) (by decide) (E_vI r22_52 (As := [.ref x7, .int 0, .int 99]) (rest := []) (cut_n mi75.1 rfl rfl) (rm8_n mi75.2.1 (Nat.le_of_ble_eq_true rfl) (Nat.le_of_ble_eq_true rfl)) mi75.2.2 (fun x9 h8 => rfl)))))) (E_ic r22_41 (v := (-1)) (by decide) (E_gt r22_42 rfl (rfl)))))))) (rfl)))))))))
theorem b22_22 (d : Nat) (l0 : Nat) (l1 : Int32) (h : aH) (K : Option Value → aH → Prop) : E scr false (d + 1) 22 22 [.ref l0, .int l1, .null, .null, .null] [] h K = gR scr h l0 3 0 (fun x1 : Nat => vI scr d 70 [.ref x1, .int l1, .int 4] h (fun (x3 : Int32) (h2 : aH) => (x3 &&& 1 = x3 ∧ K (some (.int x3)) h2))) := go (w := (23, [.ref l0, .int l1, .null, .null, .null], [.ref l0], h)) r22_22 rfl rfl (E_gR r22_23 rfl (fun x1 => go (w := (27, [.ref l0, .int l1, .null, .null, .null], [.int l1, .ref x1], h)) r22_26 rfl rfl (E_ic r22_27 (v := 4) (by decide) (E_vI r22_28 (As := [.ref x1, .int l1, .int 4]) (rest := []) (cut_n mi70.1 rfl rfl) (rm8_n mi70.2.1 (Nat.le_of_ble_eq_true rfl) (Nat.le_of_ble_eq_true rfl)) mi70.2.2 (fun x3 h2 => E_zret r22_31 (mq22))))))
theorem b22_55 (d : Nat) (l0 : Nat) (l1 : Int32) (l2 : Int32) (s0 : Int32) (h : aH) (K : Option Value → aH → Prop) : E scr false (d + 1) 22 55 [.ref l0, .int l1, .int l2, .null, .null] [.int s0] h K = (if 0 ≤ s0 then gR scr h l0 3 0 (fun x1 : Nat => vI scr d 75 [.ref x1, .int 0, .int 9] h (fun (x3 : Int32) (h2 : aH) => E scr false (d + 1) 22 74 [.ref l0, .int l1, .int l2, .int s0, .null] [.int x3] h2 K)) else E scr false (d + 1) 22 74 [.ref l0, .int l1, .int l2, .int s0, .null] [.int (-1)] h K) := go (w := (56, [.ref l0, .int l1, .int l2, .int s0, .null], [], h)) r22_55 rfl rfl (go (w := (57, [.ref l0, .int l1, .int l2, .int s0, .null], [.int s0], h)) r22_56 rfl rfl (E_i1_ge r22_57 rfl (go (w := (65, [.ref l0, .int l1, .int l2, .int s0, .null], [.ref l0], h)) r22_64 rfl rfl (E_gR r22_65 rfl (fun x1 => E_ic r22_68 (v := 0) (by decide) (E_bip r22_69 (v := 9) (by decide) (E_vI r22_71 (As := [.ref x1, .int 0, .int 9]) (rest := []) (cut_n mi75.1 rfl rfl) (rm8_n mi75.2.1 (Nat.le_of_ble_eq_true rfl) (Nat.le_of_ble_eq_true rfl)) mi75.2.2 (fun x3 h2 => rfl)))))) (E_ic r22_60 (v := (-1)) (by decide) (E_gt r22_61 rfl (rfl)))))
theorem b22_74 (d : Nat) (l0 : Nat) (l1 : Int32) (l2 : Int32) (l3 : Int32) (s0 : Int32) (h : aH) (K : Option Value → aH → Prop) : E scr false (d + 1) 22 74 [.ref l0, .int l1, .int l2, .int l3, .null] [.int s0] h K = (if 0 ≤ s0 then gR scr h l0 3 1 (fun x1 : Nat => gR scr h x1 5 11 (fun x2 : Nat => gR scr h l0 3 1 (fun x3 : Nat => gI scr h x3 5 3 (fun x4 : Int32 => wI h x2 x4 l3 (fun h5 : aH => gR scr h5 l0 3 1 (fun x6 : Nat => gR scr h5 x6 5 12 (fun x7 : Nat => gR scr h5 l0 3 1 (fun x8 : Nat => gI scr h5 x8 5 3 (fun x9 : Int32 => wI h5 x7 x9 s0 (fun h10 : aH => gR scr h10 l0 3 1 (fun x11 : Nat => gR scr h10 l0 3 1 (fun x12 : Nat => gI scr h10 x12 5 3 (fun x13 : Int32 => vV scr d 60 [.ref x11, .int x13, .int l2] h10 (fun h14 : aH => gR scr h14 l0 3 1 (fun x16 : Nat => gI scr h14 x16 5 3 (fun x17 : Int32 => pF h14 x16 5 3 (.int (x17 + 1)) (fun h18 : aH => K (some (.int 1)) h18))))))))))))))))) else K (some (.int 0)) h) := go (w := (76, [.ref l0, .int l1, .int l2, .int l3, .int s0], [], h)) r22_74 rfl rfl (go (w := (78, [.ref l0, .int l1, .int l2, .int l3, .int s0], [.int s0], h)) r22_76 rfl rfl (E_i1_ge r22_78 rfl (go (w := (84, [.ref l0, .int l1, .int l2, .int l3, .int s0], [.ref l0], h)) r22_83 rfl rfl (E_gR r22_84 rfl (fun x1 => E_gR r22_87 rfl (fun x2 => go (w := (91, [.ref l0, .int l1, .int l2, .int l3, .int s0], [.ref l0, .ref x2], h)) r22_90 rfl rfl (E_gR r22_91 rfl (fun x3 => E_gI r22_94 rfl (fun x4 => go (w := (98, [.ref l0, .int l1, .int l2, .int l3, .int s0], [.int l3, .int x4, .ref x2], h)) r22_97 rfl rfl (E_wI r22_98 (fun h5 => go (w := (100, [.ref l0, .int l1, .int l2, .int l3, .int s0], [.ref l0], h5)) r22_99 rfl rfl (E_gR r22_100 rfl (fun x6 => E_gR r22_103 rfl (fun x7 => go (w := (107, [.ref l0, .int l1, .int l2, .int l3, .int s0], [.ref l0, .ref x7], h5)) r22_106 rfl rfl (E_gR r22_107 rfl (fun x8 => E_gI r22_110 rfl (fun x9 => go (w := (115, [.ref l0, .int l1, .int l2, .int l3, .int s0], [.int s0, .int x9, .ref x7], h5)) r22_113 rfl rfl (E_wI r22_115 (fun h10 => go (w := (117, [.ref l0, .int l1, .int l2, .int l3, .int s0], [.ref l0], h10)) r22_116 rfl rfl (E_gR r22_117 rfl (fun x11 => go (w := (121, [.ref l0, .int l1, .int l2, .int l3, .int s0], [.ref l0, .ref x11], h10)) r22_120 rfl rfl (E_gR r22_121 rfl (fun x12 => E_gI r22_124 rfl (fun x13 => go (w := (128, [.ref l0, .int l1, .int l2, .int l3, .int s0], [.int l2, .int x13, .ref x11], h10)) r22_127 rfl rfl (E_vV r22_128 (As := [.ref x11, .int x13, .int l2]) (rest := []) (cut_n mi60.1 rfl rfl) (rm8_n mi60.2.1 (Nat.le_of_ble_eq_true rfl) (Nat.le_of_ble_eq_true rfl)) mi60.2.2 (fun h14 => go (w := (132, [.ref l0, .int l1, .int l2, .int l3, .int s0], [.ref l0], h14)) r22_131 rfl rfl (E_gR r22_132 rfl (fun x16 => go (w := (136, [.ref l0, .int l1, .int l2, .int l3, .int s0], [.ref x16, .ref x16], h14)) r22_135 rfl rfl (E_gI r22_136 rfl (fun x17 => E_ic r22_139 (v := 1) (by decide) (go (w := (141, [.ref l0, .int l1, .int l2, .int l3, .int s0], [.int (x17 + 1), .ref x16], h14)) r22_140 rfl rfl (E_pI r22_141 ⟨rfl, rfl⟩ (fun h18 => E_ic r22_144 (v := 1) (by decide) (E_rz r22_145 (mq22) (by decide))))))))))))))))))))))))))))))))) (E_ic r22_81 (v := 0) (by decide) (E_rz r22_82 (mq22) (by decide)))))
-- 23 SecondNearest$PlainReader.takeHerald(I)Z
theorem mq23 : mRet 23 = (some .boolean) := by decide +kernel
theorem r23_0 : rowAt 23 0 = some (.aload_n 0, 1, 0, 0) := by decide +kernel
theorem r23_1 : rowAt 23 1 = some (.getfield 15, 3, 3, 1) := by decide +kernel
theorem r23_4 : rowAt 23 4 = some (.getfield 68, 3, 5, 1) := by decide +kernel
theorem r23_7 : rowAt 23 7 = some (.ifCond .eq 14, 3, 0, 0) := by decide +kernel
theorem r23_10 : rowAt 23 10 = some (.aload_n 0, 1, 0, 0) := by decide +kernel
theorem r23_11 : rowAt 23 11 = some (.getfield 15, 3, 3, 1) := by decide +kernel
theorem r23_14 : rowAt 23 14 = some (.getfield 74, 3, 5, 4) := by decide +kernel
theorem r23_17 : rowAt 23 17 = some (.iconst 2, 1, 0, 0) := by decide +kernel
theorem r23_18 : rowAt 23 18 = some (.if_icmp .lt 13, 3, 0, 0) := by decide +kernel
theorem r23_21 : rowAt 23 21 = some (.aload_n 0, 1, 0, 0) := by decide +kernel
theorem r23_22 : rowAt 23 22 = some (.getfield 9, 3, 3, 0) := by decide +kernel
theorem r23_25 : rowAt 23 25 = some (.iload_n 1, 1, 0, 0) := by decide +kernel
theorem r23_26 : rowAt 23 26 = some (.iconst 4, 1, 0, 0) := by decide +kernel
theorem r23_27 : rowAt 23 27 = some (.invokevirtual 64, 3, 70, 0) := by decide +kernel
theorem r23_30 : rowAt 23 30 = some (.ireturn, 1, 0, 0) := by decide +kernel
theorem r23_31 : rowAt 23 31 = some (.aload_n 0, 1, 0, 0) := by decide +kernel
theorem r23_32 : rowAt 23 32 = some (.invokevirtual 97, 3, 24, 0) := by decide +kernel
theorem r23_35 : rowAt 23 35 = some (.istore_n 2, 1, 0, 0) := by decide +kernel
theorem r23_36 : rowAt 23 36 = some (.iload_n 2, 1, 0, 0) := by decide +kernel
theorem r23_37 : rowAt 23 37 = some (.ifCond .ge 5, 3, 0, 0) := by decide +kernel
theorem r23_40 : rowAt 23 40 = some (.iconst 0, 1, 0, 0) := by decide +kernel
theorem r23_41 : rowAt 23 41 = some (.ireturn, 1, 0, 0) := by decide +kernel
theorem r23_42 : rowAt 23 42 = some (.aload_n 0, 1, 0, 0) := by decide +kernel
theorem r23_43 : rowAt 23 43 = some (.getfield 15, 3, 3, 1) := by decide +kernel
theorem r23_46 : rowAt 23 46 = some (.bipush 12, 2, 0, 0) := by decide +kernel
theorem r23_48 : rowAt 23 48 = some (.aload_n 0, 1, 0, 0) := by decide +kernel
theorem r23_49 : rowAt 23 49 = some (.getfield 15, 3, 3, 1) := by decide +kernel
theorem r23_52 : rowAt 23 52 = some (.getfield 74, 3, 5, 4) := by decide +kernel
theorem r23_55 : rowAt 23 55 = some (.iadd, 1, 0, 0) := by decide +kernel
theorem r23_56 : rowAt 23 56 = some (.iload_n 2, 1, 0, 0) := by decide +kernel
theorem r23_57 : rowAt 23 57 = some (.invokevirtual 111, 3, 60, 0) := by decide +kernel
theorem r23_60 : rowAt 23 60 = some (.aload_n 0, 1, 0, 0) := by decide +kernel
theorem r23_61 : rowAt 23 61 = some (.getfield 15, 3, 3, 1) := by decide +kernel
theorem r23_64 : rowAt 23 64 = some (.dup, 1, 0, 0) := by decide +kernel
theorem r23_65 : rowAt 23 65 = some (.getfield 74, 3, 5, 4) := by decide +kernel
theorem r23_68 : rowAt 23 68 = some (.iconst 1, 1, 0, 0) := by decide +kernel
theorem r23_69 : rowAt 23 69 = some (.iadd, 1, 0, 0) := by decide +kernel
theorem r23_70 : rowAt 23 70 = some (.putfield 74, 3, 5, 4) := by decide +kernel
theorem r23_73 : rowAt 23 73 = some (.iconst 1, 1, 0, 0) := by decide +kernel
theorem r23_74 : rowAt 23 74 = some (.ireturn, 1, 0, 0) := by decide +kernel
theorem en23 (a0 : Nat) (a1 : Int32) : iniL 23 [.ref a0, .int a1] = [.ref a0, .int a1, .null] := ini_n mi23 rfl
theorem b23_0 (d : Nat) (l0 : Nat) (l1 : Int32) (h : aH) (K : Option Value → aH → Prop) : E scr false (d + 1) 23 0 [.ref l0, .int l1, .null] [] h K = gR scr h l0 3 1 (fun x1 : Nat => gI scr h x1 5 1 (fun x2 : Int32 => (if x2 = 0 then E scr false (d + 1) 23 21 [.ref l0, .int l1, .null] [] h K else gR scr h l0 3 1 (fun x3 : Nat => gI scr h x3 5 4 (fun x4 : Int32 => (if x4 < 2 then vI scr d 24 [.ref l0] h (fun (x6 : Int32) (h5 : aH) => (if 0 ≤ x6 then gR scr h5 l0 3 1 (fun x7 : Nat => gR scr h5 l0 3 1 (fun x8 : Nat => gI scr h5 x8 5 4 (fun x9 : Int32 => vV scr d 60 [.ref x7, .int (12 + x9), .int x6] h5 (fun h10 : aH => gR scr h10 l0 3 1 (fun x12 : Nat => gI scr h10 x12 5 4 (fun x13 : Int32 => pF h10 x12 5 4 (.int (x13 + 1)) (fun h14 : aH => K (some (.int 1)) h14))))))) else K (some (.int 0)) h5)) else E scr false (d + 1) 23 21 [.ref l0, .int l1, .null] [] h K)))))) := go (w := (1, [.ref l0, .int l1, .null], [.ref l0], h)) r23_0 rfl rfl (E_gR r23_1 rfl (fun x1 => E_gI r23_4 rfl (fun x2 => E_i1_eq r23_7 rfl (rfl) (go (w := (11, [.ref l0, .int l1, .null], [.ref l0], h)) r23_10 rfl rfl (E_gR r23_11 rfl (fun x3 => E_gI r23_14 rfl (fun x4 => E_ic r23_17 (v := 2) (by decide) (E_i2_lt r23_18 rfl (go (w := (32, [.ref l0, .int l1, .null], [.ref l0], h)) r23_31 rfl rfl (E_vI r23_32 (As := [.ref l0]) (rest := []) (cut_n mi24.1 rfl rfl) (rm8_n mi24.2.1 (Nat.le_of_ble_eq_true rfl) (Nat.le_of_ble_eq_true rfl)) mi24.2.2 (fun x6 h5 => go (w := (36, [.ref l0, .int l1, .int x6], [], h5)) r23_35 rfl rfl (go (w := (37, [.ref l0, .int l1, .int x6], [.int x6], h5)) r23_36 rfl rfl (E_i1_ge r23_37 rfl (go (w := (43, [.ref l0, .int l1, .int x6], [.ref l0], h5)) r23_42 rfl rfl (E_gR r23_43 rfl (fun x7 => E_bip r23_46 (v := 12) (by decide) (go (w := (49, [.ref l0, .int l1, .int x6], [.ref l0, .int 12, .ref x7], h5)) r23_48 rfl rfl (E_gR r23_49 rfl (fun x8 => E_gI r23_52 rfl (fun x9 => go (w := (56, [.ref l0, .int l1, .int x6], [.int (12 + x9), .ref x7], h5)) r23_55 rfl rfl (go (w := (57, [.ref l0, .int l1, .int x6], [.int x6, .int (12 + x9), .ref x7], h5)) r23_56 rfl rfl (E_vV r23_57 (As := [.ref x7, .int (12 + x9), .int x6]) (rest := []) (cut_n mi60.1 rfl rfl) (rm8_n mi60.2.1 (Nat.le_of_ble_eq_true rfl) (Nat.le_of_ble_eq_true rfl)) mi60.2.2 (fun h10 => go (w := (61, [.ref l0, .int l1, .int x6], [.ref l0], h10)) r23_60 rfl rfl (E_gR r23_61 rfl (fun x12 => go (w := (65, [.ref l0, .int l1, .int x6], [.ref x12, .ref x12], h10)) r23_64 rfl rfl (E_gI r23_65 rfl (fun x13 => E_ic r23_68 (v := 1) (by decide) (go (w := (70, [.ref l0, .int l1, .int x6], [.int (x13 + 1), .ref x12], h10)) r23_69 rfl rfl (E_pI r23_70 ⟨rfl, rfl⟩ (fun h14 => E_ic r23_73 (v := 1) (by decide) (E_rz r23_74 (mq23) (by decide))))))))))))))))))) (E_ic r23_40 (v := 0) (by decide) (E_rz r23_41 (mq23) (by decide)))))))) (rfl)))))))))
theorem b23_21 (d : Nat) (l0 : Nat) (l1 : Int32) (h : aH) (K : Option Value → aH → Prop) : E scr false (d + 1) 23 21 [.ref l0, .int l1, .null] [] h K = gR scr h l0 3 0 (fun x1 : Nat => vI scr d 70 [.ref x1, .int l1, .int 4] h (fun (x3 : Int32) (h2 : aH) => (x3 &&& 1 = x3 ∧ K (some (.int x3)) h2))) := go (w := (22, [.ref l0, .int l1, .null], [.ref l0], h)) r23_21 rfl rfl (E_gR r23_22 rfl (fun x1 => go (w := (26, [.ref l0, .int l1, .null], [.int l1, .ref x1], h)) r23_25 rfl rfl (E_ic r23_26 (v := 4) (by decide) (E_vI r23_27 (As := [.ref x1, .int l1, .int 4]) (rest := []) (cut_n mi70.1 rfl rfl) (rm8_n mi70.2.1 (Nat.le_of_ble_eq_true rfl) (Nat.le_of_ble_eq_true rfl)) mi70.2.2 (fun x3 h2 => E_zret r23_30 (mq23))))))
-- 24 SecondNearest$PlainReader.takePlace()I
theorem mq24 : mRet 24 = (some .int) := by decide +kernel
theorem r24_0 : rowAt 24 0 = some (.aload_n 0, 1, 0, 0) := by decide +kernel
theorem r24_1 : rowAt 24 1 = some (.getfield 9, 3, 3, 0) := by decide +kernel
theorem r24_4 : rowAt 24 4 = some (.invokevirtual 44, 3, 69, 0) := by decide +kernel
theorem r24_7 : rowAt 24 7 = some (.istore_n 1, 1, 0, 0) := by decide +kernel
theorem r24_8 : rowAt 24 8 = some (.aload_n 0, 1, 0, 0) := by decide +kernel
theorem r24_9 : rowAt 24 9 = some (.getfield 9, 3, 3, 0) := by decide +kernel
theorem r24_12 : rowAt 24 12 = some (.iconst 0, 1, 0, 0) := by decide +kernel
theorem r24_13 : rowAt 24 13 = some (.bipush 11, 2, 0, 0) := by decide +kernel
theorem r24_15 : rowAt 24 15 = some (.invokevirtual 100, 3, 75, 0) := by decide +kernel
theorem r24_18 : rowAt 24 18 = some (.istore_n 2, 1, 0, 0) := by decide +kernel
theorem r24_19 : rowAt 24 19 = some (.iload_n 2, 1, 0, 0) := by decide +kernel
theorem r24_20 : rowAt 24 20 = some (.ifCond .ge 7, 3, 0, 0) := by decide +kernel
theorem r24_23 : rowAt 24 23 = some (.iconst (-1), 1, 0, 0) := by decide +kernel
theorem r24_24 : rowAt 24 24 = some (.goto 13, 3, 0, 0) := by decide +kernel
theorem r24_27 : rowAt 24 27 = some (.aload_n 0, 1, 0, 0) := by decide +kernel
theorem r24_28 : rowAt 24 28 = some (.getfield 9, 3, 3, 0) := by decide +kernel
theorem r24_31 : rowAt 24 31 = some (.iconst 0, 1, 0, 0) := by decide +kernel
theorem r24_32 : rowAt 24 32 = some (.bipush 11, 2, 0, 0) := by decide +kernel
theorem r24_34 : rowAt 24 34 = some (.invokevirtual 100, 3, 75, 0) := by decide +kernel
theorem r24_37 : rowAt 24 37 = some (.istore_n 3, 1, 0, 0) := by decide +kernel
theorem r24_38 : rowAt 24 38 = some (.iload_n 3, 1, 0, 0) := by decide +kernel
theorem r24_39 : rowAt 24 39 = some (.ifCond .ge 5, 3, 0, 0) := by decide +kernel
theorem r24_42 : rowAt 24 42 = some (.iconst (-1), 1, 0, 0) := by decide +kernel
theorem r24_43 : rowAt 24 43 = some (.ireturn, 1, 0, 0) := by decide +kernel
theorem r24_44 : rowAt 24 44 = some (.aload_n 0, 1, 0, 0) := by decide +kernel
theorem r24_45 : rowAt 24 45 = some (.getfield 15, 3, 3, 1) := by decide +kernel
theorem r24_48 : rowAt 24 48 = some (.iload_n 2, 1, 0, 0) := by decide +kernel
theorem r24_49 : rowAt 24 49 = some (.iload_n 3, 1, 0, 0) := by decide +kernel
theorem r24_50 : rowAt 24 50 = some (.invokevirtual 115, 3, 57, 0) := by decide +kernel
theorem r24_53 : rowAt 24 53 = some (.ifCond .ne 15, 3, 0, 0) := by decide +kernel
theorem r24_56 : rowAt 24 56 = some (.aload_n 0, 1, 0, 0) := by decide +kernel
theorem r24_57 : rowAt 24 57 = some (.getfield 9, 3, 3, 0) := by decide +kernel
theorem r24_60 : rowAt 24 60 = some (.iload_n 1, 1, 0, 0) := by decide +kernel
theorem r24_61 : rowAt 24 61 = some (.iconst 5, 1, 0, 0) := by decide +kernel
theorem r24_62 : rowAt 24 62 = some (.invokevirtual 64, 3, 70, 0) := by decide +kernel
theorem r24_65 : rowAt 24 65 = some (.pop, 1, 0, 0) := by decide +kernel
theorem r24_66 : rowAt 24 66 = some (.iconst (-1), 1, 0, 0) := by decide +kernel
theorem r24_67 : rowAt 24 67 = some (.ireturn, 1, 0, 0) := by decide +kernel
theorem r24_68 : rowAt 24 68 = some (.bipush 12, 2, 0, 0) := by decide +kernel
theorem r24_70 : rowAt 24 70 = some (.iload_n 3, 1, 0, 0) := by decide +kernel
theorem r24_71 : rowAt 24 71 = some (.imul, 1, 0, 0) := by decide +kernel
theorem r24_72 : rowAt 24 72 = some (.iload_n 2, 1, 0, 0) := by decide +kernel
theorem r24_73 : rowAt 24 73 = some (.iadd, 1, 0, 0) := by decide +kernel
theorem r24_74 : rowAt 24 74 = some (.ireturn, 1, 0, 0) := by decide +kernel
theorem en24 (a0 : Nat) : iniL 24 [.ref a0] = [.ref a0, .null, .null, .null] := ini_n mi24 rfl
theorem b24_0 (d : Nat) (l0 : Nat) (h : aH) (K : Option Value → aH → Prop) : E scr false (d + 1) 24 0 [.ref l0, .null, .null, .null] [] h K = gR scr h l0 3 0 (fun x1 : Nat => vI scr d 69 [.ref x1] h (fun (x3 : Int32) (h2 : aH) => gR scr h2 l0 3 0 (fun x4 : Nat => vI scr d 75 [.ref x4, .int 0, .int 11] h2 (fun (x6 : Int32) (h5 : aH) => (if 0 ≤ x6 then gR scr h5 l0 3 0 (fun x7 : Nat => vI scr d 75 [.ref x7, .int 0, .int 11] h5 (fun (x9 : Int32) (h8 : aH) => E scr false (d + 1) 24 37 [.ref l0, .int x3, .int x6, .null] [.int x9] h8 K)) else E scr false (d + 1) 24 37 [.ref l0, .int x3, .int x6, .null] [.int (-1)] h5 K))))) := go (w := (1, [.ref l0, .null, .null, .null], [.ref l0], h)) r24_0 rfl rfl (E_gR r24_1 rfl (fun x1 => E_vI r24_4 (As := [.ref x1]) (rest := []) (cut_n mi69.1 rfl rfl) (rm8_n mi69.2.1 (Nat.le_of_ble_eq_true rfl) (Nat.le_of_ble_eq_true rfl)) mi69.2.2 (fun x3 h2 => go (w := (8, [.ref l0, .int x3, .null, .null], [], h2)) r24_7 rfl rfl (go (w := (9, [.ref l0, .int x3, .null, .null], [.ref l0], h2)) r24_8 rfl rfl (E_gR r24_9 rfl (fun x4 => E_ic r24_12 (v := 0) (by decide) (E_bip r24_13 (v := 11) (by decide) (E_vI r24_15 (As := [.ref x4, .int 0, .int 11]) (rest := []) (cut_n mi75.1 rfl rfl) (rm8_n mi75.2.1 (Nat.le_of_ble_eq_true rfl) (Nat.le_of_ble_eq_true rfl)) mi75.2.2 (fun x6 h5 => go (w := (19, [.ref l0, .int x3, .int x6, .null], [], h5)) r24_18 rfl rfl (go (w := (20, [.ref l0, .int x3, .int x6, .null], [.int x6], h5)) r24_19 rfl rfl (E_i1_ge r24_20 rfl (go (w := (28, [.ref l0, .int x3, .int x6, .null], [.ref l0], h5)) r24_27 rfl rfl (E_gR r24_28 rfl (fun x7 => E_ic r24_31 (v := 0) (by decide) (E_bip r24_32 (v := 11) (by decide) (E_vI r24_34 (As := [.ref x7, .int 0, .int 11]) (rest := []) (cut_n mi75.1 rfl rfl) (rm8_n mi75.2.1 (Nat.le_of_ble_eq_true rfl) (Nat.le_of_ble_eq_true rfl)) mi75.2.2 (fun x9 h8 => rfl)))))) (E_ic r24_23 (v := (-1)) (by decide) (E_gt r24_24 rfl (rfl))))))))))))))
theorem b24_37 (d : Nat) (l0 : Nat) (l1 : Int32) (l2 : Int32) (s0 : Int32) (h : aH) (K : Option Value → aH → Prop) : E scr false (d + 1) 24 37 [.ref l0, .int l1, .int l2, .null] [.int s0] h K = (if 0 ≤ s0 then gR scr h l0 3 1 (fun x1 : Nat => vI scr d 57 [.ref x1, .int l2, .int s0] h (fun (x3 : Int32) (h2 : aH) => (if x3 = 0 then gR scr h2 l0 3 0 (fun x4 : Nat => vI scr d 70 [.ref x4, .int l1, .int 5] h2 (fun (x6 : Int32) (h5 : aH) => K (some (.int (-1))) h5)) else K (some (.int ((12 * s0) + l2))) h2))) else K (some (.int (-1))) h) := go (w := (38, [.ref l0, .int l1, .int l2, .int s0], [], h)) r24_37 rfl rfl (go (w := (39, [.ref l0, .int l1, .int l2, .int s0], [.int s0], h)) r24_38 rfl rfl (E_i1_ge r24_39 rfl (go (w := (45, [.ref l0, .int l1, .int l2, .int s0], [.ref l0], h)) r24_44 rfl rfl (E_gR r24_45 rfl (fun x1 => go (w := (49, [.ref l0, .int l1, .int l2, .int s0], [.int l2, .ref x1], h)) r24_48 rfl rfl (go (w := (50, [.ref l0, .int l1, .int l2, .int s0], [.int s0, .int l2, .ref x1], h)) r24_49 rfl rfl (E_vI r24_50 (As := [.ref x1, .int l2, .int s0]) (rest := []) (cut_n mi57.1 rfl rfl) (rm8_n mi57.2.1 (Nat.le_of_ble_eq_true rfl) (Nat.le_of_ble_eq_true rfl)) mi57.2.2 (fun x3 h2 => E_i1_ne r24_53 rfl (E_bip r24_68 (v := 12) (by decide) (go (w := (71, [.ref l0, .int l1, .int l2, .int s0], [.int s0, .int 12], h2)) r24_70 rfl rfl (go (w := (72, [.ref l0, .int l1, .int l2, .int s0], [.int (12 * s0)], h2)) r24_71 rfl rfl (go (w := (73, [.ref l0, .int l1, .int l2, .int s0], [.int l2, .int (12 * s0)], h2)) r24_72 rfl rfl (go (w := (74, [.ref l0, .int l1, .int l2, .int s0], [.int ((12 * s0) + l2)], h2)) r24_73 rfl rfl (E_ri r24_74 (mq24))))))) (go (w := (57, [.ref l0, .int l1, .int l2, .int s0], [.ref l0], h2)) r24_56 rfl rfl (E_gR r24_57 rfl (fun x4 => go (w := (61, [.ref l0, .int l1, .int l2, .int s0], [.int l1, .ref x4], h2)) r24_60 rfl rfl (E_ic r24_61 (v := 5) (by decide) (E_vI r24_62 (As := [.ref x4, .int l1, .int 5]) (rest := []) (cut_n mi70.1 rfl rfl) (rm8_n mi70.2.1 (Nat.le_of_ble_eq_true rfl) (Nat.le_of_ble_eq_true rfl)) mi70.2.2 (fun x6 h5 => go (w := (66, [.ref l0, .int l1, .int l2, .int s0], [], h5)) r24_65 rfl rfl (E_ic r24_66 (v := (-1)) (by decide) (E_ri r24_67 (mq24))))))))))))))) (E_ic r24_42 (v := (-1)) (by decide) (E_ri r24_43 (mq24)))))
-- 25 SecondNearest$PlainReader.kindOf(I)I
theorem mq25 : mRet 25 = (some .int) := by decide +kernel
theorem r25_0 : rowAt 25 0 = some (.iload_n 0, 1, 0, 0) := by decide +kernel
theorem r25_1 : rowAt 25 1 = some (.lookupswitch 51 #[(35, 45), (46, 43), (71, 49), (126, 47)], 43, 0, 0) := by decide +kernel
theorem r25_44 : rowAt 25 44 = some (.iconst 0, 1, 0, 0) := by decide +kernel
theorem r25_45 : rowAt 25 45 = some (.ireturn, 1, 0, 0) := by decide +kernel
theorem r25_46 : rowAt 25 46 = some (.iconst 1, 1, 0, 0) := by decide +kernel
theorem r25_47 : rowAt 25 47 = some (.ireturn, 1, 0, 0) := by decide +kernel
theorem r25_48 : rowAt 25 48 = some (.iconst 2, 1, 0, 0) := by decide +kernel
theorem r25_49 : rowAt 25 49 = some (.ireturn, 1, 0, 0) := by decide +kernel
theorem r25_50 : rowAt 25 50 = some (.iconst 3, 1, 0, 0) := by decide +kernel
theorem r25_51 : rowAt 25 51 = some (.ireturn, 1, 0, 0) := by decide +kernel
theorem r25_52 : rowAt 25 52 = some (.iconst (-1), 1, 0, 0) := by decide +kernel
theorem r25_53 : rowAt 25 53 = some (.ireturn, 1, 0, 0) := by decide +kernel
theorem en25 (a0 : Int32) : iniL 25 [.int a0] = [.int a0] := ini_n mi25 rfl
theorem b25_0 (d : Nat) (l0 : Int32) (h : aH) (K : Option Value → aH → Prop) : E scr false d 25 0 [.int l0] [] h K = (if l0 = 35 then E scr false d 25 46 [.int l0] [] h K else (if l0 = 46 then E scr false d 25 44 [.int l0] [] h K else (if l0 = 71 then E scr false d 25 50 [.int l0] [] h K else (if l0 = 126 then E scr false d 25 48 [.int l0] [] h K else E scr false d 25 52 [.int l0] [] h K)))) := go (w := (1, [.int l0], [.int l0], h)) r25_0 rfl rfl (E_lks (pc := 1) [(35, 46), (46, 44), (71, 50), (126, 48)] 52 r25_1 (by decide +kernel) (by decide +kernel) (by decide +kernel) (by decide +kernel))
theorem b25_44 (d : Nat) (l0 : Int32) (h : aH) (K : Option Value → aH → Prop) : E scr false d 25 44 [.int l0] [] h K = K (some (.int 0)) h := E_ic r25_44 (v := 0) (by decide) (E_ri r25_45 (mq25))
theorem b25_46 (d : Nat) (l0 : Int32) (h : aH) (K : Option Value → aH → Prop) : E scr false d 25 46 [.int l0] [] h K = K (some (.int 1)) h := E_ic r25_46 (v := 1) (by decide) (E_ri r25_47 (mq25))
theorem b25_48 (d : Nat) (l0 : Int32) (h : aH) (K : Option Value → aH → Prop) : E scr false d 25 48 [.int l0] [] h K = K (some (.int 2)) h := E_ic r25_48 (v := 2) (by decide) (E_ri r25_49 (mq25))
theorem b25_50 (d : Nat) (l0 : Int32) (h : aH) (K : Option Value → aH → Prop) : E scr false d 25 50 [.int l0] [] h K = K (some (.int 3)) h := E_ic r25_50 (v := 3) (by decide) (E_ri r25_51 (mq25))
theorem b25_52 (d : Nat) (l0 : Int32) (h : aH) (K : Option Value → aH → Prop) : E scr false d 25 52 [.int l0] [] h K = K (some (.int (-1))) h := E_ic r25_52 (v := (-1)) (by decide) (E_ri r25_53 (mq25))
-- 27 SecondNearest$Planner.foresee(LSecondNearest$Law;II)I
theorem mq27 : mRet 27 = (some .int) := by decide +kernel
theorem r27_0 : rowAt 27 0 = some (.aload_n 0, 1, 0, 0) := by decide +kernel
theorem r27_1 : rowAt 27 1 = some (.getfield 12, 3, 4, 3) := by decide +kernel
theorem r27_4 : rowAt 27 4 = some (.aload_n 0, 1, 0, 0) := by decide +kernel
theorem r27_5 : rowAt 27 5 = some (.getfield 32, 3, 4, 0) := by decide +kernel
theorem r27_8 : rowAt 27 8 = some (.invokevirtual 43, 3, 51, 0) := by decide +kernel
theorem r27_11 : rowAt 27 11 = some (.aload_n 0, 1, 0, 0) := by decide +kernel
theorem r27_12 : rowAt 27 12 = some (.getfield 35, 3, 4, 1) := by decide +kernel
theorem r27_15 : rowAt 27 15 = some (.aload_n 0, 1, 0, 0) := by decide +kernel
theorem r27_16 : rowAt 27 16 = some (.getfield 12, 3, 4, 3) := by decide +kernel
theorem r27_19 : rowAt 27 19 = some (.aload_n 1, 1, 0, 0) := by decide +kernel
theorem r27_20 : rowAt 27 20 = some (.iload_n 2, 1, 0, 0) := by decide +kernel
theorem r27_21 : rowAt 27 21 = some (.invokevirtual 47, 3, 78, 0) := by decide +kernel
theorem r27_24 : rowAt 27 24 = some (.iload_n 3, 1, 0, 0) := by decide +kernel
theorem r27_25 : rowAt 27 25 = some (.ifCond .ne 11, 3, 0, 0) := by decide +kernel
theorem r27_28 : rowAt 27 28 = some (.aload_n 0, 1, 0, 0) := by decide +kernel
theorem r27_29 : rowAt 27 29 = some (.getfield 12, 3, 4, 3) := by decide +kernel
theorem r27_32 : rowAt 27 32 = some (.getfield 53, 3, 5, 6) := by decide +kernel
theorem r27_35 : rowAt 27 35 = some (.ireturn, 1, 0, 0) := by decide +kernel
theorem r27_36 : rowAt 27 36 = some (.iload_n 3, 1, 0, 0) := by decide +kernel
theorem r27_37 : rowAt 27 37 = some (.iconst 1, 1, 0, 0) := by decide +kernel
theorem r27_38 : rowAt 27 38 = some (.if_icmp .ne 11, 3, 0, 0) := by decide +kernel
theorem r27_41 : rowAt 27 41 = some (.aload_n 0, 1, 0, 0) := by decide +kernel
theorem r27_42 : rowAt 27 42 = some (.getfield 35, 3, 4, 1) := by decide +kernel
theorem r27_45 : rowAt 27 45 = some (.getfield 57, 3, 7, 7) := by decide +kernel
theorem r27_48 : rowAt 27 48 = some (.ireturn, 1, 0, 0) := by decide +kernel
theorem r27_49 : rowAt 27 49 = some (.iload_n 3, 1, 0, 0) := by decide +kernel
theorem r27_50 : rowAt 27 50 = some (.iconst 2, 1, 0, 0) := by decide +kernel
theorem r27_51 : rowAt 27 51 = some (.isub, 1, 0, 0) := by decide +kernel
theorem r27_52 : rowAt 27 52 = some (.istore 4, 2, 0, 0) := by decide +kernel
theorem r27_54 : rowAt 27 54 = some (.aload_n 0, 1, 0, 0) := by decide +kernel
theorem r27_55 : rowAt 27 55 = some (.getfield 32, 3, 4, 0) := by decide +kernel
theorem r27_58 : rowAt 27 58 = some (.iload 4, 2, 0, 0) := by decide +kernel
theorem r27_60 : rowAt 27 60 = some (.invokevirtual 60, 3, 53, 0) := by decide +kernel
theorem r27_63 : rowAt 27 63 = some (.ifCond .eq 16, 3, 0, 0) := by decide +kernel
theorem r27_66 : rowAt 27 66 = some (.aload_n 0, 1, 0, 0) := by decide +kernel
theorem r27_67 : rowAt 27 67 = some (.getfield 12, 3, 4, 3) := by decide +kernel
theorem r27_70 : rowAt 27 70 = some (.getfield 64, 3, 5, 10) := by decide +kernel
theorem r27_73 : rowAt 27 73 = some (.iload 4, 2, 0, 0) := by decide +kernel
theorem r27_75 : rowAt 27 75 = some (.iaload, 1, 0, 0) := by decide +kernel
theorem r27_76 : rowAt 27 76 = some (.ifCond .lt 6, 3, 0, 0) := by decide +kernel
theorem r27_79 : rowAt 27 79 = some (.bipush (-2), 2, 0, 0) := by decide +kernel
theorem r27_81 : rowAt 27 81 = some (.ireturn, 1, 0, 0) := by decide +kernel
theorem r27_82 : rowAt 27 82 = some (.aload_n 0, 1, 0, 0) := by decide +kernel
theorem r27_83 : rowAt 27 83 = some (.getfield 32, 3, 4, 0) := by decide +kernel
theorem r27_86 : rowAt 27 86 = some (.getfield 64, 3, 5, 10) := by decide +kernel
theorem r27_89 : rowAt 27 89 = some (.iload 4, 2, 0, 0) := by decide +kernel
theorem r27_91 : rowAt 27 91 = some (.iaload, 1, 0, 0) := by decide +kernel
theorem r27_92 : rowAt 27 92 = some (.ifCond .ge 7, 3, 0, 0) := by decide +kernel
theorem r27_95 : rowAt 27 95 = some (.iconst 0, 1, 0, 0) := by decide +kernel
theorem r27_96 : rowAt 27 96 = some (.goto 21, 3, 0, 0) := by decide +kernel
theorem r27_99 : rowAt 27 99 = some (.aload_n 0, 1, 0, 0) := by decide +kernel
theorem r27_100 : rowAt 27 100 = some (.getfield 12, 3, 4, 3) := by decide +kernel
theorem r27_103 : rowAt 27 103 = some (.getfield 67, 3, 5, 13) := by decide +kernel
theorem r27_106 : rowAt 27 106 = some (.iload 4, 2, 0, 0) := by decide +kernel
theorem r27_108 : rowAt 27 108 = some (.iaload, 1, 0, 0) := by decide +kernel
theorem r27_109 : rowAt 27 109 = some (.aload_n 0, 1, 0, 0) := by decide +kernel
theorem r27_110 : rowAt 27 110 = some (.getfield 32, 3, 4, 0) := by decide +kernel
theorem r27_113 : rowAt 27 113 = some (.getfield 70, 3, 5, 5) := by decide +kernel
theorem r27_116 : rowAt 27 116 = some (.isub, 1, 0, 0) := by decide +kernel
theorem r27_117 : rowAt 27 117 = some (.ireturn, 1, 0, 0) := by decide +kernel
theorem en27 (a0 : Nat) (a1 : Nat) (a2 : Int32) (a3 : Int32) : iniL 27 [.ref a0, .ref a1, .int a2, .int a3] = [.ref a0, .ref a1, .int a2, .int a3, .null] := ini_n mi27 rfl
theorem b27_0 (d : Nat) (l0 : Nat) (l1 : Nat) (l2 : Int32) (l3 : Int32) (h : aH) (K : Option Value → aH → Prop) : E scr false (d + 1) 27 0 [.ref l0, .ref l1, .int l2, .int l3, .null] [] h K = gR scr h l0 4 3 (fun x1 : Nat => gR scr h l0 4 0 (fun x2 : Nat => vV scr d 51 [.ref x1, .ref x2] h (fun h3 : aH => gR scr h3 l0 4 1 (fun x5 : Nat => gR scr h3 l0 4 3 (fun x6 : Nat => vV scr d 78 [.ref x5, .ref x6, .ref l1, .int l2] h3 (fun h7 : aH => (if l3 = 0 then gR scr h7 l0 4 3 (fun x25 : Nat => gI scr h7 x25 5 6 (fun x26 : Int32 => K (some (.int x26)) h7)) else (if l3 = 1 then gR scr h7 l0 4 1 (fun x23 : Nat => gI scr h7 x23 7 7 (fun x24 : Int32 => K (some (.int x24)) h7)) else gR scr h7 l0 4 0 (fun x9 : Nat => vI scr d 53 [.ref x9, .int (l3 - 2)] h7 (fun (x11 : Int32) (h10 : aH) => (if x11 = 0 then K (some (.int (-2))) h10 else gR scr h10 l0 4 3 (fun x12 : Nat => gR scr h10 x12 5 10 (fun x13 : Nat => aI scr h10 x13 ((l3 - 2)) (fun x14 : Int32 => (if x14 < 0 then gR scr h10 l0 4 0 (fun x15 : Nat => gR scr h10 x15 5 10 (fun x16 : Nat => aI scr h10 x16 ((l3 - 2)) (fun x17 : Int32 => (if 0 ≤ x17 then gR scr h10 l0 4 3 (fun x18 : Nat => gR scr h10 x18 5 13 (fun x19 : Nat => aI scr h10 x19 ((l3 - 2)) (fun x20 : Int32 => gR scr h10 l0 4 0 (fun x21 : Nat => gI scr h10 x21 5 5 (fun x22 : Int32 => K (some (.int (x20 - x22))) h10))))) else K (some (.int 0)) h10)))) else K (some (.int (-2))) h10))))))))))))))) := go (w := (1, [.ref l0, .ref l1, .int l2, .int l3, .null], [.ref l0], h)) r27_0 rfl rfl (E_gR r27_1 rfl (fun x1 => go (w := (5, [.ref l0, .ref l1, .int l2, .int l3, .null], [.ref l0, .ref x1], h)) r27_4 rfl rfl (E_gR r27_5 rfl (fun x2 => E_vV r27_8 (As := [.ref x1, .ref x2]) (rest := []) (cut_n mi51.1 rfl rfl) (rm8_n mi51.2.1 (Nat.le_of_ble_eq_true rfl) (Nat.le_of_ble_eq_true rfl)) mi51.2.2 (fun h3 => go (w := (12, [.ref l0, .ref l1, .int l2, .int l3, .null], [.ref l0], h3)) r27_11 rfl rfl (E_gR r27_12 rfl (fun x5 => go (w := (16, [.ref l0, .ref l1, .int l2, .int l3, .null], [.ref l0, .ref x5], h3)) r27_15 rfl rfl (E_gR r27_16 rfl (fun x6 => go (w := (20, [.ref l0, .ref l1, .int l2, .int l3, .null], [.ref l1, .ref x6, .ref x5], h3)) r27_19 rfl rfl (go (w := (21, [.ref l0, .ref l1, .int l2, .int l3, .null], [.int l2, .ref l1, .ref x6, .ref x5], h3)) r27_20 rfl rfl (E_vV r27_21 (As := [.ref x5, .ref x6, .ref l1, .int l2]) (rest := []) (cut_n mi78.1 rfl rfl) (rm8_n mi78.2.1 (Nat.le_of_ble_eq_true rfl) (Nat.le_of_ble_eq_true rfl)) mi78.2.2 (fun h7 => go (w := (25, [.ref l0, .ref l1, .int l2, .int l3, .null], [.int l3], h7)) r27_24 rfl rfl (E_i1_ne r27_25 rfl (go (w := (37, [.ref l0, .ref l1, .int l2, .int l3, .null], [.int l3], h7)) r27_36 rfl rfl (E_ic r27_37 (v := 1) (by decide) (E_i2_ne r27_38 rfl (go (w := (50, [.ref l0, .ref l1, .int l2, .int l3, .null], [.int l3], h7)) r27_49 rfl rfl (E_ic r27_50 (v := 2) (by decide) (go (w := (52, [.ref l0, .ref l1, .int l2, .int l3, .null], [.int (l3 - 2)], h7)) r27_51 rfl rfl (go (w := (54, [.ref l0, .ref l1, .int l2, .int l3, .int (l3 - 2)], [], h7)) r27_52 rfl rfl (go (w := (55, [.ref l0, .ref l1, .int l2, .int l3, .int (l3 - 2)], [.ref l0], h7)) r27_54 rfl rfl (E_gR r27_55 rfl (fun x9 => go (w := (60, [.ref l0, .ref l1, .int l2, .int l3, .int (l3 - 2)], [.int (l3 - 2), .ref x9], h7)) r27_58 rfl rfl (E_vI r27_60 (As := [.ref x9, .int (l3 - 2)]) (rest := []) (cut_n mi53.1 rfl rfl) (rm8_n mi53.2.1 (Nat.le_of_ble_eq_true rfl) (Nat.le_of_ble_eq_true rfl)) mi53.2.2 (fun x11 h10 => E_i1_eq r27_63 rfl (E_bip r27_79 (v := (-2)) (by decide) (E_ri r27_81 (mq27))) (go (w := (67, [.ref l0, .ref l1, .int l2, .int l3, .int (l3 - 2)], [.ref l0], h10)) r27_66 rfl rfl (E_gR r27_67 rfl (fun x12 => E_gR r27_70 rfl (fun x13 => go (w := (75, [.ref l0, .ref l1, .int l2, .int l3, .int (l3 - 2)], [.int (l3 - 2), .ref x13], h10)) r27_73 rfl rfl (E_aI r27_75 (fun x14 => E_i1_lt r27_76 rfl (go (w := (83, [.ref l0, .ref l1, .int l2, .int l3, .int (l3 - 2)], [.ref l0], h10)) r27_82 rfl rfl (E_gR r27_83 rfl (fun x15 => E_gR r27_86 rfl (fun x16 => go (w := (91, [.ref l0, .ref l1, .int l2, .int l3, .int (l3 - 2)], [.int (l3 - 2), .ref x16], h10)) r27_89 rfl rfl (E_aI r27_91 (fun x17 => E_i1_ge r27_92 rfl (go (w := (100, [.ref l0, .ref l1, .int l2, .int l3, .int (l3 - 2)], [.ref l0], h10)) r27_99 rfl rfl (E_gR r27_100 rfl (fun x18 => E_gR r27_103 rfl (fun x19 => go (w := (108, [.ref l0, .ref l1, .int l2, .int l3, .int (l3 - 2)], [.int (l3 - 2), .ref x19], h10)) r27_106 rfl rfl (E_aI r27_108 (fun x20 => go (w := (110, [.ref l0, .ref l1, .int l2, .int l3, .int (l3 - 2)], [.ref l0, .int x20], h10)) r27_109 rfl rfl (E_gR r27_110 rfl (fun x21 => E_gI r27_113 rfl (fun x22 => go (w := (117, [.ref l0, .ref l1, .int l2, .int l3, .int (l3 - 2)], [.int (x20 - x22)], h10)) r27_116 rfl rfl (E_ri r27_117 (mq27))))))))))) (E_ic r27_95 (v := 0) (by decide) (E_gt r27_96 rfl (E_ri r27_117 (mq27)))))))))) (E_bip r27_79 (v := (-2)) (by decide) (E_ri r27_81 (mq27)))))))))))))))))) (go (w := (42, [.ref l0, .ref l1, .int l2, .int l3, .null], [.ref l0], h7)) r27_41 rfl rfl (E_gR r27_42 rfl (fun x23 => E_gI r27_45 rfl (fun x24 => E_ri r27_48 (mq27)))))))) (go (w := (29, [.ref l0, .ref l1, .int l2, .int l3, .null], [.ref l0], h7)) r27_28 rfl rfl (E_gR r27_29 rfl (fun x25 => E_gI r27_32 rfl (fun x26 => E_ri r27_35 (mq27))))))))))))))))))
