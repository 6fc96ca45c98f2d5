variable {scr : List Int32}
-- 164 SecondNearestModel.isFull(II)Z
theorem mq164 : mRet 164 = (some .boolean) := by decide +kernel
theorem r164_0 : rowAt 164 0 = some (.aload_n 0, 1, 0, 0) := by decide +kernel
theorem r164_1 : rowAt 164 1 = some (.getfield 22, 3, 9, 5) := by decide +kernel
theorem r164_4 : rowAt 164 4 = some (.iconst 2, 1, 0, 0) := by decide +kernel
theorem r164_5 : rowAt 164 5 = some (.iaload, 1, 0, 0) := by decide +kernel
theorem r164_6 : rowAt 164 6 = some (.aload_n 0, 1, 0, 0) := by decide +kernel
theorem r164_7 : rowAt 164 7 = some (.getfield 22, 3, 9, 5) := by decide +kernel
theorem r164_10 : rowAt 164 10 = some (.iconst 3, 1, 0, 0) := by decide +kernel
theorem r164_11 : rowAt 164 11 = some (.iaload, 1, 0, 0) := by decide +kernel
theorem r164_12 : rowAt 164 12 = some (.iadd, 1, 0, 0) := by decide +kernel
theorem r164_13 : rowAt 164 13 = some (.ifCond .le 7, 3, 0, 0) := by decide +kernel
theorem r164_16 : rowAt 164 16 = some (.iconst 1, 1, 0, 0) := by decide +kernel
theorem r164_17 : rowAt 164 17 = some (.goto 4, 3, 0, 0) := by decide +kernel
theorem r164_20 : rowAt 164 20 = some (.iconst 0, 1, 0, 0) := by decide +kernel
theorem r164_21 : rowAt 164 21 = some (.istore_n 3, 1, 0, 0) := by decide +kernel
theorem r164_22 : rowAt 164 22 = some (.iload_n 2, 1, 0, 0) := by decide +kernel
theorem r164_23 : rowAt 164 23 = some (.bipush 32, 2, 0, 0) := by decide +kernel
theorem r164_25 : rowAt 164 25 = some (.if_icmp .ne 5, 3, 0, 0) := by decide +kernel
theorem r164_28 : rowAt 164 28 = some (.iconst 1, 1, 0, 0) := by decide +kernel
theorem r164_29 : rowAt 164 29 = some (.ireturn, 1, 0, 0) := by decide +kernel
theorem r164_30 : rowAt 164 30 = some (.iload_n 1, 1, 0, 0) := by decide +kernel
theorem r164_31 : rowAt 164 31 = some (.ifCond .ne 24, 3, 0, 0) := by decide +kernel
theorem r164_34 : rowAt 164 34 = some (.iload_n 3, 1, 0, 0) := by decide +kernel
theorem r164_35 : rowAt 164 35 = some (.ifCond .ne 14, 3, 0, 0) := by decide +kernel
theorem r164_38 : rowAt 164 38 = some (.aload_n 0, 1, 0, 0) := by decide +kernel
theorem r164_39 : rowAt 164 39 = some (.getfield 22, 3, 9, 5) := by decide +kernel
theorem r164_42 : rowAt 164 42 = some (.iconst 1, 1, 0, 0) := by decide +kernel
theorem r164_43 : rowAt 164 43 = some (.iaload, 1, 0, 0) := by decide +kernel
theorem r164_44 : rowAt 164 44 = some (.bipush 12, 2, 0, 0) := by decide +kernel
theorem r164_46 : rowAt 164 46 = some (.if_icmp .ne 7, 3, 0, 0) := by decide +kernel
theorem r164_49 : rowAt 164 49 = some (.iconst 1, 1, 0, 0) := by decide +kernel
theorem r164_50 : rowAt 164 50 = some (.goto 4, 3, 0, 0) := by decide +kernel
theorem r164_53 : rowAt 164 53 = some (.iconst 0, 1, 0, 0) := by decide +kernel
theorem r164_54 : rowAt 164 54 = some (.ireturn, 1, 0, 0) := by decide +kernel
theorem r164_55 : rowAt 164 55 = some (.aload_n 0, 1, 0, 0) := by decide +kernel
theorem r164_56 : rowAt 164 56 = some (.getfield 22, 3, 9, 5) := by decide +kernel
theorem r164_59 : rowAt 164 59 = some (.iconst 1, 1, 0, 0) := by decide +kernel
theorem r164_60 : rowAt 164 60 = some (.iaload, 1, 0, 0) := by decide +kernel
theorem r164_61 : rowAt 164 61 = some (.ifCond .eq 32, 3, 0, 0) := by decide +kernel
theorem r164_64 : rowAt 164 64 = some (.iload_n 1, 1, 0, 0) := by decide +kernel
theorem r164_65 : rowAt 164 65 = some (.iconst 1, 1, 0, 0) := by decide +kernel
theorem r164_66 : rowAt 164 66 = some (.if_icmp .ne 17, 3, 0, 0) := by decide +kernel
theorem r164_69 : rowAt 164 69 = some (.aload_n 0, 1, 0, 0) := by decide +kernel
theorem r164_70 : rowAt 164 70 = some (.getfield 22, 3, 9, 5) := by decide +kernel
theorem r164_73 : rowAt 164 73 = some (.iconst 2, 1, 0, 0) := by decide +kernel
theorem r164_74 : rowAt 164 74 = some (.iaload, 1, 0, 0) := by decide +kernel
theorem r164_75 : rowAt 164 75 = some (.bipush 12, 2, 0, 0) := by decide +kernel
theorem r164_77 : rowAt 164 77 = some (.if_icmp .ne 20, 3, 0, 0) := by decide +kernel
theorem r164_80 : rowAt 164 80 = some (.goto 13, 3, 0, 0) := by decide +kernel
theorem r164_83 : rowAt 164 83 = some (.aload_n 0, 1, 0, 0) := by decide +kernel
theorem r164_84 : rowAt 164 84 = some (.getfield 22, 3, 9, 5) := by decide +kernel
theorem r164_87 : rowAt 164 87 = some (.iconst 3, 1, 0, 0) := by decide +kernel
theorem r164_88 : rowAt 164 88 = some (.iaload, 1, 0, 0) := by decide +kernel
theorem r164_89 : rowAt 164 89 = some (.iconst 2, 1, 0, 0) := by decide +kernel
theorem r164_90 : rowAt 164 90 = some (.if_icmp .ne 7, 3, 0, 0) := by decide +kernel
theorem r164_93 : rowAt 164 93 = some (.iconst 1, 1, 0, 0) := by decide +kernel
theorem r164_94 : rowAt 164 94 = some (.goto 4, 3, 0, 0) := by decide +kernel
theorem r164_97 : rowAt 164 97 = some (.iconst 0, 1, 0, 0) := by decide +kernel
theorem r164_98 : rowAt 164 98 = some (.ireturn, 1, 0, 0) := by decide +kernel
theorem en164 (a0 : Nat) (a1 : Int32) (a2 : Int32) : iniL 164 [.ref a0, .int a1, .int a2] = [.ref a0, .int a1, .int a2, .null] := ini_n mi164 rfl
theorem b164_0 (d : Nat) (l0 : Nat) (l1 : Int32) (l2 : Int32) (h : aH) (K : Option Value → aH → Prop) : E scr false d 164 0 [.ref l0, .int l1, .int l2, .null] [] h K = gR scr h l0 9 5 (fun x1 : Nat => aI scr h x1 2 (fun x2 : Int32 => gR scr h l0 9 5 (fun x3 : Nat => aI scr h x3 3 (fun x4 : Int32 => (if (x2 + x4) ≤ 0 then E scr false d 164 21 [.ref l0, .int l1, .int l2, .null] [.int 0] h K else E scr false d 164 21 [.ref l0, .int l1, .int l2, .null] [.int 1] h K))))) := go (w := (1, [.ref l0, .int l1, .int l2, .null], [.ref l0], h)) r164_0 rfl rfl (E_gR r164_1 rfl (fun x1 => E_ic r164_4 (v := 2) (by decide) (E_aI r164_5 (fun x2 => go (w := (7, [.ref l0, .int l1, .int l2, .null], [.ref l0, .int x2], h)) r164_6 rfl rfl (E_gR r164_7 rfl (fun x3 => E_ic r164_10 (v := 3) (by decide) (E_aI r164_11 (fun x4 => go (w := (13, [.ref l0, .int l1, .int l2, .null], [.int (x2 + x4)], h)) r164_12 rfl rfl (E_i1_le r164_13 rfl (E_ic r164_20 (v := 0) (by decide) (rfl)) (E_ic r164_16 (v := 1) (by decide) (E_gt r164_17 rfl (rfl))))))))))))
theorem b164_21 (d : Nat) (l0 : Nat) (l1 : Int32) (l2 : Int32) (s0 : Int32) (h : aH) (K : Option Value → aH → Prop) : E scr false d 164 21 [.ref l0, .int l1, .int l2, .null] [.int s0] h K = (if l2 = 32 then K (some (.int 1)) h else (if l1 = 0 then (if s0 = 0 then gR scr h l0 9 5 (fun x7 : Nat => aI scr h x7 1 (fun x8 : Int32 => (if x8 = 12 then E scr false d 164 49 [.ref l0, .int l1, .int l2, .int s0] [] h K else K (some (.int 0)) h))) else E scr false d 164 49 [.ref l0, .int l1, .int l2, .int s0] [] h K) else gR scr h l0 9 5 (fun x1 : Nat => aI scr h x1 1 (fun x2 : Int32 => (if x2 = 0 then E scr false d 164 93 [.ref l0, .int l1, .int l2, .int s0] [] h K else (if l1 = 1 then gR scr h l0 9 5 (fun x5 : Nat => aI scr h x5 2 (fun x6 : Int32 => (if x6 = 12 then E scr false d 164 93 [.ref l0, .int l1, .int l2, .int s0] [] h K else K (some (.int 0)) h))) else gR scr h l0 9 5 (fun x3 : Nat => aI scr h x3 3 (fun x4 : Int32 => (if x4 = 2 then E scr false d 164 93 [.ref l0, .int l1, .int l2, .int s0] [] h K else K (some (.int 0)) h))))))))) := go (w := (22, [.ref l0, .int l1, .int l2, .int s0], [], h)) r164_21 rfl rfl (go (w := (23, [.ref l0, .int l1, .int l2, .int s0], [.int l2], h)) r164_22 rfl rfl (E_bip r164_23 (v := 32) (by decide) (E_i2_ne r164_25 rfl (go (w := (31, [.ref l0, .int l1, .int l2, .int s0], [.int l1], h)) r164_30 rfl rfl (E_i1_ne r164_31 rfl (go (w := (56, [.ref l0, .int l1, .int l2, .int s0], [.ref l0], h)) r164_55 rfl rfl (E_gR r164_56 rfl (fun x1 => E_ic r164_59 (v := 1) (by decide) (E_aI r164_60 (fun x2 => E_i1_eq r164_61 rfl (rfl) (go (w := (65, [.ref l0, .int l1, .int l2, .int s0], [.int l1], h)) r164_64 rfl rfl (E_ic r164_65 (v := 1) (by decide) (E_i2_ne r164_66 rfl (go (w := (84, [.ref l0, .int l1, .int l2, .int s0], [.ref l0], h)) r164_83 rfl rfl (E_gR r164_84 rfl (fun x3 => E_ic r164_87 (v := 3) (by decide) (E_aI r164_88 (fun x4 => E_ic r164_89 (v := 2) (by decide) (E_i2_ne r164_90 rfl (E_ic r164_97 (v := 0) (by decide) (E_rz r164_98 (mq164) (by decide))) (rfl))))))) (go (w := (70, [.ref l0, .int l1, .int l2, .int s0], [.ref l0], h)) r164_69 rfl rfl (E_gR r164_70 rfl (fun x5 => E_ic r164_73 (v := 2) (by decide) (E_aI r164_74 (fun x6 => E_bip r164_75 (v := 12) (by decide) (E_i2_ne r164_77 rfl (E_ic r164_97 (v := 0) (by decide) (E_rz r164_98 (mq164) (by decide))) (E_gt r164_80 rfl (rfl)))))))))))))))) (go (w := (35, [.ref l0, .int l1, .int l2, .int s0], [.int s0], h)) r164_34 rfl rfl (E_i1_ne r164_35 rfl (rfl) (go (w := (39, [.ref l0, .int l1, .int l2, .int s0], [.ref l0], h)) r164_38 rfl rfl (E_gR r164_39 rfl (fun x7 => E_ic r164_42 (v := 1) (by decide) (E_aI r164_43 (fun x8 => E_bip r164_44 (v := 12) (by decide) (E_i2_ne r164_46 rfl (E_ic r164_53 (v := 0) (by decide) (E_rz r164_54 (mq164) (by decide))) (rfl))))))))))) (E_ic r164_28 (v := 1) (by decide) (E_rz r164_29 (mq164) (by decide))))))
theorem b164_49 (d : Nat) (l0 : Nat) (l1 : Int32) (l2 : Int32) (l3 : Int32) (h : aH) (K : Option Value → aH → Prop) : E scr false d 164 49 [.ref l0, .int l1, .int l2, .int l3] [] h K = K (some (.int 1)) h := E_ic r164_49 (v := 1) (by decide) (E_gt r164_50 rfl (E_rz r164_54 (mq164) (by decide)))
theorem b164_93 (d : Nat) (l0 : Nat) (l1 : Int32) (l2 : Int32) (l3 : Int32) (h : aH) (K : Option Value → aH → Prop) : E scr false d 164 93 [.ref l0, .int l1, .int l2, .int l3] [] h K = K (some (.int 1)) h := E_ic r164_93 (v := 1) (by decide) (E_gt r164_94 rfl (E_rz r164_98 (mq164) (by decide)))
-- 165 SecondNearestModel.plainClause(I)V
theorem mq165 : mRet 165 = none := by decide +kernel
theorem r165_0 : rowAt 165 0 = some (.aload_n 0, 1, 0, 0) := by decide +kernel
theorem r165_1 : rowAt 165 1 = some (.invokevirtual 243, 3, 144, 0) := by decide +kernel
theorem r165_4 : rowAt 165 4 = some (.aload_n 0, 1, 0, 0) := by decide +kernel
theorem r165_5 : rowAt 165 5 = some (.getfield 223, 3, 9, 20) := by decide +kernel
theorem r165_8 : rowAt 165 8 = some (.istore_n 2, 1, 0, 0) := by decide +kernel
theorem r165_9 : rowAt 165 9 = some (.aload_n 0, 1, 0, 0) := by decide +kernel
theorem r165_10 : rowAt 165 10 = some (.ldc_w 323, 3, 6, 1) := by decide +kernel
theorem r165_13 : rowAt 165 13 = some (.invokevirtual 246, 3, 146, 0) := by decide +kernel
theorem r165_16 : rowAt 165 16 = some (.ifCond .eq 7, 3, 0, 0) := by decide +kernel
theorem r165_19 : rowAt 165 19 = some (.iconst 0, 1, 0, 0) := by decide +kernel
theorem r165_20 : rowAt 165 20 = some (.goto 32, 3, 0, 0) := by decide +kernel
theorem r165_23 : rowAt 165 23 = some (.aload_n 0, 1, 0, 0) := by decide +kernel
theorem r165_24 : rowAt 165 24 = some (.ldc_w 324, 3, 7, 1) := by decide +kernel
theorem r165_27 : rowAt 165 27 = some (.invokevirtual 246, 3, 146, 0) := by decide +kernel
theorem r165_30 : rowAt 165 30 = some (.ifCond .eq 7, 3, 0, 0) := by decide +kernel
theorem r165_33 : rowAt 165 33 = some (.iconst 1, 1, 0, 0) := by decide +kernel
theorem r165_34 : rowAt 165 34 = some (.goto 18, 3, 0, 0) := by decide +kernel
theorem r165_37 : rowAt 165 37 = some (.aload_n 0, 1, 0, 0) := by decide +kernel
theorem r165_38 : rowAt 165 38 = some (.ldc_w 326, 3, 8, 1) := by decide +kernel
theorem r165_41 : rowAt 165 41 = some (.invokevirtual 246, 3, 146, 0) := by decide +kernel
theorem r165_44 : rowAt 165 44 = some (.ifCond .eq 7, 3, 0, 0) := by decide +kernel
theorem r165_47 : rowAt 165 47 = some (.iconst 2, 1, 0, 0) := by decide +kernel
theorem r165_48 : rowAt 165 48 = some (.goto 4, 3, 0, 0) := by decide +kernel
theorem r165_51 : rowAt 165 51 = some (.iconst (-1), 1, 0, 0) := by decide +kernel
theorem r165_52 : rowAt 165 52 = some (.istore_n 3, 1, 0, 0) := by decide +kernel
theorem r165_53 : rowAt 165 53 = some (.iload_n 3, 1, 0, 0) := by decide +kernel
theorem r165_54 : rowAt 165 54 = some (.iconst (-1), 1, 0, 0) := by decide +kernel
theorem r165_55 : rowAt 165 55 = some (.if_icmp .ne 10, 3, 0, 0) := by decide +kernel
theorem r165_58 : rowAt 165 58 = some (.aload_n 0, 1, 0, 0) := by decide +kernel
theorem r165_59 : rowAt 165 59 = some (.iconst 0, 1, 0, 0) := by decide +kernel
theorem r165_60 : rowAt 165 60 = some (.iload_n 2, 1, 0, 0) := by decide +kernel
theorem r165_61 : rowAt 165 61 = some (.invokevirtual 259, 3, 142, 0) := by decide +kernel
theorem r165_64 : rowAt 165 64 = some (.return_, 1, 0, 0) := by decide +kernel
theorem r165_65 : rowAt 165 65 = some (.aload_n 0, 1, 0, 0) := by decide +kernel
theorem r165_66 : rowAt 165 66 = some (.iload_n 3, 1, 0, 0) := by decide +kernel
theorem r165_67 : rowAt 165 67 = some (.iload_n 1, 1, 0, 0) := by decide +kernel
theorem r165_68 : rowAt 165 68 = some (.invokevirtual 328, 3, 164, 0) := by decide +kernel
theorem r165_71 : rowAt 165 71 = some (.ifCond .eq 10, 3, 0, 0) := by decide +kernel
theorem r165_74 : rowAt 165 74 = some (.aload_n 0, 1, 0, 0) := by decide +kernel
theorem r165_75 : rowAt 165 75 = some (.iconst 4, 1, 0, 0) := by decide +kernel
theorem r165_76 : rowAt 165 76 = some (.iload_n 2, 1, 0, 0) := by decide +kernel
theorem r165_77 : rowAt 165 77 = some (.invokevirtual 259, 3, 142, 0) := by decide +kernel
theorem r165_80 : rowAt 165 80 = some (.return_, 1, 0, 0) := by decide +kernel
theorem r165_81 : rowAt 165 81 = some (.aload_n 0, 1, 0, 0) := by decide +kernel
theorem r165_82 : rowAt 165 82 = some (.dup, 1, 0, 0) := by decide +kernel
theorem r165_83 : rowAt 165 83 = some (.getfield 223, 3, 9, 20) := by decide +kernel
theorem r165_86 : rowAt 165 86 = some (.iload_n 3, 1, 0, 0) := by decide +kernel
theorem r165_87 : rowAt 165 87 = some (.ifCond .ne 7, 3, 0, 0) := by decide +kernel
theorem r165_90 : rowAt 165 90 = some (.iconst 3, 1, 0, 0) := by decide +kernel
theorem r165_91 : rowAt 165 91 = some (.goto 5, 3, 0, 0) := by decide +kernel
theorem r165_94 : rowAt 165 94 = some (.bipush 6, 2, 0, 0) := by decide +kernel
theorem r165_96 : rowAt 165 96 = some (.iadd, 1, 0, 0) := by decide +kernel
theorem r165_97 : rowAt 165 97 = some (.putfield 223, 3, 9, 20) := by decide +kernel
theorem r165_100 : rowAt 165 100 = some (.iload_n 3, 1, 0, 0) := by decide +kernel
theorem r165_101 : rowAt 165 101 = some (.ifCond .ne 8, 3, 0, 0) := by decide +kernel
theorem r165_104 : rowAt 165 104 = some (.aload_n 0, 1, 0, 0) := by decide +kernel
theorem r165_105 : rowAt 165 105 = some (.invokevirtual 331, 3, 162, 0) := by decide +kernel
theorem r165_108 : rowAt 165 108 = some (.return_, 1, 0, 0) := by decide +kernel
theorem r165_109 : rowAt 165 109 = some (.aload_n 0, 1, 0, 0) := by decide +kernel
theorem r165_110 : rowAt 165 110 = some (.invokevirtual 334, 3, 163, 0) := by decide +kernel
theorem r165_113 : rowAt 165 113 = some (.istore 4, 2, 0, 0) := by decide +kernel
theorem r165_115 : rowAt 165 115 = some (.iload_n 3, 1, 0, 0) := by decide +kernel
theorem r165_116 : rowAt 165 116 = some (.iconst 1, 1, 0, 0) := by decide +kernel
theorem r165_117 : rowAt 165 117 = some (.if_icmp .ne 61, 3, 0, 0) := by decide +kernel
theorem r165_120 : rowAt 165 120 = some (.aload_n 0, 1, 0, 0) := by decide +kernel
theorem r165_121 : rowAt 165 121 = some (.getfield 22, 3, 9, 5) := by decide +kernel
theorem r165_124 : rowAt 165 124 = some (.iconst 2, 1, 0, 0) := by decide +kernel
theorem r165_125 : rowAt 165 125 = some (.iaload, 1, 0, 0) := by decide +kernel
theorem r165_126 : rowAt 165 126 = some (.istore 5, 2, 0, 0) := by decide +kernel
theorem r165_128 : rowAt 165 128 = some (.aload_n 0, 1, 0, 0) := by decide +kernel
theorem r165_129 : rowAt 165 129 = some (.getfield 28, 3, 9, 7) := by decide +kernel
theorem r165_132 : rowAt 165 132 = some (.iload 5, 2, 0, 0) := by decide +kernel
theorem r165_134 : rowAt 165 134 = some (.aload_n 0, 1, 0, 0) := by decide +kernel
theorem r165_135 : rowAt 165 135 = some (.iconst 0, 1, 0, 0) := by decide +kernel
theorem r165_136 : rowAt 165 136 = some (.bipush 99, 2, 0, 0) := by decide +kernel
theorem r165_138 : rowAt 165 138 = some (.invokevirtual 320, 3, 160, 0) := by decide +kernel
theorem r165_141 : rowAt 165 141 = some (.iastore, 1, 0, 0) := by decide +kernel
theorem r165_142 : rowAt 165 142 = some (.aload_n 0, 1, 0, 0) := by decide +kernel
theorem r165_143 : rowAt 165 143 = some (.getfield 31, 3, 9, 8) := by decide +kernel
theorem r165_146 : rowAt 165 146 = some (.iload 5, 2, 0, 0) := by decide +kernel
theorem r165_148 : rowAt 165 148 = some (.aload_n 0, 1, 0, 0) := by decide +kernel
theorem r165_149 : rowAt 165 149 = some (.iconst 0, 1, 0, 0) := by decide +kernel
theorem r165_150 : rowAt 165 150 = some (.bipush 9, 2, 0, 0) := by decide +kernel
theorem r165_152 : rowAt 165 152 = some (.invokevirtual 320, 3, 160, 0) := by decide +kernel
theorem r165_155 : rowAt 165 155 = some (.iastore, 1, 0, 0) := by decide +kernel
theorem r165_156 : rowAt 165 156 = some (.aload_n 0, 1, 0, 0) := by decide +kernel
theorem r165_157 : rowAt 165 157 = some (.getfield 34, 3, 9, 9) := by decide +kernel
theorem r165_160 : rowAt 165 160 = some (.iload 5, 2, 0, 0) := by decide +kernel
theorem r165_162 : rowAt 165 162 = some (.iload 4, 2, 0, 0) := by decide +kernel
theorem r165_164 : rowAt 165 164 = some (.iastore, 1, 0, 0) := by decide +kernel
theorem r165_165 : rowAt 165 165 = some (.aload_n 0, 1, 0, 0) := by decide +kernel
theorem r165_166 : rowAt 165 166 = some (.getfield 22, 3, 9, 5) := by decide +kernel
theorem r165_169 : rowAt 165 169 = some (.iconst 2, 1, 0, 0) := by decide +kernel
theorem r165_170 : rowAt 165 170 = some (.dup2, 1, 0, 0) := by decide +kernel
theorem r165_171 : rowAt 165 171 = some (.iaload, 1, 0, 0) := by decide +kernel
theorem r165_172 : rowAt 165 172 = some (.iconst 1, 1, 0, 0) := by decide +kernel
theorem r165_173 : rowAt 165 173 = some (.iadd, 1, 0, 0) := by decide +kernel
theorem r165_174 : rowAt 165 174 = some (.iastore, 1, 0, 0) := by decide +kernel
theorem r165_175 : rowAt 165 175 = some (.goto 29, 3, 0, 0) := by decide +kernel
theorem r165_178 : rowAt 165 178 = some (.aload_n 0, 1, 0, 0) := by decide +kernel
theorem r165_179 : rowAt 165 179 = some (.getfield 34, 3, 9, 9) := by decide +kernel
theorem r165_182 : rowAt 165 182 = some (.bipush 12, 2, 0, 0) := by decide +kernel
theorem r165_184 : rowAt 165 184 = some (.aload_n 0, 1, 0, 0) := by decide +kernel
theorem r165_185 : rowAt 165 185 = some (.getfield 22, 3, 9, 5) := by decide +kernel
theorem r165_188 : rowAt 165 188 = some (.iconst 3, 1, 0, 0) := by decide +kernel
theorem r165_189 : rowAt 165 189 = some (.iaload, 1, 0, 0) := by decide +kernel
theorem r165_190 : rowAt 165 190 = some (.iadd, 1, 0, 0) := by decide +kernel
theorem r165_191 : rowAt 165 191 = some (.iload 4, 2, 0, 0) := by decide +kernel
theorem r165_193 : rowAt 165 193 = some (.iastore, 1, 0, 0) := by decide +kernel
theorem r165_194 : rowAt 165 194 = some (.aload_n 0, 1, 0, 0) := by decide +kernel
theorem r165_195 : rowAt 165 195 = some (.getfield 22, 3, 9, 5) := by decide +kernel
theorem r165_198 : rowAt 165 198 = some (.iconst 3, 1, 0, 0) := by decide +kernel
theorem r165_199 : rowAt 165 199 = some (.dup2, 1, 0, 0) := by decide +kernel
theorem r165_200 : rowAt 165 200 = some (.iaload, 1, 0, 0) := by decide +kernel
theorem r165_201 : rowAt 165 201 = some (.iconst 1, 1, 0, 0) := by decide +kernel
theorem r165_202 : rowAt 165 202 = some (.iadd, 1, 0, 0) := by decide +kernel
theorem r165_203 : rowAt 165 203 = some (.iastore, 1, 0, 0) := by decide +kernel
theorem r165_204 : rowAt 165 204 = some (.return_, 1, 0, 0) := by decide +kernel
theorem en165 (a0 : Nat) (a1 : Int32) : iniL 165 [.ref a0, .int a1] = [.ref a0, .int a1, .null, .null, .null, .null] := ini_n mi165 rfl
theorem b165_0 (d : Nat) (l0 : Nat) (l1 : Int32) (h : aH) (K : Option Value → aH → Prop) : E scr false (d + 1) 165 0 [.ref l0, .int l1, .null, .null, .null, .null] [] h K = vV scr d 144 [.ref l0] h (fun h1 : aH => gI scr h1 l0 9 20 (fun x3 : Int32 => vI scr d 146 [.ref l0, .ref 20006] h1 (fun (x5 : Int32) (h4 : aH) => (if x5 = 0 then vI scr d 146 [.ref l0, .ref 20007] h4 (fun (x7 : Int32) (h6 : aH) => (if x7 = 0 then vI scr d 146 [.ref l0, .ref 20008] h6 (fun (x9 : Int32) (h8 : aH) => (if x9 = 0 then E scr false (d + 1) 165 52 [.ref l0, .int l1, .int x3, .null, .null, .null] [.int (-1)] h8 K else E scr false (d + 1) 165 52 [.ref l0, .int l1, .int x3, .null, .null, .null] [.int 2] h8 K)) else E scr false (d + 1) 165 52 [.ref l0, .int l1, .int x3, .null, .null, .null] [.int 1] h6 K)) else E scr false (d + 1) 165 52 [.ref l0, .int l1, .int x3, .null, .null, .null] [.int 0] h4 K)))) := go (w := (1, [.ref l0, .int l1, .null, .null, .null, .null], [.ref l0], h)) r165_0 rfl rfl (E_vV r165_1 (As := [.ref l0]) (rest := []) (cut_n mi144.1 rfl rfl) (rm8_n mi144.2.1 (Nat.le_of_ble_eq_true rfl) (Nat.le_of_ble_eq_true rfl)) mi144.2.2 (fun h1 => go (w := (5, [.ref l0, .int l1, .null, .null, .null, .null], [.ref l0], h1)) r165_4 rfl rfl (E_gI r165_5 rfl (fun x3 => go (w := (9, [.ref l0, .int l1, .int x3, .null, .null, .null], [], h1)) r165_8 rfl rfl (go (w := (10, [.ref l0, .int l1, .int x3, .null, .null, .null], [.ref l0], h1)) r165_9 rfl rfl (E_ldsw r165_10 (v := 20006) rfl (E_vI r165_13 (As := [.ref l0, .ref 20006]) (rest := []) (cut_n mi146.1 rfl rfl) (rm8_n mi146.2.1 (Nat.le_of_ble_eq_true rfl) (Nat.le_of_ble_eq_true rfl)) mi146.2.2 (fun x5 h4 => E_i1_eq r165_16 rfl (go (w := (24, [.ref l0, .int l1, .int x3, .null, .null, .null], [.ref l0], h4)) r165_23 rfl rfl (E_ldsw r165_24 (v := 20007) rfl (E_vI r165_27 (As := [.ref l0, .ref 20007]) (rest := []) (cut_n mi146.1 rfl rfl) (rm8_n mi146.2.1 (Nat.le_of_ble_eq_true rfl) (Nat.le_of_ble_eq_true rfl)) mi146.2.2 (fun x7 h6 => E_i1_eq r165_30 rfl (go (w := (38, [.ref l0, .int l1, .int x3, .null, .null, .null], [.ref l0], h6)) r165_37 rfl rfl (E_ldsw r165_38 (v := 20008) rfl (E_vI r165_41 (As := [.ref l0, .ref 20008]) (rest := []) (cut_n mi146.1 rfl rfl) (rm8_n mi146.2.1 (Nat.le_of_ble_eq_true rfl) (Nat.le_of_ble_eq_true rfl)) mi146.2.2 (fun x9 h8 => E_i1_eq r165_44 rfl (E_ic r165_51 (v := (-1)) (by decide) (rfl)) (E_ic r165_47 (v := 2) (by decide) (E_gt r165_48 rfl (rfl))))))) (E_ic r165_33 (v := 1) (by decide) (E_gt r165_34 rfl (rfl))))))) (E_ic r165_19 (v := 0) (by decide) (E_gt r165_20 rfl (rfl)))))))))))
theorem b165_52 (d : Nat) (l0 : Nat) (l1 : Int32) (l2 : Int32) (s0 : Int32) (h : aH) (K : Option Value → aH → Prop) : E scr false (d + 1) 165 52 [.ref l0, .int l1, .int l2, .null, .null, .null] [.int s0] h K = (if s0 = (-1) then vV scr d 142 [.ref l0, .int 0, .int l2] h (fun h6 : aH => K none h6) else vI scr d 164 [.ref l0, .int s0, .int l1] h (fun (x2 : Int32) (h1 : aH) => (if x2 = 0 then gI scr h1 l0 9 20 (fun x3 : Int32 => (if s0 = 0 then E scr false (d + 1) 165 96 [.ref l0, .int l1, .int l2, .int s0, .null, .null] [.int 3, .int x3, .ref l0] h1 K else E scr false (d + 1) 165 96 [.ref l0, .int l1, .int l2, .int s0, .null, .null] [.int 6, .int x3, .ref l0] h1 K)) else vV scr d 142 [.ref l0, .int 4, .int l2] h1 (fun h4 : aH => K none h4)))) := go (w := (53, [.ref l0, .int l1, .int l2, .int s0, .null, .null], [], h)) r165_52 rfl rfl (go (w := (54, [.ref l0, .int l1, .int l2, .int s0, .null, .null], [.int s0], h)) r165_53 rfl rfl (E_ic r165_54 (v := (-1)) (by decide) (E_i2_ne r165_55 rfl (go (w := (66, [.ref l0, .int l1, .int l2, .int s0, .null, .null], [.ref l0], h)) r165_65 rfl rfl (go (w := (67, [.ref l0, .int l1, .int l2, .int s0, .null, .null], [.int s0, .ref l0], h)) r165_66 rfl rfl (go (w := (68, [.ref l0, .int l1, .int l2, .int s0, .null, .null], [.int l1, .int s0, .ref l0], h)) r165_67 rfl rfl (E_vI r165_68 (As := [.ref l0, .int s0, .int l1]) (rest := []) (cut_n mi164.1 rfl rfl) (rm8_n mi164.2.1 (Nat.le_of_ble_eq_true rfl) (Nat.le_of_ble_eq_true rfl)) mi164.2.2 (fun x2 h1 => E_i1_eq r165_71 rfl (go (w := (82, [.ref l0, .int l1, .int l2, .int s0, .null, .null], [.ref l0], h1)) r165_81 rfl rfl (go (w := (83, [.ref l0, .int l1, .int l2, .int s0, .null, .null], [.ref l0, .ref l0], h1)) r165_82 rfl rfl (E_gI r165_83 rfl (fun x3 => go (w := (87, [.ref l0, .int l1, .int l2, .int s0, .null, .null], [.int s0, .int x3, .ref l0], h1)) r165_86 rfl rfl (E_i1_ne r165_87 rfl (E_bip r165_94 (v := 6) (by decide) (rfl)) (E_ic r165_90 (v := 3) (by decide) (E_gt r165_91 rfl (rfl)))))))) (go (w := (75, [.ref l0, .int l1, .int l2, .int s0, .null, .null], [.ref l0], h1)) r165_74 rfl rfl (E_ic r165_75 (v := 4) (by decide) (go (w := (77, [.ref l0, .int l1, .int l2, .int s0, .null, .null], [.int l2, .int 4, .ref l0], h1)) r165_76 rfl rfl (E_vV r165_77 (As := [.ref l0, .int 4, .int l2]) (rest := []) (cut_n mi142.1 rfl rfl) (rm8_n mi142.2.1 (Nat.le_of_ble_eq_true rfl) (Nat.le_of_ble_eq_true rfl)) mi142.2.2 (fun h4 => E_vret r165_80 (mq165))))))))))) (go (w := (59, [.ref l0, .int l1, .int l2, .int s0, .null, .null], [.ref l0], h)) r165_58 rfl rfl (E_ic r165_59 (v := 0) (by decide) (go (w := (61, [.ref l0, .int l1, .int l2, .int s0, .null, .null], [.int l2, .int 0, .ref l0], h)) r165_60 rfl rfl (E_vV r165_61 (As := [.ref l0, .int 0, .int l2]) (rest := []) (cut_n mi142.1 rfl rfl) (rm8_n mi142.2.1 (Nat.le_of_ble_eq_true rfl) (Nat.le_of_ble_eq_true rfl)) mi142.2.2 (fun h6 => E_vret r165_64 (mq165)))))))))
theorem b165_96 (d : Nat) (l0 : Nat) (l1 : Int32) (l2 : Int32) (l3 : Int32) (s0 : Int32) (s1 : Int32) (s2 : Nat) (h : aH) (K : Option Value → aH → Prop) : E scr false (d + 1) 165 96 [.ref l0, .int l1, .int l2, .int l3, .null, .null] [.int s0, .int s1, .ref s2] h K = pF h s2 9 20 (.int (s1 + s0)) (fun h1 : aH => (if l3 = 0 then vV scr d 162 [.ref l0] h1 (fun h26 : aH => K none h26) else vI scr d 163 [.ref l0] h1 (fun (x3 : Int32) (h2 : aH) => (if l3 = 1 then gR scr h2 l0 9 5 (fun x11 : Nat => aI scr h2 x11 2 (fun x12 : Int32 => gR scr h2 l0 9 7 (fun x13 : Nat => vI scr d 160 [.ref l0, .int 0, .int 99] h2 (fun (x15 : Int32) (h14 : aH) => wI h14 x13 x12 x15 (fun h16 : aH => gR scr h16 l0 9 8 (fun x17 : Nat => vI scr d 160 [.ref l0, .int 0, .int 9] h16 (fun (x19 : Int32) (h18 : aH) => wI h18 x17 x12 x19 (fun h20 : aH => gR scr h20 l0 9 9 (fun x21 : Nat => wI h20 x21 x12 x3 (fun h22 : aH => gR scr h22 l0 9 5 (fun x23 : Nat => aI scr h22 x23 2 (fun x24 : Int32 => wI h22 x23 2 ((x24 + 1)) (fun h25 : aH => K none h25))))))))))))) else gR scr h2 l0 9 9 (fun x4 : Nat => gR scr h2 l0 9 5 (fun x5 : Nat => aI scr h2 x5 3 (fun x6 : Int32 => wI h2 x4 ((12 + x6)) x3 (fun h7 : aH => gR scr h7 l0 9 5 (fun x8 : Nat => aI scr h7 x8 3 (fun x9 : Int32 => wI h7 x8 3 ((x9 + 1)) (fun h10 : aH => K none h10))))))))))) := go (w := (97, [.ref l0, .int l1, .int l2, .int l3, .null, .null], [.int (s1 + s0), .ref s2], h)) r165_96 rfl rfl (E_pI r165_97 ⟨rfl, rfl⟩ (fun h1 => go (w := (101, [.ref l0, .int l1, .int l2, .int l3, .null, .null], [.int l3], h1)) r165_100 rfl rfl (E_i1_ne r165_101 rfl (go (w := (110, [.ref l0, .int l1, .int l2, .int l3, .null, .null], [.ref l0], h1)) r165_109 rfl rfl (E_vI r165_110 (As := [.ref l0]) (rest := []) (cut_n mi163.1 rfl rfl) (rm8_n mi163.2.1 (Nat.le_of_ble_eq_true rfl) (Nat.le_of_ble_eq_true rfl)) mi163.2.2 (fun x3 h2 => go (w := (115, [.ref l0, .int l1, .int l2, .int l3, .int x3, .null], [], h2)) r165_113 rfl rfl (go (w := (116, [.ref l0, .int l1, .int l2, .int l3, .int x3, .null], [.int l3], h2)) r165_115 rfl rfl (E_ic r165_116 (v := 1) (by decide) (E_i2_ne r165_117 rfl (go (w := (179, [.ref l0, .int l1, .int l2, .int l3, .int x3, .null], [.ref l0], h2)) r165_178 rfl rfl (E_gR r165_179 rfl (fun x4 => E_bip r165_182 (v := 12) (by decide) (go (w := (185, [.ref l0, .int l1, .int l2, .int l3, .int x3, .null], [.ref l0, .int 12, .ref x4], h2)) r165_184 rfl rfl (E_gR r165_185 rfl (fun x5 => E_ic r165_188 (v := 3) (by decide) (E_aI r165_189 (fun x6 => go (w := (191, [.ref l0, .int l1, .int l2, .int l3, .int x3, .null], [.int (12 + x6), .ref x4], h2)) r165_190 rfl rfl (go (w := (193, [.ref l0, .int l1, .int l2, .int l3, .int x3, .null], [.int x3, .int (12 + x6), .ref x4], h2)) r165_191 rfl rfl (E_wI r165_193 (fun h7 => go (w := (195, [.ref l0, .int l1, .int l2, .int l3, .int x3, .null], [.ref l0], h7)) r165_194 rfl rfl (E_gR r165_195 rfl (fun x8 => E_ic r165_198 (v := 3) (by decide) (go (w := (200, [.ref l0, .int l1, .int l2, .int l3, .int x3, .null], [.int 3, .ref x8, .int 3, .ref x8], h7)) r165_199 rfl rfl (E_aI r165_200 (fun x9 => E_ic r165_201 (v := 1) (by decide) (go (w := (203, [.ref l0, .int l1, .int l2, .int l3, .int x3, .null], [.int (x9 + 1), .int 3, .ref x8], h7)) r165_202 rfl rfl (E_wI r165_203 (fun h10 => E_vret r165_204 (mq165)))))))))))))))))))) (go (w := (121, [.ref l0, .int l1, .int l2, .int l3, .int x3, .null], [.ref l0], h2)) r165_120 rfl rfl (E_gR r165_121 rfl (fun x11 => E_ic r165_124 (v := 2) (by decide) (E_aI r165_125 (fun x12 => go (w := (128, [.ref l0, .int l1, .int l2, .int l3, .int x3, .int x12], [], h2)) r165_126 rfl rfl (go (w := (129, [.ref l0, .int l1, .int l2, .int l3, .int x3, .int x12], [.ref l0], h2)) r165_128 rfl rfl (E_gR r165_129 rfl (fun x13 => go (w := (134, [.ref l0, .int l1, .int l2, .int l3, .int x3, .int x12], [.int x12, .ref x13], h2)) r165_132 rfl rfl (go (w := (135, [.ref l0, .int l1, .int l2, .int l3, .int x3, .int x12], [.ref l0, .int x12, .ref x13], h2)) r165_134 rfl rfl (E_ic r165_135 (v := 0) (by decide) (E_bip r165_136 (v := 99) (by decide) (E_vI r165_138 (As := [.ref l0, .int 0, .int 99]) (rest := [.int x12, .ref x13]) (cut_n mi160.1 rfl rfl) (rm8_n mi160.2.1 (Nat.le_of_ble_eq_true rfl) (Nat.le_of_ble_eq_true rfl)) mi160.2.2 (fun x15 h14 => E_wI r165_141 (fun h16 => go (w := (143, [.ref l0, .int l1, .int l2, .int l3, .int x3, .int x12], [.ref l0], h16)) r165_142 rfl rfl (E_gR r165_143 rfl (fun x17 => go (w := (148, [.ref l0, .int l1, .int l2, .int l3, .int x3, .int x12], [.int x12, .ref x17], h16)) r165_146 rfl rfl (go (w := (149, [.ref l0, .int l1, .int l2, .int l3, .int x3, .int x12], [.ref l0, .int x12, .ref x17], h16)) r165_148 rfl rfl (E_ic r165_149 (v := 0) (by decide) (E_bip r165_150 (v := 9) (by decide) (E_vI r165_152 (As := [.ref l0, .int 0, .int 9]) (rest := [.int x12, .ref x17]) (cut_n mi160.1 rfl rfl) (rm8_n mi160.2.1 (Nat.le_of_ble_eq_true rfl) (Nat.le_of_ble_eq_true rfl)) mi160.2.2 (fun x19 h18 => E_wI r165_155 (fun h20 => go (w := (157, [.ref l0, .int l1, .int l2, .int l3, .int x3, .int x12], [.ref l0], h20)) r165_156 rfl rfl (E_gR r165_157 rfl (fun x21 => go (w := (162, [.ref l0, .int l1, .int l2, .int l3, .int x3, .int x12], [.int x12, .ref x21], h20)) r165_160 rfl rfl (go (w := (164, [.ref l0, .int l1, .int l2, .int l3, .int x3, .int x12], [.int x3, .int x12, .ref x21], h20)) r165_162 rfl rfl (E_wI r165_164 (fun h22 => go (w := (166, [.ref l0, .int l1, .int l2, .int l3, .int x3, .int x12], [.ref l0], h22)) r165_165 rfl rfl (E_gR r165_166 rfl (fun x23 => E_ic r165_169 (v := 2) (by decide) (go (w := (171, [.ref l0, .int l1, .int l2, .int l3, .int x3, .int x12], [.int 2, .ref x23, .int 2, .ref x23], h22)) r165_170 rfl rfl (E_aI r165_171 (fun x24 => E_ic r165_172 (v := 1) (by decide) (go (w := (174, [.ref l0, .int l1, .int l2, .int l3, .int x3, .int x12], [.int (x24 + 1), .int 2, .ref x23], h22)) r165_173 rfl rfl (E_wI r165_174 (fun h25 => E_gt r165_175 rfl (E_vret r165_204 (mq165))))))))))))))))))))))))))))))))))))))))))) (go (w := (105, [.ref l0, .int l1, .int l2, .int l3, .null, .null], [.ref l0], h1)) r165_104 rfl rfl (E_vV r165_105 (As := [.ref l0]) (rest := []) (cut_n mi162.1 rfl rfl) (rm8_n mi162.2.1 (Nat.le_of_ble_eq_true rfl) (Nat.le_of_ble_eq_true rfl)) mi162.2.2 (fun h26 => E_vret r165_108 (mq165)))))))
-- 166 SecondNearestModel.lay([I[I)V
theorem mq166 : mRet 166 = none := by decide +kernel
theorem r166_0 : rowAt 166 0 = some (.iconst 0, 1, 0, 0) := by decide +kernel
theorem r166_1 : rowAt 166 1 = some (.istore_n 2, 1, 0, 0) := by decide +kernel
theorem r166_2 : rowAt 166 2 = some (.iload_n 2, 1, 0, 0) := by decide +kernel
theorem r166_3 : rowAt 166 3 = some (.aload_n 0, 1, 0, 0) := by decide +kernel
theorem r166_4 : rowAt 166 4 = some (.arraylength, 1, 0, 0) := by decide +kernel
theorem r166_5 : rowAt 166 5 = some (.if_icmp .ge 15, 3, 0, 0) := by decide +kernel
theorem r166_8 : rowAt 166 8 = some (.aload_n 1, 1, 0, 0) := by decide +kernel
theorem r166_9 : rowAt 166 9 = some (.iload_n 2, 1, 0, 0) := by decide +kernel
theorem r166_10 : rowAt 166 10 = some (.aload_n 0, 1, 0, 0) := by decide +kernel
theorem r166_11 : rowAt 166 11 = some (.iload_n 2, 1, 0, 0) := by decide +kernel
theorem r166_12 : rowAt 166 12 = some (.iaload, 1, 0, 0) := by decide +kernel
theorem r166_13 : rowAt 166 13 = some (.iastore, 1, 0, 0) := by decide +kernel
theorem r166_14 : rowAt 166 14 = some (.iinc 2 1, 3, 0, 0) := by decide +kernel
theorem r166_17 : rowAt 166 17 = some (.goto (-15), 3, 0, 0) := by decide +kernel
theorem r166_20 : rowAt 166 20 = some (.return_, 1, 0, 0) := by decide +kernel
theorem en166 (a0 : Nat) (a1 : Nat) : iniL 166 [.ref a0, .ref a1] = [.ref a0, .ref a1, .null] := ini_n mi166 rfl
theorem b166_0 (d : Nat) (l0 : Nat) (l1 : Nat) (h : aH) (K : Option Value → aH → Prop) : E scr false d 166 0 [.ref l0, .ref l1, .null] [] h K = E scr false d 166 2 [.ref l0, .ref l1, .int 0] [] h K := E_ic r166_0 (v := 0) (by decide) (go (w := (2, [.ref l0, .ref l1, .int 0], [], h)) r166_1 rfl rfl (rfl))
theorem b166_2 (d : Nat) (l0 : Nat) (l1 : Nat) (l2 : Int32) (h : aH) (K : Option Value → aH → Prop) : E scr false d 166 2 [.ref l0, .ref l1, .int l2] [] h K = aN scr h l0 (fun x1 : Nat => (if (Int32.ofNat x1) ≤ l2 then K none h else aI scr h l0 l2 (fun x2 : Int32 => wI h l1 l2 x2 (fun h3 : aH => E scr false d 166 2 [.ref l0, .ref l1, .int (l2 + 1)] [] h3 K)))) := go (w := (3, [.ref l0, .ref l1, .int l2], [.int l2], h)) r166_2 rfl rfl (go (w := (4, [.ref l0, .ref l1, .int l2], [.ref l0, .int l2], h)) r166_3 rfl rfl (E_aN r166_4 (fun x1 => E_i2_ge r166_5 rfl (E_vret r166_20 (mq166)) (go (w := (9, [.ref l0, .ref l1, .int l2], [.ref l1], h)) r166_8 rfl rfl (go (w := (10, [.ref l0, .ref l1, .int l2], [.int l2, .ref l1], h)) r166_9 rfl rfl (go (w := (11, [.ref l0, .ref l1, .int l2], [.ref l0, .int l2, .ref l1], h)) r166_10 rfl rfl (go (w := (12, [.ref l0, .ref l1, .int l2], [.int l2, .ref l0, .int l2, .ref l1], h)) r166_11 rfl rfl (E_aI r166_12 (fun x2 => E_wI r166_13 (fun h3 => E_inc r166_14 (c := 1) rfl (by decide) (L' := [.ref l0, .ref l1, .int (l2 + 1)]) rfl (E_gt r166_17 rfl (rfl))))))))))))
-- 167 SecondNearestModel.goesOn()Z
theorem mq167 : mRet 167 = (some .boolean) := by decide +kernel
theorem r167_0 : rowAt 167 0 = some (.aload_n 0, 1, 0, 0) := by decide +kernel
theorem r167_1 : rowAt 167 1 = some (.invokevirtual 243, 3, 144, 0) := by decide +kernel
theorem r167_4 : rowAt 167 4 = some (.aload_n 0, 1, 0, 0) := by decide +kernel
theorem r167_5 : rowAt 167 5 = some (.getfield 220, 3, 9, 21) := by decide +kernel
theorem r167_8 : rowAt 167 8 = some (.ifCond .ne 32, 3, 0, 0) := by decide +kernel
theorem r167_11 : rowAt 167 11 = some (.aload_n 0, 1, 0, 0) := by decide +kernel
theorem r167_12 : rowAt 167 12 = some (.getfield 223, 3, 9, 20) := by decide +kernel
theorem r167_15 : rowAt 167 15 = some (.aload_n 0, 1, 0, 0) := by decide +kernel
theorem r167_16 : rowAt 167 16 = some (.getfield 199, 3, 9, 19) := by decide +kernel
theorem r167_19 : rowAt 167 19 = some (.if_icmp .ge 21, 3, 0, 0) := by decide +kernel
theorem r167_22 : rowAt 167 22 = some (.aload_n 0, 1, 0, 0) := by decide +kernel
theorem r167_23 : rowAt 167 23 = some (.invokevirtual 226, 3, 143, 0) := by decide +kernel
theorem r167_26 : rowAt 167 26 = some (.bipush 59, 2, 0, 0) := by decide +kernel
theorem r167_28 : rowAt 167 28 = some (.if_icmp .eq 12, 3, 0, 0) := by decide +kernel
theorem r167_31 : rowAt 167 31 = some (.aload_n 0, 1, 0, 0) := by decide +kernel
theorem r167_32 : rowAt 167 32 = some (.iconst 0, 1, 0, 0) := by decide +kernel
theorem r167_33 : rowAt 167 33 = some (.aload_n 0, 1, 0, 0) := by decide +kernel
theorem r167_34 : rowAt 167 34 = some (.getfield 223, 3, 9, 20) := by decide +kernel
theorem r167_37 : rowAt 167 37 = some (.invokevirtual 259, 3, 142, 0) := by decide +kernel
theorem r167_40 : rowAt 167 40 = some (.aload_n 0, 1, 0, 0) := by decide +kernel
theorem r167_41 : rowAt 167 41 = some (.getfield 220, 3, 9, 21) := by decide +kernel
theorem r167_44 : rowAt 167 44 = some (.ifCond .ne 18, 3, 0, 0) := by decide +kernel
theorem r167_47 : rowAt 167 47 = some (.aload_n 0, 1, 0, 0) := by decide +kernel
theorem r167_48 : rowAt 167 48 = some (.getfield 223, 3, 9, 20) := by decide +kernel
theorem r167_51 : rowAt 167 51 = some (.aload_n 0, 1, 0, 0) := by decide +kernel
theorem r167_52 : rowAt 167 52 = some (.getfield 199, 3, 9, 19) := by decide +kernel
theorem r167_55 : rowAt 167 55 = some (.if_icmp .ge 7, 3, 0, 0) := by decide +kernel
theorem r167_58 : rowAt 167 58 = some (.iconst 1, 1, 0, 0) := by decide +kernel
theorem r167_59 : rowAt 167 59 = some (.goto 4, 3, 0, 0) := by decide +kernel
theorem r167_62 : rowAt 167 62 = some (.iconst 0, 1, 0, 0) := by decide +kernel
theorem r167_63 : rowAt 167 63 = some (.istore_n 1, 1, 0, 0) := by decide +kernel
theorem r167_64 : rowAt 167 64 = some (.aload_n 0, 1, 0, 0) := by decide +kernel
theorem r167_65 : rowAt 167 65 = some (.dup, 1, 0, 0) := by decide +kernel
theorem r167_66 : rowAt 167 66 = some (.getfield 223, 3, 9, 20) := by decide +kernel
theorem r167_69 : rowAt 167 69 = some (.iconst 1, 1, 0, 0) := by decide +kernel
theorem r167_70 : rowAt 167 70 = some (.iadd, 1, 0, 0) := by decide +kernel
theorem r167_71 : rowAt 167 71 = some (.putfield 223, 3, 9, 20) := by decide +kernel
theorem r167_74 : rowAt 167 74 = some (.iload_n 1, 1, 0, 0) := by decide +kernel
theorem r167_75 : rowAt 167 75 = some (.ireturn, 1, 0, 0) := by decide +kernel
theorem en167 (a0 : Nat) : iniL 167 [.ref a0] = [.ref a0, .null] := ini_n mi167 rfl
theorem b167_0 (d : Nat) (l0 : Nat) (h : aH) (K : Option Value → aH → Prop) : E scr false (d + 1) 167 0 [.ref l0, .null] [] h K = vV scr d 144 [.ref l0] h (fun h1 : aH => gI scr h1 l0 9 21 (fun x3 : Int32 => (if x3 = 0 then gI scr h1 l0 9 20 (fun x4 : Int32 => gI scr h1 l0 9 19 (fun x5 : Int32 => (if x5 ≤ x4 then E scr false (d + 1) 167 40 [.ref l0, .null] [] h1 K else vI scr d 143 [.ref l0] h1 (fun (x7 : Int32) (h6 : aH) => (if x7 = 59 then E scr false (d + 1) 167 40 [.ref l0, .null] [] h6 K else gI scr h6 l0 9 20 (fun x8 : Int32 => vV scr d 142 [.ref l0, .int 0, .int x8] h6 (fun h9 : aH => E scr false (d + 1) 167 40 [.ref l0, .null] [] h9 K))))))) else E scr false (d + 1) 167 40 [.ref l0, .null] [] h1 K))) := go (w := (1, [.ref l0, .null], [.ref l0], h)) r167_0 rfl rfl (E_vV r167_1 (As := [.ref l0]) (rest := []) (cut_n mi144.1 rfl rfl) (rm8_n mi144.2.1 (Nat.le_of_ble_eq_true rfl) (Nat.le_of_ble_eq_true rfl)) mi144.2.2 (fun h1 => go (w := (5, [.ref l0, .null], [.ref l0], h1)) r167_4 rfl rfl (E_gI r167_5 rfl (fun x3 => E_i1_ne r167_8 rfl (rfl) (go (w := (12, [.ref l0, .null], [.ref l0], h1)) r167_11 rfl rfl (E_gI r167_12 rfl (fun x4 => go (w := (16, [.ref l0, .null], [.ref l0, .int x4], h1)) r167_15 rfl rfl (E_gI r167_16 rfl (fun x5 => E_i2_ge r167_19 rfl (rfl) (go (w := (23, [.ref l0, .null], [.ref l0], h1)) r167_22 rfl rfl (E_vI r167_23 (As := [.ref l0]) (rest := []) (cut_n mi143.1 rfl rfl) (rm8_n mi143.2.1 (Nat.le_of_ble_eq_true rfl) (Nat.le_of_ble_eq_true rfl)) mi143.2.2 (fun x7 h6 => E_bip r167_26 (v := 59) (by decide) (E_i2_eq r167_28 rfl (rfl) (go (w := (32, [.ref l0, .null], [.ref l0], h6)) r167_31 rfl rfl (E_ic r167_32 (v := 0) (by decide) (go (w := (34, [.ref l0, .null], [.ref l0, .int 0, .ref l0], h6)) r167_33 rfl rfl (E_gI r167_34 rfl (fun x8 => E_vV r167_37 (As := [.ref l0, .int 0, .int x8]) (rest := []) (cut_n mi142.1 rfl rfl) (rm8_n mi142.2.1 (Nat.le_of_ble_eq_true rfl) (Nat.le_of_ble_eq_true rfl)) mi142.2.2 (fun h9 => rfl)))))))))))))))))))
theorem b167_40 (d : Nat) (l0 : Nat) (h : aH) (K : Option Value → aH → Prop) : E scr false d 167 40 [.ref l0, .null] [] h K = gI scr h l0 9 21 (fun x1 : Int32 => (if x1 = 0 then gI scr h l0 9 20 (fun x2 : Int32 => gI scr h l0 9 19 (fun x3 : Int32 => (if x3 ≤ x2 then E scr false d 167 62 [.ref l0, .null] [] h K else E scr false d 167 63 [.ref l0, .null] [.int 1] h K))) else E scr false d 167 62 [.ref l0, .null] [] h K)) := go (w := (41, [.ref l0, .null], [.ref l0], h)) r167_40 rfl rfl (E_gI r167_41 rfl (fun x1 => E_i1_ne r167_44 rfl (rfl) (go (w := (48, [.ref l0, .null], [.ref l0], h)) r167_47 rfl rfl (E_gI r167_48 rfl (fun x2 => go (w := (52, [.ref l0, .null], [.ref l0, .int x2], h)) r167_51 rfl rfl (E_gI r167_52 rfl (fun x3 => E_i2_ge r167_55 rfl (rfl) (E_ic r167_58 (v := 1) (by decide) (E_gt r167_59 rfl (rfl))))))))))
theorem b167_62 (d : Nat) (l0 : Nat) (h : aH) (K : Option Value → aH → Prop) : E scr false d 167 62 [.ref l0, .null] [] h K = E scr false d 167 63 [.ref l0, .null] [.int 0] h K := E_ic r167_62 (v := 0) (by decide) (rfl)
theorem b167_63 (d : Nat) (l0 : Nat) (s0 : Int32) (h : aH) (K : Option Value → aH → Prop) : E scr false d 167 63 [.ref l0, .null] [.int s0] h K = gI scr h l0 9 20 (fun x1 : Int32 => pF h l0 9 20 (.int (x1 + 1)) (fun h2 : aH => (s0 &&& 1 = s0 ∧ K (some (.int s0)) h2))) := go (w := (64, [.ref l0, .int s0], [], h)) r167_63 rfl rfl (go (w := (65, [.ref l0, .int s0], [.ref l0], h)) r167_64 rfl rfl (go (w := (66, [.ref l0, .int s0], [.ref l0, .ref l0], h)) r167_65 rfl rfl (E_gI r167_66 rfl (fun x1 => E_ic r167_69 (v := 1) (by decide) (go (w := (71, [.ref l0, .int s0], [.int (x1 + 1), .ref l0], h)) r167_70 rfl rfl (E_pI r167_71 ⟨rfl, rfl⟩ (fun h2 => go (w := (75, [.ref l0, .int s0], [.int s0], h2)) r167_74 rfl rfl (E_zret r167_75 (mq167)))))))))
-- 168 SecondNearestModel.starts()V
theorem mq168 : mRet 168 = none := by decide +kernel
theorem r168_0 : rowAt 168 0 = some (.aload_n 0, 1, 0, 0) := by decide +kernel
theorem r168_1 : rowAt 168 1 = some (.iconst 0, 1, 0, 0) := by decide +kernel
theorem r168_2 : rowAt 168 2 = some (.putfield 223, 3, 9, 20) := by decide +kernel
theorem r168_5 : rowAt 168 5 = some (.aload_n 0, 1, 0, 0) := by decide +kernel
theorem r168_6 : rowAt 168 6 = some (.iconst 0, 1, 0, 0) := by decide +kernel
theorem r168_7 : rowAt 168 7 = some (.putfield 220, 3, 9, 21) := by decide +kernel
theorem r168_10 : rowAt 168 10 = some (.aload_n 0, 1, 0, 0) := by decide +kernel
theorem r168_11 : rowAt 168 11 = some (.iconst 0, 1, 0, 0) := by decide +kernel
theorem r168_12 : rowAt 168 12 = some (.putfield 253, 3, 9, 24) := by decide +kernel
theorem r168_15 : rowAt 168 15 = some (.aload_n 0, 1, 0, 0) := by decide +kernel
theorem r168_16 : rowAt 168 16 = some (.iconst 0, 1, 0, 0) := by decide +kernel
theorem r168_17 : rowAt 168 17 = some (.putfield 293, 3, 9, 25) := by decide +kernel
theorem r168_20 : rowAt 168 20 = some (.aload_n 0, 1, 0, 0) := by decide +kernel
theorem r168_21 : rowAt 168 21 = some (.iconst 0, 1, 0, 0) := by decide +kernel
theorem r168_22 : rowAt 168 22 = some (.putfield 256, 3, 9, 26) := by decide +kernel
theorem r168_25 : rowAt 168 25 = some (.return_, 1, 0, 0) := by decide +kernel
theorem en168 (a0 : Nat) : iniL 168 [.ref a0] = [.ref a0] := ini_n mi168 rfl
theorem b168_0 (d : Nat) (l0 : Nat) (h : aH) (K : Option Value → aH → Prop) : E scr false d 168 0 [.ref l0] [] h K = pF h l0 9 20 (.int 0) (fun h1 : aH => pF h1 l0 9 21 (.int 0) (fun h2 : aH => pF h2 l0 9 24 (.int 0) (fun h3 : aH => pF h3 l0 9 25 (.int 0) (fun h4 : aH => pF h4 l0 9 26 (.int 0) (fun h5 : aH => K none h5))))) := go (w := (1, [.ref l0], [.ref l0], h)) r168_0 rfl rfl (E_ic r168_1 (v := 0) (by decide) (E_pI r168_2 ⟨rfl, rfl⟩ (fun h1 => go (w := (6, [.ref l0], [.ref l0], h1)) r168_5 rfl rfl (E_ic r168_6 (v := 0) (by decide) (E_pI r168_7 ⟨rfl, rfl⟩ (fun h2 => go (w := (11, [.ref l0], [.ref l0], h2)) r168_10 rfl rfl (E_ic r168_11 (v := 0) (by decide) (E_pI r168_12 ⟨rfl, rfl⟩ (fun h3 => go (w := (16, [.ref l0], [.ref l0], h3)) r168_15 rfl rfl (E_ic r168_16 (v := 0) (by decide) (E_pI r168_17 ⟨rfl, rfl⟩ (fun h4 => go (w := (21, [.ref l0], [.ref l0], h4)) r168_20 rfl rfl (E_ic r168_21 (v := 0) (by decide) (E_pI r168_22 ⟨rfl, rfl⟩ (fun h5 => E_vret r168_25 (mq168))))))))))))))))
-- 169 SecondNearestModel.plain()I
theorem mq169 : mRet 169 = (some .int) := by decide +kernel
theorem r169_0 : rowAt 169 0 = some (.aload_n 0, 1, 0, 0) := by decide +kernel
theorem r169_1 : rowAt 169 1 = some (.invokevirtual 337, 3, 168, 0) := by decide +kernel
theorem r169_4 : rowAt 169 4 = some (.iconst 0, 1, 0, 0) := by decide +kernel
theorem r169_5 : rowAt 169 5 = some (.istore_n 1, 1, 0, 0) := by decide +kernel
theorem r169_6 : rowAt 169 6 = some (.iload_n 1, 1, 0, 0) := by decide +kernel
theorem r169_7 : rowAt 169 7 = some (.iconst 4, 1, 0, 0) := by decide +kernel
theorem r169_8 : rowAt 169 8 = some (.if_icmp .ge 16, 3, 0, 0) := by decide +kernel
theorem r169_11 : rowAt 169 11 = some (.aload_n 0, 1, 0, 0) := by decide +kernel
theorem r169_12 : rowAt 169 12 = some (.getfield 22, 3, 9, 5) := by decide +kernel
theorem r169_15 : rowAt 169 15 = some (.iload_n 1, 1, 0, 0) := by decide +kernel
theorem r169_16 : rowAt 169 16 = some (.iconst 0, 1, 0, 0) := by decide +kernel
theorem r169_17 : rowAt 169 17 = some (.iastore, 1, 0, 0) := by decide +kernel
theorem r169_18 : rowAt 169 18 = some (.iinc 1 1, 3, 0, 0) := by decide +kernel
theorem r169_21 : rowAt 169 21 = some (.goto (-15), 3, 0, 0) := by decide +kernel
theorem r169_24 : rowAt 169 24 = some (.iconst 0, 1, 0, 0) := by decide +kernel
theorem r169_25 : rowAt 169 25 = some (.istore_n 1, 1, 0, 0) := by decide +kernel
theorem r169_26 : rowAt 169 26 = some (.iload_n 1, 1, 0, 0) := by decide +kernel
theorem r169_27 : rowAt 169 27 = some (.sipush 144, 3, 0, 0) := by decide +kernel
theorem r169_30 : rowAt 169 30 = some (.if_icmp .ge 16, 3, 0, 0) := by decide +kernel
theorem r169_33 : rowAt 169 33 = some (.aload_n 0, 1, 0, 0) := by decide +kernel
theorem r169_34 : rowAt 169 34 = some (.getfield 25, 3, 9, 6) := by decide +kernel
theorem r169_37 : rowAt 169 37 = some (.iload_n 1, 1, 0, 0) := by decide +kernel
theorem r169_38 : rowAt 169 38 = some (.iconst 1, 1, 0, 0) := by decide +kernel
theorem r169_39 : rowAt 169 39 = some (.iastore, 1, 0, 0) := by decide +kernel
theorem r169_40 : rowAt 169 40 = some (.iinc 1 1, 3, 0, 0) := by decide +kernel
theorem r169_43 : rowAt 169 43 = some (.goto (-17), 3, 0, 0) := by decide +kernel
theorem r169_46 : rowAt 169 46 = some (.iconst 0, 1, 0, 0) := by decide +kernel
theorem r169_47 : rowAt 169 47 = some (.istore_n 1, 1, 0, 0) := by decide +kernel
theorem r169_48 : rowAt 169 48 = some (.iconst 1, 1, 0, 0) := by decide +kernel
theorem r169_49 : rowAt 169 49 = some (.istore_n 2, 1, 0, 0) := by decide +kernel
theorem r169_50 : rowAt 169 50 = some (.iload_n 2, 1, 0, 0) := by decide +kernel
theorem r169_51 : rowAt 169 51 = some (.ifCond .eq 19, 3, 0, 0) := by decide +kernel
theorem r169_54 : rowAt 169 54 = some (.aload_n 0, 1, 0, 0) := by decide +kernel
theorem r169_55 : rowAt 169 55 = some (.iload_n 1, 1, 0, 0) := by decide +kernel
theorem r169_56 : rowAt 169 56 = some (.invokevirtual 340, 3, 165, 0) := by decide +kernel
theorem r169_59 : rowAt 169 59 = some (.iinc 1 1, 3, 0, 0) := by decide +kernel
theorem r169_62 : rowAt 169 62 = some (.aload_n 0, 1, 0, 0) := by decide +kernel
theorem r169_63 : rowAt 169 63 = some (.invokevirtual 343, 3, 167, 0) := by decide +kernel
theorem r169_66 : rowAt 169 66 = some (.istore_n 2, 1, 0, 0) := by decide +kernel
theorem r169_67 : rowAt 169 67 = some (.goto (-17), 3, 0, 0) := by decide +kernel
theorem r169_70 : rowAt 169 70 = some (.aload_n 0, 1, 0, 0) := by decide +kernel
theorem r169_71 : rowAt 169 71 = some (.iconst 0, 1, 0, 0) := by decide +kernel
theorem r169_72 : rowAt 169 72 = some (.putfield 199, 3, 9, 19) := by decide +kernel
theorem r169_75 : rowAt 169 75 = some (.aload_n 0, 1, 0, 0) := by decide +kernel
theorem r169_76 : rowAt 169 76 = some (.getfield 220, 3, 9, 21) := by decide +kernel
theorem r169_79 : rowAt 169 79 = some (.ifCond .le 11, 3, 0, 0) := by decide +kernel
theorem r169_82 : rowAt 169 82 = some (.bipush (-2), 2, 0, 0) := by decide +kernel
theorem r169_84 : rowAt 169 84 = some (.aload_n 0, 1, 0, 0) := by decide +kernel
theorem r169_85 : rowAt 169 85 = some (.getfield 220, 3, 9, 21) := by decide +kernel
theorem r169_88 : rowAt 169 88 = some (.isub, 1, 0, 0) := by decide +kernel
theorem r169_89 : rowAt 169 89 = some (.ireturn, 1, 0, 0) := by decide +kernel
theorem r169_90 : rowAt 169 90 = some (.aload_n 0, 1, 0, 0) := by decide +kernel
theorem r169_91 : rowAt 169 91 = some (.getfield 22, 3, 9, 5) := by decide +kernel
theorem r169_94 : rowAt 169 94 = some (.aload_n 0, 1, 0, 0) := by decide +kernel
theorem r169_95 : rowAt 169 95 = some (.getfield 7, 3, 9, 1) := by decide +kernel
theorem r169_98 : rowAt 169 98 = some (.invokestatic 346, 3, 166, 1) := by decide +kernel
theorem r169_101 : rowAt 169 101 = some (.aload_n 0, 1, 0, 0) := by decide +kernel
theorem r169_102 : rowAt 169 102 = some (.getfield 25, 3, 9, 6) := by decide +kernel
theorem r169_105 : rowAt 169 105 = some (.aload_n 0, 1, 0, 0) := by decide +kernel
theorem r169_106 : rowAt 169 106 = some (.getfield 13, 3, 9, 2) := by decide +kernel
theorem r169_109 : rowAt 169 109 = some (.invokestatic 346, 3, 166, 1) := by decide +kernel
theorem r169_112 : rowAt 169 112 = some (.aload_n 0, 1, 0, 0) := by decide +kernel
theorem r169_113 : rowAt 169 113 = some (.getfield 28, 3, 9, 7) := by decide +kernel
theorem r169_116 : rowAt 169 116 = some (.aload_n 0, 1, 0, 0) := by decide +kernel
theorem r169_117 : rowAt 169 117 = some (.getfield 16, 3, 9, 3) := by decide +kernel
theorem r169_120 : rowAt 169 120 = some (.invokestatic 346, 3, 166, 1) := by decide +kernel
theorem r169_123 : rowAt 169 123 = some (.aload_n 0, 1, 0, 0) := by decide +kernel
theorem r169_124 : rowAt 169 124 = some (.getfield 31, 3, 9, 8) := by decide +kernel
theorem r169_127 : rowAt 169 127 = some (.aload_n 0, 1, 0, 0) := by decide +kernel
theorem r169_128 : rowAt 169 128 = some (.getfield 19, 3, 9, 4) := by decide +kernel
theorem r169_131 : rowAt 169 131 = some (.invokestatic 346, 3, 166, 1) := by decide +kernel
theorem r169_134 : rowAt 169 134 = some (.aload_n 0, 1, 0, 0) := by decide +kernel
theorem r169_135 : rowAt 169 135 = some (.getfield 34, 3, 9, 9) := by decide +kernel
theorem r169_138 : rowAt 169 138 = some (.aload_n 0, 1, 0, 0) := by decide +kernel
theorem r169_139 : rowAt 169 139 = some (.getfield 37, 3, 9, 10) := by decide +kernel
theorem r169_142 : rowAt 169 142 = some (.invokestatic 346, 3, 166, 1) := by decide +kernel
theorem r169_145 : rowAt 169 145 = some (.aload_n 0, 1, 0, 0) := by decide +kernel
theorem r169_146 : rowAt 169 146 = some (.getfield 7, 3, 9, 1) := by decide +kernel
theorem r169_149 : rowAt 169 149 = some (.iconst 4, 1, 0, 0) := by decide +kernel
theorem r169_150 : rowAt 169 150 = some (.iconst 0, 1, 0, 0) := by decide +kernel
theorem r169_151 : rowAt 169 151 = some (.iastore, 1, 0, 0) := by decide +kernel
theorem r169_152 : rowAt 169 152 = some (.aload_n 0, 1, 0, 0) := by decide +kernel
theorem r169_153 : rowAt 169 153 = some (.getfield 7, 3, 9, 1) := by decide +kernel
theorem r169_156 : rowAt 169 156 = some (.iconst 5, 1, 0, 0) := by decide +kernel
theorem r169_157 : rowAt 169 157 = some (.iconst 0, 1, 0, 0) := by decide +kernel
theorem r169_158 : rowAt 169 158 = some (.iastore, 1, 0, 0) := by decide +kernel
theorem r169_159 : rowAt 169 159 = some (.iconst 0, 1, 0, 0) := by decide +kernel
theorem r169_160 : rowAt 169 160 = some (.istore_n 3, 1, 0, 0) := by decide +kernel
theorem r169_161 : rowAt 169 161 = some (.iload_n 3, 1, 0, 0) := by decide +kernel
theorem r169_162 : rowAt 169 162 = some (.bipush 12, 2, 0, 0) := by decide +kernel
theorem r169_164 : rowAt 169 164 = some (.if_icmp .ge 16, 3, 0, 0) := by decide +kernel
theorem r169_167 : rowAt 169 167 = some (.aload_n 0, 1, 0, 0) := by decide +kernel
theorem r169_168 : rowAt 169 168 = some (.getfield 40, 3, 9, 11) := by decide +kernel
theorem r169_171 : rowAt 169 171 = some (.iload_n 3, 1, 0, 0) := by decide +kernel
theorem r169_172 : rowAt 169 172 = some (.iconst (-1), 1, 0, 0) := by decide +kernel
theorem r169_173 : rowAt 169 173 = some (.iastore, 1, 0, 0) := by decide +kernel
theorem r169_174 : rowAt 169 174 = some (.iinc 3 1, 3, 0, 0) := by decide +kernel
theorem r169_177 : rowAt 169 177 = some (.goto (-16), 3, 0, 0) := by decide +kernel
theorem r169_180 : rowAt 169 180 = some (.aload_n 0, 1, 0, 0) := by decide +kernel
theorem r169_181 : rowAt 169 181 = some (.invokevirtual 350, 3, 135, 0) := by decide +kernel
theorem r169_184 : rowAt 169 184 = some (.aload_n 0, 1, 0, 0) := by decide +kernel
theorem r169_185 : rowAt 169 185 = some (.getfield 7, 3, 9, 1) := by decide +kernel
theorem r169_188 : rowAt 169 188 = some (.iconst 2, 1, 0, 0) := by decide +kernel
theorem r169_189 : rowAt 169 189 = some (.iaload, 1, 0, 0) := by decide +kernel
theorem r169_190 : rowAt 169 190 = some (.ireturn, 1, 0, 0) := by decide +kernel
theorem en169 (a0 : Nat) : iniL 169 [.ref a0] = [.ref a0, .null, .null, .null] := ini_n mi169 rfl
theorem b169_0 (d : Nat) (l0 : Nat) (h : aH) (K : Option Value → aH → Prop) : E scr false (d + 1) 169 0 [.ref l0, .null, .null, .null] [] h K = vV scr d 168 [.ref l0] h (fun h1 : aH => E scr false (d + 1) 169 6 [.ref l0, .int 0, .null, .null] [] h1 K) := go (w := (1, [.ref l0, .null, .null, .null], [.ref l0], h)) r169_0 rfl rfl (E_vV r169_1 (As := [.ref l0]) (rest := []) (cut_n mi168.1 rfl rfl) (rm8_n mi168.2.1 (Nat.le_of_ble_eq_true rfl) (Nat.le_of_ble_eq_true rfl)) mi168.2.2 (fun h1 => E_ic r169_4 (v := 0) (by decide) (go (w := (6, [.ref l0, .int 0, .null, .null], [], h1)) r169_5 rfl rfl (rfl))))
theorem b169_6 (d : Nat) (l0 : Nat) (l1 : Int32) (h : aH) (K : Option Value → aH → Prop) : E scr false d 169 6 [.ref l0, .int l1, .null, .null] [] h K = (if 4 ≤ l1 then E scr false d 169 26 [.ref l0, .int 0, .null, .null] [] h K else gR scr h l0 9 5 (fun x1 : Nat => wI h x1 l1 0 (fun h2 : aH => E scr false d 169 6 [.ref l0, .int (l1 + 1), .null, .null] [] h2 K))) := go (w := (7, [.ref l0, .int l1, .null, .null], [.int l1], h)) r169_6 rfl rfl (E_ic r169_7 (v := 4) (by decide) (E_i2_ge r169_8 rfl (E_ic r169_24 (v := 0) (by decide) (go (w := (26, [.ref l0, .int 0, .null, .null], [], h)) r169_25 rfl rfl (rfl))) (go (w := (12, [.ref l0, .int l1, .null, .null], [.ref l0], h)) r169_11 rfl rfl (E_gR r169_12 rfl (fun x1 => go (w := (16, [.ref l0, .int l1, .null, .null], [.int l1, .ref x1], h)) r169_15 rfl rfl (E_ic r169_16 (v := 0) (by decide) (E_wI r169_17 (fun h2 => E_inc r169_18 (c := 1) rfl (by decide) (L' := [.ref l0, .int (l1 + 1), .null, .null]) rfl (E_gt r169_21 rfl (rfl))))))))))
theorem b169_26 (d : Nat) (l0 : Nat) (l1 : Int32) (h : aH) (K : Option Value → aH → Prop) : E scr false d 169 26 [.ref l0, .int l1, .null, .null] [] h K = (if 144 ≤ l1 then E scr false d 169 50 [.ref l0, .int 0, .int 1, .null] [] h K else gR scr h l0 9 6 (fun x1 : Nat => wI h x1 l1 1 (fun h2 : aH => E scr false d 169 26 [.ref l0, .int (l1 + 1), .null, .null] [] h2 K))) := go (w := (27, [.ref l0, .int l1, .null, .null], [.int l1], h)) r169_26 rfl rfl (E_sip r169_27 (v := 144) (by decide) (E_i2_ge r169_30 rfl (E_ic r169_46 (v := 0) (by decide) (go (w := (48, [.ref l0, .int 0, .null, .null], [], h)) r169_47 rfl rfl (E_ic r169_48 (v := 1) (by decide) (go (w := (50, [.ref l0, .int 0, .int 1, .null], [], h)) r169_49 rfl rfl (rfl))))) (go (w := (34, [.ref l0, .int l1, .null, .null], [.ref l0], h)) r169_33 rfl rfl (E_gR r169_34 rfl (fun x1 => go (w := (38, [.ref l0, .int l1, .null, .null], [.int l1, .ref x1], h)) r169_37 rfl rfl (E_ic r169_38 (v := 1) (by decide) (E_wI r169_39 (fun h2 => E_inc r169_40 (c := 1) rfl (by decide) (L' := [.ref l0, .int (l1 + 1), .null, .null]) rfl (E_gt r169_43 rfl (rfl))))))))))
theorem b169_50 (d : Nat) (l0 : Nat) (l1 : Int32) (l2 : Int32) (h : aH) (K : Option Value → aH → Prop) : E scr false (d + 1) 169 50 [.ref l0, .int l1, .int l2, .null] [] h K = (if l2 = 0 then pF h l0 9 19 (.int 0) (fun h1 : aH => gI scr h1 l0 9 21 (fun x2 : Int32 => (if x2 ≤ 0 then gR scr h1 l0 9 5 (fun x3 : Nat => gR scr h1 l0 9 1 (fun x4 : Nat => sV scr d 166 [.ref x3, .ref x4] h1 (fun h5 : aH => gR scr h5 l0 9 6 (fun x7 : Nat => gR scr h5 l0 9 2 (fun x8 : Nat => sV scr d 166 [.ref x7, .ref x8] h5 (fun h9 : aH => gR scr h9 l0 9 7 (fun x11 : Nat => gR scr h9 l0 9 3 (fun x12 : Nat => sV scr d 166 [.ref x11, .ref x12] h9 (fun h13 : aH => gR scr h13 l0 9 8 (fun x15 : Nat => gR scr h13 l0 9 4 (fun x16 : Nat => sV scr d 166 [.ref x15, .ref x16] h13 (fun h17 : aH => gR scr h17 l0 9 9 (fun x19 : Nat => gR scr h17 l0 9 10 (fun x20 : Nat => sV scr d 166 [.ref x19, .ref x20] h17 (fun h21 : aH => gR scr h21 l0 9 1 (fun x23 : Nat => wI h21 x23 4 0 (fun h24 : aH => gR scr h24 l0 9 1 (fun x25 : Nat => wI h24 x25 5 0 (fun h26 : aH => E scr false (d + 1) 169 161 [.ref l0, .int l1, .int l2, .int 0] [] h26 K))))))))))))))))))) else gI scr h1 l0 9 21 (fun x27 : Int32 => K (some (.int ((-2) - x27))) h1)))) else vV scr d 165 [.ref l0, .int l1] h (fun h28 : aH => vI scr d 167 [.ref l0] h28 (fun (x31 : Int32) (h30 : aH) => E scr false (d + 1) 169 50 [.ref l0, .int (l1 + 1), .int x31, .null] [] h30 K))) := go (w := (51, [.ref l0, .int l1, .int l2, .null], [.int l2], h)) r169_50 rfl rfl (E_i1_eq r169_51 rfl (go (w := (71, [.ref l0, .int l1, .int l2, .null], [.ref l0], h)) r169_70 rfl rfl (E_ic r169_71 (v := 0) (by decide) (E_pI r169_72 ⟨rfl, rfl⟩ (fun h1 => go (w := (76, [.ref l0, .int l1, .int l2, .null], [.ref l0], h1)) r169_75 rfl rfl (E_gI r169_76 rfl (fun x2 => E_i1_le r169_79 rfl (go (w := (91, [.ref l0, .int l1, .int l2, .null], [.ref l0], h1)) r169_90 rfl rfl (E_gR r169_91 rfl (fun x3 => go (w := (95, [.ref l0, .int l1, .int l2, .null], [.ref l0, .ref x3], h1)) r169_94 rfl rfl (E_gR r169_95 rfl (fun x4 => E_sV r169_98 (As := [.ref x3, .ref x4]) (rest := []) (cut_n mi166.1 rfl rfl) (rm8_n mi166.2.1 (Nat.le_of_ble_eq_true rfl) (Nat.le_of_ble_eq_true rfl)) mi166.2.2 (fun h5 => go (w := (102, [.ref l0, .int l1, .int l2, .null], [.ref l0], h5)) r169_101 rfl rfl (E_gR r169_102 rfl (fun x7 => go (w := (106, [.ref l0, .int l1, .int l2, .null], [.ref l0, .ref x7], h5)) r169_105 rfl rfl (E_gR r169_106 rfl (fun x8 => E_sV r169_109 (As := [.ref x7, .ref x8]) (rest := []) (cut_n mi166.1 rfl rfl) (rm8_n mi166.2.1 (Nat.le_of_ble_eq_true rfl) (Nat.le_of_ble_eq_true rfl)) mi166.2.2 (fun h9 => go (w := (113, [.ref l0, .int l1, .int l2, .null], [.ref l0], h9)) r169_112 rfl rfl (E_gR r169_113 rfl (fun x11 => go (w := (117, [.ref l0, .int l1, .int l2, .null], [.ref l0, .ref x11], h9)) r169_116 rfl rfl (E_gR r169_117 rfl (fun x12 => E_sV r169_120 (As := [.ref x11, .ref x12]) (rest := []) (cut_n mi166.1 rfl rfl) (rm8_n mi166.2.1 (Nat.le_of_ble_eq_true rfl) (Nat.le_of_ble_eq_true rfl)) mi166.2.2 (fun h13 => go (w := (124, [.ref l0, .int l1, .int l2, .null], [.ref l0], h13)) r169_123 rfl rfl (E_gR r169_124 rfl (fun x15 => go (w := (128, [.ref l0, .int l1, .int l2, .null], [.ref l0, .ref x15], h13)) r169_127 rfl rfl (E_gR r169_128 rfl (fun x16 => E_sV r169_131 (As := [.ref x15, .ref x16]) (rest := []) (cut_n mi166.1 rfl rfl) (rm8_n mi166.2.1 (Nat.le_of_ble_eq_true rfl) (Nat.le_of_ble_eq_true rfl)) mi166.2.2 (fun h17 => go (w := (135, [.ref l0, .int l1, .int l2, .null], [.ref l0], h17)) r169_134 rfl rfl (E_gR r169_135 rfl (fun x19 => go (w := (139, [.ref l0, .int l1, .int l2, .null], [.ref l0, .ref x19], h17)) r169_138 rfl rfl (E_gR r169_139 rfl (fun x20 => E_sV r169_142 (As := [.ref x19, .ref x20]) (rest := []) (cut_n mi166.1 rfl rfl) (rm8_n mi166.2.1 (Nat.le_of_ble_eq_true rfl) (Nat.le_of_ble_eq_true rfl)) mi166.2.2 (fun h21 => go (w := (146, [.ref l0, .int l1, .int l2, .null], [.ref l0], h21)) r169_145 rfl rfl (E_gR r169_146 rfl (fun x23 => E_ic r169_149 (v := 4) (by decide) (E_ic r169_150 (v := 0) (by decide) (E_wI r169_151 (fun h24 => go (w := (153, [.ref l0, .int l1, .int l2, .null], [.ref l0], h24)) r169_152 rfl rfl (E_gR r169_153 rfl (fun x25 => E_ic r169_156 (v := 5) (by decide) (E_ic r169_157 (v := 0) (by decide) (E_wI r169_158 (fun h26 => E_ic r169_159 (v := 0) (by decide) (go (w := (161, [.ref l0, .int l1, .int l2, .int 0], [], h26)) r169_160 rfl rfl (rfl)))))))))))))))))))))))))))))))))))))) (E_bip r169_82 (v := (-2)) (by decide) (go (w := (85, [.ref l0, .int l1, .int l2, .null], [.ref l0, .int (-2)], h1)) r169_84 rfl rfl (E_gI r169_85 rfl (fun x27 => go (w := (89, [.ref l0, .int l1, .int l2, .null], [.int ((-2) - x27)], h1)) r169_88 rfl rfl (E_ri r169_89 (mq169)))))))))))) (go (w := (55, [.ref l0, .int l1, .int l2, .null], [.ref l0], h)) r169_54 rfl rfl (go (w := (56, [.ref l0, .int l1, .int l2, .null], [.int l1, .ref l0], h)) r169_55 rfl rfl (E_vV r169_56 (As := [.ref l0, .int l1]) (rest := []) (cut_n mi165.1 rfl rfl) (rm8_n mi165.2.1 (Nat.le_of_ble_eq_true rfl) (Nat.le_of_ble_eq_true rfl)) mi165.2.2 (fun h28 => E_inc r169_59 (c := 1) rfl (by decide) (L' := [.ref l0, .int (l1 + 1), .int l2, .null]) rfl (go (w := (63, [.ref l0, .int (l1 + 1), .int l2, .null], [.ref l0], h28)) r169_62 rfl rfl (E_vI r169_63 (As := [.ref l0]) (rest := []) (cut_n mi167.1 rfl rfl) (rm8_n mi167.2.1 (Nat.le_of_ble_eq_true rfl) (Nat.le_of_ble_eq_true rfl)) mi167.2.2 (fun x31 h30 => go (w := (67, [.ref l0, .int (l1 + 1), .int x31, .null], [], h30)) r169_66 rfl rfl (E_gt r169_67 rfl (rfl))))))))))
theorem b169_161 (d : Nat) (l0 : Nat) (l1 : Int32) (l2 : Int32) (l3 : Int32) (h : aH) (K : Option Value → aH → Prop) : E scr false (d + 1) 169 161 [.ref l0, .int l1, .int l2, .int l3] [] h K = (if 12 ≤ l3 then vV scr d 135 [.ref l0] h (fun h1 : aH => gR scr h1 l0 9 1 (fun x3 : Nat => aI scr h1 x3 2 (fun x4 : Int32 => K (some (.int x4)) h1))) else gR scr h l0 9 11 (fun x5 : Nat => wI h x5 l3 ((-1)) (fun h6 : aH => E scr false (d + 1) 169 161 [.ref l0, .int l1, .int l2, .int (l3 + 1)] [] h6 K))) := go (w := (162, [.ref l0, .int l1, .int l2, .int l3], [.int l3], h)) r169_161 rfl rfl (E_bip r169_162 (v := 12) (by decide) (E_i2_ge r169_164 rfl (go (w := (181, [.ref l0, .int l1, .int l2, .int l3], [.ref l0], h)) r169_180 rfl rfl (E_vV r169_181 (As := [.ref l0]) (rest := []) (cut_n mi135.1 rfl rfl) (rm8_n mi135.2.1 (Nat.le_of_ble_eq_true rfl) (Nat.le_of_ble_eq_true rfl)) mi135.2.2 (fun h1 => go (w := (185, [.ref l0, .int l1, .int l2, .int l3], [.ref l0], h1)) r169_184 rfl rfl (E_gR r169_185 rfl (fun x3 => E_ic r169_188 (v := 2) (by decide) (E_aI r169_189 (fun x4 => E_ri r169_190 (mq169)))))))) (go (w := (168, [.ref l0, .int l1, .int l2, .int l3], [.ref l0], h)) r169_167 rfl rfl (E_gR r169_168 rfl (fun x5 => go (w := (172, [.ref l0, .int l1, .int l2, .int l3], [.int l3, .ref x5], h)) r169_171 rfl rfl (E_ic r169_172 (v := (-1)) (by decide) (E_wI r169_173 (fun h6 => E_inc r169_174 (c := 1) rfl (by decide) (L' := [.ref l0, .int l1, .int l2, .int (l3 + 1)]) rfl (E_gt r169_177 rfl (rfl))))))))))
-- 170 SecondNearestModel.lawClause(I)V
theorem mq170 : mRet 170 = none := by decide +kernel
theorem r170_0 : rowAt 170 0 = some (.aload_n 0, 1, 0, 0) := by decide +kernel
theorem r170_1 : rowAt 170 1 = some (.invokevirtual 243, 3, 144, 0) := by decide +kernel
theorem r170_4 : rowAt 170 4 = some (.aload_n 0, 1, 0, 0) := by decide +kernel
theorem r170_5 : rowAt 170 5 = some (.getfield 223, 3, 9, 20) := by decide +kernel
theorem r170_8 : rowAt 170 8 = some (.istore_n 2, 1, 0, 0) := by decide +kernel
theorem r170_9 : rowAt 170 9 = some (.aload_n 0, 1, 0, 0) := by decide +kernel
theorem r170_10 : rowAt 170 10 = some (.ldc_w 353, 3, 9, 1) := by decide +kernel
theorem r170_13 : rowAt 170 13 = some (.invokevirtual 246, 3, 146, 0) := by decide +kernel
theorem r170_16 : rowAt 170 16 = some (.istore_n 3, 1, 0, 0) := by decide +kernel
theorem r170_17 : rowAt 170 17 = some (.iload_n 3, 1, 0, 0) := by decide +kernel
theorem r170_18 : rowAt 170 18 = some (.ifCond .ne 20, 3, 0, 0) := by decide +kernel
theorem r170_21 : rowAt 170 21 = some (.aload_n 0, 1, 0, 0) := by decide +kernel
theorem r170_22 : rowAt 170 22 = some (.ldc_w 355, 3, 10, 1) := by decide +kernel
theorem r170_25 : rowAt 170 25 = some (.invokevirtual 246, 3, 146, 0) := by decide +kernel
theorem r170_28 : rowAt 170 28 = some (.ifCond .ne 10, 3, 0, 0) := by decide +kernel
theorem r170_31 : rowAt 170 31 = some (.aload_n 0, 1, 0, 0) := by decide +kernel
theorem r170_32 : rowAt 170 32 = some (.iconst 0, 1, 0, 0) := by decide +kernel
theorem r170_33 : rowAt 170 33 = some (.iload_n 2, 1, 0, 0) := by decide +kernel
theorem r170_34 : rowAt 170 34 = some (.invokevirtual 259, 3, 142, 0) := by decide +kernel
theorem r170_37 : rowAt 170 37 = some (.return_, 1, 0, 0) := by decide +kernel
theorem r170_38 : rowAt 170 38 = some (.iload_n 1, 1, 0, 0) := by decide +kernel
theorem r170_39 : rowAt 170 39 = some (.bipush 12, 2, 0, 0) := by decide +kernel
theorem r170_41 : rowAt 170 41 = some (.if_icmp .ne 10, 3, 0, 0) := by decide +kernel
theorem r170_44 : rowAt 170 44 = some (.aload_n 0, 1, 0, 0) := by decide +kernel
theorem r170_45 : rowAt 170 45 = some (.iconst 4, 1, 0, 0) := by decide +kernel
theorem r170_46 : rowAt 170 46 = some (.iload_n 2, 1, 0, 0) := by decide +kernel
theorem r170_47 : rowAt 170 47 = some (.invokevirtual 259, 3, 142, 0) := by decide +kernel
theorem r170_50 : rowAt 170 50 = some (.return_, 1, 0, 0) := by decide +kernel
theorem r170_51 : rowAt 170 51 = some (.aload_n 0, 1, 0, 0) := by decide +kernel
theorem r170_52 : rowAt 170 52 = some (.dup, 1, 0, 0) := by decide +kernel
theorem r170_53 : rowAt 170 53 = some (.getfield 223, 3, 9, 20) := by decide +kernel
theorem r170_56 : rowAt 170 56 = some (.iload_n 3, 1, 0, 0) := by decide +kernel
theorem r170_57 : rowAt 170 57 = some (.ifCond .eq 8, 3, 0, 0) := by decide +kernel
theorem r170_60 : rowAt 170 60 = some (.bipush 6, 2, 0, 0) := by decide +kernel
theorem r170_62 : rowAt 170 62 = some (.goto 4, 3, 0, 0) := by decide +kernel
theorem r170_65 : rowAt 170 65 = some (.iconst 5, 1, 0, 0) := by decide +kernel
theorem r170_66 : rowAt 170 66 = some (.iadd, 1, 0, 0) := by decide +kernel
theorem r170_67 : rowAt 170 67 = some (.putfield 223, 3, 9, 20) := by decide +kernel
theorem r170_70 : rowAt 170 70 = some (.bipush 12, 2, 0, 0) := by decide +kernel
theorem r170_72 : rowAt 170 72 = some (.aload_n 0, 1, 0, 0) := by decide +kernel
theorem r170_73 : rowAt 170 73 = some (.getfield 250, 3, 9, 22) := by decide +kernel
theorem r170_76 : rowAt 170 76 = some (.imul, 1, 0, 0) := by decide +kernel
theorem r170_77 : rowAt 170 77 = some (.iload_n 1, 1, 0, 0) := by decide +kernel
theorem r170_78 : rowAt 170 78 = some (.iadd, 1, 0, 0) := by decide +kernel
theorem r170_79 : rowAt 170 79 = some (.istore 4, 2, 0, 0) := by decide +kernel
theorem r170_81 : rowAt 170 81 = some (.aload_n 0, 1, 0, 0) := by decide +kernel
theorem r170_82 : rowAt 170 82 = some (.getfield 78, 3, 9, 33) := by decide +kernel
theorem r170_85 : rowAt 170 85 = some (.iload 4, 2, 0, 0) := by decide +kernel
theorem r170_87 : rowAt 170 87 = some (.iload_n 3, 1, 0, 0) := by decide +kernel
theorem r170_88 : rowAt 170 88 = some (.ifCond .eq 13, 3, 0, 0) := by decide +kernel
theorem r170_91 : rowAt 170 91 = some (.aload_n 0, 1, 0, 0) := by decide +kernel
theorem r170_92 : rowAt 170 92 = some (.iconst 1, 1, 0, 0) := by decide +kernel
theorem r170_93 : rowAt 170 93 = some (.bipush 9, 2, 0, 0) := by decide +kernel
theorem r170_95 : rowAt 170 95 = some (.invokevirtual 320, 3, 160, 0) := by decide +kernel
theorem r170_98 : rowAt 170 98 = some (.goto 4, 3, 0, 0) := by decide +kernel
theorem r170_101 : rowAt 170 101 = some (.iconst 0, 1, 0, 0) := by decide +kernel
theorem r170_102 : rowAt 170 102 = some (.iastore, 1, 0, 0) := by decide +kernel
theorem r170_103 : rowAt 170 103 = some (.aload_n 0, 1, 0, 0) := by decide +kernel
theorem r170_104 : rowAt 170 104 = some (.getfield 81, 3, 9, 34) := by decide +kernel
theorem r170_107 : rowAt 170 107 = some (.iload 4, 2, 0, 0) := by decide +kernel
theorem r170_109 : rowAt 170 109 = some (.aload_n 0, 1, 0, 0) := by decide +kernel
theorem r170_110 : rowAt 170 110 = some (.getfield 253, 3, 9, 24) := by decide +kernel
theorem r170_113 : rowAt 170 113 = some (.iastore, 1, 0, 0) := by decide +kernel
theorem r170_114 : rowAt 170 114 = some (.aload_n 0, 1, 0, 0) := by decide +kernel
theorem r170_115 : rowAt 170 115 = some (.getfield 220, 3, 9, 21) := by decide +kernel
theorem r170_118 : rowAt 170 118 = some (.ifCond .ne 17, 3, 0, 0) := by decide +kernel
theorem r170_121 : rowAt 170 121 = some (.aload_n 0, 1, 0, 0) := by decide +kernel
theorem r170_122 : rowAt 170 122 = some (.ldc_w 357, 3, 11, 1) := by decide +kernel
theorem r170_125 : rowAt 170 125 = some (.invokevirtual 359, 3, 147, 0) := by decide +kernel
theorem r170_128 : rowAt 170 128 = some (.ifCond .eq 7, 3, 0, 0) := by decide +kernel
theorem r170_131 : rowAt 170 131 = some (.aload_n 0, 1, 0, 0) := by decide +kernel
theorem r170_132 : rowAt 170 132 = some (.invokevirtual 362, 3, 159, 0) := by decide +kernel
theorem r170_135 : rowAt 170 135 = some (.aload_n 0, 1, 0, 0) := by decide +kernel
theorem r170_136 : rowAt 170 136 = some (.getfield 84, 3, 9, 35) := by decide +kernel
theorem r170_139 : rowAt 170 139 = some (.iload 4, 2, 0, 0) := by decide +kernel
theorem r170_141 : rowAt 170 141 = some (.aload_n 0, 1, 0, 0) := by decide +kernel
theorem r170_142 : rowAt 170 142 = some (.getfield 253, 3, 9, 24) := by decide +kernel
theorem r170_145 : rowAt 170 145 = some (.iastore, 1, 0, 0) := by decide +kernel
theorem r170_146 : rowAt 170 146 = some (.return_, 1, 0, 0) := by decide +kernel
theorem en170 (a0 : Nat) (a1 : Int32) : iniL 170 [.ref a0, .int a1] = [.ref a0, .int a1, .null, .null, .null] := ini_n mi170 rfl
theorem b170_0 (d : Nat) (l0 : Nat) (l1 : Int32) (h : aH) (K : Option Value → aH → Prop) : E scr false (d + 1) 170 0 [.ref l0, .int l1, .null, .null, .null] [] h K = vV scr d 144 [.ref l0] h (fun h1 : aH => gI scr h1 l0 9 20 (fun x3 : Int32 => vI scr d 146 [.ref l0, .ref 20009] h1 (fun (x5 : Int32) (h4 : aH) => (if x5 = 0 then vI scr d 146 [.ref l0, .ref 20010] h4 (fun (x7 : Int32) (h6 : aH) => (if x7 = 0 then vV scr d 142 [.ref l0, .int 0, .int x3] h6 (fun h8 : aH => K none h8) else E scr false (d + 1) 170 38 [.ref l0, .int l1, .int x3, .int x5, .null] [] h6 K)) else E scr false (d + 1) 170 38 [.ref l0, .int l1, .int x3, .int x5, .null] [] h4 K)))) := go (w := (1, [.ref l0, .int l1, .null, .null, .null], [.ref l0], h)) r170_0 rfl rfl (E_vV r170_1 (As := [.ref l0]) (rest := []) (cut_n mi144.1 rfl rfl) (rm8_n mi144.2.1 (Nat.le_of_ble_eq_true rfl) (Nat.le_of_ble_eq_true rfl)) mi144.2.2 (fun h1 => go (w := (5, [.ref l0, .int l1, .null, .null, .null], [.ref l0], h1)) r170_4 rfl rfl (E_gI r170_5 rfl (fun x3 => go (w := (9, [.ref l0, .int l1, .int x3, .null, .null], [], h1)) r170_8 rfl rfl (go (w := (10, [.ref l0, .int l1, .int x3, .null, .null], [.ref l0], h1)) r170_9 rfl rfl (E_ldsw r170_10 (v := 20009) rfl (E_vI r170_13 (As := [.ref l0, .ref 20009]) (rest := []) (cut_n mi146.1 rfl rfl) (rm8_n mi146.2.1 (Nat.le_of_ble_eq_true rfl) (Nat.le_of_ble_eq_true rfl)) mi146.2.2 (fun x5 h4 => go (w := (17, [.ref l0, .int l1, .int x3, .int x5, .null], [], h4)) r170_16 rfl rfl (go (w := (18, [.ref l0, .int l1, .int x3, .int x5, .null], [.int x5], h4)) r170_17 rfl rfl (E_i1_ne r170_18 rfl (rfl) (go (w := (22, [.ref l0, .int l1, .int x3, .int x5, .null], [.ref l0], h4)) r170_21 rfl rfl (E_ldsw r170_22 (v := 20010) rfl (E_vI r170_25 (As := [.ref l0, .ref 20010]) (rest := []) (cut_n mi146.1 rfl rfl) (rm8_n mi146.2.1 (Nat.le_of_ble_eq_true rfl) (Nat.le_of_ble_eq_true rfl)) mi146.2.2 (fun x7 h6 => E_i1_ne r170_28 rfl (rfl) (go (w := (32, [.ref l0, .int l1, .int x3, .int x5, .null], [.ref l0], h6)) r170_31 rfl rfl (E_ic r170_32 (v := 0) (by decide) (go (w := (34, [.ref l0, .int l1, .int x3, .int x5, .null], [.int x3, .int 0, .ref l0], h6)) r170_33 rfl rfl (E_vV r170_34 (As := [.ref l0, .int 0, .int x3]) (rest := []) (cut_n mi142.1 rfl rfl) (rm8_n mi142.2.1 (Nat.le_of_ble_eq_true rfl) (Nat.le_of_ble_eq_true rfl)) mi142.2.2 (fun h8 => E_vret r170_37 (mq170))))))))))))))))))))
theorem b170_38 (d : Nat) (l0 : Nat) (l1 : Int32) (l2 : Int32) (l3 : Int32) (h : aH) (K : Option Value → aH → Prop) : E scr false (d + 1) 170 38 [.ref l0, .int l1, .int l2, .int l3, .null] [] h K = (if l1 = 12 then vV scr d 142 [.ref l0, .int 4, .int l2] h (fun h2 : aH => K none h2) else gI scr h l0 9 20 (fun x1 : Int32 => (if l3 = 0 then E scr false (d + 1) 170 66 [.ref l0, .int l1, .int l2, .int l3, .null] [.int 5, .int x1, .ref l0] h K else E scr false (d + 1) 170 66 [.ref l0, .int l1, .int l2, .int l3, .null] [.int 6, .int x1, .ref l0] h K))) := go (w := (39, [.ref l0, .int l1, .int l2, .int l3, .null], [.int l1], h)) r170_38 rfl rfl (E_bip r170_39 (v := 12) (by decide) (E_i2_ne r170_41 rfl (go (w := (52, [.ref l0, .int l1, .int l2, .int l3, .null], [.ref l0], h)) r170_51 rfl rfl (go (w := (53, [.ref l0, .int l1, .int l2, .int l3, .null], [.ref l0, .ref l0], h)) r170_52 rfl rfl (E_gI r170_53 rfl (fun x1 => go (w := (57, [.ref l0, .int l1, .int l2, .int l3, .null], [.int l3, .int x1, .ref l0], h)) r170_56 rfl rfl (E_i1_eq r170_57 rfl (E_ic r170_65 (v := 5) (by decide) (rfl)) (E_bip r170_60 (v := 6) (by decide) (E_gt r170_62 rfl (rfl)))))))) (go (w := (45, [.ref l0, .int l1, .int l2, .int l3, .null], [.ref l0], h)) r170_44 rfl rfl (E_ic r170_45 (v := 4) (by decide) (go (w := (47, [.ref l0, .int l1, .int l2, .int l3, .null], [.int l2, .int 4, .ref l0], h)) r170_46 rfl rfl (E_vV r170_47 (As := [.ref l0, .int 4, .int l2]) (rest := []) (cut_n mi142.1 rfl rfl) (rm8_n mi142.2.1 (Nat.le_of_ble_eq_true rfl) (Nat.le_of_ble_eq_true rfl)) mi142.2.2 (fun h2 => E_vret r170_50 (mq170))))))))
theorem b170_66 (d : Nat) (l0 : Nat) (l1 : Int32) (l2 : Int32) (l3 : Int32) (s0 : Int32) (s1 : Int32) (s2 : Nat) (h : aH) (K : Option Value → aH → Prop) : E scr false (d + 1) 170 66 [.ref l0, .int l1, .int l2, .int l3, .null] [.int s0, .int s1, .ref s2] h K = pF h s2 9 20 (.int (s1 + s0)) (fun h1 : aH => gI scr h1 l0 9 22 (fun x2 : Int32 => gR scr h1 l0 9 33 (fun x3 : Nat => (if l3 = 0 then E scr false (d + 1) 170 102 [.ref l0, .int l1, .int l2, .int l3, .int ((12 * x2) + l1)] [.int 0, .int ((12 * x2) + l1), .ref x3] h1 K else vI scr d 160 [.ref l0, .int 1, .int 9] h1 (fun (x5 : Int32) (h4 : aH) => E scr false (d + 1) 170 102 [.ref l0, .int l1, .int l2, .int l3, .int ((12 * x2) + l1)] [.int x5, .int ((12 * x2) + l1), .ref x3] h4 K))))) := go (w := (67, [.ref l0, .int l1, .int l2, .int l3, .null], [.int (s1 + s0), .ref s2], h)) r170_66 rfl rfl (E_pI r170_67 ⟨rfl, rfl⟩ (fun h1 => E_bip r170_70 (v := 12) (by decide) (go (w := (73, [.ref l0, .int l1, .int l2, .int l3, .null], [.ref l0, .int 12], h1)) r170_72 rfl rfl (E_gI r170_73 rfl (fun x2 => go (w := (77, [.ref l0, .int l1, .int l2, .int l3, .null], [.int (12 * x2)], h1)) r170_76 rfl rfl (go (w := (78, [.ref l0, .int l1, .int l2, .int l3, .null], [.int l1, .int (12 * x2)], h1)) r170_77 rfl rfl (go (w := (79, [.ref l0, .int l1, .int l2, .int l3, .null], [.int ((12 * x2) + l1)], h1)) r170_78 rfl rfl (go (w := (81, [.ref l0, .int l1, .int l2, .int l3, .int ((12 * x2) + l1)], [], h1)) r170_79 rfl rfl (go (w := (82, [.ref l0, .int l1, .int l2, .int l3, .int ((12 * x2) + l1)], [.ref l0], h1)) r170_81 rfl rfl (E_gR r170_82 rfl (fun x3 => go (w := (87, [.ref l0, .int l1, .int l2, .int l3, .int ((12 * x2) + l1)], [.int ((12 * x2) + l1), .ref x3], h1)) r170_85 rfl rfl (go (w := (88, [.ref l0, .int l1, .int l2, .int l3, .int ((12 * x2) + l1)], [.int l3, .int ((12 * x2) + l1), .ref x3], h1)) r170_87 rfl rfl (E_i1_eq r170_88 rfl (E_ic r170_101 (v := 0) (by decide) (rfl)) (go (w := (92, [.ref l0, .int l1, .int l2, .int l3, .int ((12 * x2) + l1)], [.ref l0, .int ((12 * x2) + l1), .ref x3], h1)) r170_91 rfl rfl (E_ic r170_92 (v := 1) (by decide) (E_bip r170_93 (v := 9) (by decide) (E_vI r170_95 (As := [.ref l0, .int 1, .int 9]) (rest := [.int ((12 * x2) + l1), .ref x3]) (cut_n mi160.1 rfl rfl) (rm8_n mi160.2.1 (Nat.le_of_ble_eq_true rfl) (Nat.le_of_ble_eq_true rfl)) mi160.2.2 (fun x5 h4 => E_gt r170_98 rfl (rfl)))))))))))))))))))
theorem b170_102 (d : Nat) (l0 : Nat) (l1 : Int32) (l2 : Int32) (l3 : Int32) (l4 : Int32) (s0 : Int32) (s1 : Int32) (s2 : Nat) (h : aH) (K : Option Value → aH → Prop) : E scr false (d + 1) 170 102 [.ref l0, .int l1, .int l2, .int l3, .int l4] [.int s0, .int s1, .ref s2] h K = wI h s2 s1 s0 (fun h1 : aH => gR scr h1 l0 9 34 (fun x2 : Nat => gI scr h1 l0 9 24 (fun x3 : Int32 => wI h1 x2 l4 x3 (fun h4 : aH => gI scr h4 l0 9 21 (fun x5 : Int32 => (if x5 = 0 then vI scr d 147 [.ref l0, .ref 20011] h4 (fun (x7 : Int32) (h6 : aH) => (if x7 = 0 then E scr false (d + 1) 170 135 [.ref l0, .int l1, .int l2, .int l3, .int l4] [] h6 K else vV scr d 159 [.ref l0] h6 (fun h8 : aH => E scr false (d + 1) 170 135 [.ref l0, .int l1, .int l2, .int l3, .int l4] [] h8 K))) else E scr false (d + 1) 170 135 [.ref l0, .int l1, .int l2, .int l3, .int l4] [] h4 K)))))) := E_wI r170_102 (fun h1 => go (w := (104, [.ref l0, .int l1, .int l2, .int l3, .int l4], [.ref l0], h1)) r170_103 rfl rfl (E_gR r170_104 rfl (fun x2 => go (w := (109, [.ref l0, .int l1, .int l2, .int l3, .int l4], [.int l4, .ref x2], h1)) r170_107 rfl rfl (go (w := (110, [.ref l0, .int l1, .int l2, .int l3, .int l4], [.ref l0, .int l4, .ref x2], h1)) r170_109 rfl rfl (E_gI r170_110 rfl (fun x3 => E_wI r170_113 (fun h4 => go (w := (115, [.ref l0, .int l1, .int l2, .int l3, .int l4], [.ref l0], h4)) r170_114 rfl rfl (E_gI r170_115 rfl (fun x5 => E_i1_ne r170_118 rfl (rfl) (go (w := (122, [.ref l0, .int l1, .int l2, .int l3, .int l4], [.ref l0], h4)) r170_121 rfl rfl (E_ldsw r170_122 (v := 20011) rfl (E_vI r170_125 (As := [.ref l0, .ref 20011]) (rest := []) (cut_n mi147.1 rfl rfl) (rm8_n mi147.2.1 (Nat.le_of_ble_eq_true rfl) (Nat.le_of_ble_eq_true rfl)) mi147.2.2 (fun x7 h6 => E_i1_eq r170_128 rfl (rfl) (go (w := (132, [.ref l0, .int l1, .int l2, .int l3, .int l4], [.ref l0], h6)) r170_131 rfl rfl (E_vV r170_132 (As := [.ref l0]) (rest := []) (cut_n mi159.1 rfl rfl) (rm8_n mi159.2.1 (Nat.le_of_ble_eq_true rfl) (Nat.le_of_ble_eq_true rfl)) mi159.2.2 (fun h8 => rfl))))))))))))))))
theorem b170_135 (d : Nat) (l0 : Nat) (l1 : Int32) (l2 : Int32) (l3 : Int32) (l4 : Int32) (h : aH) (K : Option Value → aH → Prop) : E scr false d 170 135 [.ref l0, .int l1, .int l2, .int l3, .int l4] [] h K = gR scr h l0 9 35 (fun x1 : Nat => gI scr h l0 9 24 (fun x2 : Int32 => wI h x1 l4 x2 (fun h3 : aH => K none h3))) := go (w := (136, [.ref l0, .int l1, .int l2, .int l3, .int l4], [.ref l0], h)) r170_135 rfl rfl (E_gR r170_136 rfl (fun x1 => go (w := (141, [.ref l0, .int l1, .int l2, .int l3, .int l4], [.int l4, .ref x1], h)) r170_139 rfl rfl (go (w := (142, [.ref l0, .int l1, .int l2, .int l3, .int l4], [.ref l0, .int l4, .ref x1], h)) r170_141 rfl rfl (E_gI r170_142 rfl (fun x2 => E_wI r170_145 (fun h3 => E_vret r170_146 (mq170)))))))
-- 171 SecondNearestModel.law()I
theorem mq171 : mRet 171 = (some .int) := by decide +kernel
theorem r171_0 : rowAt 171 0 = some (.aload_n 0, 1, 0, 0) := by decide +kernel
theorem r171_1 : rowAt 171 1 = some (.getfield 365, 3, 9, 23) := by decide +kernel
theorem r171_4 : rowAt 171 4 = some (.bipush 6, 2, 0, 0) := by decide +kernel
theorem r171_6 : rowAt 171 6 = some (.if_icmp .ne 5, 3, 0, 0) := by decide +kernel
theorem r171_9 : rowAt 171 9 = some (.iconst (-1), 1, 0, 0) := by decide +kernel
theorem r171_10 : rowAt 171 10 = some (.ireturn, 1, 0, 0) := by decide +kernel
theorem r171_11 : rowAt 171 11 = some (.aload_n 0, 1, 0, 0) := by decide +kernel
theorem r171_12 : rowAt 171 12 = some (.aload_n 0, 1, 0, 0) := by decide +kernel
theorem r171_13 : rowAt 171 13 = some (.getfield 365, 3, 9, 23) := by decide +kernel
theorem r171_16 : rowAt 171 16 = some (.putfield 250, 3, 9, 22) := by decide +kernel
theorem r171_19 : rowAt 171 19 = some (.aload_n 0, 1, 0, 0) := by decide +kernel
theorem r171_20 : rowAt 171 20 = some (.invokevirtual 337, 3, 168, 0) := by decide +kernel
theorem r171_23 : rowAt 171 23 = some (.iconst 0, 1, 0, 0) := by decide +kernel
theorem r171_24 : rowAt 171 24 = some (.istore_n 1, 1, 0, 0) := by decide +kernel
theorem r171_25 : rowAt 171 25 = some (.iconst 1, 1, 0, 0) := by decide +kernel
theorem r171_26 : rowAt 171 26 = some (.istore_n 2, 1, 0, 0) := by decide +kernel
theorem r171_27 : rowAt 171 27 = some (.iload_n 2, 1, 0, 0) := by decide +kernel
theorem r171_28 : rowAt 171 28 = some (.ifCond .eq 19, 3, 0, 0) := by decide +kernel
theorem r171_31 : rowAt 171 31 = some (.aload_n 0, 1, 0, 0) := by decide +kernel
theorem r171_32 : rowAt 171 32 = some (.iload_n 1, 1, 0, 0) := by decide +kernel
theorem r171_33 : rowAt 171 33 = some (.invokevirtual 368, 3, 170, 0) := by decide +kernel
theorem r171_36 : rowAt 171 36 = some (.iinc 1 1, 3, 0, 0) := by decide +kernel
theorem r171_39 : rowAt 171 39 = some (.aload_n 0, 1, 0, 0) := by decide +kernel
theorem r171_40 : rowAt 171 40 = some (.invokevirtual 343, 3, 167, 0) := by decide +kernel
theorem r171_43 : rowAt 171 43 = some (.istore_n 2, 1, 0, 0) := by decide +kernel
theorem r171_44 : rowAt 171 44 = some (.goto (-17), 3, 0, 0) := by decide +kernel
theorem r171_47 : rowAt 171 47 = some (.aload_n 0, 1, 0, 0) := by decide +kernel
theorem r171_48 : rowAt 171 48 = some (.iconst 0, 1, 0, 0) := by decide +kernel
theorem r171_49 : rowAt 171 49 = some (.putfield 199, 3, 9, 19) := by decide +kernel
theorem r171_52 : rowAt 171 52 = some (.aload_n 0, 1, 0, 0) := by decide +kernel
theorem r171_53 : rowAt 171 53 = some (.getfield 75, 3, 9, 32) := by decide +kernel
theorem r171_56 : rowAt 171 56 = some (.aload_n 0, 1, 0, 0) := by decide +kernel
theorem r171_57 : rowAt 171 57 = some (.getfield 250, 3, 9, 22) := by decide +kernel
theorem r171_60 : rowAt 171 60 = some (.iload_n 1, 1, 0, 0) := by decide +kernel
theorem r171_61 : rowAt 171 61 = some (.iastore, 1, 0, 0) := by decide +kernel
theorem r171_62 : rowAt 171 62 = some (.aload_n 0, 1, 0, 0) := by decide +kernel
theorem r171_63 : rowAt 171 63 = some (.dup, 1, 0, 0) := by decide +kernel
theorem r171_64 : rowAt 171 64 = some (.getfield 365, 3, 9, 23) := by decide +kernel
theorem r171_67 : rowAt 171 67 = some (.aload_n 0, 1, 0, 0) := by decide +kernel
theorem r171_68 : rowAt 171 68 = some (.getfield 220, 3, 9, 21) := by decide +kernel
theorem r171_71 : rowAt 171 71 = some (.ifCond .ne 7, 3, 0, 0) := by decide +kernel
theorem r171_74 : rowAt 171 74 = some (.iconst 1, 1, 0, 0) := by decide +kernel
theorem r171_75 : rowAt 171 75 = some (.goto 4, 3, 0, 0) := by decide +kernel
theorem r171_78 : rowAt 171 78 = some (.iconst 0, 1, 0, 0) := by decide +kernel
theorem r171_79 : rowAt 171 79 = some (.iadd, 1, 0, 0) := by decide +kernel
theorem r171_80 : rowAt 171 80 = some (.putfield 365, 3, 9, 23) := by decide +kernel
theorem r171_83 : rowAt 171 83 = some (.aload_n 0, 1, 0, 0) := by decide +kernel
theorem r171_84 : rowAt 171 84 = some (.getfield 220, 3, 9, 21) := by decide +kernel
theorem r171_87 : rowAt 171 87 = some (.ifCond .le 13, 3, 0, 0) := by decide +kernel
theorem r171_90 : rowAt 171 90 = some (.bipush (-2), 2, 0, 0) := by decide +kernel
theorem r171_92 : rowAt 171 92 = some (.aload_n 0, 1, 0, 0) := by decide +kernel
theorem r171_93 : rowAt 171 93 = some (.getfield 220, 3, 9, 21) := by decide +kernel
theorem r171_96 : rowAt 171 96 = some (.isub, 1, 0, 0) := by decide +kernel
theorem r171_97 : rowAt 171 97 = some (.goto 9, 3, 0, 0) := by decide +kernel
theorem r171_100 : rowAt 171 100 = some (.aload_n 0, 1, 0, 0) := by decide +kernel
theorem r171_101 : rowAt 171 101 = some (.getfield 365, 3, 9, 23) := by decide +kernel
theorem r171_104 : rowAt 171 104 = some (.iconst 1, 1, 0, 0) := by decide +kernel
theorem r171_105 : rowAt 171 105 = some (.isub, 1, 0, 0) := by decide +kernel
theorem r171_106 : rowAt 171 106 = some (.ireturn, 1, 0, 0) := by decide +kernel
theorem en171 (a0 : Nat) : iniL 171 [.ref a0] = [.ref a0, .null, .null] := ini_n mi171 rfl
theorem b171_0 (d : Nat) (l0 : Nat) (h : aH) (K : Option Value → aH → Prop) : E scr false (d + 1) 171 0 [.ref l0, .null, .null] [] h K = gI scr h l0 9 23 (fun x1 : Int32 => (if x1 = 6 then K (some (.int (-1))) h else gI scr h l0 9 23 (fun x2 : Int32 => pF h l0 9 22 (.int x2) (fun h3 : aH => vV scr d 168 [.ref l0] h3 (fun h4 : aH => E scr false (d + 1) 171 27 [.ref l0, .int 0, .int 1] [] h4 K))))) := go (w := (1, [.ref l0, .null, .null], [.ref l0], h)) r171_0 rfl rfl (E_gI r171_1 rfl (fun x1 => E_bip r171_4 (v := 6) (by decide) (E_i2_ne r171_6 rfl (go (w := (12, [.ref l0, .null, .null], [.ref l0], h)) r171_11 rfl rfl (go (w := (13, [.ref l0, .null, .null], [.ref l0, .ref l0], h)) r171_12 rfl rfl (E_gI r171_13 rfl (fun x2 => E_pI r171_16 ⟨rfl, rfl⟩ (fun h3 => go (w := (20, [.ref l0, .null, .null], [.ref l0], h3)) r171_19 rfl rfl (E_vV r171_20 (As := [.ref l0]) (rest := []) (cut_n mi168.1 rfl rfl) (rm8_n mi168.2.1 (Nat.le_of_ble_eq_true rfl) (Nat.le_of_ble_eq_true rfl)) mi168.2.2 (fun h4 => E_ic r171_23 (v := 0) (by decide) (go (w := (25, [.ref l0, .int 0, .null], [], h4)) r171_24 rfl rfl (E_ic r171_25 (v := 1) (by decide) (go (w := (27, [.ref l0, .int 0, .int 1], [], h4)) r171_26 rfl rfl (rfl))))))))))) (E_ic r171_9 (v := (-1)) (by decide) (E_ri r171_10 (mq171))))))
theorem b171_27 (d : Nat) (l0 : Nat) (l1 : Int32) (l2 : Int32) (h : aH) (K : Option Value → aH → Prop) : E scr false (d + 1) 171 27 [.ref l0, .int l1, .int l2] [] h K = (if l2 = 0 then pF h l0 9 19 (.int 0) (fun h1 : aH => gR scr h1 l0 9 32 (fun x2 : Nat => gI scr h1 l0 9 22 (fun x3 : Int32 => wI h1 x2 x3 l1 (fun h4 : aH => gI scr h4 l0 9 23 (fun x5 : Int32 => gI scr h4 l0 9 21 (fun x6 : Int32 => (if x6 = 0 then E scr false (d + 1) 171 79 [.ref l0, .int l1, .int l2] [.int 1, .int x5, .ref l0] h4 K else E scr false (d + 1) 171 79 [.ref l0, .int l1, .int l2] [.int 0, .int x5, .ref l0] h4 K))))))) else vV scr d 170 [.ref l0, .int l1] h (fun h7 : aH => vI scr d 167 [.ref l0] h7 (fun (x10 : Int32) (h9 : aH) => E scr false (d + 1) 171 27 [.ref l0, .int (l1 + 1), .int x10] [] h9 K))) := go (w := (28, [.ref l0, .int l1, .int l2], [.int l2], h)) r171_27 rfl rfl (E_i1_eq r171_28 rfl (go (w := (48, [.ref l0, .int l1, .int l2], [.ref l0], h)) r171_47 rfl rfl (E_ic r171_48 (v := 0) (by decide) (E_pI r171_49 ⟨rfl, rfl⟩ (fun h1 => go (w := (53, [.ref l0, .int l1, .int l2], [.ref l0], h1)) r171_52 rfl rfl (E_gR r171_53 rfl (fun x2 => go (w := (57, [.ref l0, .int l1, .int l2], [.ref l0, .ref x2], h1)) r171_56 rfl rfl (E_gI r171_57 rfl (fun x3 => go (w := (61, [.ref l0, .int l1, .int l2], [.int l1, .int x3, .ref x2], h1)) r171_60 rfl rfl (E_wI r171_61 (fun h4 => go (w := (63, [.ref l0, .int l1, .int l2], [.ref l0], h4)) r171_62 rfl rfl (go (w := (64, [.ref l0, .int l1, .int l2], [.ref l0, .ref l0], h4)) r171_63 rfl rfl (E_gI r171_64 rfl (fun x5 => go (w := (68, [.ref l0, .int l1, .int l2], [.ref l0, .int x5, .ref l0], h4)) r171_67 rfl rfl (E_gI r171_68 rfl (fun x6 => E_i1_ne r171_71 rfl (E_ic r171_78 (v := 0) (by decide) (rfl)) (E_ic r171_74 (v := 1) (by decide) (E_gt r171_75 rfl (rfl)))))))))))))))))) (go (w := (32, [.ref l0, .int l1, .int l2], [.ref l0], h)) r171_31 rfl rfl (go (w := (33, [.ref l0, .int l1, .int l2], [.int l1, .ref l0], h)) r171_32 rfl rfl (E_vV r171_33 (As := [.ref l0, .int l1]) (rest := []) (cut_n mi170.1 rfl rfl) (rm8_n mi170.2.1 (Nat.le_of_ble_eq_true rfl) (Nat.le_of_ble_eq_true rfl)) mi170.2.2 (fun h7 => E_inc r171_36 (c := 1) rfl (by decide) (L' := [.ref l0, .int (l1 + 1), .int l2]) rfl (go (w := (40, [.ref l0, .int (l1 + 1), .int l2], [.ref l0], h7)) r171_39 rfl rfl (E_vI r171_40 (As := [.ref l0]) (rest := []) (cut_n mi167.1 rfl rfl) (rm8_n mi167.2.1 (Nat.le_of_ble_eq_true rfl) (Nat.le_of_ble_eq_true rfl)) mi167.2.2 (fun x10 h9 => go (w := (44, [.ref l0, .int (l1 + 1), .int x10], [], h9)) r171_43 rfl rfl (E_gt r171_44 rfl (rfl))))))))))
theorem b171_79 (d : Nat) (l0 : Nat) (l1 : Int32) (l2 : Int32) (s0 : Int32) (s1 : Int32) (s2 : Nat) (h : aH) (K : Option Value → aH → Prop) : E scr false d 171 79 [.ref l0, .int l1, .int l2] [.int s0, .int s1, .ref s2] h K = pF h s2 9 23 (.int (s1 + s0)) (fun h1 : aH => gI scr h1 l0 9 21 (fun x2 : Int32 => (if x2 ≤ 0 then gI scr h1 l0 9 23 (fun x3 : Int32 => K (some (.int (x3 - 1))) h1) else gI scr h1 l0 9 21 (fun x4 : Int32 => K (some (.int ((-2) - x4))) h1)))) := go (w := (80, [.ref l0, .int l1, .int l2], [.int (s1 + s0), .ref s2], h)) r171_79 rfl rfl (E_pI r171_80 ⟨rfl, rfl⟩ (fun h1 => go (w := (84, [.ref l0, .int l1, .int l2], [.ref l0], h1)) r171_83 rfl rfl (E_gI r171_84 rfl (fun x2 => E_i1_le r171_87 rfl (go (w := (101, [.ref l0, .int l1, .int l2], [.ref l0], h1)) r171_100 rfl rfl (E_gI r171_101 rfl (fun x3 => E_ic r171_104 (v := 1) (by decide) (go (w := (106, [.ref l0, .int l1, .int l2], [.int (x3 - 1)], h1)) r171_105 rfl rfl (E_ri r171_106 (mq171)))))) (E_bip r171_90 (v := (-2)) (by decide) (go (w := (93, [.ref l0, .int l1, .int l2], [.ref l0, .int (-2)], h1)) r171_92 rfl rfl (E_gI r171_93 rfl (fun x4 => go (w := (97, [.ref l0, .int l1, .int l2], [.int ((-2) - x4)], h1)) r171_96 rfl rfl (E_gt r171_97 rfl (E_ri r171_106 (mq171)))))))))))
-- 172 SecondNearestModel.isLaw(I)Z
theorem mq172 : mRet 172 = (some .boolean) := by decide +kernel
theorem r172_0 : rowAt 172 0 = some (.iload_n 1, 1, 0, 0) := by decide +kernel
theorem r172_1 : rowAt 172 1 = some (.i2l, 1, 0, 0) := by decide +kernel
theorem r172_2 : rowAt 172 2 = some (.lconst 0, 1, 0, 0) := by decide +kernel
theorem r172_3 : rowAt 172 3 = some (.aload_n 0, 1, 0, 0) := by decide +kernel
theorem r172_4 : rowAt 172 4 = some (.getfield 365, 3, 9, 23) := by decide +kernel
theorem r172_7 : rowAt 172 7 = some (.iconst 1, 1, 0, 0) := by decide +kernel
theorem r172_8 : rowAt 172 8 = some (.isub, 1, 0, 0) := by decide +kernel
theorem r172_9 : rowAt 172 9 = some (.i2l, 1, 0, 0) := by decide +kernel
theorem r172_10 : rowAt 172 10 = some (.invokestatic 143, 3, 121, 1) := by decide +kernel
theorem r172_13 : rowAt 172 13 = some (.ireturn, 1, 0, 0) := by decide +kernel
theorem en172 (a0 : Nat) (a1 : Int32) : iniL 172 [.ref a0, .int a1] = [.ref a0, .int a1] := ini_n mi172 rfl
theorem b172_0 (d : Nat) (l0 : Nat) (l1 : Int32) (h : aH) (K : Option Value → aH → Prop) : E scr false (d + 1) 172 0 [.ref l0, .int l1] [] h K = gI scr h l0 9 23 (fun x1 : Int32 => sI scr d 121 [.long (Int32.toInt64 l1), .long 0, .long (Int32.toInt64 (x1 - 1))] h (fun (x3 : Int32) (h2 : aH) => (x3 &&& 1 = x3 ∧ K (some (.int x3)) h2))) := go (w := (1, [.ref l0, .int l1], [.int l1], h)) r172_0 rfl rfl (go (w := (2, [.ref l0, .int l1], [.long (Int32.toInt64 l1)], h)) r172_1 rfl rfl (E_lc r172_2 (v := 0) (by decide) (go (w := (4, [.ref l0, .int l1], [.ref l0, .long 0, .long (Int32.toInt64 l1)], h)) r172_3 rfl rfl (E_gI r172_4 rfl (fun x1 => E_ic r172_7 (v := 1) (by decide) (go (w := (9, [.ref l0, .int l1], [.int (x1 - 1), .long 0, .long (Int32.toInt64 l1)], h)) r172_8 rfl rfl (go (w := (10, [.ref l0, .int l1], [.long (Int32.toInt64 (x1 - 1)), .long 0, .long (Int32.toInt64 l1)], h)) r172_9 rfl rfl (E_sI r172_10 (As := [.long (Int32.toInt64 l1), .long 0, .long (Int32.toInt64 (x1 - 1))]) (rest := []) (cut_n mi121.1 rfl rfl) (rm8_n mi121.2.1 (Nat.le_of_ble_eq_true rfl) (Nat.le_of_ble_eq_true rfl)) mi121.2.2 (fun x3 h2 => E_zret r172_13 (mq172))))))))))
-- 173 SecondNearestModel.truth(Z)J
theorem mq173 : mRet 173 = (some .long) := by decide +kernel
theorem r173_0 : rowAt 173 0 = some (.iload_n 0, 1, 0, 0) := by decide +kernel
theorem r173_1 : rowAt 173 1 = some (.ifCond .eq 7, 3, 0, 0) := by decide +kernel
theorem r173_4 : rowAt 173 4 = some (.lconst 1, 1, 0, 0) := by decide +kernel
theorem r173_5 : rowAt 173 5 = some (.goto 4, 3, 0, 0) := by decide +kernel
theorem r173_8 : rowAt 173 8 = some (.lconst 0, 1, 0, 0) := by decide +kernel
theorem r173_9 : rowAt 173 9 = some (.lreturn, 1, 0, 0) := by decide +kernel
theorem en173 (a0 : Int32) : iniL 173 [.int a0] = [.int a0] := ini_n mi173 rfl
theorem b173_0 (d : Nat) (l0 : Int32) (h : aH) (K : Option Value → aH → Prop) : E scr false d 173 0 [.int l0] [] h K = (if l0 = 0 then K (some (.long 0)) h else K (some (.long 1)) h) := go (w := (1, [.int l0], [.int l0], h)) r173_0 rfl rfl (E_i1_eq r173_1 rfl (E_lc r173_8 (v := 0) (by decide) (E_lret r173_9 (mq173))) (E_lc r173_4 (v := 1) (by decide) (E_gt r173_5 rfl (E_lret r173_9 (mq173)))))
-- 174 SecondNearestModel.both(IJJ)J
theorem mq174 : mRet 174 = (some .long) := by decide +kernel
theorem r174_0 : rowAt 174 0 = some (.iload_n 0, 1, 0, 0) := by decide +kernel
theorem r174_1 : rowAt 174 1 = some (.tableswitch 190 2 15 #[71, 75, 111, 126, 141, 156, 171, 190, 186, 190, 190, 79, 83, 97], 71, 0, 0) := by decide +kernel
theorem r174_72 : rowAt 174 72 = some (.lload_n 1, 1, 0, 0) := by decide +kernel
theorem r174_73 : rowAt 174 73 = some (.lload_n 3, 1, 0, 0) := by decide +kernel
theorem r174_74 : rowAt 174 74 = some (.ladd, 1, 0, 0) := by decide +kernel
theorem r174_75 : rowAt 174 75 = some (.lreturn, 1, 0, 0) := by decide +kernel
theorem r174_76 : rowAt 174 76 = some (.lload_n 1, 1, 0, 0) := by decide +kernel
theorem r174_77 : rowAt 174 77 = some (.lload_n 3, 1, 0, 0) := by decide +kernel
theorem r174_78 : rowAt 174 78 = some (.lsub, 1, 0, 0) := by decide +kernel
theorem r174_79 : rowAt 174 79 = some (.lreturn, 1, 0, 0) := by decide +kernel
theorem r174_80 : rowAt 174 80 = some (.lload_n 1, 1, 0, 0) := by decide +kernel
theorem r174_81 : rowAt 174 81 = some (.lload_n 3, 1, 0, 0) := by decide +kernel
theorem r174_82 : rowAt 174 82 = some (.lmul, 1, 0, 0) := by decide +kernel
theorem r174_83 : rowAt 174 83 = some (.lreturn, 1, 0, 0) := by decide +kernel
theorem r174_84 : rowAt 174 84 = some (.lload_n 3, 1, 0, 0) := by decide +kernel
theorem r174_85 : rowAt 174 85 = some (.lconst 0, 1, 0, 0) := by decide +kernel
theorem r174_86 : rowAt 174 86 = some (.lcmp, 1, 0, 0) := by decide +kernel
theorem r174_87 : rowAt 174 87 = some (.ifCond .ne 7, 3, 0, 0) := by decide +kernel
theorem r174_90 : rowAt 174 90 = some (.lconst 0, 1, 0, 0) := by decide +kernel
theorem r174_91 : rowAt 174 91 = some (.goto 6, 3, 0, 0) := by decide +kernel
theorem r174_94 : rowAt 174 94 = some (.lload_n 1, 1, 0, 0) := by decide +kernel
theorem r174_95 : rowAt 174 95 = some (.lload_n 3, 1, 0, 0) := by decide +kernel
theorem r174_96 : rowAt 174 96 = some (.ldiv, 1, 0, 0) := by decide +kernel
theorem r174_97 : rowAt 174 97 = some (.lreturn, 1, 0, 0) := by decide +kernel
theorem r174_98 : rowAt 174 98 = some (.lload_n 3, 1, 0, 0) := by decide +kernel
theorem r174_99 : rowAt 174 99 = some (.lconst 0, 1, 0, 0) := by decide +kernel
theorem r174_100 : rowAt 174 100 = some (.lcmp, 1, 0, 0) := by decide +kernel
theorem r174_101 : rowAt 174 101 = some (.ifCond .ne 7, 3, 0, 0) := by decide +kernel
theorem r174_104 : rowAt 174 104 = some (.lconst 0, 1, 0, 0) := by decide +kernel
theorem r174_105 : rowAt 174 105 = some (.goto 6, 3, 0, 0) := by decide +kernel
theorem r174_108 : rowAt 174 108 = some (.lload_n 1, 1, 0, 0) := by decide +kernel
theorem r174_109 : rowAt 174 109 = some (.lload_n 3, 1, 0, 0) := by decide +kernel
theorem r174_110 : rowAt 174 110 = some (.lrem, 1, 0, 0) := by decide +kernel
theorem r174_111 : rowAt 174 111 = some (.lreturn, 1, 0, 0) := by decide +kernel
theorem r174_112 : rowAt 174 112 = some (.lload_n 1, 1, 0, 0) := by decide +kernel
theorem r174_113 : rowAt 174 113 = some (.lload_n 3, 1, 0, 0) := by decide +kernel
theorem r174_114 : rowAt 174 114 = some (.lcmp, 1, 0, 0) := by decide +kernel
theorem r174_115 : rowAt 174 115 = some (.ifCond .ge 7, 3, 0, 0) := by decide +kernel
theorem r174_118 : rowAt 174 118 = some (.iconst 1, 1, 0, 0) := by decide +kernel
theorem r174_119 : rowAt 174 119 = some (.goto 4, 3, 0, 0) := by decide +kernel
theorem r174_122 : rowAt 174 122 = some (.iconst 0, 1, 0, 0) := by decide +kernel
theorem r174_123 : rowAt 174 123 = some (.invokestatic 371, 3, 173, 1) := by decide +kernel
theorem r174_126 : rowAt 174 126 = some (.lreturn, 1, 0, 0) := by decide +kernel
theorem r174_127 : rowAt 174 127 = some (.lload_n 1, 1, 0, 0) := by decide +kernel
theorem r174_128 : rowAt 174 128 = some (.lload_n 3, 1, 0, 0) := by decide +kernel
theorem r174_129 : rowAt 174 129 = some (.lcmp, 1, 0, 0) := by decide +kernel
theorem r174_130 : rowAt 174 130 = some (.ifCond .gt 7, 3, 0, 0) := by decide +kernel
theorem r174_133 : rowAt 174 133 = some (.iconst 1, 1, 0, 0) := by decide +kernel
theorem r174_134 : rowAt 174 134 = some (.goto 4, 3, 0, 0) := by decide +kernel
theorem r174_137 : rowAt 174 137 = some (.iconst 0, 1, 0, 0) := by decide +kernel
theorem r174_138 : rowAt 174 138 = some (.invokestatic 371, 3, 173, 1) := by decide +kernel
theorem r174_141 : rowAt 174 141 = some (.lreturn, 1, 0, 0) := by decide +kernel
theorem r174_142 : rowAt 174 142 = some (.lload_n 1, 1, 0, 0) := by decide +kernel
theorem r174_143 : rowAt 174 143 = some (.lload_n 3, 1, 0, 0) := by decide +kernel
theorem r174_144 : rowAt 174 144 = some (.lcmp, 1, 0, 0) := by decide +kernel
theorem r174_145 : rowAt 174 145 = some (.ifCond .ne 7, 3, 0, 0) := by decide +kernel
theorem r174_148 : rowAt 174 148 = some (.iconst 1, 1, 0, 0) := by decide +kernel
theorem r174_149 : rowAt 174 149 = some (.goto 4, 3, 0, 0) := by decide +kernel
theorem r174_152 : rowAt 174 152 = some (.iconst 0, 1, 0, 0) := by decide +kernel
theorem r174_153 : rowAt 174 153 = some (.invokestatic 371, 3, 173, 1) := by decide +kernel
theorem r174_156 : rowAt 174 156 = some (.lreturn, 1, 0, 0) := by decide +kernel
theorem r174_157 : rowAt 174 157 = some (.lload_n 1, 1, 0, 0) := by decide +kernel
theorem r174_158 : rowAt 174 158 = some (.lload_n 3, 1, 0, 0) := by decide +kernel
theorem r174_159 : rowAt 174 159 = some (.lcmp, 1, 0, 0) := by decide +kernel
theorem r174_160 : rowAt 174 160 = some (.ifCond .lt 7, 3, 0, 0) := by decide +kernel
theorem r174_163 : rowAt 174 163 = some (.iconst 1, 1, 0, 0) := by decide +kernel
theorem r174_164 : rowAt 174 164 = some (.goto 4, 3, 0, 0) := by decide +kernel
theorem r174_167 : rowAt 174 167 = some (.iconst 0, 1, 0, 0) := by decide +kernel
theorem r174_168 : rowAt 174 168 = some (.invokestatic 371, 3, 173, 1) := by decide +kernel
theorem r174_171 : rowAt 174 171 = some (.lreturn, 1, 0, 0) := by decide +kernel
theorem r174_172 : rowAt 174 172 = some (.lload_n 1, 1, 0, 0) := by decide +kernel
theorem r174_173 : rowAt 174 173 = some (.lload_n 3, 1, 0, 0) := by decide +kernel
theorem r174_174 : rowAt 174 174 = some (.lcmp, 1, 0, 0) := by decide +kernel
theorem r174_175 : rowAt 174 175 = some (.ifCond .le 7, 3, 0, 0) := by decide +kernel
theorem r174_178 : rowAt 174 178 = some (.iconst 1, 1, 0, 0) := by decide +kernel
theorem r174_179 : rowAt 174 179 = some (.goto 4, 3, 0, 0) := by decide +kernel
theorem r174_182 : rowAt 174 182 = some (.iconst 0, 1, 0, 0) := by decide +kernel
theorem r174_183 : rowAt 174 183 = some (.invokestatic 371, 3, 173, 1) := by decide +kernel
theorem r174_186 : rowAt 174 186 = some (.lreturn, 1, 0, 0) := by decide +kernel
theorem r174_187 : rowAt 174 187 = some (.lload_n 1, 1, 0, 0) := by decide +kernel
theorem r174_188 : rowAt 174 188 = some (.lload_n 3, 1, 0, 0) := by decide +kernel
theorem r174_189 : rowAt 174 189 = some (.land, 1, 0, 0) := by decide +kernel
theorem r174_190 : rowAt 174 190 = some (.lreturn, 1, 0, 0) := by decide +kernel
theorem r174_191 : rowAt 174 191 = some (.lload_n 1, 1, 0, 0) := by decide +kernel
theorem r174_192 : rowAt 174 192 = some (.lload_n 3, 1, 0, 0) := by decide +kernel
theorem r174_193 : rowAt 174 193 = some (.lor, 1, 0, 0) := by decide +kernel
theorem r174_194 : rowAt 174 194 = some (.lreturn, 1, 0, 0) := by decide +kernel
theorem en174 (a0 : Int32) (a1 : Int64) (a2 : Int64) : iniL 174 [.int a0, .long a1, .long a2] = [.int a0, .long a1, .null, .long a2, .null] := ini_n mi174 rfl
theorem b174_0 (d : Nat) (l0 : Int32) (l1 : Int64) (l3 : Int64) (h : aH) (K : Option Value → aH → Prop) : E scr false d 174 0 [.int l0, .long l1, .null, .long l3, .null] [] h K = (if l0 = 2 then E scr false d 174 72 [.int l0, .long l1, .null, .long l3, .null] [] h K else (if l0 = 3 then E scr false d 174 76 [.int l0, .long l1, .null, .long l3, .null] [] h K else (if l0 = 4 then E scr false d 174 112 [.int l0, .long l1, .null, .long l3, .null] [] h K else (if l0 = 5 then E scr false d 174 127 [.int l0, .long l1, .null, .long l3, .null] [] h K else (if l0 = 6 then E scr false d 174 142 [.int l0, .long l1, .null, .long l3, .null] [] h K else (if l0 = 7 then E scr false d 174 157 [.int l0, .long l1, .null, .long l3, .null] [] h K else (if l0 = 8 then E scr false d 174 172 [.int l0, .long l1, .null, .long l3, .null] [] h K else (if l0 = 9 then E scr false d 174 191 [.int l0, .long l1, .null, .long l3, .null] [] h K else (if l0 = 10 then E scr false d 174 187 [.int l0, .long l1, .null, .long l3, .null] [] h K else (if l0 = 11 then E scr false d 174 191 [.int l0, .long l1, .null, .long l3, .null] [] h K else (if l0 = 12 then E scr false d 174 191 [.int l0, .long l1, .null, .long l3, .null] [] h K else (if l0 = 13 then E scr false d 174 80 [.int l0, .long l1, .null, .long l3, .null] [] h K else (if l0 = 14 then E scr false d 174 84 [.int l0, .long l1, .null, .long l3, .null] [] h K else (if l0 = 15 then E scr false d 174 98 [.int l0, .long l1, .null, .long l3, .null] [] h K else E scr false d 174 191 [.int l0, .long l1, .null, .long l3, .null] [] h K)))))))))))))) := go (w := (1, [.int l0, .long l1, .null, .long l3, .null], [.int l0], h)) r174_0 rfl rfl (E_tab (pc := 1) [(2, 72), (3, 76), (4, 112), (5, 127), (6, 142), (7, 157), (8, 172), (9, 191), (10, 187), (11, 191), (12, 191), (13, 80), (14, 84), (15, 98)] 191 r174_1 (by decide +kernel) (by decide +kernel) (by decide +kernel))
theorem b174_72 (d : Nat) (l0 : Int32) (l1 : Int64) (l3 : Int64) (h : aH) (K : Option Value → aH → Prop) : E scr false d 174 72 [.int l0, .long l1, .null, .long l3, .null] [] h K = K (some (.long (l1 + l3))) h := go (w := (73, [.int l0, .long l1, .null, .long l3, .null], [.long l1], h)) r174_72 rfl rfl (go (w := (74, [.int l0, .long l1, .null, .long l3, .null], [.long l3, .long l1], h)) r174_73 rfl rfl (go (w := (75, [.int l0, .long l1, .null, .long l3, .null], [.long (l1 + l3)], h)) r174_74 rfl rfl (E_lret r174_75 (mq174))))
theorem b174_76 (d : Nat) (l0 : Int32) (l1 : Int64) (l3 : Int64) (h : aH) (K : Option Value → aH → Prop) : E scr false d 174 76 [.int l0, .long l1, .null, .long l3, .null] [] h K = K (some (.long (l1 - l3))) h := go (w := (77, [.int l0, .long l1, .null, .long l3, .null], [.long l1], h)) r174_76 rfl rfl (go (w := (78, [.int l0, .long l1, .null, .long l3, .null], [.long l3, .long l1], h)) r174_77 rfl rfl (go (w := (79, [.int l0, .long l1, .null, .long l3, .null], [.long (l1 - l3)], h)) r174_78 rfl rfl (E_lret r174_79 (mq174))))
theorem b174_80 (d : Nat) (l0 : Int32) (l1 : Int64) (l3 : Int64) (h : aH) (K : Option Value → aH → Prop) : E scr false d 174 80 [.int l0, .long l1, .null, .long l3, .null] [] h K = K (some (.long (l1 * l3))) h := go (w := (81, [.int l0, .long l1, .null, .long l3, .null], [.long l1], h)) r174_80 rfl rfl (go (w := (82, [.int l0, .long l1, .null, .long l3, .null], [.long l3, .long l1], h)) r174_81 rfl rfl (go (w := (83, [.int l0, .long l1, .null, .long l3, .null], [.long (l1 * l3)], h)) r174_82 rfl rfl (E_lret r174_83 (mq174))))
theorem b174_84 (d : Nat) (l0 : Int32) (l1 : Int64) (l3 : Int64) (h : aH) (K : Option Value → aH → Prop) : E scr false d 174 84 [.int l0, .long l1, .null, .long l3, .null] [] h K = (if (lg_cmp l3 0) = 0 then K (some (.long 0)) h else (¬ l3 = 0 ∧ K (some (.long (l1 / l3))) h)) := go (w := (85, [.int l0, .long l1, .null, .long l3, .null], [.long l3], h)) r174_84 rfl rfl (E_lc r174_85 (v := 0) (by decide) (go (w := (87, [.int l0, .long l1, .null, .long l3, .null], [.int (lg_cmp l3 0)], h)) r174_86 rfl rfl (E_i1_ne r174_87 rfl (go (w := (95, [.int l0, .long l1, .null, .long l3, .null], [.long l1], h)) r174_94 rfl rfl (go (w := (96, [.int l0, .long l1, .null, .long l3, .null], [.long l3, .long l1], h)) r174_95 rfl rfl (E_ldiv r174_96 (E_lret r174_97 (mq174))))) (E_lc r174_90 (v := 0) (by decide) (E_gt r174_91 rfl (E_lret r174_97 (mq174)))))))
theorem b174_98 (d : Nat) (l0 : Int32) (l1 : Int64) (l3 : Int64) (h : aH) (K : Option Value → aH → Prop) : E scr false d 174 98 [.int l0, .long l1, .null, .long l3, .null] [] h K = (if (lg_cmp l3 0) = 0 then K (some (.long 0)) h else (¬ l3 = 0 ∧ K (some (.long (lrm l1 l3))) h)) := go (w := (99, [.int l0, .long l1, .null, .long l3, .null], [.long l3], h)) r174_98 rfl rfl (E_lc r174_99 (v := 0) (by decide) (go (w := (101, [.int l0, .long l1, .null, .long l3, .null], [.int (lg_cmp l3 0)], h)) r174_100 rfl rfl (E_i1_ne r174_101 rfl (go (w := (109, [.int l0, .long l1, .null, .long l3, .null], [.long l1], h)) r174_108 rfl rfl (go (w := (110, [.int l0, .long l1, .null, .long l3, .null], [.long l3, .long l1], h)) r174_109 rfl rfl (E_remJ r174_110 (E_lret r174_111 (mq174))))) (E_lc r174_104 (v := 0) (by decide) (E_gt r174_105 rfl (E_lret r174_111 (mq174)))))))
theorem b174_112 (d : Nat) (l0 : Int32) (l1 : Int64) (l3 : Int64) (h : aH) (K : Option Value → aH → Prop) : E scr false d 174 112 [.int l0, .long l1, .null, .long l3, .null] [] h K = (if 0 ≤ (lg_cmp l1 l3) then E scr false d 174 123 [.int l0, .long l1, .null, .long l3, .null] [.int 0] h K else E scr false d 174 123 [.int l0, .long l1, .null, .long l3, .null] [.int 1] h K) := go (w := (113, [.int l0, .long l1, .null, .long l3, .null], [.long l1], h)) r174_112 rfl rfl (go (w := (114, [.int l0, .long l1, .null, .long l3, .null], [.long l3, .long l1], h)) r174_113 rfl rfl (go (w := (115, [.int l0, .long l1, .null, .long l3, .null], [.int (lg_cmp l1 l3)], h)) r174_114 rfl rfl (E_i1_ge r174_115 rfl (E_ic r174_122 (v := 0) (by decide) (rfl)) (E_ic r174_118 (v := 1) (by decide) (E_gt r174_119 rfl (rfl))))))
theorem b174_123 (d : Nat) (l0 : Int32) (l1 : Int64) (l3 : Int64) (s0 : Int32) (h : aH) (K : Option Value → aH → Prop) : E scr false (d + 1) 174 123 [.int l0, .long l1, .null, .long l3, .null] [.int s0] h K = sJ scr d 173 [.int s0] h (fun (x2 : Int64) (h1 : aH) => K (some (.long x2)) h1) := E_sJ r174_123 (As := [.int s0]) (rest := []) (cut_n mi173.1 rfl rfl) (rm8_n mi173.2.1 (Nat.le_of_ble_eq_true rfl) (Nat.le_of_ble_eq_true rfl)) mi173.2.2 (fun x2 h1 => E_lret r174_126 (mq174))
theorem b174_127 (d : Nat) (l0 : Int32) (l1 : Int64) (l3 : Int64) (h : aH) (K : Option Value → aH → Prop) : E scr false d 174 127 [.int l0, .long l1, .null, .long l3, .null] [] h K = (if 0 < (lg_cmp l1 l3) then E scr false d 174 138 [.int l0, .long l1, .null, .long l3, .null] [.int 0] h K else E scr false d 174 138 [.int l0, .long l1, .null, .long l3, .null] [.int 1] h K) := go (w := (128, [.int l0, .long l1, .null, .long l3, .null], [.long l1], h)) r174_127 rfl rfl (go (w := (129, [.int l0, .long l1, .null, .long l3, .null], [.long l3, .long l1], h)) r174_128 rfl rfl (go (w := (130, [.int l0, .long l1, .null, .long l3, .null], [.int (lg_cmp l1 l3)], h)) r174_129 rfl rfl (E_i1_gt r174_130 rfl (E_ic r174_137 (v := 0) (by decide) (rfl)) (E_ic r174_133 (v := 1) (by decide) (E_gt r174_134 rfl (rfl))))))
theorem b174_138 (d : Nat) (l0 : Int32) (l1 : Int64) (l3 : Int64) (s0 : Int32) (h : aH) (K : Option Value → aH → Prop) : E scr false (d + 1) 174 138 [.int l0, .long l1, .null, .long l3, .null] [.int s0] h K = sJ scr d 173 [.int s0] h (fun (x2 : Int64) (h1 : aH) => K (some (.long x2)) h1) := E_sJ r174_138 (As := [.int s0]) (rest := []) (cut_n mi173.1 rfl rfl) (rm8_n mi173.2.1 (Nat.le_of_ble_eq_true rfl) (Nat.le_of_ble_eq_true rfl)) mi173.2.2 (fun x2 h1 => E_lret r174_141 (mq174))
theorem b174_142 (d : Nat) (l0 : Int32) (l1 : Int64) (l3 : Int64) (h : aH) (K : Option Value → aH → Prop) : E scr false d 174 142 [.int l0, .long l1, .null, .long l3, .null] [] h K = (if (lg_cmp l1 l3) = 0 then E scr false d 174 153 [.int l0, .long l1, .null, .long l3, .null] [.int 1] h K else E scr false d 174 153 [.int l0, .long l1, .null, .long l3, .null] [.int 0] h K) := go (w := (143, [.int l0, .long l1, .null, .long l3, .null], [.long l1], h)) r174_142 rfl rfl (go (w := (144, [.int l0, .long l1, .null, .long l3, .null], [.long l3, .long l1], h)) r174_143 rfl rfl (go (w := (145, [.int l0, .long l1, .null, .long l3, .null], [.int (lg_cmp l1 l3)], h)) r174_144 rfl rfl (E_i1_ne r174_145 rfl (E_ic r174_152 (v := 0) (by decide) (rfl)) (E_ic r174_148 (v := 1) (by decide) (E_gt r174_149 rfl (rfl))))))
theorem b174_153 (d : Nat) (l0 : Int32) (l1 : Int64) (l3 : Int64) (s0 : Int32) (h : aH) (K : Option Value → aH → Prop) : E scr false (d + 1) 174 153 [.int l0, .long l1, .null, .long l3, .null] [.int s0] h K = sJ scr d 173 [.int s0] h (fun (x2 : Int64) (h1 : aH) => K (some (.long x2)) h1) := E_sJ r174_153 (As := [.int s0]) (rest := []) (cut_n mi173.1 rfl rfl) (rm8_n mi173.2.1 (Nat.le_of_ble_eq_true rfl) (Nat.le_of_ble_eq_true rfl)) mi173.2.2 (fun x2 h1 => E_lret r174_156 (mq174))
theorem b174_157 (d : Nat) (l0 : Int32) (l1 : Int64) (l3 : Int64) (h : aH) (K : Option Value → aH → Prop) : E scr false d 174 157 [.int l0, .long l1, .null, .long l3, .null] [] h K = (if (lg_cmp l1 l3) < 0 then E scr false d 174 168 [.int l0, .long l1, .null, .long l3, .null] [.int 0] h K else E scr false d 174 168 [.int l0, .long l1, .null, .long l3, .null] [.int 1] h K) := go (w := (158, [.int l0, .long l1, .null, .long l3, .null], [.long l1], h)) r174_157 rfl rfl (go (w := (159, [.int l0, .long l1, .null, .long l3, .null], [.long l3, .long l1], h)) r174_158 rfl rfl (go (w := (160, [.int l0, .long l1, .null, .long l3, .null], [.int (lg_cmp l1 l3)], h)) r174_159 rfl rfl (E_i1_lt r174_160 rfl (E_ic r174_167 (v := 0) (by decide) (rfl)) (E_ic r174_163 (v := 1) (by decide) (E_gt r174_164 rfl (rfl))))))
theorem b174_168 (d : Nat) (l0 : Int32) (l1 : Int64) (l3 : Int64) (s0 : Int32) (h : aH) (K : Option Value → aH → Prop) : E scr false (d + 1) 174 168 [.int l0, .long l1, .null, .long l3, .null] [.int s0] h K = sJ scr d 173 [.int s0] h (fun (x2 : Int64) (h1 : aH) => K (some (.long x2)) h1) := E_sJ r174_168 (As := [.int s0]) (rest := []) (cut_n mi173.1 rfl rfl) (rm8_n mi173.2.1 (Nat.le_of_ble_eq_true rfl) (Nat.le_of_ble_eq_true rfl)) mi173.2.2 (fun x2 h1 => E_lret r174_171 (mq174))
theorem b174_172 (d : Nat) (l0 : Int32) (l1 : Int64) (l3 : Int64) (h : aH) (K : Option Value → aH → Prop) : E scr false d 174 172 [.int l0, .long l1, .null, .long l3, .null] [] h K = (if (lg_cmp l1 l3) ≤ 0 then E scr false d 174 183 [.int l0, .long l1, .null, .long l3, .null] [.int 0] h K else E scr false d 174 183 [.int l0, .long l1, .null, .long l3, .null] [.int 1] h K) := go (w := (173, [.int l0, .long l1, .null, .long l3, .null], [.long l1], h)) r174_172 rfl rfl (go (w := (174, [.int l0, .long l1, .null, .long l3, .null], [.long l3, .long l1], h)) r174_173 rfl rfl (go (w := (175, [.int l0, .long l1, .null, .long l3, .null], [.int (lg_cmp l1 l3)], h)) r174_174 rfl rfl (E_i1_le r174_175 rfl (E_ic r174_182 (v := 0) (by decide) (rfl)) (E_ic r174_178 (v := 1) (by decide) (E_gt r174_179 rfl (rfl))))))
theorem b174_183 (d : Nat) (l0 : Int32) (l1 : Int64) (l3 : Int64) (s0 : Int32) (h : aH) (K : Option Value → aH → Prop) : E scr false (d + 1) 174 183 [.int l0, .long l1, .null, .long l3, .null] [.int s0] h K = sJ scr d 173 [.int s0] h (fun (x2 : Int64) (h1 : aH) => K (some (.long x2)) h1) := E_sJ r174_183 (As := [.int s0]) (rest := []) (cut_n mi173.1 rfl rfl) (rm8_n mi173.2.1 (Nat.le_of_ble_eq_true rfl) (Nat.le_of_ble_eq_true rfl)) mi173.2.2 (fun x2 h1 => E_lret r174_186 (mq174))
theorem b174_187 (d : Nat) (l0 : Int32) (l1 : Int64) (l3 : Int64) (h : aH) (K : Option Value → aH → Prop) : E scr false d 174 187 [.int l0, .long l1, .null, .long l3, .null] [] h K = K (some (.long (l1 &&& l3))) h := go (w := (188, [.int l0, .long l1, .null, .long l3, .null], [.long l1], h)) r174_187 rfl rfl (go (w := (189, [.int l0, .long l1, .null, .long l3, .null], [.long l3, .long l1], h)) r174_188 rfl rfl (go (w := (190, [.int l0, .long l1, .null, .long l3, .null], [.long (l1 &&& l3)], h)) r174_189 rfl rfl (E_lret r174_190 (mq174))))
theorem b174_191 (d : Nat) (l0 : Int32) (l1 : Int64) (l3 : Int64) (h : aH) (K : Option Value → aH → Prop) : E scr false d 174 191 [.int l0, .long l1, .null, .long l3, .null] [] h K = K (some (.long (l1 ||| l3))) h := go (w := (192, [.int l0, .long l1, .null, .long l3, .null], [.long l1], h)) r174_191 rfl rfl (go (w := (193, [.int l0, .long l1, .null, .long l3, .null], [.long l3, .long l1], h)) r174_192 rfl rfl (go (w := (194, [.int l0, .long l1, .null, .long l3, .null], [.long (l1 ||| l3)], h)) r174_193 rfl rfl (E_lret r174_194 (mq174))))
-- 175 SecondNearestModel.answer(III)J
theorem mq175 : mRet 175 = (some .long) := by decide +kernel
theorem r175_0 : rowAt 175 0 = some (.iconst 0, 1, 0, 0) := by decide +kernel
theorem r175_1 : rowAt 175 1 = some (.istore 4, 2, 0, 0) := by decide +kernel
theorem r175_3 : rowAt 175 3 = some (.iload_n 2, 1, 0, 0) := by decide +kernel
theorem r175_4 : rowAt 175 4 = some (.istore 5, 2, 0, 0) := by decide +kernel
theorem r175_6 : rowAt 175 6 = some (.iload 5, 2, 0, 0) := by decide +kernel
theorem r175_8 : rowAt 175 8 = some (.iload_n 3, 1, 0, 0) := by decide +kernel
theorem r175_9 : rowAt 175 9 = some (.if_icmp .ge 144, 3, 0, 0) := by decide +kernel
theorem r175_12 : rowAt 175 12 = some (.aload_n 0, 1, 0, 0) := by decide +kernel
theorem r175_13 : rowAt 175 13 = some (.getfield 69, 3, 9, 30) := by decide +kernel
theorem r175_16 : rowAt 175 16 = some (.sipush 300, 3, 0, 0) := by decide +kernel
theorem r175_19 : rowAt 175 19 = some (.iload_n 1, 1, 0, 0) := by decide +kernel
theorem r175_20 : rowAt 175 20 = some (.imul, 1, 0, 0) := by decide +kernel
theorem r175_21 : rowAt 175 21 = some (.iload 5, 2, 0, 0) := by decide +kernel
theorem r175_23 : rowAt 175 23 = some (.iadd, 1, 0, 0) := by decide +kernel
theorem r175_24 : rowAt 175 24 = some (.iaload, 1, 0, 0) := by decide +kernel
theorem r175_25 : rowAt 175 25 = some (.istore 6, 2, 0, 0) := by decide +kernel
theorem r175_27 : rowAt 175 27 = some (.aload_n 0, 1, 0, 0) := by decide +kernel
theorem r175_28 : rowAt 175 28 = some (.getfield 72, 3, 9, 31) := by decide +kernel
theorem r175_31 : rowAt 175 31 = some (.sipush 300, 3, 0, 0) := by decide +kernel
theorem r175_34 : rowAt 175 34 = some (.iload_n 1, 1, 0, 0) := by decide +kernel
theorem r175_35 : rowAt 175 35 = some (.imul, 1, 0, 0) := by decide +kernel
theorem r175_36 : rowAt 175 36 = some (.iload 5, 2, 0, 0) := by decide +kernel
theorem r175_38 : rowAt 175 38 = some (.iadd, 1, 0, 0) := by decide +kernel
theorem r175_39 : rowAt 175 39 = some (.iaload, 1, 0, 0) := by decide +kernel
theorem r175_40 : rowAt 175 40 = some (.istore 7, 2, 0, 0) := by decide +kernel
theorem r175_42 : rowAt 175 42 = some (.iload 6, 2, 0, 0) := by decide +kernel
theorem r175_44 : rowAt 175 44 = some (.ifCond .eq 9, 3, 0, 0) := by decide +kernel
theorem r175_47 : rowAt 175 47 = some (.iload 6, 2, 0, 0) := by decide +kernel
theorem r175_49 : rowAt 175 49 = some (.iconst 1, 1, 0, 0) := by decide +kernel
theorem r175_50 : rowAt 175 50 = some (.if_icmp .ne 34, 3, 0, 0) := by decide +kernel
theorem r175_53 : rowAt 175 53 = some (.aload_n 0, 1, 0, 0) := by decide +kernel
theorem r175_54 : rowAt 175 54 = some (.getfield 94, 3, 9, 38) := by decide +kernel
theorem r175_57 : rowAt 175 57 = some (.iload 4, 2, 0, 0) := by decide +kernel
theorem r175_59 : rowAt 175 59 = some (.iload 6, 2, 0, 0) := by decide +kernel
theorem r175_61 : rowAt 175 61 = some (.ifCond .ne 9, 3, 0, 0) := by decide +kernel
theorem r175_64 : rowAt 175 64 = some (.iload 7, 2, 0, 0) := by decide +kernel
theorem r175_66 : rowAt 175 66 = some (.i2l, 1, 0, 0) := by decide +kernel
theorem r175_67 : rowAt 175 67 = some (.goto 10, 3, 0, 0) := by decide +kernel
theorem r175_70 : rowAt 175 70 = some (.aload_n 0, 1, 0, 0) := by decide +kernel
theorem r175_71 : rowAt 175 71 = some (.getfield 90, 3, 9, 37) := by decide +kernel
theorem r175_74 : rowAt 175 74 = some (.iload 7, 2, 0, 0) := by decide +kernel
theorem r175_76 : rowAt 175 76 = some (.laload, 1, 0, 0) := by decide +kernel
theorem r175_77 : rowAt 175 77 = some (.lastore, 1, 0, 0) := by decide +kernel
theorem r175_78 : rowAt 175 78 = some (.iinc 4 1, 3, 0, 0) := by decide +kernel
theorem r175_81 : rowAt 175 81 = some (.goto 66, 3, 0, 0) := by decide +kernel
theorem r175_84 : rowAt 175 84 = some (.iload 6, 2, 0, 0) := by decide +kernel
theorem r175_86 : rowAt 175 86 = some (.bipush 9, 2, 0, 0) := by decide +kernel
theorem r175_88 : rowAt 175 88 = some (.if_icmp .ne 26, 3, 0, 0) := by decide +kernel
theorem r175_91 : rowAt 175 91 = some (.aload_n 0, 1, 0, 0) := by decide +kernel
theorem r175_92 : rowAt 175 92 = some (.getfield 94, 3, 9, 38) := by decide +kernel
theorem r175_95 : rowAt 175 95 = some (.iload 4, 2, 0, 0) := by decide +kernel
theorem r175_97 : rowAt 175 97 = some (.iconst 1, 1, 0, 0) := by decide +kernel
theorem r175_98 : rowAt 175 98 = some (.isub, 1, 0, 0) := by decide +kernel
theorem r175_99 : rowAt 175 99 = some (.lconst 1, 1, 0, 0) := by decide +kernel
theorem r175_100 : rowAt 175 100 = some (.aload_n 0, 1, 0, 0) := by decide +kernel
theorem r175_101 : rowAt 175 101 = some (.getfield 94, 3, 9, 38) := by decide +kernel
theorem r175_104 : rowAt 175 104 = some (.iload 4, 2, 0, 0) := by decide +kernel
theorem r175_106 : rowAt 175 106 = some (.iconst 1, 1, 0, 0) := by decide +kernel
theorem r175_107 : rowAt 175 107 = some (.isub, 1, 0, 0) := by decide +kernel
theorem r175_108 : rowAt 175 108 = some (.laload, 1, 0, 0) := by decide +kernel
theorem r175_109 : rowAt 175 109 = some (.lsub, 1, 0, 0) := by decide +kernel
theorem r175_110 : rowAt 175 110 = some (.lastore, 1, 0, 0) := by decide +kernel
theorem r175_111 : rowAt 175 111 = some (.goto 36, 3, 0, 0) := by decide +kernel
theorem r175_114 : rowAt 175 114 = some (.iinc 4 (-1), 3, 0, 0) := by decide +kernel
theorem r175_117 : rowAt 175 117 = some (.aload_n 0, 1, 0, 0) := by decide +kernel
theorem r175_118 : rowAt 175 118 = some (.getfield 94, 3, 9, 38) := by decide +kernel
theorem r175_121 : rowAt 175 121 = some (.iload 4, 2, 0, 0) := by decide +kernel
theorem r175_123 : rowAt 175 123 = some (.iconst 1, 1, 0, 0) := by decide +kernel
theorem r175_124 : rowAt 175 124 = some (.isub, 1, 0, 0) := by decide +kernel
theorem r175_125 : rowAt 175 125 = some (.iload 6, 2, 0, 0) := by decide +kernel
theorem r175_127 : rowAt 175 127 = some (.aload_n 0, 1, 0, 0) := by decide +kernel
theorem r175_128 : rowAt 175 128 = some (.getfield 94, 3, 9, 38) := by decide +kernel
theorem r175_131 : rowAt 175 131 = some (.iload 4, 2, 0, 0) := by decide +kernel
theorem r175_133 : rowAt 175 133 = some (.iconst 1, 1, 0, 0) := by decide +kernel
theorem r175_134 : rowAt 175 134 = some (.isub, 1, 0, 0) := by decide +kernel
theorem r175_135 : rowAt 175 135 = some (.laload, 1, 0, 0) := by decide +kernel
theorem r175_136 : rowAt 175 136 = some (.aload_n 0, 1, 0, 0) := by decide +kernel
theorem r175_137 : rowAt 175 137 = some (.getfield 94, 3, 9, 38) := by decide +kernel
theorem r175_140 : rowAt 175 140 = some (.iload 4, 2, 0, 0) := by decide +kernel
theorem r175_142 : rowAt 175 142 = some (.laload, 1, 0, 0) := by decide +kernel
theorem r175_143 : rowAt 175 143 = some (.invokestatic 375, 3, 174, 1) := by decide +kernel
theorem r175_146 : rowAt 175 146 = some (.lastore, 1, 0, 0) := by decide +kernel
theorem r175_147 : rowAt 175 147 = some (.iinc 5 1, 3, 0, 0) := by decide +kernel
theorem r175_150 : rowAt 175 150 = some (.goto (-144), 3, 0, 0) := by decide +kernel
theorem r175_153 : rowAt 175 153 = some (.aload_n 0, 1, 0, 0) := by decide +kernel
theorem r175_154 : rowAt 175 154 = some (.getfield 94, 3, 9, 38) := by decide +kernel
theorem r175_157 : rowAt 175 157 = some (.iconst 0, 1, 0, 0) := by decide +kernel
theorem r175_158 : rowAt 175 158 = some (.laload, 1, 0, 0) := by decide +kernel
theorem r175_159 : rowAt 175 159 = some (.lreturn, 1, 0, 0) := by decide +kernel
theorem en175 (a0 : Nat) (a1 : Int32) (a2 : Int32) (a3 : Int32) : iniL 175 [.ref a0, .int a1, .int a2, .int a3] = [.ref a0, .int a1, .int a2, .int a3, .null, .null, .null, .null] := ini_n mi175 rfl
theorem b175_0 (d : Nat) (l0 : Nat) (l1 : Int32) (l2 : Int32) (l3 : Int32) (h : aH) (K : Option Value → aH → Prop) : E scr false d 175 0 [.ref l0, .int l1, .int l2, .int l3, .null, .null, .null, .null] [] h K = E scr false d 175 6 [.ref l0, .int l1, .int l2, .int l3, .int 0, .int l2, .null, .null] [] h K := E_ic r175_0 (v := 0) (by decide) (go (w := (3, [.ref l0, .int l1, .int l2, .int l3, .int 0, .null, .null, .null], [], h)) r175_1 rfl rfl (go (w := (4, [.ref l0, .int l1, .int l2, .int l3, .int 0, .null, .null, .null], [.int l2], h)) r175_3 rfl rfl (go (w := (6, [.ref l0, .int l1, .int l2, .int l3, .int 0, .int l2, .null, .null], [], h)) r175_4 rfl rfl (rfl))))
theorem b175_6 (d : Nat) (l0 : Nat) (l1 : Int32) (l2 : Int32) (l3 : Int32) (l4 : Int32) (l5 : Int32) (l6 : Value) (l7 : Value) (h : aH) (K : Option Value → aH → Prop) : E scr false (d + 1) 175 6 [.ref l0, .int l1, .int l2, .int l3, .int l4, .int l5, l6, l7] [] h K = (if l3 ≤ l5 then gR scr h l0 9 38 (fun x1 : Nat => aJ h x1 0 (fun x2 : Int64 => K (some (.long x2)) h)) else gR scr h l0 9 30 (fun x3 : Nat => aI scr h x3 (((300 * l1) + l5)) (fun x4 : Int32 => gR scr h l0 9 31 (fun x5 : Nat => aI scr h x5 (((300 * l1) + l5)) (fun x6 : Int32 => (if x4 = 0 then E scr false (d + 1) 175 53 [.ref l0, .int l1, .int l2, .int l3, .int l4, .int l5, .int x4, .int x6] [] h K else (if x4 = 1 then E scr false (d + 1) 175 53 [.ref l0, .int l1, .int l2, .int l3, .int l4, .int l5, .int x4, .int x6] [] h K else (if x4 = 9 then gR scr h l0 9 38 (fun x15 : Nat => gR scr h l0 9 38 (fun x16 : Nat => aJ h x16 ((l4 - 1)) (fun x17 : Int64 => wJ h x15 ((l4 - 1)) ((1 - x17)) (fun h18 : aH => E scr false (d + 1) 175 147 [.ref l0, .int l1, .int l2, .int l3, .int l4, .int l5, .int x4, .int x6] [] h18 K)))) else gR scr h l0 9 38 (fun x7 : Nat => gR scr h l0 9 38 (fun x8 : Nat => aJ h x8 (((l4 + (-1)) - 1)) (fun x9 : Int64 => gR scr h l0 9 38 (fun x10 : Nat => aJ h x10 ((l4 + (-1))) (fun x11 : Int64 => sJ scr d 174 [.int x4, .long x9, .long x11] h (fun (x13 : Int64) (h12 : aH) => wJ h12 x7 (((l4 + (-1)) - 1)) x13 (fun h14 : aH => E scr false (d + 1) 175 147 [.ref l0, .int l1, .int l2, .int l3, .int (l4 + (-1)), .int l5, .int x4, .int x6] [] h14 K))))))))))))))) := go (w := (8, [.ref l0, .int l1, .int l2, .int l3, .int l4, .int l5, l6, l7], [.int l5], h)) r175_6 rfl rfl (go (w := (9, [.ref l0, .int l1, .int l2, .int l3, .int l4, .int l5, l6, l7], [.int l3, .int l5], h)) r175_8 rfl rfl (E_i2_ge r175_9 rfl (go (w := (154, [.ref l0, .int l1, .int l2, .int l3, .int l4, .int l5, l6, l7], [.ref l0], h)) r175_153 rfl rfl (E_gR r175_154 rfl (fun x1 => E_ic r175_157 (v := 0) (by decide) (E_aJ r175_158 (fun x2 => E_lret r175_159 (mq175)))))) (go (w := (13, [.ref l0, .int l1, .int l2, .int l3, .int l4, .int l5, l6, l7], [.ref l0], h)) r175_12 rfl rfl (E_gR r175_13 rfl (fun x3 => E_sip r175_16 (v := 300) (by decide) (go (w := (20, [.ref l0, .int l1, .int l2, .int l3, .int l4, .int l5, l6, l7], [.int l1, .int 300, .ref x3], h)) r175_19 rfl rfl (go (w := (21, [.ref l0, .int l1, .int l2, .int l3, .int l4, .int l5, l6, l7], [.int (300 * l1), .ref x3], h)) r175_20 rfl rfl (go (w := (23, [.ref l0, .int l1, .int l2, .int l3, .int l4, .int l5, l6, l7], [.int l5, .int (300 * l1), .ref x3], h)) r175_21 rfl rfl (go (w := (24, [.ref l0, .int l1, .int l2, .int l3, .int l4, .int l5, l6, l7], [.int ((300 * l1) + l5), .ref x3], h)) r175_23 rfl rfl (E_aI r175_24 (fun x4 => go (w := (27, [.ref l0, .int l1, .int l2, .int l3, .int l4, .int l5, .int x4, l7], [], h)) r175_25 rfl rfl (go (w := (28, [.ref l0, .int l1, .int l2, .int l3, .int l4, .int l5, .int x4, l7], [.ref l0], h)) r175_27 rfl rfl (E_gR r175_28 rfl (fun x5 => E_sip r175_31 (v := 300) (by decide) (go (w := (35, [.ref l0, .int l1, .int l2, .int l3, .int l4, .int l5, .int x4, l7], [.int l1, .int 300, .ref x5], h)) r175_34 rfl rfl (go (w := (36, [.ref l0, .int l1, .int l2, .int l3, .int l4, .int l5, .int x4, l7], [.int (300 * l1), .ref x5], h)) r175_35 rfl rfl (go (w := (38, [.ref l0, .int l1, .int l2, .int l3, .int l4, .int l5, .int x4, l7], [.int l5, .int (300 * l1), .ref x5], h)) r175_36 rfl rfl (go (w := (39, [.ref l0, .int l1, .int l2, .int l3, .int l4, .int l5, .int x4, l7], [.int ((300 * l1) + l5), .ref x5], h)) r175_38 rfl rfl (E_aI r175_39 (fun x6 => go (w := (42, [.ref l0, .int l1, .int l2, .int l3, .int l4, .int l5, .int x4, .int x6], [], h)) r175_40 rfl rfl (go (w := (44, [.ref l0, .int l1, .int l2, .int l3, .int l4, .int l5, .int x4, .int x6], [.int x4], h)) r175_42 rfl rfl (E_i1_eq r175_44 rfl (rfl) (go (w := (49, [.ref l0, .int l1, .int l2, .int l3, .int l4, .int l5, .int x4, .int x6], [.int x4], h)) r175_47 rfl rfl (E_ic r175_49 (v := 1) (by decide) (E_i2_ne r175_50 rfl (go (w := (86, [.ref l0, .int l1, .int l2, .int l3, .int l4, .int l5, .int x4, .int x6], [.int x4], h)) r175_84 rfl rfl (E_bip r175_86 (v := 9) (by decide) (E_i2_ne r175_88 rfl (E_inc r175_114 (c := (-1)) rfl (by decide) (L' := [.ref l0, .int l1, .int l2, .int l3, .int (l4 + (-1)), .int l5, .int x4, .int x6]) rfl (go (w := (118, [.ref l0, .int l1, .int l2, .int l3, .int (l4 + (-1)), .int l5, .int x4, .int x6], [.ref l0], h)) r175_117 rfl rfl (E_gR r175_118 rfl (fun x7 => go (w := (123, [.ref l0, .int l1, .int l2, .int l3, .int (l4 + (-1)), .int l5, .int x4, .int x6], [.int (l4 + (-1)), .ref x7], h)) r175_121 rfl rfl (E_ic r175_123 (v := 1) (by decide) (go (w := (125, [.ref l0, .int l1, .int l2, .int l3, .int (l4 + (-1)), .int l5, .int x4, .int x6], [.int ((l4 + (-1)) - 1), .ref x7], h)) r175_124 rfl rfl (go (w := (127, [.ref l0, .int l1, .int l2, .int l3, .int (l4 + (-1)), .int l5, .int x4, .int x6], [.int x4, .int ((l4 + (-1)) - 1), .ref x7], h)) r175_125 rfl rfl (go (w := (128, [.ref l0, .int l1, .int l2, .int l3, .int (l4 + (-1)), .int l5, .int x4, .int x6], [.ref l0, .int x4, .int ((l4 + (-1)) - 1), .ref x7], h)) r175_127 rfl rfl (E_gR r175_128 rfl (fun x8 => go (w := (133, [.ref l0, .int l1, .int l2, .int l3, .int (l4 + (-1)), .int l5, .int x4, .int x6], [.int (l4 + (-1)), .ref x8, .int x4, .int ((l4 + (-1)) - 1), .ref x7], h)) r175_131 rfl rfl (E_ic r175_133 (v := 1) (by decide) (go (w := (135, [.ref l0, .int l1, .int l2, .int l3, .int (l4 + (-1)), .int l5, .int x4, .int x6], [.int ((l4 + (-1)) - 1), .ref x8, .int x4, .int ((l4 + (-1)) - 1), .ref x7], h)) r175_134 rfl rfl (E_aJ r175_135 (fun x9 => go (w := (137, [.ref l0, .int l1, .int l2, .int l3, .int (l4 + (-1)), .int l5, .int x4, .int x6], [.ref l0, .long x9, .int x4, .int ((l4 + (-1)) - 1), .ref x7], h)) r175_136 rfl rfl (E_gR r175_137 rfl (fun x10 => go (w := (142, [.ref l0, .int l1, .int l2, .int l3, .int (l4 + (-1)), .int l5, .int x4, .int x6], [.int (l4 + (-1)), .ref x10, .long x9, .int x4, .int ((l4 + (-1)) - 1), .ref x7], h)) r175_140 rfl rfl (E_aJ r175_142 (fun x11 => E_sJ r175_143 (As := [.int x4, .long x9, .long x11]) (rest := [.int ((l4 + (-1)) - 1), .ref x7]) (cut_n mi174.1 rfl rfl) (rm8_n mi174.2.1 (Nat.le_of_ble_eq_true rfl) (Nat.le_of_ble_eq_true rfl)) mi174.2.2 (fun x13 h12 => E_wJ r175_146 (fun h14 => rfl)))))))))))))))))))) (go (w := (92, [.ref l0, .int l1, .int l2, .int l3, .int l4, .int l5, .int x4, .int x6], [.ref l0], h)) r175_91 rfl rfl (E_gR r175_92 rfl (fun x15 => go (w := (97, [.ref l0, .int l1, .int l2, .int l3, .int l4, .int l5, .int x4, .int x6], [.int l4, .ref x15], h)) r175_95 rfl rfl (E_ic r175_97 (v := 1) (by decide) (go (w := (99, [.ref l0, .int l1, .int l2, .int l3, .int l4, .int l5, .int x4, .int x6], [.int (l4 - 1), .ref x15], h)) r175_98 rfl rfl (E_lc r175_99 (v := 1) (by decide) (go (w := (101, [.ref l0, .int l1, .int l2, .int l3, .int l4, .int l5, .int x4, .int x6], [.ref l0, .long 1, .int (l4 - 1), .ref x15], h)) r175_100 rfl rfl (E_gR r175_101 rfl (fun x16 => go (w := (106, [.ref l0, .int l1, .int l2, .int l3, .int l4, .int l5, .int x4, .int x6], [.int l4, .ref x16, .long 1, .int (l4 - 1), .ref x15], h)) r175_104 rfl rfl (E_ic r175_106 (v := 1) (by decide) (go (w := (108, [.ref l0, .int l1, .int l2, .int l3, .int l4, .int l5, .int x4, .int x6], [.int (l4 - 1), .ref x16, .long 1, .int (l4 - 1), .ref x15], h)) r175_107 rfl rfl (E_aJ r175_108 (fun x17 => go (w := (110, [.ref l0, .int l1, .int l2, .int l3, .int l4, .int l5, .int x4, .int x6], [.long (1 - x17), .int (l4 - 1), .ref x15], h)) r175_109 rfl rfl (E_wJ r175_110 (fun h18 => E_gt r175_111 rfl (rfl))))))))))))))))))) (rfl))))))))))))))))))))))))))
theorem b175_53 (d : Nat) (l0 : Nat) (l1 : Int32) (l2 : Int32) (l3 : Int32) (l4 : Int32) (l5 : Int32) (l6 : Int32) (l7 : Int32) (h : aH) (K : Option Value → aH → Prop) : E scr false d 175 53 [.ref l0, .int l1, .int l2, .int l3, .int l4, .int l5, .int l6, .int l7] [] h K = gR scr h l0 9 38 (fun x1 : Nat => (if l6 = 0 then E scr false d 175 77 [.ref l0, .int l1, .int l2, .int l3, .int l4, .int l5, .int l6, .int l7] [.long (Int32.toInt64 l7), .int l4, .ref x1] h K else gR scr h l0 9 37 (fun x2 : Nat => aJ h x2 l7 (fun x3 : Int64 => E scr false d 175 77 [.ref l0, .int l1, .int l2, .int l3, .int l4, .int l5, .int l6, .int l7] [.long x3, .int l4, .ref x1] h K)))) := go (w := (54, [.ref l0, .int l1, .int l2, .int l3, .int l4, .int l5, .int l6, .int l7], [.ref l0], h)) r175_53 rfl rfl (E_gR r175_54 rfl (fun x1 => go (w := (59, [.ref l0, .int l1, .int l2, .int l3, .int l4, .int l5, .int l6, .int l7], [.int l4, .ref x1], h)) r175_57 rfl rfl (go (w := (61, [.ref l0, .int l1, .int l2, .int l3, .int l4, .int l5, .int l6, .int l7], [.int l6, .int l4, .ref x1], h)) r175_59 rfl rfl (E_i1_ne r175_61 rfl (go (w := (71, [.ref l0, .int l1, .int l2, .int l3, .int l4, .int l5, .int l6, .int l7], [.ref l0, .int l4, .ref x1], h)) r175_70 rfl rfl (E_gR r175_71 rfl (fun x2 => go (w := (76, [.ref l0, .int l1, .int l2, .int l3, .int l4, .int l5, .int l6, .int l7], [.int l7, .ref x2, .int l4, .ref x1], h)) r175_74 rfl rfl (E_aJ r175_76 (fun x3 => rfl))))) (go (w := (66, [.ref l0, .int l1, .int l2, .int l3, .int l4, .int l5, .int l6, .int l7], [.int l7, .int l4, .ref x1], h)) r175_64 rfl rfl (go (w := (67, [.ref l0, .int l1, .int l2, .int l3, .int l4, .int l5, .int l6, .int l7], [.long (Int32.toInt64 l7), .int l4, .ref x1], h)) r175_66 rfl rfl (E_gt r175_67 rfl (rfl))))))))
theorem b175_77 (d : Nat) (l0 : Nat) (l1 : Int32) (l2 : Int32) (l3 : Int32) (l4 : Int32) (l5 : Int32) (l6 : Int32) (l7 : Int32) (s0 : Int64) (s1 : Int32) (s2 : Nat) (h : aH) (K : Option Value → aH → Prop) : E scr false d 175 77 [.ref l0, .int l1, .int l2, .int l3, .int l4, .int l5, .int l6, .int l7] [.long s0, .int s1, .ref s2] h K = wJ h s2 s1 s0 (fun h1 : aH => E scr false d 175 147 [.ref l0, .int l1, .int l2, .int l3, .int (l4 + 1), .int l5, .int l6, .int l7] [] h1 K) := E_wJ r175_77 (fun h1 => E_inc r175_78 (c := 1) rfl (by decide) (L' := [.ref l0, .int l1, .int l2, .int l3, .int (l4 + 1), .int l5, .int l6, .int l7]) rfl (E_gt r175_81 rfl (rfl)))
theorem b175_147 (d : Nat) (l0 : Nat) (l1 : Int32) (l2 : Int32) (l3 : Int32) (l4 : Int32) (l5 : Int32) (l6 : Int32) (l7 : Int32) (h : aH) (K : Option Value → aH → Prop) : E scr false d 175 147 [.ref l0, .int l1, .int l2, .int l3, .int l4, .int l5, .int l6, .int l7] [] h K = E scr false d 175 6 [.ref l0, .int l1, .int l2, .int l3, .int l4, .int (l5 + 1), .int l6, .int l7] [] h K := E_inc r175_147 (c := 1) rfl (by decide) (L' := [.ref l0, .int l1, .int l2, .int l3, .int l4, .int (l5 + 1), .int l6, .int l7]) rfl (E_gt r175_150 rfl (rfl))
-- 176 SecondNearestModel.besides(I)I
theorem mq176 : mRet 176 = (some .int) := by decide +kernel
theorem r176_0 : rowAt 176 0 = some (.iconst 0, 1, 0, 0) := by decide +kernel
theorem r176_1 : rowAt 176 1 = some (.istore_n 2, 1, 0, 0) := by decide +kernel
theorem r176_2 : rowAt 176 2 = some (.iconst 0, 1, 0, 0) := by decide +kernel
theorem r176_3 : rowAt 176 3 = some (.istore_n 3, 1, 0, 0) := by decide +kernel
theorem r176_4 : rowAt 176 4 = some (.iload_n 3, 1, 0, 0) := by decide +kernel
theorem r176_5 : rowAt 176 5 = some (.bipush 8, 2, 0, 0) := by decide +kernel
theorem r176_7 : rowAt 176 7 = some (.if_icmp .ge 46, 3, 0, 0) := by decide +kernel
theorem r176_10 : rowAt 176 10 = some (.aload_n 0, 1, 0, 0) := by decide +kernel
theorem r176_11 : rowAt 176 11 = some (.aload_n 0, 1, 0, 0) := by decide +kernel
theorem r176_12 : rowAt 176 12 = some (.getfield 37, 3, 9, 10) := by decide +kernel
theorem r176_15 : rowAt 176 15 = some (.iload_n 1, 1, 0, 0) := by decide +kernel
theorem r176_16 : rowAt 176 16 = some (.iaload, 1, 0, 0) := by decide +kernel
theorem r176_17 : rowAt 176 17 = some (.iload_n 3, 1, 0, 0) := by decide +kernel
theorem r176_18 : rowAt 176 18 = some (.invokevirtual 183, 3, 132, 0) := by decide +kernel
theorem r176_21 : rowAt 176 21 = some (.istore 4, 2, 0, 0) := by decide +kernel
theorem r176_23 : rowAt 176 23 = some (.iload_n 2, 1, 0, 0) := by decide +kernel
theorem r176_24 : rowAt 176 24 = some (.iload 4, 2, 0, 0) := by decide +kernel
theorem r176_26 : rowAt 176 26 = some (.iconst (-1), 1, 0, 0) := by decide +kernel
theorem r176_27 : rowAt 176 27 = some (.if_icmp .eq 17, 3, 0, 0) := by decide +kernel
theorem r176_30 : rowAt 176 30 = some (.aload_n 0, 1, 0, 0) := by decide +kernel
theorem r176_31 : rowAt 176 31 = some (.iload 4, 2, 0, 0) := by decide +kernel
theorem r176_33 : rowAt 176 33 = some (.invokevirtual 166, 3, 130, 0) := by decide +kernel
theorem r176_36 : rowAt 176 36 = some (.iconst (-1), 1, 0, 0) := by decide +kernel
theorem r176_37 : rowAt 176 37 = some (.if_icmp .eq 7, 3, 0, 0) := by decide +kernel
theorem r176_40 : rowAt 176 40 = some (.iconst 1, 1, 0, 0) := by decide +kernel
theorem r176_41 : rowAt 176 41 = some (.goto 4, 3, 0, 0) := by decide +kernel
theorem r176_44 : rowAt 176 44 = some (.iconst 0, 1, 0, 0) := by decide +kernel
theorem r176_45 : rowAt 176 45 = some (.iadd, 1, 0, 0) := by decide +kernel
theorem r176_46 : rowAt 176 46 = some (.istore_n 2, 1, 0, 0) := by decide +kernel
theorem r176_47 : rowAt 176 47 = some (.iinc 3 1, 3, 0, 0) := by decide +kernel
theorem r176_50 : rowAt 176 50 = some (.goto (-46), 3, 0, 0) := by decide +kernel
theorem r176_53 : rowAt 176 53 = some (.iload_n 2, 1, 0, 0) := by decide +kernel
theorem r176_54 : rowAt 176 54 = some (.ireturn, 1, 0, 0) := by decide +kernel
theorem en176 (a0 : Nat) (a1 : Int32) : iniL 176 [.ref a0, .int a1] = [.ref a0, .int a1, .null, .null, .null] := ini_n mi176 rfl
theorem b176_0 (d : Nat) (l0 : Nat) (l1 : Int32) (h : aH) (K : Option Value → aH → Prop) : E scr false d 176 0 [.ref l0, .int l1, .null, .null, .null] [] h K = E scr false d 176 4 [.ref l0, .int l1, .int 0, .int 0, .null] [] h K := E_ic r176_0 (v := 0) (by decide) (go (w := (2, [.ref l0, .int l1, .int 0, .null, .null], [], h)) r176_1 rfl rfl (E_ic r176_2 (v := 0) (by decide) (go (w := (4, [.ref l0, .int l1, .int 0, .int 0, .null], [], h)) r176_3 rfl rfl (rfl))))
theorem b176_4 (d : Nat) (l0 : Nat) (l1 : Int32) (l2 : Int32) (l3 : Int32) (l4 : Value) (h : aH) (K : Option Value → aH → Prop) : E scr false (d + 1) 176 4 [.ref l0, .int l1, .int l2, .int l3, l4] [] h K = (if 8 ≤ l3 then K (some (.int l2)) h else gR scr h l0 9 10 (fun x1 : Nat => aI scr h x1 l1 (fun x2 : Int32 => vI scr d 132 [.ref l0, .int x2, .int l3] h (fun (x4 : Int32) (h3 : aH) => (if x4 = (-1) then E scr false (d + 1) 176 44 [.ref l0, .int l1, .int l2, .int l3, .int x4] [.int l2] h3 K else vI scr d 130 [.ref l0, .int x4] h3 (fun (x6 : Int32) (h5 : aH) => (if x6 = (-1) then E scr false (d + 1) 176 44 [.ref l0, .int l1, .int l2, .int l3, .int x4] [.int l2] h5 K else E scr false (d + 1) 176 45 [.ref l0, .int l1, .int l2, .int l3, .int x4] [.int 1, .int l2] h5 K))))))) := go (w := (5, [.ref l0, .int l1, .int l2, .int l3, l4], [.int l3], h)) r176_4 rfl rfl (E_bip r176_5 (v := 8) (by decide) (E_i2_ge r176_7 rfl (go (w := (54, [.ref l0, .int l1, .int l2, .int l3, l4], [.int l2], h)) r176_53 rfl rfl (E_ri r176_54 (mq176))) (go (w := (11, [.ref l0, .int l1, .int l2, .int l3, l4], [.ref l0], h)) r176_10 rfl rfl (go (w := (12, [.ref l0, .int l1, .int l2, .int l3, l4], [.ref l0, .ref l0], h)) r176_11 rfl rfl (E_gR r176_12 rfl (fun x1 => go (w := (16, [.ref l0, .int l1, .int l2, .int l3, l4], [.int l1, .ref x1, .ref l0], h)) r176_15 rfl rfl (E_aI r176_16 (fun x2 => go (w := (18, [.ref l0, .int l1, .int l2, .int l3, l4], [.int l3, .int x2, .ref l0], h)) r176_17 rfl rfl (E_vI r176_18 (As := [.ref l0, .int x2, .int l3]) (rest := []) (cut_n mi132.1 rfl rfl) (rm8_n mi132.2.1 (Nat.le_of_ble_eq_true rfl) (Nat.le_of_ble_eq_true rfl)) mi132.2.2 (fun x4 h3 => go (w := (23, [.ref l0, .int l1, .int l2, .int l3, .int x4], [], h3)) r176_21 rfl rfl (go (w := (24, [.ref l0, .int l1, .int l2, .int l3, .int x4], [.int l2], h3)) r176_23 rfl rfl (go (w := (26, [.ref l0, .int l1, .int l2, .int l3, .int x4], [.int x4, .int l2], h3)) r176_24 rfl rfl (E_ic r176_26 (v := (-1)) (by decide) (E_i2_eq r176_27 rfl (rfl) (go (w := (31, [.ref l0, .int l1, .int l2, .int l3, .int x4], [.ref l0, .int l2], h3)) r176_30 rfl rfl (go (w := (33, [.ref l0, .int l1, .int l2, .int l3, .int x4], [.int x4, .ref l0, .int l2], h3)) r176_31 rfl rfl (E_vI r176_33 (As := [.ref l0, .int x4]) (rest := [.int l2]) (cut_n mi130.1 rfl rfl) (rm8_n mi130.2.1 (Nat.le_of_ble_eq_true rfl) (Nat.le_of_ble_eq_true rfl)) mi130.2.2 (fun x6 h5 => E_ic r176_36 (v := (-1)) (by decide) (E_i2_eq r176_37 rfl (rfl) (E_ic r176_40 (v := 1) (by decide) (E_gt r176_41 rfl (rfl))))))))))))))))))))))
theorem b176_44 (d : Nat) (l0 : Nat) (l1 : Int32) (l2 : Int32) (l3 : Int32) (l4 : Int32) (s0 : Int32) (h : aH) (K : Option Value → aH → Prop) : E scr false d 176 44 [.ref l0, .int l1, .int l2, .int l3, .int l4] [.int s0] h K = E scr false d 176 45 [.ref l0, .int l1, .int l2, .int l3, .int l4] [.int 0, .int s0] h K := E_ic r176_44 (v := 0) (by decide) (rfl)
theorem b176_45 (d : Nat) (l0 : Nat) (l1 : Int32) (l2 : Int32) (l3 : Int32) (l4 : Int32) (s0 : Int32) (s1 : Int32) (h : aH) (K : Option Value → aH → Prop) : E scr false d 176 45 [.ref l0, .int l1, .int l2, .int l3, .int l4] [.int s0, .int s1] h K = E scr false d 176 4 [.ref l0, .int l1, .int (s1 + s0), .int (l3 + 1), .int l4] [] h K := go (w := (46, [.ref l0, .int l1, .int l2, .int l3, .int l4], [.int (s1 + s0)], h)) r176_45 rfl rfl (go (w := (47, [.ref l0, .int l1, .int (s1 + s0), .int l3, .int l4], [], h)) r176_46 rfl rfl (E_inc r176_47 (c := 1) rfl (by decide) (L' := [.ref l0, .int l1, .int (s1 + s0), .int (l3 + 1), .int l4]) rfl (E_gt r176_50 rfl (rfl))))
-- 177 SecondNearestModel.followedBy(II)I
theorem mq177 : mRet 177 = (some .int) := by decide +kernel
theorem r177_0 : rowAt 177 0 = some (.aload_n 0, 1, 0, 0) := by decide +kernel
theorem r177_1 : rowAt 177 1 = some (.iload_n 2, 1, 0, 0) := by decide +kernel
theorem r177_2 : rowAt 177 2 = some (.invokevirtual 379, 3, 137, 0) := by decide +kernel
theorem r177_5 : rowAt 177 5 = some (.aload_n 0, 1, 0, 0) := by decide +kernel
theorem r177_6 : rowAt 177 6 = some (.getfield 90, 3, 9, 37) := by decide +kernel
theorem r177_9 : rowAt 177 9 = some (.iconst 0, 1, 0, 0) := by decide +kernel
theorem r177_10 : rowAt 177 10 = some (.aload_n 0, 1, 0, 0) := by decide +kernel
theorem r177_11 : rowAt 177 11 = some (.getfield 37, 3, 9, 10) := by decide +kernel
theorem r177_14 : rowAt 177 14 = some (.iload_n 2, 1, 0, 0) := by decide +kernel
theorem r177_15 : rowAt 177 15 = some (.iaload, 1, 0, 0) := by decide +kernel
theorem r177_16 : rowAt 177 16 = some (.bipush 12, 2, 0, 0) := by decide +kernel
theorem r177_18 : rowAt 177 18 = some (.irem, 1, 0, 0) := by decide +kernel
theorem r177_19 : rowAt 177 19 = some (.i2l, 1, 0, 0) := by decide +kernel
theorem r177_20 : rowAt 177 20 = some (.lastore, 1, 0, 0) := by decide +kernel
theorem r177_21 : rowAt 177 21 = some (.aload_n 0, 1, 0, 0) := by decide +kernel
theorem r177_22 : rowAt 177 22 = some (.getfield 90, 3, 9, 37) := by decide +kernel
theorem r177_25 : rowAt 177 25 = some (.iconst 1, 1, 0, 0) := by decide +kernel
theorem r177_26 : rowAt 177 26 = some (.aload_n 0, 1, 0, 0) := by decide +kernel
theorem r177_27 : rowAt 177 27 = some (.getfield 37, 3, 9, 10) := by decide +kernel
theorem r177_30 : rowAt 177 30 = some (.iload_n 2, 1, 0, 0) := by decide +kernel
theorem r177_31 : rowAt 177 31 = some (.iaload, 1, 0, 0) := by decide +kernel
theorem r177_32 : rowAt 177 32 = some (.bipush 12, 2, 0, 0) := by decide +kernel
theorem r177_34 : rowAt 177 34 = some (.idiv, 1, 0, 0) := by decide +kernel
theorem r177_35 : rowAt 177 35 = some (.i2l, 1, 0, 0) := by decide +kernel
theorem r177_36 : rowAt 177 36 = some (.lastore, 1, 0, 0) := by decide +kernel
theorem r177_37 : rowAt 177 37 = some (.aload_n 0, 1, 0, 0) := by decide +kernel
theorem r177_38 : rowAt 177 38 = some (.getfield 90, 3, 9, 37) := by decide +kernel
theorem r177_41 : rowAt 177 41 = some (.iconst 2, 1, 0, 0) := by decide +kernel
theorem r177_42 : rowAt 177 42 = some (.aload_n 0, 1, 0, 0) := by decide +kernel
theorem r177_43 : rowAt 177 43 = some (.getfield 16, 3, 9, 3) := by decide +kernel
theorem r177_46 : rowAt 177 46 = some (.iload_n 2, 1, 0, 0) := by decide +kernel
theorem r177_47 : rowAt 177 47 = some (.iaload, 1, 0, 0) := by decide +kernel
theorem r177_48 : rowAt 177 48 = some (.i2l, 1, 0, 0) := by decide +kernel
theorem r177_49 : rowAt 177 49 = some (.lastore, 1, 0, 0) := by decide +kernel
theorem r177_50 : rowAt 177 50 = some (.aload_n 0, 1, 0, 0) := by decide +kernel
theorem r177_51 : rowAt 177 51 = some (.getfield 90, 3, 9, 37) := by decide +kernel
theorem r177_54 : rowAt 177 54 = some (.iconst 3, 1, 0, 0) := by decide +kernel
theorem r177_55 : rowAt 177 55 = some (.aload_n 0, 1, 0, 0) := by decide +kernel
theorem r177_56 : rowAt 177 56 = some (.getfield 19, 3, 9, 4) := by decide +kernel
theorem r177_59 : rowAt 177 59 = some (.iload_n 2, 1, 0, 0) := by decide +kernel
theorem r177_60 : rowAt 177 60 = some (.iaload, 1, 0, 0) := by decide +kernel
theorem r177_61 : rowAt 177 61 = some (.i2l, 1, 0, 0) := by decide +kernel
theorem r177_62 : rowAt 177 62 = some (.lastore, 1, 0, 0) := by decide +kernel
theorem r177_63 : rowAt 177 63 = some (.aload_n 0, 1, 0, 0) := by decide +kernel
theorem r177_64 : rowAt 177 64 = some (.getfield 90, 3, 9, 37) := by decide +kernel
theorem r177_67 : rowAt 177 67 = some (.iconst 4, 1, 0, 0) := by decide +kernel
theorem r177_68 : rowAt 177 68 = some (.aload_n 0, 1, 0, 0) := by decide +kernel
theorem r177_69 : rowAt 177 69 = some (.getfield 189, 3, 9, 18) := by decide +kernel
theorem r177_72 : rowAt 177 72 = some (.i2l, 1, 0, 0) := by decide +kernel
theorem r177_73 : rowAt 177 73 = some (.lastore, 1, 0, 0) := by decide +kernel
theorem r177_74 : rowAt 177 74 = some (.aload_n 0, 1, 0, 0) := by decide +kernel
theorem r177_75 : rowAt 177 75 = some (.getfield 90, 3, 9, 37) := by decide +kernel
theorem r177_78 : rowAt 177 78 = some (.iconst 5, 1, 0, 0) := by decide +kernel
theorem r177_79 : rowAt 177 79 = some (.aload_n 0, 1, 0, 0) := by decide +kernel
theorem r177_80 : rowAt 177 80 = some (.getfield 189, 3, 9, 18) := by decide +kernel
theorem r177_83 : rowAt 177 83 = some (.ifCond .ne 7, 3, 0, 0) := by decide +kernel
theorem r177_86 : rowAt 177 86 = some (.lconst 0, 1, 0, 0) := by decide +kernel
theorem r177_87 : rowAt 177 87 = some (.goto 24, 3, 0, 0) := by decide +kernel
theorem r177_90 : rowAt 177 90 = some (.aload_n 0, 1, 0, 0) := by decide +kernel
theorem r177_91 : rowAt 177 91 = some (.getfield 37, 3, 9, 10) := by decide +kernel
theorem r177_94 : rowAt 177 94 = some (.iload_n 2, 1, 0, 0) := by decide +kernel
theorem r177_95 : rowAt 177 95 = some (.iaload, 1, 0, 0) := by decide +kernel
theorem r177_96 : rowAt 177 96 = some (.aload_n 0, 1, 0, 0) := by decide +kernel
theorem r177_97 : rowAt 177 97 = some (.getfield 37, 3, 9, 10) := by decide +kernel
theorem r177_100 : rowAt 177 100 = some (.aload_n 0, 1, 0, 0) := by decide +kernel
theorem r177_101 : rowAt 177 101 = some (.getfield 58, 3, 9, 17) := by decide +kernel
theorem r177_104 : rowAt 177 104 = some (.iconst 0, 1, 0, 0) := by decide +kernel
theorem r177_105 : rowAt 177 105 = some (.iaload, 1, 0, 0) := by decide +kernel
theorem r177_106 : rowAt 177 106 = some (.iaload, 1, 0, 0) := by decide +kernel
theorem r177_107 : rowAt 177 107 = some (.invokestatic 186, 3, 133, 1) := by decide +kernel
theorem r177_110 : rowAt 177 110 = some (.i2l, 1, 0, 0) := by decide +kernel
theorem r177_111 : rowAt 177 111 = some (.lastore, 1, 0, 0) := by decide +kernel
theorem r177_112 : rowAt 177 112 = some (.aload_n 0, 1, 0, 0) := by decide +kernel
theorem r177_113 : rowAt 177 113 = some (.getfield 90, 3, 9, 37) := by decide +kernel
theorem r177_116 : rowAt 177 116 = some (.bipush 6, 2, 0, 0) := by decide +kernel
theorem r177_118 : rowAt 177 118 = some (.aload_n 0, 1, 0, 0) := by decide +kernel
theorem r177_119 : rowAt 177 119 = some (.getfield 52, 3, 9, 15) := by decide +kernel
theorem r177_122 : rowAt 177 122 = some (.aload_n 0, 1, 0, 0) := by decide +kernel
theorem r177_123 : rowAt 177 123 = some (.getfield 37, 3, 9, 10) := by decide +kernel
theorem r177_126 : rowAt 177 126 = some (.iload_n 2, 1, 0, 0) := by decide +kernel
theorem r177_127 : rowAt 177 127 = some (.iaload, 1, 0, 0) := by decide +kernel
theorem r177_128 : rowAt 177 128 = some (.iaload, 1, 0, 0) := by decide +kernel
theorem r177_129 : rowAt 177 129 = some (.i2l, 1, 0, 0) := by decide +kernel
theorem r177_130 : rowAt 177 130 = some (.lastore, 1, 0, 0) := by decide +kernel
theorem r177_131 : rowAt 177 131 = some (.aload_n 0, 1, 0, 0) := by decide +kernel
theorem r177_132 : rowAt 177 132 = some (.getfield 90, 3, 9, 37) := by decide +kernel
theorem r177_135 : rowAt 177 135 = some (.bipush 7, 2, 0, 0) := by decide +kernel
theorem r177_137 : rowAt 177 137 = some (.aload_n 0, 1, 0, 0) := by decide +kernel
theorem r177_138 : rowAt 177 138 = some (.iload_n 2, 1, 0, 0) := by decide +kernel
theorem r177_139 : rowAt 177 139 = some (.invokevirtual 382, 3, 176, 0) := by decide +kernel
theorem r177_142 : rowAt 177 142 = some (.i2l, 1, 0, 0) := by decide +kernel
theorem r177_143 : rowAt 177 143 = some (.lastore, 1, 0, 0) := by decide +kernel
theorem r177_144 : rowAt 177 144 = some (.aload_n 0, 1, 0, 0) := by decide +kernel
theorem r177_145 : rowAt 177 145 = some (.getfield 90, 3, 9, 37) := by decide +kernel
theorem r177_148 : rowAt 177 148 = some (.bipush 8, 2, 0, 0) := by decide +kernel
theorem r177_150 : rowAt 177 150 = some (.lconst 1, 1, 0, 0) := by decide +kernel
theorem r177_151 : rowAt 177 151 = some (.lastore, 1, 0, 0) := by decide +kernel
theorem r177_152 : rowAt 177 152 = some (.iconst 0, 1, 0, 0) := by decide +kernel
theorem r177_153 : rowAt 177 153 = some (.istore_n 3, 1, 0, 0) := by decide +kernel
theorem r177_154 : rowAt 177 154 = some (.iload_n 3, 1, 0, 0) := by decide +kernel
theorem r177_155 : rowAt 177 155 = some (.aload_n 0, 1, 0, 0) := by decide +kernel
theorem r177_156 : rowAt 177 156 = some (.getfield 189, 3, 9, 18) := by decide +kernel
theorem r177_159 : rowAt 177 159 = some (.if_icmp .ge 58, 3, 0, 0) := by decide +kernel
theorem r177_162 : rowAt 177 162 = some (.aload_n 0, 1, 0, 0) := by decide +kernel
theorem r177_163 : rowAt 177 163 = some (.getfield 90, 3, 9, 37) := by decide +kernel
theorem r177_166 : rowAt 177 166 = some (.bipush 8, 2, 0, 0) := by decide +kernel
theorem r177_168 : rowAt 177 168 = some (.aload_n 0, 1, 0, 0) := by decide +kernel
theorem r177_169 : rowAt 177 169 = some (.getfield 58, 3, 9, 17) := by decide +kernel
theorem r177_172 : rowAt 177 172 = some (.iload_n 3, 1, 0, 0) := by decide +kernel
theorem r177_173 : rowAt 177 173 = some (.iaload, 1, 0, 0) := by decide +kernel
theorem r177_174 : rowAt 177 174 = some (.bipush 12, 2, 0, 0) := by decide +kernel
theorem r177_176 : rowAt 177 176 = some (.if_icmp .ge 27, 3, 0, 0) := by decide +kernel
theorem r177_179 : rowAt 177 179 = some (.aload_n 0, 1, 0, 0) := by decide +kernel
theorem r177_180 : rowAt 177 180 = some (.getfield 16, 3, 9, 3) := by decide +kernel
theorem r177_183 : rowAt 177 183 = some (.aload_n 0, 1, 0, 0) := by decide +kernel
theorem r177_184 : rowAt 177 184 = some (.getfield 58, 3, 9, 17) := by decide +kernel
theorem r177_187 : rowAt 177 187 = some (.iload_n 3, 1, 0, 0) := by decide +kernel
theorem r177_188 : rowAt 177 188 = some (.iaload, 1, 0, 0) := by decide +kernel
theorem r177_189 : rowAt 177 189 = some (.iaload, 1, 0, 0) := by decide +kernel
theorem r177_190 : rowAt 177 190 = some (.aload_n 0, 1, 0, 0) := by decide +kernel
theorem r177_191 : rowAt 177 191 = some (.getfield 16, 3, 9, 3) := by decide +kernel
theorem r177_194 : rowAt 177 194 = some (.iload_n 2, 1, 0, 0) := by decide +kernel
theorem r177_195 : rowAt 177 195 = some (.iaload, 1, 0, 0) := by decide +kernel
theorem r177_196 : rowAt 177 196 = some (.if_icmp .le 7, 3, 0, 0) := by decide +kernel
theorem r177_199 : rowAt 177 199 = some (.lconst 0, 1, 0, 0) := by decide +kernel
theorem r177_200 : rowAt 177 200 = some (.goto 10, 3, 0, 0) := by decide +kernel
theorem r177_203 : rowAt 177 203 = some (.aload_n 0, 1, 0, 0) := by decide +kernel
theorem r177_204 : rowAt 177 204 = some (.getfield 90, 3, 9, 37) := by decide +kernel
theorem r177_207 : rowAt 177 207 = some (.bipush 8, 2, 0, 0) := by decide +kernel
theorem r177_209 : rowAt 177 209 = some (.laload, 1, 0, 0) := by decide +kernel
theorem r177_210 : rowAt 177 210 = some (.lastore, 1, 0, 0) := by decide +kernel
theorem r177_211 : rowAt 177 211 = some (.iinc 3 1, 3, 0, 0) := by decide +kernel
theorem r177_214 : rowAt 177 214 = some (.goto (-60), 3, 0, 0) := by decide +kernel
theorem r177_217 : rowAt 177 217 = some (.bipush 12, 2, 0, 0) := by decide +kernel
theorem r177_219 : rowAt 177 219 = some (.iload_n 1, 1, 0, 0) := by decide +kernel
theorem r177_220 : rowAt 177 220 = some (.imul, 1, 0, 0) := by decide +kernel
theorem r177_221 : rowAt 177 221 = some (.istore_n 3, 1, 0, 0) := by decide +kernel
theorem r177_222 : rowAt 177 222 = some (.iload_n 3, 1, 0, 0) := by decide +kernel
theorem r177_223 : rowAt 177 223 = some (.bipush 12, 2, 0, 0) := by decide +kernel
theorem r177_225 : rowAt 177 225 = some (.iload_n 1, 1, 0, 0) := by decide +kernel
theorem r177_226 : rowAt 177 226 = some (.imul, 1, 0, 0) := by decide +kernel
theorem r177_227 : rowAt 177 227 = some (.aload_n 0, 1, 0, 0) := by decide +kernel
theorem r177_228 : rowAt 177 228 = some (.getfield 75, 3, 9, 32) := by decide +kernel
theorem r177_231 : rowAt 177 231 = some (.iload_n 1, 1, 0, 0) := by decide +kernel
theorem r177_232 : rowAt 177 232 = some (.iaload, 1, 0, 0) := by decide +kernel
theorem r177_233 : rowAt 177 233 = some (.iadd, 1, 0, 0) := by decide +kernel
theorem r177_234 : rowAt 177 234 = some (.if_icmp .ge 83, 3, 0, 0) := by decide +kernel
theorem r177_237 : rowAt 177 237 = some (.aload_n 0, 1, 0, 0) := by decide +kernel
theorem r177_238 : rowAt 177 238 = some (.getfield 81, 3, 9, 34) := by decide +kernel
theorem r177_241 : rowAt 177 241 = some (.iload_n 3, 1, 0, 0) := by decide +kernel
theorem r177_242 : rowAt 177 242 = some (.iaload, 1, 0, 0) := by decide +kernel
theorem r177_243 : rowAt 177 243 = some (.aload_n 0, 1, 0, 0) := by decide +kernel
theorem r177_244 : rowAt 177 244 = some (.getfield 84, 3, 9, 35) := by decide +kernel
theorem r177_247 : rowAt 177 247 = some (.iload_n 3, 1, 0, 0) := by decide +kernel
theorem r177_248 : rowAt 177 248 = some (.iaload, 1, 0, 0) := by decide +kernel
theorem r177_249 : rowAt 177 249 = some (.if_icmp .eq 25, 3, 0, 0) := by decide +kernel
theorem r177_252 : rowAt 177 252 = some (.aload_n 0, 1, 0, 0) := by decide +kernel
theorem r177_253 : rowAt 177 253 = some (.iload_n 1, 1, 0, 0) := by decide +kernel
theorem r177_254 : rowAt 177 254 = some (.aload_n 0, 1, 0, 0) := by decide +kernel
theorem r177_255 : rowAt 177 255 = some (.getfield 81, 3, 9, 34) := by decide +kernel
theorem r177_258 : rowAt 177 258 = some (.iload_n 3, 1, 0, 0) := by decide +kernel
theorem r177_259 : rowAt 177 259 = some (.iaload, 1, 0, 0) := by decide +kernel
theorem r177_260 : rowAt 177 260 = some (.aload_n 0, 1, 0, 0) := by decide +kernel
theorem r177_261 : rowAt 177 261 = some (.getfield 84, 3, 9, 35) := by decide +kernel
theorem r177_264 : rowAt 177 264 = some (.iload_n 3, 1, 0, 0) := by decide +kernel
theorem r177_265 : rowAt 177 265 = some (.iaload, 1, 0, 0) := by decide +kernel
theorem r177_266 : rowAt 177 266 = some (.invokevirtual 385, 3, 175, 0) := by decide +kernel
theorem r177_269 : rowAt 177 269 = some (.lconst 1, 1, 0, 0) := by decide +kernel
theorem r177_270 : rowAt 177 270 = some (.lcmp, 1, 0, 0) := by decide +kernel
theorem r177_271 : rowAt 177 271 = some (.ifCond .ne 40, 3, 0, 0) := by decide +kernel
theorem r177_274 : rowAt 177 274 = some (.aload_n 0, 1, 0, 0) := by decide +kernel
theorem r177_275 : rowAt 177 275 = some (.getfield 78, 3, 9, 33) := by decide +kernel
theorem r177_278 : rowAt 177 278 = some (.iload_n 3, 1, 0, 0) := by decide +kernel
theorem r177_279 : rowAt 177 279 = some (.iaload, 1, 0, 0) := by decide +kernel
theorem r177_280 : rowAt 177 280 = some (.i2l, 1, 0, 0) := by decide +kernel
theorem r177_281 : rowAt 177 281 = some (.lconst 1, 1, 0, 0) := by decide +kernel
theorem r177_282 : rowAt 177 282 = some (.aload_n 0, 1, 0, 0) := by decide +kernel
theorem r177_283 : rowAt 177 283 = some (.getfield 189, 3, 9, 18) := by decide +kernel
theorem r177_286 : rowAt 177 286 = some (.i2l, 1, 0, 0) := by decide +kernel
theorem r177_287 : rowAt 177 287 = some (.invokestatic 143, 3, 121, 1) := by decide +kernel
theorem r177_290 : rowAt 177 290 = some (.ifCond .eq 19, 3, 0, 0) := by decide +kernel
theorem r177_293 : rowAt 177 293 = some (.aload_n 0, 1, 0, 0) := by decide +kernel
theorem r177_294 : rowAt 177 294 = some (.getfield 58, 3, 9, 17) := by decide +kernel
theorem r177_297 : rowAt 177 297 = some (.aload_n 0, 1, 0, 0) := by decide +kernel
theorem r177_298 : rowAt 177 298 = some (.getfield 78, 3, 9, 33) := by decide +kernel
theorem r177_301 : rowAt 177 301 = some (.iload_n 3, 1, 0, 0) := by decide +kernel
theorem r177_302 : rowAt 177 302 = some (.iaload, 1, 0, 0) := by decide +kernel
theorem r177_303 : rowAt 177 303 = some (.iconst 1, 1, 0, 0) := by decide +kernel
theorem r177_304 : rowAt 177 304 = some (.isub, 1, 0, 0) := by decide +kernel
theorem r177_305 : rowAt 177 305 = some (.iaload, 1, 0, 0) := by decide +kernel
theorem r177_306 : rowAt 177 306 = some (.goto 4, 3, 0, 0) := by decide +kernel
theorem r177_309 : rowAt 177 309 = some (.iconst (-1), 1, 0, 0) := by decide +kernel
theorem r177_310 : rowAt 177 310 = some (.ireturn, 1, 0, 0) := by decide +kernel
theorem r177_311 : rowAt 177 311 = some (.iinc 3 1, 3, 0, 0) := by decide +kernel
theorem r177_314 : rowAt 177 314 = some (.goto (-92), 3, 0, 0) := by decide +kernel
theorem r177_317 : rowAt 177 317 = some (.iconst (-1), 1, 0, 0) := by decide +kernel
theorem r177_318 : rowAt 177 318 = some (.ireturn, 1, 0, 0) := by decide +kernel
theorem en177 (a0 : Nat) (a1 : Int32) (a2 : Int32) : iniL 177 [.ref a0, .int a1, .int a2] = [.ref a0, .int a1, .int a2, .null] := ini_n mi177 rfl
theorem b177_0 (d : Nat) (l0 : Nat) (l1 : Int32) (l2 : Int32) (h : aH) (K : Option Value → aH → Prop) : E scr false (d + 1) 177 0 [.ref l0, .int l1, .int l2, .null] [] h K = vV scr d 137 [.ref l0, .int l2] h (fun h1 : aH => gR scr h1 l0 9 37 (fun x3 : Nat => gR scr h1 l0 9 10 (fun x4 : Nat => aI scr h1 x4 l2 (fun x5 : Int32 => wJ h1 x3 0 ((Int32.toInt64 (irm x5 12))) (fun h6 : aH => gR scr h6 l0 9 37 (fun x7 : Nat => gR scr h6 l0 9 10 (fun x8 : Nat => aI scr h6 x8 l2 (fun x9 : Int32 => wJ h6 x7 1 ((Int32.toInt64 (x9 / 12))) (fun h10 : aH => gR scr h10 l0 9 37 (fun x11 : Nat => gR scr h10 l0 9 3 (fun x12 : Nat => aI scr h10 x12 l2 (fun x13 : Int32 => wJ h10 x11 2 ((Int32.toInt64 x13)) (fun h14 : aH => gR scr h14 l0 9 37 (fun x15 : Nat => gR scr h14 l0 9 4 (fun x16 : Nat => aI scr h14 x16 l2 (fun x17 : Int32 => wJ h14 x15 3 ((Int32.toInt64 x17)) (fun h18 : aH => gR scr h18 l0 9 37 (fun x19 : Nat => gI scr h18 l0 9 18 (fun x20 : Int32 => wJ h18 x19 4 ((Int32.toInt64 x20)) (fun h21 : aH => gR scr h21 l0 9 37 (fun x22 : Nat => gI scr h21 l0 9 18 (fun x23 : Int32 => (if x23 = 0 then E scr false (d + 1) 177 111 [.ref l0, .int l1, .int l2, .null] [.long 0, .int 5, .ref x22] h21 K else gR scr h21 l0 9 10 (fun x24 : Nat => aI scr h21 x24 l2 (fun x25 : Int32 => gR scr h21 l0 9 10 (fun x26 : Nat => gR scr h21 l0 9 17 (fun x27 : Nat => aI scr h21 x27 0 (fun x28 : Int32 => aI scr h21 x26 x28 (fun x29 : Int32 => sI scr d 133 [.int x25, .int x29] h21 (fun (x31 : Int32) (h30 : aH) => E scr false (d + 1) 177 111 [.ref l0, .int l1, .int l2, .null] [.long (Int32.toInt64 x31), .int 5, .ref x22] h30 K)))))))))))))))))))))))))))))) := go (w := (1, [.ref l0, .int l1, .int l2, .null], [.ref l0], h)) r177_0 rfl rfl (go (w := (2, [.ref l0, .int l1, .int l2, .null], [.int l2, .ref l0], h)) r177_1 rfl rfl (E_vV r177_2 (As := [.ref l0, .int l2]) (rest := []) (cut_n mi137.1 rfl rfl) (rm8_n mi137.2.1 (Nat.le_of_ble_eq_true rfl) (Nat.le_of_ble_eq_true rfl)) mi137.2.2 (fun h1 => go (w := (6, [.ref l0, .int l1, .int l2, .null], [.ref l0], h1)) r177_5 rfl rfl (E_gR r177_6 rfl (fun x3 => E_ic r177_9 (v := 0) (by decide) (go (w := (11, [.ref l0, .int l1, .int l2, .null], [.ref l0, .int 0, .ref x3], h1)) r177_10 rfl rfl (E_gR r177_11 rfl (fun x4 => go (w := (15, [.ref l0, .int l1, .int l2, .null], [.int l2, .ref x4, .int 0, .ref x3], h1)) r177_14 rfl rfl (E_aI r177_15 (fun x5 => E_bip r177_16 (v := 12) (by decide) (E_remc r177_18 (by decide) (go (w := (20, [.ref l0, .int l1, .int l2, .null], [.long (Int32.toInt64 (irm x5 12)), .int 0, .ref x3], h1)) r177_19 rfl rfl (E_wJ r177_20 (fun h6 => go (w := (22, [.ref l0, .int l1, .int l2, .null], [.ref l0], h6)) r177_21 rfl rfl (E_gR r177_22 rfl (fun x7 => E_ic r177_25 (v := 1) (by decide) (go (w := (27, [.ref l0, .int l1, .int l2, .null], [.ref l0, .int 1, .ref x7], h6)) r177_26 rfl rfl (E_gR r177_27 rfl (fun x8 => go (w := (31, [.ref l0, .int l1, .int l2, .null], [.int l2, .ref x8, .int 1, .ref x7], h6)) r177_30 rfl rfl (E_aI r177_31 (fun x9 => E_bip r177_32 (v := 12) (by decide) (E_divc r177_34 (by decide) (go (w := (36, [.ref l0, .int l1, .int l2, .null], [.long (Int32.toInt64 (x9 / 12)), .int 1, .ref x7], h6)) r177_35 rfl rfl (E_wJ r177_36 (fun h10 => go (w := (38, [.ref l0, .int l1, .int l2, .null], [.ref l0], h10)) r177_37 rfl rfl (E_gR r177_38 rfl (fun x11 => E_ic r177_41 (v := 2) (by decide) (go (w := (43, [.ref l0, .int l1, .int l2, .null], [.ref l0, .int 2, .ref x11], h10)) r177_42 rfl rfl (E_gR r177_43 rfl (fun x12 => go (w := (47, [.ref l0, .int l1, .int l2, .null], [.int l2, .ref x12, .int 2, .ref x11], h10)) r177_46 rfl rfl (E_aI r177_47 (fun x13 => go (w := (49, [.ref l0, .int l1, .int l2, .null], [.long (Int32.toInt64 x13), .int 2, .ref x11], h10)) r177_48 rfl rfl (E_wJ r177_49 (fun h14 => go (w := (51, [.ref l0, .int l1, .int l2, .null], [.ref l0], h14)) r177_50 rfl rfl (E_gR r177_51 rfl (fun x15 => E_ic r177_54 (v := 3) (by decide) (go (w := (56, [.ref l0, .int l1, .int l2, .null], [.ref l0, .int 3, .ref x15], h14)) r177_55 rfl rfl (E_gR r177_56 rfl (fun x16 => go (w := (60, [.ref l0, .int l1, .int l2, .null], [.int l2, .ref x16, .int 3, .ref x15], h14)) r177_59 rfl rfl (E_aI r177_60 (fun x17 => go (w := (62, [.ref l0, .int l1, .int l2, .null], [.long (Int32.toInt64 x17), .int 3, .ref x15], h14)) r177_61 rfl rfl (E_wJ r177_62 (fun h18 => go (w := (64, [.ref l0, .int l1, .int l2, .null], [.ref l0], h18)) r177_63 rfl rfl (E_gR r177_64 rfl (fun x19 => E_ic r177_67 (v := 4) (by decide) (go (w := (69, [.ref l0, .int l1, .int l2, .null], [.ref l0, .int 4, .ref x19], h18)) r177_68 rfl rfl (E_gI r177_69 rfl (fun x20 => go (w := (73, [.ref l0, .int l1, .int l2, .null], [.long (Int32.toInt64 x20), .int 4, .ref x19], h18)) r177_72 rfl rfl (E_wJ r177_73 (fun h21 => go (w := (75, [.ref l0, .int l1, .int l2, .null], [.ref l0], h21)) r177_74 rfl rfl (E_gR r177_75 rfl (fun x22 => E_ic r177_78 (v := 5) (by decide) (go (w := (80, [.ref l0, .int l1, .int l2, .null], [.ref l0, .int 5, .ref x22], h21)) r177_79 rfl rfl (E_gI r177_80 rfl (fun x23 => E_i1_ne r177_83 rfl (go (w := (91, [.ref l0, .int l1, .int l2, .null], [.ref l0, .int 5, .ref x22], h21)) r177_90 rfl rfl (E_gR r177_91 rfl (fun x24 => go (w := (95, [.ref l0, .int l1, .int l2, .null], [.int l2, .ref x24, .int 5, .ref x22], h21)) r177_94 rfl rfl (E_aI r177_95 (fun x25 => go (w := (97, [.ref l0, .int l1, .int l2, .null], [.ref l0, .int x25, .int 5, .ref x22], h21)) r177_96 rfl rfl (E_gR r177_97 rfl (fun x26 => go (w := (101, [.ref l0, .int l1, .int l2, .null], [.ref l0, .ref x26, .int x25, .int 5, .ref x22], h21)) r177_100 rfl rfl (E_gR r177_101 rfl (fun x27 => E_ic r177_104 (v := 0) (by decide) (E_aI r177_105 (fun x28 => E_aI r177_106 (fun x29 => E_sI r177_107 (As := [.int x25, .int x29]) (rest := [.int 5, .ref x22]) (cut_n mi133.1 rfl rfl) (rm8_n mi133.2.1 (Nat.le_of_ble_eq_true rfl) (Nat.le_of_ble_eq_true rfl)) mi133.2.2 (fun x31 h30 => go (w := (111, [.ref l0, .int l1, .int l2, .null], [.long (Int32.toInt64 x31), .int 5, .ref x22], h30)) r177_110 rfl rfl (rfl)))))))))))))) (E_lc r177_86 (v := 0) (by decide) (E_gt r177_87 rfl (rfl))))))))))))))))))))))))))))))))))))))))))))))))))))))))))
theorem b177_111 (d : Nat) (l0 : Nat) (l1 : Int32) (l2 : Int32) (s0 : Int64) (s1 : Int32) (s2 : Nat) (h : aH) (K : Option Value → aH → Prop) : E scr false (d + 1) 177 111 [.ref l0, .int l1, .int l2, .null] [.long s0, .int s1, .ref s2] h K = wJ h s2 s1 s0 (fun h1 : aH => gR scr h1 l0 9 37 (fun x2 : Nat => gR scr h1 l0 9 15 (fun x3 : Nat => gR scr h1 l0 9 10 (fun x4 : Nat => aI scr h1 x4 l2 (fun x5 : Int32 => aI scr h1 x3 x5 (fun x6 : Int32 => wJ h1 x2 6 ((Int32.toInt64 x6)) (fun h7 : aH => gR scr h7 l0 9 37 (fun x8 : Nat => vI scr d 176 [.ref l0, .int l2] h7 (fun (x10 : Int32) (h9 : aH) => wJ h9 x8 7 ((Int32.toInt64 x10)) (fun h11 : aH => gR scr h11 l0 9 37 (fun x12 : Nat => wJ h11 x12 8 1 (fun h13 : aH => E scr false (d + 1) 177 154 [.ref l0, .int l1, .int l2, .int 0] [] h13 K)))))))))))) := E_wJ r177_111 (fun h1 => go (w := (113, [.ref l0, .int l1, .int l2, .null], [.ref l0], h1)) r177_112 rfl rfl (E_gR r177_113 rfl (fun x2 => E_bip r177_116 (v := 6) (by decide) (go (w := (119, [.ref l0, .int l1, .int l2, .null], [.ref l0, .int 6, .ref x2], h1)) r177_118 rfl rfl (E_gR r177_119 rfl (fun x3 => go (w := (123, [.ref l0, .int l1, .int l2, .null], [.ref l0, .ref x3, .int 6, .ref x2], h1)) r177_122 rfl rfl (E_gR r177_123 rfl (fun x4 => go (w := (127, [.ref l0, .int l1, .int l2, .null], [.int l2, .ref x4, .ref x3, .int 6, .ref x2], h1)) r177_126 rfl rfl (E_aI r177_127 (fun x5 => E_aI r177_128 (fun x6 => go (w := (130, [.ref l0, .int l1, .int l2, .null], [.long (Int32.toInt64 x6), .int 6, .ref x2], h1)) r177_129 rfl rfl (E_wJ r177_130 (fun h7 => go (w := (132, [.ref l0, .int l1, .int l2, .null], [.ref l0], h7)) r177_131 rfl rfl (E_gR r177_132 rfl (fun x8 => E_bip r177_135 (v := 7) (by decide) (go (w := (138, [.ref l0, .int l1, .int l2, .null], [.ref l0, .int 7, .ref x8], h7)) r177_137 rfl rfl (go (w := (139, [.ref l0, .int l1, .int l2, .null], [.int l2, .ref l0, .int 7, .ref x8], h7)) r177_138 rfl rfl (E_vI r177_139 (As := [.ref l0, .int l2]) (rest := [.int 7, .ref x8]) (cut_n mi176.1 rfl rfl) (rm8_n mi176.2.1 (Nat.le_of_ble_eq_true rfl) (Nat.le_of_ble_eq_true rfl)) mi176.2.2 (fun x10 h9 => go (w := (143, [.ref l0, .int l1, .int l2, .null], [.long (Int32.toInt64 x10), .int 7, .ref x8], h9)) r177_142 rfl rfl (E_wJ r177_143 (fun h11 => go (w := (145, [.ref l0, .int l1, .int l2, .null], [.ref l0], h11)) r177_144 rfl rfl (E_gR r177_145 rfl (fun x12 => E_bip r177_148 (v := 8) (by decide) (E_lc r177_150 (v := 1) (by decide) (E_wJ r177_151 (fun h13 => E_ic r177_152 (v := 0) (by decide) (go (w := (154, [.ref l0, .int l1, .int l2, .int 0], [], h13)) r177_153 rfl rfl (rfl))))))))))))))))))))))))))))
theorem b177_154 (d : Nat) (l0 : Nat) (l1 : Int32) (l2 : Int32) (l3 : Int32) (h : aH) (K : Option Value → aH → Prop) : E scr false d 177 154 [.ref l0, .int l1, .int l2, .int l3] [] h K = gI scr h l0 9 18 (fun x1 : Int32 => (if x1 ≤ l3 then E scr false d 177 222 [.ref l0, .int l1, .int l2, .int (12 * l1)] [] h K else gR scr h l0 9 37 (fun x2 : Nat => gR scr h l0 9 17 (fun x3 : Nat => aI scr h x3 l3 (fun x4 : Int32 => (if 12 ≤ x4 then E scr false d 177 203 [.ref l0, .int l1, .int l2, .int l3] [.int 8, .ref x2] h K else gR scr h l0 9 3 (fun x5 : Nat => gR scr h l0 9 17 (fun x6 : Nat => aI scr h x6 l3 (fun x7 : Int32 => aI scr h x5 x7 (fun x8 : Int32 => gR scr h l0 9 3 (fun x9 : Nat => aI scr h x9 l2 (fun x10 : Int32 => (if x8 ≤ x10 then E scr false d 177 203 [.ref l0, .int l1, .int l2, .int l3] [.int 8, .ref x2] h K else E scr false d 177 210 [.ref l0, .int l1, .int l2, .int l3] [.long 0, .int 8, .ref x2] h K))))))))))))) := go (w := (155, [.ref l0, .int l1, .int l2, .int l3], [.int l3], h)) r177_154 rfl rfl (go (w := (156, [.ref l0, .int l1, .int l2, .int l3], [.ref l0, .int l3], h)) r177_155 rfl rfl (E_gI r177_156 rfl (fun x1 => E_i2_ge r177_159 rfl (E_bip r177_217 (v := 12) (by decide) (go (w := (220, [.ref l0, .int l1, .int l2, .int l3], [.int l1, .int 12], h)) r177_219 rfl rfl (go (w := (221, [.ref l0, .int l1, .int l2, .int l3], [.int (12 * l1)], h)) r177_220 rfl rfl (go (w := (222, [.ref l0, .int l1, .int l2, .int (12 * l1)], [], h)) r177_221 rfl rfl (rfl))))) (go (w := (163, [.ref l0, .int l1, .int l2, .int l3], [.ref l0], h)) r177_162 rfl rfl (E_gR r177_163 rfl (fun x2 => E_bip r177_166 (v := 8) (by decide) (go (w := (169, [.ref l0, .int l1, .int l2, .int l3], [.ref l0, .int 8, .ref x2], h)) r177_168 rfl rfl (E_gR r177_169 rfl (fun x3 => go (w := (173, [.ref l0, .int l1, .int l2, .int l3], [.int l3, .ref x3, .int 8, .ref x2], h)) r177_172 rfl rfl (E_aI r177_173 (fun x4 => E_bip r177_174 (v := 12) (by decide) (E_i2_ge r177_176 rfl (rfl) (go (w := (180, [.ref l0, .int l1, .int l2, .int l3], [.ref l0, .int 8, .ref x2], h)) r177_179 rfl rfl (E_gR r177_180 rfl (fun x5 => go (w := (184, [.ref l0, .int l1, .int l2, .int l3], [.ref l0, .ref x5, .int 8, .ref x2], h)) r177_183 rfl rfl (E_gR r177_184 rfl (fun x6 => go (w := (188, [.ref l0, .int l1, .int l2, .int l3], [.int l3, .ref x6, .ref x5, .int 8, .ref x2], h)) r177_187 rfl rfl (E_aI r177_188 (fun x7 => E_aI r177_189 (fun x8 => go (w := (191, [.ref l0, .int l1, .int l2, .int l3], [.ref l0, .int x8, .int 8, .ref x2], h)) r177_190 rfl rfl (E_gR r177_191 rfl (fun x9 => go (w := (195, [.ref l0, .int l1, .int l2, .int l3], [.int l2, .ref x9, .int x8, .int 8, .ref x2], h)) r177_194 rfl rfl (E_aI r177_195 (fun x10 => E_i2_le r177_196 rfl (rfl) (E_lc r177_199 (v := 0) (by decide) (E_gt r177_200 rfl (rfl)))))))))))))))))))))))))))
theorem b177_203 (d : Nat) (l0 : Nat) (l1 : Int32) (l2 : Int32) (l3 : Int32) (s0 : Int32) (s1 : Nat) (h : aH) (K : Option Value → aH → Prop) : E scr false d 177 203 [.ref l0, .int l1, .int l2, .int l3] [.int s0, .ref s1] h K = gR scr h l0 9 37 (fun x1 : Nat => aJ h x1 8 (fun x2 : Int64 => E scr false d 177 210 [.ref l0, .int l1, .int l2, .int l3] [.long x2, .int s0, .ref s1] h K)) := go (w := (204, [.ref l0, .int l1, .int l2, .int l3], [.ref l0, .int s0, .ref s1], h)) r177_203 rfl rfl (E_gR r177_204 rfl (fun x1 => E_bip r177_207 (v := 8) (by decide) (E_aJ r177_209 (fun x2 => rfl))))
theorem b177_210 (d : Nat) (l0 : Nat) (l1 : Int32) (l2 : Int32) (l3 : Int32) (s0 : Int64) (s1 : Int32) (s2 : Nat) (h : aH) (K : Option Value → aH → Prop) : E scr false d 177 210 [.ref l0, .int l1, .int l2, .int l3] [.long s0, .int s1, .ref s2] h K = wJ h s2 s1 s0 (fun h1 : aH => E scr false d 177 154 [.ref l0, .int l1, .int l2, .int (l3 + 1)] [] h1 K) := E_wJ r177_210 (fun h1 => E_inc r177_211 (c := 1) rfl (by decide) (L' := [.ref l0, .int l1, .int l2, .int (l3 + 1)]) rfl (E_gt r177_214 rfl (rfl)))
theorem b177_222 (d : Nat) (l0 : Nat) (l1 : Int32) (l2 : Int32) (l3 : Int32) (h : aH) (K : Option Value → aH → Prop) : E scr false (d + 1) 177 222 [.ref l0, .int l1, .int l2, .int l3] [] h K = gR scr h l0 9 32 (fun x1 : Nat => aI scr h x1 l1 (fun x2 : Int32 => (if ((12 * l1) + x2) ≤ l3 then K (some (.int (-1))) h else gR scr h l0 9 34 (fun x3 : Nat => aI scr h x3 l3 (fun x4 : Int32 => gR scr h l0 9 35 (fun x5 : Nat => aI scr h x5 l3 (fun x6 : Int32 => (if x4 = x6 then E scr false (d + 1) 177 274 [.ref l0, .int l1, .int l2, .int l3] [] h K else gR scr h l0 9 34 (fun x7 : Nat => aI scr h x7 l3 (fun x8 : Int32 => gR scr h l0 9 35 (fun x9 : Nat => aI scr h x9 l3 (fun x10 : Int32 => vJ scr d 175 [.ref l0, .int l1, .int x8, .int x10] h (fun (x12 : Int64) (h11 : aH) => (if (lg_cmp x12 1) = 0 then E scr false (d + 1) 177 274 [.ref l0, .int l1, .int l2, .int l3] [] h11 K else E scr false (d + 1) 177 222 [.ref l0, .int l1, .int l2, .int (l3 + 1)] [] h11 K)))))))))))))) := go (w := (223, [.ref l0, .int l1, .int l2, .int l3], [.int l3], h)) r177_222 rfl rfl (E_bip r177_223 (v := 12) (by decide) (go (w := (226, [.ref l0, .int l1, .int l2, .int l3], [.int l1, .int 12, .int l3], h)) r177_225 rfl rfl (go (w := (227, [.ref l0, .int l1, .int l2, .int l3], [.int (12 * l1), .int l3], h)) r177_226 rfl rfl (go (w := (228, [.ref l0, .int l1, .int l2, .int l3], [.ref l0, .int (12 * l1), .int l3], h)) r177_227 rfl rfl (E_gR r177_228 rfl (fun x1 => go (w := (232, [.ref l0, .int l1, .int l2, .int l3], [.int l1, .ref x1, .int (12 * l1), .int l3], h)) r177_231 rfl rfl (E_aI r177_232 (fun x2 => go (w := (234, [.ref l0, .int l1, .int l2, .int l3], [.int ((12 * l1) + x2), .int l3], h)) r177_233 rfl rfl (E_i2_ge r177_234 rfl (E_ic r177_317 (v := (-1)) (by decide) (E_ri r177_318 (mq177))) (go (w := (238, [.ref l0, .int l1, .int l2, .int l3], [.ref l0], h)) r177_237 rfl rfl (E_gR r177_238 rfl (fun x3 => go (w := (242, [.ref l0, .int l1, .int l2, .int l3], [.int l3, .ref x3], h)) r177_241 rfl rfl (E_aI r177_242 (fun x4 => go (w := (244, [.ref l0, .int l1, .int l2, .int l3], [.ref l0, .int x4], h)) r177_243 rfl rfl (E_gR r177_244 rfl (fun x5 => go (w := (248, [.ref l0, .int l1, .int l2, .int l3], [.int l3, .ref x5, .int x4], h)) r177_247 rfl rfl (E_aI r177_248 (fun x6 => E_i2_eq r177_249 rfl (rfl) (go (w := (253, [.ref l0, .int l1, .int l2, .int l3], [.ref l0], h)) r177_252 rfl rfl (go (w := (254, [.ref l0, .int l1, .int l2, .int l3], [.int l1, .ref l0], h)) r177_253 rfl rfl (go (w := (255, [.ref l0, .int l1, .int l2, .int l3], [.ref l0, .int l1, .ref l0], h)) r177_254 rfl rfl (E_gR r177_255 rfl (fun x7 => go (w := (259, [.ref l0, .int l1, .int l2, .int l3], [.int l3, .ref x7, .int l1, .ref l0], h)) r177_258 rfl rfl (E_aI r177_259 (fun x8 => go (w := (261, [.ref l0, .int l1, .int l2, .int l3], [.ref l0, .int x8, .int l1, .ref l0], h)) r177_260 rfl rfl (E_gR r177_261 rfl (fun x9 => go (w := (265, [.ref l0, .int l1, .int l2, .int l3], [.int l3, .ref x9, .int x8, .int l1, .ref l0], h)) r177_264 rfl rfl (E_aI r177_265 (fun x10 => E_vJ r177_266 (As := [.ref l0, .int l1, .int x8, .int x10]) (rest := []) (cut_n mi175.1 rfl rfl) (rm8_n mi175.2.1 (Nat.le_of_ble_eq_true rfl) (Nat.le_of_ble_eq_true rfl)) mi175.2.2 (fun x12 h11 => E_lc r177_269 (v := 1) (by decide) (go (w := (271, [.ref l0, .int l1, .int l2, .int l3], [.int (lg_cmp x12 1)], h11)) r177_270 rfl rfl (E_i1_ne r177_271 rfl (E_inc r177_311 (c := 1) rfl (by decide) (L' := [.ref l0, .int l1, .int l2, .int (l3 + 1)]) rfl (E_gt r177_314 rfl (rfl))) (rfl)))))))))))))))))))))))))))))))))
theorem b177_274 (d : Nat) (l0 : Nat) (l1 : Int32) (l2 : Int32) (l3 : Int32) (h : aH) (K : Option Value → aH → Prop) : E scr false (d + 1) 177 274 [.ref l0, .int l1, .int l2, .int l3] [] h K = gR scr h l0 9 33 (fun x1 : Nat => aI scr h x1 l3 (fun x2 : Int32 => gI scr h l0 9 18 (fun x3 : Int32 => sI scr d 121 [.long (Int32.toInt64 x2), .long 1, .long (Int32.toInt64 x3)] h (fun (x5 : Int32) (h4 : aH) => (if x5 = 0 then K (some (.int (-1))) h4 else gR scr h4 l0 9 17 (fun x6 : Nat => gR scr h4 l0 9 33 (fun x7 : Nat => aI scr h4 x7 l3 (fun x8 : Int32 => aI scr h4 x6 ((x8 - 1)) (fun x9 : Int32 => K (some (.int x9)) h4))))))))) := go (w := (275, [.ref l0, .int l1, .int l2, .int l3], [.ref l0], h)) r177_274 rfl rfl (E_gR r177_275 rfl (fun x1 => go (w := (279, [.ref l0, .int l1, .int l2, .int l3], [.int l3, .ref x1], h)) r177_278 rfl rfl (E_aI r177_279 (fun x2 => go (w := (281, [.ref l0, .int l1, .int l2, .int l3], [.long (Int32.toInt64 x2)], h)) r177_280 rfl rfl (E_lc r177_281 (v := 1) (by decide) (go (w := (283, [.ref l0, .int l1, .int l2, .int l3], [.ref l0, .long 1, .long (Int32.toInt64 x2)], h)) r177_282 rfl rfl (E_gI r177_283 rfl (fun x3 => go (w := (287, [.ref l0, .int l1, .int l2, .int l3], [.long (Int32.toInt64 x3), .long 1, .long (Int32.toInt64 x2)], h)) r177_286 rfl rfl (E_sI r177_287 (As := [.long (Int32.toInt64 x2), .long 1, .long (Int32.toInt64 x3)]) (rest := []) (cut_n mi121.1 rfl rfl) (rm8_n mi121.2.1 (Nat.le_of_ble_eq_true rfl) (Nat.le_of_ble_eq_true rfl)) mi121.2.2 (fun x5 h4 => E_i1_eq r177_290 rfl (E_ic r177_309 (v := (-1)) (by decide) (E_ri r177_310 (mq177))) (go (w := (294, [.ref l0, .int l1, .int l2, .int l3], [.ref l0], h4)) r177_293 rfl rfl (E_gR r177_294 rfl (fun x6 => go (w := (298, [.ref l0, .int l1, .int l2, .int l3], [.ref l0, .ref x6], h4)) r177_297 rfl rfl (E_gR r177_298 rfl (fun x7 => go (w := (302, [.ref l0, .int l1, .int l2, .int l3], [.int l3, .ref x7, .ref x6], h4)) r177_301 rfl rfl (E_aI r177_302 (fun x8 => E_ic r177_303 (v := 1) (by decide) (go (w := (305, [.ref l0, .int l1, .int l2, .int l3], [.int (x8 - 1), .ref x6], h4)) r177_304 rfl rfl (E_aI r177_305 (fun x9 => E_gt r177_306 rfl (E_ri r177_310 (mq177))))))))))))))))))))))
-- 178 SecondNearestModel.wayTo(II)I
theorem mq178 : mRet 178 = (some .int) := by decide +kernel
theorem r178_0 : rowAt 178 0 = some (.iconst (-1), 1, 0, 0) := by decide +kernel
theorem r178_1 : rowAt 178 1 = some (.istore_n 3, 1, 0, 0) := by decide +kernel
theorem r178_2 : rowAt 178 2 = some (.aload_n 0, 1, 0, 0) := by decide +kernel
theorem r178_3 : rowAt 178 3 = some (.getfield 37, 3, 9, 10) := by decide +kernel
theorem r178_6 : rowAt 178 6 = some (.iload_n 1, 1, 0, 0) := by decide +kernel
theorem r178_7 : rowAt 178 7 = some (.iaload, 1, 0, 0) := by decide +kernel
theorem r178_8 : rowAt 178 8 = some (.aload_n 0, 1, 0, 0) := by decide +kernel
theorem r178_9 : rowAt 178 9 = some (.getfield 37, 3, 9, 10) := by decide +kernel
theorem r178_12 : rowAt 178 12 = some (.iload_n 2, 1, 0, 0) := by decide +kernel
theorem r178_13 : rowAt 178 13 = some (.iaload, 1, 0, 0) := by decide +kernel
theorem r178_14 : rowAt 178 14 = some (.invokestatic 186, 3, 133, 1) := by decide +kernel
theorem r178_17 : rowAt 178 17 = some (.istore 4, 2, 0, 0) := by decide +kernel
theorem r178_19 : rowAt 178 19 = some (.iconst 0, 1, 0, 0) := by decide +kernel
theorem r178_20 : rowAt 178 20 = some (.istore 5, 2, 0, 0) := by decide +kernel
theorem r178_22 : rowAt 178 22 = some (.iload 5, 2, 0, 0) := by decide +kernel
theorem r178_24 : rowAt 178 24 = some (.bipush 8, 2, 0, 0) := by decide +kernel
theorem r178_26 : rowAt 178 26 = some (.if_icmp .ge 70, 3, 0, 0) := by decide +kernel
theorem r178_29 : rowAt 178 29 = some (.aload_n 0, 1, 0, 0) := by decide +kernel
theorem r178_30 : rowAt 178 30 = some (.aload_n 0, 1, 0, 0) := by decide +kernel
theorem r178_31 : rowAt 178 31 = some (.getfield 37, 3, 9, 10) := by decide +kernel
theorem r178_34 : rowAt 178 34 = some (.iload_n 1, 1, 0, 0) := by decide +kernel
theorem r178_35 : rowAt 178 35 = some (.iaload, 1, 0, 0) := by decide +kernel
theorem r178_36 : rowAt 178 36 = some (.iload 5, 2, 0, 0) := by decide +kernel
theorem r178_38 : rowAt 178 38 = some (.invokevirtual 183, 3, 132, 0) := by decide +kernel
theorem r178_41 : rowAt 178 41 = some (.istore 6, 2, 0, 0) := by decide +kernel
theorem r178_43 : rowAt 178 43 = some (.iload 6, 2, 0, 0) := by decide +kernel
theorem r178_45 : rowAt 178 45 = some (.iconst (-1), 1, 0, 0) := by decide +kernel
theorem r178_46 : rowAt 178 46 = some (.if_icmp .eq 44, 3, 0, 0) := by decide +kernel
theorem r178_49 : rowAt 178 49 = some (.aload_n 0, 1, 0, 0) := by decide +kernel
theorem r178_50 : rowAt 178 50 = some (.iload 6, 2, 0, 0) := by decide +kernel
theorem r178_52 : rowAt 178 52 = some (.invokevirtual 389, 3, 131, 0) := by decide +kernel
theorem r178_55 : rowAt 178 55 = some (.ifCond .eq 35, 3, 0, 0) := by decide +kernel
theorem r178_58 : rowAt 178 58 = some (.iload 6, 2, 0, 0) := by decide +kernel
theorem r178_60 : rowAt 178 60 = some (.aload_n 0, 1, 0, 0) := by decide +kernel
theorem r178_61 : rowAt 178 61 = some (.getfield 37, 3, 9, 10) := by decide +kernel
theorem r178_64 : rowAt 178 64 = some (.iload_n 2, 1, 0, 0) := by decide +kernel
theorem r178_65 : rowAt 178 65 = some (.iaload, 1, 0, 0) := by decide +kernel
theorem r178_66 : rowAt 178 66 = some (.invokestatic 186, 3, 133, 1) := by decide +kernel
theorem r178_69 : rowAt 178 69 = some (.iload 4, 2, 0, 0) := by decide +kernel
theorem r178_71 : rowAt 178 71 = some (.if_icmp .ge 19, 3, 0, 0) := by decide +kernel
theorem r178_74 : rowAt 178 74 = some (.iload 5, 2, 0, 0) := by decide +kernel
theorem r178_76 : rowAt 178 76 = some (.istore_n 3, 1, 0, 0) := by decide +kernel
theorem r178_77 : rowAt 178 77 = some (.iload 6, 2, 0, 0) := by decide +kernel
theorem r178_79 : rowAt 178 79 = some (.aload_n 0, 1, 0, 0) := by decide +kernel
theorem r178_80 : rowAt 178 80 = some (.getfield 37, 3, 9, 10) := by decide +kernel
theorem r178_83 : rowAt 178 83 = some (.iload_n 2, 1, 0, 0) := by decide +kernel
theorem r178_84 : rowAt 178 84 = some (.iaload, 1, 0, 0) := by decide +kernel
theorem r178_85 : rowAt 178 85 = some (.invokestatic 186, 3, 133, 1) := by decide +kernel
theorem r178_88 : rowAt 178 88 = some (.istore 4, 2, 0, 0) := by decide +kernel
theorem r178_90 : rowAt 178 90 = some (.iinc 5 1, 3, 0, 0) := by decide +kernel
theorem r178_93 : rowAt 178 93 = some (.goto (-71), 3, 0, 0) := by decide +kernel
theorem r178_96 : rowAt 178 96 = some (.iload_n 3, 1, 0, 0) := by decide +kernel
theorem r178_97 : rowAt 178 97 = some (.ireturn, 1, 0, 0) := by decide +kernel
theorem en178 (a0 : Nat) (a1 : Int32) (a2 : Int32) : iniL 178 [.ref a0, .int a1, .int a2] = [.ref a0, .int a1, .int a2, .null, .null, .null, .null] := ini_n mi178 rfl
theorem b178_0 (d : Nat) (l0 : Nat) (l1 : Int32) (l2 : Int32) (h : aH) (K : Option Value → aH → Prop) : E scr false (d + 1) 178 0 [.ref l0, .int l1, .int l2, .null, .null, .null, .null] [] h K = gR scr h l0 9 10 (fun x1 : Nat => aI scr h x1 l1 (fun x2 : Int32 => gR scr h l0 9 10 (fun x3 : Nat => aI scr h x3 l2 (fun x4 : Int32 => sI scr d 133 [.int x2, .int x4] h (fun (x6 : Int32) (h5 : aH) => E scr false (d + 1) 178 22 [.ref l0, .int l1, .int l2, .int (-1), .int x6, .int 0, .null] [] h5 K))))) := E_ic r178_0 (v := (-1)) (by decide) (go (w := (2, [.ref l0, .int l1, .int l2, .int (-1), .null, .null, .null], [], h)) r178_1 rfl rfl (go (w := (3, [.ref l0, .int l1, .int l2, .int (-1), .null, .null, .null], [.ref l0], h)) r178_2 rfl rfl (E_gR r178_3 rfl (fun x1 => go (w := (7, [.ref l0, .int l1, .int l2, .int (-1), .null, .null, .null], [.int l1, .ref x1], h)) r178_6 rfl rfl (E_aI r178_7 (fun x2 => go (w := (9, [.ref l0, .int l1, .int l2, .int (-1), .null, .null, .null], [.ref l0, .int x2], h)) r178_8 rfl rfl (E_gR r178_9 rfl (fun x3 => go (w := (13, [.ref l0, .int l1, .int l2, .int (-1), .null, .null, .null], [.int l2, .ref x3, .int x2], h)) r178_12 rfl rfl (E_aI r178_13 (fun x4 => E_sI r178_14 (As := [.int x2, .int x4]) (rest := []) (cut_n mi133.1 rfl rfl) (rm8_n mi133.2.1 (Nat.le_of_ble_eq_true rfl) (Nat.le_of_ble_eq_true rfl)) mi133.2.2 (fun x6 h5 => go (w := (19, [.ref l0, .int l1, .int l2, .int (-1), .int x6, .null, .null], [], h5)) r178_17 rfl rfl (E_ic r178_19 (v := 0) (by decide) (go (w := (22, [.ref l0, .int l1, .int l2, .int (-1), .int x6, .int 0, .null], [], h5)) r178_20 rfl rfl (rfl))))))))))))))
theorem b178_22 (d : Nat) (l0 : Nat) (l1 : Int32) (l2 : Int32) (l3 : Int32) (l4 : Int32) (l5 : Int32) (l6 : Value) (h : aH) (K : Option Value → aH → Prop) : E scr false (d + 1) 178 22 [.ref l0, .int l1, .int l2, .int l3, .int l4, .int l5, l6] [] h K = (if 8 ≤ l5 then K (some (.int l3)) h else gR scr h l0 9 10 (fun x1 : Nat => aI scr h x1 l1 (fun x2 : Int32 => vI scr d 132 [.ref l0, .int x2, .int l5] h (fun (x4 : Int32) (h3 : aH) => (if x4 = (-1) then E scr false (d + 1) 178 90 [.ref l0, .int l1, .int l2, .int l3, .int l4, .int l5, .int x4] [] h3 K else vI scr d 131 [.ref l0, .int x4] h3 (fun (x6 : Int32) (h5 : aH) => (if x6 = 0 then E scr false (d + 1) 178 90 [.ref l0, .int l1, .int l2, .int l3, .int l4, .int l5, .int x4] [] h5 K else gR scr h5 l0 9 10 (fun x7 : Nat => aI scr h5 x7 l2 (fun x8 : Int32 => sI scr d 133 [.int x4, .int x8] h5 (fun (x10 : Int32) (h9 : aH) => (if l4 ≤ x10 then E scr false (d + 1) 178 90 [.ref l0, .int l1, .int l2, .int l3, .int l4, .int l5, .int x4] [] h9 K else gR scr h9 l0 9 10 (fun x11 : Nat => aI scr h9 x11 l2 (fun x12 : Int32 => sI scr d 133 [.int x4, .int x12] h9 (fun (x14 : Int32) (h13 : aH) => E scr false (d + 1) 178 90 [.ref l0, .int l1, .int l2, .int l5, .int x14, .int l5, .int x4] [] h13 K)))))))))))))) := go (w := (24, [.ref l0, .int l1, .int l2, .int l3, .int l4, .int l5, l6], [.int l5], h)) r178_22 rfl rfl (E_bip r178_24 (v := 8) (by decide) (E_i2_ge r178_26 rfl (go (w := (97, [.ref l0, .int l1, .int l2, .int l3, .int l4, .int l5, l6], [.int l3], h)) r178_96 rfl rfl (E_ri r178_97 (mq178))) (go (w := (30, [.ref l0, .int l1, .int l2, .int l3, .int l4, .int l5, l6], [.ref l0], h)) r178_29 rfl rfl (go (w := (31, [.ref l0, .int l1, .int l2, .int l3, .int l4, .int l5, l6], [.ref l0, .ref l0], h)) r178_30 rfl rfl (E_gR r178_31 rfl (fun x1 => go (w := (35, [.ref l0, .int l1, .int l2, .int l3, .int l4, .int l5, l6], [.int l1, .ref x1, .ref l0], h)) r178_34 rfl rfl (E_aI r178_35 (fun x2 => go (w := (38, [.ref l0, .int l1, .int l2, .int l3, .int l4, .int l5, l6], [.int l5, .int x2, .ref l0], h)) r178_36 rfl rfl (E_vI r178_38 (As := [.ref l0, .int x2, .int l5]) (rest := []) (cut_n mi132.1 rfl rfl) (rm8_n mi132.2.1 (Nat.le_of_ble_eq_true rfl) (Nat.le_of_ble_eq_true rfl)) mi132.2.2 (fun x4 h3 => go (w := (43, [.ref l0, .int l1, .int l2, .int l3, .int l4, .int l5, .int x4], [], h3)) r178_41 rfl rfl (go (w := (45, [.ref l0, .int l1, .int l2, .int l3, .int l4, .int l5, .int x4], [.int x4], h3)) r178_43 rfl rfl (E_ic r178_45 (v := (-1)) (by decide) (E_i2_eq r178_46 rfl (rfl) (go (w := (50, [.ref l0, .int l1, .int l2, .int l3, .int l4, .int l5, .int x4], [.ref l0], h3)) r178_49 rfl rfl (go (w := (52, [.ref l0, .int l1, .int l2, .int l3, .int l4, .int l5, .int x4], [.int x4, .ref l0], h3)) r178_50 rfl rfl (E_vI r178_52 (As := [.ref l0, .int x4]) (rest := []) (cut_n mi131.1 rfl rfl) (rm8_n mi131.2.1 (Nat.le_of_ble_eq_true rfl) (Nat.le_of_ble_eq_true rfl)) mi131.2.2 (fun x6 h5 => E_i1_eq r178_55 rfl (rfl) (go (w := (60, [.ref l0, .int l1, .int l2, .int l3, .int l4, .int l5, .int x4], [.int x4], h5)) r178_58 rfl rfl (go (w := (61, [.ref l0, .int l1, .int l2, .int l3, .int l4, .int l5, .int x4], [.ref l0, .int x4], h5)) r178_60 rfl rfl (E_gR r178_61 rfl (fun x7 => go (w := (65, [.ref l0, .int l1, .int l2, .int l3, .int l4, .int l5, .int x4], [.int l2, .ref x7, .int x4], h5)) r178_64 rfl rfl (E_aI r178_65 (fun x8 => E_sI r178_66 (As := [.int x4, .int x8]) (rest := []) (cut_n mi133.1 rfl rfl) (rm8_n mi133.2.1 (Nat.le_of_ble_eq_true rfl) (Nat.le_of_ble_eq_true rfl)) mi133.2.2 (fun x10 h9 => go (w := (71, [.ref l0, .int l1, .int l2, .int l3, .int l4, .int l5, .int x4], [.int l4, .int x10], h9)) r178_69 rfl rfl (E_i2_ge r178_71 rfl (rfl) (go (w := (76, [.ref l0, .int l1, .int l2, .int l3, .int l4, .int l5, .int x4], [.int l5], h9)) r178_74 rfl rfl (go (w := (77, [.ref l0, .int l1, .int l2, .int l5, .int l4, .int l5, .int x4], [], h9)) r178_76 rfl rfl (go (w := (79, [.ref l0, .int l1, .int l2, .int l5, .int l4, .int l5, .int x4], [.int x4], h9)) r178_77 rfl rfl (go (w := (80, [.ref l0, .int l1, .int l2, .int l5, .int l4, .int l5, .int x4], [.ref l0, .int x4], h9)) r178_79 rfl rfl (E_gR r178_80 rfl (fun x11 => go (w := (84, [.ref l0, .int l1, .int l2, .int l5, .int l4, .int l5, .int x4], [.int l2, .ref x11, .int x4], h9)) r178_83 rfl rfl (E_aI r178_84 (fun x12 => E_sI r178_85 (As := [.int x4, .int x12]) (rest := []) (cut_n mi133.1 rfl rfl) (rm8_n mi133.2.1 (Nat.le_of_ble_eq_true rfl) (Nat.le_of_ble_eq_true rfl)) mi133.2.2 (fun x14 h13 => go (w := (90, [.ref l0, .int l1, .int l2, .int l5, .int x14, .int l5, .int x4], [], h13)) r178_88 rfl rfl (rfl)))))))))))))))))))))))))))))))))))
theorem b178_90 (d : Nat) (l0 : Nat) (l1 : Int32) (l2 : Int32) (l3 : Int32) (l4 : Int32) (l5 : Int32) (l6 : Int32) (h : aH) (K : Option Value → aH → Prop) : E scr false d 178 90 [.ref l0, .int l1, .int l2, .int l3, .int l4, .int l5, .int l6] [] h K = E scr false d 178 22 [.ref l0, .int l1, .int l2, .int l3, .int l4, .int (l5 + 1), .int l6] [] h K := E_inc r178_90 (c := 1) rfl (by decide) (L' := [.ref l0, .int l1, .int l2, .int l3, .int l4, .int (l5 + 1), .int l6]) rfl (E_gt r178_93 rfl (rfl))
-- 179 SecondNearestModel.turn(II)V
theorem mq179 : mRet 179 = none := by decide +kernel
theorem r179_0 : rowAt 179 0 = some (.aload_n 0, 1, 0, 0) := by decide +kernel
theorem r179_1 : rowAt 179 1 = some (.iload_n 1, 1, 0, 0) := by decide +kernel
theorem r179_2 : rowAt 179 2 = some (.iload_n 2, 1, 0, 0) := by decide +kernel
theorem r179_3 : rowAt 179 3 = some (.invokevirtual 392, 3, 177, 0) := by decide +kernel
theorem r179_6 : rowAt 179 6 = some (.istore_n 3, 1, 0, 0) := by decide +kernel
theorem r179_7 : rowAt 179 7 = some (.aload_n 0, 1, 0, 0) := by decide +kernel
theorem r179_8 : rowAt 179 8 = some (.getfield 97, 3, 9, 39) := by decide +kernel
theorem r179_11 : rowAt 179 11 = some (.iload_n 2, 1, 0, 0) := by decide +kernel
theorem r179_12 : rowAt 179 12 = some (.iload_n 3, 1, 0, 0) := by decide +kernel
theorem r179_13 : rowAt 179 13 = some (.iastore, 1, 0, 0) := by decide +kernel
theorem r179_14 : rowAt 179 14 = some (.iload_n 3, 1, 0, 0) := by decide +kernel
theorem r179_15 : rowAt 179 15 = some (.iconst (-1), 1, 0, 0) := by decide +kernel
theorem r179_16 : rowAt 179 16 = some (.if_icmp .ne 7, 3, 0, 0) := by decide +kernel
theorem r179_19 : rowAt 179 19 = some (.iconst (-1), 1, 0, 0) := by decide +kernel
theorem r179_20 : rowAt 179 20 = some (.goto 9, 3, 0, 0) := by decide +kernel
theorem r179_23 : rowAt 179 23 = some (.aload_n 0, 1, 0, 0) := by decide +kernel
theorem r179_24 : rowAt 179 24 = some (.iload_n 2, 1, 0, 0) := by decide +kernel
theorem r179_25 : rowAt 179 25 = some (.iload_n 3, 1, 0, 0) := by decide +kernel
theorem r179_26 : rowAt 179 26 = some (.invokevirtual 395, 3, 178, 0) := by decide +kernel
theorem r179_29 : rowAt 179 29 = some (.istore 4, 2, 0, 0) := by decide +kernel
theorem r179_31 : rowAt 179 31 = some (.iload 4, 2, 0, 0) := by decide +kernel
theorem r179_33 : rowAt 179 33 = some (.iconst (-1), 1, 0, 0) := by decide +kernel
theorem r179_34 : rowAt 179 34 = some (.if_icmp .eq 31, 3, 0, 0) := by decide +kernel
theorem r179_37 : rowAt 179 37 = some (.aload_n 0, 1, 0, 0) := by decide +kernel
theorem r179_38 : rowAt 179 38 = some (.getfield 37, 3, 9, 10) := by decide +kernel
theorem r179_41 : rowAt 179 41 = some (.iload_n 2, 1, 0, 0) := by decide +kernel
theorem r179_42 : rowAt 179 42 = some (.aload_n 0, 1, 0, 0) := by decide +kernel
theorem r179_43 : rowAt 179 43 = some (.aload_n 0, 1, 0, 0) := by decide +kernel
theorem r179_44 : rowAt 179 44 = some (.getfield 37, 3, 9, 10) := by decide +kernel
theorem r179_47 : rowAt 179 47 = some (.iload_n 2, 1, 0, 0) := by decide +kernel
theorem r179_48 : rowAt 179 48 = some (.iaload, 1, 0, 0) := by decide +kernel
theorem r179_49 : rowAt 179 49 = some (.iload 4, 2, 0, 0) := by decide +kernel
theorem r179_51 : rowAt 179 51 = some (.invokevirtual 183, 3, 132, 0) := by decide +kernel
theorem r179_54 : rowAt 179 54 = some (.iastore, 1, 0, 0) := by decide +kernel
theorem r179_55 : rowAt 179 55 = some (.aload_n 0, 1, 0, 0) := by decide +kernel
theorem r179_56 : rowAt 179 56 = some (.dup, 1, 0, 0) := by decide +kernel
theorem r179_57 : rowAt 179 57 = some (.getfield 398, 3, 9, 40) := by decide +kernel
theorem r179_60 : rowAt 179 60 = some (.iconst 1, 1, 0, 0) := by decide +kernel
theorem r179_61 : rowAt 179 61 = some (.iadd, 1, 0, 0) := by decide +kernel
theorem r179_62 : rowAt 179 62 = some (.putfield 398, 3, 9, 40) := by decide +kernel
theorem r179_65 : rowAt 179 65 = some (.aload_n 0, 1, 0, 0) := by decide +kernel
theorem r179_66 : rowAt 179 66 = some (.getfield 13, 3, 9, 2) := by decide +kernel
theorem r179_69 : rowAt 179 69 = some (.aload_n 0, 1, 0, 0) := by decide +kernel
theorem r179_70 : rowAt 179 70 = some (.getfield 37, 3, 9, 10) := by decide +kernel
theorem r179_73 : rowAt 179 73 = some (.iload_n 2, 1, 0, 0) := by decide +kernel
theorem r179_74 : rowAt 179 74 = some (.iaload, 1, 0, 0) := by decide +kernel
theorem r179_75 : rowAt 179 75 = some (.iaload, 1, 0, 0) := by decide +kernel
theorem r179_76 : rowAt 179 76 = some (.iconst 3, 1, 0, 0) := by decide +kernel
theorem r179_77 : rowAt 179 77 = some (.if_icmp .ne 24, 3, 0, 0) := by decide +kernel
theorem r179_80 : rowAt 179 80 = some (.aload_n 0, 1, 0, 0) := by decide +kernel
theorem r179_81 : rowAt 179 81 = some (.getfield 37, 3, 9, 10) := by decide +kernel
theorem r179_84 : rowAt 179 84 = some (.iload_n 2, 1, 0, 0) := by decide +kernel
theorem r179_85 : rowAt 179 85 = some (.iconst (-1), 1, 0, 0) := by decide +kernel
theorem r179_86 : rowAt 179 86 = some (.iastore, 1, 0, 0) := by decide +kernel
theorem r179_87 : rowAt 179 87 = some (.aload_n 0, 1, 0, 0) := by decide +kernel
theorem r179_88 : rowAt 179 88 = some (.getfield 40, 3, 9, 11) := by decide +kernel
theorem r179_91 : rowAt 179 91 = some (.iload_n 2, 1, 0, 0) := by decide +kernel
theorem r179_92 : rowAt 179 92 = some (.aload_n 0, 1, 0, 0) := by decide +kernel
theorem r179_93 : rowAt 179 93 = some (.getfield 7, 3, 9, 1) := by decide +kernel
theorem r179_96 : rowAt 179 96 = some (.iconst 4, 1, 0, 0) := by decide +kernel
theorem r179_97 : rowAt 179 97 = some (.iaload, 1, 0, 0) := by decide +kernel
theorem r179_98 : rowAt 179 98 = some (.iconst 1, 1, 0, 0) := by decide +kernel
theorem r179_99 : rowAt 179 99 = some (.iadd, 1, 0, 0) := by decide +kernel
theorem r179_100 : rowAt 179 100 = some (.iastore, 1, 0, 0) := by decide +kernel
theorem r179_101 : rowAt 179 101 = some (.return_, 1, 0, 0) := by decide +kernel
theorem en179 (a0 : Nat) (a1 : Int32) (a2 : Int32) : iniL 179 [.ref a0, .int a1, .int a2] = [.ref a0, .int a1, .int a2, .null, .null] := ini_n mi179 rfl
theorem b179_0 (d : Nat) (l0 : Nat) (l1 : Int32) (l2 : Int32) (h : aH) (K : Option Value → aH → Prop) : E scr false (d + 1) 179 0 [.ref l0, .int l1, .int l2, .null, .null] [] h K = vI scr d 177 [.ref l0, .int l1, .int l2] h (fun (x2 : Int32) (h1 : aH) => gR scr h1 l0 9 39 (fun x3 : Nat => wI h1 x3 l2 x2 (fun h4 : aH => (if x2 = (-1) then E scr false (d + 1) 179 29 [.ref l0, .int l1, .int l2, .int x2, .null] [.int (-1)] h4 K else vI scr d 178 [.ref l0, .int l2, .int x2] h4 (fun (x6 : Int32) (h5 : aH) => E scr false (d + 1) 179 29 [.ref l0, .int l1, .int l2, .int x2, .null] [.int x6] h5 K))))) := go (w := (1, [.ref l0, .int l1, .int l2, .null, .null], [.ref l0], h)) r179_0 rfl rfl (go (w := (2, [.ref l0, .int l1, .int l2, .null, .null], [.int l1, .ref l0], h)) r179_1 rfl rfl (go (w := (3, [.ref l0, .int l1, .int l2, .null, .null], [.int l2, .int l1, .ref l0], h)) r179_2 rfl rfl (E_vI r179_3 (As := [.ref l0, .int l1, .int l2]) (rest := []) (cut_n mi177.1 rfl rfl) (rm8_n mi177.2.1 (Nat.le_of_ble_eq_true rfl) (Nat.le_of_ble_eq_true rfl)) mi177.2.2 (fun x2 h1 => go (w := (7, [.ref l0, .int l1, .int l2, .int x2, .null], [], h1)) r179_6 rfl rfl (go (w := (8, [.ref l0, .int l1, .int l2, .int x2, .null], [.ref l0], h1)) r179_7 rfl rfl (E_gR r179_8 rfl (fun x3 => go (w := (12, [.ref l0, .int l1, .int l2, .int x2, .null], [.int l2, .ref x3], h1)) r179_11 rfl rfl (go (w := (13, [.ref l0, .int l1, .int l2, .int x2, .null], [.int x2, .int l2, .ref x3], h1)) r179_12 rfl rfl (E_wI r179_13 (fun h4 => go (w := (15, [.ref l0, .int l1, .int l2, .int x2, .null], [.int x2], h4)) r179_14 rfl rfl (E_ic r179_15 (v := (-1)) (by decide) (E_i2_ne r179_16 rfl (go (w := (24, [.ref l0, .int l1, .int l2, .int x2, .null], [.ref l0], h4)) r179_23 rfl rfl (go (w := (25, [.ref l0, .int l1, .int l2, .int x2, .null], [.int l2, .ref l0], h4)) r179_24 rfl rfl (go (w := (26, [.ref l0, .int l1, .int l2, .int x2, .null], [.int x2, .int l2, .ref l0], h4)) r179_25 rfl rfl (E_vI r179_26 (As := [.ref l0, .int l2, .int x2]) (rest := []) (cut_n mi178.1 rfl rfl) (rm8_n mi178.2.1 (Nat.le_of_ble_eq_true rfl) (Nat.le_of_ble_eq_true rfl)) mi178.2.2 (fun x6 h5 => rfl))))) (E_ic r179_19 (v := (-1)) (by decide) (E_gt r179_20 rfl (rfl)))))))))))))))
theorem b179_29 (d : Nat) (l0 : Nat) (l1 : Int32) (l2 : Int32) (l3 : Int32) (s0 : Int32) (h : aH) (K : Option Value → aH → Prop) : E scr false (d + 1) 179 29 [.ref l0, .int l1, .int l2, .int l3, .null] [.int s0] h K = (if s0 = (-1) then E scr false (d + 1) 179 65 [.ref l0, .int l1, .int l2, .int l3, .int s0] [] h K else gR scr h l0 9 10 (fun x1 : Nat => gR scr h l0 9 10 (fun x2 : Nat => aI scr h x2 l2 (fun x3 : Int32 => vI scr d 132 [.ref l0, .int x3, .int s0] h (fun (x5 : Int32) (h4 : aH) => wI h4 x1 l2 x5 (fun h6 : aH => gI scr h6 l0 9 40 (fun x7 : Int32 => pF h6 l0 9 40 (.int (x7 + 1)) (fun h8 : aH => E scr false (d + 1) 179 65 [.ref l0, .int l1, .int l2, .int l3, .int s0] [] h8 K)))))))) := go (w := (31, [.ref l0, .int l1, .int l2, .int l3, .int s0], [], h)) r179_29 rfl rfl (go (w := (33, [.ref l0, .int l1, .int l2, .int l3, .int s0], [.int s0], h)) r179_31 rfl rfl (E_ic r179_33 (v := (-1)) (by decide) (E_i2_eq r179_34 rfl (rfl) (go (w := (38, [.ref l0, .int l1, .int l2, .int l3, .int s0], [.ref l0], h)) r179_37 rfl rfl (E_gR r179_38 rfl (fun x1 => go (w := (42, [.ref l0, .int l1, .int l2, .int l3, .int s0], [.int l2, .ref x1], h)) r179_41 rfl rfl (go (w := (43, [.ref l0, .int l1, .int l2, .int l3, .int s0], [.ref l0, .int l2, .ref x1], h)) r179_42 rfl rfl (go (w := (44, [.ref l0, .int l1, .int l2, .int l3, .int s0], [.ref l0, .ref l0, .int l2, .ref x1], h)) r179_43 rfl rfl (E_gR r179_44 rfl (fun x2 => go (w := (48, [.ref l0, .int l1, .int l2, .int l3, .int s0], [.int l2, .ref x2, .ref l0, .int l2, .ref x1], h)) r179_47 rfl rfl (E_aI r179_48 (fun x3 => go (w := (51, [.ref l0, .int l1, .int l2, .int l3, .int s0], [.int s0, .int x3, .ref l0, .int l2, .ref x1], h)) r179_49 rfl rfl (E_vI r179_51 (As := [.ref l0, .int x3, .int s0]) (rest := [.int l2, .ref x1]) (cut_n mi132.1 rfl rfl) (rm8_n mi132.2.1 (Nat.le_of_ble_eq_true rfl) (Nat.le_of_ble_eq_true rfl)) mi132.2.2 (fun x5 h4 => E_wI r179_54 (fun h6 => go (w := (56, [.ref l0, .int l1, .int l2, .int l3, .int s0], [.ref l0], h6)) r179_55 rfl rfl (go (w := (57, [.ref l0, .int l1, .int l2, .int l3, .int s0], [.ref l0, .ref l0], h6)) r179_56 rfl rfl (E_gI r179_57 rfl (fun x7 => E_ic r179_60 (v := 1) (by decide) (go (w := (62, [.ref l0, .int l1, .int l2, .int l3, .int s0], [.int (x7 + 1), .ref l0], h6)) r179_61 rfl rfl (E_pI r179_62 ⟨rfl, rfl⟩ (fun h8 => rfl)))))))))))))))))))))
theorem b179_65 (d : Nat) (l0 : Nat) (l1 : Int32) (l2 : Int32) (l3 : Int32) (l4 : Int32) (h : aH) (K : Option Value → aH → Prop) : E scr false d 179 65 [.ref l0, .int l1, .int l2, .int l3, .int l4] [] h K = gR scr h l0 9 2 (fun x1 : Nat => gR scr h l0 9 10 (fun x2 : Nat => aI scr h x2 l2 (fun x3 : Int32 => aI scr h x1 x3 (fun x4 : Int32 => (if x4 = 3 then gR scr h l0 9 10 (fun x5 : Nat => wI h x5 l2 ((-1)) (fun h6 : aH => gR scr h6 l0 9 11 (fun x7 : Nat => gR scr h6 l0 9 1 (fun x8 : Nat => aI scr h6 x8 4 (fun x9 : Int32 => wI h6 x7 l2 ((x9 + 1)) (fun h10 : aH => K none h10)))))) else K none h))))) := go (w := (66, [.ref l0, .int l1, .int l2, .int l3, .int l4], [.ref l0], h)) r179_65 rfl rfl (E_gR r179_66 rfl (fun x1 => go (w := (70, [.ref l0, .int l1, .int l2, .int l3, .int l4], [.ref l0, .ref x1], h)) r179_69 rfl rfl (E_gR r179_70 rfl (fun x2 => go (w := (74, [.ref l0, .int l1, .int l2, .int l3, .int l4], [.int l2, .ref x2, .ref x1], h)) r179_73 rfl rfl (E_aI r179_74 (fun x3 => E_aI r179_75 (fun x4 => E_ic r179_76 (v := 3) (by decide) (E_i2_ne r179_77 rfl (E_vret r179_101 (mq179)) (go (w := (81, [.ref l0, .int l1, .int l2, .int l3, .int l4], [.ref l0], h)) r179_80 rfl rfl (E_gR r179_81 rfl (fun x5 => go (w := (85, [.ref l0, .int l1, .int l2, .int l3, .int l4], [.int l2, .ref x5], h)) r179_84 rfl rfl (E_ic r179_85 (v := (-1)) (by decide) (E_wI r179_86 (fun h6 => go (w := (88, [.ref l0, .int l1, .int l2, .int l3, .int l4], [.ref l0], h6)) r179_87 rfl rfl (E_gR r179_88 rfl (fun x7 => go (w := (92, [.ref l0, .int l1, .int l2, .int l3, .int l4], [.int l2, .ref x7], h6)) r179_91 rfl rfl (go (w := (93, [.ref l0, .int l1, .int l2, .int l3, .int l4], [.ref l0, .int l2, .ref x7], h6)) r179_92 rfl rfl (E_gR r179_93 rfl (fun x8 => E_ic r179_96 (v := 4) (by decide) (E_aI r179_97 (fun x9 => E_ic r179_98 (v := 1) (by decide) (go (w := (100, [.ref l0, .int l1, .int l2, .int l3, .int l4], [.int (x9 + 1), .int l2, .ref x7], h6)) r179_99 rfl rfl (E_wI r179_100 (fun h10 => E_vret r179_101 (mq179)))))))))))))))))))))))))
-- 180 SecondNearestModel.step(I)V
theorem mq180 : mRet 180 = none := by decide +kernel
theorem r180_0 : rowAt 180 0 = some (.aload_n 0, 1, 0, 0) := by decide +kernel
theorem r180_1 : rowAt 180 1 = some (.iconst 0, 1, 0, 0) := by decide +kernel
theorem r180_2 : rowAt 180 2 = some (.putfield 398, 3, 9, 40) := by decide +kernel
theorem r180_5 : rowAt 180 5 = some (.iconst 0, 1, 0, 0) := by decide +kernel
theorem r180_6 : rowAt 180 6 = some (.istore_n 2, 1, 0, 0) := by decide +kernel
theorem r180_7 : rowAt 180 7 = some (.iload_n 2, 1, 0, 0) := by decide +kernel
theorem r180_8 : rowAt 180 8 = some (.aload_n 0, 1, 0, 0) := by decide +kernel
theorem r180_9 : rowAt 180 9 = some (.getfield 7, 3, 9, 1) := by decide +kernel
theorem r180_12 : rowAt 180 12 = some (.iconst 2, 1, 0, 0) := by decide +kernel
theorem r180_13 : rowAt 180 13 = some (.iaload, 1, 0, 0) := by decide +kernel
theorem r180_14 : rowAt 180 14 = some (.if_icmp .ge 32, 3, 0, 0) := by decide +kernel
theorem r180_17 : rowAt 180 17 = some (.aload_n 0, 1, 0, 0) := by decide +kernel
theorem r180_18 : rowAt 180 18 = some (.getfield 97, 3, 9, 39) := by decide +kernel
theorem r180_21 : rowAt 180 21 = some (.iload_n 2, 1, 0, 0) := by decide +kernel
theorem r180_22 : rowAt 180 22 = some (.iconst (-1), 1, 0, 0) := by decide +kernel
theorem r180_23 : rowAt 180 23 = some (.iastore, 1, 0, 0) := by decide +kernel
theorem r180_24 : rowAt 180 24 = some (.aload_n 0, 1, 0, 0) := by decide +kernel
theorem r180_25 : rowAt 180 25 = some (.getfield 37, 3, 9, 10) := by decide +kernel
theorem r180_28 : rowAt 180 28 = some (.iload_n 2, 1, 0, 0) := by decide +kernel
theorem r180_29 : rowAt 180 29 = some (.iaload, 1, 0, 0) := by decide +kernel
theorem r180_30 : rowAt 180 30 = some (.iconst (-1), 1, 0, 0) := by decide +kernel
theorem r180_31 : rowAt 180 31 = some (.if_icmp .eq 9, 3, 0, 0) := by decide +kernel
theorem r180_34 : rowAt 180 34 = some (.aload_n 0, 1, 0, 0) := by decide +kernel
theorem r180_35 : rowAt 180 35 = some (.iload_n 1, 1, 0, 0) := by decide +kernel
theorem r180_36 : rowAt 180 36 = some (.iload_n 2, 1, 0, 0) := by decide +kernel
theorem r180_37 : rowAt 180 37 = some (.invokevirtual 401, 3, 179, 0) := by decide +kernel
theorem r180_40 : rowAt 180 40 = some (.iinc 2 1, 3, 0, 0) := by decide +kernel
theorem r180_43 : rowAt 180 43 = some (.goto (-36), 3, 0, 0) := by decide +kernel
theorem r180_46 : rowAt 180 46 = some (.aload_n 0, 1, 0, 0) := by decide +kernel
theorem r180_47 : rowAt 180 47 = some (.getfield 7, 3, 9, 1) := by decide +kernel
theorem r180_50 : rowAt 180 50 = some (.iconst 4, 1, 0, 0) := by decide +kernel
theorem r180_51 : rowAt 180 51 = some (.dup2, 1, 0, 0) := by decide +kernel
theorem r180_52 : rowAt 180 52 = some (.iaload, 1, 0, 0) := by decide +kernel
theorem r180_53 : rowAt 180 53 = some (.iconst 1, 1, 0, 0) := by decide +kernel
theorem r180_54 : rowAt 180 54 = some (.iadd, 1, 0, 0) := by decide +kernel
theorem r180_55 : rowAt 180 55 = some (.iastore, 1, 0, 0) := by decide +kernel
theorem r180_56 : rowAt 180 56 = some (.return_, 1, 0, 0) := by decide +kernel
theorem en180 (a0 : Nat) (a1 : Int32) : iniL 180 [.ref a0, .int a1] = [.ref a0, .int a1, .null] := ini_n mi180 rfl
theorem b180_0 (d : Nat) (l0 : Nat) (l1 : Int32) (h : aH) (K : Option Value → aH → Prop) : E scr false d 180 0 [.ref l0, .int l1, .null] [] h K = pF h l0 9 40 (.int 0) (fun h1 : aH => E scr false d 180 7 [.ref l0, .int l1, .int 0] [] h1 K) := go (w := (1, [.ref l0, .int l1, .null], [.ref l0], h)) r180_0 rfl rfl (E_ic r180_1 (v := 0) (by decide) (E_pI r180_2 ⟨rfl, rfl⟩ (fun h1 => E_ic r180_5 (v := 0) (by decide) (go (w := (7, [.ref l0, .int l1, .int 0], [], h1)) r180_6 rfl rfl (rfl)))))
theorem b180_7 (d : Nat) (l0 : Nat) (l1 : Int32) (l2 : Int32) (h : aH) (K : Option Value → aH → Prop) : E scr false (d + 1) 180 7 [.ref l0, .int l1, .int l2] [] h K = gR scr h l0 9 1 (fun x1 : Nat => aI scr h x1 2 (fun x2 : Int32 => (if x2 ≤ l2 then gR scr h l0 9 1 (fun x3 : Nat => aI scr h x3 4 (fun x4 : Int32 => wI h x3 4 ((x4 + 1)) (fun h5 : aH => K none h5))) else gR scr h l0 9 39 (fun x6 : Nat => wI h x6 l2 ((-1)) (fun h7 : aH => gR scr h7 l0 9 10 (fun x8 : Nat => aI scr h7 x8 l2 (fun x9 : Int32 => (if x9 = (-1) then E scr false (d + 1) 180 40 [.ref l0, .int l1, .int l2] [] h7 K else vV scr d 179 [.ref l0, .int l1, .int l2] h7 (fun h10 : aH => E scr false (d + 1) 180 40 [.ref l0, .int l1, .int l2] [] h10 K))))))))) := go (w := (8, [.ref l0, .int l1, .int l2], [.int l2], h)) r180_7 rfl rfl (go (w := (9, [.ref l0, .int l1, .int l2], [.ref l0, .int l2], h)) r180_8 rfl rfl (E_gR r180_9 rfl (fun x1 => E_ic r180_12 (v := 2) (by decide) (E_aI r180_13 (fun x2 => E_i2_ge r180_14 rfl (go (w := (47, [.ref l0, .int l1, .int l2], [.ref l0], h)) r180_46 rfl rfl (E_gR r180_47 rfl (fun x3 => E_ic r180_50 (v := 4) (by decide) (go (w := (52, [.ref l0, .int l1, .int l2], [.int 4, .ref x3, .int 4, .ref x3], h)) r180_51 rfl rfl (E_aI r180_52 (fun x4 => E_ic r180_53 (v := 1) (by decide) (go (w := (55, [.ref l0, .int l1, .int l2], [.int (x4 + 1), .int 4, .ref x3], h)) r180_54 rfl rfl (E_wI r180_55 (fun h5 => E_vret r180_56 (mq180)))))))))) (go (w := (18, [.ref l0, .int l1, .int l2], [.ref l0], h)) r180_17 rfl rfl (E_gR r180_18 rfl (fun x6 => go (w := (22, [.ref l0, .int l1, .int l2], [.int l2, .ref x6], h)) r180_21 rfl rfl (E_ic r180_22 (v := (-1)) (by decide) (E_wI r180_23 (fun h7 => go (w := (25, [.ref l0, .int l1, .int l2], [.ref l0], h7)) r180_24 rfl rfl (E_gR r180_25 rfl (fun x8 => go (w := (29, [.ref l0, .int l1, .int l2], [.int l2, .ref x8], h7)) r180_28 rfl rfl (E_aI r180_29 (fun x9 => E_ic r180_30 (v := (-1)) (by decide) (E_i2_eq r180_31 rfl (rfl) (go (w := (35, [.ref l0, .int l1, .int l2], [.ref l0], h7)) r180_34 rfl rfl (go (w := (36, [.ref l0, .int l1, .int l2], [.int l1, .ref l0], h7)) r180_35 rfl rfl (go (w := (37, [.ref l0, .int l1, .int l2], [.int l2, .int l1, .ref l0], h7)) r180_36 rfl rfl (E_vV r180_37 (As := [.ref l0, .int l1, .int l2]) (rest := []) (cut_n mi179.1 rfl rfl) (rm8_n mi179.2.1 (Nat.le_of_ble_eq_true rfl) (Nat.le_of_ble_eq_true rfl)) mi179.2.2 (fun h10 => rfl)))))))))))))))))))))
theorem b180_40 (d : Nat) (l0 : Nat) (l1 : Int32) (l2 : Int32) (h : aH) (K : Option Value → aH → Prop) : E scr false d 180 40 [.ref l0, .int l1, .int l2] [] h K = E scr false d 180 7 [.ref l0, .int l1, .int (l2 + 1)] [] h K := E_inc r180_40 (c := 1) rfl (by decide) (L' := [.ref l0, .int l1, .int (l2 + 1)]) rfl (E_gt r180_43 rfl (rfl))
-- 181 SecondNearestModel.steps(II)V
theorem mq181 : mRet 181 = none := by decide +kernel
theorem r181_0 : rowAt 181 0 = some (.iconst 0, 1, 0, 0) := by decide +kernel
theorem r181_1 : rowAt 181 1 = some (.istore_n 3, 1, 0, 0) := by decide +kernel
theorem r181_2 : rowAt 181 2 = some (.iload_n 3, 1, 0, 0) := by decide +kernel
theorem r181_3 : rowAt 181 3 = some (.iload_n 2, 1, 0, 0) := by decide +kernel
theorem r181_4 : rowAt 181 4 = some (.if_icmp .ge 14, 3, 0, 0) := by decide +kernel
theorem r181_7 : rowAt 181 7 = some (.aload_n 0, 1, 0, 0) := by decide +kernel
theorem r181_8 : rowAt 181 8 = some (.iload_n 1, 1, 0, 0) := by decide +kernel
theorem r181_9 : rowAt 181 9 = some (.invokevirtual 404, 3, 180, 0) := by decide +kernel
theorem r181_12 : rowAt 181 12 = some (.iinc 3 1, 3, 0, 0) := by decide +kernel
theorem r181_15 : rowAt 181 15 = some (.goto (-13), 3, 0, 0) := by decide +kernel
theorem r181_18 : rowAt 181 18 = some (.return_, 1, 0, 0) := by decide +kernel
theorem en181 (a0 : Nat) (a1 : Int32) (a2 : Int32) : iniL 181 [.ref a0, .int a1, .int a2] = [.ref a0, .int a1, .int a2, .null] := ini_n mi181 rfl
theorem b181_0 (d : Nat) (l0 : Nat) (l1 : Int32) (l2 : Int32) (h : aH) (K : Option Value → aH → Prop) : E scr false d 181 0 [.ref l0, .int l1, .int l2, .null] [] h K = E scr false d 181 2 [.ref l0, .int l1, .int l2, .int 0] [] h K := E_ic r181_0 (v := 0) (by decide) (go (w := (2, [.ref l0, .int l1, .int l2, .int 0], [], h)) r181_1 rfl rfl (rfl))
theorem b181_2 (d : Nat) (l0 : Nat) (l1 : Int32) (l2 : Int32) (l3 : Int32) (h : aH) (K : Option Value → aH → Prop) : E scr false (d + 1) 181 2 [.ref l0, .int l1, .int l2, .int l3] [] h K = (if l2 ≤ l3 then K none h else vV scr d 180 [.ref l0, .int l1] h (fun h1 : aH => E scr false (d + 1) 181 2 [.ref l0, .int l1, .int l2, .int (l3 + 1)] [] h1 K)) := go (w := (3, [.ref l0, .int l1, .int l2, .int l3], [.int l3], h)) r181_2 rfl rfl (go (w := (4, [.ref l0, .int l1, .int l2, .int l3], [.int l2, .int l3], h)) r181_3 rfl rfl (E_i2_ge r181_4 rfl (E_vret r181_18 (mq181)) (go (w := (8, [.ref l0, .int l1, .int l2, .int l3], [.ref l0], h)) r181_7 rfl rfl (go (w := (9, [.ref l0, .int l1, .int l2, .int l3], [.int l1, .ref l0], h)) r181_8 rfl rfl (E_vV r181_9 (As := [.ref l0, .int l1]) (rest := []) (cut_n mi180.1 rfl rfl) (rm8_n mi180.2.1 (Nat.le_of_ble_eq_true rfl) (Nat.le_of_ble_eq_true rfl)) mi180.2.2 (fun h1 => E_inc r181_12 (c := 1) rfl (by decide) (L' := [.ref l0, .int l1, .int l2, .int (l3 + 1)]) rfl (E_gt r181_15 rfl (rfl))))))))
-- 182 SecondNearestModel.outs()I
theorem mq182 : mRet 182 = (some .int) := by decide +kernel
theorem r182_0 : rowAt 182 0 = some (.iconst 0, 1, 0, 0) := by decide +kernel
theorem r182_1 : rowAt 182 1 = some (.istore_n 1, 1, 0, 0) := by decide +kernel
theorem r182_2 : rowAt 182 2 = some (.iconst 0, 1, 0, 0) := by decide +kernel
theorem r182_3 : rowAt 182 3 = some (.istore_n 2, 1, 0, 0) := by decide +kernel
theorem r182_4 : rowAt 182 4 = some (.iload_n 2, 1, 0, 0) := by decide +kernel
theorem r182_5 : rowAt 182 5 = some (.aload_n 0, 1, 0, 0) := by decide +kernel
theorem r182_6 : rowAt 182 6 = some (.getfield 7, 3, 9, 1) := by decide +kernel
theorem r182_9 : rowAt 182 9 = some (.iconst 2, 1, 0, 0) := by decide +kernel
theorem r182_10 : rowAt 182 10 = some (.iaload, 1, 0, 0) := by decide +kernel
theorem r182_11 : rowAt 182 11 = some (.if_icmp .ge 27, 3, 0, 0) := by decide +kernel
theorem r182_14 : rowAt 182 14 = some (.iload_n 1, 1, 0, 0) := by decide +kernel
theorem r182_15 : rowAt 182 15 = some (.aload_n 0, 1, 0, 0) := by decide +kernel
theorem r182_16 : rowAt 182 16 = some (.getfield 37, 3, 9, 10) := by decide +kernel
theorem r182_19 : rowAt 182 19 = some (.iload_n 2, 1, 0, 0) := by decide +kernel
theorem r182_20 : rowAt 182 20 = some (.iaload, 1, 0, 0) := by decide +kernel
theorem r182_21 : rowAt 182 21 = some (.iconst (-1), 1, 0, 0) := by decide +kernel
theorem r182_22 : rowAt 182 22 = some (.if_icmp .ne 7, 3, 0, 0) := by decide +kernel
theorem r182_25 : rowAt 182 25 = some (.iconst 1, 1, 0, 0) := by decide +kernel
theorem r182_26 : rowAt 182 26 = some (.goto 4, 3, 0, 0) := by decide +kernel
theorem r182_29 : rowAt 182 29 = some (.iconst 0, 1, 0, 0) := by decide +kernel
theorem r182_30 : rowAt 182 30 = some (.iadd, 1, 0, 0) := by decide +kernel
theorem r182_31 : rowAt 182 31 = some (.istore_n 1, 1, 0, 0) := by decide +kernel
theorem r182_32 : rowAt 182 32 = some (.iinc 2 1, 3, 0, 0) := by decide +kernel
theorem r182_35 : rowAt 182 35 = some (.goto (-31), 3, 0, 0) := by decide +kernel
theorem r182_38 : rowAt 182 38 = some (.iload_n 1, 1, 0, 0) := by decide +kernel
theorem r182_39 : rowAt 182 39 = some (.ireturn, 1, 0, 0) := by decide +kernel
theorem en182 (a0 : Nat) : iniL 182 [.ref a0] = [.ref a0, .null, .null] := ini_n mi182 rfl
theorem b182_0 (d : Nat) (l0 : Nat) (h : aH) (K : Option Value → aH → Prop) : E scr false d 182 0 [.ref l0, .null, .null] [] h K = E scr false d 182 4 [.ref l0, .int 0, .int 0] [] h K := E_ic r182_0 (v := 0) (by decide) (go (w := (2, [.ref l0, .int 0, .null], [], h)) r182_1 rfl rfl (E_ic r182_2 (v := 0) (by decide) (go (w := (4, [.ref l0, .int 0, .int 0], [], h)) r182_3 rfl rfl (rfl))))
theorem b182_4 (d : Nat) (l0 : Nat) (l1 : Int32) (l2 : Int32) (h : aH) (K : Option Value → aH → Prop) : E scr false d 182 4 [.ref l0, .int l1, .int l2] [] h K = gR scr h l0 9 1 (fun x1 : Nat => aI scr h x1 2 (fun x2 : Int32 => (if x2 ≤ l2 then K (some (.int l1)) h else gR scr h l0 9 10 (fun x3 : Nat => aI scr h x3 l2 (fun x4 : Int32 => (if x4 = (-1) then E scr false d 182 30 [.ref l0, .int l1, .int l2] [.int 1, .int l1] h K else E scr false d 182 30 [.ref l0, .int l1, .int l2] [.int 0, .int l1] h K)))))) := go (w := (5, [.ref l0, .int l1, .int l2], [.int l2], h)) r182_4 rfl rfl (go (w := (6, [.ref l0, .int l1, .int l2], [.ref l0, .int l2], h)) r182_5 rfl rfl (E_gR r182_6 rfl (fun x1 => E_ic r182_9 (v := 2) (by decide) (E_aI r182_10 (fun x2 => E_i2_ge r182_11 rfl (go (w := (39, [.ref l0, .int l1, .int l2], [.int l1], h)) r182_38 rfl rfl (E_ri r182_39 (mq182))) (go (w := (15, [.ref l0, .int l1, .int l2], [.int l1], h)) r182_14 rfl rfl (go (w := (16, [.ref l0, .int l1, .int l2], [.ref l0, .int l1], h)) r182_15 rfl rfl (E_gR r182_16 rfl (fun x3 => go (w := (20, [.ref l0, .int l1, .int l2], [.int l2, .ref x3, .int l1], h)) r182_19 rfl rfl (E_aI r182_20 (fun x4 => E_ic r182_21 (v := (-1)) (by decide) (E_i2_ne r182_22 rfl (E_ic r182_29 (v := 0) (by decide) (rfl)) (E_ic r182_25 (v := 1) (by decide) (E_gt r182_26 rfl (rfl)))))))))))))))
theorem b182_30 (d : Nat) (l0 : Nat) (l1 : Int32) (l2 : Int32) (s0 : Int32) (s1 : Int32) (h : aH) (K : Option Value → aH → Prop) : E scr false d 182 30 [.ref l0, .int l1, .int l2] [.int s0, .int s1] h K = E scr false d 182 4 [.ref l0, .int (s1 + s0), .int (l2 + 1)] [] h K := go (w := (31, [.ref l0, .int l1, .int l2], [.int (s1 + s0)], h)) r182_30 rfl rfl (go (w := (32, [.ref l0, .int (s1 + s0), .int l2], [], h)) r182_31 rfl rfl (E_inc r182_32 (c := 1) rfl (by decide) (L' := [.ref l0, .int (s1 + s0), .int (l2 + 1)]) rfl (E_gt r182_35 rfl (rfl))))
-- 183 SecondNearestModel.tick(II)I
theorem mq183 : mRet 183 = (some .int) := by decide +kernel
theorem r183_0 : rowAt 183 0 = some (.aload_n 0, 1, 0, 0) := by decide +kernel
theorem r183_1 : rowAt 183 1 = some (.invokevirtual 407, 3, 124, 0) := by decide +kernel
theorem r183_4 : rowAt 183 4 = some (.ifCond .eq 23, 3, 0, 0) := by decide +kernel
theorem r183_7 : rowAt 183 7 = some (.aload_n 0, 1, 0, 0) := by decide +kernel
theorem r183_8 : rowAt 183 8 = some (.iload_n 1, 1, 0, 0) := by decide +kernel
theorem r183_9 : rowAt 183 9 = some (.invokevirtual 410, 3, 172, 0) := by decide +kernel
theorem r183_12 : rowAt 183 12 = some (.ifCond .eq 15, 3, 0, 0) := by decide +kernel
theorem r183_15 : rowAt 183 15 = some (.iload_n 2, 1, 0, 0) := by decide +kernel
theorem r183_16 : rowAt 183 16 = some (.i2l, 1, 0, 0) := by decide +kernel
theorem r183_17 : rowAt 183 17 = some (.lconst 1, 1, 0, 0) := by decide +kernel
theorem r183_18 : rowAt 183 18 = some (.ldc2_w 413, 3, 200, 0) := by decide +kernel
theorem r183_21 : rowAt 183 21 = some (.invokestatic 143, 3, 121, 1) := by decide +kernel
theorem r183_24 : rowAt 183 24 = some (.ifCond .ne 5, 3, 0, 0) := by decide +kernel
theorem r183_27 : rowAt 183 27 = some (.iconst (-1), 1, 0, 0) := by decide +kernel
theorem r183_28 : rowAt 183 28 = some (.ireturn, 1, 0, 0) := by decide +kernel
theorem r183_29 : rowAt 183 29 = some (.aload_n 0, 1, 0, 0) := by decide +kernel
theorem r183_30 : rowAt 183 30 = some (.iload_n 1, 1, 0, 0) := by decide +kernel
theorem r183_31 : rowAt 183 31 = some (.iload_n 2, 1, 0, 0) := by decide +kernel
theorem r183_32 : rowAt 183 32 = some (.invokevirtual 415, 3, 181, 0) := by decide +kernel
theorem r183_35 : rowAt 183 35 = some (.aload_n 0, 1, 0, 0) := by decide +kernel
theorem r183_36 : rowAt 183 36 = some (.getfield 7, 3, 9, 1) := by decide +kernel
theorem r183_39 : rowAt 183 39 = some (.iconst 4, 1, 0, 0) := by decide +kernel
theorem r183_40 : rowAt 183 40 = some (.iaload, 1, 0, 0) := by decide +kernel
theorem r183_41 : rowAt 183 41 = some (.ireturn, 1, 0, 0) := by decide +kernel
theorem en183 (a0 : Nat) (a1 : Int32) (a2 : Int32) : iniL 183 [.ref a0, .int a1, .int a2] = [.ref a0, .int a1, .int a2] := ini_n mi183 rfl
theorem b183_0 (d : Nat) (l0 : Nat) (l1 : Int32) (l2 : Int32) (h : aH) (K : Option Value → aH → Prop) : E scr false (d + 1) 183 0 [.ref l0, .int l1, .int l2] [] h K = vI scr d 124 [.ref l0] h (fun (x2 : Int32) (h1 : aH) => (if x2 = 0 then K (some (.int (-1))) h1 else vI scr d 172 [.ref l0, .int l1] h1 (fun (x4 : Int32) (h3 : aH) => (if x4 = 0 then K (some (.int (-1))) h3 else sI scr d 121 [.long (Int32.toInt64 l2), .long 1, .long 200] h3 (fun (x6 : Int32) (h5 : aH) => (if x6 = 0 then K (some (.int (-1))) h5 else vV scr d 181 [.ref l0, .int l1, .int l2] h5 (fun h7 : aH => gR scr h7 l0 9 1 (fun x9 : Nat => aI scr h7 x9 4 (fun x10 : Int32 => K (some (.int x10)) h7))))))))) := go (w := (1, [.ref l0, .int l1, .int l2], [.ref l0], h)) r183_0 rfl rfl (E_vI r183_1 (As := [.ref l0]) (rest := []) (cut_n mi124.1 rfl rfl) (rm8_n mi124.2.1 (Nat.le_of_ble_eq_true rfl) (Nat.le_of_ble_eq_true rfl)) mi124.2.2 (fun x2 h1 => E_i1_eq r183_4 rfl (E_ic r183_27 (v := (-1)) (by decide) (E_ri r183_28 (mq183))) (go (w := (8, [.ref l0, .int l1, .int l2], [.ref l0], h1)) r183_7 rfl rfl (go (w := (9, [.ref l0, .int l1, .int l2], [.int l1, .ref l0], h1)) r183_8 rfl rfl (E_vI r183_9 (As := [.ref l0, .int l1]) (rest := []) (cut_n mi172.1 rfl rfl) (rm8_n mi172.2.1 (Nat.le_of_ble_eq_true rfl) (Nat.le_of_ble_eq_true rfl)) mi172.2.2 (fun x4 h3 => E_i1_eq r183_12 rfl (E_ic r183_27 (v := (-1)) (by decide) (E_ri r183_28 (mq183))) (go (w := (16, [.ref l0, .int l1, .int l2], [.int l2], h3)) r183_15 rfl rfl (go (w := (17, [.ref l0, .int l1, .int l2], [.long (Int32.toInt64 l2)], h3)) r183_16 rfl rfl (E_lc r183_17 (v := 1) (by decide) (E_ld2 r183_18 (v := 200) (by decide) (E_sI r183_21 (As := [.long (Int32.toInt64 l2), .long 1, .long 200]) (rest := []) (cut_n mi121.1 rfl rfl) (rm8_n mi121.2.1 (Nat.le_of_ble_eq_true rfl) (Nat.le_of_ble_eq_true rfl)) mi121.2.2 (fun x6 h5 => E_i1_ne r183_24 rfl (go (w := (30, [.ref l0, .int l1, .int l2], [.ref l0], h5)) r183_29 rfl rfl (go (w := (31, [.ref l0, .int l1, .int l2], [.int l1, .ref l0], h5)) r183_30 rfl rfl (go (w := (32, [.ref l0, .int l1, .int l2], [.int l2, .int l1, .ref l0], h5)) r183_31 rfl rfl (E_vV r183_32 (As := [.ref l0, .int l1, .int l2]) (rest := []) (cut_n mi181.1 rfl rfl) (rm8_n mi181.2.1 (Nat.le_of_ble_eq_true rfl) (Nat.le_of_ble_eq_true rfl)) mi181.2.2 (fun h7 => go (w := (36, [.ref l0, .int l1, .int l2], [.ref l0], h7)) r183_35 rfl rfl (E_gR r183_36 rfl (fun x9 => E_ic r183_39 (v := 4) (by decide) (E_aI r183_40 (fun x10 => E_ri r183_41 (mq183)))))))))) (E_ic r183_27 (v := (-1)) (by decide) (E_ri r183_28 (mq183)))))))))))))))
-- 184 SecondNearestModel.person(II)I
theorem mq184 : mRet 184 = (some .int) := by decide +kernel
theorem r184_0 : rowAt 184 0 = some (.aload_n 0, 1, 0, 0) := by decide +kernel
theorem r184_1 : rowAt 184 1 = some (.iload_n 1, 1, 0, 0) := by decide +kernel
theorem r184_2 : rowAt 184 2 = some (.invokevirtual 151, 3, 127, 0) := by decide +kernel
theorem r184_5 : rowAt 184 5 = some (.ifCond .ne 5, 3, 0, 0) := by decide +kernel
theorem r184_8 : rowAt 184 8 = some (.iconst (-1), 1, 0, 0) := by decide +kernel
theorem r184_9 : rowAt 184 9 = some (.ireturn, 1, 0, 0) := by decide +kernel
theorem r184_10 : rowAt 184 10 = some (.iload_n 2, 1, 0, 0) := by decide +kernel
theorem r184_11 : rowAt 184 11 = some (.tableswitch 102 0 4 #[33, 57, 81, 88, 95], 33, 0, 0) := by decide +kernel
theorem r184_44 : rowAt 184 44 = some (.aload_n 0, 1, 0, 0) := by decide +kernel
theorem r184_45 : rowAt 184 45 = some (.getfield 37, 3, 9, 10) := by decide +kernel
theorem r184_48 : rowAt 184 48 = some (.iload_n 1, 1, 0, 0) := by decide +kernel
theorem r184_49 : rowAt 184 49 = some (.iaload, 1, 0, 0) := by decide +kernel
theorem r184_50 : rowAt 184 50 = some (.iconst (-1), 1, 0, 0) := by decide +kernel
theorem r184_51 : rowAt 184 51 = some (.if_icmp .ne 7, 3, 0, 0) := by decide +kernel
theorem r184_54 : rowAt 184 54 = some (.iconst (-1), 1, 0, 0) := by decide +kernel
theorem r184_55 : rowAt 184 55 = some (.goto 12, 3, 0, 0) := by decide +kernel
theorem r184_58 : rowAt 184 58 = some (.aload_n 0, 1, 0, 0) := by decide +kernel
theorem r184_59 : rowAt 184 59 = some (.getfield 37, 3, 9, 10) := by decide +kernel
theorem r184_62 : rowAt 184 62 = some (.iload_n 1, 1, 0, 0) := by decide +kernel
theorem r184_63 : rowAt 184 63 = some (.iaload, 1, 0, 0) := by decide +kernel
theorem r184_64 : rowAt 184 64 = some (.bipush 12, 2, 0, 0) := by decide +kernel
theorem r184_66 : rowAt 184 66 = some (.irem, 1, 0, 0) := by decide +kernel
theorem r184_67 : rowAt 184 67 = some (.ireturn, 1, 0, 0) := by decide +kernel
theorem r184_68 : rowAt 184 68 = some (.aload_n 0, 1, 0, 0) := by decide +kernel
theorem r184_69 : rowAt 184 69 = some (.getfield 37, 3, 9, 10) := by decide +kernel
theorem r184_72 : rowAt 184 72 = some (.iload_n 1, 1, 0, 0) := by decide +kernel
theorem r184_73 : rowAt 184 73 = some (.iaload, 1, 0, 0) := by decide +kernel
theorem r184_74 : rowAt 184 74 = some (.iconst (-1), 1, 0, 0) := by decide +kernel
theorem r184_75 : rowAt 184 75 = some (.if_icmp .ne 7, 3, 0, 0) := by decide +kernel
theorem r184_78 : rowAt 184 78 = some (.iconst (-1), 1, 0, 0) := by decide +kernel
theorem r184_79 : rowAt 184 79 = some (.goto 12, 3, 0, 0) := by decide +kernel
theorem r184_82 : rowAt 184 82 = some (.aload_n 0, 1, 0, 0) := by decide +kernel
theorem r184_83 : rowAt 184 83 = some (.getfield 37, 3, 9, 10) := by decide +kernel
theorem r184_86 : rowAt 184 86 = some (.iload_n 1, 1, 0, 0) := by decide +kernel
theorem r184_87 : rowAt 184 87 = some (.iaload, 1, 0, 0) := by decide +kernel
theorem r184_88 : rowAt 184 88 = some (.bipush 12, 2, 0, 0) := by decide +kernel
theorem r184_90 : rowAt 184 90 = some (.idiv, 1, 0, 0) := by decide +kernel
theorem r184_91 : rowAt 184 91 = some (.ireturn, 1, 0, 0) := by decide +kernel
theorem r184_92 : rowAt 184 92 = some (.aload_n 0, 1, 0, 0) := by decide +kernel
theorem r184_93 : rowAt 184 93 = some (.getfield 16, 3, 9, 3) := by decide +kernel
theorem r184_96 : rowAt 184 96 = some (.iload_n 1, 1, 0, 0) := by decide +kernel
theorem r184_97 : rowAt 184 97 = some (.iaload, 1, 0, 0) := by decide +kernel
theorem r184_98 : rowAt 184 98 = some (.ireturn, 1, 0, 0) := by decide +kernel
theorem r184_99 : rowAt 184 99 = some (.aload_n 0, 1, 0, 0) := by decide +kernel
theorem r184_100 : rowAt 184 100 = some (.getfield 19, 3, 9, 4) := by decide +kernel
theorem r184_103 : rowAt 184 103 = some (.iload_n 1, 1, 0, 0) := by decide +kernel
theorem r184_104 : rowAt 184 104 = some (.iaload, 1, 0, 0) := by decide +kernel
theorem r184_105 : rowAt 184 105 = some (.ireturn, 1, 0, 0) := by decide +kernel
theorem r184_106 : rowAt 184 106 = some (.aload_n 0, 1, 0, 0) := by decide +kernel
theorem r184_107 : rowAt 184 107 = some (.getfield 40, 3, 9, 11) := by decide +kernel
theorem r184_110 : rowAt 184 110 = some (.iload_n 1, 1, 0, 0) := by decide +kernel
theorem r184_111 : rowAt 184 111 = some (.iaload, 1, 0, 0) := by decide +kernel
theorem r184_112 : rowAt 184 112 = some (.ireturn, 1, 0, 0) := by decide +kernel
theorem r184_113 : rowAt 184 113 = some (.iconst (-1), 1, 0, 0) := by decide +kernel
theorem r184_114 : rowAt 184 114 = some (.ireturn, 1, 0, 0) := by decide +kernel
theorem en184 (a0 : Nat) (a1 : Int32) (a2 : Int32) : iniL 184 [.ref a0, .int a1, .int a2] = [.ref a0, .int a1, .int a2] := ini_n mi184 rfl
theorem b184_0 (d : Nat) (l0 : Nat) (l1 : Int32) (l2 : Int32) (h : aH) (K : Option Value → aH → Prop) : E scr false (d + 1) 184 0 [.ref l0, .int l1, .int l2] [] h K = vI scr d 127 [.ref l0, .int l1] h (fun (x2 : Int32) (h1 : aH) => (if x2 = 0 then K (some (.int (-1))) h1 else (if l2 = 0 then E scr false (d + 1) 184 44 [.ref l0, .int l1, .int l2] [] h1 K else (if l2 = 1 then E scr false (d + 1) 184 68 [.ref l0, .int l1, .int l2] [] h1 K else (if l2 = 2 then E scr false (d + 1) 184 92 [.ref l0, .int l1, .int l2] [] h1 K else (if l2 = 3 then E scr false (d + 1) 184 99 [.ref l0, .int l1, .int l2] [] h1 K else (if l2 = 4 then E scr false (d + 1) 184 106 [.ref l0, .int l1, .int l2] [] h1 K else E scr false (d + 1) 184 113 [.ref l0, .int l1, .int l2] [] h1 K))))))) := go (w := (1, [.ref l0, .int l1, .int l2], [.ref l0], h)) r184_0 rfl rfl (go (w := (2, [.ref l0, .int l1, .int l2], [.int l1, .ref l0], h)) r184_1 rfl rfl (E_vI r184_2 (As := [.ref l0, .int l1]) (rest := []) (cut_n mi127.1 rfl rfl) (rm8_n mi127.2.1 (Nat.le_of_ble_eq_true rfl) (Nat.le_of_ble_eq_true rfl)) mi127.2.2 (fun x2 h1 => E_i1_ne r184_5 rfl (go (w := (11, [.ref l0, .int l1, .int l2], [.int l2], h1)) r184_10 rfl rfl (E_tab (pc := 11) [(0, 44), (1, 68), (2, 92), (3, 99), (4, 106)] 113 r184_11 (by decide +kernel) (by decide +kernel) (by decide +kernel))) (E_ic r184_8 (v := (-1)) (by decide) (E_ri r184_9 (mq184))))))
theorem b184_44 (d : Nat) (l0 : Nat) (l1 : Int32) (l2 : Int32) (h : aH) (K : Option Value → aH → Prop) : E scr false d 184 44 [.ref l0, .int l1, .int l2] [] h K = gR scr h l0 9 10 (fun x1 : Nat => aI scr h x1 l1 (fun x2 : Int32 => (if x2 = (-1) then K (some (.int (-1))) h else gR scr h l0 9 10 (fun x3 : Nat => aI scr h x3 l1 (fun x4 : Int32 => K (some (.int (irm x4 12))) h))))) := go (w := (45, [.ref l0, .int l1, .int l2], [.ref l0], h)) r184_44 rfl rfl (E_gR r184_45 rfl (fun x1 => go (w := (49, [.ref l0, .int l1, .int l2], [.int l1, .ref x1], h)) r184_48 rfl rfl (E_aI r184_49 (fun x2 => E_ic r184_50 (v := (-1)) (by decide) (E_i2_ne r184_51 rfl (go (w := (59, [.ref l0, .int l1, .int l2], [.ref l0], h)) r184_58 rfl rfl (E_gR r184_59 rfl (fun x3 => go (w := (63, [.ref l0, .int l1, .int l2], [.int l1, .ref x3], h)) r184_62 rfl rfl (E_aI r184_63 (fun x4 => E_bip r184_64 (v := 12) (by decide) (E_remc r184_66 (by decide) (E_ri r184_67 (mq184)))))))) (E_ic r184_54 (v := (-1)) (by decide) (E_gt r184_55 rfl (E_ri r184_67 (mq184)))))))))
theorem b184_68 (d : Nat) (l0 : Nat) (l1 : Int32) (l2 : Int32) (h : aH) (K : Option Value → aH → Prop) : E scr false d 184 68 [.ref l0, .int l1, .int l2] [] h K = gR scr h l0 9 10 (fun x1 : Nat => aI scr h x1 l1 (fun x2 : Int32 => (if x2 = (-1) then K (some (.int (-1))) h else gR scr h l0 9 10 (fun x3 : Nat => aI scr h x3 l1 (fun x4 : Int32 => K (some (.int (x4 / 12))) h))))) := go (w := (69, [.ref l0, .int l1, .int l2], [.ref l0], h)) r184_68 rfl rfl (E_gR r184_69 rfl (fun x1 => go (w := (73, [.ref l0, .int l1, .int l2], [.int l1, .ref x1], h)) r184_72 rfl rfl (E_aI r184_73 (fun x2 => E_ic r184_74 (v := (-1)) (by decide) (E_i2_ne r184_75 rfl (go (w := (83, [.ref l0, .int l1, .int l2], [.ref l0], h)) r184_82 rfl rfl (E_gR r184_83 rfl (fun x3 => go (w := (87, [.ref l0, .int l1, .int l2], [.int l1, .ref x3], h)) r184_86 rfl rfl (E_aI r184_87 (fun x4 => E_bip r184_88 (v := 12) (by decide) (E_divc r184_90 (by decide) (E_ri r184_91 (mq184)))))))) (E_ic r184_78 (v := (-1)) (by decide) (E_gt r184_79 rfl (E_ri r184_91 (mq184)))))))))
theorem b184_92 (d : Nat) (l0 : Nat) (l1 : Int32) (l2 : Int32) (h : aH) (K : Option Value → aH → Prop) : E scr false d 184 92 [.ref l0, .int l1, .int l2] [] h K = gR scr h l0 9 3 (fun x1 : Nat => aI scr h x1 l1 (fun x2 : Int32 => K (some (.int x2)) h)) := go (w := (93, [.ref l0, .int l1, .int l2], [.ref l0], h)) r184_92 rfl rfl (E_gR r184_93 rfl (fun x1 => go (w := (97, [.ref l0, .int l1, .int l2], [.int l1, .ref x1], h)) r184_96 rfl rfl (E_aI r184_97 (fun x2 => E_ri r184_98 (mq184)))))
theorem b184_99 (d : Nat) (l0 : Nat) (l1 : Int32) (l2 : Int32) (h : aH) (K : Option Value → aH → Prop) : E scr false d 184 99 [.ref l0, .int l1, .int l2] [] h K = gR scr h l0 9 4 (fun x1 : Nat => aI scr h x1 l1 (fun x2 : Int32 => K (some (.int x2)) h)) := go (w := (100, [.ref l0, .int l1, .int l2], [.ref l0], h)) r184_99 rfl rfl (E_gR r184_100 rfl (fun x1 => go (w := (104, [.ref l0, .int l1, .int l2], [.int l1, .ref x1], h)) r184_103 rfl rfl (E_aI r184_104 (fun x2 => E_ri r184_105 (mq184)))))
theorem b184_106 (d : Nat) (l0 : Nat) (l1 : Int32) (l2 : Int32) (h : aH) (K : Option Value → aH → Prop) : E scr false d 184 106 [.ref l0, .int l1, .int l2] [] h K = gR scr h l0 9 11 (fun x1 : Nat => aI scr h x1 l1 (fun x2 : Int32 => K (some (.int x2)) h)) := go (w := (107, [.ref l0, .int l1, .int l2], [.ref l0], h)) r184_106 rfl rfl (E_gR r184_107 rfl (fun x1 => go (w := (111, [.ref l0, .int l1, .int l2], [.int l1, .ref x1], h)) r184_110 rfl rfl (E_aI r184_111 (fun x2 => E_ri r184_112 (mq184)))))
theorem b184_113 (d : Nat) (l0 : Nat) (l1 : Int32) (l2 : Int32) (h : aH) (K : Option Value → aH → Prop) : E scr false d 184 113 [.ref l0, .int l1, .int l2] [] h K = K (some (.int (-1))) h := E_ic r184_113 (v := (-1)) (by decide) (E_ri r184_114 (mq184))
-- 185 SecondNearestModel.isHerald(I)Z
theorem mq185 : mRet 185 = (some .boolean) := by decide +kernel
theorem r185_0 : rowAt 185 0 = some (.iload_n 1, 1, 0, 0) := by decide +kernel
theorem r185_1 : rowAt 185 1 = some (.i2l, 1, 0, 0) := by decide +kernel
theorem r185_2 : rowAt 185 2 = some (.lconst 0, 1, 0, 0) := by decide +kernel
theorem r185_3 : rowAt 185 3 = some (.aload_n 0, 1, 0, 0) := by decide +kernel
theorem r185_4 : rowAt 185 4 = some (.getfield 7, 3, 9, 1) := by decide +kernel
theorem r185_7 : rowAt 185 7 = some (.iconst 3, 1, 0, 0) := by decide +kernel
theorem r185_8 : rowAt 185 8 = some (.iaload, 1, 0, 0) := by decide +kernel
theorem r185_9 : rowAt 185 9 = some (.iconst 1, 1, 0, 0) := by decide +kernel
theorem r185_10 : rowAt 185 10 = some (.isub, 1, 0, 0) := by decide +kernel
theorem r185_11 : rowAt 185 11 = some (.i2l, 1, 0, 0) := by decide +kernel
theorem r185_12 : rowAt 185 12 = some (.invokestatic 143, 3, 121, 1) := by decide +kernel
theorem r185_15 : rowAt 185 15 = some (.ireturn, 1, 0, 0) := by decide +kernel
theorem en185 (a0 : Nat) (a1 : Int32) : iniL 185 [.ref a0, .int a1] = [.ref a0, .int a1] := ini_n mi185 rfl
theorem b185_0 (d : Nat) (l0 : Nat) (l1 : Int32) (h : aH) (K : Option Value → aH → Prop) : E scr false (d + 1) 185 0 [.ref l0, .int l1] [] h K = gR scr h l0 9 1 (fun x1 : Nat => aI scr h x1 3 (fun x2 : Int32 => sI scr d 121 [.long (Int32.toInt64 l1), .long 0, .long (Int32.toInt64 (x2 - 1))] h (fun (x4 : Int32) (h3 : aH) => (x4 &&& 1 = x4 ∧ K (some (.int x4)) h3)))) := go (w := (1, [.ref l0, .int l1], [.int l1], h)) r185_0 rfl rfl (go (w := (2, [.ref l0, .int l1], [.long (Int32.toInt64 l1)], h)) r185_1 rfl rfl (E_lc r185_2 (v := 0) (by decide) (go (w := (4, [.ref l0, .int l1], [.ref l0, .long 0, .long (Int32.toInt64 l1)], h)) r185_3 rfl rfl (E_gR r185_4 rfl (fun x1 => E_ic r185_7 (v := 3) (by decide) (E_aI r185_8 (fun x2 => E_ic r185_9 (v := 1) (by decide) (go (w := (11, [.ref l0, .int l1], [.int (x2 - 1), .long 0, .long (Int32.toInt64 l1)], h)) r185_10 rfl rfl (go (w := (12, [.ref l0, .int l1], [.long (Int32.toInt64 (x2 - 1)), .long 0, .long (Int32.toInt64 l1)], h)) r185_11 rfl rfl (E_sI r185_12 (As := [.long (Int32.toInt64 l1), .long 0, .long (Int32.toInt64 (x2 - 1))]) (rest := []) (cut_n mi121.1 rfl rfl) (rm8_n mi121.2.1 (Nat.le_of_ble_eq_true rfl) (Nat.le_of_ble_eq_true rfl)) mi121.2.2 (fun x4 h3 => E_zret r185_15 (mq185))))))))))))
-- 186 SecondNearestModel.herald(II)I
theorem mq186 : mRet 186 = (some .int) := by decide +kernel
theorem r186_0 : rowAt 186 0 = some (.aload_n 0, 1, 0, 0) := by decide +kernel
theorem r186_1 : rowAt 186 1 = some (.iload_n 1, 1, 0, 0) := by decide +kernel
theorem r186_2 : rowAt 186 2 = some (.invokevirtual 418, 3, 185, 0) := by decide +kernel
theorem r186_5 : rowAt 186 5 = some (.ifCond .eq 13, 3, 0, 0) := by decide +kernel
theorem r186_8 : rowAt 186 8 = some (.iload_n 2, 1, 0, 0) := by decide +kernel
theorem r186_9 : rowAt 186 9 = some (.i2l, 1, 0, 0) := by decide +kernel
theorem r186_10 : rowAt 186 10 = some (.lconst 0, 1, 0, 0) := by decide +kernel
theorem r186_11 : rowAt 186 11 = some (.lconst 1, 1, 0, 0) := by decide +kernel
theorem r186_12 : rowAt 186 12 = some (.invokestatic 143, 3, 121, 1) := by decide +kernel
theorem r186_15 : rowAt 186 15 = some (.ifCond .ne 7, 3, 0, 0) := by decide +kernel
theorem r186_18 : rowAt 186 18 = some (.iconst (-1), 1, 0, 0) := by decide +kernel
theorem r186_19 : rowAt 186 19 = some (.goto 34, 3, 0, 0) := by decide +kernel
theorem r186_22 : rowAt 186 22 = some (.iload_n 2, 1, 0, 0) := by decide +kernel
theorem r186_23 : rowAt 186 23 = some (.ifCond .ne 18, 3, 0, 0) := by decide +kernel
theorem r186_26 : rowAt 186 26 = some (.aload_n 0, 1, 0, 0) := by decide +kernel
theorem r186_27 : rowAt 186 27 = some (.getfield 37, 3, 9, 10) := by decide +kernel
theorem r186_30 : rowAt 186 30 = some (.bipush 12, 2, 0, 0) := by decide +kernel
theorem r186_32 : rowAt 186 32 = some (.iload_n 1, 1, 0, 0) := by decide +kernel
theorem r186_33 : rowAt 186 33 = some (.iadd, 1, 0, 0) := by decide +kernel
theorem r186_34 : rowAt 186 34 = some (.iaload, 1, 0, 0) := by decide +kernel
theorem r186_35 : rowAt 186 35 = some (.bipush 12, 2, 0, 0) := by decide +kernel
theorem r186_37 : rowAt 186 37 = some (.irem, 1, 0, 0) := by decide +kernel
theorem r186_38 : rowAt 186 38 = some (.goto 15, 3, 0, 0) := by decide +kernel
theorem r186_41 : rowAt 186 41 = some (.aload_n 0, 1, 0, 0) := by decide +kernel
theorem r186_42 : rowAt 186 42 = some (.getfield 37, 3, 9, 10) := by decide +kernel
theorem r186_45 : rowAt 186 45 = some (.bipush 12, 2, 0, 0) := by decide +kernel
theorem r186_47 : rowAt 186 47 = some (.iload_n 1, 1, 0, 0) := by decide +kernel
theorem r186_48 : rowAt 186 48 = some (.iadd, 1, 0, 0) := by decide +kernel
theorem r186_49 : rowAt 186 49 = some (.iaload, 1, 0, 0) := by decide +kernel
theorem r186_50 : rowAt 186 50 = some (.bipush 12, 2, 0, 0) := by decide +kernel
theorem r186_52 : rowAt 186 52 = some (.idiv, 1, 0, 0) := by decide +kernel
theorem r186_53 : rowAt 186 53 = some (.ireturn, 1, 0, 0) := by decide +kernel
theorem en186 (a0 : Nat) (a1 : Int32) (a2 : Int32) : iniL 186 [.ref a0, .int a1, .int a2] = [.ref a0, .int a1, .int a2] := ini_n mi186 rfl
theorem b186_0 (d : Nat) (l0 : Nat) (l1 : Int32) (l2 : Int32) (h : aH) (K : Option Value → aH → Prop) : E scr false (d + 1) 186 0 [.ref l0, .int l1, .int l2] [] h K = vI scr d 185 [.ref l0, .int l1] h (fun (x2 : Int32) (h1 : aH) => (if x2 = 0 then E scr false (d + 1) 186 18 [.ref l0, .int l1, .int l2] [] h1 K else sI scr d 121 [.long (Int32.toInt64 l2), .long 0, .long 1] h1 (fun (x4 : Int32) (h3 : aH) => (if x4 = 0 then E scr false (d + 1) 186 18 [.ref l0, .int l1, .int l2] [] h3 K else (if l2 = 0 then gR scr h3 l0 9 10 (fun x7 : Nat => aI scr h3 x7 ((12 + l1)) (fun x8 : Int32 => K (some (.int (irm x8 12))) h3)) else gR scr h3 l0 9 10 (fun x5 : Nat => aI scr h3 x5 ((12 + l1)) (fun x6 : Int32 => K (some (.int (x6 / 12))) h3))))))) := go (w := (1, [.ref l0, .int l1, .int l2], [.ref l0], h)) r186_0 rfl rfl (go (w := (2, [.ref l0, .int l1, .int l2], [.int l1, .ref l0], h)) r186_1 rfl rfl (E_vI r186_2 (As := [.ref l0, .int l1]) (rest := []) (cut_n mi185.1 rfl rfl) (rm8_n mi185.2.1 (Nat.le_of_ble_eq_true rfl) (Nat.le_of_ble_eq_true rfl)) mi185.2.2 (fun x2 h1 => E_i1_eq r186_5 rfl (rfl) (go (w := (9, [.ref l0, .int l1, .int l2], [.int l2], h1)) r186_8 rfl rfl (go (w := (10, [.ref l0, .int l1, .int l2], [.long (Int32.toInt64 l2)], h1)) r186_9 rfl rfl (E_lc r186_10 (v := 0) (by decide) (E_lc r186_11 (v := 1) (by decide) (E_sI r186_12 (As := [.long (Int32.toInt64 l2), .long 0, .long 1]) (rest := []) (cut_n mi121.1 rfl rfl) (rm8_n mi121.2.1 (Nat.le_of_ble_eq_true rfl) (Nat.le_of_ble_eq_true rfl)) mi121.2.2 (fun x4 h3 => E_i1_ne r186_15 rfl (go (w := (23, [.ref l0, .int l1, .int l2], [.int l2], h3)) r186_22 rfl rfl (E_i1_ne r186_23 rfl (go (w := (42, [.ref l0, .int l1, .int l2], [.ref l0], h3)) r186_41 rfl rfl (E_gR r186_42 rfl (fun x5 => E_bip r186_45 (v := 12) (by decide) (go (w := (48, [.ref l0, .int l1, .int l2], [.int l1, .int 12, .ref x5], h3)) r186_47 rfl rfl (go (w := (49, [.ref l0, .int l1, .int l2], [.int (12 + l1), .ref x5], h3)) r186_48 rfl rfl (E_aI r186_49 (fun x6 => E_bip r186_50 (v := 12) (by decide) (E_divc r186_52 (by decide) (E_ri r186_53 (mq186)))))))))) (go (w := (27, [.ref l0, .int l1, .int l2], [.ref l0], h3)) r186_26 rfl rfl (E_gR r186_27 rfl (fun x7 => E_bip r186_30 (v := 12) (by decide) (go (w := (33, [.ref l0, .int l1, .int l2], [.int l1, .int 12, .ref x7], h3)) r186_32 rfl rfl (go (w := (34, [.ref l0, .int l1, .int l2], [.int (12 + l1), .ref x7], h3)) r186_33 rfl rfl (E_aI r186_34 (fun x8 => E_bip r186_35 (v := 12) (by decide) (E_remc r186_37 (by decide) (E_gt r186_38 rfl (E_ri r186_53 (mq186))))))))))))) (rfl))))))))))
theorem b186_18 (d : Nat) (l0 : Nat) (l1 : Int32) (l2 : Int32) (h : aH) (K : Option Value → aH → Prop) : E scr false d 186 18 [.ref l0, .int l1, .int l2] [] h K = K (some (.int (-1))) h := E_ic r186_18 (v := (-1)) (by decide) (E_gt r186_19 rfl (E_ri r186_53 (mq186)))
