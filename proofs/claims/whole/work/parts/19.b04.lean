variable {scr : List Int32}
-- 135 SecondNearestModel.fillsGates()V
theorem mq135 : mRet 135 = none := by decide +kernel
theorem r135_0 : rowAt 135 0 = some (.iconst 0, 1, 0, 0) := by decide +kernel
theorem r135_1 : rowAt 135 1 = some (.istore_n 1, 1, 0, 0) := by decide +kernel
theorem r135_2 : rowAt 135 2 = some (.iconst 0, 1, 0, 0) := by decide +kernel
theorem r135_3 : rowAt 135 3 = some (.istore_n 2, 1, 0, 0) := by decide +kernel
theorem r135_4 : rowAt 135 4 = some (.iload_n 2, 1, 0, 0) := by decide +kernel
theorem r135_5 : rowAt 135 5 = some (.sipush 144, 3, 0, 0) := by decide +kernel
theorem r135_8 : rowAt 135 8 = some (.if_icmp .ge 63, 3, 0, 0) := by decide +kernel
theorem r135_11 : rowAt 135 11 = some (.aload_n 0, 1, 0, 0) := by decide +kernel
theorem r135_12 : rowAt 135 12 = some (.iload_n 2, 1, 0, 0) := by decide +kernel
theorem r135_13 : rowAt 135 13 = some (.invokevirtual 160, 3, 126, 0) := by decide +kernel
theorem r135_16 : rowAt 135 16 = some (.ifCond .eq 17, 3, 0, 0) := by decide +kernel
theorem r135_19 : rowAt 135 19 = some (.aload_n 0, 1, 0, 0) := by decide +kernel
theorem r135_20 : rowAt 135 20 = some (.getfield 13, 3, 9, 2) := by decide +kernel
theorem r135_23 : rowAt 135 23 = some (.iload_n 2, 1, 0, 0) := by decide +kernel
theorem r135_24 : rowAt 135 24 = some (.iaload, 1, 0, 0) := by decide +kernel
theorem r135_25 : rowAt 135 25 = some (.iconst 3, 1, 0, 0) := by decide +kernel
theorem r135_26 : rowAt 135 26 = some (.if_icmp .ne 7, 3, 0, 0) := by decide +kernel
theorem r135_29 : rowAt 135 29 = some (.iconst 1, 1, 0, 0) := by decide +kernel
theorem r135_30 : rowAt 135 30 = some (.goto 4, 3, 0, 0) := by decide +kernel
theorem r135_33 : rowAt 135 33 = some (.iconst 0, 1, 0, 0) := by decide +kernel
theorem r135_34 : rowAt 135 34 = some (.istore_n 3, 1, 0, 0) := by decide +kernel
theorem r135_35 : rowAt 135 35 = some (.aload_n 0, 1, 0, 0) := by decide +kernel
theorem r135_36 : rowAt 135 36 = some (.getfield 52, 3, 9, 15) := by decide +kernel
theorem r135_39 : rowAt 135 39 = some (.iload_n 2, 1, 0, 0) := by decide +kernel
theorem r135_40 : rowAt 135 40 = some (.iload_n 3, 1, 0, 0) := by decide +kernel
theorem r135_41 : rowAt 135 41 = some (.ifCond .eq 7, 3, 0, 0) := by decide +kernel
theorem r135_44 : rowAt 135 44 = some (.iconst 0, 1, 0, 0) := by decide +kernel
theorem r135_45 : rowAt 135 45 = some (.goto 5, 3, 0, 0) := by decide +kernel
theorem r135_48 : rowAt 135 48 = some (.bipush 99, 2, 0, 0) := by decide +kernel
theorem r135_50 : rowAt 135 50 = some (.iastore, 1, 0, 0) := by decide +kernel
theorem r135_51 : rowAt 135 51 = some (.iload_n 3, 1, 0, 0) := by decide +kernel
theorem r135_52 : rowAt 135 52 = some (.ifCond .eq 13, 3, 0, 0) := by decide +kernel
theorem r135_55 : rowAt 135 55 = some (.aload_n 0, 1, 0, 0) := by decide +kernel
theorem r135_56 : rowAt 135 56 = some (.getfield 55, 3, 9, 16) := by decide +kernel
theorem r135_59 : rowAt 135 59 = some (.iload_n 1, 1, 0, 0) := by decide +kernel
theorem r135_60 : rowAt 135 60 = some (.iload_n 2, 1, 0, 0) := by decide +kernel
theorem r135_61 : rowAt 135 61 = some (.iastore, 1, 0, 0) := by decide +kernel
theorem r135_62 : rowAt 135 62 = some (.iinc 1 1, 3, 0, 0) := by decide +kernel
theorem r135_65 : rowAt 135 65 = some (.iinc 2 1, 3, 0, 0) := by decide +kernel
theorem r135_68 : rowAt 135 68 = some (.goto (-64), 3, 0, 0) := by decide +kernel
theorem r135_71 : rowAt 135 71 = some (.iconst 0, 1, 0, 0) := by decide +kernel
theorem r135_72 : rowAt 135 72 = some (.istore_n 2, 1, 0, 0) := by decide +kernel
theorem r135_73 : rowAt 135 73 = some (.iload_n 2, 1, 0, 0) := by decide +kernel
theorem r135_74 : rowAt 135 74 = some (.iload_n 1, 1, 0, 0) := by decide +kernel
theorem r135_75 : rowAt 135 75 = some (.if_icmp .ge 98, 3, 0, 0) := by decide +kernel
theorem r135_78 : rowAt 135 78 = some (.iconst 0, 1, 0, 0) := by decide +kernel
theorem r135_79 : rowAt 135 79 = some (.istore_n 3, 1, 0, 0) := by decide +kernel
theorem r135_80 : rowAt 135 80 = some (.iload_n 3, 1, 0, 0) := by decide +kernel
theorem r135_81 : rowAt 135 81 = some (.bipush 8, 2, 0, 0) := by decide +kernel
theorem r135_83 : rowAt 135 83 = some (.if_icmp .ge 84, 3, 0, 0) := by decide +kernel
theorem r135_86 : rowAt 135 86 = some (.aload_n 0, 1, 0, 0) := by decide +kernel
theorem r135_87 : rowAt 135 87 = some (.aload_n 0, 1, 0, 0) := by decide +kernel
theorem r135_88 : rowAt 135 88 = some (.getfield 55, 3, 9, 16) := by decide +kernel
theorem r135_91 : rowAt 135 91 = some (.iload_n 2, 1, 0, 0) := by decide +kernel
theorem r135_92 : rowAt 135 92 = some (.iaload, 1, 0, 0) := by decide +kernel
theorem r135_93 : rowAt 135 93 = some (.iload_n 3, 1, 0, 0) := by decide +kernel
theorem r135_94 : rowAt 135 94 = some (.invokevirtual 183, 3, 132, 0) := by decide +kernel
theorem r135_97 : rowAt 135 97 = some (.istore 4, 2, 0, 0) := by decide +kernel
theorem r135_99 : rowAt 135 99 = some (.iload 4, 2, 0, 0) := by decide +kernel
theorem r135_101 : rowAt 135 101 = some (.iconst (-1), 1, 0, 0) := by decide +kernel
theorem r135_102 : rowAt 135 102 = some (.if_icmp .eq 59, 3, 0, 0) := by decide +kernel
theorem r135_105 : rowAt 135 105 = some (.aload_n 0, 1, 0, 0) := by decide +kernel
theorem r135_106 : rowAt 135 106 = some (.getfield 13, 3, 9, 2) := by decide +kernel
theorem r135_109 : rowAt 135 109 = some (.iload 4, 2, 0, 0) := by decide +kernel
theorem r135_111 : rowAt 135 111 = some (.iaload, 1, 0, 0) := by decide +kernel
theorem r135_112 : rowAt 135 112 = some (.invokestatic 163, 3, 129, 1) := by decide +kernel
theorem r135_115 : rowAt 135 115 = some (.ifCond .eq 46, 3, 0, 0) := by decide +kernel
theorem r135_118 : rowAt 135 118 = some (.aload_n 0, 1, 0, 0) := by decide +kernel
theorem r135_119 : rowAt 135 119 = some (.getfield 52, 3, 9, 15) := by decide +kernel
theorem r135_122 : rowAt 135 122 = some (.iload 4, 2, 0, 0) := by decide +kernel
theorem r135_124 : rowAt 135 124 = some (.iaload, 1, 0, 0) := by decide +kernel
theorem r135_125 : rowAt 135 125 = some (.bipush 99, 2, 0, 0) := by decide +kernel
theorem r135_127 : rowAt 135 127 = some (.if_icmp .ne 34, 3, 0, 0) := by decide +kernel
theorem r135_130 : rowAt 135 130 = some (.aload_n 0, 1, 0, 0) := by decide +kernel
theorem r135_131 : rowAt 135 131 = some (.getfield 52, 3, 9, 15) := by decide +kernel
theorem r135_134 : rowAt 135 134 = some (.iload 4, 2, 0, 0) := by decide +kernel
theorem r135_136 : rowAt 135 136 = some (.aload_n 0, 1, 0, 0) := by decide +kernel
theorem r135_137 : rowAt 135 137 = some (.getfield 52, 3, 9, 15) := by decide +kernel
theorem r135_140 : rowAt 135 140 = some (.aload_n 0, 1, 0, 0) := by decide +kernel
theorem r135_141 : rowAt 135 141 = some (.getfield 55, 3, 9, 16) := by decide +kernel
theorem r135_144 : rowAt 135 144 = some (.iload_n 2, 1, 0, 0) := by decide +kernel
theorem r135_145 : rowAt 135 145 = some (.iaload, 1, 0, 0) := by decide +kernel
theorem r135_146 : rowAt 135 146 = some (.iaload, 1, 0, 0) := by decide +kernel
theorem r135_147 : rowAt 135 147 = some (.iconst 1, 1, 0, 0) := by decide +kernel
theorem r135_148 : rowAt 135 148 = some (.iadd, 1, 0, 0) := by decide +kernel
theorem r135_149 : rowAt 135 149 = some (.iastore, 1, 0, 0) := by decide +kernel
theorem r135_150 : rowAt 135 150 = some (.aload_n 0, 1, 0, 0) := by decide +kernel
theorem r135_151 : rowAt 135 151 = some (.getfield 55, 3, 9, 16) := by decide +kernel
theorem r135_154 : rowAt 135 154 = some (.iload_n 1, 1, 0, 0) := by decide +kernel
theorem r135_155 : rowAt 135 155 = some (.iload 4, 2, 0, 0) := by decide +kernel
theorem r135_157 : rowAt 135 157 = some (.iastore, 1, 0, 0) := by decide +kernel
theorem r135_158 : rowAt 135 158 = some (.iinc 1 1, 3, 0, 0) := by decide +kernel
theorem r135_161 : rowAt 135 161 = some (.iinc 3 1, 3, 0, 0) := by decide +kernel
theorem r135_164 : rowAt 135 164 = some (.goto (-84), 3, 0, 0) := by decide +kernel
theorem r135_167 : rowAt 135 167 = some (.iinc 2 1, 3, 0, 0) := by decide +kernel
theorem r135_170 : rowAt 135 170 = some (.goto (-97), 3, 0, 0) := by decide +kernel
theorem r135_173 : rowAt 135 173 = some (.return_, 1, 0, 0) := by decide +kernel
theorem en135 (a0 : Nat) : iniL 135 [.ref a0] = [.ref a0, .null, .null, .null, .null] := ini_n mi135 rfl
theorem b135_0 (d : Nat) (l0 : Nat) (h : aH) (K : Option Value → aH → Prop) : E scr false d 135 0 [.ref l0, .null, .null, .null, .null] [] h K = E scr false d 135 4 [.ref l0, .int 0, .int 0, .null, .null] [] h K := E_ic r135_0 (v := 0) (by decide) (go (w := (2, [.ref l0, .int 0, .null, .null, .null], [], h)) r135_1 rfl rfl (E_ic r135_2 (v := 0) (by decide) (go (w := (4, [.ref l0, .int 0, .int 0, .null, .null], [], h)) r135_3 rfl rfl (rfl))))
theorem b135_4 (d : Nat) (l0 : Nat) (l1 : Int32) (l2 : Int32) (l3 : Value) (h : aH) (K : Option Value → aH → Prop) : E scr false (d + 1) 135 4 [.ref l0, .int l1, .int l2, l3, .null] [] h K = (if 144 ≤ l2 then E scr false (d + 1) 135 73 [.ref l0, .int l1, .int 0, l3, .null] [] h K else vI scr d 126 [.ref l0, .int l2] h (fun (x2 : Int32) (h1 : aH) => (if x2 = 0 then E scr false (d + 1) 135 33 [.ref l0, .int l1, .int l2, l3, .null] [] h1 K else gR scr h1 l0 9 2 (fun x3 : Nat => aI scr h1 x3 l2 (fun x4 : Int32 => (if x4 = 3 then E scr false (d + 1) 135 34 [.ref l0, .int l1, .int l2, l3, .null] [.int 1] h1 K else E scr false (d + 1) 135 33 [.ref l0, .int l1, .int l2, l3, .null] [] h1 K)))))) := go (w := (5, [.ref l0, .int l1, .int l2, l3, .null], [.int l2], h)) r135_4 rfl rfl (E_sip r135_5 (v := 144) (by decide) (E_i2_ge r135_8 rfl (E_ic r135_71 (v := 0) (by decide) (go (w := (73, [.ref l0, .int l1, .int 0, l3, .null], [], h)) r135_72 rfl rfl (rfl))) (go (w := (12, [.ref l0, .int l1, .int l2, l3, .null], [.ref l0], h)) r135_11 rfl rfl (go (w := (13, [.ref l0, .int l1, .int l2, l3, .null], [.int l2, .ref l0], h)) r135_12 rfl rfl (E_vI r135_13 (As := [.ref l0, .int l2]) (rest := []) (cut_n mi126.1 rfl rfl) (rm8_n mi126.2.1 (Nat.le_of_ble_eq_true rfl) (Nat.le_of_ble_eq_true rfl)) mi126.2.2 (fun x2 h1 => E_i1_eq r135_16 rfl (rfl) (go (w := (20, [.ref l0, .int l1, .int l2, l3, .null], [.ref l0], h1)) r135_19 rfl rfl (E_gR r135_20 rfl (fun x3 => go (w := (24, [.ref l0, .int l1, .int l2, l3, .null], [.int l2, .ref x3], h1)) r135_23 rfl rfl (E_aI r135_24 (fun x4 => E_ic r135_25 (v := 3) (by decide) (E_i2_ne r135_26 rfl (rfl) (E_ic r135_29 (v := 1) (by decide) (E_gt r135_30 rfl (rfl)))))))))))))))
theorem b135_33 (d : Nat) (l0 : Nat) (l1 : Int32) (l2 : Int32) (l3 : Value) (h : aH) (K : Option Value → aH → Prop) : E scr false d 135 33 [.ref l0, .int l1, .int l2, l3, .null] [] h K = E scr false d 135 34 [.ref l0, .int l1, .int l2, l3, .null] [.int 0] h K := E_ic r135_33 (v := 0) (by decide) (rfl)
theorem b135_34 (d : Nat) (l0 : Nat) (l1 : Int32) (l2 : Int32) (l3 : Value) (s0 : Int32) (h : aH) (K : Option Value → aH → Prop) : E scr false d 135 34 [.ref l0, .int l1, .int l2, l3, .null] [.int s0] h K = gR scr h l0 9 15 (fun x1 : Nat => (if s0 = 0 then E scr false d 135 50 [.ref l0, .int l1, .int l2, .int s0, .null] [.int 99, .int l2, .ref x1] h K else E scr false d 135 50 [.ref l0, .int l1, .int l2, .int s0, .null] [.int 0, .int l2, .ref x1] h K)) := go (w := (35, [.ref l0, .int l1, .int l2, .int s0, .null], [], h)) r135_34 rfl rfl (go (w := (36, [.ref l0, .int l1, .int l2, .int s0, .null], [.ref l0], h)) r135_35 rfl rfl (E_gR r135_36 rfl (fun x1 => go (w := (40, [.ref l0, .int l1, .int l2, .int s0, .null], [.int l2, .ref x1], h)) r135_39 rfl rfl (go (w := (41, [.ref l0, .int l1, .int l2, .int s0, .null], [.int s0, .int l2, .ref x1], h)) r135_40 rfl rfl (E_i1_eq r135_41 rfl (E_bip r135_48 (v := 99) (by decide) (rfl)) (E_ic r135_44 (v := 0) (by decide) (E_gt r135_45 rfl (rfl))))))))
theorem b135_50 (d : Nat) (l0 : Nat) (l1 : Int32) (l2 : Int32) (l3 : Int32) (s0 : Int32) (s1 : Int32) (s2 : Nat) (h : aH) (K : Option Value → aH → Prop) : E scr false d 135 50 [.ref l0, .int l1, .int l2, .int l3, .null] [.int s0, .int s1, .ref s2] h K = wI h s2 s1 s0 (fun h1 : aH => (if l3 = 0 then E scr false d 135 65 [.ref l0, .int l1, .int l2, .int l3, .null] [] h1 K else gR scr h1 l0 9 16 (fun x2 : Nat => wI h1 x2 l1 l2 (fun h3 : aH => E scr false d 135 65 [.ref l0, .int (l1 + 1), .int l2, .int l3, .null] [] h3 K)))) := E_wI r135_50 (fun h1 => go (w := (52, [.ref l0, .int l1, .int l2, .int l3, .null], [.int l3], h1)) r135_51 rfl rfl (E_i1_eq r135_52 rfl (rfl) (go (w := (56, [.ref l0, .int l1, .int l2, .int l3, .null], [.ref l0], h1)) r135_55 rfl rfl (E_gR r135_56 rfl (fun x2 => go (w := (60, [.ref l0, .int l1, .int l2, .int l3, .null], [.int l1, .ref x2], h1)) r135_59 rfl rfl (go (w := (61, [.ref l0, .int l1, .int l2, .int l3, .null], [.int l2, .int l1, .ref x2], h1)) r135_60 rfl rfl (E_wI r135_61 (fun h3 => E_inc r135_62 (c := 1) rfl (by decide) (L' := [.ref l0, .int (l1 + 1), .int l2, .int l3, .null]) rfl (rfl)))))))))
theorem b135_65 (d : Nat) (l0 : Nat) (l1 : Int32) (l2 : Int32) (l3 : Int32) (h : aH) (K : Option Value → aH → Prop) : E scr false d 135 65 [.ref l0, .int l1, .int l2, .int l3, .null] [] h K = E scr false d 135 4 [.ref l0, .int l1, .int (l2 + 1), .int l3, .null] [] h K := E_inc r135_65 (c := 1) rfl (by decide) (L' := [.ref l0, .int l1, .int (l2 + 1), .int l3, .null]) rfl (E_gt r135_68 rfl (rfl))
theorem b135_73 (d : Nat) (l0 : Nat) (l1 : Int32) (l2 : Int32) (l3 : Value) (l4 : Value) (h : aH) (K : Option Value → aH → Prop) : E scr false d 135 73 [.ref l0, .int l1, .int l2, l3, l4] [] h K = (if l1 ≤ l2 then K none h else E scr false d 135 80 [.ref l0, .int l1, .int l2, .int 0, l4] [] h K) := go (w := (74, [.ref l0, .int l1, .int l2, l3, l4], [.int l2], h)) r135_73 rfl rfl (go (w := (75, [.ref l0, .int l1, .int l2, l3, l4], [.int l1, .int l2], h)) r135_74 rfl rfl (E_i2_ge r135_75 rfl (E_vret r135_173 (mq135)) (E_ic r135_78 (v := 0) (by decide) (go (w := (80, [.ref l0, .int l1, .int l2, .int 0, l4], [], h)) r135_79 rfl rfl (rfl)))))
theorem b135_80 (d : Nat) (l0 : Nat) (l1 : Int32) (l2 : Int32) (l3 : Int32) (l4 : Value) (h : aH) (K : Option Value → aH → Prop) : E scr false (d + 1) 135 80 [.ref l0, .int l1, .int l2, .int l3, l4] [] h K = (if 8 ≤ l3 then E scr false (d + 1) 135 73 [.ref l0, .int l1, .int (l2 + 1), .int l3, l4] [] h K else gR scr h l0 9 16 (fun x1 : Nat => aI scr h x1 l2 (fun x2 : Int32 => vI scr d 132 [.ref l0, .int x2, .int l3] h (fun (x4 : Int32) (h3 : aH) => (if x4 = (-1) then E scr false (d + 1) 135 161 [.ref l0, .int l1, .int l2, .int l3, .int x4] [] h3 K else gR scr h3 l0 9 2 (fun x5 : Nat => aI scr h3 x5 x4 (fun x6 : Int32 => sI scr d 129 [.int x6] h3 (fun (x8 : Int32) (h7 : aH) => (if x8 = 0 then E scr false (d + 1) 135 161 [.ref l0, .int l1, .int l2, .int l3, .int x4] [] h7 K else gR scr h7 l0 9 15 (fun x9 : Nat => aI scr h7 x9 x4 (fun x10 : Int32 => (if x10 = 99 then gR scr h7 l0 9 15 (fun x11 : Nat => gR scr h7 l0 9 15 (fun x12 : Nat => gR scr h7 l0 9 16 (fun x13 : Nat => aI scr h7 x13 l2 (fun x14 : Int32 => aI scr h7 x12 x14 (fun x15 : Int32 => wI h7 x11 x4 ((x15 + 1)) (fun h16 : aH => gR scr h16 l0 9 16 (fun x17 : Nat => wI h16 x17 l1 x4 (fun h18 : aH => E scr false (d + 1) 135 161 [.ref l0, .int (l1 + 1), .int l2, .int l3, .int x4] [] h18 K)))))))) else E scr false (d + 1) 135 161 [.ref l0, .int l1, .int l2, .int l3, .int x4] [] h7 K)))))))))))) := go (w := (81, [.ref l0, .int l1, .int l2, .int l3, l4], [.int l3], h)) r135_80 rfl rfl (E_bip r135_81 (v := 8) (by decide) (E_i2_ge r135_83 rfl (E_inc r135_167 (c := 1) rfl (by decide) (L' := [.ref l0, .int l1, .int (l2 + 1), .int l3, l4]) rfl (E_gt r135_170 rfl (rfl))) (go (w := (87, [.ref l0, .int l1, .int l2, .int l3, l4], [.ref l0], h)) r135_86 rfl rfl (go (w := (88, [.ref l0, .int l1, .int l2, .int l3, l4], [.ref l0, .ref l0], h)) r135_87 rfl rfl (E_gR r135_88 rfl (fun x1 => go (w := (92, [.ref l0, .int l1, .int l2, .int l3, l4], [.int l2, .ref x1, .ref l0], h)) r135_91 rfl rfl (E_aI r135_92 (fun x2 => go (w := (94, [.ref l0, .int l1, .int l2, .int l3, l4], [.int l3, .int x2, .ref l0], h)) r135_93 rfl rfl (E_vI r135_94 (As := [.ref l0, .int x2, .int l3]) (rest := []) (cut_n mi132.1 rfl rfl) (rm8_n mi132.2.1 (Nat.le_of_ble_eq_true rfl) (Nat.le_of_ble_eq_true rfl)) mi132.2.2 (fun x4 h3 => go (w := (99, [.ref l0, .int l1, .int l2, .int l3, .int x4], [], h3)) r135_97 rfl rfl (go (w := (101, [.ref l0, .int l1, .int l2, .int l3, .int x4], [.int x4], h3)) r135_99 rfl rfl (E_ic r135_101 (v := (-1)) (by decide) (E_i2_eq r135_102 rfl (rfl) (go (w := (106, [.ref l0, .int l1, .int l2, .int l3, .int x4], [.ref l0], h3)) r135_105 rfl rfl (E_gR r135_106 rfl (fun x5 => go (w := (111, [.ref l0, .int l1, .int l2, .int l3, .int x4], [.int x4, .ref x5], h3)) r135_109 rfl rfl (E_aI r135_111 (fun x6 => E_sI r135_112 (As := [.int x6]) (rest := []) (cut_n mi129.1 rfl rfl) (rm8_n mi129.2.1 (Nat.le_of_ble_eq_true rfl) (Nat.le_of_ble_eq_true rfl)) mi129.2.2 (fun x8 h7 => E_i1_eq r135_115 rfl (rfl) (go (w := (119, [.ref l0, .int l1, .int l2, .int l3, .int x4], [.ref l0], h7)) r135_118 rfl rfl (E_gR r135_119 rfl (fun x9 => go (w := (124, [.ref l0, .int l1, .int l2, .int l3, .int x4], [.int x4, .ref x9], h7)) r135_122 rfl rfl (E_aI r135_124 (fun x10 => E_bip r135_125 (v := 99) (by decide) (E_i2_ne r135_127 rfl (rfl) (go (w := (131, [.ref l0, .int l1, .int l2, .int l3, .int x4], [.ref l0], h7)) r135_130 rfl rfl (E_gR r135_131 rfl (fun x11 => go (w := (136, [.ref l0, .int l1, .int l2, .int l3, .int x4], [.int x4, .ref x11], h7)) r135_134 rfl rfl (go (w := (137, [.ref l0, .int l1, .int l2, .int l3, .int x4], [.ref l0, .int x4, .ref x11], h7)) r135_136 rfl rfl (E_gR r135_137 rfl (fun x12 => go (w := (141, [.ref l0, .int l1, .int l2, .int l3, .int x4], [.ref l0, .ref x12, .int x4, .ref x11], h7)) r135_140 rfl rfl (E_gR r135_141 rfl (fun x13 => go (w := (145, [.ref l0, .int l1, .int l2, .int l3, .int x4], [.int l2, .ref x13, .ref x12, .int x4, .ref x11], h7)) r135_144 rfl rfl (E_aI r135_145 (fun x14 => E_aI r135_146 (fun x15 => E_ic r135_147 (v := 1) (by decide) (go (w := (149, [.ref l0, .int l1, .int l2, .int l3, .int x4], [.int (x15 + 1), .int x4, .ref x11], h7)) r135_148 rfl rfl (E_wI r135_149 (fun h16 => go (w := (151, [.ref l0, .int l1, .int l2, .int l3, .int x4], [.ref l0], h16)) r135_150 rfl rfl (E_gR r135_151 rfl (fun x17 => go (w := (155, [.ref l0, .int l1, .int l2, .int l3, .int x4], [.int l1, .ref x17], h16)) r135_154 rfl rfl (go (w := (157, [.ref l0, .int l1, .int l2, .int l3, .int x4], [.int x4, .int l1, .ref x17], h16)) r135_155 rfl rfl (E_wI r135_157 (fun h18 => E_inc r135_158 (c := 1) rfl (by decide) (L' := [.ref l0, .int (l1 + 1), .int l2, .int l3, .int x4]) rfl (rfl)))))))))))))))))))))))))))))))))))))))))))))
theorem b135_161 (d : Nat) (l0 : Nat) (l1 : Int32) (l2 : Int32) (l3 : Int32) (l4 : Int32) (h : aH) (K : Option Value → aH → Prop) : E scr false d 135 161 [.ref l0, .int l1, .int l2, .int l3, .int l4] [] h K = E scr false d 135 80 [.ref l0, .int l1, .int l2, .int (l3 + 1), .int l4] [] h K := E_inc r135_161 (c := 1) rfl (by decide) (L' := [.ref l0, .int l1, .int l2, .int (l3 + 1), .int l4]) rfl (E_gt r135_164 rfl (rfl))
-- 136 SecondNearestModel.isAhead(III)Z
theorem mq136 : mRet 136 = (some .boolean) := by decide +kernel
theorem r136_0 : rowAt 136 0 = some (.aload_n 0, 1, 0, 0) := by decide +kernel
theorem r136_1 : rowAt 136 1 = some (.getfield 37, 3, 9, 10) := by decide +kernel
theorem r136_4 : rowAt 136 4 = some (.iload_n 1, 1, 0, 0) := by decide +kernel
theorem r136_5 : rowAt 136 5 = some (.iaload, 1, 0, 0) := by decide +kernel
theorem r136_6 : rowAt 136 6 = some (.iload_n 3, 1, 0, 0) := by decide +kernel
theorem r136_7 : rowAt 136 7 = some (.invokestatic 186, 3, 133, 1) := by decide +kernel
theorem r136_10 : rowAt 136 10 = some (.istore 4, 2, 0, 0) := by decide +kernel
theorem r136_12 : rowAt 136 12 = some (.aload_n 0, 1, 0, 0) := by decide +kernel
theorem r136_13 : rowAt 136 13 = some (.getfield 37, 3, 9, 10) := by decide +kernel
theorem r136_16 : rowAt 136 16 = some (.iload_n 2, 1, 0, 0) := by decide +kernel
theorem r136_17 : rowAt 136 17 = some (.iaload, 1, 0, 0) := by decide +kernel
theorem r136_18 : rowAt 136 18 = some (.iload_n 3, 1, 0, 0) := by decide +kernel
theorem r136_19 : rowAt 136 19 = some (.invokestatic 186, 3, 133, 1) := by decide +kernel
theorem r136_22 : rowAt 136 22 = some (.istore 5, 2, 0, 0) := by decide +kernel
theorem r136_24 : rowAt 136 24 = some (.iload 4, 2, 0, 0) := by decide +kernel
theorem r136_26 : rowAt 136 26 = some (.iload 5, 2, 0, 0) := by decide +kernel
theorem r136_28 : rowAt 136 28 = some (.if_icmp .eq 16, 3, 0, 0) := by decide +kernel
theorem r136_31 : rowAt 136 31 = some (.iload 4, 2, 0, 0) := by decide +kernel
theorem r136_33 : rowAt 136 33 = some (.iload 5, 2, 0, 0) := by decide +kernel
theorem r136_35 : rowAt 136 35 = some (.if_icmp .ge 7, 3, 0, 0) := by decide +kernel
theorem r136_38 : rowAt 136 38 = some (.iconst 1, 1, 0, 0) := by decide +kernel
theorem r136_39 : rowAt 136 39 = some (.goto 4, 3, 0, 0) := by decide +kernel
theorem r136_42 : rowAt 136 42 = some (.iconst 0, 1, 0, 0) := by decide +kernel
theorem r136_43 : rowAt 136 43 = some (.ireturn, 1, 0, 0) := by decide +kernel
theorem r136_44 : rowAt 136 44 = some (.iload_n 1, 1, 0, 0) := by decide +kernel
theorem r136_45 : rowAt 136 45 = some (.bipush 12, 2, 0, 0) := by decide +kernel
theorem r136_47 : rowAt 136 47 = some (.if_icmp .ge 24, 3, 0, 0) := by decide +kernel
theorem r136_50 : rowAt 136 50 = some (.iload_n 2, 1, 0, 0) := by decide +kernel
theorem r136_51 : rowAt 136 51 = some (.bipush 12, 2, 0, 0) := by decide +kernel
theorem r136_53 : rowAt 136 53 = some (.if_icmp .ge 18, 3, 0, 0) := by decide +kernel
theorem r136_56 : rowAt 136 56 = some (.aload_n 0, 1, 0, 0) := by decide +kernel
theorem r136_57 : rowAt 136 57 = some (.getfield 16, 3, 9, 3) := by decide +kernel
theorem r136_60 : rowAt 136 60 = some (.iload_n 1, 1, 0, 0) := by decide +kernel
theorem r136_61 : rowAt 136 61 = some (.iaload, 1, 0, 0) := by decide +kernel
theorem r136_62 : rowAt 136 62 = some (.aload_n 0, 1, 0, 0) := by decide +kernel
theorem r136_63 : rowAt 136 63 = some (.getfield 16, 3, 9, 3) := by decide +kernel
theorem r136_66 : rowAt 136 66 = some (.iload_n 2, 1, 0, 0) := by decide +kernel
theorem r136_67 : rowAt 136 67 = some (.iaload, 1, 0, 0) := by decide +kernel
theorem r136_68 : rowAt 136 68 = some (.if_icmp .ne 14, 3, 0, 0) := by decide +kernel
theorem r136_71 : rowAt 136 71 = some (.iload_n 1, 1, 0, 0) := by decide +kernel
theorem r136_72 : rowAt 136 72 = some (.iload_n 2, 1, 0, 0) := by decide +kernel
theorem r136_73 : rowAt 136 73 = some (.if_icmp .ge 7, 3, 0, 0) := by decide +kernel
theorem r136_76 : rowAt 136 76 = some (.iconst 1, 1, 0, 0) := by decide +kernel
theorem r136_77 : rowAt 136 77 = some (.goto 4, 3, 0, 0) := by decide +kernel
theorem r136_80 : rowAt 136 80 = some (.iconst 0, 1, 0, 0) := by decide +kernel
theorem r136_81 : rowAt 136 81 = some (.ireturn, 1, 0, 0) := by decide +kernel
theorem r136_82 : rowAt 136 82 = some (.aload_n 0, 1, 0, 0) := by decide +kernel
theorem r136_83 : rowAt 136 83 = some (.getfield 16, 3, 9, 3) := by decide +kernel
theorem r136_86 : rowAt 136 86 = some (.iload_n 1, 1, 0, 0) := by decide +kernel
theorem r136_87 : rowAt 136 87 = some (.iaload, 1, 0, 0) := by decide +kernel
theorem r136_88 : rowAt 136 88 = some (.aload_n 0, 1, 0, 0) := by decide +kernel
theorem r136_89 : rowAt 136 89 = some (.getfield 16, 3, 9, 3) := by decide +kernel
theorem r136_92 : rowAt 136 92 = some (.iload_n 2, 1, 0, 0) := by decide +kernel
theorem r136_93 : rowAt 136 93 = some (.iaload, 1, 0, 0) := by decide +kernel
theorem r136_94 : rowAt 136 94 = some (.if_icmp .le 7, 3, 0, 0) := by decide +kernel
theorem r136_97 : rowAt 136 97 = some (.iconst 1, 1, 0, 0) := by decide +kernel
theorem r136_98 : rowAt 136 98 = some (.goto 4, 3, 0, 0) := by decide +kernel
theorem r136_101 : rowAt 136 101 = some (.iconst 0, 1, 0, 0) := by decide +kernel
theorem r136_102 : rowAt 136 102 = some (.ireturn, 1, 0, 0) := by decide +kernel
theorem en136 (a0 : Nat) (a1 : Int32) (a2 : Int32) (a3 : Int32) : iniL 136 [.ref a0, .int a1, .int a2, .int a3] = [.ref a0, .int a1, .int a2, .int a3, .null, .null] := ini_n mi136 rfl
theorem b136_0 (d : Nat) (l0 : Nat) (l1 : Int32) (l2 : Int32) (l3 : Int32) (h : aH) (K : Option Value → aH → Prop) : E scr false (d + 1) 136 0 [.ref l0, .int l1, .int l2, .int l3, .null, .null] [] h K = gR scr h l0 9 10 (fun x1 : Nat => aI scr h x1 l1 (fun x2 : Int32 => sI scr d 133 [.int x2, .int l3] h (fun (x4 : Int32) (h3 : aH) => gR scr h3 l0 9 10 (fun x5 : Nat => aI scr h3 x5 l2 (fun x6 : Int32 => sI scr d 133 [.int x6, .int l3] h3 (fun (x8 : Int32) (h7 : aH) => (if x4 = x8 then (if 12 ≤ l1 then E scr false (d + 1) 136 71 [.ref l0, .int l1, .int l2, .int l3, .int x4, .int x8] [] h7 K else (if 12 ≤ l2 then E scr false (d + 1) 136 71 [.ref l0, .int l1, .int l2, .int l3, .int x4, .int x8] [] h7 K else gR scr h7 l0 9 3 (fun x9 : Nat => aI scr h7 x9 l1 (fun x10 : Int32 => gR scr h7 l0 9 3 (fun x11 : Nat => aI scr h7 x11 l2 (fun x12 : Int32 => (if x10 = x12 then E scr false (d + 1) 136 71 [.ref l0, .int l1, .int l2, .int l3, .int x4, .int x8] [] h7 K else gR scr h7 l0 9 3 (fun x13 : Nat => aI scr h7 x13 l1 (fun x14 : Int32 => gR scr h7 l0 9 3 (fun x15 : Nat => aI scr h7 x15 l2 (fun x16 : Int32 => (if x14 ≤ x16 then K (some (.int 0)) h7 else K (some (.int 1)) h7)))))))))))) else (if x8 ≤ x4 then K (some (.int 0)) h7 else K (some (.int 1)) h7)))))))) := go (w := (1, [.ref l0, .int l1, .int l2, .int l3, .null, .null], [.ref l0], h)) r136_0 rfl rfl (E_gR r136_1 rfl (fun x1 => go (w := (5, [.ref l0, .int l1, .int l2, .int l3, .null, .null], [.int l1, .ref x1], h)) r136_4 rfl rfl (E_aI r136_5 (fun x2 => go (w := (7, [.ref l0, .int l1, .int l2, .int l3, .null, .null], [.int l3, .int x2], h)) r136_6 rfl rfl (E_sI r136_7 (As := [.int x2, .int l3]) (rest := []) (cut_n mi133.1 rfl rfl) (rm8_n mi133.2.1 (Nat.le_of_ble_eq_true rfl) (Nat.le_of_ble_eq_true rfl)) mi133.2.2 (fun x4 h3 => go (w := (12, [.ref l0, .int l1, .int l2, .int l3, .int x4, .null], [], h3)) r136_10 rfl rfl (go (w := (13, [.ref l0, .int l1, .int l2, .int l3, .int x4, .null], [.ref l0], h3)) r136_12 rfl rfl (E_gR r136_13 rfl (fun x5 => go (w := (17, [.ref l0, .int l1, .int l2, .int l3, .int x4, .null], [.int l2, .ref x5], h3)) r136_16 rfl rfl (E_aI r136_17 (fun x6 => go (w := (19, [.ref l0, .int l1, .int l2, .int l3, .int x4, .null], [.int l3, .int x6], h3)) r136_18 rfl rfl (E_sI r136_19 (As := [.int x6, .int l3]) (rest := []) (cut_n mi133.1 rfl rfl) (rm8_n mi133.2.1 (Nat.le_of_ble_eq_true rfl) (Nat.le_of_ble_eq_true rfl)) mi133.2.2 (fun x8 h7 => go (w := (24, [.ref l0, .int l1, .int l2, .int l3, .int x4, .int x8], [], h7)) r136_22 rfl rfl (go (w := (26, [.ref l0, .int l1, .int l2, .int l3, .int x4, .int x8], [.int x4], h7)) r136_24 rfl rfl (go (w := (28, [.ref l0, .int l1, .int l2, .int l3, .int x4, .int x8], [.int x8, .int x4], h7)) r136_26 rfl rfl (E_i2_eq r136_28 rfl (go (w := (45, [.ref l0, .int l1, .int l2, .int l3, .int x4, .int x8], [.int l1], h7)) r136_44 rfl rfl (E_bip r136_45 (v := 12) (by decide) (E_i2_ge r136_47 rfl (rfl) (go (w := (51, [.ref l0, .int l1, .int l2, .int l3, .int x4, .int x8], [.int l2], h7)) r136_50 rfl rfl (E_bip r136_51 (v := 12) (by decide) (E_i2_ge r136_53 rfl (rfl) (go (w := (57, [.ref l0, .int l1, .int l2, .int l3, .int x4, .int x8], [.ref l0], h7)) r136_56 rfl rfl (E_gR r136_57 rfl (fun x9 => go (w := (61, [.ref l0, .int l1, .int l2, .int l3, .int x4, .int x8], [.int l1, .ref x9], h7)) r136_60 rfl rfl (E_aI r136_61 (fun x10 => go (w := (63, [.ref l0, .int l1, .int l2, .int l3, .int x4, .int x8], [.ref l0, .int x10], h7)) r136_62 rfl rfl (E_gR r136_63 rfl (fun x11 => go (w := (67, [.ref l0, .int l1, .int l2, .int l3, .int x4, .int x8], [.int l2, .ref x11, .int x10], h7)) r136_66 rfl rfl (E_aI r136_67 (fun x12 => E_i2_ne r136_68 rfl (go (w := (83, [.ref l0, .int l1, .int l2, .int l3, .int x4, .int x8], [.ref l0], h7)) r136_82 rfl rfl (E_gR r136_83 rfl (fun x13 => go (w := (87, [.ref l0, .int l1, .int l2, .int l3, .int x4, .int x8], [.int l1, .ref x13], h7)) r136_86 rfl rfl (E_aI r136_87 (fun x14 => go (w := (89, [.ref l0, .int l1, .int l2, .int l3, .int x4, .int x8], [.ref l0, .int x14], h7)) r136_88 rfl rfl (E_gR r136_89 rfl (fun x15 => go (w := (93, [.ref l0, .int l1, .int l2, .int l3, .int x4, .int x8], [.int l2, .ref x15, .int x14], h7)) r136_92 rfl rfl (E_aI r136_93 (fun x16 => E_i2_le r136_94 rfl (E_ic r136_101 (v := 0) (by decide) (E_rz r136_102 (mq136) (by decide))) (E_ic r136_97 (v := 1) (by decide) (E_gt r136_98 rfl (E_rz r136_102 (mq136) (by decide))))))))))))) (rfl)))))))))))))))) (go (w := (33, [.ref l0, .int l1, .int l2, .int l3, .int x4, .int x8], [.int x4], h7)) r136_31 rfl rfl (go (w := (35, [.ref l0, .int l1, .int l2, .int l3, .int x4, .int x8], [.int x8, .int x4], h7)) r136_33 rfl rfl (E_i2_ge r136_35 rfl (E_ic r136_42 (v := 0) (by decide) (E_rz r136_43 (mq136) (by decide))) (E_ic r136_38 (v := 1) (by decide) (E_gt r136_39 rfl (E_rz r136_43 (mq136) (by decide)))))))))))))))))))))))
theorem b136_71 (d : Nat) (l0 : Nat) (l1 : Int32) (l2 : Int32) (l3 : Int32) (l4 : Int32) (l5 : Int32) (h : aH) (K : Option Value → aH → Prop) : E scr false d 136 71 [.ref l0, .int l1, .int l2, .int l3, .int l4, .int l5] [] h K = (if l2 ≤ l1 then K (some (.int 0)) h else K (some (.int 1)) h) := go (w := (72, [.ref l0, .int l1, .int l2, .int l3, .int l4, .int l5], [.int l1], h)) r136_71 rfl rfl (go (w := (73, [.ref l0, .int l1, .int l2, .int l3, .int l4, .int l5], [.int l2, .int l1], h)) r136_72 rfl rfl (E_i2_ge r136_73 rfl (E_ic r136_80 (v := 0) (by decide) (E_rz r136_81 (mq136) (by decide))) (E_ic r136_76 (v := 1) (by decide) (E_gt r136_77 rfl (E_rz r136_81 (mq136) (by decide))))))
-- 137 SecondNearestModel.looks(I)V
theorem mq137 : mRet 137 = none := by decide +kernel
theorem r137_0 : rowAt 137 0 = some (.aload_n 0, 1, 0, 0) := by decide +kernel
theorem r137_1 : rowAt 137 1 = some (.iconst 0, 1, 0, 0) := by decide +kernel
theorem r137_2 : rowAt 137 2 = some (.putfield 189, 3, 9, 18) := by decide +kernel
theorem r137_5 : rowAt 137 5 = some (.iconst 0, 1, 0, 0) := by decide +kernel
theorem r137_6 : rowAt 137 6 = some (.istore_n 2, 1, 0, 0) := by decide +kernel
theorem r137_7 : rowAt 137 7 = some (.iload_n 2, 1, 0, 0) := by decide +kernel
theorem r137_8 : rowAt 137 8 = some (.bipush 14, 2, 0, 0) := by decide +kernel
theorem r137_10 : rowAt 137 10 = some (.if_icmp .ge 119, 3, 0, 0) := by decide +kernel
theorem r137_13 : rowAt 137 13 = some (.iload_n 2, 1, 0, 0) := by decide +kernel
theorem r137_14 : rowAt 137 14 = some (.iload_n 1, 1, 0, 0) := by decide +kernel
theorem r137_15 : rowAt 137 15 = some (.if_icmp .eq 108, 3, 0, 0) := by decide +kernel
theorem r137_18 : rowAt 137 18 = some (.aload_n 0, 1, 0, 0) := by decide +kernel
theorem r137_19 : rowAt 137 19 = some (.iload_n 2, 1, 0, 0) := by decide +kernel
theorem r137_20 : rowAt 137 20 = some (.invokevirtual 157, 3, 128, 0) := by decide +kernel
theorem r137_23 : rowAt 137 23 = some (.ifCond .eq 100, 3, 0, 0) := by decide +kernel
theorem r137_26 : rowAt 137 26 = some (.aload_n 0, 1, 0, 0) := by decide +kernel
theorem r137_27 : rowAt 137 27 = some (.getfield 37, 3, 9, 10) := by decide +kernel
theorem r137_30 : rowAt 137 30 = some (.iload_n 2, 1, 0, 0) := by decide +kernel
theorem r137_31 : rowAt 137 31 = some (.iaload, 1, 0, 0) := by decide +kernel
theorem r137_32 : rowAt 137 32 = some (.iconst (-1), 1, 0, 0) := by decide +kernel
theorem r137_33 : rowAt 137 33 = some (.if_icmp .eq 90, 3, 0, 0) := by decide +kernel
theorem r137_36 : rowAt 137 36 = some (.aload_n 0, 1, 0, 0) := by decide +kernel
theorem r137_37 : rowAt 137 37 = some (.aload_n 0, 1, 0, 0) := by decide +kernel
theorem r137_38 : rowAt 137 38 = some (.getfield 37, 3, 9, 10) := by decide +kernel
theorem r137_41 : rowAt 137 41 = some (.iload_n 1, 1, 0, 0) := by decide +kernel
theorem r137_42 : rowAt 137 42 = some (.iaload, 1, 0, 0) := by decide +kernel
theorem r137_43 : rowAt 137 43 = some (.aload_n 0, 1, 0, 0) := by decide +kernel
theorem r137_44 : rowAt 137 44 = some (.getfield 37, 3, 9, 10) := by decide +kernel
theorem r137_47 : rowAt 137 47 = some (.iload_n 2, 1, 0, 0) := by decide +kernel
theorem r137_48 : rowAt 137 48 = some (.iaload, 1, 0, 0) := by decide +kernel
theorem r137_49 : rowAt 137 49 = some (.invokevirtual 192, 3, 134, 0) := by decide +kernel
theorem r137_52 : rowAt 137 52 = some (.ifCond .eq 71, 3, 0, 0) := by decide +kernel
theorem r137_55 : rowAt 137 55 = some (.aload_n 0, 1, 0, 0) := by decide +kernel
theorem r137_56 : rowAt 137 56 = some (.getfield 189, 3, 9, 18) := by decide +kernel
theorem r137_59 : rowAt 137 59 = some (.istore_n 3, 1, 0, 0) := by decide +kernel
theorem r137_60 : rowAt 137 60 = some (.iload_n 3, 1, 0, 0) := by decide +kernel
theorem r137_61 : rowAt 137 61 = some (.ifCond .le 45, 3, 0, 0) := by decide +kernel
theorem r137_64 : rowAt 137 64 = some (.aload_n 0, 1, 0, 0) := by decide +kernel
theorem r137_65 : rowAt 137 65 = some (.iload_n 2, 1, 0, 0) := by decide +kernel
theorem r137_66 : rowAt 137 66 = some (.aload_n 0, 1, 0, 0) := by decide +kernel
theorem r137_67 : rowAt 137 67 = some (.getfield 58, 3, 9, 17) := by decide +kernel
theorem r137_70 : rowAt 137 70 = some (.iload_n 3, 1, 0, 0) := by decide +kernel
theorem r137_71 : rowAt 137 71 = some (.iconst 1, 1, 0, 0) := by decide +kernel
theorem r137_72 : rowAt 137 72 = some (.isub, 1, 0, 0) := by decide +kernel
theorem r137_73 : rowAt 137 73 = some (.iaload, 1, 0, 0) := by decide +kernel
theorem r137_74 : rowAt 137 74 = some (.aload_n 0, 1, 0, 0) := by decide +kernel
theorem r137_75 : rowAt 137 75 = some (.getfield 37, 3, 9, 10) := by decide +kernel
theorem r137_78 : rowAt 137 78 = some (.iload_n 1, 1, 0, 0) := by decide +kernel
theorem r137_79 : rowAt 137 79 = some (.iaload, 1, 0, 0) := by decide +kernel
theorem r137_80 : rowAt 137 80 = some (.invokevirtual 195, 3, 136, 0) := by decide +kernel
theorem r137_83 : rowAt 137 83 = some (.ifCond .eq 23, 3, 0, 0) := by decide +kernel
theorem r137_86 : rowAt 137 86 = some (.aload_n 0, 1, 0, 0) := by decide +kernel
theorem r137_87 : rowAt 137 87 = some (.getfield 58, 3, 9, 17) := by decide +kernel
theorem r137_90 : rowAt 137 90 = some (.iload_n 3, 1, 0, 0) := by decide +kernel
theorem r137_91 : rowAt 137 91 = some (.aload_n 0, 1, 0, 0) := by decide +kernel
theorem r137_92 : rowAt 137 92 = some (.getfield 58, 3, 9, 17) := by decide +kernel
theorem r137_95 : rowAt 137 95 = some (.iload_n 3, 1, 0, 0) := by decide +kernel
theorem r137_96 : rowAt 137 96 = some (.iconst 1, 1, 0, 0) := by decide +kernel
theorem r137_97 : rowAt 137 97 = some (.isub, 1, 0, 0) := by decide +kernel
theorem r137_98 : rowAt 137 98 = some (.iaload, 1, 0, 0) := by decide +kernel
theorem r137_99 : rowAt 137 99 = some (.iastore, 1, 0, 0) := by decide +kernel
theorem r137_100 : rowAt 137 100 = some (.iinc 3 (-1), 3, 0, 0) := by decide +kernel
theorem r137_103 : rowAt 137 103 = some (.goto (-43), 3, 0, 0) := by decide +kernel
theorem r137_106 : rowAt 137 106 = some (.aload_n 0, 1, 0, 0) := by decide +kernel
theorem r137_107 : rowAt 137 107 = some (.getfield 58, 3, 9, 17) := by decide +kernel
theorem r137_110 : rowAt 137 110 = some (.iload_n 3, 1, 0, 0) := by decide +kernel
theorem r137_111 : rowAt 137 111 = some (.iload_n 2, 1, 0, 0) := by decide +kernel
theorem r137_112 : rowAt 137 112 = some (.iastore, 1, 0, 0) := by decide +kernel
theorem r137_113 : rowAt 137 113 = some (.aload_n 0, 1, 0, 0) := by decide +kernel
theorem r137_114 : rowAt 137 114 = some (.dup, 1, 0, 0) := by decide +kernel
theorem r137_115 : rowAt 137 115 = some (.getfield 189, 3, 9, 18) := by decide +kernel
theorem r137_118 : rowAt 137 118 = some (.iconst 1, 1, 0, 0) := by decide +kernel
theorem r137_119 : rowAt 137 119 = some (.iadd, 1, 0, 0) := by decide +kernel
theorem r137_120 : rowAt 137 120 = some (.putfield 189, 3, 9, 18) := by decide +kernel
theorem r137_123 : rowAt 137 123 = some (.iinc 2 1, 3, 0, 0) := by decide +kernel
theorem r137_126 : rowAt 137 126 = some (.goto (-119), 3, 0, 0) := by decide +kernel
theorem r137_129 : rowAt 137 129 = some (.return_, 1, 0, 0) := by decide +kernel
theorem en137 (a0 : Nat) (a1 : Int32) : iniL 137 [.ref a0, .int a1] = [.ref a0, .int a1, .null, .null] := ini_n mi137 rfl
theorem b137_0 (d : Nat) (l0 : Nat) (l1 : Int32) (h : aH) (K : Option Value → aH → Prop) : E scr false d 137 0 [.ref l0, .int l1, .null, .null] [] h K = pF h l0 9 18 (.int 0) (fun h1 : aH => E scr false d 137 7 [.ref l0, .int l1, .int 0, .null] [] h1 K) := go (w := (1, [.ref l0, .int l1, .null, .null], [.ref l0], h)) r137_0 rfl rfl (E_ic r137_1 (v := 0) (by decide) (E_pI r137_2 ⟨rfl, rfl⟩ (fun h1 => E_ic r137_5 (v := 0) (by decide) (go (w := (7, [.ref l0, .int l1, .int 0, .null], [], h1)) r137_6 rfl rfl (rfl)))))
theorem b137_7 (d : Nat) (l0 : Nat) (l1 : Int32) (l2 : Int32) (l3 : Value) (h : aH) (K : Option Value → aH → Prop) : E scr false (d + 1) 137 7 [.ref l0, .int l1, .int l2, l3] [] h K = (if 14 ≤ l2 then K none h else (if l2 = l1 then E scr false (d + 1) 137 123 [.ref l0, .int l1, .int l2, l3] [] h K else vI scr d 128 [.ref l0, .int l2] h (fun (x2 : Int32) (h1 : aH) => (if x2 = 0 then E scr false (d + 1) 137 123 [.ref l0, .int l1, .int l2, l3] [] h1 K else gR scr h1 l0 9 10 (fun x3 : Nat => aI scr h1 x3 l2 (fun x4 : Int32 => (if x4 = (-1) then E scr false (d + 1) 137 123 [.ref l0, .int l1, .int l2, l3] [] h1 K else gR scr h1 l0 9 10 (fun x5 : Nat => aI scr h1 x5 l1 (fun x6 : Int32 => gR scr h1 l0 9 10 (fun x7 : Nat => aI scr h1 x7 l2 (fun x8 : Int32 => vI scr d 134 [.ref l0, .int x6, .int x8] h1 (fun (x10 : Int32) (h9 : aH) => (if x10 = 0 then E scr false (d + 1) 137 123 [.ref l0, .int l1, .int l2, l3] [] h9 K else gI scr h9 l0 9 18 (fun x11 : Int32 => E scr false (d + 1) 137 60 [.ref l0, .int l1, .int l2, .int x11] [] h9 K)))))))))))))) := go (w := (8, [.ref l0, .int l1, .int l2, l3], [.int l2], h)) r137_7 rfl rfl (E_bip r137_8 (v := 14) (by decide) (E_i2_ge r137_10 rfl (E_vret r137_129 (mq137)) (go (w := (14, [.ref l0, .int l1, .int l2, l3], [.int l2], h)) r137_13 rfl rfl (go (w := (15, [.ref l0, .int l1, .int l2, l3], [.int l1, .int l2], h)) r137_14 rfl rfl (E_i2_eq r137_15 rfl (rfl) (go (w := (19, [.ref l0, .int l1, .int l2, l3], [.ref l0], h)) r137_18 rfl rfl (go (w := (20, [.ref l0, .int l1, .int l2, l3], [.int l2, .ref l0], h)) r137_19 rfl rfl (E_vI r137_20 (As := [.ref l0, .int l2]) (rest := []) (cut_n mi128.1 rfl rfl) (rm8_n mi128.2.1 (Nat.le_of_ble_eq_true rfl) (Nat.le_of_ble_eq_true rfl)) mi128.2.2 (fun x2 h1 => E_i1_eq r137_23 rfl (rfl) (go (w := (27, [.ref l0, .int l1, .int l2, l3], [.ref l0], h1)) r137_26 rfl rfl (E_gR r137_27 rfl (fun x3 => go (w := (31, [.ref l0, .int l1, .int l2, l3], [.int l2, .ref x3], h1)) r137_30 rfl rfl (E_aI r137_31 (fun x4 => E_ic r137_32 (v := (-1)) (by decide) (E_i2_eq r137_33 rfl (rfl) (go (w := (37, [.ref l0, .int l1, .int l2, l3], [.ref l0], h1)) r137_36 rfl rfl (go (w := (38, [.ref l0, .int l1, .int l2, l3], [.ref l0, .ref l0], h1)) r137_37 rfl rfl (E_gR r137_38 rfl (fun x5 => go (w := (42, [.ref l0, .int l1, .int l2, l3], [.int l1, .ref x5, .ref l0], h1)) r137_41 rfl rfl (E_aI r137_42 (fun x6 => go (w := (44, [.ref l0, .int l1, .int l2, l3], [.ref l0, .int x6, .ref l0], h1)) r137_43 rfl rfl (E_gR r137_44 rfl (fun x7 => go (w := (48, [.ref l0, .int l1, .int l2, l3], [.int l2, .ref x7, .int x6, .ref l0], h1)) r137_47 rfl rfl (E_aI r137_48 (fun x8 => E_vI r137_49 (As := [.ref l0, .int x6, .int x8]) (rest := []) (cut_n mi134.1 rfl rfl) (rm8_n mi134.2.1 (Nat.le_of_ble_eq_true rfl) (Nat.le_of_ble_eq_true rfl)) mi134.2.2 (fun x10 h9 => E_i1_eq r137_52 rfl (rfl) (go (w := (56, [.ref l0, .int l1, .int l2, l3], [.ref l0], h9)) r137_55 rfl rfl (E_gI r137_56 rfl (fun x11 => go (w := (60, [.ref l0, .int l1, .int l2, .int x11], [], h9)) r137_59 rfl rfl (rfl))))))))))))))))))))))))))))))
theorem b137_60 (d : Nat) (l0 : Nat) (l1 : Int32) (l2 : Int32) (l3 : Int32) (h : aH) (K : Option Value → aH → Prop) : E scr false (d + 1) 137 60 [.ref l0, .int l1, .int l2, .int l3] [] h K = (if l3 ≤ 0 then E scr false (d + 1) 137 106 [.ref l0, .int l1, .int l2, .int l3] [] h K else gR scr h l0 9 17 (fun x1 : Nat => aI scr h x1 ((l3 - 1)) (fun x2 : Int32 => gR scr h l0 9 10 (fun x3 : Nat => aI scr h x3 l1 (fun x4 : Int32 => vI scr d 136 [.ref l0, .int l2, .int x2, .int x4] h (fun (x6 : Int32) (h5 : aH) => (if x6 = 0 then E scr false (d + 1) 137 106 [.ref l0, .int l1, .int l2, .int l3] [] h5 K else gR scr h5 l0 9 17 (fun x7 : Nat => gR scr h5 l0 9 17 (fun x8 : Nat => aI scr h5 x8 ((l3 - 1)) (fun x9 : Int32 => wI h5 x7 l3 x9 (fun h10 : aH => E scr false (d + 1) 137 60 [.ref l0, .int l1, .int l2, .int (l3 + (-1))] [] h10 K))))))))))) := go (w := (61, [.ref l0, .int l1, .int l2, .int l3], [.int l3], h)) r137_60 rfl rfl (E_i1_le r137_61 rfl (rfl) (go (w := (65, [.ref l0, .int l1, .int l2, .int l3], [.ref l0], h)) r137_64 rfl rfl (go (w := (66, [.ref l0, .int l1, .int l2, .int l3], [.int l2, .ref l0], h)) r137_65 rfl rfl (go (w := (67, [.ref l0, .int l1, .int l2, .int l3], [.ref l0, .int l2, .ref l0], h)) r137_66 rfl rfl (E_gR r137_67 rfl (fun x1 => go (w := (71, [.ref l0, .int l1, .int l2, .int l3], [.int l3, .ref x1, .int l2, .ref l0], h)) r137_70 rfl rfl (E_ic r137_71 (v := 1) (by decide) (go (w := (73, [.ref l0, .int l1, .int l2, .int l3], [.int (l3 - 1), .ref x1, .int l2, .ref l0], h)) r137_72 rfl rfl (E_aI r137_73 (fun x2 => go (w := (75, [.ref l0, .int l1, .int l2, .int l3], [.ref l0, .int x2, .int l2, .ref l0], h)) r137_74 rfl rfl (E_gR r137_75 rfl (fun x3 => go (w := (79, [.ref l0, .int l1, .int l2, .int l3], [.int l1, .ref x3, .int x2, .int l2, .ref l0], h)) r137_78 rfl rfl (E_aI r137_79 (fun x4 => E_vI r137_80 (As := [.ref l0, .int l2, .int x2, .int x4]) (rest := []) (cut_n mi136.1 rfl rfl) (rm8_n mi136.2.1 (Nat.le_of_ble_eq_true rfl) (Nat.le_of_ble_eq_true rfl)) mi136.2.2 (fun x6 h5 => E_i1_eq r137_83 rfl (rfl) (go (w := (87, [.ref l0, .int l1, .int l2, .int l3], [.ref l0], h5)) r137_86 rfl rfl (E_gR r137_87 rfl (fun x7 => go (w := (91, [.ref l0, .int l1, .int l2, .int l3], [.int l3, .ref x7], h5)) r137_90 rfl rfl (go (w := (92, [.ref l0, .int l1, .int l2, .int l3], [.ref l0, .int l3, .ref x7], h5)) r137_91 rfl rfl (E_gR r137_92 rfl (fun x8 => go (w := (96, [.ref l0, .int l1, .int l2, .int l3], [.int l3, .ref x8, .int l3, .ref x7], h5)) r137_95 rfl rfl (E_ic r137_96 (v := 1) (by decide) (go (w := (98, [.ref l0, .int l1, .int l2, .int l3], [.int (l3 - 1), .ref x8, .int l3, .ref x7], h5)) r137_97 rfl rfl (E_aI r137_98 (fun x9 => E_wI r137_99 (fun h10 => E_inc r137_100 (c := (-1)) rfl (by decide) (L' := [.ref l0, .int l1, .int l2, .int (l3 + (-1))]) rfl (E_gt r137_103 rfl (rfl))))))))))))))))))))))))))))
theorem b137_106 (d : Nat) (l0 : Nat) (l1 : Int32) (l2 : Int32) (l3 : Int32) (h : aH) (K : Option Value → aH → Prop) : E scr false d 137 106 [.ref l0, .int l1, .int l2, .int l3] [] h K = gR scr h l0 9 17 (fun x1 : Nat => wI h x1 l3 l2 (fun h2 : aH => gI scr h2 l0 9 18 (fun x3 : Int32 => pF h2 l0 9 18 (.int (x3 + 1)) (fun h4 : aH => E scr false d 137 123 [.ref l0, .int l1, .int l2, .int l3] [] h4 K)))) := go (w := (107, [.ref l0, .int l1, .int l2, .int l3], [.ref l0], h)) r137_106 rfl rfl (E_gR r137_107 rfl (fun x1 => go (w := (111, [.ref l0, .int l1, .int l2, .int l3], [.int l3, .ref x1], h)) r137_110 rfl rfl (go (w := (112, [.ref l0, .int l1, .int l2, .int l3], [.int l2, .int l3, .ref x1], h)) r137_111 rfl rfl (E_wI r137_112 (fun h2 => go (w := (114, [.ref l0, .int l1, .int l2, .int l3], [.ref l0], h2)) r137_113 rfl rfl (go (w := (115, [.ref l0, .int l1, .int l2, .int l3], [.ref l0, .ref l0], h2)) r137_114 rfl rfl (E_gI r137_115 rfl (fun x3 => E_ic r137_118 (v := 1) (by decide) (go (w := (120, [.ref l0, .int l1, .int l2, .int l3], [.int (x3 + 1), .ref l0], h2)) r137_119 rfl rfl (E_pI r137_120 ⟨rfl, rfl⟩ (fun h4 => rfl)))))))))))
theorem b137_123 (d : Nat) (l0 : Nat) (l1 : Int32) (l2 : Int32) (l3 : Value) (h : aH) (K : Option Value → aH → Prop) : E scr false d 137 123 [.ref l0, .int l1, .int l2, l3] [] h K = E scr false d 137 7 [.ref l0, .int l1, .int (l2 + 1), l3] [] h K := E_inc r137_123 (c := 1) rfl (by decide) (L' := [.ref l0, .int l1, .int (l2 + 1), l3]) rfl (E_gt r137_126 rfl (rfl))
-- 138 SecondNearestModel.feed(IIIII)I
theorem mq138 : mRet 138 = (some .int) := by decide +kernel
theorem r138_0 : rowAt 138 0 = some (.aload_n 0, 1, 0, 0) := by decide +kernel
theorem r138_1 : rowAt 138 1 = some (.getfield 199, 3, 9, 19) := by decide +kernel
theorem r138_4 : rowAt 138 4 = some (.bipush 20, 2, 0, 0) := by decide +kernel
theorem r138_6 : rowAt 138 6 = some (.iadd, 1, 0, 0) := by decide +kernel
theorem r138_7 : rowAt 138 7 = some (.sipush 400, 3, 0, 0) := by decide +kernel
theorem r138_10 : rowAt 138 10 = some (.if_icmp .le 5, 3, 0, 0) := by decide +kernel
theorem r138_13 : rowAt 138 13 = some (.iconst (-1), 1, 0, 0) := by decide +kernel
theorem r138_14 : rowAt 138 14 = some (.ireturn, 1, 0, 0) := by decide +kernel
theorem r138_15 : rowAt 138 15 = some (.aload_n 0, 1, 0, 0) := by decide +kernel
theorem r138_16 : rowAt 138 16 = some (.iload_n 1, 1, 0, 0) := by decide +kernel
theorem r138_17 : rowAt 138 17 = some (.invokevirtual 202, 3, 139, 0) := by decide +kernel
theorem r138_20 : rowAt 138 20 = some (.aload_n 0, 1, 0, 0) := by decide +kernel
theorem r138_21 : rowAt 138 21 = some (.iload_n 2, 1, 0, 0) := by decide +kernel
theorem r138_22 : rowAt 138 22 = some (.invokevirtual 202, 3, 139, 0) := by decide +kernel
theorem r138_25 : rowAt 138 25 = some (.aload_n 0, 1, 0, 0) := by decide +kernel
theorem r138_26 : rowAt 138 26 = some (.iload_n 3, 1, 0, 0) := by decide +kernel
theorem r138_27 : rowAt 138 27 = some (.invokevirtual 202, 3, 139, 0) := by decide +kernel
theorem r138_30 : rowAt 138 30 = some (.aload_n 0, 1, 0, 0) := by decide +kernel
theorem r138_31 : rowAt 138 31 = some (.iload 4, 2, 0, 0) := by decide +kernel
theorem r138_33 : rowAt 138 33 = some (.invokevirtual 202, 3, 139, 0) := by decide +kernel
theorem r138_36 : rowAt 138 36 = some (.aload_n 0, 1, 0, 0) := by decide +kernel
theorem r138_37 : rowAt 138 37 = some (.iload 5, 2, 0, 0) := by decide +kernel
theorem r138_39 : rowAt 138 39 = some (.invokevirtual 202, 3, 139, 0) := by decide +kernel
theorem r138_42 : rowAt 138 42 = some (.aload_n 0, 1, 0, 0) := by decide +kernel
theorem r138_43 : rowAt 138 43 = some (.getfield 199, 3, 9, 19) := by decide +kernel
theorem r138_46 : rowAt 138 46 = some (.ireturn, 1, 0, 0) := by decide +kernel
theorem en138 (a0 : Nat) (a1 : Int32) (a2 : Int32) (a3 : Int32) (a4 : Int32) (a5 : Int32) : iniL 138 [.ref a0, .int a1, .int a2, .int a3, .int a4, .int a5] = [.ref a0, .int a1, .int a2, .int a3, .int a4, .int a5] := ini_n mi138 rfl
theorem b138_0 (d : Nat) (l0 : Nat) (l1 : Int32) (l2 : Int32) (l3 : Int32) (l4 : Int32) (l5 : Int32) (h : aH) (K : Option Value → aH → Prop) : E scr false (d + 1) 138 0 [.ref l0, .int l1, .int l2, .int l3, .int l4, .int l5] [] h K = gI scr h l0 9 19 (fun x1 : Int32 => (if (x1 + 20) ≤ 400 then vV scr d 139 [.ref l0, .int l1] h (fun h2 : aH => vV scr d 139 [.ref l0, .int l2] h2 (fun h4 : aH => vV scr d 139 [.ref l0, .int l3] h4 (fun h6 : aH => vV scr d 139 [.ref l0, .int l4] h6 (fun h8 : aH => vV scr d 139 [.ref l0, .int l5] h8 (fun h10 : aH => gI scr h10 l0 9 19 (fun x12 : Int32 => K (some (.int x12)) h10)))))) else K (some (.int (-1))) h)) := go (w := (1, [.ref l0, .int l1, .int l2, .int l3, .int l4, .int l5], [.ref l0], h)) r138_0 rfl rfl (E_gI r138_1 rfl (fun x1 => E_bip r138_4 (v := 20) (by decide) (go (w := (7, [.ref l0, .int l1, .int l2, .int l3, .int l4, .int l5], [.int (x1 + 20)], h)) r138_6 rfl rfl (E_sip r138_7 (v := 400) (by decide) (E_i2_le r138_10 rfl (go (w := (16, [.ref l0, .int l1, .int l2, .int l3, .int l4, .int l5], [.ref l0], h)) r138_15 rfl rfl (go (w := (17, [.ref l0, .int l1, .int l2, .int l3, .int l4, .int l5], [.int l1, .ref l0], h)) r138_16 rfl rfl (E_vV r138_17 (As := [.ref l0, .int l1]) (rest := []) (cut_n mi139.1 rfl rfl) (rm8_n mi139.2.1 (Nat.le_of_ble_eq_true rfl) (Nat.le_of_ble_eq_true rfl)) mi139.2.2 (fun h2 => go (w := (21, [.ref l0, .int l1, .int l2, .int l3, .int l4, .int l5], [.ref l0], h2)) r138_20 rfl rfl (go (w := (22, [.ref l0, .int l1, .int l2, .int l3, .int l4, .int l5], [.int l2, .ref l0], h2)) r138_21 rfl rfl (E_vV r138_22 (As := [.ref l0, .int l2]) (rest := []) (cut_n mi139.1 rfl rfl) (rm8_n mi139.2.1 (Nat.le_of_ble_eq_true rfl) (Nat.le_of_ble_eq_true rfl)) mi139.2.2 (fun h4 => go (w := (26, [.ref l0, .int l1, .int l2, .int l3, .int l4, .int l5], [.ref l0], h4)) r138_25 rfl rfl (go (w := (27, [.ref l0, .int l1, .int l2, .int l3, .int l4, .int l5], [.int l3, .ref l0], h4)) r138_26 rfl rfl (E_vV r138_27 (As := [.ref l0, .int l3]) (rest := []) (cut_n mi139.1 rfl rfl) (rm8_n mi139.2.1 (Nat.le_of_ble_eq_true rfl) (Nat.le_of_ble_eq_true rfl)) mi139.2.2 (fun h6 => go (w := (31, [.ref l0, .int l1, .int l2, .int l3, .int l4, .int l5], [.ref l0], h6)) r138_30 rfl rfl (go (w := (33, [.ref l0, .int l1, .int l2, .int l3, .int l4, .int l5], [.int l4, .ref l0], h6)) r138_31 rfl rfl (E_vV r138_33 (As := [.ref l0, .int l4]) (rest := []) (cut_n mi139.1 rfl rfl) (rm8_n mi139.2.1 (Nat.le_of_ble_eq_true rfl) (Nat.le_of_ble_eq_true rfl)) mi139.2.2 (fun h8 => go (w := (37, [.ref l0, .int l1, .int l2, .int l3, .int l4, .int l5], [.ref l0], h8)) r138_36 rfl rfl (go (w := (39, [.ref l0, .int l1, .int l2, .int l3, .int l4, .int l5], [.int l5, .ref l0], h8)) r138_37 rfl rfl (E_vV r138_39 (As := [.ref l0, .int l5]) (rest := []) (cut_n mi139.1 rfl rfl) (rm8_n mi139.2.1 (Nat.le_of_ble_eq_true rfl) (Nat.le_of_ble_eq_true rfl)) mi139.2.2 (fun h10 => go (w := (43, [.ref l0, .int l1, .int l2, .int l3, .int l4, .int l5], [.ref l0], h10)) r138_42 rfl rfl (E_gI r138_43 rfl (fun x12 => E_ri r138_46 (mq138))))))))))))))))))) (E_ic r138_13 (v := (-1)) (by decide) (E_ri r138_14 (mq138))))))))
-- 139 SecondNearestModel.put(I)V
theorem mq139 : mRet 139 = none := by decide +kernel
theorem r139_0 : rowAt 139 0 = some (.bipush 24, 2, 0, 0) := by decide +kernel
theorem r139_2 : rowAt 139 2 = some (.istore_n 2, 1, 0, 0) := by decide +kernel
theorem r139_3 : rowAt 139 3 = some (.iload_n 2, 1, 0, 0) := by decide +kernel
theorem r139_4 : rowAt 139 4 = some (.ifCond .lt 32, 3, 0, 0) := by decide +kernel
theorem r139_7 : rowAt 139 7 = some (.aload_n 0, 1, 0, 0) := by decide +kernel
theorem r139_8 : rowAt 139 8 = some (.getfield 65, 3, 9, 29) := by decide +kernel
theorem r139_11 : rowAt 139 11 = some (.aload_n 0, 1, 0, 0) := by decide +kernel
theorem r139_12 : rowAt 139 12 = some (.getfield 199, 3, 9, 19) := by decide +kernel
theorem r139_15 : rowAt 139 15 = some (.iload_n 1, 1, 0, 0) := by decide +kernel
theorem r139_16 : rowAt 139 16 = some (.iload_n 2, 1, 0, 0) := by decide +kernel
theorem r139_17 : rowAt 139 17 = some (.ishr, 1, 0, 0) := by decide +kernel
theorem r139_18 : rowAt 139 18 = some (.i2b, 1, 0, 0) := by decide +kernel
theorem r139_19 : rowAt 139 19 = some (.bastore, 1, 0, 0) := by decide +kernel
theorem r139_20 : rowAt 139 20 = some (.aload_n 0, 1, 0, 0) := by decide +kernel
theorem r139_21 : rowAt 139 21 = some (.dup, 1, 0, 0) := by decide +kernel
theorem r139_22 : rowAt 139 22 = some (.getfield 199, 3, 9, 19) := by decide +kernel
theorem r139_25 : rowAt 139 25 = some (.iconst 1, 1, 0, 0) := by decide +kernel
theorem r139_26 : rowAt 139 26 = some (.iadd, 1, 0, 0) := by decide +kernel
theorem r139_27 : rowAt 139 27 = some (.putfield 199, 3, 9, 19) := by decide +kernel
theorem r139_30 : rowAt 139 30 = some (.iinc 2 (-8), 3, 0, 0) := by decide +kernel
theorem r139_33 : rowAt 139 33 = some (.goto (-30), 3, 0, 0) := by decide +kernel
theorem r139_36 : rowAt 139 36 = some (.return_, 1, 0, 0) := by decide +kernel
theorem en139 (a0 : Nat) (a1 : Int32) : iniL 139 [.ref a0, .int a1] = [.ref a0, .int a1, .null] := ini_n mi139 rfl
theorem b139_0 (d : Nat) (l0 : Nat) (l1 : Int32) (h : aH) (K : Option Value → aH → Prop) : E scr false d 139 0 [.ref l0, .int l1, .null] [] h K = E scr false d 139 3 [.ref l0, .int l1, .int 24] [] h K := E_bip r139_0 (v := 24) (by decide) (go (w := (3, [.ref l0, .int l1, .int 24], [], h)) r139_2 rfl rfl (rfl))
theorem b139_3 (d : Nat) (l0 : Nat) (l1 : Int32) (l2 : Int32) (h : aH) (K : Option Value → aH → Prop) : E scr false d 139 3 [.ref l0, .int l1, .int l2] [] h K = (if l2 < 0 then K none h else gR scr h l0 9 29 (fun x1 : Nat => gI scr h l0 9 19 (fun x2 : Int32 => wB h x1 x2 ((Int8.toInt32 (Int32.toInt8 ((l1 : Int32) >>> ((l2 : Int32) &&& 31) : Int32)))) (fun h3 : aH => gI scr h3 l0 9 19 (fun x4 : Int32 => pF h3 l0 9 19 (.int (x4 + 1)) (fun h5 : aH => E scr false d 139 3 [.ref l0, .int l1, .int (l2 + (-8))] [] h5 K)))))) := go (w := (4, [.ref l0, .int l1, .int l2], [.int l2], h)) r139_3 rfl rfl (E_i1_lt r139_4 rfl (E_vret r139_36 (mq139)) (go (w := (8, [.ref l0, .int l1, .int l2], [.ref l0], h)) r139_7 rfl rfl (E_gR r139_8 rfl (fun x1 => go (w := (12, [.ref l0, .int l1, .int l2], [.ref l0, .ref x1], h)) r139_11 rfl rfl (E_gI r139_12 rfl (fun x2 => go (w := (16, [.ref l0, .int l1, .int l2], [.int l1, .int x2, .ref x1], h)) r139_15 rfl rfl (go (w := (17, [.ref l0, .int l1, .int l2], [.int l2, .int l1, .int x2, .ref x1], h)) r139_16 rfl rfl (go (w := (18, [.ref l0, .int l1, .int l2], [.int ((l1 : Int32) >>> ((l2 : Int32) &&& 31) : Int32), .int x2, .ref x1], h)) r139_17 rfl rfl (go (w := (19, [.ref l0, .int l1, .int l2], [.int (Int8.toInt32 (Int32.toInt8 ((l1 : Int32) >>> ((l2 : Int32) &&& 31) : Int32))), .int x2, .ref x1], h)) r139_18 rfl rfl (E_wB r139_19 (fun h3 => go (w := (21, [.ref l0, .int l1, .int l2], [.ref l0], h3)) r139_20 rfl rfl (go (w := (22, [.ref l0, .int l1, .int l2], [.ref l0, .ref l0], h3)) r139_21 rfl rfl (E_gI r139_22 rfl (fun x4 => E_ic r139_25 (v := 1) (by decide) (go (w := (27, [.ref l0, .int l1, .int l2], [.int (x4 + 1), .ref l0], h3)) r139_26 rfl rfl (E_pI r139_27 ⟨rfl, rfl⟩ (fun h5 => E_inc r139_30 (c := (-8)) rfl (by decide) (L' := [.ref l0, .int l1, .int (l2 + (-8))]) rfl (E_gt r139_33 rfl (rfl)))))))))))))))))))
-- 140 SecondNearestModel.end(I)I
theorem mq140 : mRet 140 = (some .int) := by decide +kernel
theorem r140_0 : rowAt 140 0 = some (.iload_n 1, 1, 0, 0) := by decide +kernel
theorem r140_1 : rowAt 140 1 = some (.ifCond .lt 11, 3, 0, 0) := by decide +kernel
theorem r140_4 : rowAt 140 4 = some (.iload_n 1, 1, 0, 0) := by decide +kernel
theorem r140_5 : rowAt 140 5 = some (.aload_n 0, 1, 0, 0) := by decide +kernel
theorem r140_6 : rowAt 140 6 = some (.getfield 199, 3, 9, 19) := by decide +kernel
theorem r140_9 : rowAt 140 9 = some (.if_icmp .le 5, 3, 0, 0) := by decide +kernel
theorem r140_12 : rowAt 140 12 = some (.iconst (-1), 1, 0, 0) := by decide +kernel
theorem r140_13 : rowAt 140 13 = some (.ireturn, 1, 0, 0) := by decide +kernel
theorem r140_14 : rowAt 140 14 = some (.aload_n 0, 1, 0, 0) := by decide +kernel
theorem r140_15 : rowAt 140 15 = some (.iload_n 1, 1, 0, 0) := by decide +kernel
theorem r140_16 : rowAt 140 16 = some (.putfield 199, 3, 9, 19) := by decide +kernel
theorem r140_19 : rowAt 140 19 = some (.iload_n 1, 1, 0, 0) := by decide +kernel
theorem r140_20 : rowAt 140 20 = some (.ireturn, 1, 0, 0) := by decide +kernel
theorem en140 (a0 : Nat) (a1 : Int32) : iniL 140 [.ref a0, .int a1] = [.ref a0, .int a1] := ini_n mi140 rfl
theorem b140_0 (d : Nat) (l0 : Nat) (l1 : Int32) (h : aH) (K : Option Value → aH → Prop) : E scr false d 140 0 [.ref l0, .int l1] [] h K = (if l1 < 0 then K (some (.int (-1))) h else gI scr h l0 9 19 (fun x1 : Int32 => (if l1 ≤ x1 then pF h l0 9 19 (.int l1) (fun h2 : aH => K (some (.int l1)) h2) else K (some (.int (-1))) h))) := go (w := (1, [.ref l0, .int l1], [.int l1], h)) r140_0 rfl rfl (E_i1_lt r140_1 rfl (E_ic r140_12 (v := (-1)) (by decide) (E_ri r140_13 (mq140))) (go (w := (5, [.ref l0, .int l1], [.int l1], h)) r140_4 rfl rfl (go (w := (6, [.ref l0, .int l1], [.ref l0, .int l1], h)) r140_5 rfl rfl (E_gI r140_6 rfl (fun x1 => E_i2_le r140_9 rfl (go (w := (15, [.ref l0, .int l1], [.ref l0], h)) r140_14 rfl rfl (go (w := (16, [.ref l0, .int l1], [.int l1, .ref l0], h)) r140_15 rfl rfl (E_pI r140_16 ⟨rfl, rfl⟩ (fun h2 => go (w := (20, [.ref l0, .int l1], [.int l1], h2)) r140_19 rfl rfl (E_ri r140_20 (mq140)))))) (E_ic r140_12 (v := (-1)) (by decide) (E_ri r140_13 (mq140))))))))
-- 141 SecondNearestModel.wordOf(I)Ljava/lang/String;
theorem mq141 : mRet 141 = (some (.object "java/lang/String")) := by decide +kernel
theorem r141_0 : rowAt 141 0 = some (.iload_n 0, 1, 0, 0) := by decide +kernel
theorem r141_1 : rowAt 141 1 = some (.tableswitch 71 0 7 #[47, 50, 53, 56, 59, 62, 65, 68], 47, 0, 0) := by decide +kernel
theorem r141_48 : rowAt 141 48 = some (.ldc 206, 2, 13, 1) := by decide +kernel
theorem r141_50 : rowAt 141 50 = some (.areturn, 1, 0, 0) := by decide +kernel
theorem r141_51 : rowAt 141 51 = some (.ldc 208, 2, 14, 1) := by decide +kernel
theorem r141_53 : rowAt 141 53 = some (.areturn, 1, 0, 0) := by decide +kernel
theorem r141_54 : rowAt 141 54 = some (.ldc 210, 2, 15, 1) := by decide +kernel
theorem r141_56 : rowAt 141 56 = some (.areturn, 1, 0, 0) := by decide +kernel
theorem r141_57 : rowAt 141 57 = some (.ldc 211, 2, 16, 1) := by decide +kernel
theorem r141_59 : rowAt 141 59 = some (.areturn, 1, 0, 0) := by decide +kernel
theorem r141_60 : rowAt 141 60 = some (.ldc 212, 2, 17, 1) := by decide +kernel
theorem r141_62 : rowAt 141 62 = some (.areturn, 1, 0, 0) := by decide +kernel
theorem r141_63 : rowAt 141 63 = some (.ldc 213, 2, 18, 1) := by decide +kernel
theorem r141_65 : rowAt 141 65 = some (.areturn, 1, 0, 0) := by decide +kernel
theorem r141_66 : rowAt 141 66 = some (.ldc 215, 2, 19, 1) := by decide +kernel
theorem r141_68 : rowAt 141 68 = some (.areturn, 1, 0, 0) := by decide +kernel
theorem r141_69 : rowAt 141 69 = some (.ldc 217, 2, 20, 1) := by decide +kernel
theorem r141_71 : rowAt 141 71 = some (.areturn, 1, 0, 0) := by decide +kernel
theorem r141_72 : rowAt 141 72 = some (.ldc 218, 2, 21, 1) := by decide +kernel
theorem r141_74 : rowAt 141 74 = some (.areturn, 1, 0, 0) := by decide +kernel
theorem en141 (a0 : Int32) : iniL 141 [.int a0] = [.int a0] := ini_n mi141 rfl
theorem b141_0 (d : Nat) (l0 : Int32) (h : aH) (K : Option Value → aH → Prop) : E scr false d 141 0 [.int l0] [] h K = (if l0 = 0 then E scr false d 141 48 [.int l0] [] h K else (if l0 = 1 then E scr false d 141 51 [.int l0] [] h K else (if l0 = 2 then E scr false d 141 54 [.int l0] [] h K else (if l0 = 3 then E scr false d 141 57 [.int l0] [] h K else (if l0 = 4 then E scr false d 141 60 [.int l0] [] h K else (if l0 = 5 then E scr false d 141 63 [.int l0] [] h K else (if l0 = 6 then E scr false d 141 66 [.int l0] [] h K else (if l0 = 7 then E scr false d 141 69 [.int l0] [] h K else E scr false d 141 72 [.int l0] [] h K)))))))) := go (w := (1, [.int l0], [.int l0], h)) r141_0 rfl rfl (E_tab (pc := 1) [(0, 48), (1, 51), (2, 54), (3, 57), (4, 60), (5, 63), (6, 66), (7, 69)] 72 r141_1 (by decide +kernel) (by decide +kernel) (by decide +kernel))
theorem b141_48 (d : Nat) (l0 : Int32) (h : aH) (K : Option Value → aH → Prop) : E scr false d 141 48 [.int l0] [] h K = K (some (.ref 20013)) h := E_lds r141_48 (v := 20013) rfl (E_aret r141_50 (by decide +kernel))
theorem b141_51 (d : Nat) (l0 : Int32) (h : aH) (K : Option Value → aH → Prop) : E scr false d 141 51 [.int l0] [] h K = K (some (.ref 20014)) h := E_lds r141_51 (v := 20014) rfl (E_aret r141_53 (by decide +kernel))
theorem b141_54 (d : Nat) (l0 : Int32) (h : aH) (K : Option Value → aH → Prop) : E scr false d 141 54 [.int l0] [] h K = K (some (.ref 20015)) h := E_lds r141_54 (v := 20015) rfl (E_aret r141_56 (by decide +kernel))
theorem b141_57 (d : Nat) (l0 : Int32) (h : aH) (K : Option Value → aH → Prop) : E scr false d 141 57 [.int l0] [] h K = K (some (.ref 20016)) h := E_lds r141_57 (v := 20016) rfl (E_aret r141_59 (by decide +kernel))
theorem b141_60 (d : Nat) (l0 : Int32) (h : aH) (K : Option Value → aH → Prop) : E scr false d 141 60 [.int l0] [] h K = K (some (.ref 20017)) h := E_lds r141_60 (v := 20017) rfl (E_aret r141_62 (by decide +kernel))
theorem b141_63 (d : Nat) (l0 : Int32) (h : aH) (K : Option Value → aH → Prop) : E scr false d 141 63 [.int l0] [] h K = K (some (.ref 20018)) h := E_lds r141_63 (v := 20018) rfl (E_aret r141_65 (by decide +kernel))
theorem b141_66 (d : Nat) (l0 : Int32) (h : aH) (K : Option Value → aH → Prop) : E scr false d 141 66 [.int l0] [] h K = K (some (.ref 20019)) h := E_lds r141_66 (v := 20019) rfl (E_aret r141_68 (by decide +kernel))
theorem b141_69 (d : Nat) (l0 : Int32) (h : aH) (K : Option Value → aH → Prop) : E scr false d 141 69 [.int l0] [] h K = K (some (.ref 20020)) h := E_lds r141_69 (v := 20020) rfl (E_aret r141_71 (by decide +kernel))
theorem b141_72 (d : Nat) (l0 : Int32) (h : aH) (K : Option Value → aH → Prop) : E scr false d 141 72 [.int l0] [] h K = K (some (.ref 20021)) h := E_lds r141_72 (v := 20021) rfl (E_aret r141_74 (by decide +kernel))
-- 142 SecondNearestModel.fails(II)V
theorem mq142 : mRet 142 = none := by decide +kernel
theorem r142_0 : rowAt 142 0 = some (.aload_n 0, 1, 0, 0) := by decide +kernel
theorem r142_1 : rowAt 142 1 = some (.aload_n 0, 1, 0, 0) := by decide +kernel
theorem r142_2 : rowAt 142 2 = some (.getfield 220, 3, 9, 21) := by decide +kernel
theorem r142_5 : rowAt 142 5 = some (.ifCond .ne 14, 3, 0, 0) := by decide +kernel
theorem r142_8 : rowAt 142 8 = some (.iconst 1, 1, 0, 0) := by decide +kernel
theorem r142_9 : rowAt 142 9 = some (.bipush 8, 2, 0, 0) := by decide +kernel
theorem r142_11 : rowAt 142 11 = some (.iload_n 2, 1, 0, 0) := by decide +kernel
theorem r142_12 : rowAt 142 12 = some (.imul, 1, 0, 0) := by decide +kernel
theorem r142_13 : rowAt 142 13 = some (.iadd, 1, 0, 0) := by decide +kernel
theorem r142_14 : rowAt 142 14 = some (.iload_n 1, 1, 0, 0) := by decide +kernel
theorem r142_15 : rowAt 142 15 = some (.iadd, 1, 0, 0) := by decide +kernel
theorem r142_16 : rowAt 142 16 = some (.goto 7, 3, 0, 0) := by decide +kernel
theorem r142_19 : rowAt 142 19 = some (.aload_n 0, 1, 0, 0) := by decide +kernel
theorem r142_20 : rowAt 142 20 = some (.getfield 220, 3, 9, 21) := by decide +kernel
theorem r142_23 : rowAt 142 23 = some (.putfield 220, 3, 9, 21) := by decide +kernel
theorem r142_26 : rowAt 142 26 = some (.return_, 1, 0, 0) := by decide +kernel
theorem en142 (a0 : Nat) (a1 : Int32) (a2 : Int32) : iniL 142 [.ref a0, .int a1, .int a2] = [.ref a0, .int a1, .int a2] := ini_n mi142 rfl
theorem b142_0 (d : Nat) (l0 : Nat) (l1 : Int32) (l2 : Int32) (h : aH) (K : Option Value → aH → Prop) : E scr false d 142 0 [.ref l0, .int l1, .int l2] [] h K = gI scr h l0 9 21 (fun x1 : Int32 => (if x1 = 0 then pF h l0 9 21 (.int ((1 + (8 * l2)) + l1)) (fun h4 : aH => K none h4) else gI scr h l0 9 21 (fun x2 : Int32 => pF h l0 9 21 (.int x2) (fun h3 : aH => K none h3)))) := go (w := (1, [.ref l0, .int l1, .int l2], [.ref l0], h)) r142_0 rfl rfl (go (w := (2, [.ref l0, .int l1, .int l2], [.ref l0, .ref l0], h)) r142_1 rfl rfl (E_gI r142_2 rfl (fun x1 => E_i1_ne r142_5 rfl (go (w := (20, [.ref l0, .int l1, .int l2], [.ref l0, .ref l0], h)) r142_19 rfl rfl (E_gI r142_20 rfl (fun x2 => E_pI r142_23 ⟨rfl, rfl⟩ (fun h3 => E_vret r142_26 (mq142))))) (E_ic r142_8 (v := 1) (by decide) (E_bip r142_9 (v := 8) (by decide) (go (w := (12, [.ref l0, .int l1, .int l2], [.int l2, .int 8, .int 1, .ref l0], h)) r142_11 rfl rfl (go (w := (13, [.ref l0, .int l1, .int l2], [.int (8 * l2), .int 1, .ref l0], h)) r142_12 rfl rfl (go (w := (14, [.ref l0, .int l1, .int l2], [.int (1 + (8 * l2)), .ref l0], h)) r142_13 rfl rfl (go (w := (15, [.ref l0, .int l1, .int l2], [.int l1, .int (1 + (8 * l2)), .ref l0], h)) r142_14 rfl rfl (go (w := (16, [.ref l0, .int l1, .int l2], [.int ((1 + (8 * l2)) + l1), .ref l0], h)) r142_15 rfl rfl (E_gt r142_16 rfl (E_pI r142_23 ⟨rfl, rfl⟩ (fun h4 => E_vret r142_26 (mq142))))))))))))))
-- 143 SecondNearestModel.sign()I
theorem mq143 : mRet 143 = (some .int) := by decide +kernel
theorem r143_0 : rowAt 143 0 = some (.aload_n 0, 1, 0, 0) := by decide +kernel
theorem r143_1 : rowAt 143 1 = some (.getfield 223, 3, 9, 20) := by decide +kernel
theorem r143_4 : rowAt 143 4 = some (.aload_n 0, 1, 0, 0) := by decide +kernel
theorem r143_5 : rowAt 143 5 = some (.getfield 199, 3, 9, 19) := by decide +kernel
theorem r143_8 : rowAt 143 8 = some (.if_icmp .ge 19, 3, 0, 0) := by decide +kernel
theorem r143_11 : rowAt 143 11 = some (.aload_n 0, 1, 0, 0) := by decide +kernel
theorem r143_12 : rowAt 143 12 = some (.getfield 65, 3, 9, 29) := by decide +kernel
theorem r143_15 : rowAt 143 15 = some (.aload_n 0, 1, 0, 0) := by decide +kernel
theorem r143_16 : rowAt 143 16 = some (.getfield 223, 3, 9, 20) := by decide +kernel
theorem r143_19 : rowAt 143 19 = some (.baload, 1, 0, 0) := by decide +kernel
theorem r143_20 : rowAt 143 20 = some (.sipush 255, 3, 0, 0) := by decide +kernel
theorem r143_23 : rowAt 143 23 = some (.iand, 1, 0, 0) := by decide +kernel
theorem r143_24 : rowAt 143 24 = some (.goto 4, 3, 0, 0) := by decide +kernel
theorem r143_27 : rowAt 143 27 = some (.iconst (-1), 1, 0, 0) := by decide +kernel
theorem r143_28 : rowAt 143 28 = some (.ireturn, 1, 0, 0) := by decide +kernel
theorem en143 (a0 : Nat) : iniL 143 [.ref a0] = [.ref a0] := ini_n mi143 rfl
theorem b143_0 (d : Nat) (l0 : Nat) (h : aH) (K : Option Value → aH → Prop) : E scr false d 143 0 [.ref l0] [] h K = gI scr h l0 9 20 (fun x1 : Int32 => gI scr h l0 9 19 (fun x2 : Int32 => (if x2 ≤ x1 then K (some (.int (-1))) h else gR scr h l0 9 29 (fun x3 : Nat => gI scr h l0 9 20 (fun x4 : Int32 => aB scr h x3 x4 (fun x5 : Int32 => K (some (.int (x5 &&& 255))) h)))))) := go (w := (1, [.ref l0], [.ref l0], h)) r143_0 rfl rfl (E_gI r143_1 rfl (fun x1 => go (w := (5, [.ref l0], [.ref l0, .int x1], h)) r143_4 rfl rfl (E_gI r143_5 rfl (fun x2 => E_i2_ge r143_8 rfl (E_ic r143_27 (v := (-1)) (by decide) (E_ri r143_28 (mq143))) (go (w := (12, [.ref l0], [.ref l0], h)) r143_11 rfl rfl (E_gR r143_12 rfl (fun x3 => go (w := (16, [.ref l0], [.ref l0, .ref x3], h)) r143_15 rfl rfl (E_gI r143_16 rfl (fun x4 => E_aB r143_19 (fun x5 => E_sip r143_20 (v := 255) (by decide) (go (w := (24, [.ref l0], [.int (x5 &&& 255)], h)) r143_23 rfl rfl (E_gt r143_24 rfl (E_ri r143_28 (mq143))))))))))))))
-- 144 SecondNearestModel.blanks()V
theorem mq144 : mRet 144 = none := by decide +kernel
theorem r144_0 : rowAt 144 0 = some (.aload_n 0, 1, 0, 0) := by decide +kernel
theorem r144_1 : rowAt 144 1 = some (.invokevirtual 226, 3, 143, 0) := by decide +kernel
theorem r144_4 : rowAt 144 4 = some (.bipush 32, 2, 0, 0) := by decide +kernel
theorem r144_6 : rowAt 144 6 = some (.if_icmp .ne 16, 3, 0, 0) := by decide +kernel
theorem r144_9 : rowAt 144 9 = some (.aload_n 0, 1, 0, 0) := by decide +kernel
theorem r144_10 : rowAt 144 10 = some (.dup, 1, 0, 0) := by decide +kernel
theorem r144_11 : rowAt 144 11 = some (.getfield 223, 3, 9, 20) := by decide +kernel
theorem r144_14 : rowAt 144 14 = some (.iconst 1, 1, 0, 0) := by decide +kernel
theorem r144_15 : rowAt 144 15 = some (.iadd, 1, 0, 0) := by decide +kernel
theorem r144_16 : rowAt 144 16 = some (.putfield 223, 3, 9, 20) := by decide +kernel
theorem r144_19 : rowAt 144 19 = some (.goto (-19), 3, 0, 0) := by decide +kernel
theorem r144_22 : rowAt 144 22 = some (.return_, 1, 0, 0) := by decide +kernel
theorem en144 (a0 : Nat) : iniL 144 [.ref a0] = [.ref a0] := ini_n mi144 rfl
theorem b144_0 (d : Nat) (l0 : Nat) (h : aH) (K : Option Value → aH → Prop) : E scr false (d + 1) 144 0 [.ref l0] [] h K = vI scr d 143 [.ref l0] h (fun (x2 : Int32) (h1 : aH) => (if x2 = 32 then gI scr h1 l0 9 20 (fun x3 : Int32 => pF h1 l0 9 20 (.int (x3 + 1)) (fun h4 : aH => E scr false (d + 1) 144 0 [.ref l0] [] h4 K)) else K none h1)) := go (w := (1, [.ref l0], [.ref l0], h)) r144_0 rfl rfl (E_vI r144_1 (As := [.ref l0]) (rest := []) (cut_n mi143.1 rfl rfl) (rm8_n mi143.2.1 (Nat.le_of_ble_eq_true rfl) (Nat.le_of_ble_eq_true rfl)) mi143.2.2 (fun x2 h1 => E_bip r144_4 (v := 32) (by decide) (E_i2_ne r144_6 rfl (E_vret r144_22 (mq144)) (go (w := (10, [.ref l0], [.ref l0], h1)) r144_9 rfl rfl (go (w := (11, [.ref l0], [.ref l0, .ref l0], h1)) r144_10 rfl rfl (E_gI r144_11 rfl (fun x3 => E_ic r144_14 (v := 1) (by decide) (go (w := (16, [.ref l0], [.int (x3 + 1), .ref l0], h1)) r144_15 rfl rfl (E_pI r144_16 ⟨rfl, rfl⟩ (fun h4 => E_gt r144_19 rfl (rfl)))))))))))
-- 145 SecondNearestModel.isDigit()Z
theorem mq145 : mRet 145 = (some .boolean) := by decide +kernel
theorem r145_0 : rowAt 145 0 = some (.aload_n 0, 1, 0, 0) := by decide +kernel
theorem r145_1 : rowAt 145 1 = some (.invokevirtual 226, 3, 143, 0) := by decide +kernel
theorem r145_4 : rowAt 145 4 = some (.i2l, 1, 0, 0) := by decide +kernel
theorem r145_5 : rowAt 145 5 = some (.ldc2_w 230, 3, 48, 0) := by decide +kernel
theorem r145_8 : rowAt 145 8 = some (.ldc2_w 232, 3, 57, 0) := by decide +kernel
theorem r145_11 : rowAt 145 11 = some (.invokestatic 143, 3, 121, 1) := by decide +kernel
theorem r145_14 : rowAt 145 14 = some (.ireturn, 1, 0, 0) := by decide +kernel
theorem en145 (a0 : Nat) : iniL 145 [.ref a0] = [.ref a0] := ini_n mi145 rfl
theorem b145_0 (d : Nat) (l0 : Nat) (h : aH) (K : Option Value → aH → Prop) : E scr false (d + 1) 145 0 [.ref l0] [] h K = vI scr d 143 [.ref l0] h (fun (x2 : Int32) (h1 : aH) => sI scr d 121 [.long (Int32.toInt64 x2), .long 48, .long 57] h1 (fun (x4 : Int32) (h3 : aH) => (x4 &&& 1 = x4 ∧ K (some (.int x4)) h3))) := go (w := (1, [.ref l0], [.ref l0], h)) r145_0 rfl rfl (E_vI r145_1 (As := [.ref l0]) (rest := []) (cut_n mi143.1 rfl rfl) (rm8_n mi143.2.1 (Nat.le_of_ble_eq_true rfl) (Nat.le_of_ble_eq_true rfl)) mi143.2.2 (fun x2 h1 => go (w := (5, [.ref l0], [.long (Int32.toInt64 x2)], h1)) r145_4 rfl rfl (E_ld2 r145_5 (v := 48) (by decide) (E_ld2 r145_8 (v := 57) (by decide) (E_sI r145_11 (As := [.long (Int32.toInt64 x2), .long 48, .long 57]) (rest := []) (cut_n mi121.1 rfl rfl) (rm8_n mi121.2.1 (Nat.le_of_ble_eq_true rfl) (Nat.le_of_ble_eq_true rfl)) mi121.2.2 (fun x4 h3 => E_zret r145_14 (mq145)))))))
-- 146 SecondNearestModel.stood(Ljava/lang/String;)Z
theorem mq146 : mRet 146 = (some .boolean) := by decide +kernel
theorem r146_0 : rowAt 146 0 = some (.aload_n 0, 1, 0, 0) := by decide +kernel
theorem r146_1 : rowAt 146 1 = some (.getfield 223, 3, 9, 20) := by decide +kernel
theorem r146_4 : rowAt 146 4 = some (.istore_n 2, 1, 0, 0) := by decide +kernel
theorem r146_5 : rowAt 146 5 = some (.iload_n 2, 1, 0, 0) := by decide +kernel
theorem r146_6 : rowAt 146 6 = some (.aload_n 0, 1, 0, 0) := by decide +kernel
theorem r146_7 : rowAt 146 7 = some (.getfield 199, 3, 9, 19) := by decide +kernel
theorem r146_10 : rowAt 146 10 = some (.if_icmp .ge 31, 3, 0, 0) := by decide +kernel
theorem r146_13 : rowAt 146 13 = some (.aload_n 0, 1, 0, 0) := by decide +kernel
theorem r146_14 : rowAt 146 14 = some (.getfield 65, 3, 9, 29) := by decide +kernel
theorem r146_17 : rowAt 146 17 = some (.iload_n 2, 1, 0, 0) := by decide +kernel
theorem r146_18 : rowAt 146 18 = some (.baload, 1, 0, 0) := by decide +kernel
theorem r146_19 : rowAt 146 19 = some (.bipush 97, 2, 0, 0) := by decide +kernel
theorem r146_21 : rowAt 146 21 = some (.if_icmp .lt 20, 3, 0, 0) := by decide +kernel
theorem r146_24 : rowAt 146 24 = some (.aload_n 0, 1, 0, 0) := by decide +kernel
theorem r146_25 : rowAt 146 25 = some (.getfield 65, 3, 9, 29) := by decide +kernel
theorem r146_28 : rowAt 146 28 = some (.iload_n 2, 1, 0, 0) := by decide +kernel
theorem r146_29 : rowAt 146 29 = some (.baload, 1, 0, 0) := by decide +kernel
theorem r146_30 : rowAt 146 30 = some (.bipush 122, 2, 0, 0) := by decide +kernel
theorem r146_32 : rowAt 146 32 = some (.if_icmp .gt 9, 3, 0, 0) := by decide +kernel
theorem r146_35 : rowAt 146 35 = some (.iinc 2 1, 3, 0, 0) := by decide +kernel
theorem r146_38 : rowAt 146 38 = some (.goto (-33), 3, 0, 0) := by decide +kernel
theorem r146_41 : rowAt 146 41 = some (.iload_n 2, 1, 0, 0) := by decide +kernel
theorem r146_42 : rowAt 146 42 = some (.aload_n 0, 1, 0, 0) := by decide +kernel
theorem r146_43 : rowAt 146 43 = some (.getfield 223, 3, 9, 20) := by decide +kernel
theorem r146_46 : rowAt 146 46 = some (.isub, 1, 0, 0) := by decide +kernel
theorem r146_47 : rowAt 146 47 = some (.aload_n 1, 1, 0, 0) := by decide +kernel
theorem r146_48 : rowAt 146 48 = some (.invokevirtual 234, 3, 227, 0) := by decide +kernel
theorem r146_51 : rowAt 146 51 = some (.if_icmp .ne 7, 3, 0, 0) := by decide +kernel
theorem r146_54 : rowAt 146 54 = some (.iconst 1, 1, 0, 0) := by decide +kernel
theorem r146_55 : rowAt 146 55 = some (.goto 4, 3, 0, 0) := by decide +kernel
theorem r146_58 : rowAt 146 58 = some (.iconst 0, 1, 0, 0) := by decide +kernel
theorem r146_59 : rowAt 146 59 = some (.istore_n 3, 1, 0, 0) := by decide +kernel
theorem r146_60 : rowAt 146 60 = some (.iconst 0, 1, 0, 0) := by decide +kernel
theorem r146_61 : rowAt 146 61 = some (.istore 4, 2, 0, 0) := by decide +kernel
theorem r146_63 : rowAt 146 63 = some (.iload 4, 2, 0, 0) := by decide +kernel
theorem r146_65 : rowAt 146 65 = some (.aload_n 1, 1, 0, 0) := by decide +kernel
theorem r146_66 : rowAt 146 66 = some (.invokevirtual 234, 3, 227, 0) := by decide +kernel
theorem r146_69 : rowAt 146 69 = some (.if_icmp .ge 40, 3, 0, 0) := by decide +kernel
theorem r146_72 : rowAt 146 72 = some (.iload_n 3, 1, 0, 0) := by decide +kernel
theorem r146_73 : rowAt 146 73 = some (.ifCond .eq 36, 3, 0, 0) := by decide +kernel
theorem r146_76 : rowAt 146 76 = some (.aload_n 0, 1, 0, 0) := by decide +kernel
theorem r146_77 : rowAt 146 77 = some (.getfield 65, 3, 9, 29) := by decide +kernel
theorem r146_80 : rowAt 146 80 = some (.aload_n 0, 1, 0, 0) := by decide +kernel
theorem r146_81 : rowAt 146 81 = some (.getfield 223, 3, 9, 20) := by decide +kernel
theorem r146_84 : rowAt 146 84 = some (.iload 4, 2, 0, 0) := by decide +kernel
theorem r146_86 : rowAt 146 86 = some (.iadd, 1, 0, 0) := by decide +kernel
theorem r146_87 : rowAt 146 87 = some (.baload, 1, 0, 0) := by decide +kernel
theorem r146_88 : rowAt 146 88 = some (.aload_n 1, 1, 0, 0) := by decide +kernel
theorem r146_89 : rowAt 146 89 = some (.iload 4, 2, 0, 0) := by decide +kernel
theorem r146_91 : rowAt 146 91 = some (.invokevirtual 239, 3, 228, 0) := by decide +kernel
theorem r146_94 : rowAt 146 94 = some (.if_icmp .ne 7, 3, 0, 0) := by decide +kernel
theorem r146_97 : rowAt 146 97 = some (.iconst 1, 1, 0, 0) := by decide +kernel
theorem r146_98 : rowAt 146 98 = some (.goto 4, 3, 0, 0) := by decide +kernel
theorem r146_101 : rowAt 146 101 = some (.iconst 0, 1, 0, 0) := by decide +kernel
theorem r146_102 : rowAt 146 102 = some (.istore_n 3, 1, 0, 0) := by decide +kernel
theorem r146_103 : rowAt 146 103 = some (.iinc 4 1, 3, 0, 0) := by decide +kernel
theorem r146_106 : rowAt 146 106 = some (.goto (-43), 3, 0, 0) := by decide +kernel
theorem r146_109 : rowAt 146 109 = some (.iload_n 3, 1, 0, 0) := by decide +kernel
theorem r146_110 : rowAt 146 110 = some (.ireturn, 1, 0, 0) := by decide +kernel
theorem en146 (a0 : Nat) (a1 : Nat) : iniL 146 [.ref a0, .ref a1] = [.ref a0, .ref a1, .null, .null, .null] := ini_n mi146 rfl
theorem b146_0 (d : Nat) (l0 : Nat) (l1 : Nat) (h : aH) (K : Option Value → aH → Prop) : E scr false d 146 0 [.ref l0, .ref l1, .null, .null, .null] [] h K = gI scr h l0 9 20 (fun x1 : Int32 => E scr false d 146 5 [.ref l0, .ref l1, .int x1, .null, .null] [] h K) := go (w := (1, [.ref l0, .ref l1, .null, .null, .null], [.ref l0], h)) r146_0 rfl rfl (E_gI r146_1 rfl (fun x1 => go (w := (5, [.ref l0, .ref l1, .int x1, .null, .null], [], h)) r146_4 rfl rfl (rfl)))
theorem b146_5 (d : Nat) (l0 : Nat) (l1 : Nat) (l2 : Int32) (h : aH) (K : Option Value → aH → Prop) : E scr false d 146 5 [.ref l0, .ref l1, .int l2, .null, .null] [] h K = gI scr h l0 9 19 (fun x1 : Int32 => (if x1 ≤ l2 then E scr false d 146 41 [.ref l0, .ref l1, .int l2, .null, .null] [] h K else gR scr h l0 9 29 (fun x2 : Nat => aB scr h x2 l2 (fun x3 : Int32 => (if x3 < 97 then E scr false d 146 41 [.ref l0, .ref l1, .int l2, .null, .null] [] h K else gR scr h l0 9 29 (fun x4 : Nat => aB scr h x4 l2 (fun x5 : Int32 => (if 122 < x5 then E scr false d 146 41 [.ref l0, .ref l1, .int l2, .null, .null] [] h K else E scr false d 146 5 [.ref l0, .ref l1, .int (l2 + 1), .null, .null] [] h K)))))))) := go (w := (6, [.ref l0, .ref l1, .int l2, .null, .null], [.int l2], h)) r146_5 rfl rfl (go (w := (7, [.ref l0, .ref l1, .int l2, .null, .null], [.ref l0, .int l2], h)) r146_6 rfl rfl (E_gI r146_7 rfl (fun x1 => E_i2_ge r146_10 rfl (rfl) (go (w := (14, [.ref l0, .ref l1, .int l2, .null, .null], [.ref l0], h)) r146_13 rfl rfl (E_gR r146_14 rfl (fun x2 => go (w := (18, [.ref l0, .ref l1, .int l2, .null, .null], [.int l2, .ref x2], h)) r146_17 rfl rfl (E_aB r146_18 (fun x3 => E_bip r146_19 (v := 97) (by decide) (E_i2_lt r146_21 rfl (rfl) (go (w := (25, [.ref l0, .ref l1, .int l2, .null, .null], [.ref l0], h)) r146_24 rfl rfl (E_gR r146_25 rfl (fun x4 => go (w := (29, [.ref l0, .ref l1, .int l2, .null, .null], [.int l2, .ref x4], h)) r146_28 rfl rfl (E_aB r146_29 (fun x5 => E_bip r146_30 (v := 122) (by decide) (E_i2_gt r146_32 rfl (rfl) (E_inc r146_35 (c := 1) rfl (by decide) (L' := [.ref l0, .ref l1, .int (l2 + 1), .null, .null]) rfl (E_gt r146_38 rfl (rfl))))))))))))))))))
theorem b146_41 (d : Nat) (l0 : Nat) (l1 : Nat) (l2 : Int32) (h : aH) (K : Option Value → aH → Prop) : E scr false (d + 1) 146 41 [.ref l0, .ref l1, .int l2, .null, .null] [] h K = gI scr h l0 9 20 (fun x1 : Int32 => vI scr d 227 [.ref l1] h (fun (x3 : Int32) (h2 : aH) => (if (l2 - x1) = x3 then E scr false (d + 1) 146 59 [.ref l0, .ref l1, .int l2, .null, .null] [.int 1] h2 K else E scr false (d + 1) 146 59 [.ref l0, .ref l1, .int l2, .null, .null] [.int 0] h2 K))) := go (w := (42, [.ref l0, .ref l1, .int l2, .null, .null], [.int l2], h)) r146_41 rfl rfl (go (w := (43, [.ref l0, .ref l1, .int l2, .null, .null], [.ref l0, .int l2], h)) r146_42 rfl rfl (E_gI r146_43 rfl (fun x1 => go (w := (47, [.ref l0, .ref l1, .int l2, .null, .null], [.int (l2 - x1)], h)) r146_46 rfl rfl (go (w := (48, [.ref l0, .ref l1, .int l2, .null, .null], [.ref l1, .int (l2 - x1)], h)) r146_47 rfl rfl (E_vI r146_48 (As := [.ref l1]) (rest := [.int (l2 - x1)]) (cut_n mi227.1 rfl rfl) (rm8_n mi227.2.1 (Nat.le_of_ble_eq_true rfl) (Nat.le_of_ble_eq_true rfl)) mi227.2.2 (fun x3 h2 => E_i2_ne r146_51 rfl (E_ic r146_58 (v := 0) (by decide) (rfl)) (E_ic r146_54 (v := 1) (by decide) (E_gt r146_55 rfl (rfl)))))))))
theorem b146_59 (d : Nat) (l0 : Nat) (l1 : Nat) (l2 : Int32) (s0 : Int32) (h : aH) (K : Option Value → aH → Prop) : E scr false d 146 59 [.ref l0, .ref l1, .int l2, .null, .null] [.int s0] h K = E scr false d 146 63 [.ref l0, .ref l1, .int l2, .int s0, .int 0] [] h K := go (w := (60, [.ref l0, .ref l1, .int l2, .int s0, .null], [], h)) r146_59 rfl rfl (E_ic r146_60 (v := 0) (by decide) (go (w := (63, [.ref l0, .ref l1, .int l2, .int s0, .int 0], [], h)) r146_61 rfl rfl (rfl)))
theorem b146_63 (d : Nat) (l0 : Nat) (l1 : Nat) (l2 : Int32) (l3 : Int32) (l4 : Int32) (h : aH) (K : Option Value → aH → Prop) : E scr false (d + 1) 146 63 [.ref l0, .ref l1, .int l2, .int l3, .int l4] [] h K = vI scr d 227 [.ref l1] h (fun (x2 : Int32) (h1 : aH) => (if x2 ≤ l4 then (l3 &&& 1 = l3 ∧ K (some (.int l3)) h1) else (if l3 = 0 then (l3 &&& 1 = l3 ∧ K (some (.int l3)) h1) else gR scr h1 l0 9 29 (fun x3 : Nat => gI scr h1 l0 9 20 (fun x4 : Int32 => aB scr h1 x3 ((x4 + l4)) (fun x5 : Int32 => vI scr d 228 [.ref l1, .int l4] h1 (fun (x7 : Int32) (h6 : aH) => (if x5 = x7 then E scr false (d + 1) 146 102 [.ref l0, .ref l1, .int l2, .int l3, .int l4] [.int 1] h6 K else E scr false (d + 1) 146 102 [.ref l0, .ref l1, .int l2, .int l3, .int l4] [.int 0] h6 K)))))))) := go (w := (65, [.ref l0, .ref l1, .int l2, .int l3, .int l4], [.int l4], h)) r146_63 rfl rfl (go (w := (66, [.ref l0, .ref l1, .int l2, .int l3, .int l4], [.ref l1, .int l4], h)) r146_65 rfl rfl (E_vI r146_66 (As := [.ref l1]) (rest := [.int l4]) (cut_n mi227.1 rfl rfl) (rm8_n mi227.2.1 (Nat.le_of_ble_eq_true rfl) (Nat.le_of_ble_eq_true rfl)) mi227.2.2 (fun x2 h1 => E_i2_ge r146_69 rfl (go (w := (110, [.ref l0, .ref l1, .int l2, .int l3, .int l4], [.int l3], h1)) r146_109 rfl rfl (E_zret r146_110 (mq146))) (go (w := (73, [.ref l0, .ref l1, .int l2, .int l3, .int l4], [.int l3], h1)) r146_72 rfl rfl (E_i1_eq r146_73 rfl (go (w := (110, [.ref l0, .ref l1, .int l2, .int l3, .int l4], [.int l3], h1)) r146_109 rfl rfl (E_zret r146_110 (mq146))) (go (w := (77, [.ref l0, .ref l1, .int l2, .int l3, .int l4], [.ref l0], h1)) r146_76 rfl rfl (E_gR r146_77 rfl (fun x3 => go (w := (81, [.ref l0, .ref l1, .int l2, .int l3, .int l4], [.ref l0, .ref x3], h1)) r146_80 rfl rfl (E_gI r146_81 rfl (fun x4 => go (w := (86, [.ref l0, .ref l1, .int l2, .int l3, .int l4], [.int l4, .int x4, .ref x3], h1)) r146_84 rfl rfl (go (w := (87, [.ref l0, .ref l1, .int l2, .int l3, .int l4], [.int (x4 + l4), .ref x3], h1)) r146_86 rfl rfl (E_aB r146_87 (fun x5 => go (w := (89, [.ref l0, .ref l1, .int l2, .int l3, .int l4], [.ref l1, .int x5], h1)) r146_88 rfl rfl (go (w := (91, [.ref l0, .ref l1, .int l2, .int l3, .int l4], [.int l4, .ref l1, .int x5], h1)) r146_89 rfl rfl (E_vI r146_91 (As := [.ref l1, .int l4]) (rest := [.int x5]) (cut_n mi228.1 rfl rfl) (rm8_n mi228.2.1 (Nat.le_of_ble_eq_true rfl) (Nat.le_of_ble_eq_true rfl)) mi228.2.2 (fun x7 h6 => E_i2_ne r146_94 rfl (E_ic r146_101 (v := 0) (by decide) (rfl)) (E_ic r146_97 (v := 1) (by decide) (E_gt r146_98 rfl (rfl)))))))))))))))))))
theorem b146_102 (d : Nat) (l0 : Nat) (l1 : Nat) (l2 : Int32) (l3 : Int32) (l4 : Int32) (s0 : Int32) (h : aH) (K : Option Value → aH → Prop) : E scr false d 146 102 [.ref l0, .ref l1, .int l2, .int l3, .int l4] [.int s0] h K = E scr false d 146 63 [.ref l0, .ref l1, .int l2, .int s0, .int (l4 + 1)] [] h K := go (w := (103, [.ref l0, .ref l1, .int l2, .int s0, .int l4], [], h)) r146_102 rfl rfl (E_inc r146_103 (c := 1) rfl (by decide) (L' := [.ref l0, .ref l1, .int l2, .int s0, .int (l4 + 1)]) rfl (E_gt r146_106 rfl (rfl)))
-- 147 SecondNearestModel.takes(Ljava/lang/String;)Z
theorem mq147 : mRet 147 = (some .boolean) := by decide +kernel
theorem r147_0 : rowAt 147 0 = some (.aload_n 0, 1, 0, 0) := by decide +kernel
theorem r147_1 : rowAt 147 1 = some (.invokevirtual 243, 3, 144, 0) := by decide +kernel
theorem r147_4 : rowAt 147 4 = some (.aload_n 0, 1, 0, 0) := by decide +kernel
theorem r147_5 : rowAt 147 5 = some (.aload_n 1, 1, 0, 0) := by decide +kernel
theorem r147_6 : rowAt 147 6 = some (.invokevirtual 246, 3, 146, 0) := by decide +kernel
theorem r147_9 : rowAt 147 9 = some (.istore_n 2, 1, 0, 0) := by decide +kernel
theorem r147_10 : rowAt 147 10 = some (.aload_n 0, 1, 0, 0) := by decide +kernel
theorem r147_11 : rowAt 147 11 = some (.dup, 1, 0, 0) := by decide +kernel
theorem r147_12 : rowAt 147 12 = some (.getfield 223, 3, 9, 20) := by decide +kernel
theorem r147_15 : rowAt 147 15 = some (.iload_n 2, 1, 0, 0) := by decide +kernel
theorem r147_16 : rowAt 147 16 = some (.ifCond .eq 10, 3, 0, 0) := by decide +kernel
theorem r147_19 : rowAt 147 19 = some (.aload_n 1, 1, 0, 0) := by decide +kernel
theorem r147_20 : rowAt 147 20 = some (.invokevirtual 234, 3, 227, 0) := by decide +kernel
theorem r147_23 : rowAt 147 23 = some (.goto 4, 3, 0, 0) := by decide +kernel
theorem r147_26 : rowAt 147 26 = some (.iconst 0, 1, 0, 0) := by decide +kernel
theorem r147_27 : rowAt 147 27 = some (.iadd, 1, 0, 0) := by decide +kernel
theorem r147_28 : rowAt 147 28 = some (.putfield 223, 3, 9, 20) := by decide +kernel
theorem r147_31 : rowAt 147 31 = some (.iload_n 2, 1, 0, 0) := by decide +kernel
theorem r147_32 : rowAt 147 32 = some (.ireturn, 1, 0, 0) := by decide +kernel
theorem en147 (a0 : Nat) (a1 : Nat) : iniL 147 [.ref a0, .ref a1] = [.ref a0, .ref a1, .null] := ini_n mi147 rfl
theorem b147_0 (d : Nat) (l0 : Nat) (l1 : Nat) (h : aH) (K : Option Value → aH → Prop) : E scr false (d + 1) 147 0 [.ref l0, .ref l1, .null] [] h K = vV scr d 144 [.ref l0] h (fun h1 : aH => vI scr d 146 [.ref l0, .ref l1] h1 (fun (x4 : Int32) (h3 : aH) => gI scr h3 l0 9 20 (fun x5 : Int32 => (if x4 = 0 then E scr false (d + 1) 147 27 [.ref l0, .ref l1, .int x4] [.int 0, .int x5, .ref l0] h3 K else vI scr d 227 [.ref l1] h3 (fun (x7 : Int32) (h6 : aH) => E scr false (d + 1) 147 27 [.ref l0, .ref l1, .int x4] [.int x7, .int x5, .ref l0] h6 K))))) := go (w := (1, [.ref l0, .ref l1, .null], [.ref l0], h)) r147_0 rfl rfl (E_vV r147_1 (As := [.ref l0]) (rest := []) (cut_n mi144.1 rfl rfl) (rm8_n mi144.2.1 (Nat.le_of_ble_eq_true rfl) (Nat.le_of_ble_eq_true rfl)) mi144.2.2 (fun h1 => go (w := (5, [.ref l0, .ref l1, .null], [.ref l0], h1)) r147_4 rfl rfl (go (w := (6, [.ref l0, .ref l1, .null], [.ref l1, .ref l0], h1)) r147_5 rfl rfl (E_vI r147_6 (As := [.ref l0, .ref l1]) (rest := []) (cut_n mi146.1 rfl rfl) (rm8_n mi146.2.1 (Nat.le_of_ble_eq_true rfl) (Nat.le_of_ble_eq_true rfl)) mi146.2.2 (fun x4 h3 => go (w := (10, [.ref l0, .ref l1, .int x4], [], h3)) r147_9 rfl rfl (go (w := (11, [.ref l0, .ref l1, .int x4], [.ref l0], h3)) r147_10 rfl rfl (go (w := (12, [.ref l0, .ref l1, .int x4], [.ref l0, .ref l0], h3)) r147_11 rfl rfl (E_gI r147_12 rfl (fun x5 => go (w := (16, [.ref l0, .ref l1, .int x4], [.int x4, .int x5, .ref l0], h3)) r147_15 rfl rfl (E_i1_eq r147_16 rfl (E_ic r147_26 (v := 0) (by decide) (rfl)) (go (w := (20, [.ref l0, .ref l1, .int x4], [.ref l1, .int x5, .ref l0], h3)) r147_19 rfl rfl (E_vI r147_20 (As := [.ref l1]) (rest := [.int x5, .ref l0]) (cut_n mi227.1 rfl rfl) (rm8_n mi227.2.1 (Nat.le_of_ble_eq_true rfl) (Nat.le_of_ble_eq_true rfl)) mi227.2.2 (fun x7 h6 => E_gt r147_23 rfl (rfl))))))))))))))
theorem b147_27 (d : Nat) (l0 : Nat) (l1 : Nat) (l2 : Int32) (s0 : Int32) (s1 : Int32) (s2 : Nat) (h : aH) (K : Option Value → aH → Prop) : E scr false d 147 27 [.ref l0, .ref l1, .int l2] [.int s0, .int s1, .ref s2] h K = pF h s2 9 20 (.int (s1 + s0)) (fun h1 : aH => (l2 &&& 1 = l2 ∧ K (some (.int l2)) h1)) := go (w := (28, [.ref l0, .ref l1, .int l2], [.int (s1 + s0), .ref s2], h)) r147_27 rfl rfl (E_pI r147_28 ⟨rfl, rfl⟩ (fun h1 => go (w := (32, [.ref l0, .ref l1, .int l2], [.int l2], h1)) r147_31 rfl rfl (E_zret r147_32 (mq147))))
-- 148 SecondNearestModel.entry(II)V
theorem mq148 : mRet 148 = none := by decide +kernel
theorem r148_0 : rowAt 148 0 = some (.aload_n 0, 1, 0, 0) := by decide +kernel
theorem r148_1 : rowAt 148 1 = some (.getfield 220, 3, 9, 21) := by decide +kernel
theorem r148_4 : rowAt 148 4 = some (.ifCond .ne 51, 3, 0, 0) := by decide +kernel
theorem r148_7 : rowAt 148 7 = some (.aload_n 0, 1, 0, 0) := by decide +kernel
theorem r148_8 : rowAt 148 8 = some (.getfield 69, 3, 9, 30) := by decide +kernel
theorem r148_11 : rowAt 148 11 = some (.sipush 300, 3, 0, 0) := by decide +kernel
theorem r148_14 : rowAt 148 14 = some (.aload_n 0, 1, 0, 0) := by decide +kernel
theorem r148_15 : rowAt 148 15 = some (.getfield 250, 3, 9, 22) := by decide +kernel
theorem r148_18 : rowAt 148 18 = some (.imul, 1, 0, 0) := by decide +kernel
theorem r148_19 : rowAt 148 19 = some (.aload_n 0, 1, 0, 0) := by decide +kernel
theorem r148_20 : rowAt 148 20 = some (.getfield 253, 3, 9, 24) := by decide +kernel
theorem r148_23 : rowAt 148 23 = some (.iadd, 1, 0, 0) := by decide +kernel
theorem r148_24 : rowAt 148 24 = some (.iload_n 1, 1, 0, 0) := by decide +kernel
theorem r148_25 : rowAt 148 25 = some (.iastore, 1, 0, 0) := by decide +kernel
theorem r148_26 : rowAt 148 26 = some (.aload_n 0, 1, 0, 0) := by decide +kernel
theorem r148_27 : rowAt 148 27 = some (.getfield 72, 3, 9, 31) := by decide +kernel
theorem r148_30 : rowAt 148 30 = some (.sipush 300, 3, 0, 0) := by decide +kernel
theorem r148_33 : rowAt 148 33 = some (.aload_n 0, 1, 0, 0) := by decide +kernel
theorem r148_34 : rowAt 148 34 = some (.getfield 250, 3, 9, 22) := by decide +kernel
theorem r148_37 : rowAt 148 37 = some (.imul, 1, 0, 0) := by decide +kernel
theorem r148_38 : rowAt 148 38 = some (.aload_n 0, 1, 0, 0) := by decide +kernel
theorem r148_39 : rowAt 148 39 = some (.getfield 253, 3, 9, 24) := by decide +kernel
theorem r148_42 : rowAt 148 42 = some (.iadd, 1, 0, 0) := by decide +kernel
theorem r148_43 : rowAt 148 43 = some (.iload_n 2, 1, 0, 0) := by decide +kernel
theorem r148_44 : rowAt 148 44 = some (.iastore, 1, 0, 0) := by decide +kernel
theorem r148_45 : rowAt 148 45 = some (.aload_n 0, 1, 0, 0) := by decide +kernel
theorem r148_46 : rowAt 148 46 = some (.dup, 1, 0, 0) := by decide +kernel
theorem r148_47 : rowAt 148 47 = some (.getfield 253, 3, 9, 24) := by decide +kernel
theorem r148_50 : rowAt 148 50 = some (.iconst 1, 1, 0, 0) := by decide +kernel
theorem r148_51 : rowAt 148 51 = some (.iadd, 1, 0, 0) := by decide +kernel
theorem r148_52 : rowAt 148 52 = some (.putfield 253, 3, 9, 24) := by decide +kernel
theorem r148_55 : rowAt 148 55 = some (.return_, 1, 0, 0) := by decide +kernel
theorem en148 (a0 : Nat) (a1 : Int32) (a2 : Int32) : iniL 148 [.ref a0, .int a1, .int a2] = [.ref a0, .int a1, .int a2] := ini_n mi148 rfl
theorem b148_0 (d : Nat) (l0 : Nat) (l1 : Int32) (l2 : Int32) (h : aH) (K : Option Value → aH → Prop) : E scr false d 148 0 [.ref l0, .int l1, .int l2] [] h K = gI scr h l0 9 21 (fun x1 : Int32 => (if x1 = 0 then gR scr h l0 9 30 (fun x2 : Nat => gI scr h l0 9 22 (fun x3 : Int32 => gI scr h l0 9 24 (fun x4 : Int32 => wI h x2 (((300 * x3) + x4)) l1 (fun h5 : aH => gR scr h5 l0 9 31 (fun x6 : Nat => gI scr h5 l0 9 22 (fun x7 : Int32 => gI scr h5 l0 9 24 (fun x8 : Int32 => wI h5 x6 (((300 * x7) + x8)) l2 (fun h9 : aH => gI scr h9 l0 9 24 (fun x10 : Int32 => pF h9 l0 9 24 (.int (x10 + 1)) (fun h11 : aH => K none h11)))))))))) else K none h)) := go (w := (1, [.ref l0, .int l1, .int l2], [.ref l0], h)) r148_0 rfl rfl (E_gI r148_1 rfl (fun x1 => E_i1_ne r148_4 rfl (E_vret r148_55 (mq148)) (go (w := (8, [.ref l0, .int l1, .int l2], [.ref l0], h)) r148_7 rfl rfl (E_gR r148_8 rfl (fun x2 => E_sip r148_11 (v := 300) (by decide) (go (w := (15, [.ref l0, .int l1, .int l2], [.ref l0, .int 300, .ref x2], h)) r148_14 rfl rfl (E_gI r148_15 rfl (fun x3 => go (w := (19, [.ref l0, .int l1, .int l2], [.int (300 * x3), .ref x2], h)) r148_18 rfl rfl (go (w := (20, [.ref l0, .int l1, .int l2], [.ref l0, .int (300 * x3), .ref x2], h)) r148_19 rfl rfl (E_gI r148_20 rfl (fun x4 => go (w := (24, [.ref l0, .int l1, .int l2], [.int ((300 * x3) + x4), .ref x2], h)) r148_23 rfl rfl (go (w := (25, [.ref l0, .int l1, .int l2], [.int l1, .int ((300 * x3) + x4), .ref x2], h)) r148_24 rfl rfl (E_wI r148_25 (fun h5 => go (w := (27, [.ref l0, .int l1, .int l2], [.ref l0], h5)) r148_26 rfl rfl (E_gR r148_27 rfl (fun x6 => E_sip r148_30 (v := 300) (by decide) (go (w := (34, [.ref l0, .int l1, .int l2], [.ref l0, .int 300, .ref x6], h5)) r148_33 rfl rfl (E_gI r148_34 rfl (fun x7 => go (w := (38, [.ref l0, .int l1, .int l2], [.int (300 * x7), .ref x6], h5)) r148_37 rfl rfl (go (w := (39, [.ref l0, .int l1, .int l2], [.ref l0, .int (300 * x7), .ref x6], h5)) r148_38 rfl rfl (E_gI r148_39 rfl (fun x8 => go (w := (43, [.ref l0, .int l1, .int l2], [.int ((300 * x7) + x8), .ref x6], h5)) r148_42 rfl rfl (go (w := (44, [.ref l0, .int l1, .int l2], [.int l2, .int ((300 * x7) + x8), .ref x6], h5)) r148_43 rfl rfl (E_wI r148_44 (fun h9 => go (w := (46, [.ref l0, .int l1, .int l2], [.ref l0], h9)) r148_45 rfl rfl (go (w := (47, [.ref l0, .int l1, .int l2], [.ref l0, .ref l0], h9)) r148_46 rfl rfl (E_gI r148_47 rfl (fun x10 => E_ic r148_50 (v := 1) (by decide) (go (w := (52, [.ref l0, .int l1, .int l2], [.int (x10 + 1), .ref l0], h9)) r148_51 rfl rfl (E_pI r148_52 ⟨rfl, rfl⟩ (fun h11 => E_vret r148_55 (mq148))))))))))))))))))))))))))))))))
-- 149 SecondNearestModel.isCounted(I)V
theorem mq149 : mRet 149 = none := by decide +kernel
theorem r149_0 : rowAt 149 0 = some (.aload_n 0, 1, 0, 0) := by decide +kernel
theorem r149_1 : rowAt 149 1 = some (.getfield 256, 3, 9, 26) := by decide +kernel
theorem r149_4 : rowAt 149 4 = some (.bipush 60, 2, 0, 0) := by decide +kernel
theorem r149_6 : rowAt 149 6 = some (.if_icmp .ne 9, 3, 0, 0) := by decide +kernel
theorem r149_9 : rowAt 149 9 = some (.aload_n 0, 1, 0, 0) := by decide +kernel
theorem r149_10 : rowAt 149 10 = some (.iconst 3, 1, 0, 0) := by decide +kernel
theorem r149_11 : rowAt 149 11 = some (.iload_n 1, 1, 0, 0) := by decide +kernel
theorem r149_12 : rowAt 149 12 = some (.invokevirtual 259, 3, 142, 0) := by decide +kernel
theorem r149_15 : rowAt 149 15 = some (.aload_n 0, 1, 0, 0) := by decide +kernel
theorem r149_16 : rowAt 149 16 = some (.dup, 1, 0, 0) := by decide +kernel
theorem r149_17 : rowAt 149 17 = some (.getfield 256, 3, 9, 26) := by decide +kernel
theorem r149_20 : rowAt 149 20 = some (.iconst 1, 1, 0, 0) := by decide +kernel
theorem r149_21 : rowAt 149 21 = some (.iadd, 1, 0, 0) := by decide +kernel
theorem r149_22 : rowAt 149 22 = some (.putfield 256, 3, 9, 26) := by decide +kernel
theorem r149_25 : rowAt 149 25 = some (.return_, 1, 0, 0) := by decide +kernel
theorem en149 (a0 : Nat) (a1 : Int32) : iniL 149 [.ref a0, .int a1] = [.ref a0, .int a1] := ini_n mi149 rfl
theorem b149_0 (d : Nat) (l0 : Nat) (l1 : Int32) (h : aH) (K : Option Value → aH → Prop) : E scr false (d + 1) 149 0 [.ref l0, .int l1] [] h K = gI scr h l0 9 26 (fun x1 : Int32 => (if x1 = 60 then vV scr d 142 [.ref l0, .int 3, .int l1] h (fun h2 : aH => E scr false (d + 1) 149 15 [.ref l0, .int l1] [] h2 K) else E scr false (d + 1) 149 15 [.ref l0, .int l1] [] h K)) := go (w := (1, [.ref l0, .int l1], [.ref l0], h)) r149_0 rfl rfl (E_gI r149_1 rfl (fun x1 => E_bip r149_4 (v := 60) (by decide) (E_i2_ne r149_6 rfl (rfl) (go (w := (10, [.ref l0, .int l1], [.ref l0], h)) r149_9 rfl rfl (E_ic r149_10 (v := 3) (by decide) (go (w := (12, [.ref l0, .int l1], [.int l1, .int 3, .ref l0], h)) r149_11 rfl rfl (E_vV r149_12 (As := [.ref l0, .int 3, .int l1]) (rest := []) (cut_n mi142.1 rfl rfl) (rm8_n mi142.2.1 (Nat.le_of_ble_eq_true rfl) (Nat.le_of_ble_eq_true rfl)) mi142.2.2 (fun h2 => rfl))))))))
theorem b149_15 (d : Nat) (l0 : Nat) (l1 : Int32) (h : aH) (K : Option Value → aH → Prop) : E scr false d 149 15 [.ref l0, .int l1] [] h K = gI scr h l0 9 26 (fun x1 : Int32 => pF h l0 9 26 (.int (x1 + 1)) (fun h2 : aH => K none h2)) := go (w := (16, [.ref l0, .int l1], [.ref l0], h)) r149_15 rfl rfl (go (w := (17, [.ref l0, .int l1], [.ref l0, .ref l0], h)) r149_16 rfl rfl (E_gI r149_17 rfl (fun x1 => E_ic r149_20 (v := 1) (by decide) (go (w := (22, [.ref l0, .int l1], [.int (x1 + 1), .ref l0], h)) r149_21 rfl rfl (E_pI r149_22 ⟨rfl, rfl⟩ (fun h2 => E_vret r149_25 (mq149)))))))
-- 150 SecondNearestModel.digits(I)I
theorem mq150 : mRet 150 = (some .int) := by decide +kernel
theorem r150_0 : rowAt 150 0 = some (.aload_n 0, 1, 0, 0) := by decide +kernel
theorem r150_1 : rowAt 150 1 = some (.invokevirtual 263, 3, 145, 0) := by decide +kernel
theorem r150_4 : rowAt 150 4 = some (.ifCond .ne 14, 3, 0, 0) := by decide +kernel
theorem r150_7 : rowAt 150 7 = some (.aload_n 0, 1, 0, 0) := by decide +kernel
theorem r150_8 : rowAt 150 8 = some (.iconst 0, 1, 0, 0) := by decide +kernel
theorem r150_9 : rowAt 150 9 = some (.aload_n 0, 1, 0, 0) := by decide +kernel
theorem r150_10 : rowAt 150 10 = some (.getfield 223, 3, 9, 20) := by decide +kernel
theorem r150_13 : rowAt 150 13 = some (.invokevirtual 259, 3, 142, 0) := by decide +kernel
theorem r150_16 : rowAt 150 16 = some (.iconst 0, 1, 0, 0) := by decide +kernel
theorem r150_17 : rowAt 150 17 = some (.ireturn, 1, 0, 0) := by decide +kernel
theorem r150_18 : rowAt 150 18 = some (.aload_n 0, 1, 0, 0) := by decide +kernel
theorem r150_19 : rowAt 150 19 = some (.getfield 223, 3, 9, 20) := by decide +kernel
theorem r150_22 : rowAt 150 22 = some (.istore_n 2, 1, 0, 0) := by decide +kernel
theorem r150_23 : rowAt 150 23 = some (.iconst 0, 1, 0, 0) := by decide +kernel
theorem r150_24 : rowAt 150 24 = some (.istore_n 3, 1, 0, 0) := by decide +kernel
theorem r150_25 : rowAt 150 25 = some (.aload_n 0, 1, 0, 0) := by decide +kernel
theorem r150_26 : rowAt 150 26 = some (.invokevirtual 263, 3, 145, 0) := by decide +kernel
theorem r150_29 : rowAt 150 29 = some (.ifCond .eq 43, 3, 0, 0) := by decide +kernel
theorem r150_32 : rowAt 150 32 = some (.aload_n 0, 1, 0, 0) := by decide +kernel
theorem r150_33 : rowAt 150 33 = some (.getfield 223, 3, 9, 20) := by decide +kernel
theorem r150_36 : rowAt 150 36 = some (.iload_n 2, 1, 0, 0) := by decide +kernel
theorem r150_37 : rowAt 150 37 = some (.isub, 1, 0, 0) := by decide +kernel
theorem r150_38 : rowAt 150 38 = some (.iconst 5, 1, 0, 0) := by decide +kernel
theorem r150_39 : rowAt 150 39 = some (.if_icmp .ge 18, 3, 0, 0) := by decide +kernel
theorem r150_42 : rowAt 150 42 = some (.bipush 10, 2, 0, 0) := by decide +kernel
theorem r150_44 : rowAt 150 44 = some (.iload_n 3, 1, 0, 0) := by decide +kernel
theorem r150_45 : rowAt 150 45 = some (.imul, 1, 0, 0) := by decide +kernel
theorem r150_46 : rowAt 150 46 = some (.aload_n 0, 1, 0, 0) := by decide +kernel
theorem r150_47 : rowAt 150 47 = some (.invokevirtual 226, 3, 143, 0) := by decide +kernel
theorem r150_50 : rowAt 150 50 = some (.iadd, 1, 0, 0) := by decide +kernel
theorem r150_51 : rowAt 150 51 = some (.bipush 48, 2, 0, 0) := by decide +kernel
theorem r150_53 : rowAt 150 53 = some (.isub, 1, 0, 0) := by decide +kernel
theorem r150_54 : rowAt 150 54 = some (.goto 4, 3, 0, 0) := by decide +kernel
theorem r150_57 : rowAt 150 57 = some (.iload_n 3, 1, 0, 0) := by decide +kernel
theorem r150_58 : rowAt 150 58 = some (.istore_n 3, 1, 0, 0) := by decide +kernel
theorem r150_59 : rowAt 150 59 = some (.aload_n 0, 1, 0, 0) := by decide +kernel
theorem r150_60 : rowAt 150 60 = some (.dup, 1, 0, 0) := by decide +kernel
theorem r150_61 : rowAt 150 61 = some (.getfield 223, 3, 9, 20) := by decide +kernel
theorem r150_64 : rowAt 150 64 = some (.iconst 1, 1, 0, 0) := by decide +kernel
theorem r150_65 : rowAt 150 65 = some (.iadd, 1, 0, 0) := by decide +kernel
theorem r150_66 : rowAt 150 66 = some (.putfield 223, 3, 9, 20) := by decide +kernel
theorem r150_69 : rowAt 150 69 = some (.goto (-44), 3, 0, 0) := by decide +kernel
theorem r150_72 : rowAt 150 72 = some (.aload_n 0, 1, 0, 0) := by decide +kernel
theorem r150_73 : rowAt 150 73 = some (.getfield 223, 3, 9, 20) := by decide +kernel
theorem r150_76 : rowAt 150 76 = some (.iload_n 2, 1, 0, 0) := by decide +kernel
theorem r150_77 : rowAt 150 77 = some (.isub, 1, 0, 0) := by decide +kernel
theorem r150_78 : rowAt 150 78 = some (.iconst 5, 1, 0, 0) := by decide +kernel
theorem r150_79 : rowAt 150 79 = some (.if_icmp .gt 8, 3, 0, 0) := by decide +kernel
theorem r150_82 : rowAt 150 82 = some (.iload_n 3, 1, 0, 0) := by decide +kernel
theorem r150_83 : rowAt 150 83 = some (.iload_n 1, 1, 0, 0) := by decide +kernel
theorem r150_84 : rowAt 150 84 = some (.if_icmp .le 9, 3, 0, 0) := by decide +kernel
theorem r150_87 : rowAt 150 87 = some (.aload_n 0, 1, 0, 0) := by decide +kernel
theorem r150_88 : rowAt 150 88 = some (.iconst 1, 1, 0, 0) := by decide +kernel
theorem r150_89 : rowAt 150 89 = some (.iload_n 2, 1, 0, 0) := by decide +kernel
theorem r150_90 : rowAt 150 90 = some (.invokevirtual 259, 3, 142, 0) := by decide +kernel
theorem r150_93 : rowAt 150 93 = some (.iload_n 3, 1, 0, 0) := by decide +kernel
theorem r150_94 : rowAt 150 94 = some (.ireturn, 1, 0, 0) := by decide +kernel
theorem en150 (a0 : Nat) (a1 : Int32) : iniL 150 [.ref a0, .int a1] = [.ref a0, .int a1, .null, .null] := ini_n mi150 rfl
theorem b150_0 (d : Nat) (l0 : Nat) (l1 : Int32) (h : aH) (K : Option Value → aH → Prop) : E scr false (d + 1) 150 0 [.ref l0, .int l1, .null, .null] [] h K = vI scr d 145 [.ref l0] h (fun (x2 : Int32) (h1 : aH) => (if x2 = 0 then gI scr h1 l0 9 20 (fun x4 : Int32 => vV scr d 142 [.ref l0, .int 0, .int x4] h1 (fun h5 : aH => K (some (.int 0)) h5)) else gI scr h1 l0 9 20 (fun x3 : Int32 => E scr false (d + 1) 150 25 [.ref l0, .int l1, .int x3, .int 0] [] h1 K))) := go (w := (1, [.ref l0, .int l1, .null, .null], [.ref l0], h)) r150_0 rfl rfl (E_vI r150_1 (As := [.ref l0]) (rest := []) (cut_n mi145.1 rfl rfl) (rm8_n mi145.2.1 (Nat.le_of_ble_eq_true rfl) (Nat.le_of_ble_eq_true rfl)) mi145.2.2 (fun x2 h1 => E_i1_ne r150_4 rfl (go (w := (19, [.ref l0, .int l1, .null, .null], [.ref l0], h1)) r150_18 rfl rfl (E_gI r150_19 rfl (fun x3 => go (w := (23, [.ref l0, .int l1, .int x3, .null], [], h1)) r150_22 rfl rfl (E_ic r150_23 (v := 0) (by decide) (go (w := (25, [.ref l0, .int l1, .int x3, .int 0], [], h1)) r150_24 rfl rfl (rfl)))))) (go (w := (8, [.ref l0, .int l1, .null, .null], [.ref l0], h1)) r150_7 rfl rfl (E_ic r150_8 (v := 0) (by decide) (go (w := (10, [.ref l0, .int l1, .null, .null], [.ref l0, .int 0, .ref l0], h1)) r150_9 rfl rfl (E_gI r150_10 rfl (fun x4 => E_vV r150_13 (As := [.ref l0, .int 0, .int x4]) (rest := []) (cut_n mi142.1 rfl rfl) (rm8_n mi142.2.1 (Nat.le_of_ble_eq_true rfl) (Nat.le_of_ble_eq_true rfl)) mi142.2.2 (fun h5 => E_ic r150_16 (v := 0) (by decide) (E_ri r150_17 (mq150))))))))))
theorem b150_25 (d : Nat) (l0 : Nat) (l1 : Int32) (l2 : Int32) (l3 : Int32) (h : aH) (K : Option Value → aH → Prop) : E scr false (d + 1) 150 25 [.ref l0, .int l1, .int l2, .int l3] [] h K = vI scr d 145 [.ref l0] h (fun (x2 : Int32) (h1 : aH) => (if x2 = 0 then gI scr h1 l0 9 20 (fun x3 : Int32 => (if 5 < (x3 - l2) then E scr false (d + 1) 150 87 [.ref l0, .int l1, .int l2, .int l3] [] h1 K else (if l3 ≤ l1 then K (some (.int l3)) h1 else E scr false (d + 1) 150 87 [.ref l0, .int l1, .int l2, .int l3] [] h1 K))) else gI scr h1 l0 9 20 (fun x4 : Int32 => (if 5 ≤ (x4 - l2) then E scr false (d + 1) 150 58 [.ref l0, .int l1, .int l2, .int l3] [.int l3] h1 K else vI scr d 143 [.ref l0] h1 (fun (x6 : Int32) (h5 : aH) => E scr false (d + 1) 150 58 [.ref l0, .int l1, .int l2, .int l3] [.int (((10 * l3) + x6) - 48)] h5 K))))) := go (w := (26, [.ref l0, .int l1, .int l2, .int l3], [.ref l0], h)) r150_25 rfl rfl (E_vI r150_26 (As := [.ref l0]) (rest := []) (cut_n mi145.1 rfl rfl) (rm8_n mi145.2.1 (Nat.le_of_ble_eq_true rfl) (Nat.le_of_ble_eq_true rfl)) mi145.2.2 (fun x2 h1 => E_i1_eq r150_29 rfl (go (w := (73, [.ref l0, .int l1, .int l2, .int l3], [.ref l0], h1)) r150_72 rfl rfl (E_gI r150_73 rfl (fun x3 => go (w := (77, [.ref l0, .int l1, .int l2, .int l3], [.int l2, .int x3], h1)) r150_76 rfl rfl (go (w := (78, [.ref l0, .int l1, .int l2, .int l3], [.int (x3 - l2)], h1)) r150_77 rfl rfl (E_ic r150_78 (v := 5) (by decide) (E_i2_gt r150_79 rfl (rfl) (go (w := (83, [.ref l0, .int l1, .int l2, .int l3], [.int l3], h1)) r150_82 rfl rfl (go (w := (84, [.ref l0, .int l1, .int l2, .int l3], [.int l1, .int l3], h1)) r150_83 rfl rfl (E_i2_le r150_84 rfl (go (w := (94, [.ref l0, .int l1, .int l2, .int l3], [.int l3], h1)) r150_93 rfl rfl (E_ri r150_94 (mq150))) (rfl)))))))))) (go (w := (33, [.ref l0, .int l1, .int l2, .int l3], [.ref l0], h1)) r150_32 rfl rfl (E_gI r150_33 rfl (fun x4 => go (w := (37, [.ref l0, .int l1, .int l2, .int l3], [.int l2, .int x4], h1)) r150_36 rfl rfl (go (w := (38, [.ref l0, .int l1, .int l2, .int l3], [.int (x4 - l2)], h1)) r150_37 rfl rfl (E_ic r150_38 (v := 5) (by decide) (E_i2_ge r150_39 rfl (go (w := (58, [.ref l0, .int l1, .int l2, .int l3], [.int l3], h1)) r150_57 rfl rfl (rfl)) (E_bip r150_42 (v := 10) (by decide) (go (w := (45, [.ref l0, .int l1, .int l2, .int l3], [.int l3, .int 10], h1)) r150_44 rfl rfl (go (w := (46, [.ref l0, .int l1, .int l2, .int l3], [.int (10 * l3)], h1)) r150_45 rfl rfl (go (w := (47, [.ref l0, .int l1, .int l2, .int l3], [.ref l0, .int (10 * l3)], h1)) r150_46 rfl rfl (E_vI r150_47 (As := [.ref l0]) (rest := [.int (10 * l3)]) (cut_n mi143.1 rfl rfl) (rm8_n mi143.2.1 (Nat.le_of_ble_eq_true rfl) (Nat.le_of_ble_eq_true rfl)) mi143.2.2 (fun x6 h5 => go (w := (51, [.ref l0, .int l1, .int l2, .int l3], [.int ((10 * l3) + x6)], h5)) r150_50 rfl rfl (E_bip r150_51 (v := 48) (by decide) (go (w := (54, [.ref l0, .int l1, .int l2, .int l3], [.int (((10 * l3) + x6) - 48)], h5)) r150_53 rfl rfl (E_gt r150_54 rfl (rfl))))))))))))))))))
theorem b150_58 (d : Nat) (l0 : Nat) (l1 : Int32) (l2 : Int32) (l3 : Int32) (s0 : Int32) (h : aH) (K : Option Value → aH → Prop) : E scr false d 150 58 [.ref l0, .int l1, .int l2, .int l3] [.int s0] h K = gI scr h l0 9 20 (fun x1 : Int32 => pF h l0 9 20 (.int (x1 + 1)) (fun h2 : aH => E scr false d 150 25 [.ref l0, .int l1, .int l2, .int s0] [] h2 K)) := go (w := (59, [.ref l0, .int l1, .int l2, .int s0], [], h)) r150_58 rfl rfl (go (w := (60, [.ref l0, .int l1, .int l2, .int s0], [.ref l0], h)) r150_59 rfl rfl (go (w := (61, [.ref l0, .int l1, .int l2, .int s0], [.ref l0, .ref l0], h)) r150_60 rfl rfl (E_gI r150_61 rfl (fun x1 => E_ic r150_64 (v := 1) (by decide) (go (w := (66, [.ref l0, .int l1, .int l2, .int s0], [.int (x1 + 1), .ref l0], h)) r150_65 rfl rfl (E_pI r150_66 ⟨rfl, rfl⟩ (fun h2 => E_gt r150_69 rfl (rfl))))))))
theorem b150_87 (d : Nat) (l0 : Nat) (l1 : Int32) (l2 : Int32) (l3 : Int32) (h : aH) (K : Option Value → aH → Prop) : E scr false (d + 1) 150 87 [.ref l0, .int l1, .int l2, .int l3] [] h K = vV scr d 142 [.ref l0, .int 1, .int l2] h (fun h1 : aH => K (some (.int l3)) h1) := go (w := (88, [.ref l0, .int l1, .int l2, .int l3], [.ref l0], h)) r150_87 rfl rfl (E_ic r150_88 (v := 1) (by decide) (go (w := (90, [.ref l0, .int l1, .int l2, .int l3], [.int l2, .int 1, .ref l0], h)) r150_89 rfl rfl (E_vV r150_90 (As := [.ref l0, .int 1, .int l2]) (rest := []) (cut_n mi142.1 rfl rfl) (rm8_n mi142.2.1 (Nat.le_of_ble_eq_true rfl) (Nat.le_of_ble_eq_true rfl)) mi142.2.2 (fun h1 => go (w := (94, [.ref l0, .int l1, .int l2, .int l3], [.int l3], h1)) r150_93 rfl rfl (E_ri r150_94 (mq150))))))
-- 151 SecondNearestModel.value()V
theorem mq151 : mRet 151 = none := by decide +kernel
theorem r151_0 : rowAt 151 0 = some (.aload_n 0, 1, 0, 0) := by decide +kernel
theorem r151_1 : rowAt 151 1 = some (.invokevirtual 243, 3, 144, 0) := by decide +kernel
theorem r151_4 : rowAt 151 4 = some (.aload_n 0, 1, 0, 0) := by decide +kernel
theorem r151_5 : rowAt 151 5 = some (.getfield 223, 3, 9, 20) := by decide +kernel
theorem r151_8 : rowAt 151 8 = some (.istore_n 1, 1, 0, 0) := by decide +kernel
theorem r151_9 : rowAt 151 9 = some (.aload_n 0, 1, 0, 0) := by decide +kernel
theorem r151_10 : rowAt 151 10 = some (.invokevirtual 263, 3, 145, 0) := by decide +kernel
theorem r151_13 : rowAt 151 13 = some (.ifCond .eq 23, 3, 0, 0) := by decide +kernel
theorem r151_16 : rowAt 151 16 = some (.aload_n 0, 1, 0, 0) := by decide +kernel
theorem r151_17 : rowAt 151 17 = some (.ldc_w 267, 3, 99999, 0) := by decide +kernel
theorem r151_20 : rowAt 151 20 = some (.invokevirtual 268, 3, 150, 0) := by decide +kernel
theorem r151_23 : rowAt 151 23 = some (.istore_n 2, 1, 0, 0) := by decide +kernel
theorem r151_24 : rowAt 151 24 = some (.aload_n 0, 1, 0, 0) := by decide +kernel
theorem r151_25 : rowAt 151 25 = some (.iload_n 1, 1, 0, 0) := by decide +kernel
theorem r151_26 : rowAt 151 26 = some (.invokevirtual 271, 3, 149, 0) := by decide +kernel
theorem r151_29 : rowAt 151 29 = some (.aload_n 0, 1, 0, 0) := by decide +kernel
theorem r151_30 : rowAt 151 30 = some (.iconst 0, 1, 0, 0) := by decide +kernel
theorem r151_31 : rowAt 151 31 = some (.iload_n 2, 1, 0, 0) := by decide +kernel
theorem r151_32 : rowAt 151 32 = some (.invokevirtual 274, 3, 148, 0) := by decide +kernel
theorem r151_35 : rowAt 151 35 = some (.return_, 1, 0, 0) := by decide +kernel
theorem r151_36 : rowAt 151 36 = some (.iconst 0, 1, 0, 0) := by decide +kernel
theorem r151_37 : rowAt 151 37 = some (.istore_n 2, 1, 0, 0) := by decide +kernel
theorem r151_38 : rowAt 151 38 = some (.iload_n 2, 1, 0, 0) := by decide +kernel
theorem r151_39 : rowAt 151 39 = some (.aload_n 0, 1, 0, 0) := by decide +kernel
theorem r151_40 : rowAt 151 40 = some (.getfield 61, 3, 9, 28) := by decide +kernel
theorem r151_43 : rowAt 151 43 = some (.if_icmp .ge 20, 3, 0, 0) := by decide +kernel
theorem r151_46 : rowAt 151 46 = some (.aload_n 0, 1, 0, 0) := by decide +kernel
theorem r151_47 : rowAt 151 47 = some (.iload_n 2, 1, 0, 0) := by decide +kernel
theorem r151_48 : rowAt 151 48 = some (.invokestatic 277, 3, 141, 1) := by decide +kernel
theorem r151_51 : rowAt 151 51 = some (.invokevirtual 246, 3, 146, 0) := by decide +kernel
theorem r151_54 : rowAt 151 54 = some (.ifCond .ne 9, 3, 0, 0) := by decide +kernel
theorem r151_57 : rowAt 151 57 = some (.iinc 2 1, 3, 0, 0) := by decide +kernel
theorem r151_60 : rowAt 151 60 = some (.goto (-22), 3, 0, 0) := by decide +kernel
theorem r151_63 : rowAt 151 63 = some (.iload_n 2, 1, 0, 0) := by decide +kernel
theorem r151_64 : rowAt 151 64 = some (.aload_n 0, 1, 0, 0) := by decide +kernel
theorem r151_65 : rowAt 151 65 = some (.getfield 61, 3, 9, 28) := by decide +kernel
theorem r151_68 : rowAt 151 68 = some (.if_icmp .ne 10, 3, 0, 0) := by decide +kernel
theorem r151_71 : rowAt 151 71 = some (.aload_n 0, 1, 0, 0) := by decide +kernel
theorem r151_72 : rowAt 151 72 = some (.iconst 0, 1, 0, 0) := by decide +kernel
theorem r151_73 : rowAt 151 73 = some (.iload_n 1, 1, 0, 0) := by decide +kernel
theorem r151_74 : rowAt 151 74 = some (.invokevirtual 259, 3, 142, 0) := by decide +kernel
theorem r151_77 : rowAt 151 77 = some (.return_, 1, 0, 0) := by decide +kernel
theorem r151_78 : rowAt 151 78 = some (.aload_n 0, 1, 0, 0) := by decide +kernel
theorem r151_79 : rowAt 151 79 = some (.iload_n 1, 1, 0, 0) := by decide +kernel
theorem r151_80 : rowAt 151 80 = some (.invokevirtual 271, 3, 149, 0) := by decide +kernel
theorem r151_83 : rowAt 151 83 = some (.aload_n 0, 1, 0, 0) := by decide +kernel
theorem r151_84 : rowAt 151 84 = some (.dup, 1, 0, 0) := by decide +kernel
theorem r151_85 : rowAt 151 85 = some (.getfield 223, 3, 9, 20) := by decide +kernel
theorem r151_88 : rowAt 151 88 = some (.iload_n 2, 1, 0, 0) := by decide +kernel
theorem r151_89 : rowAt 151 89 = some (.invokestatic 277, 3, 141, 1) := by decide +kernel
theorem r151_92 : rowAt 151 92 = some (.invokevirtual 234, 3, 227, 0) := by decide +kernel
theorem r151_95 : rowAt 151 95 = some (.iadd, 1, 0, 0) := by decide +kernel
theorem r151_96 : rowAt 151 96 = some (.putfield 223, 3, 9, 20) := by decide +kernel
theorem r151_99 : rowAt 151 99 = some (.aload_n 0, 1, 0, 0) := by decide +kernel
theorem r151_100 : rowAt 151 100 = some (.iconst 1, 1, 0, 0) := by decide +kernel
theorem r151_101 : rowAt 151 101 = some (.iload_n 2, 1, 0, 0) := by decide +kernel
theorem r151_102 : rowAt 151 102 = some (.invokevirtual 274, 3, 148, 0) := by decide +kernel
theorem r151_105 : rowAt 151 105 = some (.return_, 1, 0, 0) := by decide +kernel
theorem en151 (a0 : Nat) : iniL 151 [.ref a0] = [.ref a0, .null, .null] := ini_n mi151 rfl
theorem b151_0 (d : Nat) (l0 : Nat) (h : aH) (K : Option Value → aH → Prop) : E scr false (d + 1) 151 0 [.ref l0, .null, .null] [] h K = vV scr d 144 [.ref l0] h (fun h1 : aH => gI scr h1 l0 9 20 (fun x3 : Int32 => vI scr d 145 [.ref l0] h1 (fun (x5 : Int32) (h4 : aH) => (if x5 = 0 then E scr false (d + 1) 151 38 [.ref l0, .int x3, .int 0] [] h4 K else vI scr d 150 [.ref l0, .int 99999] h4 (fun (x7 : Int32) (h6 : aH) => vV scr d 149 [.ref l0, .int x3] h6 (fun h8 : aH => vV scr d 148 [.ref l0, .int 0, .int x7] h8 (fun h10 : aH => K none h10))))))) := go (w := (1, [.ref l0, .null, .null], [.ref l0], h)) r151_0 rfl rfl (E_vV r151_1 (As := [.ref l0]) (rest := []) (cut_n mi144.1 rfl rfl) (rm8_n mi144.2.1 (Nat.le_of_ble_eq_true rfl) (Nat.le_of_ble_eq_true rfl)) mi144.2.2 (fun h1 => go (w := (5, [.ref l0, .null, .null], [.ref l0], h1)) r151_4 rfl rfl (E_gI r151_5 rfl (fun x3 => go (w := (9, [.ref l0, .int x3, .null], [], h1)) r151_8 rfl rfl (go (w := (10, [.ref l0, .int x3, .null], [.ref l0], h1)) r151_9 rfl rfl (E_vI r151_10 (As := [.ref l0]) (rest := []) (cut_n mi145.1 rfl rfl) (rm8_n mi145.2.1 (Nat.le_of_ble_eq_true rfl) (Nat.le_of_ble_eq_true rfl)) mi145.2.2 (fun x5 h4 => E_i1_eq r151_13 rfl (E_ic r151_36 (v := 0) (by decide) (go (w := (38, [.ref l0, .int x3, .int 0], [], h4)) r151_37 rfl rfl (rfl))) (go (w := (17, [.ref l0, .int x3, .null], [.ref l0], h4)) r151_16 rfl rfl (E_ldcw r151_17 (v := 99999) (by decide) (E_vI r151_20 (As := [.ref l0, .int 99999]) (rest := []) (cut_n mi150.1 rfl rfl) (rm8_n mi150.2.1 (Nat.le_of_ble_eq_true rfl) (Nat.le_of_ble_eq_true rfl)) mi150.2.2 (fun x7 h6 => go (w := (24, [.ref l0, .int x3, .int x7], [], h6)) r151_23 rfl rfl (go (w := (25, [.ref l0, .int x3, .int x7], [.ref l0], h6)) r151_24 rfl rfl (go (w := (26, [.ref l0, .int x3, .int x7], [.int x3, .ref l0], h6)) r151_25 rfl rfl (E_vV r151_26 (As := [.ref l0, .int x3]) (rest := []) (cut_n mi149.1 rfl rfl) (rm8_n mi149.2.1 (Nat.le_of_ble_eq_true rfl) (Nat.le_of_ble_eq_true rfl)) mi149.2.2 (fun h8 => go (w := (30, [.ref l0, .int x3, .int x7], [.ref l0], h8)) r151_29 rfl rfl (E_ic r151_30 (v := 0) (by decide) (go (w := (32, [.ref l0, .int x3, .int x7], [.int x7, .int 0, .ref l0], h8)) r151_31 rfl rfl (E_vV r151_32 (As := [.ref l0, .int 0, .int x7]) (rest := []) (cut_n mi148.1 rfl rfl) (rm8_n mi148.2.1 (Nat.le_of_ble_eq_true rfl) (Nat.le_of_ble_eq_true rfl)) mi148.2.2 (fun h10 => E_vret r151_35 (mq151))))))))))))))))))))
theorem b151_38 (d : Nat) (l0 : Nat) (l1 : Int32) (l2 : Int32) (h : aH) (K : Option Value → aH → Prop) : E scr false (d + 1) 151 38 [.ref l0, .int l1, .int l2] [] h K = gI scr h l0 9 28 (fun x1 : Int32 => (if x1 ≤ l2 then E scr false (d + 1) 151 63 [.ref l0, .int l1, .int l2] [] h K else sR scr d 141 [.int l2] h (fun (x3 : Nat) (h2 : aH) => vI scr d 146 [.ref l0, .ref x3] h2 (fun (x5 : Int32) (h4 : aH) => (if x5 = 0 then E scr false (d + 1) 151 38 [.ref l0, .int l1, .int (l2 + 1)] [] h4 K else E scr false (d + 1) 151 63 [.ref l0, .int l1, .int l2] [] h4 K))))) := go (w := (39, [.ref l0, .int l1, .int l2], [.int l2], h)) r151_38 rfl rfl (go (w := (40, [.ref l0, .int l1, .int l2], [.ref l0, .int l2], h)) r151_39 rfl rfl (E_gI r151_40 rfl (fun x1 => E_i2_ge r151_43 rfl (rfl) (go (w := (47, [.ref l0, .int l1, .int l2], [.ref l0], h)) r151_46 rfl rfl (go (w := (48, [.ref l0, .int l1, .int l2], [.int l2, .ref l0], h)) r151_47 rfl rfl (E_sR r151_48 (As := [.int l2]) (rest := [.ref l0]) (cut_n mi141.1 rfl rfl) (rm8_n mi141.2.1 (Nat.le_of_ble_eq_true rfl) (Nat.le_of_ble_eq_true rfl)) mi141.2.2 (fun x3 h2 => E_vI r151_51 (As := [.ref l0, .ref x3]) (rest := []) (cut_n mi146.1 rfl rfl) (rm8_n mi146.2.1 (Nat.le_of_ble_eq_true rfl) (Nat.le_of_ble_eq_true rfl)) mi146.2.2 (fun x5 h4 => E_i1_ne r151_54 rfl (rfl) (E_inc r151_57 (c := 1) rfl (by decide) (L' := [.ref l0, .int l1, .int (l2 + 1)]) rfl (E_gt r151_60 rfl (rfl)))))))))))
theorem b151_63 (d : Nat) (l0 : Nat) (l1 : Int32) (l2 : Int32) (h : aH) (K : Option Value → aH → Prop) : E scr false (d + 1) 151 63 [.ref l0, .int l1, .int l2] [] h K = gI scr h l0 9 28 (fun x1 : Int32 => (if l2 = x1 then vV scr d 142 [.ref l0, .int 0, .int l1] h (fun h12 : aH => K none h12) else vV scr d 149 [.ref l0, .int l1] h (fun h2 : aH => gI scr h2 l0 9 20 (fun x4 : Int32 => sR scr d 141 [.int l2] h2 (fun (x6 : Nat) (h5 : aH) => vI scr d 227 [.ref x6] h5 (fun (x8 : Int32) (h7 : aH) => pF h7 l0 9 20 (.int (x4 + x8)) (fun h9 : aH => vV scr d 148 [.ref l0, .int 1, .int l2] h9 (fun h10 : aH => K none h10)))))))) := go (w := (64, [.ref l0, .int l1, .int l2], [.int l2], h)) r151_63 rfl rfl (go (w := (65, [.ref l0, .int l1, .int l2], [.ref l0, .int l2], h)) r151_64 rfl rfl (E_gI r151_65 rfl (fun x1 => E_i2_ne r151_68 rfl (go (w := (79, [.ref l0, .int l1, .int l2], [.ref l0], h)) r151_78 rfl rfl (go (w := (80, [.ref l0, .int l1, .int l2], [.int l1, .ref l0], h)) r151_79 rfl rfl (E_vV r151_80 (As := [.ref l0, .int l1]) (rest := []) (cut_n mi149.1 rfl rfl) (rm8_n mi149.2.1 (Nat.le_of_ble_eq_true rfl) (Nat.le_of_ble_eq_true rfl)) mi149.2.2 (fun h2 => go (w := (84, [.ref l0, .int l1, .int l2], [.ref l0], h2)) r151_83 rfl rfl (go (w := (85, [.ref l0, .int l1, .int l2], [.ref l0, .ref l0], h2)) r151_84 rfl rfl (E_gI r151_85 rfl (fun x4 => go (w := (89, [.ref l0, .int l1, .int l2], [.int l2, .int x4, .ref l0], h2)) r151_88 rfl rfl (E_sR r151_89 (As := [.int l2]) (rest := [.int x4, .ref l0]) (cut_n mi141.1 rfl rfl) (rm8_n mi141.2.1 (Nat.le_of_ble_eq_true rfl) (Nat.le_of_ble_eq_true rfl)) mi141.2.2 (fun x6 h5 => E_vI r151_92 (As := [.ref x6]) (rest := [.int x4, .ref l0]) (cut_n mi227.1 rfl rfl) (rm8_n mi227.2.1 (Nat.le_of_ble_eq_true rfl) (Nat.le_of_ble_eq_true rfl)) mi227.2.2 (fun x8 h7 => go (w := (96, [.ref l0, .int l1, .int l2], [.int (x4 + x8), .ref l0], h7)) r151_95 rfl rfl (E_pI r151_96 ⟨rfl, rfl⟩ (fun h9 => go (w := (100, [.ref l0, .int l1, .int l2], [.ref l0], h9)) r151_99 rfl rfl (E_ic r151_100 (v := 1) (by decide) (go (w := (102, [.ref l0, .int l1, .int l2], [.int l2, .int 1, .ref l0], h9)) r151_101 rfl rfl (E_vV r151_102 (As := [.ref l0, .int 1, .int l2]) (rest := []) (cut_n mi148.1 rfl rfl) (rm8_n mi148.2.1 (Nat.le_of_ble_eq_true rfl) (Nat.le_of_ble_eq_true rfl)) mi148.2.2 (fun h10 => E_vret r151_105 (mq151))))))))))))))))) (go (w := (72, [.ref l0, .int l1, .int l2], [.ref l0], h)) r151_71 rfl rfl (E_ic r151_72 (v := 0) (by decide) (go (w := (74, [.ref l0, .int l1, .int l2], [.int l1, .int 0, .ref l0], h)) r151_73 rfl rfl (E_vV r151_74 (As := [.ref l0, .int 0, .int l1]) (rest := []) (cut_n mi142.1 rfl rfl) (rm8_n mi142.2.1 (Nat.le_of_ble_eq_true rfl) (Nat.le_of_ble_eq_true rfl)) mi142.2.2 (fun h12 => E_vret r151_77 (mq151)))))))))
-- 152 SecondNearestModel.term()V
theorem mq152 : mRet 152 = none := by decide +kernel
theorem r152_0 : rowAt 152 0 = some (.aload_n 0, 1, 0, 0) := by decide +kernel
theorem r152_1 : rowAt 152 1 = some (.invokevirtual 281, 3, 151, 0) := by decide +kernel
theorem r152_4 : rowAt 152 4 = some (.aload_n 0, 1, 0, 0) := by decide +kernel
theorem r152_5 : rowAt 152 5 = some (.invokevirtual 243, 3, 144, 0) := by decide +kernel
theorem r152_8 : rowAt 152 8 = some (.aload_n 0, 1, 0, 0) := by decide +kernel
theorem r152_9 : rowAt 152 9 = some (.getfield 220, 3, 9, 21) := by decide +kernel
theorem r152_12 : rowAt 152 12 = some (.ifCond .ne 88, 3, 0, 0) := by decide +kernel
theorem r152_15 : rowAt 152 15 = some (.aload_n 0, 1, 0, 0) := by decide +kernel
theorem r152_16 : rowAt 152 16 = some (.invokevirtual 226, 3, 143, 0) := by decide +kernel
theorem r152_19 : rowAt 152 19 = some (.bipush 42, 2, 0, 0) := by decide +kernel
theorem r152_21 : rowAt 152 21 = some (.if_icmp .eq 21, 3, 0, 0) := by decide +kernel
theorem r152_24 : rowAt 152 24 = some (.aload_n 0, 1, 0, 0) := by decide +kernel
theorem r152_25 : rowAt 152 25 = some (.invokevirtual 226, 3, 143, 0) := by decide +kernel
theorem r152_28 : rowAt 152 28 = some (.bipush 47, 2, 0, 0) := by decide +kernel
theorem r152_30 : rowAt 152 30 = some (.if_icmp .eq 12, 3, 0, 0) := by decide +kernel
theorem r152_33 : rowAt 152 33 = some (.aload_n 0, 1, 0, 0) := by decide +kernel
theorem r152_34 : rowAt 152 34 = some (.invokevirtual 226, 3, 143, 0) := by decide +kernel
theorem r152_37 : rowAt 152 37 = some (.bipush 37, 2, 0, 0) := by decide +kernel
theorem r152_39 : rowAt 152 39 = some (.if_icmp .ne 61, 3, 0, 0) := by decide +kernel
theorem r152_42 : rowAt 152 42 = some (.aload_n 0, 1, 0, 0) := by decide +kernel
theorem r152_43 : rowAt 152 43 = some (.invokevirtual 226, 3, 143, 0) := by decide +kernel
theorem r152_46 : rowAt 152 46 = some (.bipush 42, 2, 0, 0) := by decide +kernel
theorem r152_48 : rowAt 152 48 = some (.if_icmp .ne 8, 3, 0, 0) := by decide +kernel
theorem r152_51 : rowAt 152 51 = some (.bipush 13, 2, 0, 0) := by decide +kernel
theorem r152_53 : rowAt 152 53 = some (.goto 19, 3, 0, 0) := by decide +kernel
theorem r152_56 : rowAt 152 56 = some (.aload_n 0, 1, 0, 0) := by decide +kernel
theorem r152_57 : rowAt 152 57 = some (.invokevirtual 226, 3, 143, 0) := by decide +kernel
theorem r152_60 : rowAt 152 60 = some (.bipush 47, 2, 0, 0) := by decide +kernel
theorem r152_62 : rowAt 152 62 = some (.if_icmp .ne 8, 3, 0, 0) := by decide +kernel
theorem r152_65 : rowAt 152 65 = some (.bipush 14, 2, 0, 0) := by decide +kernel
theorem r152_67 : rowAt 152 67 = some (.goto 5, 3, 0, 0) := by decide +kernel
theorem r152_70 : rowAt 152 70 = some (.bipush 15, 2, 0, 0) := by decide +kernel
theorem r152_72 : rowAt 152 72 = some (.istore_n 1, 1, 0, 0) := by decide +kernel
theorem r152_73 : rowAt 152 73 = some (.aload_n 0, 1, 0, 0) := by decide +kernel
theorem r152_74 : rowAt 152 74 = some (.dup, 1, 0, 0) := by decide +kernel
theorem r152_75 : rowAt 152 75 = some (.getfield 223, 3, 9, 20) := by decide +kernel
theorem r152_78 : rowAt 152 78 = some (.iconst 1, 1, 0, 0) := by decide +kernel
theorem r152_79 : rowAt 152 79 = some (.iadd, 1, 0, 0) := by decide +kernel
theorem r152_80 : rowAt 152 80 = some (.putfield 223, 3, 9, 20) := by decide +kernel
theorem r152_83 : rowAt 152 83 = some (.aload_n 0, 1, 0, 0) := by decide +kernel
theorem r152_84 : rowAt 152 84 = some (.invokevirtual 281, 3, 151, 0) := by decide +kernel
theorem r152_87 : rowAt 152 87 = some (.aload_n 0, 1, 0, 0) := by decide +kernel
theorem r152_88 : rowAt 152 88 = some (.iload_n 1, 1, 0, 0) := by decide +kernel
theorem r152_89 : rowAt 152 89 = some (.iconst 0, 1, 0, 0) := by decide +kernel
theorem r152_90 : rowAt 152 90 = some (.invokevirtual 274, 3, 148, 0) := by decide +kernel
theorem r152_93 : rowAt 152 93 = some (.aload_n 0, 1, 0, 0) := by decide +kernel
theorem r152_94 : rowAt 152 94 = some (.invokevirtual 243, 3, 144, 0) := by decide +kernel
theorem r152_97 : rowAt 152 97 = some (.goto (-89), 3, 0, 0) := by decide +kernel
theorem r152_100 : rowAt 152 100 = some (.return_, 1, 0, 0) := by decide +kernel
theorem en152 (a0 : Nat) : iniL 152 [.ref a0] = [.ref a0, .null] := ini_n mi152 rfl
theorem b152_0 (d : Nat) (l0 : Nat) (h : aH) (K : Option Value → aH → Prop) : E scr false (d + 1) 152 0 [.ref l0, .null] [] h K = vV scr d 151 [.ref l0] h (fun h1 : aH => vV scr d 144 [.ref l0] h1 (fun h3 : aH => E scr false (d + 1) 152 8 [.ref l0, .null] [] h3 K)) := go (w := (1, [.ref l0, .null], [.ref l0], h)) r152_0 rfl rfl (E_vV r152_1 (As := [.ref l0]) (rest := []) (cut_n mi151.1 rfl rfl) (rm8_n mi151.2.1 (Nat.le_of_ble_eq_true rfl) (Nat.le_of_ble_eq_true rfl)) mi151.2.2 (fun h1 => go (w := (5, [.ref l0, .null], [.ref l0], h1)) r152_4 rfl rfl (E_vV r152_5 (As := [.ref l0]) (rest := []) (cut_n mi144.1 rfl rfl) (rm8_n mi144.2.1 (Nat.le_of_ble_eq_true rfl) (Nat.le_of_ble_eq_true rfl)) mi144.2.2 (fun h3 => rfl))))
theorem b152_8 (d : Nat) (l0 : Nat) (l1 : Value) (h : aH) (K : Option Value → aH → Prop) : E scr false (d + 1) 152 8 [.ref l0, l1] [] h K = gI scr h l0 9 21 (fun x1 : Int32 => (if x1 = 0 then vI scr d 143 [.ref l0] h (fun (x3 : Int32) (h2 : aH) => (if x3 = 42 then E scr false (d + 1) 152 42 [.ref l0, l1] [] h2 K else vI scr d 143 [.ref l0] h2 (fun (x5 : Int32) (h4 : aH) => (if x5 = 47 then E scr false (d + 1) 152 42 [.ref l0, l1] [] h4 K else vI scr d 143 [.ref l0] h4 (fun (x7 : Int32) (h6 : aH) => (if x7 = 37 then E scr false (d + 1) 152 42 [.ref l0, l1] [] h6 K else K none h6)))))) else K none h)) := go (w := (9, [.ref l0, l1], [.ref l0], h)) r152_8 rfl rfl (E_gI r152_9 rfl (fun x1 => E_i1_ne r152_12 rfl (E_vret r152_100 (mq152)) (go (w := (16, [.ref l0, l1], [.ref l0], h)) r152_15 rfl rfl (E_vI r152_16 (As := [.ref l0]) (rest := []) (cut_n mi143.1 rfl rfl) (rm8_n mi143.2.1 (Nat.le_of_ble_eq_true rfl) (Nat.le_of_ble_eq_true rfl)) mi143.2.2 (fun x3 h2 => E_bip r152_19 (v := 42) (by decide) (E_i2_eq r152_21 rfl (rfl) (go (w := (25, [.ref l0, l1], [.ref l0], h2)) r152_24 rfl rfl (E_vI r152_25 (As := [.ref l0]) (rest := []) (cut_n mi143.1 rfl rfl) (rm8_n mi143.2.1 (Nat.le_of_ble_eq_true rfl) (Nat.le_of_ble_eq_true rfl)) mi143.2.2 (fun x5 h4 => E_bip r152_28 (v := 47) (by decide) (E_i2_eq r152_30 rfl (rfl) (go (w := (34, [.ref l0, l1], [.ref l0], h4)) r152_33 rfl rfl (E_vI r152_34 (As := [.ref l0]) (rest := []) (cut_n mi143.1 rfl rfl) (rm8_n mi143.2.1 (Nat.le_of_ble_eq_true rfl) (Nat.le_of_ble_eq_true rfl)) mi143.2.2 (fun x7 h6 => E_bip r152_37 (v := 37) (by decide) (E_i2_ne r152_39 rfl (E_vret r152_100 (mq152)) (rfl)))))))))))))))
theorem b152_42 (d : Nat) (l0 : Nat) (l1 : Value) (h : aH) (K : Option Value → aH → Prop) : E scr false (d + 1) 152 42 [.ref l0, l1] [] h K = vI scr d 143 [.ref l0] h (fun (x2 : Int32) (h1 : aH) => (if x2 = 42 then E scr false (d + 1) 152 72 [.ref l0, l1] [.int 13] h1 K else vI scr d 143 [.ref l0] h1 (fun (x4 : Int32) (h3 : aH) => (if x4 = 47 then E scr false (d + 1) 152 72 [.ref l0, l1] [.int 14] h3 K else E scr false (d + 1) 152 72 [.ref l0, l1] [.int 15] h3 K)))) := go (w := (43, [.ref l0, l1], [.ref l0], h)) r152_42 rfl rfl (E_vI r152_43 (As := [.ref l0]) (rest := []) (cut_n mi143.1 rfl rfl) (rm8_n mi143.2.1 (Nat.le_of_ble_eq_true rfl) (Nat.le_of_ble_eq_true rfl)) mi143.2.2 (fun x2 h1 => E_bip r152_46 (v := 42) (by decide) (E_i2_ne r152_48 rfl (go (w := (57, [.ref l0, l1], [.ref l0], h1)) r152_56 rfl rfl (E_vI r152_57 (As := [.ref l0]) (rest := []) (cut_n mi143.1 rfl rfl) (rm8_n mi143.2.1 (Nat.le_of_ble_eq_true rfl) (Nat.le_of_ble_eq_true rfl)) mi143.2.2 (fun x4 h3 => E_bip r152_60 (v := 47) (by decide) (E_i2_ne r152_62 rfl (E_bip r152_70 (v := 15) (by decide) (rfl)) (E_bip r152_65 (v := 14) (by decide) (E_gt r152_67 rfl (rfl))))))) (E_bip r152_51 (v := 13) (by decide) (E_gt r152_53 rfl (rfl))))))
theorem b152_72 (d : Nat) (l0 : Nat) (l1 : Value) (s0 : Int32) (h : aH) (K : Option Value → aH → Prop) : E scr false (d + 1) 152 72 [.ref l0, l1] [.int s0] h K = gI scr h l0 9 20 (fun x1 : Int32 => pF h l0 9 20 (.int (x1 + 1)) (fun h2 : aH => vV scr d 151 [.ref l0] h2 (fun h3 : aH => vV scr d 148 [.ref l0, .int s0, .int 0] h3 (fun h5 : aH => vV scr d 144 [.ref l0] h5 (fun h7 : aH => E scr false (d + 1) 152 8 [.ref l0, .int s0] [] h7 K))))) := go (w := (73, [.ref l0, .int s0], [], h)) r152_72 rfl rfl (go (w := (74, [.ref l0, .int s0], [.ref l0], h)) r152_73 rfl rfl (go (w := (75, [.ref l0, .int s0], [.ref l0, .ref l0], h)) r152_74 rfl rfl (E_gI r152_75 rfl (fun x1 => E_ic r152_78 (v := 1) (by decide) (go (w := (80, [.ref l0, .int s0], [.int (x1 + 1), .ref l0], h)) r152_79 rfl rfl (E_pI r152_80 ⟨rfl, rfl⟩ (fun h2 => go (w := (84, [.ref l0, .int s0], [.ref l0], h2)) r152_83 rfl rfl (E_vV r152_84 (As := [.ref l0]) (rest := []) (cut_n mi151.1 rfl rfl) (rm8_n mi151.2.1 (Nat.le_of_ble_eq_true rfl) (Nat.le_of_ble_eq_true rfl)) mi151.2.2 (fun h3 => go (w := (88, [.ref l0, .int s0], [.ref l0], h3)) r152_87 rfl rfl (go (w := (89, [.ref l0, .int s0], [.int s0, .ref l0], h3)) r152_88 rfl rfl (E_ic r152_89 (v := 0) (by decide) (E_vV r152_90 (As := [.ref l0, .int s0, .int 0]) (rest := []) (cut_n mi148.1 rfl rfl) (rm8_n mi148.2.1 (Nat.le_of_ble_eq_true rfl) (Nat.le_of_ble_eq_true rfl)) mi148.2.2 (fun h5 => go (w := (94, [.ref l0, .int s0], [.ref l0], h5)) r152_93 rfl rfl (E_vV r152_94 (As := [.ref l0]) (rest := []) (cut_n mi144.1 rfl rfl) (rm8_n mi144.2.1 (Nat.le_of_ble_eq_true rfl) (Nat.le_of_ble_eq_true rfl)) mi144.2.2 (fun h7 => E_gt r152_97 rfl (rfl))))))))))))))))
-- 153 SecondNearestModel.sum()V
theorem mq153 : mRet 153 = none := by decide +kernel
theorem r153_0 : rowAt 153 0 = some (.aload_n 0, 1, 0, 0) := by decide +kernel
theorem r153_1 : rowAt 153 1 = some (.invokevirtual 284, 3, 152, 0) := by decide +kernel
theorem r153_4 : rowAt 153 4 = some (.aload_n 0, 1, 0, 0) := by decide +kernel
theorem r153_5 : rowAt 153 5 = some (.getfield 220, 3, 9, 21) := by decide +kernel
theorem r153_8 : rowAt 153 8 = some (.ifCond .ne 59, 3, 0, 0) := by decide +kernel
theorem r153_11 : rowAt 153 11 = some (.aload_n 0, 1, 0, 0) := by decide +kernel
theorem r153_12 : rowAt 153 12 = some (.invokevirtual 226, 3, 143, 0) := by decide +kernel
theorem r153_15 : rowAt 153 15 = some (.bipush 43, 2, 0, 0) := by decide +kernel
theorem r153_17 : rowAt 153 17 = some (.if_icmp .eq 12, 3, 0, 0) := by decide +kernel
theorem r153_20 : rowAt 153 20 = some (.aload_n 0, 1, 0, 0) := by decide +kernel
theorem r153_21 : rowAt 153 21 = some (.invokevirtual 226, 3, 143, 0) := by decide +kernel
theorem r153_24 : rowAt 153 24 = some (.bipush 45, 2, 0, 0) := by decide +kernel
theorem r153_26 : rowAt 153 26 = some (.if_icmp .ne 41, 3, 0, 0) := by decide +kernel
theorem r153_29 : rowAt 153 29 = some (.aload_n 0, 1, 0, 0) := by decide +kernel
theorem r153_30 : rowAt 153 30 = some (.invokevirtual 226, 3, 143, 0) := by decide +kernel
theorem r153_33 : rowAt 153 33 = some (.bipush 43, 2, 0, 0) := by decide +kernel
theorem r153_35 : rowAt 153 35 = some (.if_icmp .ne 7, 3, 0, 0) := by decide +kernel
theorem r153_38 : rowAt 153 38 = some (.iconst 2, 1, 0, 0) := by decide +kernel
theorem r153_39 : rowAt 153 39 = some (.goto 4, 3, 0, 0) := by decide +kernel
theorem r153_42 : rowAt 153 42 = some (.iconst 3, 1, 0, 0) := by decide +kernel
theorem r153_43 : rowAt 153 43 = some (.istore_n 1, 1, 0, 0) := by decide +kernel
theorem r153_44 : rowAt 153 44 = some (.aload_n 0, 1, 0, 0) := by decide +kernel
theorem r153_45 : rowAt 153 45 = some (.dup, 1, 0, 0) := by decide +kernel
theorem r153_46 : rowAt 153 46 = some (.getfield 223, 3, 9, 20) := by decide +kernel
theorem r153_49 : rowAt 153 49 = some (.iconst 1, 1, 0, 0) := by decide +kernel
theorem r153_50 : rowAt 153 50 = some (.iadd, 1, 0, 0) := by decide +kernel
theorem r153_51 : rowAt 153 51 = some (.putfield 223, 3, 9, 20) := by decide +kernel
theorem r153_54 : rowAt 153 54 = some (.aload_n 0, 1, 0, 0) := by decide +kernel
theorem r153_55 : rowAt 153 55 = some (.invokevirtual 284, 3, 152, 0) := by decide +kernel
theorem r153_58 : rowAt 153 58 = some (.aload_n 0, 1, 0, 0) := by decide +kernel
theorem r153_59 : rowAt 153 59 = some (.iload_n 1, 1, 0, 0) := by decide +kernel
theorem r153_60 : rowAt 153 60 = some (.iconst 0, 1, 0, 0) := by decide +kernel
theorem r153_61 : rowAt 153 61 = some (.invokevirtual 274, 3, 148, 0) := by decide +kernel
theorem r153_64 : rowAt 153 64 = some (.goto (-60), 3, 0, 0) := by decide +kernel
theorem r153_67 : rowAt 153 67 = some (.return_, 1, 0, 0) := by decide +kernel
theorem en153 (a0 : Nat) : iniL 153 [.ref a0] = [.ref a0, .null] := ini_n mi153 rfl
theorem b153_0 (d : Nat) (l0 : Nat) (h : aH) (K : Option Value → aH → Prop) : E scr false (d + 1) 153 0 [.ref l0, .null] [] h K = vV scr d 152 [.ref l0] h (fun h1 : aH => E scr false (d + 1) 153 4 [.ref l0, .null] [] h1 K) := go (w := (1, [.ref l0, .null], [.ref l0], h)) r153_0 rfl rfl (E_vV r153_1 (As := [.ref l0]) (rest := []) (cut_n mi152.1 rfl rfl) (rm8_n mi152.2.1 (Nat.le_of_ble_eq_true rfl) (Nat.le_of_ble_eq_true rfl)) mi152.2.2 (fun h1 => rfl))
theorem b153_4 (d : Nat) (l0 : Nat) (l1 : Value) (h : aH) (K : Option Value → aH → Prop) : E scr false (d + 1) 153 4 [.ref l0, l1] [] h K = gI scr h l0 9 21 (fun x1 : Int32 => (if x1 = 0 then vI scr d 143 [.ref l0] h (fun (x3 : Int32) (h2 : aH) => (if x3 = 43 then E scr false (d + 1) 153 29 [.ref l0, l1] [] h2 K else vI scr d 143 [.ref l0] h2 (fun (x5 : Int32) (h4 : aH) => (if x5 = 45 then E scr false (d + 1) 153 29 [.ref l0, l1] [] h4 K else K none h4)))) else K none h)) := go (w := (5, [.ref l0, l1], [.ref l0], h)) r153_4 rfl rfl (E_gI r153_5 rfl (fun x1 => E_i1_ne r153_8 rfl (E_vret r153_67 (mq153)) (go (w := (12, [.ref l0, l1], [.ref l0], h)) r153_11 rfl rfl (E_vI r153_12 (As := [.ref l0]) (rest := []) (cut_n mi143.1 rfl rfl) (rm8_n mi143.2.1 (Nat.le_of_ble_eq_true rfl) (Nat.le_of_ble_eq_true rfl)) mi143.2.2 (fun x3 h2 => E_bip r153_15 (v := 43) (by decide) (E_i2_eq r153_17 rfl (rfl) (go (w := (21, [.ref l0, l1], [.ref l0], h2)) r153_20 rfl rfl (E_vI r153_21 (As := [.ref l0]) (rest := []) (cut_n mi143.1 rfl rfl) (rm8_n mi143.2.1 (Nat.le_of_ble_eq_true rfl) (Nat.le_of_ble_eq_true rfl)) mi143.2.2 (fun x5 h4 => E_bip r153_24 (v := 45) (by decide) (E_i2_ne r153_26 rfl (E_vret r153_67 (mq153)) (rfl)))))))))))
theorem b153_29 (d : Nat) (l0 : Nat) (l1 : Value) (h : aH) (K : Option Value → aH → Prop) : E scr false (d + 1) 153 29 [.ref l0, l1] [] h K = vI scr d 143 [.ref l0] h (fun (x2 : Int32) (h1 : aH) => (if x2 = 43 then E scr false (d + 1) 153 43 [.ref l0, l1] [.int 2] h1 K else E scr false (d + 1) 153 43 [.ref l0, l1] [.int 3] h1 K)) := go (w := (30, [.ref l0, l1], [.ref l0], h)) r153_29 rfl rfl (E_vI r153_30 (As := [.ref l0]) (rest := []) (cut_n mi143.1 rfl rfl) (rm8_n mi143.2.1 (Nat.le_of_ble_eq_true rfl) (Nat.le_of_ble_eq_true rfl)) mi143.2.2 (fun x2 h1 => E_bip r153_33 (v := 43) (by decide) (E_i2_ne r153_35 rfl (E_ic r153_42 (v := 3) (by decide) (rfl)) (E_ic r153_38 (v := 2) (by decide) (E_gt r153_39 rfl (rfl))))))
theorem b153_43 (d : Nat) (l0 : Nat) (l1 : Value) (s0 : Int32) (h : aH) (K : Option Value → aH → Prop) : E scr false (d + 1) 153 43 [.ref l0, l1] [.int s0] h K = gI scr h l0 9 20 (fun x1 : Int32 => pF h l0 9 20 (.int (x1 + 1)) (fun h2 : aH => vV scr d 152 [.ref l0] h2 (fun h3 : aH => vV scr d 148 [.ref l0, .int s0, .int 0] h3 (fun h5 : aH => E scr false (d + 1) 153 4 [.ref l0, .int s0] [] h5 K)))) := go (w := (44, [.ref l0, .int s0], [], h)) r153_43 rfl rfl (go (w := (45, [.ref l0, .int s0], [.ref l0], h)) r153_44 rfl rfl (go (w := (46, [.ref l0, .int s0], [.ref l0, .ref l0], h)) r153_45 rfl rfl (E_gI r153_46 rfl (fun x1 => E_ic r153_49 (v := 1) (by decide) (go (w := (51, [.ref l0, .int s0], [.int (x1 + 1), .ref l0], h)) r153_50 rfl rfl (E_pI r153_51 ⟨rfl, rfl⟩ (fun h2 => go (w := (55, [.ref l0, .int s0], [.ref l0], h2)) r153_54 rfl rfl (E_vV r153_55 (As := [.ref l0]) (rest := []) (cut_n mi152.1 rfl rfl) (rm8_n mi152.2.1 (Nat.le_of_ble_eq_true rfl) (Nat.le_of_ble_eq_true rfl)) mi152.2.2 (fun h3 => go (w := (59, [.ref l0, .int s0], [.ref l0], h3)) r153_58 rfl rfl (go (w := (60, [.ref l0, .int s0], [.int s0, .ref l0], h3)) r153_59 rfl rfl (E_ic r153_60 (v := 0) (by decide) (E_vV r153_61 (As := [.ref l0, .int s0, .int 0]) (rest := []) (cut_n mi148.1 rfl rfl) (rm8_n mi148.2.1 (Nat.le_of_ble_eq_true rfl) (Nat.le_of_ble_eq_true rfl)) mi148.2.2 (fun h5 => E_gt r153_64 rfl (rfl))))))))))))))
-- 154 SecondNearestModel.compared()V
theorem mq154 : mRet 154 = none := by decide +kernel
theorem r154_0 : rowAt 154 0 = some (.aload_n 0, 1, 0, 0) := by decide +kernel
theorem r154_1 : rowAt 154 1 = some (.invokevirtual 287, 3, 153, 0) := by decide +kernel
theorem r154_4 : rowAt 154 4 = some (.aload_n 0, 1, 0, 0) := by decide +kernel
theorem r154_5 : rowAt 154 5 = some (.invokevirtual 226, 3, 143, 0) := by decide +kernel
theorem r154_8 : rowAt 154 8 = some (.istore_n 1, 1, 0, 0) := by decide +kernel
theorem r154_9 : rowAt 154 9 = some (.iload_n 1, 1, 0, 0) := by decide +kernel
theorem r154_10 : rowAt 154 10 = some (.bipush 60, 2, 0, 0) := by decide +kernel
theorem r154_12 : rowAt 154 12 = some (.if_icmp .eq 25, 3, 0, 0) := by decide +kernel
theorem r154_15 : rowAt 154 15 = some (.iload_n 1, 1, 0, 0) := by decide +kernel
theorem r154_16 : rowAt 154 16 = some (.bipush 61, 2, 0, 0) := by decide +kernel
theorem r154_18 : rowAt 154 18 = some (.if_icmp .eq 19, 3, 0, 0) := by decide +kernel
theorem r154_21 : rowAt 154 21 = some (.iload_n 1, 1, 0, 0) := by decide +kernel
theorem r154_22 : rowAt 154 22 = some (.bipush 62, 2, 0, 0) := by decide +kernel
theorem r154_24 : rowAt 154 24 = some (.if_icmp .eq 13, 3, 0, 0) := by decide +kernel
theorem r154_27 : rowAt 154 27 = some (.aload_n 0, 1, 0, 0) := by decide +kernel
theorem r154_28 : rowAt 154 28 = some (.iconst 0, 1, 0, 0) := by decide +kernel
theorem r154_29 : rowAt 154 29 = some (.aload_n 0, 1, 0, 0) := by decide +kernel
theorem r154_30 : rowAt 154 30 = some (.getfield 223, 3, 9, 20) := by decide +kernel
theorem r154_33 : rowAt 154 33 = some (.invokevirtual 259, 3, 142, 0) := by decide +kernel
theorem r154_36 : rowAt 154 36 = some (.return_, 1, 0, 0) := by decide +kernel
theorem r154_37 : rowAt 154 37 = some (.aload_n 0, 1, 0, 0) := by decide +kernel
theorem r154_38 : rowAt 154 38 = some (.aload_n 0, 1, 0, 0) := by decide +kernel
theorem r154_39 : rowAt 154 39 = some (.getfield 223, 3, 9, 20) := by decide +kernel
theorem r154_42 : rowAt 154 42 = some (.invokevirtual 271, 3, 149, 0) := by decide +kernel
theorem r154_45 : rowAt 154 45 = some (.aload_n 0, 1, 0, 0) := by decide +kernel
theorem r154_46 : rowAt 154 46 = some (.dup, 1, 0, 0) := by decide +kernel
theorem r154_47 : rowAt 154 47 = some (.getfield 223, 3, 9, 20) := by decide +kernel
theorem r154_50 : rowAt 154 50 = some (.iconst 1, 1, 0, 0) := by decide +kernel
theorem r154_51 : rowAt 154 51 = some (.iadd, 1, 0, 0) := by decide +kernel
theorem r154_52 : rowAt 154 52 = some (.putfield 223, 3, 9, 20) := by decide +kernel
theorem r154_55 : rowAt 154 55 = some (.iload_n 1, 1, 0, 0) := by decide +kernel
theorem r154_56 : rowAt 154 56 = some (.bipush 61, 2, 0, 0) := by decide +kernel
theorem r154_58 : rowAt 154 58 = some (.if_icmp .eq 16, 3, 0, 0) := by decide +kernel
theorem r154_61 : rowAt 154 61 = some (.aload_n 0, 1, 0, 0) := by decide +kernel
theorem r154_62 : rowAt 154 62 = some (.invokevirtual 226, 3, 143, 0) := by decide +kernel
theorem r154_65 : rowAt 154 65 = some (.bipush 61, 2, 0, 0) := by decide +kernel
theorem r154_67 : rowAt 154 67 = some (.if_icmp .ne 7, 3, 0, 0) := by decide +kernel
theorem r154_70 : rowAt 154 70 = some (.iconst 1, 1, 0, 0) := by decide +kernel
theorem r154_71 : rowAt 154 71 = some (.goto 4, 3, 0, 0) := by decide +kernel
theorem r154_74 : rowAt 154 74 = some (.iconst 0, 1, 0, 0) := by decide +kernel
theorem r154_75 : rowAt 154 75 = some (.istore_n 2, 1, 0, 0) := by decide +kernel
theorem r154_76 : rowAt 154 76 = some (.aload_n 0, 1, 0, 0) := by decide +kernel
theorem r154_77 : rowAt 154 77 = some (.dup, 1, 0, 0) := by decide +kernel
theorem r154_78 : rowAt 154 78 = some (.getfield 223, 3, 9, 20) := by decide +kernel
theorem r154_81 : rowAt 154 81 = some (.iload_n 2, 1, 0, 0) := by decide +kernel
theorem r154_82 : rowAt 154 82 = some (.ifCond .eq 7, 3, 0, 0) := by decide +kernel
theorem r154_85 : rowAt 154 85 = some (.iconst 1, 1, 0, 0) := by decide +kernel
theorem r154_86 : rowAt 154 86 = some (.goto 4, 3, 0, 0) := by decide +kernel
theorem r154_89 : rowAt 154 89 = some (.iconst 0, 1, 0, 0) := by decide +kernel
theorem r154_90 : rowAt 154 90 = some (.iadd, 1, 0, 0) := by decide +kernel
theorem r154_91 : rowAt 154 91 = some (.putfield 223, 3, 9, 20) := by decide +kernel
theorem r154_94 : rowAt 154 94 = some (.aload_n 0, 1, 0, 0) := by decide +kernel
theorem r154_95 : rowAt 154 95 = some (.invokevirtual 287, 3, 153, 0) := by decide +kernel
theorem r154_98 : rowAt 154 98 = some (.aload_n 0, 1, 0, 0) := by decide +kernel
theorem r154_99 : rowAt 154 99 = some (.iload_n 1, 1, 0, 0) := by decide +kernel
theorem r154_100 : rowAt 154 100 = some (.bipush 61, 2, 0, 0) := by decide +kernel
theorem r154_102 : rowAt 154 102 = some (.if_icmp .ne 8, 3, 0, 0) := by decide +kernel
theorem r154_105 : rowAt 154 105 = some (.bipush 6, 2, 0, 0) := by decide +kernel
theorem r154_107 : rowAt 154 107 = some (.goto 32, 3, 0, 0) := by decide +kernel
theorem r154_110 : rowAt 154 110 = some (.iload_n 1, 1, 0, 0) := by decide +kernel
theorem r154_111 : rowAt 154 111 = some (.bipush 60, 2, 0, 0) := by decide +kernel
theorem r154_113 : rowAt 154 113 = some (.if_icmp .ne 15, 3, 0, 0) := by decide +kernel
theorem r154_116 : rowAt 154 116 = some (.iload_n 2, 1, 0, 0) := by decide +kernel
theorem r154_117 : rowAt 154 117 = some (.ifCond .eq 7, 3, 0, 0) := by decide +kernel
theorem r154_120 : rowAt 154 120 = some (.iconst 5, 1, 0, 0) := by decide +kernel
theorem r154_121 : rowAt 154 121 = some (.goto 18, 3, 0, 0) := by decide +kernel
theorem r154_124 : rowAt 154 124 = some (.iconst 4, 1, 0, 0) := by decide +kernel
theorem r154_125 : rowAt 154 125 = some (.goto 14, 3, 0, 0) := by decide +kernel
theorem r154_128 : rowAt 154 128 = some (.iload_n 2, 1, 0, 0) := by decide +kernel
theorem r154_129 : rowAt 154 129 = some (.ifCond .eq 8, 3, 0, 0) := by decide +kernel
theorem r154_132 : rowAt 154 132 = some (.bipush 7, 2, 0, 0) := by decide +kernel
theorem r154_134 : rowAt 154 134 = some (.goto 5, 3, 0, 0) := by decide +kernel
theorem r154_137 : rowAt 154 137 = some (.bipush 8, 2, 0, 0) := by decide +kernel
theorem r154_139 : rowAt 154 139 = some (.iconst 0, 1, 0, 0) := by decide +kernel
theorem r154_140 : rowAt 154 140 = some (.invokevirtual 274, 3, 148, 0) := by decide +kernel
theorem r154_143 : rowAt 154 143 = some (.return_, 1, 0, 0) := by decide +kernel
theorem en154 (a0 : Nat) : iniL 154 [.ref a0] = [.ref a0, .null, .null] := ini_n mi154 rfl
theorem b154_0 (d : Nat) (l0 : Nat) (h : aH) (K : Option Value → aH → Prop) : E scr false (d + 1) 154 0 [.ref l0, .null, .null] [] h K = vV scr d 153 [.ref l0] h (fun h1 : aH => vI scr d 143 [.ref l0] h1 (fun (x4 : Int32) (h3 : aH) => (if x4 = 60 then E scr false (d + 1) 154 37 [.ref l0, .int x4, .null] [] h3 K else (if x4 = 61 then E scr false (d + 1) 154 37 [.ref l0, .int x4, .null] [] h3 K else (if x4 = 62 then E scr false (d + 1) 154 37 [.ref l0, .int x4, .null] [] h3 K else gI scr h3 l0 9 20 (fun x5 : Int32 => vV scr d 142 [.ref l0, .int 0, .int x5] h3 (fun h6 : aH => K none h6))))))) := go (w := (1, [.ref l0, .null, .null], [.ref l0], h)) r154_0 rfl rfl (E_vV r154_1 (As := [.ref l0]) (rest := []) (cut_n mi153.1 rfl rfl) (rm8_n mi153.2.1 (Nat.le_of_ble_eq_true rfl) (Nat.le_of_ble_eq_true rfl)) mi153.2.2 (fun h1 => go (w := (5, [.ref l0, .null, .null], [.ref l0], h1)) r154_4 rfl rfl (E_vI r154_5 (As := [.ref l0]) (rest := []) (cut_n mi143.1 rfl rfl) (rm8_n mi143.2.1 (Nat.le_of_ble_eq_true rfl) (Nat.le_of_ble_eq_true rfl)) mi143.2.2 (fun x4 h3 => go (w := (9, [.ref l0, .int x4, .null], [], h3)) r154_8 rfl rfl (go (w := (10, [.ref l0, .int x4, .null], [.int x4], h3)) r154_9 rfl rfl (E_bip r154_10 (v := 60) (by decide) (E_i2_eq r154_12 rfl (rfl) (go (w := (16, [.ref l0, .int x4, .null], [.int x4], h3)) r154_15 rfl rfl (E_bip r154_16 (v := 61) (by decide) (E_i2_eq r154_18 rfl (rfl) (go (w := (22, [.ref l0, .int x4, .null], [.int x4], h3)) r154_21 rfl rfl (E_bip r154_22 (v := 62) (by decide) (E_i2_eq r154_24 rfl (rfl) (go (w := (28, [.ref l0, .int x4, .null], [.ref l0], h3)) r154_27 rfl rfl (E_ic r154_28 (v := 0) (by decide) (go (w := (30, [.ref l0, .int x4, .null], [.ref l0, .int 0, .ref l0], h3)) r154_29 rfl rfl (E_gI r154_30 rfl (fun x5 => E_vV r154_33 (As := [.ref l0, .int 0, .int x5]) (rest := []) (cut_n mi142.1 rfl rfl) (rm8_n mi142.2.1 (Nat.le_of_ble_eq_true rfl) (Nat.le_of_ble_eq_true rfl)) mi142.2.2 (fun h6 => E_vret r154_36 (mq154))))))))))))))))))))
theorem b154_37 (d : Nat) (l0 : Nat) (l1 : Int32) (h : aH) (K : Option Value → aH → Prop) : E scr false (d + 1) 154 37 [.ref l0, .int l1, .null] [] h K = gI scr h l0 9 20 (fun x1 : Int32 => vV scr d 149 [.ref l0, .int x1] h (fun h2 : aH => gI scr h2 l0 9 20 (fun x4 : Int32 => pF h2 l0 9 20 (.int (x4 + 1)) (fun h5 : aH => (if l1 = 61 then E scr false (d + 1) 154 74 [.ref l0, .int l1, .null] [] h5 K else vI scr d 143 [.ref l0] h5 (fun (x7 : Int32) (h6 : aH) => (if x7 = 61 then E scr false (d + 1) 154 75 [.ref l0, .int l1, .null] [.int 1] h6 K else E scr false (d + 1) 154 74 [.ref l0, .int l1, .null] [] h6 K))))))) := go (w := (38, [.ref l0, .int l1, .null], [.ref l0], h)) r154_37 rfl rfl (go (w := (39, [.ref l0, .int l1, .null], [.ref l0, .ref l0], h)) r154_38 rfl rfl (E_gI r154_39 rfl (fun x1 => E_vV r154_42 (As := [.ref l0, .int x1]) (rest := []) (cut_n mi149.1 rfl rfl) (rm8_n mi149.2.1 (Nat.le_of_ble_eq_true rfl) (Nat.le_of_ble_eq_true rfl)) mi149.2.2 (fun h2 => go (w := (46, [.ref l0, .int l1, .null], [.ref l0], h2)) r154_45 rfl rfl (go (w := (47, [.ref l0, .int l1, .null], [.ref l0, .ref l0], h2)) r154_46 rfl rfl (E_gI r154_47 rfl (fun x4 => E_ic r154_50 (v := 1) (by decide) (go (w := (52, [.ref l0, .int l1, .null], [.int (x4 + 1), .ref l0], h2)) r154_51 rfl rfl (E_pI r154_52 ⟨rfl, rfl⟩ (fun h5 => go (w := (56, [.ref l0, .int l1, .null], [.int l1], h5)) r154_55 rfl rfl (E_bip r154_56 (v := 61) (by decide) (E_i2_eq r154_58 rfl (rfl) (go (w := (62, [.ref l0, .int l1, .null], [.ref l0], h5)) r154_61 rfl rfl (E_vI r154_62 (As := [.ref l0]) (rest := []) (cut_n mi143.1 rfl rfl) (rm8_n mi143.2.1 (Nat.le_of_ble_eq_true rfl) (Nat.le_of_ble_eq_true rfl)) mi143.2.2 (fun x7 h6 => E_bip r154_65 (v := 61) (by decide) (E_i2_ne r154_67 rfl (rfl) (E_ic r154_70 (v := 1) (by decide) (E_gt r154_71 rfl (rfl)))))))))))))))))))
theorem b154_74 (d : Nat) (l0 : Nat) (l1 : Int32) (h : aH) (K : Option Value → aH → Prop) : E scr false d 154 74 [.ref l0, .int l1, .null] [] h K = E scr false d 154 75 [.ref l0, .int l1, .null] [.int 0] h K := E_ic r154_74 (v := 0) (by decide) (rfl)
theorem b154_75 (d : Nat) (l0 : Nat) (l1 : Int32) (s0 : Int32) (h : aH) (K : Option Value → aH → Prop) : E scr false d 154 75 [.ref l0, .int l1, .null] [.int s0] h K = gI scr h l0 9 20 (fun x1 : Int32 => (if s0 = 0 then E scr false d 154 90 [.ref l0, .int l1, .int s0] [.int 0, .int x1, .ref l0] h K else E scr false d 154 90 [.ref l0, .int l1, .int s0] [.int 1, .int x1, .ref l0] h K)) := go (w := (76, [.ref l0, .int l1, .int s0], [], h)) r154_75 rfl rfl (go (w := (77, [.ref l0, .int l1, .int s0], [.ref l0], h)) r154_76 rfl rfl (go (w := (78, [.ref l0, .int l1, .int s0], [.ref l0, .ref l0], h)) r154_77 rfl rfl (E_gI r154_78 rfl (fun x1 => go (w := (82, [.ref l0, .int l1, .int s0], [.int s0, .int x1, .ref l0], h)) r154_81 rfl rfl (E_i1_eq r154_82 rfl (E_ic r154_89 (v := 0) (by decide) (rfl)) (E_ic r154_85 (v := 1) (by decide) (E_gt r154_86 rfl (rfl))))))))
theorem b154_90 (d : Nat) (l0 : Nat) (l1 : Int32) (l2 : Int32) (s0 : Int32) (s1 : Int32) (s2 : Nat) (h : aH) (K : Option Value → aH → Prop) : E scr false (d + 1) 154 90 [.ref l0, .int l1, .int l2] [.int s0, .int s1, .ref s2] h K = pF h s2 9 20 (.int (s1 + s0)) (fun h1 : aH => vV scr d 153 [.ref l0] h1 (fun h2 : aH => (if l1 = 61 then E scr false (d + 1) 154 139 [.ref l0, .int l1, .int l2] [.int 6, .ref l0] h2 K else (if l1 = 60 then (if l2 = 0 then E scr false (d + 1) 154 139 [.ref l0, .int l1, .int l2] [.int 4, .ref l0] h2 K else E scr false (d + 1) 154 139 [.ref l0, .int l1, .int l2] [.int 5, .ref l0] h2 K) else (if l2 = 0 then E scr false (d + 1) 154 139 [.ref l0, .int l1, .int l2] [.int 8, .ref l0] h2 K else E scr false (d + 1) 154 139 [.ref l0, .int l1, .int l2] [.int 7, .ref l0] h2 K))))) := go (w := (91, [.ref l0, .int l1, .int l2], [.int (s1 + s0), .ref s2], h)) r154_90 rfl rfl (E_pI r154_91 ⟨rfl, rfl⟩ (fun h1 => go (w := (95, [.ref l0, .int l1, .int l2], [.ref l0], h1)) r154_94 rfl rfl (E_vV r154_95 (As := [.ref l0]) (rest := []) (cut_n mi153.1 rfl rfl) (rm8_n mi153.2.1 (Nat.le_of_ble_eq_true rfl) (Nat.le_of_ble_eq_true rfl)) mi153.2.2 (fun h2 => go (w := (99, [.ref l0, .int l1, .int l2], [.ref l0], h2)) r154_98 rfl rfl (go (w := (100, [.ref l0, .int l1, .int l2], [.int l1, .ref l0], h2)) r154_99 rfl rfl (E_bip r154_100 (v := 61) (by decide) (E_i2_ne r154_102 rfl (go (w := (111, [.ref l0, .int l1, .int l2], [.int l1, .ref l0], h2)) r154_110 rfl rfl (E_bip r154_111 (v := 60) (by decide) (E_i2_ne r154_113 rfl (go (w := (129, [.ref l0, .int l1, .int l2], [.int l2, .ref l0], h2)) r154_128 rfl rfl (E_i1_eq r154_129 rfl (E_bip r154_137 (v := 8) (by decide) (rfl)) (E_bip r154_132 (v := 7) (by decide) (E_gt r154_134 rfl (rfl))))) (go (w := (117, [.ref l0, .int l1, .int l2], [.int l2, .ref l0], h2)) r154_116 rfl rfl (E_i1_eq r154_117 rfl (E_ic r154_124 (v := 4) (by decide) (E_gt r154_125 rfl (rfl))) (E_ic r154_120 (v := 5) (by decide) (E_gt r154_121 rfl (rfl)))))))) (E_bip r154_105 (v := 6) (by decide) (E_gt r154_107 rfl (rfl))))))))))
theorem b154_139 (d : Nat) (l0 : Nat) (l1 : Int32) (l2 : Int32) (s0 : Int32) (s1 : Nat) (h : aH) (K : Option Value → aH → Prop) : E scr false (d + 1) 154 139 [.ref l0, .int l1, .int l2] [.int s0, .ref s1] h K = vV scr d 148 [.ref s1, .int s0, .int 0] h (fun h1 : aH => K none h1) := E_ic r154_139 (v := 0) (by decide) (E_vV r154_140 (As := [.ref s1, .int s0, .int 0]) (rest := []) (cut_n mi148.1 rfl rfl) (rm8_n mi148.2.1 (Nat.le_of_ble_eq_true rfl) (Nat.le_of_ble_eq_true rfl)) mi148.2.2 (fun h1 => E_vret r154_143 (mq154)))
-- 155 SecondNearestModel.top()I
theorem mq155 : mRet 155 = (some .int) := by decide +kernel
theorem r155_0 : rowAt 155 0 = some (.aload_n 0, 1, 0, 0) := by decide +kernel
theorem r155_1 : rowAt 155 1 = some (.getfield 290, 3, 9, 27) := by decide +kernel
theorem r155_4 : rowAt 155 4 = some (.ifCond .ne 7, 3, 0, 0) := by decide +kernel
theorem r155_7 : rowAt 155 7 = some (.iconst (-1), 1, 0, 0) := by decide +kernel
theorem r155_8 : rowAt 155 8 = some (.goto 14, 3, 0, 0) := by decide +kernel
theorem r155_11 : rowAt 155 11 = some (.aload_n 0, 1, 0, 0) := by decide +kernel
theorem r155_12 : rowAt 155 12 = some (.getfield 87, 3, 9, 36) := by decide +kernel
theorem r155_15 : rowAt 155 15 = some (.aload_n 0, 1, 0, 0) := by decide +kernel
theorem r155_16 : rowAt 155 16 = some (.getfield 290, 3, 9, 27) := by decide +kernel
theorem r155_19 : rowAt 155 19 = some (.iconst 1, 1, 0, 0) := by decide +kernel
theorem r155_20 : rowAt 155 20 = some (.isub, 1, 0, 0) := by decide +kernel
theorem r155_21 : rowAt 155 21 = some (.iaload, 1, 0, 0) := by decide +kernel
theorem r155_22 : rowAt 155 22 = some (.ireturn, 1, 0, 0) := by decide +kernel
theorem en155 (a0 : Nat) : iniL 155 [.ref a0] = [.ref a0] := ini_n mi155 rfl
theorem b155_0 (d : Nat) (l0 : Nat) (h : aH) (K : Option Value → aH → Prop) : E scr false d 155 0 [.ref l0] [] h K = gI scr h l0 9 27 (fun x1 : Int32 => (if x1 = 0 then K (some (.int (-1))) h else gR scr h l0 9 36 (fun x2 : Nat => gI scr h l0 9 27 (fun x3 : Int32 => aI scr h x2 ((x3 - 1)) (fun x4 : Int32 => K (some (.int x4)) h))))) := go (w := (1, [.ref l0], [.ref l0], h)) r155_0 rfl rfl (E_gI r155_1 rfl (fun x1 => E_i1_ne r155_4 rfl (go (w := (12, [.ref l0], [.ref l0], h)) r155_11 rfl rfl (E_gR r155_12 rfl (fun x2 => go (w := (16, [.ref l0], [.ref l0, .ref x2], h)) r155_15 rfl rfl (E_gI r155_16 rfl (fun x3 => E_ic r155_19 (v := 1) (by decide) (go (w := (21, [.ref l0], [.int (x3 - 1), .ref x2], h)) r155_20 rfl rfl (E_aI r155_21 (fun x4 => E_ri r155_22 (mq155))))))))) (E_ic r155_7 (v := (-1)) (by decide) (E_gt r155_8 rfl (E_ri r155_22 (mq155))))))
-- 156 SecondNearestModel.opens(I)V
theorem mq156 : mRet 156 = none := by decide +kernel
theorem r156_0 : rowAt 156 0 = some (.iload_n 1, 1, 0, 0) := by decide +kernel
theorem r156_1 : rowAt 156 1 = some (.bipush 9, 2, 0, 0) := by decide +kernel
theorem r156_3 : rowAt 156 3 = some (.if_icmp .eq 9, 3, 0, 0) := by decide +kernel
theorem r156_6 : rowAt 156 6 = some (.iload_n 1, 1, 0, 0) := by decide +kernel
theorem r156_7 : rowAt 156 7 = some (.bipush 12, 2, 0, 0) := by decide +kernel
theorem r156_9 : rowAt 156 9 = some (.if_icmp .ne 31, 3, 0, 0) := by decide +kernel
theorem r156_12 : rowAt 156 12 = some (.aload_n 0, 1, 0, 0) := by decide +kernel
theorem r156_13 : rowAt 156 13 = some (.getfield 293, 3, 9, 25) := by decide +kernel
theorem r156_16 : rowAt 156 16 = some (.bipush 10, 2, 0, 0) := by decide +kernel
theorem r156_18 : rowAt 156 18 = some (.if_icmp .ne 12, 3, 0, 0) := by decide +kernel
theorem r156_21 : rowAt 156 21 = some (.aload_n 0, 1, 0, 0) := by decide +kernel
theorem r156_22 : rowAt 156 22 = some (.iconst 2, 1, 0, 0) := by decide +kernel
theorem r156_23 : rowAt 156 23 = some (.aload_n 0, 1, 0, 0) := by decide +kernel
theorem r156_24 : rowAt 156 24 = some (.getfield 223, 3, 9, 20) := by decide +kernel
theorem r156_27 : rowAt 156 27 = some (.invokevirtual 259, 3, 142, 0) := by decide +kernel
theorem r156_30 : rowAt 156 30 = some (.aload_n 0, 1, 0, 0) := by decide +kernel
theorem r156_31 : rowAt 156 31 = some (.dup, 1, 0, 0) := by decide +kernel
theorem r156_32 : rowAt 156 32 = some (.getfield 293, 3, 9, 25) := by decide +kernel
theorem r156_35 : rowAt 156 35 = some (.iconst 1, 1, 0, 0) := by decide +kernel
theorem r156_36 : rowAt 156 36 = some (.iadd, 1, 0, 0) := by decide +kernel
theorem r156_37 : rowAt 156 37 = some (.putfield 293, 3, 9, 25) := by decide +kernel
theorem r156_40 : rowAt 156 40 = some (.aload_n 0, 1, 0, 0) := by decide +kernel
theorem r156_41 : rowAt 156 41 = some (.getfield 87, 3, 9, 36) := by decide +kernel
theorem r156_44 : rowAt 156 44 = some (.aload_n 0, 1, 0, 0) := by decide +kernel
theorem r156_45 : rowAt 156 45 = some (.getfield 290, 3, 9, 27) := by decide +kernel
theorem r156_48 : rowAt 156 48 = some (.iload_n 1, 1, 0, 0) := by decide +kernel
theorem r156_49 : rowAt 156 49 = some (.iastore, 1, 0, 0) := by decide +kernel
theorem r156_50 : rowAt 156 50 = some (.aload_n 0, 1, 0, 0) := by decide +kernel
theorem r156_51 : rowAt 156 51 = some (.dup, 1, 0, 0) := by decide +kernel
theorem r156_52 : rowAt 156 52 = some (.getfield 290, 3, 9, 27) := by decide +kernel
theorem r156_55 : rowAt 156 55 = some (.iconst 1, 1, 0, 0) := by decide +kernel
theorem r156_56 : rowAt 156 56 = some (.iadd, 1, 0, 0) := by decide +kernel
theorem r156_57 : rowAt 156 57 = some (.putfield 290, 3, 9, 27) := by decide +kernel
theorem r156_60 : rowAt 156 60 = some (.return_, 1, 0, 0) := by decide +kernel
theorem en156 (a0 : Nat) (a1 : Int32) : iniL 156 [.ref a0, .int a1] = [.ref a0, .int a1] := ini_n mi156 rfl
theorem b156_0 (d : Nat) (l0 : Nat) (l1 : Int32) (h : aH) (K : Option Value → aH → Prop) : E scr false d 156 0 [.ref l0, .int l1] [] h K = (if l1 = 9 then E scr false d 156 12 [.ref l0, .int l1] [] h K else (if l1 = 12 then E scr false d 156 12 [.ref l0, .int l1] [] h K else E scr false d 156 40 [.ref l0, .int l1] [] h K)) := go (w := (1, [.ref l0, .int l1], [.int l1], h)) r156_0 rfl rfl (E_bip r156_1 (v := 9) (by decide) (E_i2_eq r156_3 rfl (rfl) (go (w := (7, [.ref l0, .int l1], [.int l1], h)) r156_6 rfl rfl (E_bip r156_7 (v := 12) (by decide) (E_i2_ne r156_9 rfl (rfl) (rfl))))))
theorem b156_12 (d : Nat) (l0 : Nat) (l1 : Int32) (h : aH) (K : Option Value → aH → Prop) : E scr false (d + 1) 156 12 [.ref l0, .int l1] [] h K = gI scr h l0 9 25 (fun x1 : Int32 => (if x1 = 10 then gI scr h l0 9 20 (fun x2 : Int32 => vV scr d 142 [.ref l0, .int 2, .int x2] h (fun h3 : aH => E scr false (d + 1) 156 30 [.ref l0, .int l1] [] h3 K)) else E scr false (d + 1) 156 30 [.ref l0, .int l1] [] h K)) := go (w := (13, [.ref l0, .int l1], [.ref l0], h)) r156_12 rfl rfl (E_gI r156_13 rfl (fun x1 => E_bip r156_16 (v := 10) (by decide) (E_i2_ne r156_18 rfl (rfl) (go (w := (22, [.ref l0, .int l1], [.ref l0], h)) r156_21 rfl rfl (E_ic r156_22 (v := 2) (by decide) (go (w := (24, [.ref l0, .int l1], [.ref l0, .int 2, .ref l0], h)) r156_23 rfl rfl (E_gI r156_24 rfl (fun x2 => E_vV r156_27 (As := [.ref l0, .int 2, .int x2]) (rest := []) (cut_n mi142.1 rfl rfl) (rm8_n mi142.2.1 (Nat.le_of_ble_eq_true rfl) (Nat.le_of_ble_eq_true rfl)) mi142.2.2 (fun h3 => rfl)))))))))
theorem b156_30 (d : Nat) (l0 : Nat) (l1 : Int32) (h : aH) (K : Option Value → aH → Prop) : E scr false d 156 30 [.ref l0, .int l1] [] h K = gI scr h l0 9 25 (fun x1 : Int32 => pF h l0 9 25 (.int (x1 + 1)) (fun h2 : aH => E scr false d 156 40 [.ref l0, .int l1] [] h2 K)) := go (w := (31, [.ref l0, .int l1], [.ref l0], h)) r156_30 rfl rfl (go (w := (32, [.ref l0, .int l1], [.ref l0, .ref l0], h)) r156_31 rfl rfl (E_gI r156_32 rfl (fun x1 => E_ic r156_35 (v := 1) (by decide) (go (w := (37, [.ref l0, .int l1], [.int (x1 + 1), .ref l0], h)) r156_36 rfl rfl (E_pI r156_37 ⟨rfl, rfl⟩ (fun h2 => rfl))))))
theorem b156_40 (d : Nat) (l0 : Nat) (l1 : Int32) (h : aH) (K : Option Value → aH → Prop) : E scr false d 156 40 [.ref l0, .int l1] [] h K = gR scr h l0 9 36 (fun x1 : Nat => gI scr h l0 9 27 (fun x2 : Int32 => wI h x1 x2 l1 (fun h3 : aH => gI scr h3 l0 9 27 (fun x4 : Int32 => pF h3 l0 9 27 (.int (x4 + 1)) (fun h5 : aH => K none h5))))) := go (w := (41, [.ref l0, .int l1], [.ref l0], h)) r156_40 rfl rfl (E_gR r156_41 rfl (fun x1 => go (w := (45, [.ref l0, .int l1], [.ref l0, .ref x1], h)) r156_44 rfl rfl (E_gI r156_45 rfl (fun x2 => go (w := (49, [.ref l0, .int l1], [.int l1, .int x2, .ref x1], h)) r156_48 rfl rfl (E_wI r156_49 (fun h3 => go (w := (51, [.ref l0, .int l1], [.ref l0], h3)) r156_50 rfl rfl (go (w := (52, [.ref l0, .int l1], [.ref l0, .ref l0], h3)) r156_51 rfl rfl (E_gI r156_52 rfl (fun x4 => E_ic r156_55 (v := 1) (by decide) (go (w := (57, [.ref l0, .int l1], [.int (x4 + 1), .ref l0], h3)) r156_56 rfl rfl (E_pI r156_57 ⟨rfl, rfl⟩ (fun h5 => E_vret r156_60 (mq156)))))))))))))
-- 157 SecondNearestModel.answers(I)V
theorem mq157 : mRet 157 = none := by decide +kernel
theorem r157_0 : rowAt 157 0 = some (.aload_n 0, 1, 0, 0) := by decide +kernel
theorem r157_1 : rowAt 157 1 = some (.invokevirtual 296, 3, 155, 0) := by decide +kernel
theorem r157_4 : rowAt 157 4 = some (.iload_n 1, 1, 0, 0) := by decide +kernel
theorem r157_5 : rowAt 157 5 = some (.if_icmp .ne 49, 3, 0, 0) := by decide +kernel
theorem r157_8 : rowAt 157 8 = some (.aload_n 0, 1, 0, 0) := by decide +kernel
theorem r157_9 : rowAt 157 9 = some (.getfield 220, 3, 9, 21) := by decide +kernel
theorem r157_12 : rowAt 157 12 = some (.ifCond .ne 42, 3, 0, 0) := by decide +kernel
theorem r157_15 : rowAt 157 15 = some (.aload_n 0, 1, 0, 0) := by decide +kernel
theorem r157_16 : rowAt 157 16 = some (.iload_n 1, 1, 0, 0) := by decide +kernel
theorem r157_17 : rowAt 157 17 = some (.iconst 0, 1, 0, 0) := by decide +kernel
theorem r157_18 : rowAt 157 18 = some (.invokevirtual 274, 3, 148, 0) := by decide +kernel
theorem r157_21 : rowAt 157 21 = some (.aload_n 0, 1, 0, 0) := by decide +kernel
theorem r157_22 : rowAt 157 22 = some (.dup, 1, 0, 0) := by decide +kernel
theorem r157_23 : rowAt 157 23 = some (.getfield 290, 3, 9, 27) := by decide +kernel
theorem r157_26 : rowAt 157 26 = some (.iconst 1, 1, 0, 0) := by decide +kernel
theorem r157_27 : rowAt 157 27 = some (.isub, 1, 0, 0) := by decide +kernel
theorem r157_28 : rowAt 157 28 = some (.putfield 290, 3, 9, 27) := by decide +kernel
theorem r157_31 : rowAt 157 31 = some (.aload_n 0, 1, 0, 0) := by decide +kernel
theorem r157_32 : rowAt 157 32 = some (.dup, 1, 0, 0) := by decide +kernel
theorem r157_33 : rowAt 157 33 = some (.getfield 293, 3, 9, 25) := by decide +kernel
theorem r157_36 : rowAt 157 36 = some (.iload_n 1, 1, 0, 0) := by decide +kernel
theorem r157_37 : rowAt 157 37 = some (.bipush 9, 2, 0, 0) := by decide +kernel
theorem r157_39 : rowAt 157 39 = some (.if_icmp .ne 7, 3, 0, 0) := by decide +kernel
theorem r157_42 : rowAt 157 42 = some (.iconst 1, 1, 0, 0) := by decide +kernel
theorem r157_43 : rowAt 157 43 = some (.goto 4, 3, 0, 0) := by decide +kernel
theorem r157_46 : rowAt 157 46 = some (.iconst 0, 1, 0, 0) := by decide +kernel
theorem r157_47 : rowAt 157 47 = some (.isub, 1, 0, 0) := by decide +kernel
theorem r157_48 : rowAt 157 48 = some (.putfield 293, 3, 9, 25) := by decide +kernel
theorem r157_51 : rowAt 157 51 = some (.goto (-51), 3, 0, 0) := by decide +kernel
theorem r157_54 : rowAt 157 54 = some (.return_, 1, 0, 0) := by decide +kernel
theorem en157 (a0 : Nat) (a1 : Int32) : iniL 157 [.ref a0, .int a1] = [.ref a0, .int a1] := ini_n mi157 rfl
theorem b157_0 (d : Nat) (l0 : Nat) (l1 : Int32) (h : aH) (K : Option Value → aH → Prop) : E scr false (d + 1) 157 0 [.ref l0, .int l1] [] h K = vI scr d 155 [.ref l0] h (fun (x2 : Int32) (h1 : aH) => (if x2 = l1 then gI scr h1 l0 9 21 (fun x3 : Int32 => (if x3 = 0 then vV scr d 148 [.ref l0, .int l1, .int 0] h1 (fun h4 : aH => gI scr h4 l0 9 27 (fun x6 : Int32 => pF h4 l0 9 27 (.int (x6 - 1)) (fun h7 : aH => gI scr h7 l0 9 25 (fun x8 : Int32 => (if l1 = 9 then E scr false (d + 1) 157 47 [.ref l0, .int l1] [.int 1, .int x8, .ref l0] h7 K else E scr false (d + 1) 157 47 [.ref l0, .int l1] [.int 0, .int x8, .ref l0] h7 K))))) else K none h1)) else K none h1)) := go (w := (1, [.ref l0, .int l1], [.ref l0], h)) r157_0 rfl rfl (E_vI r157_1 (As := [.ref l0]) (rest := []) (cut_n mi155.1 rfl rfl) (rm8_n mi155.2.1 (Nat.le_of_ble_eq_true rfl) (Nat.le_of_ble_eq_true rfl)) mi155.2.2 (fun x2 h1 => go (w := (5, [.ref l0, .int l1], [.int l1, .int x2], h1)) r157_4 rfl rfl (E_i2_ne r157_5 rfl (E_vret r157_54 (mq157)) (go (w := (9, [.ref l0, .int l1], [.ref l0], h1)) r157_8 rfl rfl (E_gI r157_9 rfl (fun x3 => E_i1_ne r157_12 rfl (E_vret r157_54 (mq157)) (go (w := (16, [.ref l0, .int l1], [.ref l0], h1)) r157_15 rfl rfl (go (w := (17, [.ref l0, .int l1], [.int l1, .ref l0], h1)) r157_16 rfl rfl (E_ic r157_17 (v := 0) (by decide) (E_vV r157_18 (As := [.ref l0, .int l1, .int 0]) (rest := []) (cut_n mi148.1 rfl rfl) (rm8_n mi148.2.1 (Nat.le_of_ble_eq_true rfl) (Nat.le_of_ble_eq_true rfl)) mi148.2.2 (fun h4 => go (w := (22, [.ref l0, .int l1], [.ref l0], h4)) r157_21 rfl rfl (go (w := (23, [.ref l0, .int l1], [.ref l0, .ref l0], h4)) r157_22 rfl rfl (E_gI r157_23 rfl (fun x6 => E_ic r157_26 (v := 1) (by decide) (go (w := (28, [.ref l0, .int l1], [.int (x6 - 1), .ref l0], h4)) r157_27 rfl rfl (E_pI r157_28 ⟨rfl, rfl⟩ (fun h7 => go (w := (32, [.ref l0, .int l1], [.ref l0], h7)) r157_31 rfl rfl (go (w := (33, [.ref l0, .int l1], [.ref l0, .ref l0], h7)) r157_32 rfl rfl (E_gI r157_33 rfl (fun x8 => go (w := (37, [.ref l0, .int l1], [.int l1, .int x8, .ref l0], h7)) r157_36 rfl rfl (E_bip r157_37 (v := 9) (by decide) (E_i2_ne r157_39 rfl (E_ic r157_46 (v := 0) (by decide) (rfl)) (E_ic r157_42 (v := 1) (by decide) (E_gt r157_43 rfl (rfl)))))))))))))))))))))))))
theorem b157_47 (d : Nat) (l0 : Nat) (l1 : Int32) (s0 : Int32) (s1 : Int32) (s2 : Nat) (h : aH) (K : Option Value → aH → Prop) : E scr false d 157 47 [.ref l0, .int l1] [.int s0, .int s1, .ref s2] h K = pF h s2 9 25 (.int (s1 - s0)) (fun h1 : aH => E scr false d 157 0 [.ref l0, .int l1] [] h1 K) := go (w := (48, [.ref l0, .int l1], [.int (s1 - s0), .ref s2], h)) r157_47 rfl rfl (E_pI r157_48 ⟨rfl, rfl⟩ (fun h1 => E_gt r157_51 rfl (rfl)))
-- 158 SecondNearestModel.fact()Z
theorem mq158 : mRet 158 = (some .boolean) := by decide +kernel
theorem r158_0 : rowAt 158 0 = some (.aload_n 0, 1, 0, 0) := by decide +kernel
theorem r158_1 : rowAt 158 1 = some (.invokevirtual 243, 3, 144, 0) := by decide +kernel
theorem r158_4 : rowAt 158 4 = some (.aload_n 0, 1, 0, 0) := by decide +kernel
theorem r158_5 : rowAt 158 5 = some (.ldc_w 299, 3, 12, 1) := by decide +kernel
theorem r158_8 : rowAt 158 8 = some (.invokevirtual 246, 3, 146, 0) := by decide +kernel
theorem r158_11 : rowAt 158 11 = some (.ifCond .eq 21, 3, 0, 0) := by decide +kernel
theorem r158_14 : rowAt 158 14 = some (.aload_n 0, 1, 0, 0) := by decide +kernel
theorem r158_15 : rowAt 158 15 = some (.bipush 9, 2, 0, 0) := by decide +kernel
theorem r158_17 : rowAt 158 17 = some (.invokevirtual 301, 3, 156, 0) := by decide +kernel
theorem r158_20 : rowAt 158 20 = some (.aload_n 0, 1, 0, 0) := by decide +kernel
theorem r158_21 : rowAt 158 21 = some (.dup, 1, 0, 0) := by decide +kernel
theorem r158_22 : rowAt 158 22 = some (.getfield 223, 3, 9, 20) := by decide +kernel
theorem r158_25 : rowAt 158 25 = some (.iconst 3, 1, 0, 0) := by decide +kernel
theorem r158_26 : rowAt 158 26 = some (.iadd, 1, 0, 0) := by decide +kernel
theorem r158_27 : rowAt 158 27 = some (.putfield 223, 3, 9, 20) := by decide +kernel
theorem r158_30 : rowAt 158 30 = some (.iconst 0, 1, 0, 0) := by decide +kernel
theorem r158_31 : rowAt 158 31 = some (.ireturn, 1, 0, 0) := by decide +kernel
theorem r158_32 : rowAt 158 32 = some (.aload_n 0, 1, 0, 0) := by decide +kernel
theorem r158_33 : rowAt 158 33 = some (.invokevirtual 226, 3, 143, 0) := by decide +kernel
theorem r158_36 : rowAt 158 36 = some (.bipush 91, 2, 0, 0) := by decide +kernel
theorem r158_38 : rowAt 158 38 = some (.if_icmp .ne 21, 3, 0, 0) := by decide +kernel
theorem r158_41 : rowAt 158 41 = some (.aload_n 0, 1, 0, 0) := by decide +kernel
theorem r158_42 : rowAt 158 42 = some (.bipush 12, 2, 0, 0) := by decide +kernel
theorem r158_44 : rowAt 158 44 = some (.invokevirtual 301, 3, 156, 0) := by decide +kernel
theorem r158_47 : rowAt 158 47 = some (.aload_n 0, 1, 0, 0) := by decide +kernel
theorem r158_48 : rowAt 158 48 = some (.dup, 1, 0, 0) := by decide +kernel
theorem r158_49 : rowAt 158 49 = some (.getfield 223, 3, 9, 20) := by decide +kernel
theorem r158_52 : rowAt 158 52 = some (.iconst 1, 1, 0, 0) := by decide +kernel
theorem r158_53 : rowAt 158 53 = some (.iadd, 1, 0, 0) := by decide +kernel
theorem r158_54 : rowAt 158 54 = some (.putfield 223, 3, 9, 20) := by decide +kernel
theorem r158_57 : rowAt 158 57 = some (.iconst 0, 1, 0, 0) := by decide +kernel
theorem r158_58 : rowAt 158 58 = some (.ireturn, 1, 0, 0) := by decide +kernel
theorem r158_59 : rowAt 158 59 = some (.aload_n 0, 1, 0, 0) := by decide +kernel
theorem r158_60 : rowAt 158 60 = some (.invokevirtual 304, 3, 154, 0) := by decide +kernel
theorem r158_63 : rowAt 158 63 = some (.iconst 1, 1, 0, 0) := by decide +kernel
theorem r158_64 : rowAt 158 64 = some (.ireturn, 1, 0, 0) := by decide +kernel
theorem en158 (a0 : Nat) : iniL 158 [.ref a0] = [.ref a0] := ini_n mi158 rfl
theorem b158_0 (d : Nat) (l0 : Nat) (h : aH) (K : Option Value → aH → Prop) : E scr false (d + 1) 158 0 [.ref l0] [] h K = vV scr d 144 [.ref l0] h (fun h1 : aH => vI scr d 146 [.ref l0, .ref 20012] h1 (fun (x4 : Int32) (h3 : aH) => (if x4 = 0 then vI scr d 143 [.ref l0] h3 (fun (x6 : Int32) (h5 : aH) => (if x6 = 91 then vV scr d 156 [.ref l0, .int 12] h5 (fun h9 : aH => gI scr h9 l0 9 20 (fun x11 : Int32 => pF h9 l0 9 20 (.int (x11 + 1)) (fun h12 : aH => K (some (.int 0)) h12))) else vV scr d 154 [.ref l0] h5 (fun h7 : aH => K (some (.int 1)) h7))) else vV scr d 156 [.ref l0, .int 9] h3 (fun h13 : aH => gI scr h13 l0 9 20 (fun x15 : Int32 => pF h13 l0 9 20 (.int (x15 + 3)) (fun h16 : aH => K (some (.int 0)) h16)))))) := go (w := (1, [.ref l0], [.ref l0], h)) r158_0 rfl rfl (E_vV r158_1 (As := [.ref l0]) (rest := []) (cut_n mi144.1 rfl rfl) (rm8_n mi144.2.1 (Nat.le_of_ble_eq_true rfl) (Nat.le_of_ble_eq_true rfl)) mi144.2.2 (fun h1 => go (w := (5, [.ref l0], [.ref l0], h1)) r158_4 rfl rfl (E_ldsw r158_5 (v := 20012) rfl (E_vI r158_8 (As := [.ref l0, .ref 20012]) (rest := []) (cut_n mi146.1 rfl rfl) (rm8_n mi146.2.1 (Nat.le_of_ble_eq_true rfl) (Nat.le_of_ble_eq_true rfl)) mi146.2.2 (fun x4 h3 => E_i1_eq r158_11 rfl (go (w := (33, [.ref l0], [.ref l0], h3)) r158_32 rfl rfl (E_vI r158_33 (As := [.ref l0]) (rest := []) (cut_n mi143.1 rfl rfl) (rm8_n mi143.2.1 (Nat.le_of_ble_eq_true rfl) (Nat.le_of_ble_eq_true rfl)) mi143.2.2 (fun x6 h5 => E_bip r158_36 (v := 91) (by decide) (E_i2_ne r158_38 rfl (go (w := (60, [.ref l0], [.ref l0], h5)) r158_59 rfl rfl (E_vV r158_60 (As := [.ref l0]) (rest := []) (cut_n mi154.1 rfl rfl) (rm8_n mi154.2.1 (Nat.le_of_ble_eq_true rfl) (Nat.le_of_ble_eq_true rfl)) mi154.2.2 (fun h7 => E_ic r158_63 (v := 1) (by decide) (E_rz r158_64 (mq158) (by decide))))) (go (w := (42, [.ref l0], [.ref l0], h5)) r158_41 rfl rfl (E_bip r158_42 (v := 12) (by decide) (E_vV r158_44 (As := [.ref l0, .int 12]) (rest := []) (cut_n mi156.1 rfl rfl) (rm8_n mi156.2.1 (Nat.le_of_ble_eq_true rfl) (Nat.le_of_ble_eq_true rfl)) mi156.2.2 (fun h9 => go (w := (48, [.ref l0], [.ref l0], h9)) r158_47 rfl rfl (go (w := (49, [.ref l0], [.ref l0, .ref l0], h9)) r158_48 rfl rfl (E_gI r158_49 rfl (fun x11 => E_ic r158_52 (v := 1) (by decide) (go (w := (54, [.ref l0], [.int (x11 + 1), .ref l0], h9)) r158_53 rfl rfl (E_pI r158_54 ⟨rfl, rfl⟩ (fun h12 => E_ic r158_57 (v := 0) (by decide) (E_rz r158_58 (mq158) (by decide)))))))))))))))) (go (w := (15, [.ref l0], [.ref l0], h3)) r158_14 rfl rfl (E_bip r158_15 (v := 9) (by decide) (E_vV r158_17 (As := [.ref l0, .int 9]) (rest := []) (cut_n mi156.1 rfl rfl) (rm8_n mi156.2.1 (Nat.le_of_ble_eq_true rfl) (Nat.le_of_ble_eq_true rfl)) mi156.2.2 (fun h13 => go (w := (21, [.ref l0], [.ref l0], h13)) r158_20 rfl rfl (go (w := (22, [.ref l0], [.ref l0, .ref l0], h13)) r158_21 rfl rfl (E_gI r158_22 rfl (fun x15 => E_ic r158_25 (v := 3) (by decide) (go (w := (27, [.ref l0], [.int (x15 + 3), .ref l0], h13)) r158_26 rfl rfl (E_pI r158_27 ⟨rfl, rfl⟩ (fun h16 => E_ic r158_30 (v := 0) (by decide) (E_rz r158_31 (mq158) (by decide)))))))))))))))))
-- 159 SecondNearestModel.test()V
theorem mq159 : mRet 159 = none := by decide +kernel
theorem r159_0 : rowAt 159 0 = some (.aload_n 0, 1, 0, 0) := by decide +kernel
theorem r159_1 : rowAt 159 1 = some (.iconst 0, 1, 0, 0) := by decide +kernel
theorem r159_2 : rowAt 159 2 = some (.putfield 290, 3, 9, 27) := by decide +kernel
theorem r159_5 : rowAt 159 5 = some (.iconst 1, 1, 0, 0) := by decide +kernel
theorem r159_6 : rowAt 159 6 = some (.istore_n 1, 1, 0, 0) := by decide +kernel
theorem r159_7 : rowAt 159 7 = some (.iconst 1, 1, 0, 0) := by decide +kernel
theorem r159_8 : rowAt 159 8 = some (.istore_n 2, 1, 0, 0) := by decide +kernel
theorem r159_9 : rowAt 159 9 = some (.iload_n 2, 1, 0, 0) := by decide +kernel
theorem r159_10 : rowAt 159 10 = some (.ifCond .eq 192, 3, 0, 0) := by decide +kernel
theorem r159_13 : rowAt 159 13 = some (.aload_n 0, 1, 0, 0) := by decide +kernel
theorem r159_14 : rowAt 159 14 = some (.getfield 220, 3, 9, 21) := by decide +kernel
theorem r159_17 : rowAt 159 17 = some (.ifCond .ne 185, 3, 0, 0) := by decide +kernel
theorem r159_20 : rowAt 159 20 = some (.iload_n 1, 1, 0, 0) := by decide +kernel
theorem r159_21 : rowAt 159 21 = some (.ifCond .eq 19, 3, 0, 0) := by decide +kernel
theorem r159_24 : rowAt 159 24 = some (.aload_n 0, 1, 0, 0) := by decide +kernel
theorem r159_25 : rowAt 159 25 = some (.invokevirtual 307, 3, 158, 0) := by decide +kernel
theorem r159_28 : rowAt 159 28 = some (.ifCond .ne 7, 3, 0, 0) := by decide +kernel
theorem r159_31 : rowAt 159 31 = some (.iconst 1, 1, 0, 0) := by decide +kernel
theorem r159_32 : rowAt 159 32 = some (.goto 4, 3, 0, 0) := by decide +kernel
theorem r159_35 : rowAt 159 35 = some (.iconst 0, 1, 0, 0) := by decide +kernel
theorem r159_36 : rowAt 159 36 = some (.istore_n 1, 1, 0, 0) := by decide +kernel
theorem r159_37 : rowAt 159 37 = some (.goto (-28), 3, 0, 0) := by decide +kernel
theorem r159_40 : rowAt 159 40 = some (.aload_n 0, 1, 0, 0) := by decide +kernel
theorem r159_41 : rowAt 159 41 = some (.bipush 9, 2, 0, 0) := by decide +kernel
theorem r159_43 : rowAt 159 43 = some (.invokevirtual 310, 3, 157, 0) := by decide +kernel
theorem r159_46 : rowAt 159 46 = some (.aload_n 0, 1, 0, 0) := by decide +kernel
theorem r159_47 : rowAt 159 47 = some (.invokevirtual 243, 3, 144, 0) := by decide +kernel
theorem r159_50 : rowAt 159 50 = some (.aload_n 0, 1, 0, 0) := by decide +kernel
theorem r159_51 : rowAt 159 51 = some (.ldc_w 313, 3, 22, 1) := by decide +kernel
theorem r159_54 : rowAt 159 54 = some (.invokevirtual 246, 3, 146, 0) := by decide +kernel
theorem r159_57 : rowAt 159 57 = some (.istore_n 3, 1, 0, 0) := by decide +kernel
theorem r159_58 : rowAt 159 58 = some (.aload_n 0, 1, 0, 0) := by decide +kernel
theorem r159_59 : rowAt 159 59 = some (.ldc_w 315, 3, 23, 1) := by decide +kernel
theorem r159_62 : rowAt 159 62 = some (.invokevirtual 246, 3, 146, 0) := by decide +kernel
theorem r159_65 : rowAt 159 65 = some (.istore 4, 2, 0, 0) := by decide +kernel
theorem r159_67 : rowAt 159 67 = some (.aload_n 0, 1, 0, 0) := by decide +kernel
theorem r159_68 : rowAt 159 68 = some (.bipush 10, 2, 0, 0) := by decide +kernel
theorem r159_70 : rowAt 159 70 = some (.invokevirtual 310, 3, 157, 0) := by decide +kernel
theorem r159_73 : rowAt 159 73 = some (.iload_n 3, 1, 0, 0) := by decide +kernel
theorem r159_74 : rowAt 159 74 = some (.ifCond .ne 8, 3, 0, 0) := by decide +kernel
theorem r159_77 : rowAt 159 77 = some (.iload 4, 2, 0, 0) := by decide +kernel
theorem r159_79 : rowAt 159 79 = some (.ifCond .eq 52, 3, 0, 0) := by decide +kernel
theorem r159_82 : rowAt 159 82 = some (.iload 4, 2, 0, 0) := by decide +kernel
theorem r159_84 : rowAt 159 84 = some (.ifCond .eq 9, 3, 0, 0) := by decide +kernel
theorem r159_87 : rowAt 159 87 = some (.aload_n 0, 1, 0, 0) := by decide +kernel
theorem r159_88 : rowAt 159 88 = some (.bipush 11, 2, 0, 0) := by decide +kernel
theorem r159_90 : rowAt 159 90 = some (.invokevirtual 310, 3, 157, 0) := by decide +kernel
theorem r159_93 : rowAt 159 93 = some (.aload_n 0, 1, 0, 0) := by decide +kernel
theorem r159_94 : rowAt 159 94 = some (.iload_n 3, 1, 0, 0) := by decide +kernel
theorem r159_95 : rowAt 159 95 = some (.ifCond .eq 8, 3, 0, 0) := by decide +kernel
theorem r159_98 : rowAt 159 98 = some (.bipush 10, 2, 0, 0) := by decide +kernel
theorem r159_100 : rowAt 159 100 = some (.goto 5, 3, 0, 0) := by decide +kernel
theorem r159_103 : rowAt 159 103 = some (.bipush 11, 2, 0, 0) := by decide +kernel
theorem r159_105 : rowAt 159 105 = some (.invokevirtual 301, 3, 156, 0) := by decide +kernel
theorem r159_108 : rowAt 159 108 = some (.aload_n 0, 1, 0, 0) := by decide +kernel
theorem r159_109 : rowAt 159 109 = some (.dup, 1, 0, 0) := by decide +kernel
theorem r159_110 : rowAt 159 110 = some (.getfield 223, 3, 9, 20) := by decide +kernel
theorem r159_113 : rowAt 159 113 = some (.iload_n 3, 1, 0, 0) := by decide +kernel
theorem r159_114 : rowAt 159 114 = some (.ifCond .eq 7, 3, 0, 0) := by decide +kernel
theorem r159_117 : rowAt 159 117 = some (.iconst 3, 1, 0, 0) := by decide +kernel
theorem r159_118 : rowAt 159 118 = some (.goto 4, 3, 0, 0) := by decide +kernel
theorem r159_121 : rowAt 159 121 = some (.iconst 2, 1, 0, 0) := by decide +kernel
theorem r159_122 : rowAt 159 122 = some (.iadd, 1, 0, 0) := by decide +kernel
theorem r159_123 : rowAt 159 123 = some (.putfield 223, 3, 9, 20) := by decide +kernel
theorem r159_126 : rowAt 159 126 = some (.iconst 1, 1, 0, 0) := by decide +kernel
theorem r159_127 : rowAt 159 127 = some (.istore_n 1, 1, 0, 0) := by decide +kernel
theorem r159_128 : rowAt 159 128 = some (.goto 71, 3, 0, 0) := by decide +kernel
theorem r159_131 : rowAt 159 131 = some (.aload_n 0, 1, 0, 0) := by decide +kernel
theorem r159_132 : rowAt 159 132 = some (.bipush 11, 2, 0, 0) := by decide +kernel
theorem r159_134 : rowAt 159 134 = some (.invokevirtual 310, 3, 157, 0) := by decide +kernel
theorem r159_137 : rowAt 159 137 = some (.aload_n 0, 1, 0, 0) := by decide +kernel
theorem r159_138 : rowAt 159 138 = some (.invokevirtual 296, 3, 155, 0) := by decide +kernel
theorem r159_141 : rowAt 159 141 = some (.bipush 12, 2, 0, 0) := by decide +kernel
theorem r159_143 : rowAt 159 143 = some (.if_icmp .ne 54, 3, 0, 0) := by decide +kernel
theorem r159_146 : rowAt 159 146 = some (.aload_n 0, 1, 0, 0) := by decide +kernel
theorem r159_147 : rowAt 159 147 = some (.invokevirtual 226, 3, 143, 0) := by decide +kernel
theorem r159_150 : rowAt 159 150 = some (.bipush 93, 2, 0, 0) := by decide +kernel
theorem r159_152 : rowAt 159 152 = some (.if_icmp .eq 12, 3, 0, 0) := by decide +kernel
theorem r159_155 : rowAt 159 155 = some (.aload_n 0, 1, 0, 0) := by decide +kernel
theorem r159_156 : rowAt 159 156 = some (.iconst 0, 1, 0, 0) := by decide +kernel
theorem r159_157 : rowAt 159 157 = some (.aload_n 0, 1, 0, 0) := by decide +kernel
theorem r159_158 : rowAt 159 158 = some (.getfield 223, 3, 9, 20) := by decide +kernel
theorem r159_161 : rowAt 159 161 = some (.invokevirtual 259, 3, 142, 0) := by decide +kernel
theorem r159_164 : rowAt 159 164 = some (.aload_n 0, 1, 0, 0) := by decide +kernel
theorem r159_165 : rowAt 159 165 = some (.dup, 1, 0, 0) := by decide +kernel
theorem r159_166 : rowAt 159 166 = some (.getfield 223, 3, 9, 20) := by decide +kernel
theorem r159_169 : rowAt 159 169 = some (.iconst 1, 1, 0, 0) := by decide +kernel
theorem r159_170 : rowAt 159 170 = some (.iadd, 1, 0, 0) := by decide +kernel
theorem r159_171 : rowAt 159 171 = some (.putfield 223, 3, 9, 20) := by decide +kernel
theorem r159_174 : rowAt 159 174 = some (.aload_n 0, 1, 0, 0) := by decide +kernel
theorem r159_175 : rowAt 159 175 = some (.dup, 1, 0, 0) := by decide +kernel
theorem r159_176 : rowAt 159 176 = some (.getfield 290, 3, 9, 27) := by decide +kernel
theorem r159_179 : rowAt 159 179 = some (.iconst 1, 1, 0, 0) := by decide +kernel
theorem r159_180 : rowAt 159 180 = some (.isub, 1, 0, 0) := by decide +kernel
theorem r159_181 : rowAt 159 181 = some (.putfield 290, 3, 9, 27) := by decide +kernel
theorem r159_184 : rowAt 159 184 = some (.aload_n 0, 1, 0, 0) := by decide +kernel
theorem r159_185 : rowAt 159 185 = some (.dup, 1, 0, 0) := by decide +kernel
theorem r159_186 : rowAt 159 186 = some (.getfield 293, 3, 9, 25) := by decide +kernel
theorem r159_189 : rowAt 159 189 = some (.iconst 1, 1, 0, 0) := by decide +kernel
theorem r159_190 : rowAt 159 190 = some (.isub, 1, 0, 0) := by decide +kernel
theorem r159_191 : rowAt 159 191 = some (.putfield 293, 3, 9, 25) := by decide +kernel
theorem r159_194 : rowAt 159 194 = some (.goto 5, 3, 0, 0) := by decide +kernel
theorem r159_197 : rowAt 159 197 = some (.iconst 0, 1, 0, 0) := by decide +kernel
theorem r159_198 : rowAt 159 198 = some (.istore_n 2, 1, 0, 0) := by decide +kernel
theorem r159_199 : rowAt 159 199 = some (.goto (-190), 3, 0, 0) := by decide +kernel
theorem r159_202 : rowAt 159 202 = some (.return_, 1, 0, 0) := by decide +kernel
theorem en159 (a0 : Nat) : iniL 159 [.ref a0] = [.ref a0, .null, .null, .null, .null] := ini_n mi159 rfl
theorem b159_0 (d : Nat) (l0 : Nat) (h : aH) (K : Option Value → aH → Prop) : E scr false d 159 0 [.ref l0, .null, .null, .null, .null] [] h K = pF h l0 9 27 (.int 0) (fun h1 : aH => E scr false d 159 9 [.ref l0, .int 1, .int 1, .null, .null] [] h1 K) := go (w := (1, [.ref l0, .null, .null, .null, .null], [.ref l0], h)) r159_0 rfl rfl (E_ic r159_1 (v := 0) (by decide) (E_pI r159_2 ⟨rfl, rfl⟩ (fun h1 => E_ic r159_5 (v := 1) (by decide) (go (w := (7, [.ref l0, .int 1, .null, .null, .null], [], h1)) r159_6 rfl rfl (E_ic r159_7 (v := 1) (by decide) (go (w := (9, [.ref l0, .int 1, .int 1, .null, .null], [], h1)) r159_8 rfl rfl (rfl)))))))
theorem b159_9 (d : Nat) (l0 : Nat) (l1 : Int32) (l2 : Int32) (l3 : Value) (l4 : Value) (h : aH) (K : Option Value → aH → Prop) : E scr false (d + 1) 159 9 [.ref l0, .int l1, .int l2, l3, l4] [] h K = (if l2 = 0 then K none h else gI scr h l0 9 21 (fun x1 : Int32 => (if x1 = 0 then (if l1 = 0 then vV scr d 157 [.ref l0, .int 9] h (fun h2 : aH => vV scr d 144 [.ref l0] h2 (fun h4 : aH => vI scr d 146 [.ref l0, .ref 20022] h4 (fun (x7 : Int32) (h6 : aH) => vI scr d 146 [.ref l0, .ref 20023] h6 (fun (x9 : Int32) (h8 : aH) => vV scr d 157 [.ref l0, .int 10] h8 (fun h10 : aH => (if x7 = 0 then (if x9 = 0 then vV scr d 157 [.ref l0, .int 11] h10 (fun h12 : aH => vI scr d 155 [.ref l0] h12 (fun (x15 : Int32) (h14 : aH) => (if x15 = 12 then vI scr d 143 [.ref l0] h14 (fun (x17 : Int32) (h16 : aH) => (if x17 = 93 then E scr false (d + 1) 159 164 [.ref l0, .int l1, .int l2, .int x7, .int x9] [] h16 K else gI scr h16 l0 9 20 (fun x18 : Int32 => vV scr d 142 [.ref l0, .int 0, .int x18] h16 (fun h19 : aH => E scr false (d + 1) 159 164 [.ref l0, .int l1, .int l2, .int x7, .int x9] [] h19 K)))) else E scr false (d + 1) 159 199 [.ref l0, .int l1, .int 0, .int x7, .int x9] [] h14 K))) else E scr false (d + 1) 159 82 [.ref l0, .int l1, .int l2, .int x7, .int x9] [] h10 K) else E scr false (d + 1) 159 82 [.ref l0, .int l1, .int l2, .int x7, .int x9] [] h10 K)))))) else vI scr d 158 [.ref l0] h (fun (x22 : Int32) (h21 : aH) => (if x22 = 0 then E scr false (d + 1) 159 36 [.ref l0, .int l1, .int l2, l3, l4] [.int 1] h21 K else E scr false (d + 1) 159 36 [.ref l0, .int l1, .int l2, l3, l4] [.int 0] h21 K))) else K none h))) := go (w := (10, [.ref l0, .int l1, .int l2, l3, l4], [.int l2], h)) r159_9 rfl rfl (E_i1_eq r159_10 rfl (E_vret r159_202 (mq159)) (go (w := (14, [.ref l0, .int l1, .int l2, l3, l4], [.ref l0], h)) r159_13 rfl rfl (E_gI r159_14 rfl (fun x1 => E_i1_ne r159_17 rfl (E_vret r159_202 (mq159)) (go (w := (21, [.ref l0, .int l1, .int l2, l3, l4], [.int l1], h)) r159_20 rfl rfl (E_i1_eq r159_21 rfl (go (w := (41, [.ref l0, .int l1, .int l2, l3, l4], [.ref l0], h)) r159_40 rfl rfl (E_bip r159_41 (v := 9) (by decide) (E_vV r159_43 (As := [.ref l0, .int 9]) (rest := []) (cut_n mi157.1 rfl rfl) (rm8_n mi157.2.1 (Nat.le_of_ble_eq_true rfl) (Nat.le_of_ble_eq_true rfl)) mi157.2.2 (fun h2 => go (w := (47, [.ref l0, .int l1, .int l2, l3, l4], [.ref l0], h2)) r159_46 rfl rfl (E_vV r159_47 (As := [.ref l0]) (rest := []) (cut_n mi144.1 rfl rfl) (rm8_n mi144.2.1 (Nat.le_of_ble_eq_true rfl) (Nat.le_of_ble_eq_true rfl)) mi144.2.2 (fun h4 => go (w := (51, [.ref l0, .int l1, .int l2, l3, l4], [.ref l0], h4)) r159_50 rfl rfl (E_ldsw r159_51 (v := 20022) rfl (E_vI r159_54 (As := [.ref l0, .ref 20022]) (rest := []) (cut_n mi146.1 rfl rfl) (rm8_n mi146.2.1 (Nat.le_of_ble_eq_true rfl) (Nat.le_of_ble_eq_true rfl)) mi146.2.2 (fun x7 h6 => go (w := (58, [.ref l0, .int l1, .int l2, .int x7, l4], [], h6)) r159_57 rfl rfl (go (w := (59, [.ref l0, .int l1, .int l2, .int x7, l4], [.ref l0], h6)) r159_58 rfl rfl (E_ldsw r159_59 (v := 20023) rfl (E_vI r159_62 (As := [.ref l0, .ref 20023]) (rest := []) (cut_n mi146.1 rfl rfl) (rm8_n mi146.2.1 (Nat.le_of_ble_eq_true rfl) (Nat.le_of_ble_eq_true rfl)) mi146.2.2 (fun x9 h8 => go (w := (67, [.ref l0, .int l1, .int l2, .int x7, .int x9], [], h8)) r159_65 rfl rfl (go (w := (68, [.ref l0, .int l1, .int l2, .int x7, .int x9], [.ref l0], h8)) r159_67 rfl rfl (E_bip r159_68 (v := 10) (by decide) (E_vV r159_70 (As := [.ref l0, .int 10]) (rest := []) (cut_n mi157.1 rfl rfl) (rm8_n mi157.2.1 (Nat.le_of_ble_eq_true rfl) (Nat.le_of_ble_eq_true rfl)) mi157.2.2 (fun h10 => go (w := (74, [.ref l0, .int l1, .int l2, .int x7, .int x9], [.int x7], h10)) r159_73 rfl rfl (E_i1_ne r159_74 rfl (rfl) (go (w := (79, [.ref l0, .int l1, .int l2, .int x7, .int x9], [.int x9], h10)) r159_77 rfl rfl (E_i1_eq r159_79 rfl (go (w := (132, [.ref l0, .int l1, .int l2, .int x7, .int x9], [.ref l0], h10)) r159_131 rfl rfl (E_bip r159_132 (v := 11) (by decide) (E_vV r159_134 (As := [.ref l0, .int 11]) (rest := []) (cut_n mi157.1 rfl rfl) (rm8_n mi157.2.1 (Nat.le_of_ble_eq_true rfl) (Nat.le_of_ble_eq_true rfl)) mi157.2.2 (fun h12 => go (w := (138, [.ref l0, .int l1, .int l2, .int x7, .int x9], [.ref l0], h12)) r159_137 rfl rfl (E_vI r159_138 (As := [.ref l0]) (rest := []) (cut_n mi155.1 rfl rfl) (rm8_n mi155.2.1 (Nat.le_of_ble_eq_true rfl) (Nat.le_of_ble_eq_true rfl)) mi155.2.2 (fun x15 h14 => E_bip r159_141 (v := 12) (by decide) (E_i2_ne r159_143 rfl (E_ic r159_197 (v := 0) (by decide) (go (w := (199, [.ref l0, .int l1, .int 0, .int x7, .int x9], [], h14)) r159_198 rfl rfl (rfl))) (go (w := (147, [.ref l0, .int l1, .int l2, .int x7, .int x9], [.ref l0], h14)) r159_146 rfl rfl (E_vI r159_147 (As := [.ref l0]) (rest := []) (cut_n mi143.1 rfl rfl) (rm8_n mi143.2.1 (Nat.le_of_ble_eq_true rfl) (Nat.le_of_ble_eq_true rfl)) mi143.2.2 (fun x17 h16 => E_bip r159_150 (v := 93) (by decide) (E_i2_eq r159_152 rfl (rfl) (go (w := (156, [.ref l0, .int l1, .int l2, .int x7, .int x9], [.ref l0], h16)) r159_155 rfl rfl (E_ic r159_156 (v := 0) (by decide) (go (w := (158, [.ref l0, .int l1, .int l2, .int x7, .int x9], [.ref l0, .int 0, .ref l0], h16)) r159_157 rfl rfl (E_gI r159_158 rfl (fun x18 => E_vV r159_161 (As := [.ref l0, .int 0, .int x18]) (rest := []) (cut_n mi142.1 rfl rfl) (rm8_n mi142.2.1 (Nat.le_of_ble_eq_true rfl) (Nat.le_of_ble_eq_true rfl)) mi142.2.2 (fun h19 => rfl))))))))))))))))) (rfl))))))))))))))))))))) (go (w := (25, [.ref l0, .int l1, .int l2, l3, l4], [.ref l0], h)) r159_24 rfl rfl (E_vI r159_25 (As := [.ref l0]) (rest := []) (cut_n mi158.1 rfl rfl) (rm8_n mi158.2.1 (Nat.le_of_ble_eq_true rfl) (Nat.le_of_ble_eq_true rfl)) mi158.2.2 (fun x22 h21 => E_i1_ne r159_28 rfl (E_ic r159_35 (v := 0) (by decide) (rfl)) (E_ic r159_31 (v := 1) (by decide) (E_gt r159_32 rfl (rfl))))))))))))
theorem b159_36 (d : Nat) (l0 : Nat) (l1 : Int32) (l2 : Int32) (l3 : Value) (l4 : Value) (s0 : Int32) (h : aH) (K : Option Value → aH → Prop) : E scr false d 159 36 [.ref l0, .int l1, .int l2, l3, l4] [.int s0] h K = E scr false d 159 9 [.ref l0, .int s0, .int l2, l3, l4] [] h K := go (w := (37, [.ref l0, .int s0, .int l2, l3, l4], [], h)) r159_36 rfl rfl (E_gt r159_37 rfl (rfl))
theorem b159_82 (d : Nat) (l0 : Nat) (l1 : Int32) (l2 : Int32) (l3 : Int32) (l4 : Int32) (h : aH) (K : Option Value → aH → Prop) : E scr false (d + 1) 159 82 [.ref l0, .int l1, .int l2, .int l3, .int l4] [] h K = (if l4 = 0 then E scr false (d + 1) 159 93 [.ref l0, .int l1, .int l2, .int l3, .int l4] [] h K else vV scr d 157 [.ref l0, .int 11] h (fun h1 : aH => E scr false (d + 1) 159 93 [.ref l0, .int l1, .int l2, .int l3, .int l4] [] h1 K)) := go (w := (84, [.ref l0, .int l1, .int l2, .int l3, .int l4], [.int l4], h)) r159_82 rfl rfl (E_i1_eq r159_84 rfl (rfl) (go (w := (88, [.ref l0, .int l1, .int l2, .int l3, .int l4], [.ref l0], h)) r159_87 rfl rfl (E_bip r159_88 (v := 11) (by decide) (E_vV r159_90 (As := [.ref l0, .int 11]) (rest := []) (cut_n mi157.1 rfl rfl) (rm8_n mi157.2.1 (Nat.le_of_ble_eq_true rfl) (Nat.le_of_ble_eq_true rfl)) mi157.2.2 (fun h1 => rfl)))))
theorem b159_93 (d : Nat) (l0 : Nat) (l1 : Int32) (l2 : Int32) (l3 : Int32) (l4 : Int32) (h : aH) (K : Option Value → aH → Prop) : E scr false d 159 93 [.ref l0, .int l1, .int l2, .int l3, .int l4] [] h K = (if l3 = 0 then E scr false d 159 105 [.ref l0, .int l1, .int l2, .int l3, .int l4] [.int 11, .ref l0] h K else E scr false d 159 105 [.ref l0, .int l1, .int l2, .int l3, .int l4] [.int 10, .ref l0] h K) := go (w := (94, [.ref l0, .int l1, .int l2, .int l3, .int l4], [.ref l0], h)) r159_93 rfl rfl (go (w := (95, [.ref l0, .int l1, .int l2, .int l3, .int l4], [.int l3, .ref l0], h)) r159_94 rfl rfl (E_i1_eq r159_95 rfl (E_bip r159_103 (v := 11) (by decide) (rfl)) (E_bip r159_98 (v := 10) (by decide) (E_gt r159_100 rfl (rfl)))))
theorem b159_105 (d : Nat) (l0 : Nat) (l1 : Int32) (l2 : Int32) (l3 : Int32) (l4 : Int32) (s0 : Int32) (s1 : Nat) (h : aH) (K : Option Value → aH → Prop) : E scr false (d + 1) 159 105 [.ref l0, .int l1, .int l2, .int l3, .int l4] [.int s0, .ref s1] h K = vV scr d 156 [.ref s1, .int s0] h (fun h1 : aH => gI scr h1 l0 9 20 (fun x3 : Int32 => (if l3 = 0 then E scr false (d + 1) 159 122 [.ref l0, .int l1, .int l2, .int l3, .int l4] [.int 2, .int x3, .ref l0] h1 K else E scr false (d + 1) 159 122 [.ref l0, .int l1, .int l2, .int l3, .int l4] [.int 3, .int x3, .ref l0] h1 K))) := E_vV r159_105 (As := [.ref s1, .int s0]) (rest := []) (cut_n mi156.1 rfl rfl) (rm8_n mi156.2.1 (Nat.le_of_ble_eq_true rfl) (Nat.le_of_ble_eq_true rfl)) mi156.2.2 (fun h1 => go (w := (109, [.ref l0, .int l1, .int l2, .int l3, .int l4], [.ref l0], h1)) r159_108 rfl rfl (go (w := (110, [.ref l0, .int l1, .int l2, .int l3, .int l4], [.ref l0, .ref l0], h1)) r159_109 rfl rfl (E_gI r159_110 rfl (fun x3 => go (w := (114, [.ref l0, .int l1, .int l2, .int l3, .int l4], [.int l3, .int x3, .ref l0], h1)) r159_113 rfl rfl (E_i1_eq r159_114 rfl (E_ic r159_121 (v := 2) (by decide) (rfl)) (E_ic r159_117 (v := 3) (by decide) (E_gt r159_118 rfl (rfl))))))))
theorem b159_122 (d : Nat) (l0 : Nat) (l1 : Int32) (l2 : Int32) (l3 : Int32) (l4 : Int32) (s0 : Int32) (s1 : Int32) (s2 : Nat) (h : aH) (K : Option Value → aH → Prop) : E scr false d 159 122 [.ref l0, .int l1, .int l2, .int l3, .int l4] [.int s0, .int s1, .ref s2] h K = pF h s2 9 20 (.int (s1 + s0)) (fun h1 : aH => E scr false d 159 199 [.ref l0, .int 1, .int l2, .int l3, .int l4] [] h1 K) := go (w := (123, [.ref l0, .int l1, .int l2, .int l3, .int l4], [.int (s1 + s0), .ref s2], h)) r159_122 rfl rfl (E_pI r159_123 ⟨rfl, rfl⟩ (fun h1 => E_ic r159_126 (v := 1) (by decide) (go (w := (128, [.ref l0, .int 1, .int l2, .int l3, .int l4], [], h1)) r159_127 rfl rfl (E_gt r159_128 rfl (rfl)))))
theorem b159_164 (d : Nat) (l0 : Nat) (l1 : Int32) (l2 : Int32) (l3 : Int32) (l4 : Int32) (h : aH) (K : Option Value → aH → Prop) : E scr false d 159 164 [.ref l0, .int l1, .int l2, .int l3, .int l4] [] h K = gI scr h l0 9 20 (fun x1 : Int32 => pF h l0 9 20 (.int (x1 + 1)) (fun h2 : aH => gI scr h2 l0 9 27 (fun x3 : Int32 => pF h2 l0 9 27 (.int (x3 - 1)) (fun h4 : aH => gI scr h4 l0 9 25 (fun x5 : Int32 => pF h4 l0 9 25 (.int (x5 - 1)) (fun h6 : aH => E scr false d 159 199 [.ref l0, .int l1, .int l2, .int l3, .int l4] [] h6 K)))))) := go (w := (165, [.ref l0, .int l1, .int l2, .int l3, .int l4], [.ref l0], h)) r159_164 rfl rfl (go (w := (166, [.ref l0, .int l1, .int l2, .int l3, .int l4], [.ref l0, .ref l0], h)) r159_165 rfl rfl (E_gI r159_166 rfl (fun x1 => E_ic r159_169 (v := 1) (by decide) (go (w := (171, [.ref l0, .int l1, .int l2, .int l3, .int l4], [.int (x1 + 1), .ref l0], h)) r159_170 rfl rfl (E_pI r159_171 ⟨rfl, rfl⟩ (fun h2 => go (w := (175, [.ref l0, .int l1, .int l2, .int l3, .int l4], [.ref l0], h2)) r159_174 rfl rfl (go (w := (176, [.ref l0, .int l1, .int l2, .int l3, .int l4], [.ref l0, .ref l0], h2)) r159_175 rfl rfl (E_gI r159_176 rfl (fun x3 => E_ic r159_179 (v := 1) (by decide) (go (w := (181, [.ref l0, .int l1, .int l2, .int l3, .int l4], [.int (x3 - 1), .ref l0], h2)) r159_180 rfl rfl (E_pI r159_181 ⟨rfl, rfl⟩ (fun h4 => go (w := (185, [.ref l0, .int l1, .int l2, .int l3, .int l4], [.ref l0], h4)) r159_184 rfl rfl (go (w := (186, [.ref l0, .int l1, .int l2, .int l3, .int l4], [.ref l0, .ref l0], h4)) r159_185 rfl rfl (E_gI r159_186 rfl (fun x5 => E_ic r159_189 (v := 1) (by decide) (go (w := (191, [.ref l0, .int l1, .int l2, .int l3, .int l4], [.int (x5 - 1), .ref l0], h4)) r159_190 rfl rfl (E_pI r159_191 ⟨rfl, rfl⟩ (fun h6 => E_gt r159_194 rfl (rfl)))))))))))))))))))
theorem b159_199 (d : Nat) (l0 : Nat) (l1 : Int32) (l2 : Int32) (l3 : Int32) (l4 : Int32) (h : aH) (K : Option Value → aH → Prop) : E scr false d 159 199 [.ref l0, .int l1, .int l2, .int l3, .int l4] [] h K = E scr false d 159 9 [.ref l0, .int l1, .int l2, .int l3, .int l4] [] h K := E_gt r159_199 rfl (rfl)
-- 160 SecondNearestModel.amount(II)I
theorem mq160 : mRet 160 = (some .int) := by decide +kernel
theorem r160_0 : rowAt 160 0 = some (.aload_n 0, 1, 0, 0) := by decide +kernel
theorem r160_1 : rowAt 160 1 = some (.invokevirtual 243, 3, 144, 0) := by decide +kernel
theorem r160_4 : rowAt 160 4 = some (.aload_n 0, 1, 0, 0) := by decide +kernel
theorem r160_5 : rowAt 160 5 = some (.getfield 223, 3, 9, 20) := by decide +kernel
theorem r160_8 : rowAt 160 8 = some (.istore_n 3, 1, 0, 0) := by decide +kernel
theorem r160_9 : rowAt 160 9 = some (.aload_n 0, 1, 0, 0) := by decide +kernel
theorem r160_10 : rowAt 160 10 = some (.getfield 220, 3, 9, 21) := by decide +kernel
theorem r160_13 : rowAt 160 13 = some (.ifCond .ne 13, 3, 0, 0) := by decide +kernel
theorem r160_16 : rowAt 160 16 = some (.aload_n 0, 1, 0, 0) := by decide +kernel
theorem r160_17 : rowAt 160 17 = some (.ldc_w 267, 3, 99999, 0) := by decide +kernel
theorem r160_20 : rowAt 160 20 = some (.invokevirtual 268, 3, 150, 0) := by decide +kernel
theorem r160_23 : rowAt 160 23 = some (.goto 4, 3, 0, 0) := by decide +kernel
theorem r160_26 : rowAt 160 26 = some (.iconst 0, 1, 0, 0) := by decide +kernel
theorem r160_27 : rowAt 160 27 = some (.istore 4, 2, 0, 0) := by decide +kernel
theorem r160_29 : rowAt 160 29 = some (.aload_n 0, 1, 0, 0) := by decide +kernel
theorem r160_30 : rowAt 160 30 = some (.getfield 220, 3, 9, 21) := by decide +kernel
theorem r160_33 : rowAt 160 33 = some (.ifCond .ne 22, 3, 0, 0) := by decide +kernel
theorem r160_36 : rowAt 160 36 = some (.iload 4, 2, 0, 0) := by decide +kernel
theorem r160_38 : rowAt 160 38 = some (.i2l, 1, 0, 0) := by decide +kernel
theorem r160_39 : rowAt 160 39 = some (.iload_n 1, 1, 0, 0) := by decide +kernel
theorem r160_40 : rowAt 160 40 = some (.i2l, 1, 0, 0) := by decide +kernel
theorem r160_41 : rowAt 160 41 = some (.iload_n 2, 1, 0, 0) := by decide +kernel
theorem r160_42 : rowAt 160 42 = some (.i2l, 1, 0, 0) := by decide +kernel
theorem r160_43 : rowAt 160 43 = some (.invokestatic 143, 3, 121, 1) := by decide +kernel
theorem r160_46 : rowAt 160 46 = some (.ifCond .ne 9, 3, 0, 0) := by decide +kernel
theorem r160_49 : rowAt 160 49 = some (.aload_n 0, 1, 0, 0) := by decide +kernel
theorem r160_50 : rowAt 160 50 = some (.iconst 1, 1, 0, 0) := by decide +kernel
theorem r160_51 : rowAt 160 51 = some (.iload_n 3, 1, 0, 0) := by decide +kernel
theorem r160_52 : rowAt 160 52 = some (.invokevirtual 259, 3, 142, 0) := by decide +kernel
theorem r160_55 : rowAt 160 55 = some (.iload 4, 2, 0, 0) := by decide +kernel
theorem r160_57 : rowAt 160 57 = some (.ireturn, 1, 0, 0) := by decide +kernel
theorem en160 (a0 : Nat) (a1 : Int32) (a2 : Int32) : iniL 160 [.ref a0, .int a1, .int a2] = [.ref a0, .int a1, .int a2, .null, .null] := ini_n mi160 rfl
theorem b160_0 (d : Nat) (l0 : Nat) (l1 : Int32) (l2 : Int32) (h : aH) (K : Option Value → aH → Prop) : E scr false (d + 1) 160 0 [.ref l0, .int l1, .int l2, .null, .null] [] h K = vV scr d 144 [.ref l0] h (fun h1 : aH => gI scr h1 l0 9 20 (fun x3 : Int32 => gI scr h1 l0 9 21 (fun x4 : Int32 => (if x4 = 0 then vI scr d 150 [.ref l0, .int 99999] h1 (fun (x6 : Int32) (h5 : aH) => E scr false (d + 1) 160 27 [.ref l0, .int l1, .int l2, .int x3, .null] [.int x6] h5 K) else E scr false (d + 1) 160 27 [.ref l0, .int l1, .int l2, .int x3, .null] [.int 0] h1 K)))) := go (w := (1, [.ref l0, .int l1, .int l2, .null, .null], [.ref l0], h)) r160_0 rfl rfl (E_vV r160_1 (As := [.ref l0]) (rest := []) (cut_n mi144.1 rfl rfl) (rm8_n mi144.2.1 (Nat.le_of_ble_eq_true rfl) (Nat.le_of_ble_eq_true rfl)) mi144.2.2 (fun h1 => go (w := (5, [.ref l0, .int l1, .int l2, .null, .null], [.ref l0], h1)) r160_4 rfl rfl (E_gI r160_5 rfl (fun x3 => go (w := (9, [.ref l0, .int l1, .int l2, .int x3, .null], [], h1)) r160_8 rfl rfl (go (w := (10, [.ref l0, .int l1, .int l2, .int x3, .null], [.ref l0], h1)) r160_9 rfl rfl (E_gI r160_10 rfl (fun x4 => E_i1_ne r160_13 rfl (E_ic r160_26 (v := 0) (by decide) (rfl)) (go (w := (17, [.ref l0, .int l1, .int l2, .int x3, .null], [.ref l0], h1)) r160_16 rfl rfl (E_ldcw r160_17 (v := 99999) (by decide) (E_vI r160_20 (As := [.ref l0, .int 99999]) (rest := []) (cut_n mi150.1 rfl rfl) (rm8_n mi150.2.1 (Nat.le_of_ble_eq_true rfl) (Nat.le_of_ble_eq_true rfl)) mi150.2.2 (fun x6 h5 => E_gt r160_23 rfl (rfl))))))))))))
theorem b160_27 (d : Nat) (l0 : Nat) (l1 : Int32) (l2 : Int32) (l3 : Int32) (s0 : Int32) (h : aH) (K : Option Value → aH → Prop) : E scr false (d + 1) 160 27 [.ref l0, .int l1, .int l2, .int l3, .null] [.int s0] h K = gI scr h l0 9 21 (fun x1 : Int32 => (if x1 = 0 then sI scr d 121 [.long (Int32.toInt64 s0), .long (Int32.toInt64 l1), .long (Int32.toInt64 l2)] h (fun (x3 : Int32) (h2 : aH) => (if x3 = 0 then vV scr d 142 [.ref l0, .int 1, .int l3] h2 (fun h4 : aH => K (some (.int s0)) h4) else K (some (.int s0)) h2)) else K (some (.int s0)) h)) := go (w := (29, [.ref l0, .int l1, .int l2, .int l3, .int s0], [], h)) r160_27 rfl rfl (go (w := (30, [.ref l0, .int l1, .int l2, .int l3, .int s0], [.ref l0], h)) r160_29 rfl rfl (E_gI r160_30 rfl (fun x1 => E_i1_ne r160_33 rfl (go (w := (57, [.ref l0, .int l1, .int l2, .int l3, .int s0], [.int s0], h)) r160_55 rfl rfl (E_ri r160_57 (mq160))) (go (w := (38, [.ref l0, .int l1, .int l2, .int l3, .int s0], [.int s0], h)) r160_36 rfl rfl (go (w := (39, [.ref l0, .int l1, .int l2, .int l3, .int s0], [.long (Int32.toInt64 s0)], h)) r160_38 rfl rfl (go (w := (40, [.ref l0, .int l1, .int l2, .int l3, .int s0], [.int l1, .long (Int32.toInt64 s0)], h)) r160_39 rfl rfl (go (w := (41, [.ref l0, .int l1, .int l2, .int l3, .int s0], [.long (Int32.toInt64 l1), .long (Int32.toInt64 s0)], h)) r160_40 rfl rfl (go (w := (42, [.ref l0, .int l1, .int l2, .int l3, .int s0], [.int l2, .long (Int32.toInt64 l1), .long (Int32.toInt64 s0)], h)) r160_41 rfl rfl (go (w := (43, [.ref l0, .int l1, .int l2, .int l3, .int s0], [.long (Int32.toInt64 l2), .long (Int32.toInt64 l1), .long (Int32.toInt64 s0)], h)) r160_42 rfl rfl (E_sI r160_43 (As := [.long (Int32.toInt64 s0), .long (Int32.toInt64 l1), .long (Int32.toInt64 l2)]) (rest := []) (cut_n mi121.1 rfl rfl) (rm8_n mi121.2.1 (Nat.le_of_ble_eq_true rfl) (Nat.le_of_ble_eq_true rfl)) mi121.2.2 (fun x3 h2 => E_i1_ne r160_46 rfl (go (w := (57, [.ref l0, .int l1, .int l2, .int l3, .int s0], [.int s0], h2)) r160_55 rfl rfl (E_ri r160_57 (mq160))) (go (w := (50, [.ref l0, .int l1, .int l2, .int l3, .int s0], [.ref l0], h2)) r160_49 rfl rfl (E_ic r160_50 (v := 1) (by decide) (go (w := (52, [.ref l0, .int l1, .int l2, .int l3, .int s0], [.int l3, .int 1, .ref l0], h2)) r160_51 rfl rfl (E_vV r160_52 (As := [.ref l0, .int 1, .int l3]) (rest := []) (cut_n mi142.1 rfl rfl) (rm8_n mi142.2.1 (Nat.le_of_ble_eq_true rfl) (Nat.le_of_ble_eq_true rfl)) mi142.2.2 (fun h4 => go (w := (57, [.ref l0, .int l1, .int l2, .int l3, .int s0], [.int s0], h4)) r160_55 rfl rfl (E_ri r160_57 (mq160))))))))))))))))))
-- 161 SecondNearestModel.signKind()I
theorem mq161 : mRet 161 = (some .int) := by decide +kernel
theorem r161_0 : rowAt 161 0 = some (.aload_n 0, 1, 0, 0) := by decide +kernel
theorem r161_1 : rowAt 161 1 = some (.getfield 223, 3, 9, 20) := by decide +kernel
theorem r161_4 : rowAt 161 4 = some (.aload_n 0, 1, 0, 0) := by decide +kernel
theorem r161_5 : rowAt 161 5 = some (.getfield 199, 3, 9, 19) := by decide +kernel
theorem r161_8 : rowAt 161 8 = some (.if_icmp .lt 5, 3, 0, 0) := by decide +kernel
theorem r161_11 : rowAt 161 11 = some (.iconst (-1), 1, 0, 0) := by decide +kernel
theorem r161_12 : rowAt 161 12 = some (.ireturn, 1, 0, 0) := by decide +kernel
theorem r161_13 : rowAt 161 13 = some (.aload_n 0, 1, 0, 0) := by decide +kernel
theorem r161_14 : rowAt 161 14 = some (.getfield 65, 3, 9, 29) := by decide +kernel
theorem r161_17 : rowAt 161 17 = some (.aload_n 0, 1, 0, 0) := by decide +kernel
theorem r161_18 : rowAt 161 18 = some (.getfield 223, 3, 9, 20) := by decide +kernel
theorem r161_21 : rowAt 161 21 = some (.baload, 1, 0, 0) := by decide +kernel
theorem r161_22 : rowAt 161 22 = some (.lookupswitch 50 #[(35, 44), (46, 42), (71, 48), (126, 46)], 42, 0, 0) := by decide +kernel
theorem r161_64 : rowAt 161 64 = some (.iconst 0, 1, 0, 0) := by decide +kernel
theorem r161_65 : rowAt 161 65 = some (.ireturn, 1, 0, 0) := by decide +kernel
theorem r161_66 : rowAt 161 66 = some (.iconst 1, 1, 0, 0) := by decide +kernel
theorem r161_67 : rowAt 161 67 = some (.ireturn, 1, 0, 0) := by decide +kernel
theorem r161_68 : rowAt 161 68 = some (.iconst 2, 1, 0, 0) := by decide +kernel
theorem r161_69 : rowAt 161 69 = some (.ireturn, 1, 0, 0) := by decide +kernel
theorem r161_70 : rowAt 161 70 = some (.iconst 3, 1, 0, 0) := by decide +kernel
theorem r161_71 : rowAt 161 71 = some (.ireturn, 1, 0, 0) := by decide +kernel
theorem r161_72 : rowAt 161 72 = some (.iconst (-1), 1, 0, 0) := by decide +kernel
theorem r161_73 : rowAt 161 73 = some (.ireturn, 1, 0, 0) := by decide +kernel
theorem en161 (a0 : Nat) : iniL 161 [.ref a0] = [.ref a0] := ini_n mi161 rfl
theorem b161_0 (d : Nat) (l0 : Nat) (h : aH) (K : Option Value → aH → Prop) : E scr false d 161 0 [.ref l0] [] h K = gI scr h l0 9 20 (fun x1 : Int32 => gI scr h l0 9 19 (fun x2 : Int32 => (if x1 < x2 then gR scr h l0 9 29 (fun x3 : Nat => gI scr h l0 9 20 (fun x4 : Int32 => aB scr h x3 x4 (fun x5 : Int32 => (if x5 = 35 then E scr false d 161 66 [.ref l0] [] h K else (if x5 = 46 then E scr false d 161 64 [.ref l0] [] h K else (if x5 = 71 then E scr false d 161 70 [.ref l0] [] h K else (if x5 = 126 then E scr false d 161 68 [.ref l0] [] h K else E scr false d 161 72 [.ref l0] [] h K))))))) else K (some (.int (-1))) h))) := go (w := (1, [.ref l0], [.ref l0], h)) r161_0 rfl rfl (E_gI r161_1 rfl (fun x1 => go (w := (5, [.ref l0], [.ref l0, .int x1], h)) r161_4 rfl rfl (E_gI r161_5 rfl (fun x2 => E_i2_lt r161_8 rfl (go (w := (14, [.ref l0], [.ref l0], h)) r161_13 rfl rfl (E_gR r161_14 rfl (fun x3 => go (w := (18, [.ref l0], [.ref l0, .ref x3], h)) r161_17 rfl rfl (E_gI r161_18 rfl (fun x4 => E_aB r161_21 (fun x5 => E_lks (pc := 22) [(35, 66), (46, 64), (71, 70), (126, 68)] 72 r161_22 (by decide +kernel) (by decide +kernel) (by decide +kernel) (by decide +kernel))))))) (E_ic r161_11 (v := (-1)) (by decide) (E_ri r161_12 (mq161)))))))
theorem b161_64 (d : Nat) (l0 : Nat) (h : aH) (K : Option Value → aH → Prop) : E scr false d 161 64 [.ref l0] [] h K = K (some (.int 0)) h := E_ic r161_64 (v := 0) (by decide) (E_ri r161_65 (mq161))
theorem b161_66 (d : Nat) (l0 : Nat) (h : aH) (K : Option Value → aH → Prop) : E scr false d 161 66 [.ref l0] [] h K = K (some (.int 1)) h := E_ic r161_66 (v := 1) (by decide) (E_ri r161_67 (mq161))
theorem b161_68 (d : Nat) (l0 : Nat) (h : aH) (K : Option Value → aH → Prop) : E scr false d 161 68 [.ref l0] [] h K = K (some (.int 2)) h := E_ic r161_68 (v := 2) (by decide) (E_ri r161_69 (mq161))
theorem b161_70 (d : Nat) (l0 : Nat) (h : aH) (K : Option Value → aH → Prop) : E scr false d 161 70 [.ref l0] [] h K = K (some (.int 3)) h := E_ic r161_70 (v := 3) (by decide) (E_ri r161_71 (mq161))
theorem b161_72 (d : Nat) (l0 : Nat) (h : aH) (K : Option Value → aH → Prop) : E scr false d 161 72 [.ref l0] [] h K = K (some (.int (-1))) h := E_ic r161_72 (v := (-1)) (by decide) (E_ri r161_73 (mq161))
-- 162 SecondNearestModel.signs()V
theorem mq162 : mRet 162 = none := by decide +kernel
theorem r162_0 : rowAt 162 0 = some (.aload_n 0, 1, 0, 0) := by decide +kernel
theorem r162_1 : rowAt 162 1 = some (.invokevirtual 243, 3, 144, 0) := by decide +kernel
theorem r162_4 : rowAt 162 4 = some (.iconst 0, 1, 0, 0) := by decide +kernel
theorem r162_5 : rowAt 162 5 = some (.istore_n 1, 1, 0, 0) := by decide +kernel
theorem r162_6 : rowAt 162 6 = some (.aload_n 0, 1, 0, 0) := by decide +kernel
theorem r162_7 : rowAt 162 7 = some (.getfield 220, 3, 9, 21) := by decide +kernel
theorem r162_10 : rowAt 162 10 = some (.ifCond .ne 65, 3, 0, 0) := by decide +kernel
theorem r162_13 : rowAt 162 13 = some (.aload_n 0, 1, 0, 0) := by decide +kernel
theorem r162_14 : rowAt 162 14 = some (.invokevirtual 317, 3, 161, 0) := by decide +kernel
theorem r162_17 : rowAt 162 17 = some (.iconst (-1), 1, 0, 0) := by decide +kernel
theorem r162_18 : rowAt 162 18 = some (.if_icmp .eq 57, 3, 0, 0) := by decide +kernel
theorem r162_21 : rowAt 162 21 = some (.iload_n 1, 1, 0, 0) := by decide +kernel
theorem r162_22 : rowAt 162 22 = some (.bipush 12, 2, 0, 0) := by decide +kernel
theorem r162_24 : rowAt 162 24 = some (.if_icmp .ne 15, 3, 0, 0) := by decide +kernel
theorem r162_27 : rowAt 162 27 = some (.aload_n 0, 1, 0, 0) := by decide +kernel
theorem r162_28 : rowAt 162 28 = some (.iconst 5, 1, 0, 0) := by decide +kernel
theorem r162_29 : rowAt 162 29 = some (.aload_n 0, 1, 0, 0) := by decide +kernel
theorem r162_30 : rowAt 162 30 = some (.getfield 223, 3, 9, 20) := by decide +kernel
theorem r162_33 : rowAt 162 33 = some (.invokevirtual 259, 3, 142, 0) := by decide +kernel
theorem r162_36 : rowAt 162 36 = some (.goto (-30), 3, 0, 0) := by decide +kernel
theorem r162_39 : rowAt 162 39 = some (.aload_n 0, 1, 0, 0) := by decide +kernel
theorem r162_40 : rowAt 162 40 = some (.getfield 25, 3, 9, 6) := by decide +kernel
theorem r162_43 : rowAt 162 43 = some (.bipush 12, 2, 0, 0) := by decide +kernel
theorem r162_45 : rowAt 162 45 = some (.aload_n 0, 1, 0, 0) := by decide +kernel
theorem r162_46 : rowAt 162 46 = some (.getfield 22, 3, 9, 5) := by decide +kernel
theorem r162_49 : rowAt 162 49 = some (.iconst 1, 1, 0, 0) := by decide +kernel
theorem r162_50 : rowAt 162 50 = some (.iaload, 1, 0, 0) := by decide +kernel
theorem r162_51 : rowAt 162 51 = some (.imul, 1, 0, 0) := by decide +kernel
theorem r162_52 : rowAt 162 52 = some (.iload_n 1, 1, 0, 0) := by decide +kernel
theorem r162_53 : rowAt 162 53 = some (.iadd, 1, 0, 0) := by decide +kernel
theorem r162_54 : rowAt 162 54 = some (.aload_n 0, 1, 0, 0) := by decide +kernel
theorem r162_55 : rowAt 162 55 = some (.invokevirtual 317, 3, 161, 0) := by decide +kernel
theorem r162_58 : rowAt 162 58 = some (.iastore, 1, 0, 0) := by decide +kernel
theorem r162_59 : rowAt 162 59 = some (.iinc 1 1, 3, 0, 0) := by decide +kernel
theorem r162_62 : rowAt 162 62 = some (.aload_n 0, 1, 0, 0) := by decide +kernel
theorem r162_63 : rowAt 162 63 = some (.dup, 1, 0, 0) := by decide +kernel
theorem r162_64 : rowAt 162 64 = some (.getfield 223, 3, 9, 20) := by decide +kernel
theorem r162_67 : rowAt 162 67 = some (.iconst 1, 1, 0, 0) := by decide +kernel
theorem r162_68 : rowAt 162 68 = some (.iadd, 1, 0, 0) := by decide +kernel
theorem r162_69 : rowAt 162 69 = some (.putfield 223, 3, 9, 20) := by decide +kernel
theorem r162_72 : rowAt 162 72 = some (.goto (-66), 3, 0, 0) := by decide +kernel
theorem r162_75 : rowAt 162 75 = some (.aload_n 0, 1, 0, 0) := by decide +kernel
theorem r162_76 : rowAt 162 76 = some (.getfield 220, 3, 9, 21) := by decide +kernel
theorem r162_79 : rowAt 162 79 = some (.ifCond .ne 16, 3, 0, 0) := by decide +kernel
theorem r162_82 : rowAt 162 82 = some (.iload_n 1, 1, 0, 0) := by decide +kernel
theorem r162_83 : rowAt 162 83 = some (.ifCond .ne 12, 3, 0, 0) := by decide +kernel
theorem r162_86 : rowAt 162 86 = some (.aload_n 0, 1, 0, 0) := by decide +kernel
theorem r162_87 : rowAt 162 87 = some (.iconst 0, 1, 0, 0) := by decide +kernel
theorem r162_88 : rowAt 162 88 = some (.aload_n 0, 1, 0, 0) := by decide +kernel
theorem r162_89 : rowAt 162 89 = some (.getfield 223, 3, 9, 20) := by decide +kernel
theorem r162_92 : rowAt 162 92 = some (.invokevirtual 259, 3, 142, 0) := by decide +kernel
theorem r162_95 : rowAt 162 95 = some (.aload_n 0, 1, 0, 0) := by decide +kernel
theorem r162_96 : rowAt 162 96 = some (.getfield 220, 3, 9, 21) := by decide +kernel
theorem r162_99 : rowAt 162 99 = some (.ifCond .ne 33, 3, 0, 0) := by decide +kernel
theorem r162_102 : rowAt 162 102 = some (.aload_n 0, 1, 0, 0) := by decide +kernel
theorem r162_103 : rowAt 162 103 = some (.getfield 22, 3, 9, 5) := by decide +kernel
theorem r162_106 : rowAt 162 106 = some (.iconst 1, 1, 0, 0) := by decide +kernel
theorem r162_107 : rowAt 162 107 = some (.iaload, 1, 0, 0) := by decide +kernel
theorem r162_108 : rowAt 162 108 = some (.ifCond .le 24, 3, 0, 0) := by decide +kernel
theorem r162_111 : rowAt 162 111 = some (.iload_n 1, 1, 0, 0) := by decide +kernel
theorem r162_112 : rowAt 162 112 = some (.aload_n 0, 1, 0, 0) := by decide +kernel
theorem r162_113 : rowAt 162 113 = some (.getfield 22, 3, 9, 5) := by decide +kernel
theorem r162_116 : rowAt 162 116 = some (.iconst 0, 1, 0, 0) := by decide +kernel
theorem r162_117 : rowAt 162 117 = some (.iaload, 1, 0, 0) := by decide +kernel
theorem r162_118 : rowAt 162 118 = some (.if_icmp .eq 14, 3, 0, 0) := by decide +kernel
theorem r162_121 : rowAt 162 121 = some (.aload_n 0, 1, 0, 0) := by decide +kernel
theorem r162_122 : rowAt 162 122 = some (.iconst 5, 1, 0, 0) := by decide +kernel
theorem r162_123 : rowAt 162 123 = some (.aload_n 0, 1, 0, 0) := by decide +kernel
theorem r162_124 : rowAt 162 124 = some (.getfield 223, 3, 9, 20) := by decide +kernel
theorem r162_127 : rowAt 162 127 = some (.iconst 1, 1, 0, 0) := by decide +kernel
theorem r162_128 : rowAt 162 128 = some (.isub, 1, 0, 0) := by decide +kernel
theorem r162_129 : rowAt 162 129 = some (.invokevirtual 259, 3, 142, 0) := by decide +kernel
theorem r162_132 : rowAt 162 132 = some (.aload_n 0, 1, 0, 0) := by decide +kernel
theorem r162_133 : rowAt 162 133 = some (.getfield 22, 3, 9, 5) := by decide +kernel
theorem r162_136 : rowAt 162 136 = some (.iconst 0, 1, 0, 0) := by decide +kernel
theorem r162_137 : rowAt 162 137 = some (.iload_n 1, 1, 0, 0) := by decide +kernel
theorem r162_138 : rowAt 162 138 = some (.iastore, 1, 0, 0) := by decide +kernel
theorem r162_139 : rowAt 162 139 = some (.aload_n 0, 1, 0, 0) := by decide +kernel
theorem r162_140 : rowAt 162 140 = some (.getfield 22, 3, 9, 5) := by decide +kernel
theorem r162_143 : rowAt 162 143 = some (.iconst 1, 1, 0, 0) := by decide +kernel
theorem r162_144 : rowAt 162 144 = some (.dup2, 1, 0, 0) := by decide +kernel
theorem r162_145 : rowAt 162 145 = some (.iaload, 1, 0, 0) := by decide +kernel
theorem r162_146 : rowAt 162 146 = some (.iconst 1, 1, 0, 0) := by decide +kernel
theorem r162_147 : rowAt 162 147 = some (.iadd, 1, 0, 0) := by decide +kernel
theorem r162_148 : rowAt 162 148 = some (.iastore, 1, 0, 0) := by decide +kernel
theorem r162_149 : rowAt 162 149 = some (.return_, 1, 0, 0) := by decide +kernel
theorem en162 (a0 : Nat) : iniL 162 [.ref a0] = [.ref a0, .null] := ini_n mi162 rfl
theorem b162_0 (d : Nat) (l0 : Nat) (h : aH) (K : Option Value → aH → Prop) : E scr false (d + 1) 162 0 [.ref l0, .null] [] h K = vV scr d 144 [.ref l0] h (fun h1 : aH => E scr false (d + 1) 162 6 [.ref l0, .int 0] [] h1 K) := go (w := (1, [.ref l0, .null], [.ref l0], h)) r162_0 rfl rfl (E_vV r162_1 (As := [.ref l0]) (rest := []) (cut_n mi144.1 rfl rfl) (rm8_n mi144.2.1 (Nat.le_of_ble_eq_true rfl) (Nat.le_of_ble_eq_true rfl)) mi144.2.2 (fun h1 => E_ic r162_4 (v := 0) (by decide) (go (w := (6, [.ref l0, .int 0], [], h1)) r162_5 rfl rfl (rfl))))
theorem b162_6 (d : Nat) (l0 : Nat) (l1 : Int32) (h : aH) (K : Option Value → aH → Prop) : E scr false (d + 1) 162 6 [.ref l0, .int l1] [] h K = gI scr h l0 9 21 (fun x1 : Int32 => (if x1 = 0 then vI scr d 161 [.ref l0] h (fun (x3 : Int32) (h2 : aH) => (if x3 = (-1) then E scr false (d + 1) 162 75 [.ref l0, .int l1] [] h2 K else (if l1 = 12 then gI scr h2 l0 9 20 (fun x12 : Int32 => vV scr d 142 [.ref l0, .int 5, .int x12] h2 (fun h13 : aH => E scr false (d + 1) 162 6 [.ref l0, .int l1] [] h13 K)) else gR scr h2 l0 9 6 (fun x4 : Nat => gR scr h2 l0 9 5 (fun x5 : Nat => aI scr h2 x5 1 (fun x6 : Int32 => vI scr d 161 [.ref l0] h2 (fun (x8 : Int32) (h7 : aH) => wI h7 x4 (((12 * x6) + l1)) x8 (fun h9 : aH => gI scr h9 l0 9 20 (fun x10 : Int32 => pF h9 l0 9 20 (.int (x10 + 1)) (fun h11 : aH => E scr false (d + 1) 162 6 [.ref l0, .int (l1 + 1)] [] h11 K)))))))))) else E scr false (d + 1) 162 75 [.ref l0, .int l1] [] h K)) := go (w := (7, [.ref l0, .int l1], [.ref l0], h)) r162_6 rfl rfl (E_gI r162_7 rfl (fun x1 => E_i1_ne r162_10 rfl (rfl) (go (w := (14, [.ref l0, .int l1], [.ref l0], h)) r162_13 rfl rfl (E_vI r162_14 (As := [.ref l0]) (rest := []) (cut_n mi161.1 rfl rfl) (rm8_n mi161.2.1 (Nat.le_of_ble_eq_true rfl) (Nat.le_of_ble_eq_true rfl)) mi161.2.2 (fun x3 h2 => E_ic r162_17 (v := (-1)) (by decide) (E_i2_eq r162_18 rfl (rfl) (go (w := (22, [.ref l0, .int l1], [.int l1], h2)) r162_21 rfl rfl (E_bip r162_22 (v := 12) (by decide) (E_i2_ne r162_24 rfl (go (w := (40, [.ref l0, .int l1], [.ref l0], h2)) r162_39 rfl rfl (E_gR r162_40 rfl (fun x4 => E_bip r162_43 (v := 12) (by decide) (go (w := (46, [.ref l0, .int l1], [.ref l0, .int 12, .ref x4], h2)) r162_45 rfl rfl (E_gR r162_46 rfl (fun x5 => E_ic r162_49 (v := 1) (by decide) (E_aI r162_50 (fun x6 => go (w := (52, [.ref l0, .int l1], [.int (12 * x6), .ref x4], h2)) r162_51 rfl rfl (go (w := (53, [.ref l0, .int l1], [.int l1, .int (12 * x6), .ref x4], h2)) r162_52 rfl rfl (go (w := (54, [.ref l0, .int l1], [.int ((12 * x6) + l1), .ref x4], h2)) r162_53 rfl rfl (go (w := (55, [.ref l0, .int l1], [.ref l0, .int ((12 * x6) + l1), .ref x4], h2)) r162_54 rfl rfl (E_vI r162_55 (As := [.ref l0]) (rest := [.int ((12 * x6) + l1), .ref x4]) (cut_n mi161.1 rfl rfl) (rm8_n mi161.2.1 (Nat.le_of_ble_eq_true rfl) (Nat.le_of_ble_eq_true rfl)) mi161.2.2 (fun x8 h7 => E_wI r162_58 (fun h9 => E_inc r162_59 (c := 1) rfl (by decide) (L' := [.ref l0, .int (l1 + 1)]) rfl (go (w := (63, [.ref l0, .int (l1 + 1)], [.ref l0], h9)) r162_62 rfl rfl (go (w := (64, [.ref l0, .int (l1 + 1)], [.ref l0, .ref l0], h9)) r162_63 rfl rfl (E_gI r162_64 rfl (fun x10 => E_ic r162_67 (v := 1) (by decide) (go (w := (69, [.ref l0, .int (l1 + 1)], [.int (x10 + 1), .ref l0], h9)) r162_68 rfl rfl (E_pI r162_69 ⟨rfl, rfl⟩ (fun h11 => E_gt r162_72 rfl (rfl)))))))))))))))))))))) (go (w := (28, [.ref l0, .int l1], [.ref l0], h2)) r162_27 rfl rfl (E_ic r162_28 (v := 5) (by decide) (go (w := (30, [.ref l0, .int l1], [.ref l0, .int 5, .ref l0], h2)) r162_29 rfl rfl (E_gI r162_30 rfl (fun x12 => E_vV r162_33 (As := [.ref l0, .int 5, .int x12]) (rest := []) (cut_n mi142.1 rfl rfl) (rm8_n mi142.2.1 (Nat.le_of_ble_eq_true rfl) (Nat.le_of_ble_eq_true rfl)) mi142.2.2 (fun h13 => E_gt r162_36 rfl (rfl))))))))))))))))
theorem b162_75 (d : Nat) (l0 : Nat) (l1 : Int32) (h : aH) (K : Option Value → aH → Prop) : E scr false (d + 1) 162 75 [.ref l0, .int l1] [] h K = gI scr h l0 9 21 (fun x1 : Int32 => (if x1 = 0 then (if l1 = 0 then gI scr h l0 9 20 (fun x2 : Int32 => vV scr d 142 [.ref l0, .int 0, .int x2] h (fun h3 : aH => E scr false (d + 1) 162 95 [.ref l0, .int l1] [] h3 K)) else E scr false (d + 1) 162 95 [.ref l0, .int l1] [] h K) else E scr false (d + 1) 162 95 [.ref l0, .int l1] [] h K)) := go (w := (76, [.ref l0, .int l1], [.ref l0], h)) r162_75 rfl rfl (E_gI r162_76 rfl (fun x1 => E_i1_ne r162_79 rfl (rfl) (go (w := (83, [.ref l0, .int l1], [.int l1], h)) r162_82 rfl rfl (E_i1_ne r162_83 rfl (rfl) (go (w := (87, [.ref l0, .int l1], [.ref l0], h)) r162_86 rfl rfl (E_ic r162_87 (v := 0) (by decide) (go (w := (89, [.ref l0, .int l1], [.ref l0, .int 0, .ref l0], h)) r162_88 rfl rfl (E_gI r162_89 rfl (fun x2 => E_vV r162_92 (As := [.ref l0, .int 0, .int x2]) (rest := []) (cut_n mi142.1 rfl rfl) (rm8_n mi142.2.1 (Nat.le_of_ble_eq_true rfl) (Nat.le_of_ble_eq_true rfl)) mi142.2.2 (fun h3 => rfl))))))))))
theorem b162_95 (d : Nat) (l0 : Nat) (l1 : Int32) (h : aH) (K : Option Value → aH → Prop) : E scr false (d + 1) 162 95 [.ref l0, .int l1] [] h K = gI scr h l0 9 21 (fun x1 : Int32 => (if x1 = 0 then gR scr h l0 9 5 (fun x2 : Nat => aI scr h x2 1 (fun x3 : Int32 => (if x3 ≤ 0 then E scr false (d + 1) 162 132 [.ref l0, .int l1] [] h K else gR scr h l0 9 5 (fun x4 : Nat => aI scr h x4 0 (fun x5 : Int32 => (if l1 = x5 then E scr false (d + 1) 162 132 [.ref l0, .int l1] [] h K else gI scr h l0 9 20 (fun x6 : Int32 => vV scr d 142 [.ref l0, .int 5, .int (x6 - 1)] h (fun h7 : aH => E scr false (d + 1) 162 132 [.ref l0, .int l1] [] h7 K)))))))) else E scr false (d + 1) 162 132 [.ref l0, .int l1] [] h K)) := go (w := (96, [.ref l0, .int l1], [.ref l0], h)) r162_95 rfl rfl (E_gI r162_96 rfl (fun x1 => E_i1_ne r162_99 rfl (rfl) (go (w := (103, [.ref l0, .int l1], [.ref l0], h)) r162_102 rfl rfl (E_gR r162_103 rfl (fun x2 => E_ic r162_106 (v := 1) (by decide) (E_aI r162_107 (fun x3 => E_i1_le r162_108 rfl (rfl) (go (w := (112, [.ref l0, .int l1], [.int l1], h)) r162_111 rfl rfl (go (w := (113, [.ref l0, .int l1], [.ref l0, .int l1], h)) r162_112 rfl rfl (E_gR r162_113 rfl (fun x4 => E_ic r162_116 (v := 0) (by decide) (E_aI r162_117 (fun x5 => E_i2_eq r162_118 rfl (rfl) (go (w := (122, [.ref l0, .int l1], [.ref l0], h)) r162_121 rfl rfl (E_ic r162_122 (v := 5) (by decide) (go (w := (124, [.ref l0, .int l1], [.ref l0, .int 5, .ref l0], h)) r162_123 rfl rfl (E_gI r162_124 rfl (fun x6 => E_ic r162_127 (v := 1) (by decide) (go (w := (129, [.ref l0, .int l1], [.int (x6 - 1), .int 5, .ref l0], h)) r162_128 rfl rfl (E_vV r162_129 (As := [.ref l0, .int 5, .int (x6 - 1)]) (rest := []) (cut_n mi142.1 rfl rfl) (rm8_n mi142.2.1 (Nat.le_of_ble_eq_true rfl) (Nat.le_of_ble_eq_true rfl)) mi142.2.2 (fun h7 => rfl)))))))))))))))))))))
theorem b162_132 (d : Nat) (l0 : Nat) (l1 : Int32) (h : aH) (K : Option Value → aH → Prop) : E scr false d 162 132 [.ref l0, .int l1] [] h K = gR scr h l0 9 5 (fun x1 : Nat => wI h x1 0 l1 (fun h2 : aH => gR scr h2 l0 9 5 (fun x3 : Nat => aI scr h2 x3 1 (fun x4 : Int32 => wI h2 x3 1 ((x4 + 1)) (fun h5 : aH => K none h5))))) := go (w := (133, [.ref l0, .int l1], [.ref l0], h)) r162_132 rfl rfl (E_gR r162_133 rfl (fun x1 => E_ic r162_136 (v := 0) (by decide) (go (w := (138, [.ref l0, .int l1], [.int l1, .int 0, .ref x1], h)) r162_137 rfl rfl (E_wI r162_138 (fun h2 => go (w := (140, [.ref l0, .int l1], [.ref l0], h2)) r162_139 rfl rfl (E_gR r162_140 rfl (fun x3 => E_ic r162_143 (v := 1) (by decide) (go (w := (145, [.ref l0, .int l1], [.int 1, .ref x3, .int 1, .ref x3], h2)) r162_144 rfl rfl (E_aI r162_145 (fun x4 => E_ic r162_146 (v := 1) (by decide) (go (w := (148, [.ref l0, .int l1], [.int (x4 + 1), .int 1, .ref x3], h2)) r162_147 rfl rfl (E_wI r162_148 (fun h5 => E_vret r162_149 (mq162))))))))))))))
-- 163 SecondNearestModel.spot()I
theorem mq163 : mRet 163 = (some .int) := by decide +kernel
theorem r163_0 : rowAt 163 0 = some (.aload_n 0, 1, 0, 0) := by decide +kernel
theorem r163_1 : rowAt 163 1 = some (.invokevirtual 243, 3, 144, 0) := by decide +kernel
theorem r163_4 : rowAt 163 4 = some (.aload_n 0, 1, 0, 0) := by decide +kernel
theorem r163_5 : rowAt 163 5 = some (.getfield 223, 3, 9, 20) := by decide +kernel
theorem r163_8 : rowAt 163 8 = some (.istore_n 1, 1, 0, 0) := by decide +kernel
theorem r163_9 : rowAt 163 9 = some (.aload_n 0, 1, 0, 0) := by decide +kernel
theorem r163_10 : rowAt 163 10 = some (.iconst 0, 1, 0, 0) := by decide +kernel
theorem r163_11 : rowAt 163 11 = some (.bipush 11, 2, 0, 0) := by decide +kernel
theorem r163_13 : rowAt 163 13 = some (.invokevirtual 320, 3, 160, 0) := by decide +kernel
theorem r163_16 : rowAt 163 16 = some (.istore_n 2, 1, 0, 0) := by decide +kernel
theorem r163_17 : rowAt 163 17 = some (.aload_n 0, 1, 0, 0) := by decide +kernel
theorem r163_18 : rowAt 163 18 = some (.iconst 0, 1, 0, 0) := by decide +kernel
theorem r163_19 : rowAt 163 19 = some (.bipush 11, 2, 0, 0) := by decide +kernel
theorem r163_21 : rowAt 163 21 = some (.invokevirtual 320, 3, 160, 0) := by decide +kernel
theorem r163_24 : rowAt 163 24 = some (.istore_n 3, 1, 0, 0) := by decide +kernel
theorem r163_25 : rowAt 163 25 = some (.bipush 12, 2, 0, 0) := by decide +kernel
theorem r163_27 : rowAt 163 27 = some (.iload_n 3, 1, 0, 0) := by decide +kernel
theorem r163_28 : rowAt 163 28 = some (.imul, 1, 0, 0) := by decide +kernel
theorem r163_29 : rowAt 163 29 = some (.iload_n 2, 1, 0, 0) := by decide +kernel
theorem r163_30 : rowAt 163 30 = some (.iadd, 1, 0, 0) := by decide +kernel
theorem r163_31 : rowAt 163 31 = some (.istore 4, 2, 0, 0) := by decide +kernel
theorem r163_33 : rowAt 163 33 = some (.iload_n 2, 1, 0, 0) := by decide +kernel
theorem r163_34 : rowAt 163 34 = some (.aload_n 0, 1, 0, 0) := by decide +kernel
theorem r163_35 : rowAt 163 35 = some (.getfield 22, 3, 9, 5) := by decide +kernel
theorem r163_38 : rowAt 163 38 = some (.iconst 0, 1, 0, 0) := by decide +kernel
theorem r163_39 : rowAt 163 39 = some (.iaload, 1, 0, 0) := by decide +kernel
theorem r163_40 : rowAt 163 40 = some (.if_icmp .ge 30, 3, 0, 0) := by decide +kernel
theorem r163_43 : rowAt 163 43 = some (.iload_n 3, 1, 0, 0) := by decide +kernel
theorem r163_44 : rowAt 163 44 = some (.aload_n 0, 1, 0, 0) := by decide +kernel
theorem r163_45 : rowAt 163 45 = some (.getfield 22, 3, 9, 5) := by decide +kernel
theorem r163_48 : rowAt 163 48 = some (.iconst 1, 1, 0, 0) := by decide +kernel
theorem r163_49 : rowAt 163 49 = some (.iaload, 1, 0, 0) := by decide +kernel
theorem r163_50 : rowAt 163 50 = some (.if_icmp .ge 20, 3, 0, 0) := by decide +kernel
theorem r163_53 : rowAt 163 53 = some (.aload_n 0, 1, 0, 0) := by decide +kernel
theorem r163_54 : rowAt 163 54 = some (.getfield 25, 3, 9, 6) := by decide +kernel
theorem r163_57 : rowAt 163 57 = some (.iload 4, 2, 0, 0) := by decide +kernel
theorem r163_59 : rowAt 163 59 = some (.iaload, 1, 0, 0) := by decide +kernel
theorem r163_60 : rowAt 163 60 = some (.invokestatic 163, 3, 129, 1) := by decide +kernel
theorem r163_63 : rowAt 163 63 = some (.ifCond .eq 7, 3, 0, 0) := by decide +kernel
theorem r163_66 : rowAt 163 66 = some (.iconst 1, 1, 0, 0) := by decide +kernel
theorem r163_67 : rowAt 163 67 = some (.goto 4, 3, 0, 0) := by decide +kernel
theorem r163_70 : rowAt 163 70 = some (.iconst 0, 1, 0, 0) := by decide +kernel
theorem r163_71 : rowAt 163 71 = some (.istore 5, 2, 0, 0) := by decide +kernel
theorem r163_73 : rowAt 163 73 = some (.iconst 0, 1, 0, 0) := by decide +kernel
theorem r163_74 : rowAt 163 74 = some (.istore 6, 2, 0, 0) := by decide +kernel
theorem r163_76 : rowAt 163 76 = some (.iload 6, 2, 0, 0) := by decide +kernel
theorem r163_78 : rowAt 163 78 = some (.bipush 14, 2, 0, 0) := by decide +kernel
theorem r163_80 : rowAt 163 80 = some (.if_icmp .ge 85, 3, 0, 0) := by decide +kernel
theorem r163_83 : rowAt 163 83 = some (.iload 6, 2, 0, 0) := by decide +kernel
theorem r163_85 : rowAt 163 85 = some (.bipush 12, 2, 0, 0) := by decide +kernel
theorem r163_87 : rowAt 163 87 = some (.if_icmp .ge 22, 3, 0, 0) := by decide +kernel
theorem r163_90 : rowAt 163 90 = some (.iload 6, 2, 0, 0) := by decide +kernel
theorem r163_92 : rowAt 163 92 = some (.aload_n 0, 1, 0, 0) := by decide +kernel
theorem r163_93 : rowAt 163 93 = some (.getfield 22, 3, 9, 5) := by decide +kernel
theorem r163_96 : rowAt 163 96 = some (.iconst 2, 1, 0, 0) := by decide +kernel
theorem r163_97 : rowAt 163 97 = some (.iaload, 1, 0, 0) := by decide +kernel
theorem r163_98 : rowAt 163 98 = some (.if_icmp .ge 7, 3, 0, 0) := by decide +kernel
theorem r163_101 : rowAt 163 101 = some (.iconst 1, 1, 0, 0) := by decide +kernel
theorem r163_102 : rowAt 163 102 = some (.goto 26, 3, 0, 0) := by decide +kernel
theorem r163_105 : rowAt 163 105 = some (.iconst 0, 1, 0, 0) := by decide +kernel
theorem r163_106 : rowAt 163 106 = some (.goto 22, 3, 0, 0) := by decide +kernel
theorem r163_109 : rowAt 163 109 = some (.iload 6, 2, 0, 0) := by decide +kernel
theorem r163_111 : rowAt 163 111 = some (.bipush 12, 2, 0, 0) := by decide +kernel
theorem r163_113 : rowAt 163 113 = some (.isub, 1, 0, 0) := by decide +kernel
theorem r163_114 : rowAt 163 114 = some (.aload_n 0, 1, 0, 0) := by decide +kernel
theorem r163_115 : rowAt 163 115 = some (.getfield 22, 3, 9, 5) := by decide +kernel
theorem r163_118 : rowAt 163 118 = some (.iconst 3, 1, 0, 0) := by decide +kernel
theorem r163_119 : rowAt 163 119 = some (.iaload, 1, 0, 0) := by decide +kernel
theorem r163_120 : rowAt 163 120 = some (.if_icmp .ge 7, 3, 0, 0) := by decide +kernel
theorem r163_123 : rowAt 163 123 = some (.iconst 1, 1, 0, 0) := by decide +kernel
theorem r163_124 : rowAt 163 124 = some (.goto 4, 3, 0, 0) := by decide +kernel
theorem r163_127 : rowAt 163 127 = some (.iconst 0, 1, 0, 0) := by decide +kernel
theorem r163_128 : rowAt 163 128 = some (.istore 7, 2, 0, 0) := by decide +kernel
theorem r163_130 : rowAt 163 130 = some (.iload 5, 2, 0, 0) := by decide +kernel
theorem r163_132 : rowAt 163 132 = some (.ifCond .eq 24, 3, 0, 0) := by decide +kernel
theorem r163_135 : rowAt 163 135 = some (.iload 7, 2, 0, 0) := by decide +kernel
theorem r163_137 : rowAt 163 137 = some (.ifCond .eq 15, 3, 0, 0) := by decide +kernel
theorem r163_140 : rowAt 163 140 = some (.aload_n 0, 1, 0, 0) := by decide +kernel
theorem r163_141 : rowAt 163 141 = some (.getfield 34, 3, 9, 9) := by decide +kernel
theorem r163_144 : rowAt 163 144 = some (.iload 6, 2, 0, 0) := by decide +kernel
theorem r163_146 : rowAt 163 146 = some (.iaload, 1, 0, 0) := by decide +kernel
theorem r163_147 : rowAt 163 147 = some (.iload 4, 2, 0, 0) := by decide +kernel
theorem r163_149 : rowAt 163 149 = some (.if_icmp .eq 7, 3, 0, 0) := by decide +kernel
theorem r163_152 : rowAt 163 152 = some (.iconst 1, 1, 0, 0) := by decide +kernel
theorem r163_153 : rowAt 163 153 = some (.goto 4, 3, 0, 0) := by decide +kernel
theorem r163_156 : rowAt 163 156 = some (.iconst 0, 1, 0, 0) := by decide +kernel
theorem r163_157 : rowAt 163 157 = some (.istore 5, 2, 0, 0) := by decide +kernel
theorem r163_159 : rowAt 163 159 = some (.iinc 6 1, 3, 0, 0) := by decide +kernel
theorem r163_162 : rowAt 163 162 = some (.goto (-86), 3, 0, 0) := by decide +kernel
theorem r163_165 : rowAt 163 165 = some (.aload_n 0, 1, 0, 0) := by decide +kernel
theorem r163_166 : rowAt 163 166 = some (.getfield 220, 3, 9, 21) := by decide +kernel
theorem r163_169 : rowAt 163 169 = some (.ifCond .ne 14, 3, 0, 0) := by decide +kernel
theorem r163_172 : rowAt 163 172 = some (.iload 5, 2, 0, 0) := by decide +kernel
theorem r163_174 : rowAt 163 174 = some (.ifCond .ne 9, 3, 0, 0) := by decide +kernel
theorem r163_177 : rowAt 163 177 = some (.aload_n 0, 1, 0, 0) := by decide +kernel
theorem r163_178 : rowAt 163 178 = some (.iconst 5, 1, 0, 0) := by decide +kernel
theorem r163_179 : rowAt 163 179 = some (.iload_n 1, 1, 0, 0) := by decide +kernel
theorem r163_180 : rowAt 163 180 = some (.invokevirtual 259, 3, 142, 0) := by decide +kernel
theorem r163_183 : rowAt 163 183 = some (.iload 4, 2, 0, 0) := by decide +kernel
theorem r163_185 : rowAt 163 185 = some (.ireturn, 1, 0, 0) := by decide +kernel
theorem en163 (a0 : Nat) : iniL 163 [.ref a0] = [.ref a0, .null, .null, .null, .null, .null, .null, .null] := ini_n mi163 rfl
theorem b163_0 (d : Nat) (l0 : Nat) (h : aH) (K : Option Value → aH → Prop) : E scr false (d + 1) 163 0 [.ref l0, .null, .null, .null, .null, .null, .null, .null] [] h K = vV scr d 144 [.ref l0] h (fun h1 : aH => gI scr h1 l0 9 20 (fun x3 : Int32 => vI scr d 160 [.ref l0, .int 0, .int 11] h1 (fun (x5 : Int32) (h4 : aH) => vI scr d 160 [.ref l0, .int 0, .int 11] h4 (fun (x7 : Int32) (h6 : aH) => gR scr h6 l0 9 5 (fun x8 : Nat => aI scr h6 x8 0 (fun x9 : Int32 => (if x9 ≤ x5 then E scr false (d + 1) 163 70 [.ref l0, .int x3, .int x5, .int x7, .int ((12 * x7) + x5), .null, .null, .null] [] h6 K else gR scr h6 l0 9 5 (fun x10 : Nat => aI scr h6 x10 1 (fun x11 : Int32 => (if x11 ≤ x7 then E scr false (d + 1) 163 70 [.ref l0, .int x3, .int x5, .int x7, .int ((12 * x7) + x5), .null, .null, .null] [] h6 K else gR scr h6 l0 9 6 (fun x12 : Nat => aI scr h6 x12 (((12 * x7) + x5)) (fun x13 : Int32 => sI scr d 129 [.int x13] h6 (fun (x15 : Int32) (h14 : aH) => (if x15 = 0 then E scr false (d + 1) 163 70 [.ref l0, .int x3, .int x5, .int x7, .int ((12 * x7) + x5), .null, .null, .null] [] h14 K else E scr false (d + 1) 163 71 [.ref l0, .int x3, .int x5, .int x7, .int ((12 * x7) + x5), .null, .null, .null] [.int 1] h14 K)))))))))))))) := go (w := (1, [.ref l0, .null, .null, .null, .null, .null, .null, .null], [.ref l0], h)) r163_0 rfl rfl (E_vV r163_1 (As := [.ref l0]) (rest := []) (cut_n mi144.1 rfl rfl) (rm8_n mi144.2.1 (Nat.le_of_ble_eq_true rfl) (Nat.le_of_ble_eq_true rfl)) mi144.2.2 (fun h1 => go (w := (5, [.ref l0, .null, .null, .null, .null, .null, .null, .null], [.ref l0], h1)) r163_4 rfl rfl (E_gI r163_5 rfl (fun x3 => go (w := (9, [.ref l0, .int x3, .null, .null, .null, .null, .null, .null], [], h1)) r163_8 rfl rfl (go (w := (10, [.ref l0, .int x3, .null, .null, .null, .null, .null, .null], [.ref l0], h1)) r163_9 rfl rfl (E_ic r163_10 (v := 0) (by decide) (E_bip r163_11 (v := 11) (by decide) (E_vI r163_13 (As := [.ref l0, .int 0, .int 11]) (rest := []) (cut_n mi160.1 rfl rfl) (rm8_n mi160.2.1 (Nat.le_of_ble_eq_true rfl) (Nat.le_of_ble_eq_true rfl)) mi160.2.2 (fun x5 h4 => go (w := (17, [.ref l0, .int x3, .int x5, .null, .null, .null, .null, .null], [], h4)) r163_16 rfl rfl (go (w := (18, [.ref l0, .int x3, .int x5, .null, .null, .null, .null, .null], [.ref l0], h4)) r163_17 rfl rfl (E_ic r163_18 (v := 0) (by decide) (E_bip r163_19 (v := 11) (by decide) (E_vI r163_21 (As := [.ref l0, .int 0, .int 11]) (rest := []) (cut_n mi160.1 rfl rfl) (rm8_n mi160.2.1 (Nat.le_of_ble_eq_true rfl) (Nat.le_of_ble_eq_true rfl)) mi160.2.2 (fun x7 h6 => go (w := (25, [.ref l0, .int x3, .int x5, .int x7, .null, .null, .null, .null], [], h6)) r163_24 rfl rfl (E_bip r163_25 (v := 12) (by decide) (go (w := (28, [.ref l0, .int x3, .int x5, .int x7, .null, .null, .null, .null], [.int x7, .int 12], h6)) r163_27 rfl rfl (go (w := (29, [.ref l0, .int x3, .int x5, .int x7, .null, .null, .null, .null], [.int (12 * x7)], h6)) r163_28 rfl rfl (go (w := (30, [.ref l0, .int x3, .int x5, .int x7, .null, .null, .null, .null], [.int x5, .int (12 * x7)], h6)) r163_29 rfl rfl (go (w := (31, [.ref l0, .int x3, .int x5, .int x7, .null, .null, .null, .null], [.int ((12 * x7) + x5)], h6)) r163_30 rfl rfl (go (w := (33, [.ref l0, .int x3, .int x5, .int x7, .int ((12 * x7) + x5), .null, .null, .null], [], h6)) r163_31 rfl rfl (go (w := (34, [.ref l0, .int x3, .int x5, .int x7, .int ((12 * x7) + x5), .null, .null, .null], [.int x5], h6)) r163_33 rfl rfl (go (w := (35, [.ref l0, .int x3, .int x5, .int x7, .int ((12 * x7) + x5), .null, .null, .null], [.ref l0, .int x5], h6)) r163_34 rfl rfl (E_gR r163_35 rfl (fun x8 => E_ic r163_38 (v := 0) (by decide) (E_aI r163_39 (fun x9 => E_i2_ge r163_40 rfl (rfl) (go (w := (44, [.ref l0, .int x3, .int x5, .int x7, .int ((12 * x7) + x5), .null, .null, .null], [.int x7], h6)) r163_43 rfl rfl (go (w := (45, [.ref l0, .int x3, .int x5, .int x7, .int ((12 * x7) + x5), .null, .null, .null], [.ref l0, .int x7], h6)) r163_44 rfl rfl (E_gR r163_45 rfl (fun x10 => E_ic r163_48 (v := 1) (by decide) (E_aI r163_49 (fun x11 => E_i2_ge r163_50 rfl (rfl) (go (w := (54, [.ref l0, .int x3, .int x5, .int x7, .int ((12 * x7) + x5), .null, .null, .null], [.ref l0], h6)) r163_53 rfl rfl (E_gR r163_54 rfl (fun x12 => go (w := (59, [.ref l0, .int x3, .int x5, .int x7, .int ((12 * x7) + x5), .null, .null, .null], [.int ((12 * x7) + x5), .ref x12], h6)) r163_57 rfl rfl (E_aI r163_59 (fun x13 => E_sI r163_60 (As := [.int x13]) (rest := []) (cut_n mi129.1 rfl rfl) (rm8_n mi129.2.1 (Nat.le_of_ble_eq_true rfl) (Nat.le_of_ble_eq_true rfl)) mi129.2.2 (fun x15 h14 => E_i1_eq r163_63 rfl (rfl) (E_ic r163_66 (v := 1) (by decide) (E_gt r163_67 rfl (rfl)))))))))))))))))))))))))))))))))))))))))
theorem b163_70 (d : Nat) (l0 : Nat) (l1 : Int32) (l2 : Int32) (l3 : Int32) (l4 : Int32) (h : aH) (K : Option Value → aH → Prop) : E scr false d 163 70 [.ref l0, .int l1, .int l2, .int l3, .int l4, .null, .null, .null] [] h K = E scr false d 163 71 [.ref l0, .int l1, .int l2, .int l3, .int l4, .null, .null, .null] [.int 0] h K := E_ic r163_70 (v := 0) (by decide) (rfl)
theorem b163_71 (d : Nat) (l0 : Nat) (l1 : Int32) (l2 : Int32) (l3 : Int32) (l4 : Int32) (s0 : Int32) (h : aH) (K : Option Value → aH → Prop) : E scr false d 163 71 [.ref l0, .int l1, .int l2, .int l3, .int l4, .null, .null, .null] [.int s0] h K = E scr false d 163 76 [.ref l0, .int l1, .int l2, .int l3, .int l4, .int s0, .int 0, .null] [] h K := go (w := (73, [.ref l0, .int l1, .int l2, .int l3, .int l4, .int s0, .null, .null], [], h)) r163_71 rfl rfl (E_ic r163_73 (v := 0) (by decide) (go (w := (76, [.ref l0, .int l1, .int l2, .int l3, .int l4, .int s0, .int 0, .null], [], h)) r163_74 rfl rfl (rfl)))
theorem b163_76 (d : Nat) (l0 : Nat) (l1 : Int32) (l2 : Int32) (l3 : Int32) (l4 : Int32) (l5 : Int32) (l6 : Int32) (l7 : Value) (h : aH) (K : Option Value → aH → Prop) : E scr false (d + 1) 163 76 [.ref l0, .int l1, .int l2, .int l3, .int l4, .int l5, .int l6, l7] [] h K = (if 14 ≤ l6 then gI scr h l0 9 21 (fun x1 : Int32 => (if x1 = 0 then (if l5 = 0 then vV scr d 142 [.ref l0, .int 5, .int l1] h (fun h2 : aH => K (some (.int l4)) h2) else K (some (.int l4)) h) else K (some (.int l4)) h)) else (if 12 ≤ l6 then gR scr h l0 9 5 (fun x4 : Nat => aI scr h x4 3 (fun x5 : Int32 => (if x5 ≤ (l6 - 12) then E scr false (d + 1) 163 128 [.ref l0, .int l1, .int l2, .int l3, .int l4, .int l5, .int l6, l7] [.int 0] h K else E scr false (d + 1) 163 128 [.ref l0, .int l1, .int l2, .int l3, .int l4, .int l5, .int l6, l7] [.int 1] h K))) else gR scr h l0 9 5 (fun x6 : Nat => aI scr h x6 2 (fun x7 : Int32 => (if x7 ≤ l6 then E scr false (d + 1) 163 128 [.ref l0, .int l1, .int l2, .int l3, .int l4, .int l5, .int l6, l7] [.int 0] h K else E scr false (d + 1) 163 128 [.ref l0, .int l1, .int l2, .int l3, .int l4, .int l5, .int l6, l7] [.int 1] h K))))) := go (w := (78, [.ref l0, .int l1, .int l2, .int l3, .int l4, .int l5, .int l6, l7], [.int l6], h)) r163_76 rfl rfl (E_bip r163_78 (v := 14) (by decide) (E_i2_ge r163_80 rfl (go (w := (166, [.ref l0, .int l1, .int l2, .int l3, .int l4, .int l5, .int l6, l7], [.ref l0], h)) r163_165 rfl rfl (E_gI r163_166 rfl (fun x1 => E_i1_ne r163_169 rfl (go (w := (185, [.ref l0, .int l1, .int l2, .int l3, .int l4, .int l5, .int l6, l7], [.int l4], h)) r163_183 rfl rfl (E_ri r163_185 (mq163))) (go (w := (174, [.ref l0, .int l1, .int l2, .int l3, .int l4, .int l5, .int l6, l7], [.int l5], h)) r163_172 rfl rfl (E_i1_ne r163_174 rfl (go (w := (185, [.ref l0, .int l1, .int l2, .int l3, .int l4, .int l5, .int l6, l7], [.int l4], h)) r163_183 rfl rfl (E_ri r163_185 (mq163))) (go (w := (178, [.ref l0, .int l1, .int l2, .int l3, .int l4, .int l5, .int l6, l7], [.ref l0], h)) r163_177 rfl rfl (E_ic r163_178 (v := 5) (by decide) (go (w := (180, [.ref l0, .int l1, .int l2, .int l3, .int l4, .int l5, .int l6, l7], [.int l1, .int 5, .ref l0], h)) r163_179 rfl rfl (E_vV r163_180 (As := [.ref l0, .int 5, .int l1]) (rest := []) (cut_n mi142.1 rfl rfl) (rm8_n mi142.2.1 (Nat.le_of_ble_eq_true rfl) (Nat.le_of_ble_eq_true rfl)) mi142.2.2 (fun h2 => go (w := (185, [.ref l0, .int l1, .int l2, .int l3, .int l4, .int l5, .int l6, l7], [.int l4], h2)) r163_183 rfl rfl (E_ri r163_185 (mq163)))))))))))) (go (w := (85, [.ref l0, .int l1, .int l2, .int l3, .int l4, .int l5, .int l6, l7], [.int l6], h)) r163_83 rfl rfl (E_bip r163_85 (v := 12) (by decide) (E_i2_ge r163_87 rfl (go (w := (111, [.ref l0, .int l1, .int l2, .int l3, .int l4, .int l5, .int l6, l7], [.int l6], h)) r163_109 rfl rfl (E_bip r163_111 (v := 12) (by decide) (go (w := (114, [.ref l0, .int l1, .int l2, .int l3, .int l4, .int l5, .int l6, l7], [.int (l6 - 12)], h)) r163_113 rfl rfl (go (w := (115, [.ref l0, .int l1, .int l2, .int l3, .int l4, .int l5, .int l6, l7], [.ref l0, .int (l6 - 12)], h)) r163_114 rfl rfl (E_gR r163_115 rfl (fun x4 => E_ic r163_118 (v := 3) (by decide) (E_aI r163_119 (fun x5 => E_i2_ge r163_120 rfl (E_ic r163_127 (v := 0) (by decide) (rfl)) (E_ic r163_123 (v := 1) (by decide) (E_gt r163_124 rfl (rfl))))))))))) (go (w := (92, [.ref l0, .int l1, .int l2, .int l3, .int l4, .int l5, .int l6, l7], [.int l6], h)) r163_90 rfl rfl (go (w := (93, [.ref l0, .int l1, .int l2, .int l3, .int l4, .int l5, .int l6, l7], [.ref l0, .int l6], h)) r163_92 rfl rfl (E_gR r163_93 rfl (fun x6 => E_ic r163_96 (v := 2) (by decide) (E_aI r163_97 (fun x7 => E_i2_ge r163_98 rfl (E_ic r163_105 (v := 0) (by decide) (E_gt r163_106 rfl (rfl))) (E_ic r163_101 (v := 1) (by decide) (E_gt r163_102 rfl (rfl))))))))))))))
theorem b163_128 (d : Nat) (l0 : Nat) (l1 : Int32) (l2 : Int32) (l3 : Int32) (l4 : Int32) (l5 : Int32) (l6 : Int32) (l7 : Value) (s0 : Int32) (h : aH) (K : Option Value → aH → Prop) : E scr false d 163 128 [.ref l0, .int l1, .int l2, .int l3, .int l4, .int l5, .int l6, l7] [.int s0] h K = (if l5 = 0 then E scr false d 163 156 [.ref l0, .int l1, .int l2, .int l3, .int l4, .int l5, .int l6, .int s0] [] h K else (if s0 = 0 then E scr false d 163 152 [.ref l0, .int l1, .int l2, .int l3, .int l4, .int l5, .int l6, .int s0] [] h K else gR scr h l0 9 9 (fun x1 : Nat => aI scr h x1 l6 (fun x2 : Int32 => (if x2 = l4 then E scr false d 163 156 [.ref l0, .int l1, .int l2, .int l3, .int l4, .int l5, .int l6, .int s0] [] h K else E scr false d 163 152 [.ref l0, .int l1, .int l2, .int l3, .int l4, .int l5, .int l6, .int s0] [] h K))))) := go (w := (130, [.ref l0, .int l1, .int l2, .int l3, .int l4, .int l5, .int l6, .int s0], [], h)) r163_128 rfl rfl (go (w := (132, [.ref l0, .int l1, .int l2, .int l3, .int l4, .int l5, .int l6, .int s0], [.int l5], h)) r163_130 rfl rfl (E_i1_eq r163_132 rfl (rfl) (go (w := (137, [.ref l0, .int l1, .int l2, .int l3, .int l4, .int l5, .int l6, .int s0], [.int s0], h)) r163_135 rfl rfl (E_i1_eq r163_137 rfl (rfl) (go (w := (141, [.ref l0, .int l1, .int l2, .int l3, .int l4, .int l5, .int l6, .int s0], [.ref l0], h)) r163_140 rfl rfl (E_gR r163_141 rfl (fun x1 => go (w := (146, [.ref l0, .int l1, .int l2, .int l3, .int l4, .int l5, .int l6, .int s0], [.int l6, .ref x1], h)) r163_144 rfl rfl (E_aI r163_146 (fun x2 => go (w := (149, [.ref l0, .int l1, .int l2, .int l3, .int l4, .int l5, .int l6, .int s0], [.int l4, .int x2], h)) r163_147 rfl rfl (E_i2_eq r163_149 rfl (rfl) (rfl)))))))))))
theorem b163_152 (d : Nat) (l0 : Nat) (l1 : Int32) (l2 : Int32) (l3 : Int32) (l4 : Int32) (l5 : Int32) (l6 : Int32) (l7 : Int32) (h : aH) (K : Option Value → aH → Prop) : E scr false d 163 152 [.ref l0, .int l1, .int l2, .int l3, .int l4, .int l5, .int l6, .int l7] [] h K = E scr false d 163 157 [.ref l0, .int l1, .int l2, .int l3, .int l4, .int l5, .int l6, .int l7] [.int 1] h K := E_ic r163_152 (v := 1) (by decide) (E_gt r163_153 rfl (rfl))
theorem b163_156 (d : Nat) (l0 : Nat) (l1 : Int32) (l2 : Int32) (l3 : Int32) (l4 : Int32) (l5 : Int32) (l6 : Int32) (l7 : Int32) (h : aH) (K : Option Value → aH → Prop) : E scr false d 163 156 [.ref l0, .int l1, .int l2, .int l3, .int l4, .int l5, .int l6, .int l7] [] h K = E scr false d 163 157 [.ref l0, .int l1, .int l2, .int l3, .int l4, .int l5, .int l6, .int l7] [.int 0] h K := E_ic r163_156 (v := 0) (by decide) (rfl)
theorem b163_157 (d : Nat) (l0 : Nat) (l1 : Int32) (l2 : Int32) (l3 : Int32) (l4 : Int32) (l5 : Int32) (l6 : Int32) (l7 : Int32) (s0 : Int32) (h : aH) (K : Option Value → aH → Prop) : E scr false d 163 157 [.ref l0, .int l1, .int l2, .int l3, .int l4, .int l5, .int l6, .int l7] [.int s0] h K = E scr false d 163 76 [.ref l0, .int l1, .int l2, .int l3, .int l4, .int s0, .int (l6 + 1), .int l7] [] h K := go (w := (159, [.ref l0, .int l1, .int l2, .int l3, .int l4, .int s0, .int l6, .int l7], [], h)) r163_157 rfl rfl (E_inc r163_159 (c := 1) rfl (by decide) (L' := [.ref l0, .int l1, .int l2, .int l3, .int l4, .int s0, .int (l6 + 1), .int l7]) rfl (E_gt r163_162 rfl (rfl)))
