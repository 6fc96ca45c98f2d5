variable {scr : List Int32}
-- 187 SecondNearestModel.cell(III)I
theorem mq187 : mRet 187 = (some .int) := by decide +kernel
theorem r187_0 : rowAt 187 0 = some (.aload_n 0, 1, 0, 0) := by decide +kernel
theorem r187_1 : rowAt 187 1 = some (.iload_n 1, 1, 0, 0) := by decide +kernel
theorem r187_2 : rowAt 187 2 = some (.iload_n 2, 1, 0, 0) := by decide +kernel
theorem r187_3 : rowAt 187 3 = some (.invokevirtual 147, 3, 125, 0) := by decide +kernel
theorem r187_6 : rowAt 187 6 = some (.ifCond .eq 15, 3, 0, 0) := by decide +kernel
theorem r187_9 : rowAt 187 9 = some (.iload_n 3, 1, 0, 0) := by decide +kernel
theorem r187_10 : rowAt 187 10 = some (.i2l, 1, 0, 0) := by decide +kernel
theorem r187_11 : rowAt 187 11 = some (.lconst 0, 1, 0, 0) := by decide +kernel
theorem r187_12 : rowAt 187 12 = some (.ldc2_w 421, 3, 2, 0) := by decide +kernel
theorem r187_15 : rowAt 187 15 = some (.invokestatic 143, 3, 121, 1) := by decide +kernel
theorem r187_18 : rowAt 187 18 = some (.ifCond .ne 5, 3, 0, 0) := by decide +kernel
theorem r187_21 : rowAt 187 21 = some (.iconst (-1), 1, 0, 0) := by decide +kernel
theorem r187_22 : rowAt 187 22 = some (.ireturn, 1, 0, 0) := by decide +kernel
theorem r187_23 : rowAt 187 23 = some (.bipush 12, 2, 0, 0) := by decide +kernel
theorem r187_25 : rowAt 187 25 = some (.iload_n 2, 1, 0, 0) := by decide +kernel
theorem r187_26 : rowAt 187 26 = some (.imul, 1, 0, 0) := by decide +kernel
theorem r187_27 : rowAt 187 27 = some (.iload_n 1, 1, 0, 0) := by decide +kernel
theorem r187_28 : rowAt 187 28 = some (.iadd, 1, 0, 0) := by decide +kernel
theorem r187_29 : rowAt 187 29 = some (.istore 4, 2, 0, 0) := by decide +kernel
theorem r187_31 : rowAt 187 31 = some (.iload_n 3, 1, 0, 0) := by decide +kernel
theorem r187_32 : rowAt 187 32 = some (.ifCond .ne 13, 3, 0, 0) := by decide +kernel
theorem r187_35 : rowAt 187 35 = some (.aload_n 0, 1, 0, 0) := by decide +kernel
theorem r187_36 : rowAt 187 36 = some (.getfield 13, 3, 9, 2) := by decide +kernel
theorem r187_39 : rowAt 187 39 = some (.iload 4, 2, 0, 0) := by decide +kernel
theorem r187_41 : rowAt 187 41 = some (.iaload, 1, 0, 0) := by decide +kernel
theorem r187_42 : rowAt 187 42 = some (.goto 24, 3, 0, 0) := by decide +kernel
theorem r187_45 : rowAt 187 45 = some (.iload_n 3, 1, 0, 0) := by decide +kernel
theorem r187_46 : rowAt 187 46 = some (.iconst 1, 1, 0, 0) := by decide +kernel
theorem r187_47 : rowAt 187 47 = some (.if_icmp .ne 12, 3, 0, 0) := by decide +kernel
theorem r187_50 : rowAt 187 50 = some (.aload_n 0, 1, 0, 0) := by decide +kernel
theorem r187_51 : rowAt 187 51 = some (.iload 4, 2, 0, 0) := by decide +kernel
theorem r187_53 : rowAt 187 53 = some (.invokevirtual 166, 3, 130, 0) := by decide +kernel
theorem r187_56 : rowAt 187 56 = some (.goto 10, 3, 0, 0) := by decide +kernel
theorem r187_59 : rowAt 187 59 = some (.aload_n 0, 1, 0, 0) := by decide +kernel
theorem r187_60 : rowAt 187 60 = some (.getfield 52, 3, 9, 15) := by decide +kernel
theorem r187_63 : rowAt 187 63 = some (.iload 4, 2, 0, 0) := by decide +kernel
theorem r187_65 : rowAt 187 65 = some (.iaload, 1, 0, 0) := by decide +kernel
theorem r187_66 : rowAt 187 66 = some (.ireturn, 1, 0, 0) := by decide +kernel
theorem en187 (a0 : Nat) (a1 : Int32) (a2 : Int32) (a3 : Int32) : iniL 187 [.ref a0, .int a1, .int a2, .int a3] = [.ref a0, .int a1, .int a2, .int a3, .null] := ini_n mi187 rfl
theorem b187_0 (d : Nat) (l0 : Nat) (l1 : Int32) (l2 : Int32) (l3 : Int32) (h : aH) (K : Option Value → aH → Prop) : E scr false (d + 1) 187 0 [.ref l0, .int l1, .int l2, .int l3, .null] [] h K = vI scr d 125 [.ref l0, .int l1, .int l2] h (fun (x2 : Int32) (h1 : aH) => (if x2 = 0 then K (some (.int (-1))) h1 else sI scr d 121 [.long (Int32.toInt64 l3), .long 0, .long 2] h1 (fun (x4 : Int32) (h3 : aH) => (if x4 = 0 then K (some (.int (-1))) h3 else (if l3 = 0 then gR scr h3 l0 9 2 (fun x9 : Nat => aI scr h3 x9 (((12 * l2) + l1)) (fun x10 : Int32 => K (some (.int x10)) h3)) else (if l3 = 1 then vI scr d 130 [.ref l0, .int ((12 * l2) + l1)] h3 (fun (x8 : Int32) (h7 : aH) => K (some (.int x8)) h7) else gR scr h3 l0 9 15 (fun x5 : Nat => aI scr h3 x5 (((12 * l2) + l1)) (fun x6 : Int32 => K (some (.int x6)) h3)))))))) := go (w := (1, [.ref l0, .int l1, .int l2, .int l3, .null], [.ref l0], h)) r187_0 rfl rfl (go (w := (2, [.ref l0, .int l1, .int l2, .int l3, .null], [.int l1, .ref l0], h)) r187_1 rfl rfl (go (w := (3, [.ref l0, .int l1, .int l2, .int l3, .null], [.int l2, .int l1, .ref l0], h)) r187_2 rfl rfl (E_vI r187_3 (As := [.ref l0, .int l1, .int l2]) (rest := []) (cut_n mi125.1 rfl rfl) (rm8_n mi125.2.1 (Nat.le_of_ble_eq_true rfl) (Nat.le_of_ble_eq_true rfl)) mi125.2.2 (fun x2 h1 => E_i1_eq r187_6 rfl (E_ic r187_21 (v := (-1)) (by decide) (E_ri r187_22 (mq187))) (go (w := (10, [.ref l0, .int l1, .int l2, .int l3, .null], [.int l3], h1)) r187_9 rfl rfl (go (w := (11, [.ref l0, .int l1, .int l2, .int l3, .null], [.long (Int32.toInt64 l3)], h1)) r187_10 rfl rfl (E_lc r187_11 (v := 0) (by decide) (E_ld2 r187_12 (v := 2) (by decide) (E_sI r187_15 (As := [.long (Int32.toInt64 l3), .long 0, .long 2]) (rest := []) (cut_n mi121.1 rfl rfl) (rm8_n mi121.2.1 (Nat.le_of_ble_eq_true rfl) (Nat.le_of_ble_eq_true rfl)) mi121.2.2 (fun x4 h3 => E_i1_ne r187_18 rfl (E_bip r187_23 (v := 12) (by decide) (go (w := (26, [.ref l0, .int l1, .int l2, .int l3, .null], [.int l2, .int 12], h3)) r187_25 rfl rfl (go (w := (27, [.ref l0, .int l1, .int l2, .int l3, .null], [.int (12 * l2)], h3)) r187_26 rfl rfl (go (w := (28, [.ref l0, .int l1, .int l2, .int l3, .null], [.int l1, .int (12 * l2)], h3)) r187_27 rfl rfl (go (w := (29, [.ref l0, .int l1, .int l2, .int l3, .null], [.int ((12 * l2) + l1)], h3)) r187_28 rfl rfl (go (w := (31, [.ref l0, .int l1, .int l2, .int l3, .int ((12 * l2) + l1)], [], h3)) r187_29 rfl rfl (go (w := (32, [.ref l0, .int l1, .int l2, .int l3, .int ((12 * l2) + l1)], [.int l3], h3)) r187_31 rfl rfl (E_i1_ne r187_32 rfl (go (w := (46, [.ref l0, .int l1, .int l2, .int l3, .int ((12 * l2) + l1)], [.int l3], h3)) r187_45 rfl rfl (E_ic r187_46 (v := 1) (by decide) (E_i2_ne r187_47 rfl (go (w := (60, [.ref l0, .int l1, .int l2, .int l3, .int ((12 * l2) + l1)], [.ref l0], h3)) r187_59 rfl rfl (E_gR r187_60 rfl (fun x5 => go (w := (65, [.ref l0, .int l1, .int l2, .int l3, .int ((12 * l2) + l1)], [.int ((12 * l2) + l1), .ref x5], h3)) r187_63 rfl rfl (E_aI r187_65 (fun x6 => E_ri r187_66 (mq187)))))) (go (w := (51, [.ref l0, .int l1, .int l2, .int l3, .int ((12 * l2) + l1)], [.ref l0], h3)) r187_50 rfl rfl (go (w := (53, [.ref l0, .int l1, .int l2, .int l3, .int ((12 * l2) + l1)], [.int ((12 * l2) + l1), .ref l0], h3)) r187_51 rfl rfl (E_vI r187_53 (As := [.ref l0, .int ((12 * l2) + l1)]) (rest := []) (cut_n mi130.1 rfl rfl) (rm8_n mi130.2.1 (Nat.le_of_ble_eq_true rfl) (Nat.le_of_ble_eq_true rfl)) mi130.2.2 (fun x8 h7 => E_gt r187_56 rfl (E_ri r187_66 (mq187))))))))) (go (w := (36, [.ref l0, .int l1, .int l2, .int l3, .int ((12 * l2) + l1)], [.ref l0], h3)) r187_35 rfl rfl (E_gR r187_36 rfl (fun x9 => go (w := (41, [.ref l0, .int l1, .int l2, .int l3, .int ((12 * l2) + l1)], [.int ((12 * l2) + l1), .ref x9], h3)) r187_39 rfl rfl (E_aI r187_41 (fun x10 => E_gt r187_42 rfl (E_ri r187_66 (mq187))))))))))))))) (E_ic r187_21 (v := (-1)) (by decide) (E_ri r187_22 (mq187)))))))))))))
-- 188 SecondNearestModel.sees(I)I
theorem mq188 : mRet 188 = (some .int) := by decide +kernel
theorem r188_0 : rowAt 188 0 = some (.aload_n 0, 1, 0, 0) := by decide +kernel
theorem r188_1 : rowAt 188 1 = some (.iload_n 1, 1, 0, 0) := by decide +kernel
theorem r188_2 : rowAt 188 2 = some (.invokevirtual 157, 3, 128, 0) := by decide +kernel
theorem r188_5 : rowAt 188 5 = some (.ifCond .ne 5, 3, 0, 0) := by decide +kernel
theorem r188_8 : rowAt 188 8 = some (.iconst (-1), 1, 0, 0) := by decide +kernel
theorem r188_9 : rowAt 188 9 = some (.ireturn, 1, 0, 0) := by decide +kernel
theorem r188_10 : rowAt 188 10 = some (.aload_n 0, 1, 0, 0) := by decide +kernel
theorem r188_11 : rowAt 188 11 = some (.getfield 37, 3, 9, 10) := by decide +kernel
theorem r188_14 : rowAt 188 14 = some (.iload_n 1, 1, 0, 0) := by decide +kernel
theorem r188_15 : rowAt 188 15 = some (.iaload, 1, 0, 0) := by decide +kernel
theorem r188_16 : rowAt 188 16 = some (.iconst (-1), 1, 0, 0) := by decide +kernel
theorem r188_17 : rowAt 188 17 = some (.if_icmp .ne 6, 3, 0, 0) := by decide +kernel
theorem r188_20 : rowAt 188 20 = some (.bipush (-2), 2, 0, 0) := by decide +kernel
theorem r188_22 : rowAt 188 22 = some (.ireturn, 1, 0, 0) := by decide +kernel
theorem r188_23 : rowAt 188 23 = some (.aload_n 0, 1, 0, 0) := by decide +kernel
theorem r188_24 : rowAt 188 24 = some (.iload_n 1, 1, 0, 0) := by decide +kernel
theorem r188_25 : rowAt 188 25 = some (.invokevirtual 379, 3, 137, 0) := by decide +kernel
theorem r188_28 : rowAt 188 28 = some (.aload_n 0, 1, 0, 0) := by decide +kernel
theorem r188_29 : rowAt 188 29 = some (.getfield 189, 3, 9, 18) := by decide +kernel
theorem r188_32 : rowAt 188 32 = some (.ireturn, 1, 0, 0) := by decide +kernel
theorem en188 (a0 : Nat) (a1 : Int32) : iniL 188 [.ref a0, .int a1] = [.ref a0, .int a1] := ini_n mi188 rfl
theorem b188_0 (d : Nat) (l0 : Nat) (l1 : Int32) (h : aH) (K : Option Value → aH → Prop) : E scr false (d + 1) 188 0 [.ref l0, .int l1] [] h K = vI scr d 128 [.ref l0, .int l1] h (fun (x2 : Int32) (h1 : aH) => (if x2 = 0 then K (some (.int (-1))) h1 else gR scr h1 l0 9 10 (fun x3 : Nat => aI scr h1 x3 l1 (fun x4 : Int32 => (if x4 = (-1) then K (some (.int (-2))) h1 else vV scr d 137 [.ref l0, .int l1] h1 (fun h5 : aH => gI scr h5 l0 9 18 (fun x7 : Int32 => K (some (.int x7)) h5))))))) := go (w := (1, [.ref l0, .int l1], [.ref l0], h)) r188_0 rfl rfl (go (w := (2, [.ref l0, .int l1], [.int l1, .ref l0], h)) r188_1 rfl rfl (E_vI r188_2 (As := [.ref l0, .int l1]) (rest := []) (cut_n mi128.1 rfl rfl) (rm8_n mi128.2.1 (Nat.le_of_ble_eq_true rfl) (Nat.le_of_ble_eq_true rfl)) mi128.2.2 (fun x2 h1 => E_i1_ne r188_5 rfl (go (w := (11, [.ref l0, .int l1], [.ref l0], h1)) r188_10 rfl rfl (E_gR r188_11 rfl (fun x3 => go (w := (15, [.ref l0, .int l1], [.int l1, .ref x3], h1)) r188_14 rfl rfl (E_aI r188_15 (fun x4 => E_ic r188_16 (v := (-1)) (by decide) (E_i2_ne r188_17 rfl (go (w := (24, [.ref l0, .int l1], [.ref l0], h1)) r188_23 rfl rfl (go (w := (25, [.ref l0, .int l1], [.int l1, .ref l0], h1)) r188_24 rfl rfl (E_vV r188_25 (As := [.ref l0, .int l1]) (rest := []) (cut_n mi137.1 rfl rfl) (rm8_n mi137.2.1 (Nat.le_of_ble_eq_true rfl) (Nat.le_of_ble_eq_true rfl)) mi137.2.2 (fun h5 => go (w := (29, [.ref l0, .int l1], [.ref l0], h5)) r188_28 rfl rfl (E_gI r188_29 rfl (fun x7 => E_ri r188_32 (mq188))))))) (E_bip r188_20 (v := (-2)) (by decide) (E_ri r188_22 (mq188))))))))) (E_ic r188_8 (v := (-1)) (by decide) (E_ri r188_9 (mq188))))))
-- 189 SecondNearestModel.seen(II)I
theorem mq189 : mRet 189 = (some .int) := by decide +kernel
theorem r189_0 : rowAt 189 0 = some (.aload_n 0, 1, 0, 0) := by decide +kernel
theorem r189_1 : rowAt 189 1 = some (.iload_n 1, 1, 0, 0) := by decide +kernel
theorem r189_2 : rowAt 189 2 = some (.invokevirtual 157, 3, 128, 0) := by decide +kernel
theorem r189_5 : rowAt 189 5 = some (.ifCond .eq 8, 3, 0, 0) := by decide +kernel
theorem r189_8 : rowAt 189 8 = some (.iload_n 2, 1, 0, 0) := by decide +kernel
theorem r189_9 : rowAt 189 9 = some (.iconst 1, 1, 0, 0) := by decide +kernel
theorem r189_10 : rowAt 189 10 = some (.if_icmp .ge 5, 3, 0, 0) := by decide +kernel
theorem r189_13 : rowAt 189 13 = some (.iconst (-1), 1, 0, 0) := by decide +kernel
theorem r189_14 : rowAt 189 14 = some (.ireturn, 1, 0, 0) := by decide +kernel
theorem r189_15 : rowAt 189 15 = some (.aload_n 0, 1, 0, 0) := by decide +kernel
theorem r189_16 : rowAt 189 16 = some (.getfield 37, 3, 9, 10) := by decide +kernel
theorem r189_19 : rowAt 189 19 = some (.iload_n 1, 1, 0, 0) := by decide +kernel
theorem r189_20 : rowAt 189 20 = some (.iaload, 1, 0, 0) := by decide +kernel
theorem r189_21 : rowAt 189 21 = some (.iconst (-1), 1, 0, 0) := by decide +kernel
theorem r189_22 : rowAt 189 22 = some (.if_icmp .ne 6, 3, 0, 0) := by decide +kernel
theorem r189_25 : rowAt 189 25 = some (.bipush (-2), 2, 0, 0) := by decide +kernel
theorem r189_27 : rowAt 189 27 = some (.ireturn, 1, 0, 0) := by decide +kernel
theorem r189_28 : rowAt 189 28 = some (.aload_n 0, 1, 0, 0) := by decide +kernel
theorem r189_29 : rowAt 189 29 = some (.iload_n 1, 1, 0, 0) := by decide +kernel
theorem r189_30 : rowAt 189 30 = some (.invokevirtual 379, 3, 137, 0) := by decide +kernel
theorem r189_33 : rowAt 189 33 = some (.iload_n 2, 1, 0, 0) := by decide +kernel
theorem r189_34 : rowAt 189 34 = some (.aload_n 0, 1, 0, 0) := by decide +kernel
theorem r189_35 : rowAt 189 35 = some (.getfield 189, 3, 9, 18) := by decide +kernel
theorem r189_38 : rowAt 189 38 = some (.if_icmp .le 8, 3, 0, 0) := by decide +kernel
theorem r189_41 : rowAt 189 41 = some (.bipush (-2), 2, 0, 0) := by decide +kernel
theorem r189_43 : rowAt 189 43 = some (.goto 11, 3, 0, 0) := by decide +kernel
theorem r189_46 : rowAt 189 46 = some (.aload_n 0, 1, 0, 0) := by decide +kernel
theorem r189_47 : rowAt 189 47 = some (.getfield 58, 3, 9, 17) := by decide +kernel
theorem r189_50 : rowAt 189 50 = some (.iload_n 2, 1, 0, 0) := by decide +kernel
theorem r189_51 : rowAt 189 51 = some (.iconst 1, 1, 0, 0) := by decide +kernel
theorem r189_52 : rowAt 189 52 = some (.isub, 1, 0, 0) := by decide +kernel
theorem r189_53 : rowAt 189 53 = some (.iaload, 1, 0, 0) := by decide +kernel
theorem r189_54 : rowAt 189 54 = some (.ireturn, 1, 0, 0) := by decide +kernel
theorem en189 (a0 : Nat) (a1 : Int32) (a2 : Int32) : iniL 189 [.ref a0, .int a1, .int a2] = [.ref a0, .int a1, .int a2] := ini_n mi189 rfl
theorem b189_0 (d : Nat) (l0 : Nat) (l1 : Int32) (l2 : Int32) (h : aH) (K : Option Value → aH → Prop) : E scr false (d + 1) 189 0 [.ref l0, .int l1, .int l2] [] h K = vI scr d 128 [.ref l0, .int l1] h (fun (x2 : Int32) (h1 : aH) => (if x2 = 0 then K (some (.int (-1))) h1 else (if 1 ≤ l2 then gR scr h1 l0 9 10 (fun x3 : Nat => aI scr h1 x3 l1 (fun x4 : Int32 => (if x4 = (-1) then K (some (.int (-2))) h1 else vV scr d 137 [.ref l0, .int l1] h1 (fun h5 : aH => gI scr h5 l0 9 18 (fun x7 : Int32 => (if l2 ≤ x7 then gR scr h5 l0 9 17 (fun x8 : Nat => aI scr h5 x8 ((l2 - 1)) (fun x9 : Int32 => K (some (.int x9)) h5)) else K (some (.int (-2))) h5)))))) else K (some (.int (-1))) h1))) := go (w := (1, [.ref l0, .int l1, .int l2], [.ref l0], h)) r189_0 rfl rfl (go (w := (2, [.ref l0, .int l1, .int l2], [.int l1, .ref l0], h)) r189_1 rfl rfl (E_vI r189_2 (As := [.ref l0, .int l1]) (rest := []) (cut_n mi128.1 rfl rfl) (rm8_n mi128.2.1 (Nat.le_of_ble_eq_true rfl) (Nat.le_of_ble_eq_true rfl)) mi128.2.2 (fun x2 h1 => E_i1_eq r189_5 rfl (E_ic r189_13 (v := (-1)) (by decide) (E_ri r189_14 (mq189))) (go (w := (9, [.ref l0, .int l1, .int l2], [.int l2], h1)) r189_8 rfl rfl (E_ic r189_9 (v := 1) (by decide) (E_i2_ge r189_10 rfl (go (w := (16, [.ref l0, .int l1, .int l2], [.ref l0], h1)) r189_15 rfl rfl (E_gR r189_16 rfl (fun x3 => go (w := (20, [.ref l0, .int l1, .int l2], [.int l1, .ref x3], h1)) r189_19 rfl rfl (E_aI r189_20 (fun x4 => E_ic r189_21 (v := (-1)) (by decide) (E_i2_ne r189_22 rfl (go (w := (29, [.ref l0, .int l1, .int l2], [.ref l0], h1)) r189_28 rfl rfl (go (w := (30, [.ref l0, .int l1, .int l2], [.int l1, .ref l0], h1)) r189_29 rfl rfl (E_vV r189_30 (As := [.ref l0, .int l1]) (rest := []) (cut_n mi137.1 rfl rfl) (rm8_n mi137.2.1 (Nat.le_of_ble_eq_true rfl) (Nat.le_of_ble_eq_true rfl)) mi137.2.2 (fun h5 => go (w := (34, [.ref l0, .int l1, .int l2], [.int l2], h5)) r189_33 rfl rfl (go (w := (35, [.ref l0, .int l1, .int l2], [.ref l0, .int l2], h5)) r189_34 rfl rfl (E_gI r189_35 rfl (fun x7 => E_i2_le r189_38 rfl (go (w := (47, [.ref l0, .int l1, .int l2], [.ref l0], h5)) r189_46 rfl rfl (E_gR r189_47 rfl (fun x8 => go (w := (51, [.ref l0, .int l1, .int l2], [.int l2, .ref x8], h5)) r189_50 rfl rfl (E_ic r189_51 (v := 1) (by decide) (go (w := (53, [.ref l0, .int l1, .int l2], [.int (l2 - 1), .ref x8], h5)) r189_52 rfl rfl (E_aI r189_53 (fun x9 => E_ri r189_54 (mq189)))))))) (E_bip r189_41 (v := (-2)) (by decide) (E_gt r189_43 rfl (E_ri r189_54 (mq189))))))))))) (E_bip r189_25 (v := (-2)) (by decide) (E_ri r189_27 (mq189))))))))) (E_ic r189_13 (v := (-1)) (by decide) (E_ri r189_14 (mq189)))))))))
-- 190 SecondNearestModel.heraldGoes(II)Z
theorem mq190 : mRet 190 = (some .boolean) := by decide +kernel
theorem r190_0 : rowAt 190 0 = some (.aload_n 0, 1, 0, 0) := by decide +kernel
theorem r190_1 : rowAt 190 1 = some (.aload_n 0, 1, 0, 0) := by decide +kernel
theorem r190_2 : rowAt 190 2 = some (.getfield 37, 3, 9, 10) := by decide +kernel
theorem r190_5 : rowAt 190 5 = some (.bipush 12, 2, 0, 0) := by decide +kernel
theorem r190_7 : rowAt 190 7 = some (.iload_n 1, 1, 0, 0) := by decide +kernel
theorem r190_8 : rowAt 190 8 = some (.iadd, 1, 0, 0) := by decide +kernel
theorem r190_9 : rowAt 190 9 = some (.iaload, 1, 0, 0) := by decide +kernel
theorem r190_10 : rowAt 190 10 = some (.iload_n 2, 1, 0, 0) := by decide +kernel
theorem r190_11 : rowAt 190 11 = some (.invokevirtual 183, 3, 132, 0) := by decide +kernel
theorem r190_14 : rowAt 190 14 = some (.istore_n 3, 1, 0, 0) := by decide +kernel
theorem r190_15 : rowAt 190 15 = some (.iload_n 3, 1, 0, 0) := by decide +kernel
theorem r190_16 : rowAt 190 16 = some (.iconst (-1), 1, 0, 0) := by decide +kernel
theorem r190_17 : rowAt 190 17 = some (.if_icmp .eq 15, 3, 0, 0) := by decide +kernel
theorem r190_20 : rowAt 190 20 = some (.aload_n 0, 1, 0, 0) := by decide +kernel
theorem r190_21 : rowAt 190 21 = some (.iload_n 3, 1, 0, 0) := by decide +kernel
theorem r190_22 : rowAt 190 22 = some (.invokevirtual 389, 3, 131, 0) := by decide +kernel
theorem r190_25 : rowAt 190 25 = some (.ifCond .eq 7, 3, 0, 0) := by decide +kernel
theorem r190_28 : rowAt 190 28 = some (.iconst 1, 1, 0, 0) := by decide +kernel
theorem r190_29 : rowAt 190 29 = some (.goto 4, 3, 0, 0) := by decide +kernel
theorem r190_32 : rowAt 190 32 = some (.iconst 0, 1, 0, 0) := by decide +kernel
theorem r190_33 : rowAt 190 33 = some (.istore 4, 2, 0, 0) := by decide +kernel
theorem r190_35 : rowAt 190 35 = some (.aload_n 0, 1, 0, 0) := by decide +kernel
theorem r190_36 : rowAt 190 36 = some (.getfield 37, 3, 9, 10) := by decide +kernel
theorem r190_39 : rowAt 190 39 = some (.bipush 12, 2, 0, 0) := by decide +kernel
theorem r190_41 : rowAt 190 41 = some (.iload_n 1, 1, 0, 0) := by decide +kernel
theorem r190_42 : rowAt 190 42 = some (.iadd, 1, 0, 0) := by decide +kernel
theorem r190_43 : rowAt 190 43 = some (.iload 4, 2, 0, 0) := by decide +kernel
theorem r190_45 : rowAt 190 45 = some (.ifCond .eq 7, 3, 0, 0) := by decide +kernel
theorem r190_48 : rowAt 190 48 = some (.iload_n 3, 1, 0, 0) := by decide +kernel
theorem r190_49 : rowAt 190 49 = some (.goto 12, 3, 0, 0) := by decide +kernel
theorem r190_52 : rowAt 190 52 = some (.aload_n 0, 1, 0, 0) := by decide +kernel
theorem r190_53 : rowAt 190 53 = some (.getfield 37, 3, 9, 10) := by decide +kernel
theorem r190_56 : rowAt 190 56 = some (.bipush 12, 2, 0, 0) := by decide +kernel
theorem r190_58 : rowAt 190 58 = some (.iload_n 1, 1, 0, 0) := by decide +kernel
theorem r190_59 : rowAt 190 59 = some (.iadd, 1, 0, 0) := by decide +kernel
theorem r190_60 : rowAt 190 60 = some (.iaload, 1, 0, 0) := by decide +kernel
theorem r190_61 : rowAt 190 61 = some (.iastore, 1, 0, 0) := by decide +kernel
theorem r190_62 : rowAt 190 62 = some (.iload 4, 2, 0, 0) := by decide +kernel
theorem r190_64 : rowAt 190 64 = some (.ireturn, 1, 0, 0) := by decide +kernel
theorem en190 (a0 : Nat) (a1 : Int32) (a2 : Int32) : iniL 190 [.ref a0, .int a1, .int a2] = [.ref a0, .int a1, .int a2, .null, .null] := ini_n mi190 rfl
theorem b190_0 (d : Nat) (l0 : Nat) (l1 : Int32) (l2 : Int32) (h : aH) (K : Option Value → aH → Prop) : E scr false (d + 1) 190 0 [.ref l0, .int l1, .int l2, .null, .null] [] h K = gR scr h l0 9 10 (fun x1 : Nat => aI scr h x1 ((12 + l1)) (fun x2 : Int32 => vI scr d 132 [.ref l0, .int x2, .int l2] h (fun (x4 : Int32) (h3 : aH) => (if x4 = (-1) then E scr false (d + 1) 190 32 [.ref l0, .int l1, .int l2, .int x4, .null] [] h3 K else vI scr d 131 [.ref l0, .int x4] h3 (fun (x6 : Int32) (h5 : aH) => (if x6 = 0 then E scr false (d + 1) 190 32 [.ref l0, .int l1, .int l2, .int x4, .null] [] h5 K else E scr false (d + 1) 190 33 [.ref l0, .int l1, .int l2, .int x4, .null] [.int 1] h5 K)))))) := go (w := (1, [.ref l0, .int l1, .int l2, .null, .null], [.ref l0], h)) r190_0 rfl rfl (go (w := (2, [.ref l0, .int l1, .int l2, .null, .null], [.ref l0, .ref l0], h)) r190_1 rfl rfl (E_gR r190_2 rfl (fun x1 => E_bip r190_5 (v := 12) (by decide) (go (w := (8, [.ref l0, .int l1, .int l2, .null, .null], [.int l1, .int 12, .ref x1, .ref l0], h)) r190_7 rfl rfl (go (w := (9, [.ref l0, .int l1, .int l2, .null, .null], [.int (12 + l1), .ref x1, .ref l0], h)) r190_8 rfl rfl (E_aI r190_9 (fun x2 => go (w := (11, [.ref l0, .int l1, .int l2, .null, .null], [.int l2, .int x2, .ref l0], h)) r190_10 rfl rfl (E_vI r190_11 (As := [.ref l0, .int x2, .int l2]) (rest := []) (cut_n mi132.1 rfl rfl) (rm8_n mi132.2.1 (Nat.le_of_ble_eq_true rfl) (Nat.le_of_ble_eq_true rfl)) mi132.2.2 (fun x4 h3 => go (w := (15, [.ref l0, .int l1, .int l2, .int x4, .null], [], h3)) r190_14 rfl rfl (go (w := (16, [.ref l0, .int l1, .int l2, .int x4, .null], [.int x4], h3)) r190_15 rfl rfl (E_ic r190_16 (v := (-1)) (by decide) (E_i2_eq r190_17 rfl (rfl) (go (w := (21, [.ref l0, .int l1, .int l2, .int x4, .null], [.ref l0], h3)) r190_20 rfl rfl (go (w := (22, [.ref l0, .int l1, .int l2, .int x4, .null], [.int x4, .ref l0], h3)) r190_21 rfl rfl (E_vI r190_22 (As := [.ref l0, .int x4]) (rest := []) (cut_n mi131.1 rfl rfl) (rm8_n mi131.2.1 (Nat.le_of_ble_eq_true rfl) (Nat.le_of_ble_eq_true rfl)) mi131.2.2 (fun x6 h5 => E_i1_eq r190_25 rfl (rfl) (E_ic r190_28 (v := 1) (by decide) (E_gt r190_29 rfl (rfl)))))))))))))))))))
theorem b190_32 (d : Nat) (l0 : Nat) (l1 : Int32) (l2 : Int32) (l3 : Int32) (h : aH) (K : Option Value → aH → Prop) : E scr false d 190 32 [.ref l0, .int l1, .int l2, .int l3, .null] [] h K = E scr false d 190 33 [.ref l0, .int l1, .int l2, .int l3, .null] [.int 0] h K := E_ic r190_32 (v := 0) (by decide) (rfl)
theorem b190_33 (d : Nat) (l0 : Nat) (l1 : Int32) (l2 : Int32) (l3 : Int32) (s0 : Int32) (h : aH) (K : Option Value → aH → Prop) : E scr false d 190 33 [.ref l0, .int l1, .int l2, .int l3, .null] [.int s0] h K = gR scr h l0 9 10 (fun x1 : Nat => (if s0 = 0 then gR scr h l0 9 10 (fun x2 : Nat => aI scr h x2 ((12 + l1)) (fun x3 : Int32 => wI h x1 ((12 + l1)) x3 (fun h4 : aH => (s0 &&& 1 = s0 ∧ K (some (.int s0)) h4)))) else wI h x1 ((12 + l1)) l3 (fun h5 : aH => (s0 &&& 1 = s0 ∧ K (some (.int s0)) h5)))) := go (w := (35, [.ref l0, .int l1, .int l2, .int l3, .int s0], [], h)) r190_33 rfl rfl (go (w := (36, [.ref l0, .int l1, .int l2, .int l3, .int s0], [.ref l0], h)) r190_35 rfl rfl (E_gR r190_36 rfl (fun x1 => E_bip r190_39 (v := 12) (by decide) (go (w := (42, [.ref l0, .int l1, .int l2, .int l3, .int s0], [.int l1, .int 12, .ref x1], h)) r190_41 rfl rfl (go (w := (43, [.ref l0, .int l1, .int l2, .int l3, .int s0], [.int (12 + l1), .ref x1], h)) r190_42 rfl rfl (go (w := (45, [.ref l0, .int l1, .int l2, .int l3, .int s0], [.int s0, .int (12 + l1), .ref x1], h)) r190_43 rfl rfl (E_i1_eq r190_45 rfl (go (w := (53, [.ref l0, .int l1, .int l2, .int l3, .int s0], [.ref l0, .int (12 + l1), .ref x1], h)) r190_52 rfl rfl (E_gR r190_53 rfl (fun x2 => E_bip r190_56 (v := 12) (by decide) (go (w := (59, [.ref l0, .int l1, .int l2, .int l3, .int s0], [.int l1, .int 12, .ref x2, .int (12 + l1), .ref x1], h)) r190_58 rfl rfl (go (w := (60, [.ref l0, .int l1, .int l2, .int l3, .int s0], [.int (12 + l1), .ref x2, .int (12 + l1), .ref x1], h)) r190_59 rfl rfl (E_aI r190_60 (fun x3 => E_wI r190_61 (fun h4 => go (w := (64, [.ref l0, .int l1, .int l2, .int l3, .int s0], [.int s0], h4)) r190_62 rfl rfl (E_zret r190_64 (mq190)))))))))) (go (w := (49, [.ref l0, .int l1, .int l2, .int l3, .int s0], [.int l3, .int (12 + l1), .ref x1], h)) r190_48 rfl rfl (E_gt r190_49 rfl (E_wI r190_61 (fun h5 => go (w := (64, [.ref l0, .int l1, .int l2, .int l3, .int s0], [.int s0], h5)) r190_62 rfl rfl (E_zret r190_64 (mq190)))))))))))))
-- 191 SecondNearestModel.goes(II)Z
theorem mq191 : mRet 191 = (some .boolean) := by decide +kernel
theorem r191_0 : rowAt 191 0 = some (.aload_n 0, 1, 0, 0) := by decide +kernel
theorem r191_1 : rowAt 191 1 = some (.iload_n 1, 1, 0, 0) := by decide +kernel
theorem r191_2 : rowAt 191 2 = some (.invokevirtual 418, 3, 185, 0) := by decide +kernel
theorem r191_5 : rowAt 191 5 = some (.ifCond .eq 28, 3, 0, 0) := by decide +kernel
theorem r191_8 : rowAt 191 8 = some (.iload_n 2, 1, 0, 0) := by decide +kernel
theorem r191_9 : rowAt 191 9 = some (.i2l, 1, 0, 0) := by decide +kernel
theorem r191_10 : rowAt 191 10 = some (.lconst 0, 1, 0, 0) := by decide +kernel
theorem r191_11 : rowAt 191 11 = some (.ldc2_w 174, 3, 7, 0) := by decide +kernel
theorem r191_14 : rowAt 191 14 = some (.invokestatic 143, 3, 121, 1) := by decide +kernel
theorem r191_17 : rowAt 191 17 = some (.ifCond .eq 16, 3, 0, 0) := by decide +kernel
theorem r191_20 : rowAt 191 20 = some (.aload_n 0, 1, 0, 0) := by decide +kernel
theorem r191_21 : rowAt 191 21 = some (.iload_n 1, 1, 0, 0) := by decide +kernel
theorem r191_22 : rowAt 191 22 = some (.iload_n 2, 1, 0, 0) := by decide +kernel
theorem r191_23 : rowAt 191 23 = some (.invokevirtual 423, 3, 190, 0) := by decide +kernel
theorem r191_26 : rowAt 191 26 = some (.ifCond .eq 7, 3, 0, 0) := by decide +kernel
theorem r191_29 : rowAt 191 29 = some (.iconst 1, 1, 0, 0) := by decide +kernel
theorem r191_30 : rowAt 191 30 = some (.goto 4, 3, 0, 0) := by decide +kernel
theorem r191_33 : rowAt 191 33 = some (.iconst 0, 1, 0, 0) := by decide +kernel
theorem r191_34 : rowAt 191 34 = some (.ireturn, 1, 0, 0) := by decide +kernel
theorem en191 (a0 : Nat) (a1 : Int32) (a2 : Int32) : iniL 191 [.ref a0, .int a1, .int a2] = [.ref a0, .int a1, .int a2] := ini_n mi191 rfl
theorem b191_0 (d : Nat) (l0 : Nat) (l1 : Int32) (l2 : Int32) (h : aH) (K : Option Value → aH → Prop) : E scr false (d + 1) 191 0 [.ref l0, .int l1, .int l2] [] h K = vI scr d 185 [.ref l0, .int l1] h (fun (x2 : Int32) (h1 : aH) => (if x2 = 0 then K (some (.int 0)) h1 else sI scr d 121 [.long (Int32.toInt64 l2), .long 0, .long 7] h1 (fun (x4 : Int32) (h3 : aH) => (if x4 = 0 then K (some (.int 0)) h3 else vI scr d 190 [.ref l0, .int l1, .int l2] h3 (fun (x6 : Int32) (h5 : aH) => (if x6 = 0 then K (some (.int 0)) h5 else K (some (.int 1)) h5)))))) := go (w := (1, [.ref l0, .int l1, .int l2], [.ref l0], h)) r191_0 rfl rfl (go (w := (2, [.ref l0, .int l1, .int l2], [.int l1, .ref l0], h)) r191_1 rfl rfl (E_vI r191_2 (As := [.ref l0, .int l1]) (rest := []) (cut_n mi185.1 rfl rfl) (rm8_n mi185.2.1 (Nat.le_of_ble_eq_true rfl) (Nat.le_of_ble_eq_true rfl)) mi185.2.2 (fun x2 h1 => E_i1_eq r191_5 rfl (E_ic r191_33 (v := 0) (by decide) (E_rz r191_34 (mq191) (by decide))) (go (w := (9, [.ref l0, .int l1, .int l2], [.int l2], h1)) r191_8 rfl rfl (go (w := (10, [.ref l0, .int l1, .int l2], [.long (Int32.toInt64 l2)], h1)) r191_9 rfl rfl (E_lc r191_10 (v := 0) (by decide) (E_ld2 r191_11 (v := 7) (by decide) (E_sI r191_14 (As := [.long (Int32.toInt64 l2), .long 0, .long 7]) (rest := []) (cut_n mi121.1 rfl rfl) (rm8_n mi121.2.1 (Nat.le_of_ble_eq_true rfl) (Nat.le_of_ble_eq_true rfl)) mi121.2.2 (fun x4 h3 => E_i1_eq r191_17 rfl (E_ic r191_33 (v := 0) (by decide) (E_rz r191_34 (mq191) (by decide))) (go (w := (21, [.ref l0, .int l1, .int l2], [.ref l0], h3)) r191_20 rfl rfl (go (w := (22, [.ref l0, .int l1, .int l2], [.int l1, .ref l0], h3)) r191_21 rfl rfl (go (w := (23, [.ref l0, .int l1, .int l2], [.int l2, .int l1, .ref l0], h3)) r191_22 rfl rfl (E_vI r191_23 (As := [.ref l0, .int l1, .int l2]) (rest := []) (cut_n mi190.1 rfl rfl) (rm8_n mi190.2.1 (Nat.le_of_ble_eq_true rfl) (Nat.le_of_ble_eq_true rfl)) mi190.2.2 (fun x6 h5 => E_i1_eq r191_26 rfl (E_ic r191_33 (v := 0) (by decide) (E_rz r191_34 (mq191) (by decide))) (E_ic r191_29 (v := 1) (by decide) (E_gt r191_30 rfl (E_rz r191_34 (mq191) (by decide))))))))))))))))))
-- 192 SecondNearestModel.follows(II)I
theorem mq192 : mRet 192 = (some .int) := by decide +kernel
theorem r192_0 : rowAt 192 0 = some (.aload_n 0, 1, 0, 0) := by decide +kernel
theorem r192_1 : rowAt 192 1 = some (.iload_n 1, 1, 0, 0) := by decide +kernel
theorem r192_2 : rowAt 192 2 = some (.invokevirtual 410, 3, 172, 0) := by decide +kernel
theorem r192_5 : rowAt 192 5 = some (.ifCond .eq 11, 3, 0, 0) := by decide +kernel
theorem r192_8 : rowAt 192 8 = some (.aload_n 0, 1, 0, 0) := by decide +kernel
theorem r192_9 : rowAt 192 9 = some (.iload_n 2, 1, 0, 0) := by decide +kernel
theorem r192_10 : rowAt 192 10 = some (.invokevirtual 151, 3, 127, 0) := by decide +kernel
theorem r192_13 : rowAt 192 13 = some (.ifCond .ne 5, 3, 0, 0) := by decide +kernel
theorem r192_16 : rowAt 192 16 = some (.iconst (-1), 1, 0, 0) := by decide +kernel
theorem r192_17 : rowAt 192 17 = some (.ireturn, 1, 0, 0) := by decide +kernel
theorem r192_18 : rowAt 192 18 = some (.aload_n 0, 1, 0, 0) := by decide +kernel
theorem r192_19 : rowAt 192 19 = some (.getfield 37, 3, 9, 10) := by decide +kernel
theorem r192_22 : rowAt 192 22 = some (.iload_n 2, 1, 0, 0) := by decide +kernel
theorem r192_23 : rowAt 192 23 = some (.iaload, 1, 0, 0) := by decide +kernel
theorem r192_24 : rowAt 192 24 = some (.iconst (-1), 1, 0, 0) := by decide +kernel
theorem r192_25 : rowAt 192 25 = some (.if_icmp .ne 7, 3, 0, 0) := by decide +kernel
theorem r192_28 : rowAt 192 28 = some (.iconst (-1), 1, 0, 0) := by decide +kernel
theorem r192_29 : rowAt 192 29 = some (.goto 9, 3, 0, 0) := by decide +kernel
theorem r192_32 : rowAt 192 32 = some (.aload_n 0, 1, 0, 0) := by decide +kernel
theorem r192_33 : rowAt 192 33 = some (.iload_n 1, 1, 0, 0) := by decide +kernel
theorem r192_34 : rowAt 192 34 = some (.iload_n 2, 1, 0, 0) := by decide +kernel
theorem r192_35 : rowAt 192 35 = some (.invokevirtual 392, 3, 177, 0) := by decide +kernel
theorem r192_38 : rowAt 192 38 = some (.istore_n 3, 1, 0, 0) := by decide +kernel
theorem r192_39 : rowAt 192 39 = some (.iload_n 3, 1, 0, 0) := by decide +kernel
theorem r192_40 : rowAt 192 40 = some (.iconst (-1), 1, 0, 0) := by decide +kernel
theorem r192_41 : rowAt 192 41 = some (.if_icmp .ne 8, 3, 0, 0) := by decide +kernel
theorem r192_44 : rowAt 192 44 = some (.bipush (-2), 2, 0, 0) := by decide +kernel
theorem r192_46 : rowAt 192 46 = some (.goto 4, 3, 0, 0) := by decide +kernel
theorem r192_49 : rowAt 192 49 = some (.iload_n 3, 1, 0, 0) := by decide +kernel
theorem r192_50 : rowAt 192 50 = some (.ireturn, 1, 0, 0) := by decide +kernel
theorem en192 (a0 : Nat) (a1 : Int32) (a2 : Int32) : iniL 192 [.ref a0, .int a1, .int a2] = [.ref a0, .int a1, .int a2, .null] := ini_n mi192 rfl
theorem b192_0 (d : Nat) (l0 : Nat) (l1 : Int32) (l2 : Int32) (h : aH) (K : Option Value → aH → Prop) : E scr false (d + 1) 192 0 [.ref l0, .int l1, .int l2, .null] [] h K = vI scr d 172 [.ref l0, .int l1] h (fun (x2 : Int32) (h1 : aH) => (if x2 = 0 then K (some (.int (-1))) h1 else vI scr d 127 [.ref l0, .int l2] h1 (fun (x4 : Int32) (h3 : aH) => (if x4 = 0 then K (some (.int (-1))) h3 else gR scr h3 l0 9 10 (fun x5 : Nat => aI scr h3 x5 l2 (fun x6 : Int32 => (if x6 = (-1) then E scr false (d + 1) 192 38 [.ref l0, .int l1, .int l2, .null] [.int (-1)] h3 K else vI scr d 177 [.ref l0, .int l1, .int l2] h3 (fun (x8 : Int32) (h7 : aH) => E scr false (d + 1) 192 38 [.ref l0, .int l1, .int l2, .null] [.int x8] h7 K)))))))) := go (w := (1, [.ref l0, .int l1, .int l2, .null], [.ref l0], h)) r192_0 rfl rfl (go (w := (2, [.ref l0, .int l1, .int l2, .null], [.int l1, .ref l0], h)) r192_1 rfl rfl (E_vI r192_2 (As := [.ref l0, .int l1]) (rest := []) (cut_n mi172.1 rfl rfl) (rm8_n mi172.2.1 (Nat.le_of_ble_eq_true rfl) (Nat.le_of_ble_eq_true rfl)) mi172.2.2 (fun x2 h1 => E_i1_eq r192_5 rfl (E_ic r192_16 (v := (-1)) (by decide) (E_ri r192_17 (mq192))) (go (w := (9, [.ref l0, .int l1, .int l2, .null], [.ref l0], h1)) r192_8 rfl rfl (go (w := (10, [.ref l0, .int l1, .int l2, .null], [.int l2, .ref l0], h1)) r192_9 rfl rfl (E_vI r192_10 (As := [.ref l0, .int l2]) (rest := []) (cut_n mi127.1 rfl rfl) (rm8_n mi127.2.1 (Nat.le_of_ble_eq_true rfl) (Nat.le_of_ble_eq_true rfl)) mi127.2.2 (fun x4 h3 => E_i1_ne r192_13 rfl (go (w := (19, [.ref l0, .int l1, .int l2, .null], [.ref l0], h3)) r192_18 rfl rfl (E_gR r192_19 rfl (fun x5 => go (w := (23, [.ref l0, .int l1, .int l2, .null], [.int l2, .ref x5], h3)) r192_22 rfl rfl (E_aI r192_23 (fun x6 => E_ic r192_24 (v := (-1)) (by decide) (E_i2_ne r192_25 rfl (go (w := (33, [.ref l0, .int l1, .int l2, .null], [.ref l0], h3)) r192_32 rfl rfl (go (w := (34, [.ref l0, .int l1, .int l2, .null], [.int l1, .ref l0], h3)) r192_33 rfl rfl (go (w := (35, [.ref l0, .int l1, .int l2, .null], [.int l2, .int l1, .ref l0], h3)) r192_34 rfl rfl (E_vI r192_35 (As := [.ref l0, .int l1, .int l2]) (rest := []) (cut_n mi177.1 rfl rfl) (rm8_n mi177.2.1 (Nat.le_of_ble_eq_true rfl) (Nat.le_of_ble_eq_true rfl)) mi177.2.2 (fun x8 h7 => rfl))))) (E_ic r192_28 (v := (-1)) (by decide) (E_gt r192_29 rfl (rfl))))))))) (E_ic r192_16 (v := (-1)) (by decide) (E_ri r192_17 (mq192))))))))))
theorem b192_38 (d : Nat) (l0 : Nat) (l1 : Int32) (l2 : Int32) (s0 : Int32) (h : aH) (K : Option Value → aH → Prop) : E scr false d 192 38 [.ref l0, .int l1, .int l2, .null] [.int s0] h K = (if s0 = (-1) then K (some (.int (-2))) h else K (some (.int s0)) h) := go (w := (39, [.ref l0, .int l1, .int l2, .int s0], [], h)) r192_38 rfl rfl (go (w := (40, [.ref l0, .int l1, .int l2, .int s0], [.int s0], h)) r192_39 rfl rfl (E_ic r192_40 (v := (-1)) (by decide) (E_i2_ne r192_41 rfl (go (w := (50, [.ref l0, .int l1, .int l2, .int s0], [.int s0], h)) r192_49 rfl rfl (E_ri r192_50 (mq192))) (E_bip r192_44 (v := (-2)) (by decide) (E_gt r192_46 rfl (E_ri r192_50 (mq192)))))))
-- 193 SecondNearestModel.keeps()V
theorem mq193 : mRet 193 = none := by decide +kernel
theorem r193_0 : rowAt 193 0 = some (.aload_n 0, 1, 0, 0) := by decide +kernel
theorem r193_1 : rowAt 193 1 = some (.getfield 7, 3, 9, 1) := by decide +kernel
theorem r193_4 : rowAt 193 4 = some (.aload_n 0, 1, 0, 0) := by decide +kernel
theorem r193_5 : rowAt 193 5 = some (.getfield 100, 3, 9, 41) := by decide +kernel
theorem r193_8 : rowAt 193 8 = some (.invokestatic 346, 3, 166, 1) := by decide +kernel
theorem r193_11 : rowAt 193 11 = some (.aload_n 0, 1, 0, 0) := by decide +kernel
theorem r193_12 : rowAt 193 12 = some (.getfield 37, 3, 9, 10) := by decide +kernel
theorem r193_15 : rowAt 193 15 = some (.aload_n 0, 1, 0, 0) := by decide +kernel
theorem r193_16 : rowAt 193 16 = some (.getfield 103, 3, 9, 42) := by decide +kernel
theorem r193_19 : rowAt 193 19 = some (.invokestatic 346, 3, 166, 1) := by decide +kernel
theorem r193_22 : rowAt 193 22 = some (.aload_n 0, 1, 0, 0) := by decide +kernel
theorem r193_23 : rowAt 193 23 = some (.getfield 40, 3, 9, 11) := by decide +kernel
theorem r193_26 : rowAt 193 26 = some (.aload_n 0, 1, 0, 0) := by decide +kernel
theorem r193_27 : rowAt 193 27 = some (.getfield 106, 3, 9, 43) := by decide +kernel
theorem r193_30 : rowAt 193 30 = some (.invokestatic 346, 3, 166, 1) := by decide +kernel
theorem r193_33 : rowAt 193 33 = some (.return_, 1, 0, 0) := by decide +kernel
theorem en193 (a0 : Nat) : iniL 193 [.ref a0] = [.ref a0] := ini_n mi193 rfl
theorem b193_0 (d : Nat) (l0 : Nat) (h : aH) (K : Option Value → aH → Prop) : E scr false (d + 1) 193 0 [.ref l0] [] h K = gR scr h l0 9 1 (fun x1 : Nat => gR scr h l0 9 41 (fun x2 : Nat => sV scr d 166 [.ref x1, .ref x2] h (fun h3 : aH => gR scr h3 l0 9 10 (fun x5 : Nat => gR scr h3 l0 9 42 (fun x6 : Nat => sV scr d 166 [.ref x5, .ref x6] h3 (fun h7 : aH => gR scr h7 l0 9 11 (fun x9 : Nat => gR scr h7 l0 9 43 (fun x10 : Nat => sV scr d 166 [.ref x9, .ref x10] h7 (fun h11 : aH => K none h11))))))))) := go (w := (1, [.ref l0], [.ref l0], h)) r193_0 rfl rfl (E_gR r193_1 rfl (fun x1 => go (w := (5, [.ref l0], [.ref l0, .ref x1], h)) r193_4 rfl rfl (E_gR r193_5 rfl (fun x2 => E_sV r193_8 (As := [.ref x1, .ref x2]) (rest := []) (cut_n mi166.1 rfl rfl) (rm8_n mi166.2.1 (Nat.le_of_ble_eq_true rfl) (Nat.le_of_ble_eq_true rfl)) mi166.2.2 (fun h3 => go (w := (12, [.ref l0], [.ref l0], h3)) r193_11 rfl rfl (E_gR r193_12 rfl (fun x5 => go (w := (16, [.ref l0], [.ref l0, .ref x5], h3)) r193_15 rfl rfl (E_gR r193_16 rfl (fun x6 => E_sV r193_19 (As := [.ref x5, .ref x6]) (rest := []) (cut_n mi166.1 rfl rfl) (rm8_n mi166.2.1 (Nat.le_of_ble_eq_true rfl) (Nat.le_of_ble_eq_true rfl)) mi166.2.2 (fun h7 => go (w := (23, [.ref l0], [.ref l0], h7)) r193_22 rfl rfl (E_gR r193_23 rfl (fun x9 => go (w := (27, [.ref l0], [.ref l0, .ref x9], h7)) r193_26 rfl rfl (E_gR r193_27 rfl (fun x10 => E_sV r193_30 (As := [.ref x9, .ref x10]) (rest := []) (cut_n mi166.1 rfl rfl) (rm8_n mi166.2.1 (Nat.le_of_ble_eq_true rfl) (Nat.le_of_ble_eq_true rfl)) mi166.2.2 (fun h11 => E_vret r193_33 (mq193))))))))))))))))
-- 194 SecondNearestModel.laysBack()V
theorem mq194 : mRet 194 = none := by decide +kernel
theorem r194_0 : rowAt 194 0 = some (.aload_n 0, 1, 0, 0) := by decide +kernel
theorem r194_1 : rowAt 194 1 = some (.getfield 100, 3, 9, 41) := by decide +kernel
theorem r194_4 : rowAt 194 4 = some (.aload_n 0, 1, 0, 0) := by decide +kernel
theorem r194_5 : rowAt 194 5 = some (.getfield 7, 3, 9, 1) := by decide +kernel
theorem r194_8 : rowAt 194 8 = some (.invokestatic 346, 3, 166, 1) := by decide +kernel
theorem r194_11 : rowAt 194 11 = some (.aload_n 0, 1, 0, 0) := by decide +kernel
theorem r194_12 : rowAt 194 12 = some (.getfield 103, 3, 9, 42) := by decide +kernel
theorem r194_15 : rowAt 194 15 = some (.aload_n 0, 1, 0, 0) := by decide +kernel
theorem r194_16 : rowAt 194 16 = some (.getfield 37, 3, 9, 10) := by decide +kernel
theorem r194_19 : rowAt 194 19 = some (.invokestatic 346, 3, 166, 1) := by decide +kernel
theorem r194_22 : rowAt 194 22 = some (.aload_n 0, 1, 0, 0) := by decide +kernel
theorem r194_23 : rowAt 194 23 = some (.getfield 106, 3, 9, 43) := by decide +kernel
theorem r194_26 : rowAt 194 26 = some (.aload_n 0, 1, 0, 0) := by decide +kernel
theorem r194_27 : rowAt 194 27 = some (.getfield 40, 3, 9, 11) := by decide +kernel
theorem r194_30 : rowAt 194 30 = some (.invokestatic 346, 3, 166, 1) := by decide +kernel
theorem r194_33 : rowAt 194 33 = some (.return_, 1, 0, 0) := by decide +kernel
theorem en194 (a0 : Nat) : iniL 194 [.ref a0] = [.ref a0] := ini_n mi194 rfl
theorem b194_0 (d : Nat) (l0 : Nat) (h : aH) (K : Option Value → aH → Prop) : E scr false (d + 1) 194 0 [.ref l0] [] h K = gR scr h l0 9 41 (fun x1 : Nat => gR scr h l0 9 1 (fun x2 : Nat => sV scr d 166 [.ref x1, .ref x2] h (fun h3 : aH => gR scr h3 l0 9 42 (fun x5 : Nat => gR scr h3 l0 9 10 (fun x6 : Nat => sV scr d 166 [.ref x5, .ref x6] h3 (fun h7 : aH => gR scr h7 l0 9 43 (fun x9 : Nat => gR scr h7 l0 9 11 (fun x10 : Nat => sV scr d 166 [.ref x9, .ref x10] h7 (fun h11 : aH => K none h11))))))))) := go (w := (1, [.ref l0], [.ref l0], h)) r194_0 rfl rfl (E_gR r194_1 rfl (fun x1 => go (w := (5, [.ref l0], [.ref l0, .ref x1], h)) r194_4 rfl rfl (E_gR r194_5 rfl (fun x2 => E_sV r194_8 (As := [.ref x1, .ref x2]) (rest := []) (cut_n mi166.1 rfl rfl) (rm8_n mi166.2.1 (Nat.le_of_ble_eq_true rfl) (Nat.le_of_ble_eq_true rfl)) mi166.2.2 (fun h3 => go (w := (12, [.ref l0], [.ref l0], h3)) r194_11 rfl rfl (E_gR r194_12 rfl (fun x5 => go (w := (16, [.ref l0], [.ref l0, .ref x5], h3)) r194_15 rfl rfl (E_gR r194_16 rfl (fun x6 => E_sV r194_19 (As := [.ref x5, .ref x6]) (rest := []) (cut_n mi166.1 rfl rfl) (rm8_n mi166.2.1 (Nat.le_of_ble_eq_true rfl) (Nat.le_of_ble_eq_true rfl)) mi166.2.2 (fun h7 => go (w := (23, [.ref l0], [.ref l0], h7)) r194_22 rfl rfl (E_gR r194_23 rfl (fun x9 => go (w := (27, [.ref l0], [.ref l0, .ref x9], h7)) r194_26 rfl rfl (E_gR r194_27 rfl (fun x10 => E_sV r194_30 (As := [.ref x9, .ref x10]) (rest := []) (cut_n mi166.1 rfl rfl) (rm8_n mi166.2.1 (Nat.le_of_ble_eq_true rfl) (Nat.le_of_ble_eq_true rfl)) mi166.2.2 (fun h11 => E_vret r194_33 (mq194))))))))))))))))
-- 195 SecondNearestModel.isAsked(II)Z
theorem mq195 : mRet 195 = (some .boolean) := by decide +kernel
theorem r195_0 : rowAt 195 0 = some (.aload_n 0, 1, 0, 0) := by decide +kernel
theorem r195_1 : rowAt 195 1 = some (.invokevirtual 407, 3, 124, 0) := by decide +kernel
theorem r195_4 : rowAt 195 4 = some (.ifCond .eq 27, 3, 0, 0) := by decide +kernel
theorem r195_7 : rowAt 195 7 = some (.aload_n 0, 1, 0, 0) := by decide +kernel
theorem r195_8 : rowAt 195 8 = some (.iload_n 1, 1, 0, 0) := by decide +kernel
theorem r195_9 : rowAt 195 9 = some (.invokevirtual 410, 3, 172, 0) := by decide +kernel
theorem r195_12 : rowAt 195 12 = some (.ifCond .eq 19, 3, 0, 0) := by decide +kernel
theorem r195_15 : rowAt 195 15 = some (.iload_n 2, 1, 0, 0) := by decide +kernel
theorem r195_16 : rowAt 195 16 = some (.i2l, 1, 0, 0) := by decide +kernel
theorem r195_17 : rowAt 195 17 = some (.lconst 0, 1, 0, 0) := by decide +kernel
theorem r195_18 : rowAt 195 18 = some (.ldc2_w 413, 3, 200, 0) := by decide +kernel
theorem r195_21 : rowAt 195 21 = some (.invokestatic 143, 3, 121, 1) := by decide +kernel
theorem r195_24 : rowAt 195 24 = some (.ifCond .eq 7, 3, 0, 0) := by decide +kernel
theorem r195_27 : rowAt 195 27 = some (.iconst 1, 1, 0, 0) := by decide +kernel
theorem r195_28 : rowAt 195 28 = some (.goto 4, 3, 0, 0) := by decide +kernel
theorem r195_31 : rowAt 195 31 = some (.iconst 0, 1, 0, 0) := by decide +kernel
theorem r195_32 : rowAt 195 32 = some (.ireturn, 1, 0, 0) := by decide +kernel
theorem en195 (a0 : Nat) (a1 : Int32) (a2 : Int32) : iniL 195 [.ref a0, .int a1, .int a2] = [.ref a0, .int a1, .int a2] := ini_n mi195 rfl
theorem b195_0 (d : Nat) (l0 : Nat) (l1 : Int32) (l2 : Int32) (h : aH) (K : Option Value → aH → Prop) : E scr false (d + 1) 195 0 [.ref l0, .int l1, .int l2] [] h K = vI scr d 124 [.ref l0] h (fun (x2 : Int32) (h1 : aH) => (if x2 = 0 then K (some (.int 0)) h1 else vI scr d 172 [.ref l0, .int l1] h1 (fun (x4 : Int32) (h3 : aH) => (if x4 = 0 then K (some (.int 0)) h3 else sI scr d 121 [.long (Int32.toInt64 l2), .long 0, .long 200] h3 (fun (x6 : Int32) (h5 : aH) => (if x6 = 0 then K (some (.int 0)) h5 else K (some (.int 1)) h5)))))) := go (w := (1, [.ref l0, .int l1, .int l2], [.ref l0], h)) r195_0 rfl rfl (E_vI r195_1 (As := [.ref l0]) (rest := []) (cut_n mi124.1 rfl rfl) (rm8_n mi124.2.1 (Nat.le_of_ble_eq_true rfl) (Nat.le_of_ble_eq_true rfl)) mi124.2.2 (fun x2 h1 => E_i1_eq r195_4 rfl (E_ic r195_31 (v := 0) (by decide) (E_rz r195_32 (mq195) (by decide))) (go (w := (8, [.ref l0, .int l1, .int l2], [.ref l0], h1)) r195_7 rfl rfl (go (w := (9, [.ref l0, .int l1, .int l2], [.int l1, .ref l0], h1)) r195_8 rfl rfl (E_vI r195_9 (As := [.ref l0, .int l1]) (rest := []) (cut_n mi172.1 rfl rfl) (rm8_n mi172.2.1 (Nat.le_of_ble_eq_true rfl) (Nat.le_of_ble_eq_true rfl)) mi172.2.2 (fun x4 h3 => E_i1_eq r195_12 rfl (E_ic r195_31 (v := 0) (by decide) (E_rz r195_32 (mq195) (by decide))) (go (w := (16, [.ref l0, .int l1, .int l2], [.int l2], h3)) r195_15 rfl rfl (go (w := (17, [.ref l0, .int l1, .int l2], [.long (Int32.toInt64 l2)], h3)) r195_16 rfl rfl (E_lc r195_17 (v := 0) (by decide) (E_ld2 r195_18 (v := 200) (by decide) (E_sI r195_21 (As := [.long (Int32.toInt64 l2), .long 0, .long 200]) (rest := []) (cut_n mi121.1 rfl rfl) (rm8_n mi121.2.1 (Nat.le_of_ble_eq_true rfl) (Nat.le_of_ble_eq_true rfl)) mi121.2.2 (fun x6 h5 => E_i1_eq r195_24 rfl (E_ic r195_31 (v := 0) (by decide) (E_rz r195_32 (mq195) (by decide))) (E_ic r195_27 (v := 1) (by decide) (E_gt r195_28 rfl (E_rz r195_32 (mq195) (by decide))))))))))))))))
-- 196 SecondNearestModel.ahead(III)I
theorem mq196 : mRet 196 = (some .int) := by decide +kernel
theorem r196_0 : rowAt 196 0 = some (.aload_n 0, 1, 0, 0) := by decide +kernel
theorem r196_1 : rowAt 196 1 = some (.iload_n 1, 1, 0, 0) := by decide +kernel
theorem r196_2 : rowAt 196 2 = some (.iload_n 2, 1, 0, 0) := by decide +kernel
theorem r196_3 : rowAt 196 3 = some (.invokevirtual 426, 3, 195, 0) := by decide +kernel
theorem r196_6 : rowAt 196 6 = some (.ifCond .eq 23, 3, 0, 0) := by decide +kernel
theorem r196_9 : rowAt 196 9 = some (.iload_n 3, 1, 0, 0) := by decide +kernel
theorem r196_10 : rowAt 196 10 = some (.i2l, 1, 0, 0) := by decide +kernel
theorem r196_11 : rowAt 196 11 = some (.lconst 0, 1, 0, 0) := by decide +kernel
theorem r196_12 : rowAt 196 12 = some (.lconst 1, 1, 0, 0) := by decide +kernel
theorem r196_13 : rowAt 196 13 = some (.invokestatic 143, 3, 121, 1) := by decide +kernel
theorem r196_16 : rowAt 196 16 = some (.ifCond .ne 15, 3, 0, 0) := by decide +kernel
theorem r196_19 : rowAt 196 19 = some (.aload_n 0, 1, 0, 0) := by decide +kernel
theorem r196_20 : rowAt 196 20 = some (.iload_n 3, 1, 0, 0) := by decide +kernel
theorem r196_21 : rowAt 196 21 = some (.iconst 2, 1, 0, 0) := by decide +kernel
theorem r196_22 : rowAt 196 22 = some (.isub, 1, 0, 0) := by decide +kernel
theorem r196_23 : rowAt 196 23 = some (.invokevirtual 151, 3, 127, 0) := by decide +kernel
theorem r196_26 : rowAt 196 26 = some (.ifCond .ne 5, 3, 0, 0) := by decide +kernel
theorem r196_29 : rowAt 196 29 = some (.iconst (-1), 1, 0, 0) := by decide +kernel
theorem r196_30 : rowAt 196 30 = some (.ireturn, 1, 0, 0) := by decide +kernel
theorem r196_31 : rowAt 196 31 = some (.aload_n 0, 1, 0, 0) := by decide +kernel
theorem r196_32 : rowAt 196 32 = some (.invokevirtual 429, 3, 193, 0) := by decide +kernel
theorem r196_35 : rowAt 196 35 = some (.aload_n 0, 1, 0, 0) := by decide +kernel
theorem r196_36 : rowAt 196 36 = some (.iconst 0, 1, 0, 0) := by decide +kernel
theorem r196_37 : rowAt 196 37 = some (.putfield 398, 3, 9, 40) := by decide +kernel
theorem r196_40 : rowAt 196 40 = some (.aload_n 0, 1, 0, 0) := by decide +kernel
theorem r196_41 : rowAt 196 41 = some (.iload_n 1, 1, 0, 0) := by decide +kernel
theorem r196_42 : rowAt 196 42 = some (.iload_n 2, 1, 0, 0) := by decide +kernel
theorem r196_43 : rowAt 196 43 = some (.invokevirtual 415, 3, 181, 0) := by decide +kernel
theorem r196_46 : rowAt 196 46 = some (.iload_n 3, 1, 0, 0) := by decide +kernel
theorem r196_47 : rowAt 196 47 = some (.ifCond .ne 10, 3, 0, 0) := by decide +kernel
theorem r196_50 : rowAt 196 50 = some (.aload_n 0, 1, 0, 0) := by decide +kernel
theorem r196_51 : rowAt 196 51 = some (.invokevirtual 432, 3, 182, 0) := by decide +kernel
theorem r196_54 : rowAt 196 54 = some (.goto 7, 3, 0, 0) := by decide +kernel
theorem r196_57 : rowAt 196 57 = some (.aload_n 0, 1, 0, 0) := by decide +kernel
theorem r196_58 : rowAt 196 58 = some (.getfield 398, 3, 9, 40) := by decide +kernel
theorem r196_61 : rowAt 196 61 = some (.istore 4, 2, 0, 0) := by decide +kernel
theorem r196_63 : rowAt 196 63 = some (.iload_n 3, 1, 0, 0) := by decide +kernel
theorem r196_64 : rowAt 196 64 = some (.iconst 1, 1, 0, 0) := by decide +kernel
theorem r196_65 : rowAt 196 65 = some (.if_icmp .le 55, 3, 0, 0) := by decide +kernel
theorem r196_68 : rowAt 196 68 = some (.iload_n 3, 1, 0, 0) := by decide +kernel
theorem r196_69 : rowAt 196 69 = some (.iconst 2, 1, 0, 0) := by decide +kernel
theorem r196_70 : rowAt 196 70 = some (.isub, 1, 0, 0) := by decide +kernel
theorem r196_71 : rowAt 196 71 = some (.istore 5, 2, 0, 0) := by decide +kernel
theorem r196_73 : rowAt 196 73 = some (.aload_n 0, 1, 0, 0) := by decide +kernel
theorem r196_74 : rowAt 196 74 = some (.getfield 103, 3, 9, 42) := by decide +kernel
theorem r196_77 : rowAt 196 77 = some (.iload 5, 2, 0, 0) := by decide +kernel
theorem r196_79 : rowAt 196 79 = some (.iaload, 1, 0, 0) := by decide +kernel
theorem r196_80 : rowAt 196 80 = some (.iconst (-1), 1, 0, 0) := by decide +kernel
theorem r196_81 : rowAt 196 81 = some (.if_icmp .ne 7, 3, 0, 0) := by decide +kernel
theorem r196_84 : rowAt 196 84 = some (.iconst 0, 1, 0, 0) := by decide +kernel
theorem r196_85 : rowAt 196 85 = some (.goto 33, 3, 0, 0) := by decide +kernel
theorem r196_88 : rowAt 196 88 = some (.aload_n 0, 1, 0, 0) := by decide +kernel
theorem r196_89 : rowAt 196 89 = some (.getfield 37, 3, 9, 10) := by decide +kernel
theorem r196_92 : rowAt 196 92 = some (.iload 5, 2, 0, 0) := by decide +kernel
theorem r196_94 : rowAt 196 94 = some (.iaload, 1, 0, 0) := by decide +kernel
theorem r196_95 : rowAt 196 95 = some (.iconst (-1), 1, 0, 0) := by decide +kernel
theorem r196_96 : rowAt 196 96 = some (.if_icmp .ne 20, 3, 0, 0) := by decide +kernel
theorem r196_99 : rowAt 196 99 = some (.aload_n 0, 1, 0, 0) := by decide +kernel
theorem r196_100 : rowAt 196 100 = some (.getfield 40, 3, 9, 11) := by decide +kernel
theorem r196_103 : rowAt 196 103 = some (.iload 5, 2, 0, 0) := by decide +kernel
theorem r196_105 : rowAt 196 105 = some (.iaload, 1, 0, 0) := by decide +kernel
theorem r196_106 : rowAt 196 106 = some (.aload_n 0, 1, 0, 0) := by decide +kernel
theorem r196_107 : rowAt 196 107 = some (.getfield 100, 3, 9, 41) := by decide +kernel
theorem r196_110 : rowAt 196 110 = some (.iconst 4, 1, 0, 0) := by decide +kernel
theorem r196_111 : rowAt 196 111 = some (.iaload, 1, 0, 0) := by decide +kernel
theorem r196_112 : rowAt 196 112 = some (.isub, 1, 0, 0) := by decide +kernel
theorem r196_113 : rowAt 196 113 = some (.goto 5, 3, 0, 0) := by decide +kernel
theorem r196_116 : rowAt 196 116 = some (.bipush (-2), 2, 0, 0) := by decide +kernel
theorem r196_118 : rowAt 196 118 = some (.istore 4, 2, 0, 0) := by decide +kernel
theorem r196_120 : rowAt 196 120 = some (.aload_n 0, 1, 0, 0) := by decide +kernel
theorem r196_121 : rowAt 196 121 = some (.invokevirtual 435, 3, 194, 0) := by decide +kernel
theorem r196_124 : rowAt 196 124 = some (.iload 4, 2, 0, 0) := by decide +kernel
theorem r196_126 : rowAt 196 126 = some (.ireturn, 1, 0, 0) := by decide +kernel
theorem en196 (a0 : Nat) (a1 : Int32) (a2 : Int32) (a3 : Int32) : iniL 196 [.ref a0, .int a1, .int a2, .int a3] = [.ref a0, .int a1, .int a2, .int a3, .null, .null] := ini_n mi196 rfl
theorem b196_0 (d : Nat) (l0 : Nat) (l1 : Int32) (l2 : Int32) (l3 : Int32) (h : aH) (K : Option Value → aH → Prop) : E scr false (d + 1) 196 0 [.ref l0, .int l1, .int l2, .int l3, .null, .null] [] h K = vI scr d 195 [.ref l0, .int l1, .int l2] h (fun (x2 : Int32) (h1 : aH) => (if x2 = 0 then K (some (.int (-1))) h1 else sI scr d 121 [.long (Int32.toInt64 l3), .long 0, .long 1] h1 (fun (x4 : Int32) (h3 : aH) => (if x4 = 0 then vI scr d 127 [.ref l0, .int (l3 - 2)] h3 (fun (x6 : Int32) (h5 : aH) => (if x6 = 0 then K (some (.int (-1))) h5 else E scr false (d + 1) 196 31 [.ref l0, .int l1, .int l2, .int l3, .null, .null] [] h5 K)) else E scr false (d + 1) 196 31 [.ref l0, .int l1, .int l2, .int l3, .null, .null] [] h3 K)))) := go (w := (1, [.ref l0, .int l1, .int l2, .int l3, .null, .null], [.ref l0], h)) r196_0 rfl rfl (go (w := (2, [.ref l0, .int l1, .int l2, .int l3, .null, .null], [.int l1, .ref l0], h)) r196_1 rfl rfl (go (w := (3, [.ref l0, .int l1, .int l2, .int l3, .null, .null], [.int l2, .int l1, .ref l0], h)) r196_2 rfl rfl (E_vI r196_3 (As := [.ref l0, .int l1, .int l2]) (rest := []) (cut_n mi195.1 rfl rfl) (rm8_n mi195.2.1 (Nat.le_of_ble_eq_true rfl) (Nat.le_of_ble_eq_true rfl)) mi195.2.2 (fun x2 h1 => E_i1_eq r196_6 rfl (E_ic r196_29 (v := (-1)) (by decide) (E_ri r196_30 (mq196))) (go (w := (10, [.ref l0, .int l1, .int l2, .int l3, .null, .null], [.int l3], h1)) r196_9 rfl rfl (go (w := (11, [.ref l0, .int l1, .int l2, .int l3, .null, .null], [.long (Int32.toInt64 l3)], h1)) r196_10 rfl rfl (E_lc r196_11 (v := 0) (by decide) (E_lc r196_12 (v := 1) (by decide) (E_sI r196_13 (As := [.long (Int32.toInt64 l3), .long 0, .long 1]) (rest := []) (cut_n mi121.1 rfl rfl) (rm8_n mi121.2.1 (Nat.le_of_ble_eq_true rfl) (Nat.le_of_ble_eq_true rfl)) mi121.2.2 (fun x4 h3 => E_i1_ne r196_16 rfl (rfl) (go (w := (20, [.ref l0, .int l1, .int l2, .int l3, .null, .null], [.ref l0], h3)) r196_19 rfl rfl (go (w := (21, [.ref l0, .int l1, .int l2, .int l3, .null, .null], [.int l3, .ref l0], h3)) r196_20 rfl rfl (E_ic r196_21 (v := 2) (by decide) (go (w := (23, [.ref l0, .int l1, .int l2, .int l3, .null, .null], [.int (l3 - 2), .ref l0], h3)) r196_22 rfl rfl (E_vI r196_23 (As := [.ref l0, .int (l3 - 2)]) (rest := []) (cut_n mi127.1 rfl rfl) (rm8_n mi127.2.1 (Nat.le_of_ble_eq_true rfl) (Nat.le_of_ble_eq_true rfl)) mi127.2.2 (fun x6 h5 => E_i1_ne r196_26 rfl (rfl) (E_ic r196_29 (v := (-1)) (by decide) (E_ri r196_30 (mq196)))))))))))))))))))
theorem b196_31 (d : Nat) (l0 : Nat) (l1 : Int32) (l2 : Int32) (l3 : Int32) (h : aH) (K : Option Value → aH → Prop) : E scr false (d + 1) 196 31 [.ref l0, .int l1, .int l2, .int l3, .null, .null] [] h K = vV scr d 193 [.ref l0] h (fun h1 : aH => pF h1 l0 9 40 (.int 0) (fun h3 : aH => vV scr d 181 [.ref l0, .int l1, .int l2] h3 (fun h4 : aH => (if l3 = 0 then vI scr d 182 [.ref l0] h4 (fun (x8 : Int32) (h7 : aH) => E scr false (d + 1) 196 61 [.ref l0, .int l1, .int l2, .int l3, .null, .null] [.int x8] h7 K) else gI scr h4 l0 9 40 (fun x6 : Int32 => E scr false (d + 1) 196 61 [.ref l0, .int l1, .int l2, .int l3, .null, .null] [.int x6] h4 K))))) := go (w := (32, [.ref l0, .int l1, .int l2, .int l3, .null, .null], [.ref l0], h)) r196_31 rfl rfl (E_vV r196_32 (As := [.ref l0]) (rest := []) (cut_n mi193.1 rfl rfl) (rm8_n mi193.2.1 (Nat.le_of_ble_eq_true rfl) (Nat.le_of_ble_eq_true rfl)) mi193.2.2 (fun h1 => go (w := (36, [.ref l0, .int l1, .int l2, .int l3, .null, .null], [.ref l0], h1)) r196_35 rfl rfl (E_ic r196_36 (v := 0) (by decide) (E_pI r196_37 ⟨rfl, rfl⟩ (fun h3 => go (w := (41, [.ref l0, .int l1, .int l2, .int l3, .null, .null], [.ref l0], h3)) r196_40 rfl rfl (go (w := (42, [.ref l0, .int l1, .int l2, .int l3, .null, .null], [.int l1, .ref l0], h3)) r196_41 rfl rfl (go (w := (43, [.ref l0, .int l1, .int l2, .int l3, .null, .null], [.int l2, .int l1, .ref l0], h3)) r196_42 rfl rfl (E_vV r196_43 (As := [.ref l0, .int l1, .int l2]) (rest := []) (cut_n mi181.1 rfl rfl) (rm8_n mi181.2.1 (Nat.le_of_ble_eq_true rfl) (Nat.le_of_ble_eq_true rfl)) mi181.2.2 (fun h4 => go (w := (47, [.ref l0, .int l1, .int l2, .int l3, .null, .null], [.int l3], h4)) r196_46 rfl rfl (E_i1_ne r196_47 rfl (go (w := (58, [.ref l0, .int l1, .int l2, .int l3, .null, .null], [.ref l0], h4)) r196_57 rfl rfl (E_gI r196_58 rfl (fun x6 => rfl))) (go (w := (51, [.ref l0, .int l1, .int l2, .int l3, .null, .null], [.ref l0], h4)) r196_50 rfl rfl (E_vI r196_51 (As := [.ref l0]) (rest := []) (cut_n mi182.1 rfl rfl) (rm8_n mi182.2.1 (Nat.le_of_ble_eq_true rfl) (Nat.le_of_ble_eq_true rfl)) mi182.2.2 (fun x8 h7 => E_gt r196_54 rfl (rfl))))))))))))))
theorem b196_61 (d : Nat) (l0 : Nat) (l1 : Int32) (l2 : Int32) (l3 : Int32) (s0 : Int32) (h : aH) (K : Option Value → aH → Prop) : E scr false d 196 61 [.ref l0, .int l1, .int l2, .int l3, .null, .null] [.int s0] h K = (if l3 ≤ 1 then E scr false d 196 120 [.ref l0, .int l1, .int l2, .int l3, .int s0, .null] [] h K else gR scr h l0 9 42 (fun x1 : Nat => aI scr h x1 ((l3 - 2)) (fun x2 : Int32 => (if x2 = (-1) then E scr false d 196 118 [.ref l0, .int l1, .int l2, .int l3, .int s0, .int (l3 - 2)] [.int 0] h K else gR scr h l0 9 10 (fun x3 : Nat => aI scr h x3 ((l3 - 2)) (fun x4 : Int32 => (if x4 = (-1) then gR scr h l0 9 11 (fun x5 : Nat => aI scr h x5 ((l3 - 2)) (fun x6 : Int32 => gR scr h l0 9 41 (fun x7 : Nat => aI scr h x7 4 (fun x8 : Int32 => E scr false d 196 118 [.ref l0, .int l1, .int l2, .int l3, .int s0, .int (l3 - 2)] [.int (x6 - x8)] h K)))) else E scr false d 196 118 [.ref l0, .int l1, .int l2, .int l3, .int s0, .int (l3 - 2)] [.int (-2)] h K))))))) := go (w := (63, [.ref l0, .int l1, .int l2, .int l3, .int s0, .null], [], h)) r196_61 rfl rfl (go (w := (64, [.ref l0, .int l1, .int l2, .int l3, .int s0, .null], [.int l3], h)) r196_63 rfl rfl (E_ic r196_64 (v := 1) (by decide) (E_i2_le r196_65 rfl (rfl) (go (w := (69, [.ref l0, .int l1, .int l2, .int l3, .int s0, .null], [.int l3], h)) r196_68 rfl rfl (E_ic r196_69 (v := 2) (by decide) (go (w := (71, [.ref l0, .int l1, .int l2, .int l3, .int s0, .null], [.int (l3 - 2)], h)) r196_70 rfl rfl (go (w := (73, [.ref l0, .int l1, .int l2, .int l3, .int s0, .int (l3 - 2)], [], h)) r196_71 rfl rfl (go (w := (74, [.ref l0, .int l1, .int l2, .int l3, .int s0, .int (l3 - 2)], [.ref l0], h)) r196_73 rfl rfl (E_gR r196_74 rfl (fun x1 => go (w := (79, [.ref l0, .int l1, .int l2, .int l3, .int s0, .int (l3 - 2)], [.int (l3 - 2), .ref x1], h)) r196_77 rfl rfl (E_aI r196_79 (fun x2 => E_ic r196_80 (v := (-1)) (by decide) (E_i2_ne r196_81 rfl (go (w := (89, [.ref l0, .int l1, .int l2, .int l3, .int s0, .int (l3 - 2)], [.ref l0], h)) r196_88 rfl rfl (E_gR r196_89 rfl (fun x3 => go (w := (94, [.ref l0, .int l1, .int l2, .int l3, .int s0, .int (l3 - 2)], [.int (l3 - 2), .ref x3], h)) r196_92 rfl rfl (E_aI r196_94 (fun x4 => E_ic r196_95 (v := (-1)) (by decide) (E_i2_ne r196_96 rfl (E_bip r196_116 (v := (-2)) (by decide) (rfl)) (go (w := (100, [.ref l0, .int l1, .int l2, .int l3, .int s0, .int (l3 - 2)], [.ref l0], h)) r196_99 rfl rfl (E_gR r196_100 rfl (fun x5 => go (w := (105, [.ref l0, .int l1, .int l2, .int l3, .int s0, .int (l3 - 2)], [.int (l3 - 2), .ref x5], h)) r196_103 rfl rfl (E_aI r196_105 (fun x6 => go (w := (107, [.ref l0, .int l1, .int l2, .int l3, .int s0, .int (l3 - 2)], [.ref l0, .int x6], h)) r196_106 rfl rfl (E_gR r196_107 rfl (fun x7 => E_ic r196_110 (v := 4) (by decide) (E_aI r196_111 (fun x8 => go (w := (113, [.ref l0, .int l1, .int l2, .int l3, .int s0, .int (l3 - 2)], [.int (x6 - x8)], h)) r196_112 rfl rfl (E_gt r196_113 rfl (rfl))))))))))))))))) (E_ic r196_84 (v := 0) (by decide) (E_gt r196_85 rfl (rfl))))))))))))))))
theorem b196_118 (d : Nat) (l0 : Nat) (l1 : Int32) (l2 : Int32) (l3 : Int32) (l4 : Int32) (l5 : Int32) (s0 : Int32) (h : aH) (K : Option Value → aH → Prop) : E scr false d 196 118 [.ref l0, .int l1, .int l2, .int l3, .int l4, .int l5] [.int s0] h K = E scr false d 196 120 [.ref l0, .int l1, .int l2, .int l3, .int s0, .int l5] [] h K := go (w := (120, [.ref l0, .int l1, .int l2, .int l3, .int s0, .int l5], [], h)) r196_118 rfl rfl (rfl)
theorem b196_120 (d : Nat) (l0 : Nat) (l1 : Int32) (l2 : Int32) (l3 : Int32) (l4 : Int32) (l5 : Value) (h : aH) (K : Option Value → aH → Prop) : E scr false (d + 1) 196 120 [.ref l0, .int l1, .int l2, .int l3, .int l4, l5] [] h K = vV scr d 194 [.ref l0] h (fun h1 : aH => K (some (.int l4)) h1) := go (w := (121, [.ref l0, .int l1, .int l2, .int l3, .int l4, l5], [.ref l0], h)) r196_120 rfl rfl (E_vV r196_121 (As := [.ref l0]) (rest := []) (cut_n mi194.1 rfl rfl) (rm8_n mi194.2.1 (Nat.le_of_ble_eq_true rfl) (Nat.le_of_ble_eq_true rfl)) mi194.2.2 (fun h1 => go (w := (126, [.ref l0, .int l1, .int l2, .int l3, .int l4, l5], [.int l4], h1)) r196_124 rfl rfl (E_ri r196_126 (mq196))))
-- 197 SecondNearestModel.areSame(II)Z
theorem mq197 : mRet 197 = (some .boolean) := by decide +kernel
theorem r197_0 : rowAt 197 0 = some (.iconst 1, 1, 0, 0) := by decide +kernel
theorem r197_1 : rowAt 197 1 = some (.istore_n 3, 1, 0, 0) := by decide +kernel
theorem r197_2 : rowAt 197 2 = some (.iconst 0, 1, 0, 0) := by decide +kernel
theorem r197_3 : rowAt 197 3 = some (.istore 4, 2, 0, 0) := by decide +kernel
theorem r197_5 : rowAt 197 5 = some (.iload 4, 2, 0, 0) := by decide +kernel
theorem r197_7 : rowAt 197 7 = some (.aload_n 0, 1, 0, 0) := by decide +kernel
theorem r197_8 : rowAt 197 8 = some (.getfield 7, 3, 9, 1) := by decide +kernel
theorem r197_11 : rowAt 197 11 = some (.iconst 2, 1, 0, 0) := by decide +kernel
theorem r197_12 : rowAt 197 12 = some (.iaload, 1, 0, 0) := by decide +kernel
theorem r197_13 : rowAt 197 13 = some (.if_icmp .ge 46, 3, 0, 0) := by decide +kernel
theorem r197_16 : rowAt 197 16 = some (.iload_n 3, 1, 0, 0) := by decide +kernel
theorem r197_17 : rowAt 197 17 = some (.ifCond .eq 42, 3, 0, 0) := by decide +kernel
theorem r197_20 : rowAt 197 20 = some (.aload_n 0, 1, 0, 0) := by decide +kernel
theorem r197_21 : rowAt 197 21 = some (.getfield 109, 3, 9, 44) := by decide +kernel
theorem r197_24 : rowAt 197 24 = some (.bipush 12, 2, 0, 0) := by decide +kernel
theorem r197_26 : rowAt 197 26 = some (.iload_n 1, 1, 0, 0) := by decide +kernel
theorem r197_27 : rowAt 197 27 = some (.imul, 1, 0, 0) := by decide +kernel
theorem r197_28 : rowAt 197 28 = some (.iload 4, 2, 0, 0) := by decide +kernel
theorem r197_30 : rowAt 197 30 = some (.iadd, 1, 0, 0) := by decide +kernel
theorem r197_31 : rowAt 197 31 = some (.iaload, 1, 0, 0) := by decide +kernel
theorem r197_32 : rowAt 197 32 = some (.aload_n 0, 1, 0, 0) := by decide +kernel
theorem r197_33 : rowAt 197 33 = some (.getfield 109, 3, 9, 44) := by decide +kernel
theorem r197_36 : rowAt 197 36 = some (.bipush 12, 2, 0, 0) := by decide +kernel
theorem r197_38 : rowAt 197 38 = some (.iload_n 2, 1, 0, 0) := by decide +kernel
theorem r197_39 : rowAt 197 39 = some (.imul, 1, 0, 0) := by decide +kernel
theorem r197_40 : rowAt 197 40 = some (.iload 4, 2, 0, 0) := by decide +kernel
theorem r197_42 : rowAt 197 42 = some (.iadd, 1, 0, 0) := by decide +kernel
theorem r197_43 : rowAt 197 43 = some (.iaload, 1, 0, 0) := by decide +kernel
theorem r197_44 : rowAt 197 44 = some (.if_icmp .ne 7, 3, 0, 0) := by decide +kernel
theorem r197_47 : rowAt 197 47 = some (.iconst 1, 1, 0, 0) := by decide +kernel
theorem r197_48 : rowAt 197 48 = some (.goto 4, 3, 0, 0) := by decide +kernel
theorem r197_51 : rowAt 197 51 = some (.iconst 0, 1, 0, 0) := by decide +kernel
theorem r197_52 : rowAt 197 52 = some (.istore_n 3, 1, 0, 0) := by decide +kernel
theorem r197_53 : rowAt 197 53 = some (.iinc 4 1, 3, 0, 0) := by decide +kernel
theorem r197_56 : rowAt 197 56 = some (.goto (-51), 3, 0, 0) := by decide +kernel
theorem r197_59 : rowAt 197 59 = some (.iload_n 3, 1, 0, 0) := by decide +kernel
theorem r197_60 : rowAt 197 60 = some (.ireturn, 1, 0, 0) := by decide +kernel
theorem en197 (a0 : Nat) (a1 : Int32) (a2 : Int32) : iniL 197 [.ref a0, .int a1, .int a2] = [.ref a0, .int a1, .int a2, .null, .null] := ini_n mi197 rfl
theorem b197_0 (d : Nat) (l0 : Nat) (l1 : Int32) (l2 : Int32) (h : aH) (K : Option Value → aH → Prop) : E scr false d 197 0 [.ref l0, .int l1, .int l2, .null, .null] [] h K = E scr false d 197 5 [.ref l0, .int l1, .int l2, .int 1, .int 0] [] h K := E_ic r197_0 (v := 1) (by decide) (go (w := (2, [.ref l0, .int l1, .int l2, .int 1, .null], [], h)) r197_1 rfl rfl (E_ic r197_2 (v := 0) (by decide) (go (w := (5, [.ref l0, .int l1, .int l2, .int 1, .int 0], [], h)) r197_3 rfl rfl (rfl))))
theorem b197_5 (d : Nat) (l0 : Nat) (l1 : Int32) (l2 : Int32) (l3 : Int32) (l4 : Int32) (h : aH) (K : Option Value → aH → Prop) : E scr false d 197 5 [.ref l0, .int l1, .int l2, .int l3, .int l4] [] h K = gR scr h l0 9 1 (fun x1 : Nat => aI scr h x1 2 (fun x2 : Int32 => (if x2 ≤ l4 then (l3 &&& 1 = l3 ∧ K (some (.int l3)) h) else (if l3 = 0 then (l3 &&& 1 = l3 ∧ K (some (.int l3)) h) else gR scr h l0 9 44 (fun x3 : Nat => aI scr h x3 (((12 * l1) + l4)) (fun x4 : Int32 => gR scr h l0 9 44 (fun x5 : Nat => aI scr h x5 (((12 * l2) + l4)) (fun x6 : Int32 => (if x4 = x6 then E scr false d 197 52 [.ref l0, .int l1, .int l2, .int l3, .int l4] [.int 1] h K else E scr false d 197 52 [.ref l0, .int l1, .int l2, .int l3, .int l4] [.int 0] h K))))))))) := go (w := (7, [.ref l0, .int l1, .int l2, .int l3, .int l4], [.int l4], h)) r197_5 rfl rfl (go (w := (8, [.ref l0, .int l1, .int l2, .int l3, .int l4], [.ref l0, .int l4], h)) r197_7 rfl rfl (E_gR r197_8 rfl (fun x1 => E_ic r197_11 (v := 2) (by decide) (E_aI r197_12 (fun x2 => E_i2_ge r197_13 rfl (go (w := (60, [.ref l0, .int l1, .int l2, .int l3, .int l4], [.int l3], h)) r197_59 rfl rfl (E_zret r197_60 (mq197))) (go (w := (17, [.ref l0, .int l1, .int l2, .int l3, .int l4], [.int l3], h)) r197_16 rfl rfl (E_i1_eq r197_17 rfl (go (w := (60, [.ref l0, .int l1, .int l2, .int l3, .int l4], [.int l3], h)) r197_59 rfl rfl (E_zret r197_60 (mq197))) (go (w := (21, [.ref l0, .int l1, .int l2, .int l3, .int l4], [.ref l0], h)) r197_20 rfl rfl (E_gR r197_21 rfl (fun x3 => E_bip r197_24 (v := 12) (by decide) (go (w := (27, [.ref l0, .int l1, .int l2, .int l3, .int l4], [.int l1, .int 12, .ref x3], h)) r197_26 rfl rfl (go (w := (28, [.ref l0, .int l1, .int l2, .int l3, .int l4], [.int (12 * l1), .ref x3], h)) r197_27 rfl rfl (go (w := (30, [.ref l0, .int l1, .int l2, .int l3, .int l4], [.int l4, .int (12 * l1), .ref x3], h)) r197_28 rfl rfl (go (w := (31, [.ref l0, .int l1, .int l2, .int l3, .int l4], [.int ((12 * l1) + l4), .ref x3], h)) r197_30 rfl rfl (E_aI r197_31 (fun x4 => go (w := (33, [.ref l0, .int l1, .int l2, .int l3, .int l4], [.ref l0, .int x4], h)) r197_32 rfl rfl (E_gR r197_33 rfl (fun x5 => E_bip r197_36 (v := 12) (by decide) (go (w := (39, [.ref l0, .int l1, .int l2, .int l3, .int l4], [.int l2, .int 12, .ref x5, .int x4], h)) r197_38 rfl rfl (go (w := (40, [.ref l0, .int l1, .int l2, .int l3, .int l4], [.int (12 * l2), .ref x5, .int x4], h)) r197_39 rfl rfl (go (w := (42, [.ref l0, .int l1, .int l2, .int l3, .int l4], [.int l4, .int (12 * l2), .ref x5, .int x4], h)) r197_40 rfl rfl (go (w := (43, [.ref l0, .int l1, .int l2, .int l3, .int l4], [.int ((12 * l2) + l4), .ref x5, .int x4], h)) r197_42 rfl rfl (E_aI r197_43 (fun x6 => E_i2_ne r197_44 rfl (E_ic r197_51 (v := 0) (by decide) (rfl)) (E_ic r197_47 (v := 1) (by decide) (E_gt r197_48 rfl (rfl)))))))))))))))))))))))))))
theorem b197_52 (d : Nat) (l0 : Nat) (l1 : Int32) (l2 : Int32) (l3 : Int32) (l4 : Int32) (s0 : Int32) (h : aH) (K : Option Value → aH → Prop) : E scr false d 197 52 [.ref l0, .int l1, .int l2, .int l3, .int l4] [.int s0] h K = E scr false d 197 5 [.ref l0, .int l1, .int l2, .int s0, .int (l4 + 1)] [] h K := go (w := (53, [.ref l0, .int l1, .int l2, .int s0, .int l4], [], h)) r197_52 rfl rfl (E_inc r197_53 (c := 1) rfl (by decide) (L' := [.ref l0, .int l1, .int l2, .int s0, .int (l4 + 1)]) rfl (E_gt r197_56 rfl (rfl)))
-- 198 SecondNearestModel.round(II)I
theorem mq198 : mRet 198 = (some .int) := by decide +kernel
theorem r198_0 : rowAt 198 0 = some (.aload_n 0, 1, 0, 0) := by decide +kernel
theorem r198_1 : rowAt 198 1 = some (.iload_n 1, 1, 0, 0) := by decide +kernel
theorem r198_2 : rowAt 198 2 = some (.iconst 0, 1, 0, 0) := by decide +kernel
theorem r198_3 : rowAt 198 3 = some (.invokevirtual 426, 3, 195, 0) := by decide +kernel
theorem r198_6 : rowAt 198 6 = some (.ifCond .eq 13, 3, 0, 0) := by decide +kernel
theorem r198_9 : rowAt 198 9 = some (.iload_n 2, 1, 0, 0) := by decide +kernel
theorem r198_10 : rowAt 198 10 = some (.i2l, 1, 0, 0) := by decide +kernel
theorem r198_11 : rowAt 198 11 = some (.lconst 0, 1, 0, 0) := by decide +kernel
theorem r198_12 : rowAt 198 12 = some (.lconst 1, 1, 0, 0) := by decide +kernel
theorem r198_13 : rowAt 198 13 = some (.invokestatic 143, 3, 121, 1) := by decide +kernel
theorem r198_16 : rowAt 198 16 = some (.ifCond .ne 5, 3, 0, 0) := by decide +kernel
theorem r198_19 : rowAt 198 19 = some (.iconst (-1), 1, 0, 0) := by decide +kernel
theorem r198_20 : rowAt 198 20 = some (.ireturn, 1, 0, 0) := by decide +kernel
theorem r198_21 : rowAt 198 21 = some (.aload_n 0, 1, 0, 0) := by decide +kernel
theorem r198_22 : rowAt 198 22 = some (.invokevirtual 429, 3, 193, 0) := by decide +kernel
theorem r198_25 : rowAt 198 25 = some (.bipush (-2), 2, 0, 0) := by decide +kernel
theorem r198_27 : rowAt 198 27 = some (.istore_n 3, 1, 0, 0) := by decide +kernel
theorem r198_28 : rowAt 198 28 = some (.bipush (-2), 2, 0, 0) := by decide +kernel
theorem r198_30 : rowAt 198 30 = some (.istore 4, 2, 0, 0) := by decide +kernel
theorem r198_32 : rowAt 198 32 = some (.iconst 0, 1, 0, 0) := by decide +kernel
theorem r198_33 : rowAt 198 33 = some (.istore 5, 2, 0, 0) := by decide +kernel
theorem r198_35 : rowAt 198 35 = some (.iload 5, 2, 0, 0) := by decide +kernel
theorem r198_37 : rowAt 198 37 = some (.sipush 400, 3, 0, 0) := by decide +kernel
theorem r198_40 : rowAt 198 40 = some (.if_icmp .gt 96, 3, 0, 0) := by decide +kernel
theorem r198_43 : rowAt 198 43 = some (.iload_n 3, 1, 0, 0) := by decide +kernel
theorem r198_44 : rowAt 198 44 = some (.bipush (-2), 2, 0, 0) := by decide +kernel
theorem r198_46 : rowAt 198 46 = some (.if_icmp .ne 90, 3, 0, 0) := by decide +kernel
theorem r198_49 : rowAt 198 49 = some (.iconst 0, 1, 0, 0) := by decide +kernel
theorem r198_50 : rowAt 198 50 = some (.istore 6, 2, 0, 0) := by decide +kernel
theorem r198_52 : rowAt 198 52 = some (.iload 6, 2, 0, 0) := by decide +kernel
theorem r198_54 : rowAt 198 54 = some (.bipush 12, 2, 0, 0) := by decide +kernel
theorem r198_56 : rowAt 198 56 = some (.if_icmp .ge 29, 3, 0, 0) := by decide +kernel
theorem r198_59 : rowAt 198 59 = some (.aload_n 0, 1, 0, 0) := by decide +kernel
theorem r198_60 : rowAt 198 60 = some (.getfield 109, 3, 9, 44) := by decide +kernel
theorem r198_63 : rowAt 198 63 = some (.bipush 12, 2, 0, 0) := by decide +kernel
theorem r198_65 : rowAt 198 65 = some (.iload 5, 2, 0, 0) := by decide +kernel
theorem r198_67 : rowAt 198 67 = some (.imul, 1, 0, 0) := by decide +kernel
theorem r198_68 : rowAt 198 68 = some (.iload 6, 2, 0, 0) := by decide +kernel
theorem r198_70 : rowAt 198 70 = some (.iadd, 1, 0, 0) := by decide +kernel
theorem r198_71 : rowAt 198 71 = some (.aload_n 0, 1, 0, 0) := by decide +kernel
theorem r198_72 : rowAt 198 72 = some (.getfield 37, 3, 9, 10) := by decide +kernel
theorem r198_75 : rowAt 198 75 = some (.iload 6, 2, 0, 0) := by decide +kernel
theorem r198_77 : rowAt 198 77 = some (.iaload, 1, 0, 0) := by decide +kernel
theorem r198_78 : rowAt 198 78 = some (.iastore, 1, 0, 0) := by decide +kernel
theorem r198_79 : rowAt 198 79 = some (.iinc 6 1, 3, 0, 0) := by decide +kernel
theorem r198_82 : rowAt 198 82 = some (.goto (-30), 3, 0, 0) := by decide +kernel
theorem r198_85 : rowAt 198 85 = some (.iconst 0, 1, 0, 0) := by decide +kernel
theorem r198_86 : rowAt 198 86 = some (.istore 6, 2, 0, 0) := by decide +kernel
theorem r198_88 : rowAt 198 88 = some (.iload 6, 2, 0, 0) := by decide +kernel
theorem r198_90 : rowAt 198 90 = some (.iload 5, 2, 0, 0) := by decide +kernel
theorem r198_92 : rowAt 198 92 = some (.if_icmp .ge 33, 3, 0, 0) := by decide +kernel
theorem r198_95 : rowAt 198 95 = some (.iload_n 3, 1, 0, 0) := by decide +kernel
theorem r198_96 : rowAt 198 96 = some (.bipush (-2), 2, 0, 0) := by decide +kernel
theorem r198_98 : rowAt 198 98 = some (.if_icmp .ne 27, 3, 0, 0) := by decide +kernel
theorem r198_101 : rowAt 198 101 = some (.aload_n 0, 1, 0, 0) := by decide +kernel
theorem r198_102 : rowAt 198 102 = some (.iload 6, 2, 0, 0) := by decide +kernel
theorem r198_104 : rowAt 198 104 = some (.iload 5, 2, 0, 0) := by decide +kernel
theorem r198_106 : rowAt 198 106 = some (.invokevirtual 438, 3, 197, 0) := by decide +kernel
theorem r198_109 : rowAt 198 109 = some (.ifCond .eq 10, 3, 0, 0) := by decide +kernel
theorem r198_112 : rowAt 198 112 = some (.iload 6, 2, 0, 0) := by decide +kernel
theorem r198_114 : rowAt 198 114 = some (.istore_n 3, 1, 0, 0) := by decide +kernel
theorem r198_115 : rowAt 198 115 = some (.iload 5, 2, 0, 0) := by decide +kernel
theorem r198_117 : rowAt 198 117 = some (.istore 4, 2, 0, 0) := by decide +kernel
theorem r198_119 : rowAt 198 119 = some (.iinc 6 1, 3, 0, 0) := by decide +kernel
theorem r198_122 : rowAt 198 122 = some (.goto (-34), 3, 0, 0) := by decide +kernel
theorem r198_125 : rowAt 198 125 = some (.aload_n 0, 1, 0, 0) := by decide +kernel
theorem r198_126 : rowAt 198 126 = some (.iload_n 1, 1, 0, 0) := by decide +kernel
theorem r198_127 : rowAt 198 127 = some (.invokevirtual 404, 3, 180, 0) := by decide +kernel
theorem r198_130 : rowAt 198 130 = some (.iinc 5 1, 3, 0, 0) := by decide +kernel
theorem r198_133 : rowAt 198 133 = some (.goto (-98), 3, 0, 0) := by decide +kernel
theorem r198_136 : rowAt 198 136 = some (.aload_n 0, 1, 0, 0) := by decide +kernel
theorem r198_137 : rowAt 198 137 = some (.invokevirtual 435, 3, 194, 0) := by decide +kernel
theorem r198_140 : rowAt 198 140 = some (.iload_n 3, 1, 0, 0) := by decide +kernel
theorem r198_141 : rowAt 198 141 = some (.bipush (-2), 2, 0, 0) := by decide +kernel
theorem r198_143 : rowAt 198 143 = some (.if_icmp .ne 8, 3, 0, 0) := by decide +kernel
theorem r198_146 : rowAt 198 146 = some (.bipush (-2), 2, 0, 0) := by decide +kernel
theorem r198_148 : rowAt 198 148 = some (.goto 15, 3, 0, 0) := by decide +kernel
theorem r198_151 : rowAt 198 151 = some (.iload_n 2, 1, 0, 0) := by decide +kernel
theorem r198_152 : rowAt 198 152 = some (.ifCond .ne 7, 3, 0, 0) := by decide +kernel
theorem r198_155 : rowAt 198 155 = some (.iload_n 3, 1, 0, 0) := by decide +kernel
theorem r198_156 : rowAt 198 156 = some (.goto 7, 3, 0, 0) := by decide +kernel
theorem r198_159 : rowAt 198 159 = some (.iload 4, 2, 0, 0) := by decide +kernel
theorem r198_161 : rowAt 198 161 = some (.iload_n 3, 1, 0, 0) := by decide +kernel
theorem r198_162 : rowAt 198 162 = some (.isub, 1, 0, 0) := by decide +kernel
theorem r198_163 : rowAt 198 163 = some (.ireturn, 1, 0, 0) := by decide +kernel
theorem en198 (a0 : Nat) (a1 : Int32) (a2 : Int32) : iniL 198 [.ref a0, .int a1, .int a2] = [.ref a0, .int a1, .int a2, .null, .null, .null, .null] := ini_n mi198 rfl
theorem b198_0 (d : Nat) (l0 : Nat) (l1 : Int32) (l2 : Int32) (h : aH) (K : Option Value → aH → Prop) : E scr false (d + 1) 198 0 [.ref l0, .int l1, .int l2, .null, .null, .null, .null] [] h K = vI scr d 195 [.ref l0, .int l1, .int 0] h (fun (x2 : Int32) (h1 : aH) => (if x2 = 0 then K (some (.int (-1))) h1 else sI scr d 121 [.long (Int32.toInt64 l2), .long 0, .long 1] h1 (fun (x4 : Int32) (h3 : aH) => (if x4 = 0 then K (some (.int (-1))) h3 else vV scr d 193 [.ref l0] h3 (fun h5 : aH => E scr false (d + 1) 198 35 [.ref l0, .int l1, .int l2, .int (-2), .int (-2), .int 0, .null] [] h5 K))))) := go (w := (1, [.ref l0, .int l1, .int l2, .null, .null, .null, .null], [.ref l0], h)) r198_0 rfl rfl (go (w := (2, [.ref l0, .int l1, .int l2, .null, .null, .null, .null], [.int l1, .ref l0], h)) r198_1 rfl rfl (E_ic r198_2 (v := 0) (by decide) (E_vI r198_3 (As := [.ref l0, .int l1, .int 0]) (rest := []) (cut_n mi195.1 rfl rfl) (rm8_n mi195.2.1 (Nat.le_of_ble_eq_true rfl) (Nat.le_of_ble_eq_true rfl)) mi195.2.2 (fun x2 h1 => E_i1_eq r198_6 rfl (E_ic r198_19 (v := (-1)) (by decide) (E_ri r198_20 (mq198))) (go (w := (10, [.ref l0, .int l1, .int l2, .null, .null, .null, .null], [.int l2], h1)) r198_9 rfl rfl (go (w := (11, [.ref l0, .int l1, .int l2, .null, .null, .null, .null], [.long (Int32.toInt64 l2)], h1)) r198_10 rfl rfl (E_lc r198_11 (v := 0) (by decide) (E_lc r198_12 (v := 1) (by decide) (E_sI r198_13 (As := [.long (Int32.toInt64 l2), .long 0, .long 1]) (rest := []) (cut_n mi121.1 rfl rfl) (rm8_n mi121.2.1 (Nat.le_of_ble_eq_true rfl) (Nat.le_of_ble_eq_true rfl)) mi121.2.2 (fun x4 h3 => E_i1_ne r198_16 rfl (go (w := (22, [.ref l0, .int l1, .int l2, .null, .null, .null, .null], [.ref l0], h3)) r198_21 rfl rfl (E_vV r198_22 (As := [.ref l0]) (rest := []) (cut_n mi193.1 rfl rfl) (rm8_n mi193.2.1 (Nat.le_of_ble_eq_true rfl) (Nat.le_of_ble_eq_true rfl)) mi193.2.2 (fun h5 => E_bip r198_25 (v := (-2)) (by decide) (go (w := (28, [.ref l0, .int l1, .int l2, .int (-2), .null, .null, .null], [], h5)) r198_27 rfl rfl (E_bip r198_28 (v := (-2)) (by decide) (go (w := (32, [.ref l0, .int l1, .int l2, .int (-2), .int (-2), .null, .null], [], h5)) r198_30 rfl rfl (E_ic r198_32 (v := 0) (by decide) (go (w := (35, [.ref l0, .int l1, .int l2, .int (-2), .int (-2), .int 0, .null], [], h5)) r198_33 rfl rfl (rfl))))))))) (E_ic r198_19 (v := (-1)) (by decide) (E_ri r198_20 (mq198)))))))))))))
theorem b198_35 (d : Nat) (l0 : Nat) (l1 : Int32) (l2 : Int32) (l3 : Int32) (l4 : Int32) (l5 : Int32) (l6 : Value) (h : aH) (K : Option Value → aH → Prop) : E scr false d 198 35 [.ref l0, .int l1, .int l2, .int l3, .int l4, .int l5, l6] [] h K = (if 400 < l5 then E scr false d 198 136 [.ref l0, .int l1, .int l2, .int l3, .int l4, .int l5, l6] [] h K else (if l3 = (-2) then E scr false d 198 52 [.ref l0, .int l1, .int l2, .int l3, .int l4, .int l5, .int 0] [] h K else E scr false d 198 136 [.ref l0, .int l1, .int l2, .int l3, .int l4, .int l5, l6] [] h K)) := go (w := (37, [.ref l0, .int l1, .int l2, .int l3, .int l4, .int l5, l6], [.int l5], h)) r198_35 rfl rfl (E_sip r198_37 (v := 400) (by decide) (E_i2_gt r198_40 rfl (rfl) (go (w := (44, [.ref l0, .int l1, .int l2, .int l3, .int l4, .int l5, l6], [.int l3], h)) r198_43 rfl rfl (E_bip r198_44 (v := (-2)) (by decide) (E_i2_ne r198_46 rfl (rfl) (E_ic r198_49 (v := 0) (by decide) (go (w := (52, [.ref l0, .int l1, .int l2, .int l3, .int l4, .int l5, .int 0], [], h)) r198_50 rfl rfl (rfl))))))))
theorem b198_52 (d : Nat) (l0 : Nat) (l1 : Int32) (l2 : Int32) (l3 : Int32) (l4 : Int32) (l5 : Int32) (l6 : Int32) (h : aH) (K : Option Value → aH → Prop) : E scr false d 198 52 [.ref l0, .int l1, .int l2, .int l3, .int l4, .int l5, .int l6] [] h K = (if 12 ≤ l6 then E scr false d 198 88 [.ref l0, .int l1, .int l2, .int l3, .int l4, .int l5, .int 0] [] h K else gR scr h l0 9 44 (fun x1 : Nat => gR scr h l0 9 10 (fun x2 : Nat => aI scr h x2 l6 (fun x3 : Int32 => wI h x1 (((12 * l5) + l6)) x3 (fun h4 : aH => E scr false d 198 52 [.ref l0, .int l1, .int l2, .int l3, .int l4, .int l5, .int (l6 + 1)] [] h4 K))))) := go (w := (54, [.ref l0, .int l1, .int l2, .int l3, .int l4, .int l5, .int l6], [.int l6], h)) r198_52 rfl rfl (E_bip r198_54 (v := 12) (by decide) (E_i2_ge r198_56 rfl (E_ic r198_85 (v := 0) (by decide) (go (w := (88, [.ref l0, .int l1, .int l2, .int l3, .int l4, .int l5, .int 0], [], h)) r198_86 rfl rfl (rfl))) (go (w := (60, [.ref l0, .int l1, .int l2, .int l3, .int l4, .int l5, .int l6], [.ref l0], h)) r198_59 rfl rfl (E_gR r198_60 rfl (fun x1 => E_bip r198_63 (v := 12) (by decide) (go (w := (67, [.ref l0, .int l1, .int l2, .int l3, .int l4, .int l5, .int l6], [.int l5, .int 12, .ref x1], h)) r198_65 rfl rfl (go (w := (68, [.ref l0, .int l1, .int l2, .int l3, .int l4, .int l5, .int l6], [.int (12 * l5), .ref x1], h)) r198_67 rfl rfl (go (w := (70, [.ref l0, .int l1, .int l2, .int l3, .int l4, .int l5, .int l6], [.int l6, .int (12 * l5), .ref x1], h)) r198_68 rfl rfl (go (w := (71, [.ref l0, .int l1, .int l2, .int l3, .int l4, .int l5, .int l6], [.int ((12 * l5) + l6), .ref x1], h)) r198_70 rfl rfl (go (w := (72, [.ref l0, .int l1, .int l2, .int l3, .int l4, .int l5, .int l6], [.ref l0, .int ((12 * l5) + l6), .ref x1], h)) r198_71 rfl rfl (E_gR r198_72 rfl (fun x2 => go (w := (77, [.ref l0, .int l1, .int l2, .int l3, .int l4, .int l5, .int l6], [.int l6, .ref x2, .int ((12 * l5) + l6), .ref x1], h)) r198_75 rfl rfl (E_aI r198_77 (fun x3 => E_wI r198_78 (fun h4 => E_inc r198_79 (c := 1) rfl (by decide) (L' := [.ref l0, .int l1, .int l2, .int l3, .int l4, .int l5, .int (l6 + 1)]) rfl (E_gt r198_82 rfl (rfl)))))))))))))))))
theorem b198_88 (d : Nat) (l0 : Nat) (l1 : Int32) (l2 : Int32) (l3 : Int32) (l4 : Int32) (l5 : Int32) (l6 : Int32) (h : aH) (K : Option Value → aH → Prop) : E scr false (d + 1) 198 88 [.ref l0, .int l1, .int l2, .int l3, .int l4, .int l5, .int l6] [] h K = (if l5 ≤ l6 then E scr false (d + 1) 198 125 [.ref l0, .int l1, .int l2, .int l3, .int l4, .int l5, .int l6] [] h K else (if l3 = (-2) then vI scr d 197 [.ref l0, .int l6, .int l5] h (fun (x2 : Int32) (h1 : aH) => (if x2 = 0 then E scr false (d + 1) 198 119 [.ref l0, .int l1, .int l2, .int l3, .int l4, .int l5, .int l6] [] h1 K else E scr false (d + 1) 198 119 [.ref l0, .int l1, .int l2, .int l6, .int l5, .int l5, .int l6] [] h1 K)) else E scr false (d + 1) 198 125 [.ref l0, .int l1, .int l2, .int l3, .int l4, .int l5, .int l6] [] h K)) := go (w := (90, [.ref l0, .int l1, .int l2, .int l3, .int l4, .int l5, .int l6], [.int l6], h)) r198_88 rfl rfl (go (w := (92, [.ref l0, .int l1, .int l2, .int l3, .int l4, .int l5, .int l6], [.int l5, .int l6], h)) r198_90 rfl rfl (E_i2_ge r198_92 rfl (rfl) (go (w := (96, [.ref l0, .int l1, .int l2, .int l3, .int l4, .int l5, .int l6], [.int l3], h)) r198_95 rfl rfl (E_bip r198_96 (v := (-2)) (by decide) (E_i2_ne r198_98 rfl (rfl) (go (w := (102, [.ref l0, .int l1, .int l2, .int l3, .int l4, .int l5, .int l6], [.ref l0], h)) r198_101 rfl rfl (go (w := (104, [.ref l0, .int l1, .int l2, .int l3, .int l4, .int l5, .int l6], [.int l6, .ref l0], h)) r198_102 rfl rfl (go (w := (106, [.ref l0, .int l1, .int l2, .int l3, .int l4, .int l5, .int l6], [.int l5, .int l6, .ref l0], h)) r198_104 rfl rfl (E_vI r198_106 (As := [.ref l0, .int l6, .int l5]) (rest := []) (cut_n mi197.1 rfl rfl) (rm8_n mi197.2.1 (Nat.le_of_ble_eq_true rfl) (Nat.le_of_ble_eq_true rfl)) mi197.2.2 (fun x2 h1 => E_i1_eq r198_109 rfl (rfl) (go (w := (114, [.ref l0, .int l1, .int l2, .int l3, .int l4, .int l5, .int l6], [.int l6], h1)) r198_112 rfl rfl (go (w := (115, [.ref l0, .int l1, .int l2, .int l6, .int l4, .int l5, .int l6], [], h1)) r198_114 rfl rfl (go (w := (117, [.ref l0, .int l1, .int l2, .int l6, .int l4, .int l5, .int l6], [.int l5], h1)) r198_115 rfl rfl (go (w := (119, [.ref l0, .int l1, .int l2, .int l6, .int l5, .int l5, .int l6], [], h1)) r198_117 rfl rfl (rfl)))))))))))))))
theorem b198_119 (d : Nat) (l0 : Nat) (l1 : Int32) (l2 : Int32) (l3 : Int32) (l4 : Int32) (l5 : Int32) (l6 : Int32) (h : aH) (K : Option Value → aH → Prop) : E scr false d 198 119 [.ref l0, .int l1, .int l2, .int l3, .int l4, .int l5, .int l6] [] h K = E scr false d 198 88 [.ref l0, .int l1, .int l2, .int l3, .int l4, .int l5, .int (l6 + 1)] [] h K := E_inc r198_119 (c := 1) rfl (by decide) (L' := [.ref l0, .int l1, .int l2, .int l3, .int l4, .int l5, .int (l6 + 1)]) rfl (E_gt r198_122 rfl (rfl))
theorem b198_125 (d : Nat) (l0 : Nat) (l1 : Int32) (l2 : Int32) (l3 : Int32) (l4 : Int32) (l5 : Int32) (l6 : Int32) (h : aH) (K : Option Value → aH → Prop) : E scr false (d + 1) 198 125 [.ref l0, .int l1, .int l2, .int l3, .int l4, .int l5, .int l6] [] h K = vV scr d 180 [.ref l0, .int l1] h (fun h1 : aH => E scr false (d + 1) 198 35 [.ref l0, .int l1, .int l2, .int l3, .int l4, .int (l5 + 1), .int l6] [] h1 K) := go (w := (126, [.ref l0, .int l1, .int l2, .int l3, .int l4, .int l5, .int l6], [.ref l0], h)) r198_125 rfl rfl (go (w := (127, [.ref l0, .int l1, .int l2, .int l3, .int l4, .int l5, .int l6], [.int l1, .ref l0], h)) r198_126 rfl rfl (E_vV r198_127 (As := [.ref l0, .int l1]) (rest := []) (cut_n mi180.1 rfl rfl) (rm8_n mi180.2.1 (Nat.le_of_ble_eq_true rfl) (Nat.le_of_ble_eq_true rfl)) mi180.2.2 (fun h1 => E_inc r198_130 (c := 1) rfl (by decide) (L' := [.ref l0, .int l1, .int l2, .int l3, .int l4, .int (l5 + 1), .int l6]) rfl (E_gt r198_133 rfl (rfl)))))
theorem b198_136 (d : Nat) (l0 : Nat) (l1 : Int32) (l2 : Int32) (l3 : Int32) (l4 : Int32) (l5 : Int32) (l6 : Value) (h : aH) (K : Option Value → aH → Prop) : E scr false (d + 1) 198 136 [.ref l0, .int l1, .int l2, .int l3, .int l4, .int l5, l6] [] h K = vV scr d 194 [.ref l0] h (fun h1 : aH => (if l3 = (-2) then K (some (.int (-2))) h1 else (if l2 = 0 then K (some (.int l3)) h1 else K (some (.int (l4 - l3))) h1))) := go (w := (137, [.ref l0, .int l1, .int l2, .int l3, .int l4, .int l5, l6], [.ref l0], h)) r198_136 rfl rfl (E_vV r198_137 (As := [.ref l0]) (rest := []) (cut_n mi194.1 rfl rfl) (rm8_n mi194.2.1 (Nat.le_of_ble_eq_true rfl) (Nat.le_of_ble_eq_true rfl)) mi194.2.2 (fun h1 => go (w := (141, [.ref l0, .int l1, .int l2, .int l3, .int l4, .int l5, l6], [.int l3], h1)) r198_140 rfl rfl (E_bip r198_141 (v := (-2)) (by decide) (E_i2_ne r198_143 rfl (go (w := (152, [.ref l0, .int l1, .int l2, .int l3, .int l4, .int l5, l6], [.int l2], h1)) r198_151 rfl rfl (E_i1_ne r198_152 rfl (go (w := (161, [.ref l0, .int l1, .int l2, .int l3, .int l4, .int l5, l6], [.int l4], h1)) r198_159 rfl rfl (go (w := (162, [.ref l0, .int l1, .int l2, .int l3, .int l4, .int l5, l6], [.int l3, .int l4], h1)) r198_161 rfl rfl (go (w := (163, [.ref l0, .int l1, .int l2, .int l3, .int l4, .int l5, l6], [.int (l4 - l3)], h1)) r198_162 rfl rfl (E_ri r198_163 (mq198))))) (go (w := (156, [.ref l0, .int l1, .int l2, .int l3, .int l4, .int l5, l6], [.int l3], h1)) r198_155 rfl rfl (E_gt r198_156 rfl (E_ri r198_163 (mq198)))))) (E_bip r198_146 (v := (-2)) (by decide) (E_gt r198_148 rfl (E_ri r198_163 (mq198))))))))
-- 199 SecondNearestModel.file(I)I
theorem mq199 : mRet 199 = (some .int) := by decide +kernel
theorem r199_0 : rowAt 199 0 = some (.iconst 0, 1, 0, 0) := by decide +kernel
theorem r199_1 : rowAt 199 1 = some (.istore_n 2, 1, 0, 0) := by decide +kernel
theorem r199_2 : rowAt 199 2 = some (.iconst 0, 1, 0, 0) := by decide +kernel
theorem r199_3 : rowAt 199 3 = some (.istore_n 3, 1, 0, 0) := by decide +kernel
theorem r199_4 : rowAt 199 4 = some (.iload_n 1, 1, 0, 0) := by decide +kernel
theorem r199_5 : rowAt 199 5 = some (.istore 4, 2, 0, 0) := by decide +kernel
theorem r199_7 : rowAt 199 7 = some (.iload 4, 2, 0, 0) := by decide +kernel
theorem r199_9 : rowAt 199 9 = some (.i2l, 1, 0, 0) := by decide +kernel
theorem r199_10 : rowAt 199 10 = some (.lconst 0, 1, 0, 0) := by decide +kernel
theorem r199_11 : rowAt 199 11 = some (.ldc2_w 441, 3, 11, 0) := by decide +kernel
theorem r199_14 : rowAt 199 14 = some (.invokestatic 143, 3, 121, 1) := by decide +kernel
theorem r199_17 : rowAt 199 17 = some (.ifCond .eq 34, 3, 0, 0) := by decide +kernel
theorem r199_20 : rowAt 199 20 = some (.iload_n 2, 1, 0, 0) := by decide +kernel
theorem r199_21 : rowAt 199 21 = some (.iload 4, 2, 0, 0) := by decide +kernel
theorem r199_23 : rowAt 199 23 = some (.ishr, 1, 0, 0) := by decide +kernel
theorem r199_24 : rowAt 199 24 = some (.iconst 1, 1, 0, 0) := by decide +kernel
theorem r199_25 : rowAt 199 25 = some (.iand, 1, 0, 0) := by decide +kernel
theorem r199_26 : rowAt 199 26 = some (.ifCond .ne 25, 3, 0, 0) := by decide +kernel
theorem r199_29 : rowAt 199 29 = some (.iload_n 2, 1, 0, 0) := by decide +kernel
theorem r199_30 : rowAt 199 30 = some (.iconst 1, 1, 0, 0) := by decide +kernel
theorem r199_31 : rowAt 199 31 = some (.iload 4, 2, 0, 0) := by decide +kernel
theorem r199_33 : rowAt 199 33 = some (.ishl, 1, 0, 0) := by decide +kernel
theorem r199_34 : rowAt 199 34 = some (.ior, 1, 0, 0) := by decide +kernel
theorem r199_35 : rowAt 199 35 = some (.istore_n 2, 1, 0, 0) := by decide +kernel
theorem r199_36 : rowAt 199 36 = some (.iinc 3 1, 3, 0, 0) := by decide +kernel
theorem r199_39 : rowAt 199 39 = some (.aload_n 0, 1, 0, 0) := by decide +kernel
theorem r199_40 : rowAt 199 40 = some (.getfield 112, 3, 9, 45) := by decide +kernel
theorem r199_43 : rowAt 199 43 = some (.iload 4, 2, 0, 0) := by decide +kernel
theorem r199_45 : rowAt 199 45 = some (.iaload, 1, 0, 0) := by decide +kernel
theorem r199_46 : rowAt 199 46 = some (.istore 4, 2, 0, 0) := by decide +kernel
theorem r199_48 : rowAt 199 48 = some (.goto (-41), 3, 0, 0) := by decide +kernel
theorem r199_51 : rowAt 199 51 = some (.iload_n 3, 1, 0, 0) := by decide +kernel
theorem r199_52 : rowAt 199 52 = some (.ireturn, 1, 0, 0) := by decide +kernel
theorem en199 (a0 : Nat) (a1 : Int32) : iniL 199 [.ref a0, .int a1] = [.ref a0, .int a1, .null, .null, .null] := ini_n mi199 rfl
theorem b199_0 (d : Nat) (l0 : Nat) (l1 : Int32) (h : aH) (K : Option Value → aH → Prop) : E scr false d 199 0 [.ref l0, .int l1, .null, .null, .null] [] h K = E scr false d 199 7 [.ref l0, .int l1, .int 0, .int 0, .int l1] [] h K := E_ic r199_0 (v := 0) (by decide) (go (w := (2, [.ref l0, .int l1, .int 0, .null, .null], [], h)) r199_1 rfl rfl (E_ic r199_2 (v := 0) (by decide) (go (w := (4, [.ref l0, .int l1, .int 0, .int 0, .null], [], h)) r199_3 rfl rfl (go (w := (5, [.ref l0, .int l1, .int 0, .int 0, .null], [.int l1], h)) r199_4 rfl rfl (go (w := (7, [.ref l0, .int l1, .int 0, .int 0, .int l1], [], h)) r199_5 rfl rfl (rfl))))))
theorem b199_7 (d : Nat) (l0 : Nat) (l1 : Int32) (l2 : Int32) (l3 : Int32) (l4 : Int32) (h : aH) (K : Option Value → aH → Prop) : E scr false (d + 1) 199 7 [.ref l0, .int l1, .int l2, .int l3, .int l4] [] h K = sI scr d 121 [.long (Int32.toInt64 l4), .long 0, .long 11] h (fun (x2 : Int32) (h1 : aH) => (if x2 = 0 then K (some (.int l3)) h1 else (if (((l2 : Int32) >>> ((l4 : Int32) &&& 31) : Int32) &&& 1) = 0 then gR scr h1 l0 9 45 (fun x3 : Nat => aI scr h1 x3 l4 (fun x4 : Int32 => E scr false (d + 1) 199 7 [.ref l0, .int l1, .int (l2 ||| ((1 : Int32) <<< ((l4 : Int32) &&& 31) : Int32)), .int (l3 + 1), .int x4] [] h1 K)) else K (some (.int l3)) h1))) := go (w := (9, [.ref l0, .int l1, .int l2, .int l3, .int l4], [.int l4], h)) r199_7 rfl rfl (go (w := (10, [.ref l0, .int l1, .int l2, .int l3, .int l4], [.long (Int32.toInt64 l4)], h)) r199_9 rfl rfl (E_lc r199_10 (v := 0) (by decide) (E_ld2 r199_11 (v := 11) (by decide) (E_sI r199_14 (As := [.long (Int32.toInt64 l4), .long 0, .long 11]) (rest := []) (cut_n mi121.1 rfl rfl) (rm8_n mi121.2.1 (Nat.le_of_ble_eq_true rfl) (Nat.le_of_ble_eq_true rfl)) mi121.2.2 (fun x2 h1 => E_i1_eq r199_17 rfl (go (w := (52, [.ref l0, .int l1, .int l2, .int l3, .int l4], [.int l3], h1)) r199_51 rfl rfl (E_ri r199_52 (mq199))) (go (w := (21, [.ref l0, .int l1, .int l2, .int l3, .int l4], [.int l2], h1)) r199_20 rfl rfl (go (w := (23, [.ref l0, .int l1, .int l2, .int l3, .int l4], [.int l4, .int l2], h1)) r199_21 rfl rfl (go (w := (24, [.ref l0, .int l1, .int l2, .int l3, .int l4], [.int ((l2 : Int32) >>> ((l4 : Int32) &&& 31) : Int32)], h1)) r199_23 rfl rfl (E_ic r199_24 (v := 1) (by decide) (go (w := (26, [.ref l0, .int l1, .int l2, .int l3, .int l4], [.int (((l2 : Int32) >>> ((l4 : Int32) &&& 31) : Int32) &&& 1)], h1)) r199_25 rfl rfl (E_i1_ne r199_26 rfl (go (w := (52, [.ref l0, .int l1, .int l2, .int l3, .int l4], [.int l3], h1)) r199_51 rfl rfl (E_ri r199_52 (mq199))) (go (w := (30, [.ref l0, .int l1, .int l2, .int l3, .int l4], [.int l2], h1)) r199_29 rfl rfl (E_ic r199_30 (v := 1) (by decide) (go (w := (33, [.ref l0, .int l1, .int l2, .int l3, .int l4], [.int l4, .int 1, .int l2], h1)) r199_31 rfl rfl (go (w := (34, [.ref l0, .int l1, .int l2, .int l3, .int l4], [.int ((1 : Int32) <<< ((l4 : Int32) &&& 31) : Int32), .int l2], h1)) r199_33 rfl rfl (go (w := (35, [.ref l0, .int l1, .int l2, .int l3, .int l4], [.int (l2 ||| ((1 : Int32) <<< ((l4 : Int32) &&& 31) : Int32))], h1)) r199_34 rfl rfl (go (w := (36, [.ref l0, .int l1, .int (l2 ||| ((1 : Int32) <<< ((l4 : Int32) &&& 31) : Int32)), .int l3, .int l4], [], h1)) r199_35 rfl rfl (E_inc r199_36 (c := 1) rfl (by decide) (L' := [.ref l0, .int l1, .int (l2 ||| ((1 : Int32) <<< ((l4 : Int32) &&& 31) : Int32)), .int (l3 + 1), .int l4]) rfl (go (w := (40, [.ref l0, .int l1, .int (l2 ||| ((1 : Int32) <<< ((l4 : Int32) &&& 31) : Int32)), .int (l3 + 1), .int l4], [.ref l0], h1)) r199_39 rfl rfl (E_gR r199_40 rfl (fun x3 => go (w := (45, [.ref l0, .int l1, .int (l2 ||| ((1 : Int32) <<< ((l4 : Int32) &&& 31) : Int32)), .int (l3 + 1), .int l4], [.int l4, .ref x3], h1)) r199_43 rfl rfl (E_aI r199_45 (fun x4 => go (w := (48, [.ref l0, .int l1, .int (l2 ||| ((1 : Int32) <<< ((l4 : Int32) &&& 31) : Int32)), .int (l3 + 1), .int x4], [], h1)) r199_46 rfl rfl (E_gt r199_48 rfl (rfl)))))))))))))))))))))))))
-- 200 SecondNearestModel.isInRing(I)Z
theorem mq200 : mRet 200 = (some .boolean) := by decide +kernel
theorem r200_0 : rowAt 200 0 = some (.aload_n 0, 1, 0, 0) := by decide +kernel
theorem r200_1 : rowAt 200 1 = some (.getfield 112, 3, 9, 45) := by decide +kernel
theorem r200_4 : rowAt 200 4 = some (.iload_n 1, 1, 0, 0) := by decide +kernel
theorem r200_5 : rowAt 200 5 = some (.iaload, 1, 0, 0) := by decide +kernel
theorem r200_6 : rowAt 200 6 = some (.istore_n 2, 1, 0, 0) := by decide +kernel
theorem r200_7 : rowAt 200 7 = some (.iconst 0, 1, 0, 0) := by decide +kernel
theorem r200_8 : rowAt 200 8 = some (.istore_n 3, 1, 0, 0) := by decide +kernel
theorem r200_9 : rowAt 200 9 = some (.iload_n 3, 1, 0, 0) := by decide +kernel
theorem r200_10 : rowAt 200 10 = some (.bipush 12, 2, 0, 0) := by decide +kernel
theorem r200_12 : rowAt 200 12 = some (.if_icmp .ge 33, 3, 0, 0) := by decide +kernel
theorem r200_15 : rowAt 200 15 = some (.iload_n 2, 1, 0, 0) := by decide +kernel
theorem r200_16 : rowAt 200 16 = some (.i2l, 1, 0, 0) := by decide +kernel
theorem r200_17 : rowAt 200 17 = some (.lconst 0, 1, 0, 0) := by decide +kernel
theorem r200_18 : rowAt 200 18 = some (.ldc2_w 441, 3, 11, 0) := by decide +kernel
theorem r200_21 : rowAt 200 21 = some (.invokestatic 143, 3, 121, 1) := by decide +kernel
theorem r200_24 : rowAt 200 24 = some (.ifCond .eq 21, 3, 0, 0) := by decide +kernel
theorem r200_27 : rowAt 200 27 = some (.iload_n 2, 1, 0, 0) := by decide +kernel
theorem r200_28 : rowAt 200 28 = some (.iload_n 1, 1, 0, 0) := by decide +kernel
theorem r200_29 : rowAt 200 29 = some (.if_icmp .eq 16, 3, 0, 0) := by decide +kernel
theorem r200_32 : rowAt 200 32 = some (.aload_n 0, 1, 0, 0) := by decide +kernel
theorem r200_33 : rowAt 200 33 = some (.getfield 112, 3, 9, 45) := by decide +kernel
theorem r200_36 : rowAt 200 36 = some (.iload_n 2, 1, 0, 0) := by decide +kernel
theorem r200_37 : rowAt 200 37 = some (.iaload, 1, 0, 0) := by decide +kernel
theorem r200_38 : rowAt 200 38 = some (.istore_n 2, 1, 0, 0) := by decide +kernel
theorem r200_39 : rowAt 200 39 = some (.iinc 3 1, 3, 0, 0) := by decide +kernel
theorem r200_42 : rowAt 200 42 = some (.goto (-33), 3, 0, 0) := by decide +kernel
theorem r200_45 : rowAt 200 45 = some (.iload_n 2, 1, 0, 0) := by decide +kernel
theorem r200_46 : rowAt 200 46 = some (.iload_n 1, 1, 0, 0) := by decide +kernel
theorem r200_47 : rowAt 200 47 = some (.if_icmp .ne 7, 3, 0, 0) := by decide +kernel
theorem r200_50 : rowAt 200 50 = some (.iconst 1, 1, 0, 0) := by decide +kernel
theorem r200_51 : rowAt 200 51 = some (.goto 4, 3, 0, 0) := by decide +kernel
theorem r200_54 : rowAt 200 54 = some (.iconst 0, 1, 0, 0) := by decide +kernel
theorem r200_55 : rowAt 200 55 = some (.ireturn, 1, 0, 0) := by decide +kernel
theorem en200 (a0 : Nat) (a1 : Int32) : iniL 200 [.ref a0, .int a1] = [.ref a0, .int a1, .null, .null] := ini_n mi200 rfl
theorem b200_0 (d : Nat) (l0 : Nat) (l1 : Int32) (h : aH) (K : Option Value → aH → Prop) : E scr false d 200 0 [.ref l0, .int l1, .null, .null] [] h K = gR scr h l0 9 45 (fun x1 : Nat => aI scr h x1 l1 (fun x2 : Int32 => E scr false d 200 9 [.ref l0, .int l1, .int x2, .int 0] [] h K)) := go (w := (1, [.ref l0, .int l1, .null, .null], [.ref l0], h)) r200_0 rfl rfl (E_gR r200_1 rfl (fun x1 => go (w := (5, [.ref l0, .int l1, .null, .null], [.int l1, .ref x1], h)) r200_4 rfl rfl (E_aI r200_5 (fun x2 => go (w := (7, [.ref l0, .int l1, .int x2, .null], [], h)) r200_6 rfl rfl (E_ic r200_7 (v := 0) (by decide) (go (w := (9, [.ref l0, .int l1, .int x2, .int 0], [], h)) r200_8 rfl rfl (rfl)))))))
theorem b200_9 (d : Nat) (l0 : Nat) (l1 : Int32) (l2 : Int32) (l3 : Int32) (h : aH) (K : Option Value → aH → Prop) : E scr false (d + 1) 200 9 [.ref l0, .int l1, .int l2, .int l3] [] h K = (if 12 ≤ l3 then E scr false (d + 1) 200 45 [.ref l0, .int l1, .int l2, .int l3] [] h K else sI scr d 121 [.long (Int32.toInt64 l2), .long 0, .long 11] h (fun (x2 : Int32) (h1 : aH) => (if x2 = 0 then E scr false (d + 1) 200 45 [.ref l0, .int l1, .int l2, .int l3] [] h1 K else (if l2 = l1 then E scr false (d + 1) 200 45 [.ref l0, .int l1, .int l2, .int l3] [] h1 K else gR scr h1 l0 9 45 (fun x3 : Nat => aI scr h1 x3 l2 (fun x4 : Int32 => E scr false (d + 1) 200 9 [.ref l0, .int l1, .int x4, .int (l3 + 1)] [] h1 K)))))) := go (w := (10, [.ref l0, .int l1, .int l2, .int l3], [.int l3], h)) r200_9 rfl rfl (E_bip r200_10 (v := 12) (by decide) (E_i2_ge r200_12 rfl (rfl) (go (w := (16, [.ref l0, .int l1, .int l2, .int l3], [.int l2], h)) r200_15 rfl rfl (go (w := (17, [.ref l0, .int l1, .int l2, .int l3], [.long (Int32.toInt64 l2)], h)) r200_16 rfl rfl (E_lc r200_17 (v := 0) (by decide) (E_ld2 r200_18 (v := 11) (by decide) (E_sI r200_21 (As := [.long (Int32.toInt64 l2), .long 0, .long 11]) (rest := []) (cut_n mi121.1 rfl rfl) (rm8_n mi121.2.1 (Nat.le_of_ble_eq_true rfl) (Nat.le_of_ble_eq_true rfl)) mi121.2.2 (fun x2 h1 => E_i1_eq r200_24 rfl (rfl) (go (w := (28, [.ref l0, .int l1, .int l2, .int l3], [.int l2], h1)) r200_27 rfl rfl (go (w := (29, [.ref l0, .int l1, .int l2, .int l3], [.int l1, .int l2], h1)) r200_28 rfl rfl (E_i2_eq r200_29 rfl (rfl) (go (w := (33, [.ref l0, .int l1, .int l2, .int l3], [.ref l0], h1)) r200_32 rfl rfl (E_gR r200_33 rfl (fun x3 => go (w := (37, [.ref l0, .int l1, .int l2, .int l3], [.int l2, .ref x3], h1)) r200_36 rfl rfl (E_aI r200_37 (fun x4 => go (w := (39, [.ref l0, .int l1, .int x4, .int l3], [], h1)) r200_38 rfl rfl (E_inc r200_39 (c := 1) rfl (by decide) (L' := [.ref l0, .int l1, .int x4, .int (l3 + 1)]) rfl (E_gt r200_42 rfl (rfl)))))))))))))))))))
theorem b200_45 (d : Nat) (l0 : Nat) (l1 : Int32) (l2 : Int32) (l3 : Int32) (h : aH) (K : Option Value → aH → Prop) : E scr false d 200 45 [.ref l0, .int l1, .int l2, .int l3] [] h K = (if l2 = l1 then K (some (.int 1)) h else K (some (.int 0)) h) := go (w := (46, [.ref l0, .int l1, .int l2, .int l3], [.int l2], h)) r200_45 rfl rfl (go (w := (47, [.ref l0, .int l1, .int l2, .int l3], [.int l1, .int l2], h)) r200_46 rfl rfl (E_i2_ne r200_47 rfl (E_ic r200_54 (v := 0) (by decide) (E_rz r200_55 (mq200) (by decide))) (E_ic r200_50 (v := 1) (by decide) (E_gt r200_51 rfl (E_rz r200_55 (mq200) (by decide))))))
-- 201 SecondNearestModel.files(II)I
theorem mq201 : mRet 201 = (some .int) := by decide +kernel
theorem r201_0 : rowAt 201 0 = some (.aload_n 0, 1, 0, 0) := by decide +kernel
theorem r201_1 : rowAt 201 1 = some (.iload_n 1, 1, 0, 0) := by decide +kernel
theorem r201_2 : rowAt 201 2 = some (.iconst 0, 1, 0, 0) := by decide +kernel
theorem r201_3 : rowAt 201 3 = some (.invokevirtual 426, 3, 195, 0) := by decide +kernel
theorem r201_6 : rowAt 201 6 = some (.ifCond .eq 15, 3, 0, 0) := by decide +kernel
theorem r201_9 : rowAt 201 9 = some (.iload_n 2, 1, 0, 0) := by decide +kernel
theorem r201_10 : rowAt 201 10 = some (.i2l, 1, 0, 0) := by decide +kernel
theorem r201_11 : rowAt 201 11 = some (.lconst 0, 1, 0, 0) := by decide +kernel
theorem r201_12 : rowAt 201 12 = some (.ldc2_w 421, 3, 2, 0) := by decide +kernel
theorem r201_15 : rowAt 201 15 = some (.invokestatic 143, 3, 121, 1) := by decide +kernel
theorem r201_18 : rowAt 201 18 = some (.ifCond .ne 5, 3, 0, 0) := by decide +kernel
theorem r201_21 : rowAt 201 21 = some (.iconst (-1), 1, 0, 0) := by decide +kernel
theorem r201_22 : rowAt 201 22 = some (.ireturn, 1, 0, 0) := by decide +kernel
theorem r201_23 : rowAt 201 23 = some (.iconst 0, 1, 0, 0) := by decide +kernel
theorem r201_24 : rowAt 201 24 = some (.istore_n 3, 1, 0, 0) := by decide +kernel
theorem r201_25 : rowAt 201 25 = some (.iload_n 3, 1, 0, 0) := by decide +kernel
theorem r201_26 : rowAt 201 26 = some (.bipush 12, 2, 0, 0) := by decide +kernel
theorem r201_28 : rowAt 201 28 = some (.if_icmp .ge 43, 3, 0, 0) := by decide +kernel
theorem r201_31 : rowAt 201 31 = some (.aload_n 0, 1, 0, 0) := by decide +kernel
theorem r201_32 : rowAt 201 32 = some (.getfield 112, 3, 9, 45) := by decide +kernel
theorem r201_35 : rowAt 201 35 = some (.iload_n 3, 1, 0, 0) := by decide +kernel
theorem r201_36 : rowAt 201 36 = some (.aload_n 0, 1, 0, 0) := by decide +kernel
theorem r201_37 : rowAt 201 37 = some (.iload_n 3, 1, 0, 0) := by decide +kernel
theorem r201_38 : rowAt 201 38 = some (.invokevirtual 151, 3, 127, 0) := by decide +kernel
theorem r201_41 : rowAt 201 41 = some (.ifCond .eq 22, 3, 0, 0) := by decide +kernel
theorem r201_44 : rowAt 201 44 = some (.aload_n 0, 1, 0, 0) := by decide +kernel
theorem r201_45 : rowAt 201 45 = some (.getfield 37, 3, 9, 10) := by decide +kernel
theorem r201_48 : rowAt 201 48 = some (.iload_n 3, 1, 0, 0) := by decide +kernel
theorem r201_49 : rowAt 201 49 = some (.iaload, 1, 0, 0) := by decide +kernel
theorem r201_50 : rowAt 201 50 = some (.iconst (-1), 1, 0, 0) := by decide +kernel
theorem r201_51 : rowAt 201 51 = some (.if_icmp .eq 12, 3, 0, 0) := by decide +kernel
theorem r201_54 : rowAt 201 54 = some (.aload_n 0, 1, 0, 0) := by decide +kernel
theorem r201_55 : rowAt 201 55 = some (.iload_n 1, 1, 0, 0) := by decide +kernel
theorem r201_56 : rowAt 201 56 = some (.iload_n 3, 1, 0, 0) := by decide +kernel
theorem r201_57 : rowAt 201 57 = some (.invokevirtual 392, 3, 177, 0) := by decide +kernel
theorem r201_60 : rowAt 201 60 = some (.goto 4, 3, 0, 0) := by decide +kernel
theorem r201_63 : rowAt 201 63 = some (.iconst (-1), 1, 0, 0) := by decide +kernel
theorem r201_64 : rowAt 201 64 = some (.iastore, 1, 0, 0) := by decide +kernel
theorem r201_65 : rowAt 201 65 = some (.iinc 3 1, 3, 0, 0) := by decide +kernel
theorem r201_68 : rowAt 201 68 = some (.goto (-43), 3, 0, 0) := by decide +kernel
theorem r201_71 : rowAt 201 71 = some (.iconst 0, 1, 0, 0) := by decide +kernel
theorem r201_72 : rowAt 201 72 = some (.istore_n 3, 1, 0, 0) := by decide +kernel
theorem r201_73 : rowAt 201 73 = some (.iconst 0, 1, 0, 0) := by decide +kernel
theorem r201_74 : rowAt 201 74 = some (.istore 4, 2, 0, 0) := by decide +kernel
theorem r201_76 : rowAt 201 76 = some (.iconst 0, 1, 0, 0) := by decide +kernel
theorem r201_77 : rowAt 201 77 = some (.istore 5, 2, 0, 0) := by decide +kernel
theorem r201_79 : rowAt 201 79 = some (.iload 5, 2, 0, 0) := by decide +kernel
theorem r201_81 : rowAt 201 81 = some (.aload_n 0, 1, 0, 0) := by decide +kernel
theorem r201_82 : rowAt 201 82 = some (.getfield 7, 3, 9, 1) := by decide +kernel
theorem r201_85 : rowAt 201 85 = some (.iconst 2, 1, 0, 0) := by decide +kernel
theorem r201_86 : rowAt 201 86 = some (.iaload, 1, 0, 0) := by decide +kernel
theorem r201_87 : rowAt 201 87 = some (.if_icmp .ge 63, 3, 0, 0) := by decide +kernel
theorem r201_90 : rowAt 201 90 = some (.aload_n 0, 1, 0, 0) := by decide +kernel
theorem r201_91 : rowAt 201 91 = some (.getfield 37, 3, 9, 10) := by decide +kernel
theorem r201_94 : rowAt 201 94 = some (.iload 5, 2, 0, 0) := by decide +kernel
theorem r201_96 : rowAt 201 96 = some (.iaload, 1, 0, 0) := by decide +kernel
theorem r201_97 : rowAt 201 97 = some (.iconst (-1), 1, 0, 0) := by decide +kernel
theorem r201_98 : rowAt 201 98 = some (.if_icmp .eq 46, 3, 0, 0) := by decide +kernel
theorem r201_101 : rowAt 201 101 = some (.aload_n 0, 1, 0, 0) := by decide +kernel
theorem r201_102 : rowAt 201 102 = some (.iload 5, 2, 0, 0) := by decide +kernel
theorem r201_104 : rowAt 201 104 = some (.invokevirtual 443, 3, 199, 0) := by decide +kernel
theorem r201_107 : rowAt 201 107 = some (.iload_n 3, 1, 0, 0) := by decide +kernel
theorem r201_108 : rowAt 201 108 = some (.if_icmp .le 12, 3, 0, 0) := by decide +kernel
theorem r201_111 : rowAt 201 111 = some (.aload_n 0, 1, 0, 0) := by decide +kernel
theorem r201_112 : rowAt 201 112 = some (.iload 5, 2, 0, 0) := by decide +kernel
theorem r201_114 : rowAt 201 114 = some (.invokevirtual 443, 3, 199, 0) := by decide +kernel
theorem r201_117 : rowAt 201 117 = some (.goto 4, 3, 0, 0) := by decide +kernel
theorem r201_120 : rowAt 201 120 = some (.iload_n 3, 1, 0, 0) := by decide +kernel
theorem r201_121 : rowAt 201 121 = some (.istore_n 3, 1, 0, 0) := by decide +kernel
theorem r201_122 : rowAt 201 122 = some (.iload 4, 2, 0, 0) := by decide +kernel
theorem r201_124 : rowAt 201 124 = some (.aload_n 0, 1, 0, 0) := by decide +kernel
theorem r201_125 : rowAt 201 125 = some (.iload 5, 2, 0, 0) := by decide +kernel
theorem r201_127 : rowAt 201 127 = some (.invokevirtual 446, 3, 200, 0) := by decide +kernel
theorem r201_130 : rowAt 201 130 = some (.ifCond .eq 10, 3, 0, 0) := by decide +kernel
theorem r201_133 : rowAt 201 133 = some (.iconst 1, 1, 0, 0) := by decide +kernel
theorem r201_134 : rowAt 201 134 = some (.iload 5, 2, 0, 0) := by decide +kernel
theorem r201_136 : rowAt 201 136 = some (.ishl, 1, 0, 0) := by decide +kernel
theorem r201_137 : rowAt 201 137 = some (.goto 4, 3, 0, 0) := by decide +kernel
theorem r201_140 : rowAt 201 140 = some (.iconst 0, 1, 0, 0) := by decide +kernel
theorem r201_141 : rowAt 201 141 = some (.ior, 1, 0, 0) := by decide +kernel
theorem r201_142 : rowAt 201 142 = some (.istore 4, 2, 0, 0) := by decide +kernel
theorem r201_144 : rowAt 201 144 = some (.iinc 5 1, 3, 0, 0) := by decide +kernel
theorem r201_147 : rowAt 201 147 = some (.goto (-68), 3, 0, 0) := by decide +kernel
theorem r201_150 : rowAt 201 150 = some (.iconst 0, 1, 0, 0) := by decide +kernel
theorem r201_151 : rowAt 201 151 = some (.istore 5, 2, 0, 0) := by decide +kernel
theorem r201_153 : rowAt 201 153 = some (.iconst 0, 1, 0, 0) := by decide +kernel
theorem r201_154 : rowAt 201 154 = some (.istore 6, 2, 0, 0) := by decide +kernel
theorem r201_156 : rowAt 201 156 = some (.iload 6, 2, 0, 0) := by decide +kernel
theorem r201_158 : rowAt 201 158 = some (.aload_n 0, 1, 0, 0) := by decide +kernel
theorem r201_159 : rowAt 201 159 = some (.getfield 7, 3, 9, 1) := by decide +kernel
theorem r201_162 : rowAt 201 162 = some (.iconst 2, 1, 0, 0) := by decide +kernel
theorem r201_163 : rowAt 201 163 = some (.iaload, 1, 0, 0) := by decide +kernel
theorem r201_164 : rowAt 201 164 = some (.if_icmp .ge 89, 3, 0, 0) := by decide +kernel
theorem r201_167 : rowAt 201 167 = some (.iload 4, 2, 0, 0) := by decide +kernel
theorem r201_169 : rowAt 201 169 = some (.iload 6, 2, 0, 0) := by decide +kernel
theorem r201_171 : rowAt 201 171 = some (.ishr, 1, 0, 0) := by decide +kernel
theorem r201_172 : rowAt 201 172 = some (.iconst 1, 1, 0, 0) := by decide +kernel
theorem r201_173 : rowAt 201 173 = some (.iand, 1, 0, 0) := by decide +kernel
theorem r201_174 : rowAt 201 174 = some (.iconst 1, 1, 0, 0) := by decide +kernel
theorem r201_175 : rowAt 201 175 = some (.if_icmp .ne 7, 3, 0, 0) := by decide +kernel
theorem r201_178 : rowAt 201 178 = some (.iconst 1, 1, 0, 0) := by decide +kernel
theorem r201_179 : rowAt 201 179 = some (.goto 4, 3, 0, 0) := by decide +kernel
theorem r201_182 : rowAt 201 182 = some (.iconst 0, 1, 0, 0) := by decide +kernel
theorem r201_183 : rowAt 201 183 = some (.istore 7, 2, 0, 0) := by decide +kernel
theorem r201_185 : rowAt 201 185 = some (.aload_n 0, 1, 0, 0) := by decide +kernel
theorem r201_186 : rowAt 201 186 = some (.getfield 112, 3, 9, 45) := by decide +kernel
theorem r201_189 : rowAt 201 189 = some (.iload 6, 2, 0, 0) := by decide +kernel
theorem r201_191 : rowAt 201 191 = some (.iaload, 1, 0, 0) := by decide +kernel
theorem r201_192 : rowAt 201 192 = some (.istore 8, 2, 0, 0) := by decide +kernel
theorem r201_194 : rowAt 201 194 = some (.iload 7, 2, 0, 0) := by decide +kernel
theorem r201_196 : rowAt 201 196 = some (.ifCond .eq 36, 3, 0, 0) := by decide +kernel
theorem r201_199 : rowAt 201 199 = some (.iload 8, 2, 0, 0) := by decide +kernel
theorem r201_201 : rowAt 201 201 = some (.iload 6, 2, 0, 0) := by decide +kernel
theorem r201_203 : rowAt 201 203 = some (.if_icmp .eq 29, 3, 0, 0) := by decide +kernel
theorem r201_206 : rowAt 201 206 = some (.iload 8, 2, 0, 0) := by decide +kernel
theorem r201_208 : rowAt 201 208 = some (.iload 6, 2, 0, 0) := by decide +kernel
theorem r201_210 : rowAt 201 210 = some (.if_icmp .le 7, 3, 0, 0) := by decide +kernel
theorem r201_213 : rowAt 201 213 = some (.iconst 1, 1, 0, 0) := by decide +kernel
theorem r201_214 : rowAt 201 214 = some (.goto 4, 3, 0, 0) := by decide +kernel
theorem r201_217 : rowAt 201 217 = some (.iconst 0, 1, 0, 0) := by decide +kernel
theorem r201_218 : rowAt 201 218 = some (.istore 7, 2, 0, 0) := by decide +kernel
theorem r201_220 : rowAt 201 220 = some (.aload_n 0, 1, 0, 0) := by decide +kernel
theorem r201_221 : rowAt 201 221 = some (.getfield 112, 3, 9, 45) := by decide +kernel
theorem r201_224 : rowAt 201 224 = some (.iload 8, 2, 0, 0) := by decide +kernel
theorem r201_226 : rowAt 201 226 = some (.iaload, 1, 0, 0) := by decide +kernel
theorem r201_227 : rowAt 201 227 = some (.istore 8, 2, 0, 0) := by decide +kernel
theorem r201_229 : rowAt 201 229 = some (.goto (-35), 3, 0, 0) := by decide +kernel
theorem r201_232 : rowAt 201 232 = some (.iload 5, 2, 0, 0) := by decide +kernel
theorem r201_234 : rowAt 201 234 = some (.iload 7, 2, 0, 0) := by decide +kernel
theorem r201_236 : rowAt 201 236 = some (.ifCond .eq 7, 3, 0, 0) := by decide +kernel
theorem r201_239 : rowAt 201 239 = some (.iconst 1, 1, 0, 0) := by decide +kernel
theorem r201_240 : rowAt 201 240 = some (.goto 4, 3, 0, 0) := by decide +kernel
theorem r201_243 : rowAt 201 243 = some (.iconst 0, 1, 0, 0) := by decide +kernel
theorem r201_244 : rowAt 201 244 = some (.iadd, 1, 0, 0) := by decide +kernel
theorem r201_245 : rowAt 201 245 = some (.istore 5, 2, 0, 0) := by decide +kernel
theorem r201_247 : rowAt 201 247 = some (.iinc 6 1, 3, 0, 0) := by decide +kernel
theorem r201_250 : rowAt 201 250 = some (.goto (-94), 3, 0, 0) := by decide +kernel
theorem r201_253 : rowAt 201 253 = some (.iload_n 2, 1, 0, 0) := by decide +kernel
theorem r201_254 : rowAt 201 254 = some (.ifCond .ne 7, 3, 0, 0) := by decide +kernel
theorem r201_257 : rowAt 201 257 = some (.iload_n 3, 1, 0, 0) := by decide +kernel
theorem r201_258 : rowAt 201 258 = some (.goto 15, 3, 0, 0) := by decide +kernel
theorem r201_261 : rowAt 201 261 = some (.iload_n 2, 1, 0, 0) := by decide +kernel
theorem r201_262 : rowAt 201 262 = some (.iconst 1, 1, 0, 0) := by decide +kernel
theorem r201_263 : rowAt 201 263 = some (.if_icmp .ne 8, 3, 0, 0) := by decide +kernel
theorem r201_266 : rowAt 201 266 = some (.iload 5, 2, 0, 0) := by decide +kernel
theorem r201_268 : rowAt 201 268 = some (.goto 5, 3, 0, 0) := by decide +kernel
theorem r201_271 : rowAt 201 271 = some (.iload 4, 2, 0, 0) := by decide +kernel
theorem r201_273 : rowAt 201 273 = some (.ireturn, 1, 0, 0) := by decide +kernel
theorem en201 (a0 : Nat) (a1 : Int32) (a2 : Int32) : iniL 201 [.ref a0, .int a1, .int a2] = [.ref a0, .int a1, .int a2, .null, .null, .null, .null, .null, .null] := ini_n mi201 rfl
theorem b201_0 (d : Nat) (l0 : Nat) (l1 : Int32) (l2 : Int32) (h : aH) (K : Option Value → aH → Prop) : E scr false (d + 1) 201 0 [.ref l0, .int l1, .int l2, .null, .null, .null, .null, .null, .null] [] h K = vI scr d 195 [.ref l0, .int l1, .int 0] h (fun (x2 : Int32) (h1 : aH) => (if x2 = 0 then K (some (.int (-1))) h1 else sI scr d 121 [.long (Int32.toInt64 l2), .long 0, .long 2] h1 (fun (x4 : Int32) (h3 : aH) => (if x4 = 0 then K (some (.int (-1))) h3 else E scr false (d + 1) 201 25 [.ref l0, .int l1, .int l2, .int 0, .null, .null, .null, .null, .null] [] h3 K)))) := go (w := (1, [.ref l0, .int l1, .int l2, .null, .null, .null, .null, .null, .null], [.ref l0], h)) r201_0 rfl rfl (go (w := (2, [.ref l0, .int l1, .int l2, .null, .null, .null, .null, .null, .null], [.int l1, .ref l0], h)) r201_1 rfl rfl (E_ic r201_2 (v := 0) (by decide) (E_vI r201_3 (As := [.ref l0, .int l1, .int 0]) (rest := []) (cut_n mi195.1 rfl rfl) (rm8_n mi195.2.1 (Nat.le_of_ble_eq_true rfl) (Nat.le_of_ble_eq_true rfl)) mi195.2.2 (fun x2 h1 => E_i1_eq r201_6 rfl (E_ic r201_21 (v := (-1)) (by decide) (E_ri r201_22 (mq201))) (go (w := (10, [.ref l0, .int l1, .int l2, .null, .null, .null, .null, .null, .null], [.int l2], h1)) r201_9 rfl rfl (go (w := (11, [.ref l0, .int l1, .int l2, .null, .null, .null, .null, .null, .null], [.long (Int32.toInt64 l2)], h1)) r201_10 rfl rfl (E_lc r201_11 (v := 0) (by decide) (E_ld2 r201_12 (v := 2) (by decide) (E_sI r201_15 (As := [.long (Int32.toInt64 l2), .long 0, .long 2]) (rest := []) (cut_n mi121.1 rfl rfl) (rm8_n mi121.2.1 (Nat.le_of_ble_eq_true rfl) (Nat.le_of_ble_eq_true rfl)) mi121.2.2 (fun x4 h3 => E_i1_ne r201_18 rfl (E_ic r201_23 (v := 0) (by decide) (go (w := (25, [.ref l0, .int l1, .int l2, .int 0, .null, .null, .null, .null, .null], [], h3)) r201_24 rfl rfl (rfl))) (E_ic r201_21 (v := (-1)) (by decide) (E_ri r201_22 (mq201)))))))))))))
theorem b201_25 (d : Nat) (l0 : Nat) (l1 : Int32) (l2 : Int32) (l3 : Int32) (h : aH) (K : Option Value → aH → Prop) : E scr false (d + 1) 201 25 [.ref l0, .int l1, .int l2, .int l3, .null, .null, .null, .null, .null] [] h K = (if 12 ≤ l3 then E scr false (d + 1) 201 79 [.ref l0, .int l1, .int l2, .int 0, .int 0, .int 0, .null, .null, .null] [] h K else gR scr h l0 9 45 (fun x1 : Nat => vI scr d 127 [.ref l0, .int l3] h (fun (x3 : Int32) (h2 : aH) => (if x3 = 0 then E scr false (d + 1) 201 63 [.ref l0, .int l1, .int l2, .int l3, .null, .null, .null, .null, .null] [.int l3, .ref x1] h2 K else gR scr h2 l0 9 10 (fun x4 : Nat => aI scr h2 x4 l3 (fun x5 : Int32 => (if x5 = (-1) then E scr false (d + 1) 201 63 [.ref l0, .int l1, .int l2, .int l3, .null, .null, .null, .null, .null] [.int l3, .ref x1] h2 K else vI scr d 177 [.ref l0, .int l1, .int l3] h2 (fun (x7 : Int32) (h6 : aH) => E scr false (d + 1) 201 64 [.ref l0, .int l1, .int l2, .int l3, .null, .null, .null, .null, .null] [.int x7, .int l3, .ref x1] h6 K)))))))) := go (w := (26, [.ref l0, .int l1, .int l2, .int l3, .null, .null, .null, .null, .null], [.int l3], h)) r201_25 rfl rfl (E_bip r201_26 (v := 12) (by decide) (E_i2_ge r201_28 rfl (E_ic r201_71 (v := 0) (by decide) (go (w := (73, [.ref l0, .int l1, .int l2, .int 0, .null, .null, .null, .null, .null], [], h)) r201_72 rfl rfl (E_ic r201_73 (v := 0) (by decide) (go (w := (76, [.ref l0, .int l1, .int l2, .int 0, .int 0, .null, .null, .null, .null], [], h)) r201_74 rfl rfl (E_ic r201_76 (v := 0) (by decide) (go (w := (79, [.ref l0, .int l1, .int l2, .int 0, .int 0, .int 0, .null, .null, .null], [], h)) r201_77 rfl rfl (rfl))))))) (go (w := (32, [.ref l0, .int l1, .int l2, .int l3, .null, .null, .null, .null, .null], [.ref l0], h)) r201_31 rfl rfl (E_gR r201_32 rfl (fun x1 => go (w := (36, [.ref l0, .int l1, .int l2, .int l3, .null, .null, .null, .null, .null], [.int l3, .ref x1], h)) r201_35 rfl rfl (go (w := (37, [.ref l0, .int l1, .int l2, .int l3, .null, .null, .null, .null, .null], [.ref l0, .int l3, .ref x1], h)) r201_36 rfl rfl (go (w := (38, [.ref l0, .int l1, .int l2, .int l3, .null, .null, .null, .null, .null], [.int l3, .ref l0, .int l3, .ref x1], h)) r201_37 rfl rfl (E_vI r201_38 (As := [.ref l0, .int l3]) (rest := [.int l3, .ref x1]) (cut_n mi127.1 rfl rfl) (rm8_n mi127.2.1 (Nat.le_of_ble_eq_true rfl) (Nat.le_of_ble_eq_true rfl)) mi127.2.2 (fun x3 h2 => E_i1_eq r201_41 rfl (rfl) (go (w := (45, [.ref l0, .int l1, .int l2, .int l3, .null, .null, .null, .null, .null], [.ref l0, .int l3, .ref x1], h2)) r201_44 rfl rfl (E_gR r201_45 rfl (fun x4 => go (w := (49, [.ref l0, .int l1, .int l2, .int l3, .null, .null, .null, .null, .null], [.int l3, .ref x4, .int l3, .ref x1], h2)) r201_48 rfl rfl (E_aI r201_49 (fun x5 => E_ic r201_50 (v := (-1)) (by decide) (E_i2_eq r201_51 rfl (rfl) (go (w := (55, [.ref l0, .int l1, .int l2, .int l3, .null, .null, .null, .null, .null], [.ref l0, .int l3, .ref x1], h2)) r201_54 rfl rfl (go (w := (56, [.ref l0, .int l1, .int l2, .int l3, .null, .null, .null, .null, .null], [.int l1, .ref l0, .int l3, .ref x1], h2)) r201_55 rfl rfl (go (w := (57, [.ref l0, .int l1, .int l2, .int l3, .null, .null, .null, .null, .null], [.int l3, .int l1, .ref l0, .int l3, .ref x1], h2)) r201_56 rfl rfl (E_vI r201_57 (As := [.ref l0, .int l1, .int l3]) (rest := [.int l3, .ref x1]) (cut_n mi177.1 rfl rfl) (rm8_n mi177.2.1 (Nat.le_of_ble_eq_true rfl) (Nat.le_of_ble_eq_true rfl)) mi177.2.2 (fun x7 h6 => E_gt r201_60 rfl (rfl)))))))))))))))))))))
theorem b201_63 (d : Nat) (l0 : Nat) (l1 : Int32) (l2 : Int32) (l3 : Int32) (s0 : Int32) (s1 : Nat) (h : aH) (K : Option Value → aH → Prop) : E scr false d 201 63 [.ref l0, .int l1, .int l2, .int l3, .null, .null, .null, .null, .null] [.int s0, .ref s1] h K = E scr false d 201 64 [.ref l0, .int l1, .int l2, .int l3, .null, .null, .null, .null, .null] [.int (-1), .int s0, .ref s1] h K := E_ic r201_63 (v := (-1)) (by decide) (rfl)
theorem b201_64 (d : Nat) (l0 : Nat) (l1 : Int32) (l2 : Int32) (l3 : Int32) (s0 : Int32) (s1 : Int32) (s2 : Nat) (h : aH) (K : Option Value → aH → Prop) : E scr false d 201 64 [.ref l0, .int l1, .int l2, .int l3, .null, .null, .null, .null, .null] [.int s0, .int s1, .ref s2] h K = wI h s2 s1 s0 (fun h1 : aH => E scr false d 201 25 [.ref l0, .int l1, .int l2, .int (l3 + 1), .null, .null, .null, .null, .null] [] h1 K) := E_wI r201_64 (fun h1 => E_inc r201_65 (c := 1) rfl (by decide) (L' := [.ref l0, .int l1, .int l2, .int (l3 + 1), .null, .null, .null, .null, .null]) rfl (E_gt r201_68 rfl (rfl)))
theorem b201_79 (d : Nat) (l0 : Nat) (l1 : Int32) (l2 : Int32) (l3 : Int32) (l4 : Int32) (l5 : Int32) (h : aH) (K : Option Value → aH → Prop) : E scr false (d + 1) 201 79 [.ref l0, .int l1, .int l2, .int l3, .int l4, .int l5, .null, .null, .null] [] h K = gR scr h l0 9 1 (fun x1 : Nat => aI scr h x1 2 (fun x2 : Int32 => (if x2 ≤ l5 then E scr false (d + 1) 201 156 [.ref l0, .int l1, .int l2, .int l3, .int l4, .int 0, .int 0, .null, .null] [] h K else gR scr h l0 9 10 (fun x3 : Nat => aI scr h x3 l5 (fun x4 : Int32 => (if x4 = (-1) then E scr false (d + 1) 201 144 [.ref l0, .int l1, .int l2, .int l3, .int l4, .int l5, .null, .null, .null] [] h K else vI scr d 199 [.ref l0, .int l5] h (fun (x6 : Int32) (h5 : aH) => (if x6 ≤ l3 then E scr false (d + 1) 201 121 [.ref l0, .int l1, .int l2, .int l3, .int l4, .int l5, .null, .null, .null] [.int l3] h5 K else vI scr d 199 [.ref l0, .int l5] h5 (fun (x8 : Int32) (h7 : aH) => E scr false (d + 1) 201 121 [.ref l0, .int l1, .int l2, .int l3, .int l4, .int l5, .null, .null, .null] [.int x8] h7 K))))))))) := go (w := (81, [.ref l0, .int l1, .int l2, .int l3, .int l4, .int l5, .null, .null, .null], [.int l5], h)) r201_79 rfl rfl (go (w := (82, [.ref l0, .int l1, .int l2, .int l3, .int l4, .int l5, .null, .null, .null], [.ref l0, .int l5], h)) r201_81 rfl rfl (E_gR r201_82 rfl (fun x1 => E_ic r201_85 (v := 2) (by decide) (E_aI r201_86 (fun x2 => E_i2_ge r201_87 rfl (E_ic r201_150 (v := 0) (by decide) (go (w := (153, [.ref l0, .int l1, .int l2, .int l3, .int l4, .int 0, .null, .null, .null], [], h)) r201_151 rfl rfl (E_ic r201_153 (v := 0) (by decide) (go (w := (156, [.ref l0, .int l1, .int l2, .int l3, .int l4, .int 0, .int 0, .null, .null], [], h)) r201_154 rfl rfl (rfl))))) (go (w := (91, [.ref l0, .int l1, .int l2, .int l3, .int l4, .int l5, .null, .null, .null], [.ref l0], h)) r201_90 rfl rfl (E_gR r201_91 rfl (fun x3 => go (w := (96, [.ref l0, .int l1, .int l2, .int l3, .int l4, .int l5, .null, .null, .null], [.int l5, .ref x3], h)) r201_94 rfl rfl (E_aI r201_96 (fun x4 => E_ic r201_97 (v := (-1)) (by decide) (E_i2_eq r201_98 rfl (rfl) (go (w := (102, [.ref l0, .int l1, .int l2, .int l3, .int l4, .int l5, .null, .null, .null], [.ref l0], h)) r201_101 rfl rfl (go (w := (104, [.ref l0, .int l1, .int l2, .int l3, .int l4, .int l5, .null, .null, .null], [.int l5, .ref l0], h)) r201_102 rfl rfl (E_vI r201_104 (As := [.ref l0, .int l5]) (rest := []) (cut_n mi199.1 rfl rfl) (rm8_n mi199.2.1 (Nat.le_of_ble_eq_true rfl) (Nat.le_of_ble_eq_true rfl)) mi199.2.2 (fun x6 h5 => go (w := (108, [.ref l0, .int l1, .int l2, .int l3, .int l4, .int l5, .null, .null, .null], [.int l3, .int x6], h5)) r201_107 rfl rfl (E_i2_le r201_108 rfl (go (w := (121, [.ref l0, .int l1, .int l2, .int l3, .int l4, .int l5, .null, .null, .null], [.int l3], h5)) r201_120 rfl rfl (rfl)) (go (w := (112, [.ref l0, .int l1, .int l2, .int l3, .int l4, .int l5, .null, .null, .null], [.ref l0], h5)) r201_111 rfl rfl (go (w := (114, [.ref l0, .int l1, .int l2, .int l3, .int l4, .int l5, .null, .null, .null], [.int l5, .ref l0], h5)) r201_112 rfl rfl (E_vI r201_114 (As := [.ref l0, .int l5]) (rest := []) (cut_n mi199.1 rfl rfl) (rm8_n mi199.2.1 (Nat.le_of_ble_eq_true rfl) (Nat.le_of_ble_eq_true rfl)) mi199.2.2 (fun x8 h7 => E_gt r201_117 rfl (rfl)))))))))))))))))))))
theorem b201_121 (d : Nat) (l0 : Nat) (l1 : Int32) (l2 : Int32) (l3 : Int32) (l4 : Int32) (l5 : Int32) (s0 : Int32) (h : aH) (K : Option Value → aH → Prop) : E scr false (d + 1) 201 121 [.ref l0, .int l1, .int l2, .int l3, .int l4, .int l5, .null, .null, .null] [.int s0] h K = vI scr d 200 [.ref l0, .int l5] h (fun (x2 : Int32) (h1 : aH) => (if x2 = 0 then E scr false (d + 1) 201 141 [.ref l0, .int l1, .int l2, .int s0, .int l4, .int l5, .null, .null, .null] [.int 0, .int l4] h1 K else E scr false (d + 1) 201 141 [.ref l0, .int l1, .int l2, .int s0, .int l4, .int l5, .null, .null, .null] [.int ((1 : Int32) <<< ((l5 : Int32) &&& 31) : Int32), .int l4] h1 K)) := go (w := (122, [.ref l0, .int l1, .int l2, .int s0, .int l4, .int l5, .null, .null, .null], [], h)) r201_121 rfl rfl (go (w := (124, [.ref l0, .int l1, .int l2, .int s0, .int l4, .int l5, .null, .null, .null], [.int l4], h)) r201_122 rfl rfl (go (w := (125, [.ref l0, .int l1, .int l2, .int s0, .int l4, .int l5, .null, .null, .null], [.ref l0, .int l4], h)) r201_124 rfl rfl (go (w := (127, [.ref l0, .int l1, .int l2, .int s0, .int l4, .int l5, .null, .null, .null], [.int l5, .ref l0, .int l4], h)) r201_125 rfl rfl (E_vI r201_127 (As := [.ref l0, .int l5]) (rest := [.int l4]) (cut_n mi200.1 rfl rfl) (rm8_n mi200.2.1 (Nat.le_of_ble_eq_true rfl) (Nat.le_of_ble_eq_true rfl)) mi200.2.2 (fun x2 h1 => E_i1_eq r201_130 rfl (E_ic r201_140 (v := 0) (by decide) (rfl)) (E_ic r201_133 (v := 1) (by decide) (go (w := (136, [.ref l0, .int l1, .int l2, .int s0, .int l4, .int l5, .null, .null, .null], [.int l5, .int 1, .int l4], h1)) r201_134 rfl rfl (go (w := (137, [.ref l0, .int l1, .int l2, .int s0, .int l4, .int l5, .null, .null, .null], [.int ((1 : Int32) <<< ((l5 : Int32) &&& 31) : Int32), .int l4], h1)) r201_136 rfl rfl (E_gt r201_137 rfl (rfl))))))))))
theorem b201_141 (d : Nat) (l0 : Nat) (l1 : Int32) (l2 : Int32) (l3 : Int32) (l4 : Int32) (l5 : Int32) (s0 : Int32) (s1 : Int32) (h : aH) (K : Option Value → aH → Prop) : E scr false d 201 141 [.ref l0, .int l1, .int l2, .int l3, .int l4, .int l5, .null, .null, .null] [.int s0, .int s1] h K = E scr false d 201 144 [.ref l0, .int l1, .int l2, .int l3, .int (s1 ||| s0), .int l5, .null, .null, .null] [] h K := go (w := (142, [.ref l0, .int l1, .int l2, .int l3, .int l4, .int l5, .null, .null, .null], [.int (s1 ||| s0)], h)) r201_141 rfl rfl (go (w := (144, [.ref l0, .int l1, .int l2, .int l3, .int (s1 ||| s0), .int l5, .null, .null, .null], [], h)) r201_142 rfl rfl (rfl))
theorem b201_144 (d : Nat) (l0 : Nat) (l1 : Int32) (l2 : Int32) (l3 : Int32) (l4 : Int32) (l5 : Int32) (h : aH) (K : Option Value → aH → Prop) : E scr false d 201 144 [.ref l0, .int l1, .int l2, .int l3, .int l4, .int l5, .null, .null, .null] [] h K = E scr false d 201 79 [.ref l0, .int l1, .int l2, .int l3, .int l4, .int (l5 + 1), .null, .null, .null] [] h K := E_inc r201_144 (c := 1) rfl (by decide) (L' := [.ref l0, .int l1, .int l2, .int l3, .int l4, .int (l5 + 1), .null, .null, .null]) rfl (E_gt r201_147 rfl (rfl))
theorem b201_156 (d : Nat) (l0 : Nat) (l1 : Int32) (l2 : Int32) (l3 : Int32) (l4 : Int32) (l5 : Int32) (l6 : Int32) (l7 : Value) (l8 : Value) (h : aH) (K : Option Value → aH → Prop) : E scr false d 201 156 [.ref l0, .int l1, .int l2, .int l3, .int l4, .int l5, .int l6, l7, l8] [] h K = gR scr h l0 9 1 (fun x1 : Nat => aI scr h x1 2 (fun x2 : Int32 => (if x2 ≤ l6 then (if l2 = 0 then K (some (.int l3)) h else (if l2 = 1 then K (some (.int l5)) h else K (some (.int l4)) h)) else (if (((l4 : Int32) >>> ((l6 : Int32) &&& 31) : Int32) &&& 1) = 1 then E scr false d 201 183 [.ref l0, .int l1, .int l2, .int l3, .int l4, .int l5, .int l6, l7, l8] [.int 1] h K else E scr false d 201 183 [.ref l0, .int l1, .int l2, .int l3, .int l4, .int l5, .int l6, l7, l8] [.int 0] h K)))) := go (w := (158, [.ref l0, .int l1, .int l2, .int l3, .int l4, .int l5, .int l6, l7, l8], [.int l6], h)) r201_156 rfl rfl (go (w := (159, [.ref l0, .int l1, .int l2, .int l3, .int l4, .int l5, .int l6, l7, l8], [.ref l0, .int l6], h)) r201_158 rfl rfl (E_gR r201_159 rfl (fun x1 => E_ic r201_162 (v := 2) (by decide) (E_aI r201_163 (fun x2 => E_i2_ge r201_164 rfl (go (w := (254, [.ref l0, .int l1, .int l2, .int l3, .int l4, .int l5, .int l6, l7, l8], [.int l2], h)) r201_253 rfl rfl (E_i1_ne r201_254 rfl (go (w := (262, [.ref l0, .int l1, .int l2, .int l3, .int l4, .int l5, .int l6, l7, l8], [.int l2], h)) r201_261 rfl rfl (E_ic r201_262 (v := 1) (by decide) (E_i2_ne r201_263 rfl (go (w := (273, [.ref l0, .int l1, .int l2, .int l3, .int l4, .int l5, .int l6, l7, l8], [.int l4], h)) r201_271 rfl rfl (E_ri r201_273 (mq201))) (go (w := (268, [.ref l0, .int l1, .int l2, .int l3, .int l4, .int l5, .int l6, l7, l8], [.int l5], h)) r201_266 rfl rfl (E_gt r201_268 rfl (E_ri r201_273 (mq201))))))) (go (w := (258, [.ref l0, .int l1, .int l2, .int l3, .int l4, .int l5, .int l6, l7, l8], [.int l3], h)) r201_257 rfl rfl (E_gt r201_258 rfl (E_ri r201_273 (mq201)))))) (go (w := (169, [.ref l0, .int l1, .int l2, .int l3, .int l4, .int l5, .int l6, l7, l8], [.int l4], h)) r201_167 rfl rfl (go (w := (171, [.ref l0, .int l1, .int l2, .int l3, .int l4, .int l5, .int l6, l7, l8], [.int l6, .int l4], h)) r201_169 rfl rfl (go (w := (172, [.ref l0, .int l1, .int l2, .int l3, .int l4, .int l5, .int l6, l7, l8], [.int ((l4 : Int32) >>> ((l6 : Int32) &&& 31) : Int32)], h)) r201_171 rfl rfl (E_ic r201_172 (v := 1) (by decide) (go (w := (174, [.ref l0, .int l1, .int l2, .int l3, .int l4, .int l5, .int l6, l7, l8], [.int (((l4 : Int32) >>> ((l6 : Int32) &&& 31) : Int32) &&& 1)], h)) r201_173 rfl rfl (E_ic r201_174 (v := 1) (by decide) (E_i2_ne r201_175 rfl (E_ic r201_182 (v := 0) (by decide) (rfl)) (E_ic r201_178 (v := 1) (by decide) (E_gt r201_179 rfl (rfl)))))))))))))))
theorem b201_183 (d : Nat) (l0 : Nat) (l1 : Int32) (l2 : Int32) (l3 : Int32) (l4 : Int32) (l5 : Int32) (l6 : Int32) (l7 : Value) (l8 : Value) (s0 : Int32) (h : aH) (K : Option Value → aH → Prop) : E scr false d 201 183 [.ref l0, .int l1, .int l2, .int l3, .int l4, .int l5, .int l6, l7, l8] [.int s0] h K = gR scr h l0 9 45 (fun x1 : Nat => aI scr h x1 l6 (fun x2 : Int32 => E scr false d 201 194 [.ref l0, .int l1, .int l2, .int l3, .int l4, .int l5, .int l6, .int s0, .int x2] [] h K)) := go (w := (185, [.ref l0, .int l1, .int l2, .int l3, .int l4, .int l5, .int l6, .int s0, l8], [], h)) r201_183 rfl rfl (go (w := (186, [.ref l0, .int l1, .int l2, .int l3, .int l4, .int l5, .int l6, .int s0, l8], [.ref l0], h)) r201_185 rfl rfl (E_gR r201_186 rfl (fun x1 => go (w := (191, [.ref l0, .int l1, .int l2, .int l3, .int l4, .int l5, .int l6, .int s0, l8], [.int l6, .ref x1], h)) r201_189 rfl rfl (E_aI r201_191 (fun x2 => go (w := (194, [.ref l0, .int l1, .int l2, .int l3, .int l4, .int l5, .int l6, .int s0, .int x2], [], h)) r201_192 rfl rfl (rfl))))))
theorem b201_194 (d : Nat) (l0 : Nat) (l1 : Int32) (l2 : Int32) (l3 : Int32) (l4 : Int32) (l5 : Int32) (l6 : Int32) (l7 : Int32) (l8 : Int32) (h : aH) (K : Option Value → aH → Prop) : E scr false d 201 194 [.ref l0, .int l1, .int l2, .int l3, .int l4, .int l5, .int l6, .int l7, .int l8] [] h K = (if l7 = 0 then E scr false d 201 232 [.ref l0, .int l1, .int l2, .int l3, .int l4, .int l5, .int l6, .int l7, .int l8] [] h K else (if l8 = l6 then E scr false d 201 232 [.ref l0, .int l1, .int l2, .int l3, .int l4, .int l5, .int l6, .int l7, .int l8] [] h K else (if l8 ≤ l6 then E scr false d 201 218 [.ref l0, .int l1, .int l2, .int l3, .int l4, .int l5, .int l6, .int l7, .int l8] [.int 0] h K else E scr false d 201 218 [.ref l0, .int l1, .int l2, .int l3, .int l4, .int l5, .int l6, .int l7, .int l8] [.int 1] h K))) := go (w := (196, [.ref l0, .int l1, .int l2, .int l3, .int l4, .int l5, .int l6, .int l7, .int l8], [.int l7], h)) r201_194 rfl rfl (E_i1_eq r201_196 rfl (rfl) (go (w := (201, [.ref l0, .int l1, .int l2, .int l3, .int l4, .int l5, .int l6, .int l7, .int l8], [.int l8], h)) r201_199 rfl rfl (go (w := (203, [.ref l0, .int l1, .int l2, .int l3, .int l4, .int l5, .int l6, .int l7, .int l8], [.int l6, .int l8], h)) r201_201 rfl rfl (E_i2_eq r201_203 rfl (rfl) (go (w := (208, [.ref l0, .int l1, .int l2, .int l3, .int l4, .int l5, .int l6, .int l7, .int l8], [.int l8], h)) r201_206 rfl rfl (go (w := (210, [.ref l0, .int l1, .int l2, .int l3, .int l4, .int l5, .int l6, .int l7, .int l8], [.int l6, .int l8], h)) r201_208 rfl rfl (E_i2_le r201_210 rfl (E_ic r201_217 (v := 0) (by decide) (rfl)) (E_ic r201_213 (v := 1) (by decide) (E_gt r201_214 rfl (rfl))))))))))
theorem b201_218 (d : Nat) (l0 : Nat) (l1 : Int32) (l2 : Int32) (l3 : Int32) (l4 : Int32) (l5 : Int32) (l6 : Int32) (l7 : Int32) (l8 : Int32) (s0 : Int32) (h : aH) (K : Option Value → aH → Prop) : E scr false d 201 218 [.ref l0, .int l1, .int l2, .int l3, .int l4, .int l5, .int l6, .int l7, .int l8] [.int s0] h K = gR scr h l0 9 45 (fun x1 : Nat => aI scr h x1 l8 (fun x2 : Int32 => E scr false d 201 194 [.ref l0, .int l1, .int l2, .int l3, .int l4, .int l5, .int l6, .int s0, .int x2] [] h K)) := go (w := (220, [.ref l0, .int l1, .int l2, .int l3, .int l4, .int l5, .int l6, .int s0, .int l8], [], h)) r201_218 rfl rfl (go (w := (221, [.ref l0, .int l1, .int l2, .int l3, .int l4, .int l5, .int l6, .int s0, .int l8], [.ref l0], h)) r201_220 rfl rfl (E_gR r201_221 rfl (fun x1 => go (w := (226, [.ref l0, .int l1, .int l2, .int l3, .int l4, .int l5, .int l6, .int s0, .int l8], [.int l8, .ref x1], h)) r201_224 rfl rfl (E_aI r201_226 (fun x2 => go (w := (229, [.ref l0, .int l1, .int l2, .int l3, .int l4, .int l5, .int l6, .int s0, .int x2], [], h)) r201_227 rfl rfl (E_gt r201_229 rfl (rfl)))))))
theorem b201_232 (d : Nat) (l0 : Nat) (l1 : Int32) (l2 : Int32) (l3 : Int32) (l4 : Int32) (l5 : Int32) (l6 : Int32) (l7 : Int32) (l8 : Int32) (h : aH) (K : Option Value → aH → Prop) : E scr false d 201 232 [.ref l0, .int l1, .int l2, .int l3, .int l4, .int l5, .int l6, .int l7, .int l8] [] h K = (if l7 = 0 then E scr false d 201 244 [.ref l0, .int l1, .int l2, .int l3, .int l4, .int l5, .int l6, .int l7, .int l8] [.int 0, .int l5] h K else E scr false d 201 244 [.ref l0, .int l1, .int l2, .int l3, .int l4, .int l5, .int l6, .int l7, .int l8] [.int 1, .int l5] h K) := go (w := (234, [.ref l0, .int l1, .int l2, .int l3, .int l4, .int l5, .int l6, .int l7, .int l8], [.int l5], h)) r201_232 rfl rfl (go (w := (236, [.ref l0, .int l1, .int l2, .int l3, .int l4, .int l5, .int l6, .int l7, .int l8], [.int l7, .int l5], h)) r201_234 rfl rfl (E_i1_eq r201_236 rfl (E_ic r201_243 (v := 0) (by decide) (rfl)) (E_ic r201_239 (v := 1) (by decide) (E_gt r201_240 rfl (rfl)))))
theorem b201_244 (d : Nat) (l0 : Nat) (l1 : Int32) (l2 : Int32) (l3 : Int32) (l4 : Int32) (l5 : Int32) (l6 : Int32) (l7 : Int32) (l8 : Int32) (s0 : Int32) (s1 : Int32) (h : aH) (K : Option Value → aH → Prop) : E scr false d 201 244 [.ref l0, .int l1, .int l2, .int l3, .int l4, .int l5, .int l6, .int l7, .int l8] [.int s0, .int s1] h K = E scr false d 201 156 [.ref l0, .int l1, .int l2, .int l3, .int l4, .int (s1 + s0), .int (l6 + 1), .int l7, .int l8] [] h K := go (w := (245, [.ref l0, .int l1, .int l2, .int l3, .int l4, .int l5, .int l6, .int l7, .int l8], [.int (s1 + s0)], h)) r201_244 rfl rfl (go (w := (247, [.ref l0, .int l1, .int l2, .int l3, .int l4, .int (s1 + s0), .int l6, .int l7, .int l8], [], h)) r201_245 rfl rfl (E_inc r201_247 (c := 1) rfl (by decide) (L' := [.ref l0, .int l1, .int l2, .int l3, .int l4, .int (s1 + s0), .int (l6 + 1), .int l7, .int l8]) rfl (E_gt r201_250 rfl (rfl))))
-- 202 SecondNearestModel.unlike(III)I
theorem mq202 : mRet 202 = (some .int) := by decide +kernel
theorem r202_0 : rowAt 202 0 = some (.aload_n 0, 1, 0, 0) := by decide +kernel
theorem r202_1 : rowAt 202 1 = some (.invokevirtual 429, 3, 193, 0) := by decide +kernel
theorem r202_4 : rowAt 202 4 = some (.aload_n 0, 1, 0, 0) := by decide +kernel
theorem r202_5 : rowAt 202 5 = some (.iload_n 1, 1, 0, 0) := by decide +kernel
theorem r202_6 : rowAt 202 6 = some (.iload_n 3, 1, 0, 0) := by decide +kernel
theorem r202_7 : rowAt 202 7 = some (.invokevirtual 415, 3, 181, 0) := by decide +kernel
theorem r202_10 : rowAt 202 10 = some (.iconst 0, 1, 0, 0) := by decide +kernel
theorem r202_11 : rowAt 202 11 = some (.istore 4, 2, 0, 0) := by decide +kernel
theorem r202_13 : rowAt 202 13 = some (.iload 4, 2, 0, 0) := by decide +kernel
theorem r202_15 : rowAt 202 15 = some (.bipush 12, 2, 0, 0) := by decide +kernel
theorem r202_17 : rowAt 202 17 = some (.if_icmp .ge 23, 3, 0, 0) := by decide +kernel
theorem r202_20 : rowAt 202 20 = some (.aload_n 0, 1, 0, 0) := by decide +kernel
theorem r202_21 : rowAt 202 21 = some (.getfield 115, 3, 9, 46) := by decide +kernel
theorem r202_24 : rowAt 202 24 = some (.iload 4, 2, 0, 0) := by decide +kernel
theorem r202_26 : rowAt 202 26 = some (.aload_n 0, 1, 0, 0) := by decide +kernel
theorem r202_27 : rowAt 202 27 = some (.getfield 37, 3, 9, 10) := by decide +kernel
theorem r202_30 : rowAt 202 30 = some (.iload 4, 2, 0, 0) := by decide +kernel
theorem r202_32 : rowAt 202 32 = some (.iaload, 1, 0, 0) := by decide +kernel
theorem r202_33 : rowAt 202 33 = some (.iastore, 1, 0, 0) := by decide +kernel
theorem r202_34 : rowAt 202 34 = some (.iinc 4 1, 3, 0, 0) := by decide +kernel
theorem r202_37 : rowAt 202 37 = some (.goto (-24), 3, 0, 0) := by decide +kernel
theorem r202_40 : rowAt 202 40 = some (.aload_n 0, 1, 0, 0) := by decide +kernel
theorem r202_41 : rowAt 202 41 = some (.invokevirtual 435, 3, 194, 0) := by decide +kernel
theorem r202_44 : rowAt 202 44 = some (.aload_n 0, 1, 0, 0) := by decide +kernel
theorem r202_45 : rowAt 202 45 = some (.getfield 37, 3, 9, 10) := by decide +kernel
theorem r202_48 : rowAt 202 48 = some (.iload_n 2, 1, 0, 0) := by decide +kernel
theorem r202_49 : rowAt 202 49 = some (.iconst (-1), 1, 0, 0) := by decide +kernel
theorem r202_50 : rowAt 202 50 = some (.iastore, 1, 0, 0) := by decide +kernel
theorem r202_51 : rowAt 202 51 = some (.aload_n 0, 1, 0, 0) := by decide +kernel
theorem r202_52 : rowAt 202 52 = some (.iload_n 1, 1, 0, 0) := by decide +kernel
theorem r202_53 : rowAt 202 53 = some (.iload_n 3, 1, 0, 0) := by decide +kernel
theorem r202_54 : rowAt 202 54 = some (.invokevirtual 415, 3, 181, 0) := by decide +kernel
theorem r202_57 : rowAt 202 57 = some (.iconst 0, 1, 0, 0) := by decide +kernel
theorem r202_58 : rowAt 202 58 = some (.istore 4, 2, 0, 0) := by decide +kernel
theorem r202_60 : rowAt 202 60 = some (.iconst 0, 1, 0, 0) := by decide +kernel
theorem r202_61 : rowAt 202 61 = some (.istore 5, 2, 0, 0) := by decide +kernel
theorem r202_63 : rowAt 202 63 = some (.iload 5, 2, 0, 0) := by decide +kernel
theorem r202_65 : rowAt 202 65 = some (.aload_n 0, 1, 0, 0) := by decide +kernel
theorem r202_66 : rowAt 202 66 = some (.getfield 7, 3, 9, 1) := by decide +kernel
theorem r202_69 : rowAt 202 69 = some (.iconst 2, 1, 0, 0) := by decide +kernel
theorem r202_70 : rowAt 202 70 = some (.iaload, 1, 0, 0) := by decide +kernel
theorem r202_71 : rowAt 202 71 = some (.if_icmp .ge 42, 3, 0, 0) := by decide +kernel
theorem r202_74 : rowAt 202 74 = some (.iload 4, 2, 0, 0) := by decide +kernel
theorem r202_76 : rowAt 202 76 = some (.iload 5, 2, 0, 0) := by decide +kernel
theorem r202_78 : rowAt 202 78 = some (.iload_n 2, 1, 0, 0) := by decide +kernel
theorem r202_79 : rowAt 202 79 = some (.if_icmp .eq 24, 3, 0, 0) := by decide +kernel
theorem r202_82 : rowAt 202 82 = some (.aload_n 0, 1, 0, 0) := by decide +kernel
theorem r202_83 : rowAt 202 83 = some (.getfield 37, 3, 9, 10) := by decide +kernel
theorem r202_86 : rowAt 202 86 = some (.iload 5, 2, 0, 0) := by decide +kernel
theorem r202_88 : rowAt 202 88 = some (.iaload, 1, 0, 0) := by decide +kernel
theorem r202_89 : rowAt 202 89 = some (.aload_n 0, 1, 0, 0) := by decide +kernel
theorem r202_90 : rowAt 202 90 = some (.getfield 115, 3, 9, 46) := by decide +kernel
theorem r202_93 : rowAt 202 93 = some (.iload 5, 2, 0, 0) := by decide +kernel
theorem r202_95 : rowAt 202 95 = some (.iaload, 1, 0, 0) := by decide +kernel
theorem r202_96 : rowAt 202 96 = some (.if_icmp .eq 7, 3, 0, 0) := by decide +kernel
theorem r202_99 : rowAt 202 99 = some (.iconst 1, 1, 0, 0) := by decide +kernel
theorem r202_100 : rowAt 202 100 = some (.goto 4, 3, 0, 0) := by decide +kernel
theorem r202_103 : rowAt 202 103 = some (.iconst 0, 1, 0, 0) := by decide +kernel
theorem r202_104 : rowAt 202 104 = some (.iadd, 1, 0, 0) := by decide +kernel
theorem r202_105 : rowAt 202 105 = some (.istore 4, 2, 0, 0) := by decide +kernel
theorem r202_107 : rowAt 202 107 = some (.iinc 5 1, 3, 0, 0) := by decide +kernel
theorem r202_110 : rowAt 202 110 = some (.goto (-47), 3, 0, 0) := by decide +kernel
theorem r202_113 : rowAt 202 113 = some (.aload_n 0, 1, 0, 0) := by decide +kernel
theorem r202_114 : rowAt 202 114 = some (.invokevirtual 435, 3, 194, 0) := by decide +kernel
theorem r202_117 : rowAt 202 117 = some (.iload 4, 2, 0, 0) := by decide +kernel
theorem r202_119 : rowAt 202 119 = some (.ireturn, 1, 0, 0) := by decide +kernel
theorem en202 (a0 : Nat) (a1 : Int32) (a2 : Int32) (a3 : Int32) : iniL 202 [.ref a0, .int a1, .int a2, .int a3] = [.ref a0, .int a1, .int a2, .int a3, .null, .null] := ini_n mi202 rfl
theorem b202_0 (d : Nat) (l0 : Nat) (l1 : Int32) (l2 : Int32) (l3 : Int32) (h : aH) (K : Option Value → aH → Prop) : E scr false (d + 1) 202 0 [.ref l0, .int l1, .int l2, .int l3, .null, .null] [] h K = vV scr d 193 [.ref l0] h (fun h1 : aH => vV scr d 181 [.ref l0, .int l1, .int l3] h1 (fun h3 : aH => E scr false (d + 1) 202 13 [.ref l0, .int l1, .int l2, .int l3, .int 0, .null] [] h3 K)) := go (w := (1, [.ref l0, .int l1, .int l2, .int l3, .null, .null], [.ref l0], h)) r202_0 rfl rfl (E_vV r202_1 (As := [.ref l0]) (rest := []) (cut_n mi193.1 rfl rfl) (rm8_n mi193.2.1 (Nat.le_of_ble_eq_true rfl) (Nat.le_of_ble_eq_true rfl)) mi193.2.2 (fun h1 => go (w := (5, [.ref l0, .int l1, .int l2, .int l3, .null, .null], [.ref l0], h1)) r202_4 rfl rfl (go (w := (6, [.ref l0, .int l1, .int l2, .int l3, .null, .null], [.int l1, .ref l0], h1)) r202_5 rfl rfl (go (w := (7, [.ref l0, .int l1, .int l2, .int l3, .null, .null], [.int l3, .int l1, .ref l0], h1)) r202_6 rfl rfl (E_vV r202_7 (As := [.ref l0, .int l1, .int l3]) (rest := []) (cut_n mi181.1 rfl rfl) (rm8_n mi181.2.1 (Nat.le_of_ble_eq_true rfl) (Nat.le_of_ble_eq_true rfl)) mi181.2.2 (fun h3 => E_ic r202_10 (v := 0) (by decide) (go (w := (13, [.ref l0, .int l1, .int l2, .int l3, .int 0, .null], [], h3)) r202_11 rfl rfl (rfl))))))))
theorem b202_13 (d : Nat) (l0 : Nat) (l1 : Int32) (l2 : Int32) (l3 : Int32) (l4 : Int32) (h : aH) (K : Option Value → aH → Prop) : E scr false (d + 1) 202 13 [.ref l0, .int l1, .int l2, .int l3, .int l4, .null] [] h K = (if 12 ≤ l4 then vV scr d 194 [.ref l0] h (fun h1 : aH => gR scr h1 l0 9 10 (fun x3 : Nat => wI h1 x3 l2 ((-1)) (fun h4 : aH => vV scr d 181 [.ref l0, .int l1, .int l3] h4 (fun h5 : aH => E scr false (d + 1) 202 63 [.ref l0, .int l1, .int l2, .int l3, .int 0, .int 0] [] h5 K)))) else gR scr h l0 9 46 (fun x7 : Nat => gR scr h l0 9 10 (fun x8 : Nat => aI scr h x8 l4 (fun x9 : Int32 => wI h x7 l4 x9 (fun h10 : aH => E scr false (d + 1) 202 13 [.ref l0, .int l1, .int l2, .int l3, .int (l4 + 1), .null] [] h10 K))))) := go (w := (15, [.ref l0, .int l1, .int l2, .int l3, .int l4, .null], [.int l4], h)) r202_13 rfl rfl (E_bip r202_15 (v := 12) (by decide) (E_i2_ge r202_17 rfl (go (w := (41, [.ref l0, .int l1, .int l2, .int l3, .int l4, .null], [.ref l0], h)) r202_40 rfl rfl (E_vV r202_41 (As := [.ref l0]) (rest := []) (cut_n mi194.1 rfl rfl) (rm8_n mi194.2.1 (Nat.le_of_ble_eq_true rfl) (Nat.le_of_ble_eq_true rfl)) mi194.2.2 (fun h1 => go (w := (45, [.ref l0, .int l1, .int l2, .int l3, .int l4, .null], [.ref l0], h1)) r202_44 rfl rfl (E_gR r202_45 rfl (fun x3 => go (w := (49, [.ref l0, .int l1, .int l2, .int l3, .int l4, .null], [.int l2, .ref x3], h1)) r202_48 rfl rfl (E_ic r202_49 (v := (-1)) (by decide) (E_wI r202_50 (fun h4 => go (w := (52, [.ref l0, .int l1, .int l2, .int l3, .int l4, .null], [.ref l0], h4)) r202_51 rfl rfl (go (w := (53, [.ref l0, .int l1, .int l2, .int l3, .int l4, .null], [.int l1, .ref l0], h4)) r202_52 rfl rfl (go (w := (54, [.ref l0, .int l1, .int l2, .int l3, .int l4, .null], [.int l3, .int l1, .ref l0], h4)) r202_53 rfl rfl (E_vV r202_54 (As := [.ref l0, .int l1, .int l3]) (rest := []) (cut_n mi181.1 rfl rfl) (rm8_n mi181.2.1 (Nat.le_of_ble_eq_true rfl) (Nat.le_of_ble_eq_true rfl)) mi181.2.2 (fun h5 => E_ic r202_57 (v := 0) (by decide) (go (w := (60, [.ref l0, .int l1, .int l2, .int l3, .int 0, .null], [], h5)) r202_58 rfl rfl (E_ic r202_60 (v := 0) (by decide) (go (w := (63, [.ref l0, .int l1, .int l2, .int l3, .int 0, .int 0], [], h5)) r202_61 rfl rfl (rfl)))))))))))))))) (go (w := (21, [.ref l0, .int l1, .int l2, .int l3, .int l4, .null], [.ref l0], h)) r202_20 rfl rfl (E_gR r202_21 rfl (fun x7 => go (w := (26, [.ref l0, .int l1, .int l2, .int l3, .int l4, .null], [.int l4, .ref x7], h)) r202_24 rfl rfl (go (w := (27, [.ref l0, .int l1, .int l2, .int l3, .int l4, .null], [.ref l0, .int l4, .ref x7], h)) r202_26 rfl rfl (E_gR r202_27 rfl (fun x8 => go (w := (32, [.ref l0, .int l1, .int l2, .int l3, .int l4, .null], [.int l4, .ref x8, .int l4, .ref x7], h)) r202_30 rfl rfl (E_aI r202_32 (fun x9 => E_wI r202_33 (fun h10 => E_inc r202_34 (c := 1) rfl (by decide) (L' := [.ref l0, .int l1, .int l2, .int l3, .int (l4 + 1), .null]) rfl (E_gt r202_37 rfl (rfl)))))))))))))
theorem b202_63 (d : Nat) (l0 : Nat) (l1 : Int32) (l2 : Int32) (l3 : Int32) (l4 : Int32) (l5 : Int32) (h : aH) (K : Option Value → aH → Prop) : E scr false (d + 1) 202 63 [.ref l0, .int l1, .int l2, .int l3, .int l4, .int l5] [] h K = gR scr h l0 9 1 (fun x1 : Nat => aI scr h x1 2 (fun x2 : Int32 => (if x2 ≤ l5 then vV scr d 194 [.ref l0] h (fun h3 : aH => K (some (.int l4)) h3) else (if l5 = l2 then E scr false (d + 1) 202 103 [.ref l0, .int l1, .int l2, .int l3, .int l4, .int l5] [.int l4] h K else gR scr h l0 9 10 (fun x5 : Nat => aI scr h x5 l5 (fun x6 : Int32 => gR scr h l0 9 46 (fun x7 : Nat => aI scr h x7 l5 (fun x8 : Int32 => (if x6 = x8 then E scr false (d + 1) 202 103 [.ref l0, .int l1, .int l2, .int l3, .int l4, .int l5] [.int l4] h K else E scr false (d + 1) 202 104 [.ref l0, .int l1, .int l2, .int l3, .int l4, .int l5] [.int 1, .int l4] h K))))))))) := go (w := (65, [.ref l0, .int l1, .int l2, .int l3, .int l4, .int l5], [.int l5], h)) r202_63 rfl rfl (go (w := (66, [.ref l0, .int l1, .int l2, .int l3, .int l4, .int l5], [.ref l0, .int l5], h)) r202_65 rfl rfl (E_gR r202_66 rfl (fun x1 => E_ic r202_69 (v := 2) (by decide) (E_aI r202_70 (fun x2 => E_i2_ge r202_71 rfl (go (w := (114, [.ref l0, .int l1, .int l2, .int l3, .int l4, .int l5], [.ref l0], h)) r202_113 rfl rfl (E_vV r202_114 (As := [.ref l0]) (rest := []) (cut_n mi194.1 rfl rfl) (rm8_n mi194.2.1 (Nat.le_of_ble_eq_true rfl) (Nat.le_of_ble_eq_true rfl)) mi194.2.2 (fun h3 => go (w := (119, [.ref l0, .int l1, .int l2, .int l3, .int l4, .int l5], [.int l4], h3)) r202_117 rfl rfl (E_ri r202_119 (mq202))))) (go (w := (76, [.ref l0, .int l1, .int l2, .int l3, .int l4, .int l5], [.int l4], h)) r202_74 rfl rfl (go (w := (78, [.ref l0, .int l1, .int l2, .int l3, .int l4, .int l5], [.int l5, .int l4], h)) r202_76 rfl rfl (go (w := (79, [.ref l0, .int l1, .int l2, .int l3, .int l4, .int l5], [.int l2, .int l5, .int l4], h)) r202_78 rfl rfl (E_i2_eq r202_79 rfl (rfl) (go (w := (83, [.ref l0, .int l1, .int l2, .int l3, .int l4, .int l5], [.ref l0, .int l4], h)) r202_82 rfl rfl (E_gR r202_83 rfl (fun x5 => go (w := (88, [.ref l0, .int l1, .int l2, .int l3, .int l4, .int l5], [.int l5, .ref x5, .int l4], h)) r202_86 rfl rfl (E_aI r202_88 (fun x6 => go (w := (90, [.ref l0, .int l1, .int l2, .int l3, .int l4, .int l5], [.ref l0, .int x6, .int l4], h)) r202_89 rfl rfl (E_gR r202_90 rfl (fun x7 => go (w := (95, [.ref l0, .int l1, .int l2, .int l3, .int l4, .int l5], [.int l5, .ref x7, .int x6, .int l4], h)) r202_93 rfl rfl (E_aI r202_95 (fun x8 => E_i2_eq r202_96 rfl (rfl) (E_ic r202_99 (v := 1) (by decide) (E_gt r202_100 rfl (rfl)))))))))))))))))))))
theorem b202_103 (d : Nat) (l0 : Nat) (l1 : Int32) (l2 : Int32) (l3 : Int32) (l4 : Int32) (l5 : Int32) (s0 : Int32) (h : aH) (K : Option Value → aH → Prop) : E scr false d 202 103 [.ref l0, .int l1, .int l2, .int l3, .int l4, .int l5] [.int s0] h K = E scr false d 202 104 [.ref l0, .int l1, .int l2, .int l3, .int l4, .int l5] [.int 0, .int s0] h K := E_ic r202_103 (v := 0) (by decide) (rfl)
theorem b202_104 (d : Nat) (l0 : Nat) (l1 : Int32) (l2 : Int32) (l3 : Int32) (l4 : Int32) (l5 : Int32) (s0 : Int32) (s1 : Int32) (h : aH) (K : Option Value → aH → Prop) : E scr false d 202 104 [.ref l0, .int l1, .int l2, .int l3, .int l4, .int l5] [.int s0, .int s1] h K = E scr false d 202 63 [.ref l0, .int l1, .int l2, .int l3, .int (s1 + s0), .int (l5 + 1)] [] h K := go (w := (105, [.ref l0, .int l1, .int l2, .int l3, .int l4, .int l5], [.int (s1 + s0)], h)) r202_104 rfl rfl (go (w := (107, [.ref l0, .int l1, .int l2, .int l3, .int (s1 + s0), .int l5], [], h)) r202_105 rfl rfl (E_inc r202_107 (c := 1) rfl (by decide) (L' := [.ref l0, .int l1, .int l2, .int l3, .int (s1 + s0), .int (l5 + 1)]) rfl (E_gt r202_110 rfl (rfl))))
-- 203 SecondNearestModel.without(III)I
theorem mq203 : mRet 203 = (some .int) := by decide +kernel
theorem r203_0 : rowAt 203 0 = some (.aload_n 0, 1, 0, 0) := by decide +kernel
theorem r203_1 : rowAt 203 1 = some (.iload_n 1, 1, 0, 0) := by decide +kernel
theorem r203_2 : rowAt 203 2 = some (.iload_n 3, 1, 0, 0) := by decide +kernel
theorem r203_3 : rowAt 203 3 = some (.invokevirtual 426, 3, 195, 0) := by decide +kernel
theorem r203_6 : rowAt 203 6 = some (.ifCond .eq 21, 3, 0, 0) := by decide +kernel
theorem r203_9 : rowAt 203 9 = some (.aload_n 0, 1, 0, 0) := by decide +kernel
theorem r203_10 : rowAt 203 10 = some (.iload_n 2, 1, 0, 0) := by decide +kernel
theorem r203_11 : rowAt 203 11 = some (.invokevirtual 157, 3, 128, 0) := by decide +kernel
theorem r203_14 : rowAt 203 14 = some (.ifCond .eq 13, 3, 0, 0) := by decide +kernel
theorem r203_17 : rowAt 203 17 = some (.aload_n 0, 1, 0, 0) := by decide +kernel
theorem r203_18 : rowAt 203 18 = some (.getfield 37, 3, 9, 10) := by decide +kernel
theorem r203_21 : rowAt 203 21 = some (.iload_n 2, 1, 0, 0) := by decide +kernel
theorem r203_22 : rowAt 203 22 = some (.iaload, 1, 0, 0) := by decide +kernel
theorem r203_23 : rowAt 203 23 = some (.iconst (-1), 1, 0, 0) := by decide +kernel
theorem r203_24 : rowAt 203 24 = some (.if_icmp .ne 7, 3, 0, 0) := by decide +kernel
theorem r203_27 : rowAt 203 27 = some (.iconst (-1), 1, 0, 0) := by decide +kernel
theorem r203_28 : rowAt 203 28 = some (.goto 10, 3, 0, 0) := by decide +kernel
theorem r203_31 : rowAt 203 31 = some (.aload_n 0, 1, 0, 0) := by decide +kernel
theorem r203_32 : rowAt 203 32 = some (.iload_n 1, 1, 0, 0) := by decide +kernel
theorem r203_33 : rowAt 203 33 = some (.iload_n 2, 1, 0, 0) := by decide +kernel
theorem r203_34 : rowAt 203 34 = some (.iload_n 3, 1, 0, 0) := by decide +kernel
theorem r203_35 : rowAt 203 35 = some (.invokevirtual 449, 3, 202, 0) := by decide +kernel
theorem r203_38 : rowAt 203 38 = some (.ireturn, 1, 0, 0) := by decide +kernel
theorem en203 (a0 : Nat) (a1 : Int32) (a2 : Int32) (a3 : Int32) : iniL 203 [.ref a0, .int a1, .int a2, .int a3] = [.ref a0, .int a1, .int a2, .int a3] := ini_n mi203 rfl
theorem b203_0 (d : Nat) (l0 : Nat) (l1 : Int32) (l2 : Int32) (l3 : Int32) (h : aH) (K : Option Value → aH → Prop) : E scr false (d + 1) 203 0 [.ref l0, .int l1, .int l2, .int l3] [] h K = vI scr d 195 [.ref l0, .int l1, .int l3] h (fun (x2 : Int32) (h1 : aH) => (if x2 = 0 then E scr false (d + 1) 203 27 [.ref l0, .int l1, .int l2, .int l3] [] h1 K else vI scr d 128 [.ref l0, .int l2] h1 (fun (x4 : Int32) (h3 : aH) => (if x4 = 0 then E scr false (d + 1) 203 27 [.ref l0, .int l1, .int l2, .int l3] [] h3 K else gR scr h3 l0 9 10 (fun x5 : Nat => aI scr h3 x5 l2 (fun x6 : Int32 => (if x6 = (-1) then E scr false (d + 1) 203 27 [.ref l0, .int l1, .int l2, .int l3] [] h3 K else vI scr d 202 [.ref l0, .int l1, .int l2, .int l3] h3 (fun (x8 : Int32) (h7 : aH) => K (some (.int x8)) h7)))))))) := go (w := (1, [.ref l0, .int l1, .int l2, .int l3], [.ref l0], h)) r203_0 rfl rfl (go (w := (2, [.ref l0, .int l1, .int l2, .int l3], [.int l1, .ref l0], h)) r203_1 rfl rfl (go (w := (3, [.ref l0, .int l1, .int l2, .int l3], [.int l3, .int l1, .ref l0], h)) r203_2 rfl rfl (E_vI r203_3 (As := [.ref l0, .int l1, .int l3]) (rest := []) (cut_n mi195.1 rfl rfl) (rm8_n mi195.2.1 (Nat.le_of_ble_eq_true rfl) (Nat.le_of_ble_eq_true rfl)) mi195.2.2 (fun x2 h1 => E_i1_eq r203_6 rfl (rfl) (go (w := (10, [.ref l0, .int l1, .int l2, .int l3], [.ref l0], h1)) r203_9 rfl rfl (go (w := (11, [.ref l0, .int l1, .int l2, .int l3], [.int l2, .ref l0], h1)) r203_10 rfl rfl (E_vI r203_11 (As := [.ref l0, .int l2]) (rest := []) (cut_n mi128.1 rfl rfl) (rm8_n mi128.2.1 (Nat.le_of_ble_eq_true rfl) (Nat.le_of_ble_eq_true rfl)) mi128.2.2 (fun x4 h3 => E_i1_eq r203_14 rfl (rfl) (go (w := (18, [.ref l0, .int l1, .int l2, .int l3], [.ref l0], h3)) r203_17 rfl rfl (E_gR r203_18 rfl (fun x5 => go (w := (22, [.ref l0, .int l1, .int l2, .int l3], [.int l2, .ref x5], h3)) r203_21 rfl rfl (E_aI r203_22 (fun x6 => E_ic r203_23 (v := (-1)) (by decide) (E_i2_ne r203_24 rfl (go (w := (32, [.ref l0, .int l1, .int l2, .int l3], [.ref l0], h3)) r203_31 rfl rfl (go (w := (33, [.ref l0, .int l1, .int l2, .int l3], [.int l1, .ref l0], h3)) r203_32 rfl rfl (go (w := (34, [.ref l0, .int l1, .int l2, .int l3], [.int l2, .int l1, .ref l0], h3)) r203_33 rfl rfl (go (w := (35, [.ref l0, .int l1, .int l2, .int l3], [.int l3, .int l2, .int l1, .ref l0], h3)) r203_34 rfl rfl (E_vI r203_35 (As := [.ref l0, .int l1, .int l2, .int l3]) (rest := []) (cut_n mi202.1 rfl rfl) (rm8_n mi202.2.1 (Nat.le_of_ble_eq_true rfl) (Nat.le_of_ble_eq_true rfl)) mi202.2.2 (fun x8 h7 => E_ri r203_38 (mq203))))))) (rfl)))))))))))))))
theorem b203_27 (d : Nat) (l0 : Nat) (l1 : Int32) (l2 : Int32) (l3 : Int32) (h : aH) (K : Option Value → aH → Prop) : E scr false d 203 27 [.ref l0, .int l1, .int l2, .int l3] [] h K = K (some (.int (-1))) h := E_ic r203_27 (v := (-1)) (by decide) (E_gt r203_28 rfl (E_ri r203_38 (mq203)))
-- 204 SecondNearestModel.leader(III)I
theorem mq204 : mRet 204 = (some .int) := by decide +kernel
theorem r204_0 : rowAt 204 0 = some (.aload_n 0, 1, 0, 0) := by decide +kernel
theorem r204_1 : rowAt 204 1 = some (.iload_n 1, 1, 0, 0) := by decide +kernel
theorem r204_2 : rowAt 204 2 = some (.iload_n 2, 1, 0, 0) := by decide +kernel
theorem r204_3 : rowAt 204 3 = some (.invokevirtual 426, 3, 195, 0) := by decide +kernel
theorem r204_6 : rowAt 204 6 = some (.ifCond .eq 13, 3, 0, 0) := by decide +kernel
theorem r204_9 : rowAt 204 9 = some (.iload_n 3, 1, 0, 0) := by decide +kernel
theorem r204_10 : rowAt 204 10 = some (.i2l, 1, 0, 0) := by decide +kernel
theorem r204_11 : rowAt 204 11 = some (.lconst 0, 1, 0, 0) := by decide +kernel
theorem r204_12 : rowAt 204 12 = some (.lconst 1, 1, 0, 0) := by decide +kernel
theorem r204_13 : rowAt 204 13 = some (.invokestatic 143, 3, 121, 1) := by decide +kernel
theorem r204_16 : rowAt 204 16 = some (.ifCond .ne 5, 3, 0, 0) := by decide +kernel
theorem r204_19 : rowAt 204 19 = some (.iconst (-1), 1, 0, 0) := by decide +kernel
theorem r204_20 : rowAt 204 20 = some (.ireturn, 1, 0, 0) := by decide +kernel
theorem r204_21 : rowAt 204 21 = some (.bipush (-2), 2, 0, 0) := by decide +kernel
theorem r204_23 : rowAt 204 23 = some (.istore 4, 2, 0, 0) := by decide +kernel
theorem r204_25 : rowAt 204 25 = some (.iconst 0, 1, 0, 0) := by decide +kernel
theorem r204_26 : rowAt 204 26 = some (.istore 5, 2, 0, 0) := by decide +kernel
theorem r204_28 : rowAt 204 28 = some (.iconst 0, 1, 0, 0) := by decide +kernel
theorem r204_29 : rowAt 204 29 = some (.istore 6, 2, 0, 0) := by decide +kernel
theorem r204_31 : rowAt 204 31 = some (.iload 6, 2, 0, 0) := by decide +kernel
theorem r204_33 : rowAt 204 33 = some (.bipush 14, 2, 0, 0) := by decide +kernel
theorem r204_35 : rowAt 204 35 = some (.if_icmp .ge 61, 3, 0, 0) := by decide +kernel
theorem r204_38 : rowAt 204 38 = some (.aload_n 0, 1, 0, 0) := by decide +kernel
theorem r204_39 : rowAt 204 39 = some (.iload 6, 2, 0, 0) := by decide +kernel
theorem r204_41 : rowAt 204 41 = some (.invokevirtual 157, 3, 128, 0) := by decide +kernel
theorem r204_44 : rowAt 204 44 = some (.ifCond .eq 46, 3, 0, 0) := by decide +kernel
theorem r204_47 : rowAt 204 47 = some (.aload_n 0, 1, 0, 0) := by decide +kernel
theorem r204_48 : rowAt 204 48 = some (.getfield 37, 3, 9, 10) := by decide +kernel
theorem r204_51 : rowAt 204 51 = some (.iload 6, 2, 0, 0) := by decide +kernel
theorem r204_53 : rowAt 204 53 = some (.iaload, 1, 0, 0) := by decide +kernel
theorem r204_54 : rowAt 204 54 = some (.iconst (-1), 1, 0, 0) := by decide +kernel
theorem r204_55 : rowAt 204 55 = some (.if_icmp .eq 35, 3, 0, 0) := by decide +kernel
theorem r204_58 : rowAt 204 58 = some (.aload_n 0, 1, 0, 0) := by decide +kernel
theorem r204_59 : rowAt 204 59 = some (.iload_n 1, 1, 0, 0) := by decide +kernel
theorem r204_60 : rowAt 204 60 = some (.iload 6, 2, 0, 0) := by decide +kernel
theorem r204_62 : rowAt 204 62 = some (.iload_n 2, 1, 0, 0) := by decide +kernel
theorem r204_63 : rowAt 204 63 = some (.invokevirtual 449, 3, 202, 0) := by decide +kernel
theorem r204_66 : rowAt 204 66 = some (.istore 7, 2, 0, 0) := by decide +kernel
theorem r204_68 : rowAt 204 68 = some (.iload 4, 2, 0, 0) := by decide +kernel
theorem r204_70 : rowAt 204 70 = some (.bipush (-2), 2, 0, 0) := by decide +kernel
theorem r204_72 : rowAt 204 72 = some (.if_icmp .eq 10, 3, 0, 0) := by decide +kernel
theorem r204_75 : rowAt 204 75 = some (.iload 7, 2, 0, 0) := by decide +kernel
theorem r204_77 : rowAt 204 77 = some (.iload 5, 2, 0, 0) := by decide +kernel
theorem r204_79 : rowAt 204 79 = some (.if_icmp .le 11, 3, 0, 0) := by decide +kernel
theorem r204_82 : rowAt 204 82 = some (.iload 6, 2, 0, 0) := by decide +kernel
theorem r204_84 : rowAt 204 84 = some (.istore 4, 2, 0, 0) := by decide +kernel
theorem r204_86 : rowAt 204 86 = some (.iload 7, 2, 0, 0) := by decide +kernel
theorem r204_88 : rowAt 204 88 = some (.istore 5, 2, 0, 0) := by decide +kernel
theorem r204_90 : rowAt 204 90 = some (.iinc 6 1, 3, 0, 0) := by decide +kernel
theorem r204_93 : rowAt 204 93 = some (.goto (-62), 3, 0, 0) := by decide +kernel
theorem r204_96 : rowAt 204 96 = some (.iload 4, 2, 0, 0) := by decide +kernel
theorem r204_98 : rowAt 204 98 = some (.bipush (-2), 2, 0, 0) := by decide +kernel
theorem r204_100 : rowAt 204 100 = some (.if_icmp .eq 7, 3, 0, 0) := by decide +kernel
theorem r204_103 : rowAt 204 103 = some (.iload_n 3, 1, 0, 0) := by decide +kernel
theorem r204_104 : rowAt 204 104 = some (.ifCond .ne 8, 3, 0, 0) := by decide +kernel
theorem r204_107 : rowAt 204 107 = some (.iload 4, 2, 0, 0) := by decide +kernel
theorem r204_109 : rowAt 204 109 = some (.goto 5, 3, 0, 0) := by decide +kernel
theorem r204_112 : rowAt 204 112 = some (.iload 5, 2, 0, 0) := by decide +kernel
theorem r204_114 : rowAt 204 114 = some (.ireturn, 1, 0, 0) := by decide +kernel
theorem en204 (a0 : Nat) (a1 : Int32) (a2 : Int32) (a3 : Int32) : iniL 204 [.ref a0, .int a1, .int a2, .int a3] = [.ref a0, .int a1, .int a2, .int a3, .null, .null, .null, .null] := ini_n mi204 rfl
theorem b204_0 (d : Nat) (l0 : Nat) (l1 : Int32) (l2 : Int32) (l3 : Int32) (h : aH) (K : Option Value → aH → Prop) : E scr false (d + 1) 204 0 [.ref l0, .int l1, .int l2, .int l3, .null, .null, .null, .null] [] h K = vI scr d 195 [.ref l0, .int l1, .int l2] h (fun (x2 : Int32) (h1 : aH) => (if x2 = 0 then K (some (.int (-1))) h1 else sI scr d 121 [.long (Int32.toInt64 l3), .long 0, .long 1] h1 (fun (x4 : Int32) (h3 : aH) => (if x4 = 0 then K (some (.int (-1))) h3 else E scr false (d + 1) 204 31 [.ref l0, .int l1, .int l2, .int l3, .int (-2), .int 0, .int 0, .null] [] h3 K)))) := go (w := (1, [.ref l0, .int l1, .int l2, .int l3, .null, .null, .null, .null], [.ref l0], h)) r204_0 rfl rfl (go (w := (2, [.ref l0, .int l1, .int l2, .int l3, .null, .null, .null, .null], [.int l1, .ref l0], h)) r204_1 rfl rfl (go (w := (3, [.ref l0, .int l1, .int l2, .int l3, .null, .null, .null, .null], [.int l2, .int l1, .ref l0], h)) r204_2 rfl rfl (E_vI r204_3 (As := [.ref l0, .int l1, .int l2]) (rest := []) (cut_n mi195.1 rfl rfl) (rm8_n mi195.2.1 (Nat.le_of_ble_eq_true rfl) (Nat.le_of_ble_eq_true rfl)) mi195.2.2 (fun x2 h1 => E_i1_eq r204_6 rfl (E_ic r204_19 (v := (-1)) (by decide) (E_ri r204_20 (mq204))) (go (w := (10, [.ref l0, .int l1, .int l2, .int l3, .null, .null, .null, .null], [.int l3], h1)) r204_9 rfl rfl (go (w := (11, [.ref l0, .int l1, .int l2, .int l3, .null, .null, .null, .null], [.long (Int32.toInt64 l3)], h1)) r204_10 rfl rfl (E_lc r204_11 (v := 0) (by decide) (E_lc r204_12 (v := 1) (by decide) (E_sI r204_13 (As := [.long (Int32.toInt64 l3), .long 0, .long 1]) (rest := []) (cut_n mi121.1 rfl rfl) (rm8_n mi121.2.1 (Nat.le_of_ble_eq_true rfl) (Nat.le_of_ble_eq_true rfl)) mi121.2.2 (fun x4 h3 => E_i1_ne r204_16 rfl (E_bip r204_21 (v := (-2)) (by decide) (go (w := (25, [.ref l0, .int l1, .int l2, .int l3, .int (-2), .null, .null, .null], [], h3)) r204_23 rfl rfl (E_ic r204_25 (v := 0) (by decide) (go (w := (28, [.ref l0, .int l1, .int l2, .int l3, .int (-2), .int 0, .null, .null], [], h3)) r204_26 rfl rfl (E_ic r204_28 (v := 0) (by decide) (go (w := (31, [.ref l0, .int l1, .int l2, .int l3, .int (-2), .int 0, .int 0, .null], [], h3)) r204_29 rfl rfl (rfl))))))) (E_ic r204_19 (v := (-1)) (by decide) (E_ri r204_20 (mq204)))))))))))))
theorem b204_31 (d : Nat) (l0 : Nat) (l1 : Int32) (l2 : Int32) (l3 : Int32) (l4 : Int32) (l5 : Int32) (l6 : Int32) (l7 : Value) (h : aH) (K : Option Value → aH → Prop) : E scr false (d + 1) 204 31 [.ref l0, .int l1, .int l2, .int l3, .int l4, .int l5, .int l6, l7] [] h K = (if 14 ≤ l6 then (if l4 = (-2) then E scr false (d + 1) 204 107 [.ref l0, .int l1, .int l2, .int l3, .int l4, .int l5, .int l6, l7] [] h K else (if l3 = 0 then E scr false (d + 1) 204 107 [.ref l0, .int l1, .int l2, .int l3, .int l4, .int l5, .int l6, l7] [] h K else K (some (.int l5)) h)) else vI scr d 128 [.ref l0, .int l6] h (fun (x2 : Int32) (h1 : aH) => (if x2 = 0 then E scr false (d + 1) 204 90 [.ref l0, .int l1, .int l2, .int l3, .int l4, .int l5, .int l6, l7] [] h1 K else gR scr h1 l0 9 10 (fun x3 : Nat => aI scr h1 x3 l6 (fun x4 : Int32 => (if x4 = (-1) then E scr false (d + 1) 204 90 [.ref l0, .int l1, .int l2, .int l3, .int l4, .int l5, .int l6, l7] [] h1 K else vI scr d 202 [.ref l0, .int l1, .int l6, .int l2] h1 (fun (x6 : Int32) (h5 : aH) => (if l4 = (-2) then E scr false (d + 1) 204 82 [.ref l0, .int l1, .int l2, .int l3, .int l4, .int l5, .int l6, .int x6] [] h5 K else (if x6 ≤ l5 then E scr false (d + 1) 204 90 [.ref l0, .int l1, .int l2, .int l3, .int l4, .int l5, .int l6, .int x6] [] h5 K else E scr false (d + 1) 204 82 [.ref l0, .int l1, .int l2, .int l3, .int l4, .int l5, .int l6, .int x6] [] h5 K))))))))) := go (w := (33, [.ref l0, .int l1, .int l2, .int l3, .int l4, .int l5, .int l6, l7], [.int l6], h)) r204_31 rfl rfl (E_bip r204_33 (v := 14) (by decide) (E_i2_ge r204_35 rfl (go (w := (98, [.ref l0, .int l1, .int l2, .int l3, .int l4, .int l5, .int l6, l7], [.int l4], h)) r204_96 rfl rfl (E_bip r204_98 (v := (-2)) (by decide) (E_i2_eq r204_100 rfl (rfl) (go (w := (104, [.ref l0, .int l1, .int l2, .int l3, .int l4, .int l5, .int l6, l7], [.int l3], h)) r204_103 rfl rfl (E_i1_ne r204_104 rfl (go (w := (114, [.ref l0, .int l1, .int l2, .int l3, .int l4, .int l5, .int l6, l7], [.int l5], h)) r204_112 rfl rfl (E_ri r204_114 (mq204))) (rfl)))))) (go (w := (39, [.ref l0, .int l1, .int l2, .int l3, .int l4, .int l5, .int l6, l7], [.ref l0], h)) r204_38 rfl rfl (go (w := (41, [.ref l0, .int l1, .int l2, .int l3, .int l4, .int l5, .int l6, l7], [.int l6, .ref l0], h)) r204_39 rfl rfl (E_vI r204_41 (As := [.ref l0, .int l6]) (rest := []) (cut_n mi128.1 rfl rfl) (rm8_n mi128.2.1 (Nat.le_of_ble_eq_true rfl) (Nat.le_of_ble_eq_true rfl)) mi128.2.2 (fun x2 h1 => E_i1_eq r204_44 rfl (rfl) (go (w := (48, [.ref l0, .int l1, .int l2, .int l3, .int l4, .int l5, .int l6, l7], [.ref l0], h1)) r204_47 rfl rfl (E_gR r204_48 rfl (fun x3 => go (w := (53, [.ref l0, .int l1, .int l2, .int l3, .int l4, .int l5, .int l6, l7], [.int l6, .ref x3], h1)) r204_51 rfl rfl (E_aI r204_53 (fun x4 => E_ic r204_54 (v := (-1)) (by decide) (E_i2_eq r204_55 rfl (rfl) (go (w := (59, [.ref l0, .int l1, .int l2, .int l3, .int l4, .int l5, .int l6, l7], [.ref l0], h1)) r204_58 rfl rfl (go (w := (60, [.ref l0, .int l1, .int l2, .int l3, .int l4, .int l5, .int l6, l7], [.int l1, .ref l0], h1)) r204_59 rfl rfl (go (w := (62, [.ref l0, .int l1, .int l2, .int l3, .int l4, .int l5, .int l6, l7], [.int l6, .int l1, .ref l0], h1)) r204_60 rfl rfl (go (w := (63, [.ref l0, .int l1, .int l2, .int l3, .int l4, .int l5, .int l6, l7], [.int l2, .int l6, .int l1, .ref l0], h1)) r204_62 rfl rfl (E_vI r204_63 (As := [.ref l0, .int l1, .int l6, .int l2]) (rest := []) (cut_n mi202.1 rfl rfl) (rm8_n mi202.2.1 (Nat.le_of_ble_eq_true rfl) (Nat.le_of_ble_eq_true rfl)) mi202.2.2 (fun x6 h5 => go (w := (68, [.ref l0, .int l1, .int l2, .int l3, .int l4, .int l5, .int l6, .int x6], [], h5)) r204_66 rfl rfl (go (w := (70, [.ref l0, .int l1, .int l2, .int l3, .int l4, .int l5, .int l6, .int x6], [.int l4], h5)) r204_68 rfl rfl (E_bip r204_70 (v := (-2)) (by decide) (E_i2_eq r204_72 rfl (rfl) (go (w := (77, [.ref l0, .int l1, .int l2, .int l3, .int l4, .int l5, .int l6, .int x6], [.int x6], h5)) r204_75 rfl rfl (go (w := (79, [.ref l0, .int l1, .int l2, .int l3, .int l4, .int l5, .int l6, .int x6], [.int l5, .int x6], h5)) r204_77 rfl rfl (E_i2_le r204_79 rfl (rfl) (rfl)))))))))))))))))))))))))
theorem b204_82 (d : Nat) (l0 : Nat) (l1 : Int32) (l2 : Int32) (l3 : Int32) (l4 : Int32) (l5 : Int32) (l6 : Int32) (l7 : Int32) (h : aH) (K : Option Value → aH → Prop) : E scr false d 204 82 [.ref l0, .int l1, .int l2, .int l3, .int l4, .int l5, .int l6, .int l7] [] h K = E scr false d 204 90 [.ref l0, .int l1, .int l2, .int l3, .int l6, .int l7, .int l6, .int l7] [] h K := go (w := (84, [.ref l0, .int l1, .int l2, .int l3, .int l4, .int l5, .int l6, .int l7], [.int l6], h)) r204_82 rfl rfl (go (w := (86, [.ref l0, .int l1, .int l2, .int l3, .int l6, .int l5, .int l6, .int l7], [], h)) r204_84 rfl rfl (go (w := (88, [.ref l0, .int l1, .int l2, .int l3, .int l6, .int l5, .int l6, .int l7], [.int l7], h)) r204_86 rfl rfl (go (w := (90, [.ref l0, .int l1, .int l2, .int l3, .int l6, .int l7, .int l6, .int l7], [], h)) r204_88 rfl rfl (rfl))))
theorem b204_90 (d : Nat) (l0 : Nat) (l1 : Int32) (l2 : Int32) (l3 : Int32) (l4 : Int32) (l5 : Int32) (l6 : Int32) (l7 : Value) (h : aH) (K : Option Value → aH → Prop) : E scr false d 204 90 [.ref l0, .int l1, .int l2, .int l3, .int l4, .int l5, .int l6, l7] [] h K = E scr false d 204 31 [.ref l0, .int l1, .int l2, .int l3, .int l4, .int l5, .int (l6 + 1), l7] [] h K := E_inc r204_90 (c := 1) rfl (by decide) (L' := [.ref l0, .int l1, .int l2, .int l3, .int l4, .int l5, .int (l6 + 1), l7]) rfl (E_gt r204_93 rfl (rfl))
theorem b204_107 (d : Nat) (l0 : Nat) (l1 : Int32) (l2 : Int32) (l3 : Int32) (l4 : Int32) (l5 : Int32) (l6 : Int32) (l7 : Value) (h : aH) (K : Option Value → aH → Prop) : E scr false d 204 107 [.ref l0, .int l1, .int l2, .int l3, .int l4, .int l5, .int l6, l7] [] h K = K (some (.int l4)) h := go (w := (109, [.ref l0, .int l1, .int l2, .int l3, .int l4, .int l5, .int l6, l7], [.int l4], h)) r204_107 rfl rfl (E_gt r204_109 rfl (E_ri r204_114 (mq204)))
-- 205 SecondNearestModel.outsIn(II)I
theorem mq205 : mRet 205 = (some .int) := by decide +kernel
theorem r205_0 : rowAt 205 0 = some (.aload_n 0, 1, 0, 0) := by decide +kernel
theorem r205_1 : rowAt 205 1 = some (.invokevirtual 429, 3, 193, 0) := by decide +kernel
theorem r205_4 : rowAt 205 4 = some (.aload_n 0, 1, 0, 0) := by decide +kernel
theorem r205_5 : rowAt 205 5 = some (.iload_n 1, 1, 0, 0) := by decide +kernel
theorem r205_6 : rowAt 205 6 = some (.iload_n 2, 1, 0, 0) := by decide +kernel
theorem r205_7 : rowAt 205 7 = some (.invokevirtual 415, 3, 181, 0) := by decide +kernel
theorem r205_10 : rowAt 205 10 = some (.aload_n 0, 1, 0, 0) := by decide +kernel
theorem r205_11 : rowAt 205 11 = some (.invokevirtual 432, 3, 182, 0) := by decide +kernel
theorem r205_14 : rowAt 205 14 = some (.istore_n 3, 1, 0, 0) := by decide +kernel
theorem r205_15 : rowAt 205 15 = some (.aload_n 0, 1, 0, 0) := by decide +kernel
theorem r205_16 : rowAt 205 16 = some (.invokevirtual 435, 3, 194, 0) := by decide +kernel
theorem r205_19 : rowAt 205 19 = some (.iload_n 3, 1, 0, 0) := by decide +kernel
theorem r205_20 : rowAt 205 20 = some (.ireturn, 1, 0, 0) := by decide +kernel
theorem en205 (a0 : Nat) (a1 : Int32) (a2 : Int32) : iniL 205 [.ref a0, .int a1, .int a2] = [.ref a0, .int a1, .int a2, .null] := ini_n mi205 rfl
theorem b205_0 (d : Nat) (l0 : Nat) (l1 : Int32) (l2 : Int32) (h : aH) (K : Option Value → aH → Prop) : E scr false (d + 1) 205 0 [.ref l0, .int l1, .int l2, .null] [] h K = vV scr d 193 [.ref l0] h (fun h1 : aH => vV scr d 181 [.ref l0, .int l1, .int l2] h1 (fun h3 : aH => vI scr d 182 [.ref l0] h3 (fun (x6 : Int32) (h5 : aH) => vV scr d 194 [.ref l0] h5 (fun h7 : aH => K (some (.int x6)) h7)))) := go (w := (1, [.ref l0, .int l1, .int l2, .null], [.ref l0], h)) r205_0 rfl rfl (E_vV r205_1 (As := [.ref l0]) (rest := []) (cut_n mi193.1 rfl rfl) (rm8_n mi193.2.1 (Nat.le_of_ble_eq_true rfl) (Nat.le_of_ble_eq_true rfl)) mi193.2.2 (fun h1 => go (w := (5, [.ref l0, .int l1, .int l2, .null], [.ref l0], h1)) r205_4 rfl rfl (go (w := (6, [.ref l0, .int l1, .int l2, .null], [.int l1, .ref l0], h1)) r205_5 rfl rfl (go (w := (7, [.ref l0, .int l1, .int l2, .null], [.int l2, .int l1, .ref l0], h1)) r205_6 rfl rfl (E_vV r205_7 (As := [.ref l0, .int l1, .int l2]) (rest := []) (cut_n mi181.1 rfl rfl) (rm8_n mi181.2.1 (Nat.le_of_ble_eq_true rfl) (Nat.le_of_ble_eq_true rfl)) mi181.2.2 (fun h3 => go (w := (11, [.ref l0, .int l1, .int l2, .null], [.ref l0], h3)) r205_10 rfl rfl (E_vI r205_11 (As := [.ref l0]) (rest := []) (cut_n mi182.1 rfl rfl) (rm8_n mi182.2.1 (Nat.le_of_ble_eq_true rfl) (Nat.le_of_ble_eq_true rfl)) mi182.2.2 (fun x6 h5 => go (w := (15, [.ref l0, .int l1, .int l2, .int x6], [], h5)) r205_14 rfl rfl (go (w := (16, [.ref l0, .int l1, .int l2, .int x6], [.ref l0], h5)) r205_15 rfl rfl (E_vV r205_16 (As := [.ref l0]) (rest := []) (cut_n mi194.1 rfl rfl) (rm8_n mi194.2.1 (Nat.le_of_ble_eq_true rfl) (Nat.le_of_ble_eq_true rfl)) mi194.2.2 (fun h7 => go (w := (20, [.ref l0, .int l1, .int l2, .int x6], [.int x6], h7)) r205_19 rfl rfl (E_ri r205_20 (mq205)))))))))))))
-- 206 SecondNearestModel.post(III)I
theorem mq206 : mRet 206 = (some .int) := by decide +kernel
theorem r206_0 : rowAt 206 0 = some (.aload_n 0, 1, 0, 0) := by decide +kernel
theorem r206_1 : rowAt 206 1 = some (.iload_n 1, 1, 0, 0) := by decide +kernel
theorem r206_2 : rowAt 206 2 = some (.iload_n 2, 1, 0, 0) := by decide +kernel
theorem r206_3 : rowAt 206 3 = some (.invokevirtual 426, 3, 195, 0) := by decide +kernel
theorem r206_6 : rowAt 206 6 = some (.ifCond .eq 27, 3, 0, 0) := by decide +kernel
theorem r206_9 : rowAt 206 9 = some (.iload_n 2, 1, 0, 0) := by decide +kernel
theorem r206_10 : rowAt 206 10 = some (.bipush 60, 2, 0, 0) := by decide +kernel
theorem r206_12 : rowAt 206 12 = some (.if_icmp .gt 21, 3, 0, 0) := by decide +kernel
theorem r206_15 : rowAt 206 15 = some (.aload_n 0, 1, 0, 0) := by decide +kernel
theorem r206_16 : rowAt 206 16 = some (.iconst 0, 1, 0, 0) := by decide +kernel
theorem r206_17 : rowAt 206 17 = some (.invokevirtual 418, 3, 185, 0) := by decide +kernel
theorem r206_20 : rowAt 206 20 = some (.ifCond .eq 13, 3, 0, 0) := by decide +kernel
theorem r206_23 : rowAt 206 23 = some (.iload_n 3, 1, 0, 0) := by decide +kernel
theorem r206_24 : rowAt 206 24 = some (.i2l, 1, 0, 0) := by decide +kernel
theorem r206_25 : rowAt 206 25 = some (.lconst 0, 1, 0, 0) := by decide +kernel
theorem r206_26 : rowAt 206 26 = some (.lconst 1, 1, 0, 0) := by decide +kernel
theorem r206_27 : rowAt 206 27 = some (.invokestatic 143, 3, 121, 1) := by decide +kernel
theorem r206_30 : rowAt 206 30 = some (.ifCond .ne 5, 3, 0, 0) := by decide +kernel
theorem r206_33 : rowAt 206 33 = some (.iconst (-1), 1, 0, 0) := by decide +kernel
theorem r206_34 : rowAt 206 34 = some (.ireturn, 1, 0, 0) := by decide +kernel
theorem r206_35 : rowAt 206 35 = some (.aload_n 0, 1, 0, 0) := by decide +kernel
theorem r206_36 : rowAt 206 36 = some (.getfield 37, 3, 9, 10) := by decide +kernel
theorem r206_39 : rowAt 206 39 = some (.bipush 12, 2, 0, 0) := by decide +kernel
theorem r206_41 : rowAt 206 41 = some (.iaload, 1, 0, 0) := by decide +kernel
theorem r206_42 : rowAt 206 42 = some (.istore 4, 2, 0, 0) := by decide +kernel
theorem r206_44 : rowAt 206 44 = some (.iconst (-1), 1, 0, 0) := by decide +kernel
theorem r206_45 : rowAt 206 45 = some (.istore 5, 2, 0, 0) := by decide +kernel
theorem r206_47 : rowAt 206 47 = some (.iconst 0, 1, 0, 0) := by decide +kernel
theorem r206_48 : rowAt 206 48 = some (.istore 6, 2, 0, 0) := by decide +kernel
theorem r206_50 : rowAt 206 50 = some (.iconst 0, 1, 0, 0) := by decide +kernel
theorem r206_51 : rowAt 206 51 = some (.istore 7, 2, 0, 0) := by decide +kernel
theorem r206_53 : rowAt 206 53 = some (.iload 7, 2, 0, 0) := by decide +kernel
theorem r206_55 : rowAt 206 55 = some (.sipush 144, 3, 0, 0) := by decide +kernel
theorem r206_58 : rowAt 206 58 = some (.if_icmp .ge 72, 3, 0, 0) := by decide +kernel
theorem r206_61 : rowAt 206 61 = some (.iload 7, 2, 0, 0) := by decide +kernel
theorem r206_63 : rowAt 206 63 = some (.iload 4, 2, 0, 0) := by decide +kernel
theorem r206_65 : rowAt 206 65 = some (.if_icmp .eq 12, 3, 0, 0) := by decide +kernel
theorem r206_68 : rowAt 206 68 = some (.aload_n 0, 1, 0, 0) := by decide +kernel
theorem r206_69 : rowAt 206 69 = some (.iload 7, 2, 0, 0) := by decide +kernel
theorem r206_71 : rowAt 206 71 = some (.invokevirtual 389, 3, 131, 0) := by decide +kernel
theorem r206_74 : rowAt 206 74 = some (.ifCond .eq 50, 3, 0, 0) := by decide +kernel
theorem r206_77 : rowAt 206 77 = some (.aload_n 0, 1, 0, 0) := by decide +kernel
theorem r206_78 : rowAt 206 78 = some (.getfield 37, 3, 9, 10) := by decide +kernel
theorem r206_81 : rowAt 206 81 = some (.bipush 12, 2, 0, 0) := by decide +kernel
theorem r206_83 : rowAt 206 83 = some (.iload 7, 2, 0, 0) := by decide +kernel
theorem r206_85 : rowAt 206 85 = some (.iastore, 1, 0, 0) := by decide +kernel
theorem r206_86 : rowAt 206 86 = some (.aload_n 0, 1, 0, 0) := by decide +kernel
theorem r206_87 : rowAt 206 87 = some (.iload_n 1, 1, 0, 0) := by decide +kernel
theorem r206_88 : rowAt 206 88 = some (.iload_n 2, 1, 0, 0) := by decide +kernel
theorem r206_89 : rowAt 206 89 = some (.invokevirtual 453, 3, 205, 0) := by decide +kernel
theorem r206_92 : rowAt 206 92 = some (.istore 8, 2, 0, 0) := by decide +kernel
theorem r206_94 : rowAt 206 94 = some (.aload_n 0, 1, 0, 0) := by decide +kernel
theorem r206_95 : rowAt 206 95 = some (.getfield 37, 3, 9, 10) := by decide +kernel
theorem r206_98 : rowAt 206 98 = some (.bipush 12, 2, 0, 0) := by decide +kernel
theorem r206_100 : rowAt 206 100 = some (.iload 4, 2, 0, 0) := by decide +kernel
theorem r206_102 : rowAt 206 102 = some (.iastore, 1, 0, 0) := by decide +kernel
theorem r206_103 : rowAt 206 103 = some (.iload 5, 2, 0, 0) := by decide +kernel
theorem r206_105 : rowAt 206 105 = some (.iconst (-1), 1, 0, 0) := by decide +kernel
theorem r206_106 : rowAt 206 106 = some (.if_icmp .eq 10, 3, 0, 0) := by decide +kernel
theorem r206_109 : rowAt 206 109 = some (.iload 8, 2, 0, 0) := by decide +kernel
theorem r206_111 : rowAt 206 111 = some (.iload 6, 2, 0, 0) := by decide +kernel
theorem r206_113 : rowAt 206 113 = some (.if_icmp .le 11, 3, 0, 0) := by decide +kernel
theorem r206_116 : rowAt 206 116 = some (.iload 7, 2, 0, 0) := by decide +kernel
theorem r206_118 : rowAt 206 118 = some (.istore 5, 2, 0, 0) := by decide +kernel
theorem r206_120 : rowAt 206 120 = some (.iload 8, 2, 0, 0) := by decide +kernel
theorem r206_122 : rowAt 206 122 = some (.istore 6, 2, 0, 0) := by decide +kernel
theorem r206_124 : rowAt 206 124 = some (.iinc 7 1, 3, 0, 0) := by decide +kernel
theorem r206_127 : rowAt 206 127 = some (.goto (-74), 3, 0, 0) := by decide +kernel
theorem r206_130 : rowAt 206 130 = some (.iload_n 3, 1, 0, 0) := by decide +kernel
theorem r206_131 : rowAt 206 131 = some (.ifCond .ne 8, 3, 0, 0) := by decide +kernel
theorem r206_134 : rowAt 206 134 = some (.iload 5, 2, 0, 0) := by decide +kernel
theorem r206_136 : rowAt 206 136 = some (.goto 5, 3, 0, 0) := by decide +kernel
theorem r206_139 : rowAt 206 139 = some (.iload 6, 2, 0, 0) := by decide +kernel
theorem r206_141 : rowAt 206 141 = some (.ireturn, 1, 0, 0) := by decide +kernel
theorem en206 (a0 : Nat) (a1 : Int32) (a2 : Int32) (a3 : Int32) : iniL 206 [.ref a0, .int a1, .int a2, .int a3] = [.ref a0, .int a1, .int a2, .int a3, .null, .null, .null, .null, .null] := ini_n mi206 rfl
theorem b206_0 (d : Nat) (l0 : Nat) (l1 : Int32) (l2 : Int32) (l3 : Int32) (h : aH) (K : Option Value → aH → Prop) : E scr false (d + 1) 206 0 [.ref l0, .int l1, .int l2, .int l3, .null, .null, .null, .null, .null] [] h K = vI scr d 195 [.ref l0, .int l1, .int l2] h (fun (x2 : Int32) (h1 : aH) => (if x2 = 0 then K (some (.int (-1))) h1 else (if 60 < l2 then K (some (.int (-1))) h1 else vI scr d 185 [.ref l0, .int 0] h1 (fun (x4 : Int32) (h3 : aH) => (if x4 = 0 then K (some (.int (-1))) h3 else sI scr d 121 [.long (Int32.toInt64 l3), .long 0, .long 1] h3 (fun (x6 : Int32) (h5 : aH) => (if x6 = 0 then K (some (.int (-1))) h5 else gR scr h5 l0 9 10 (fun x7 : Nat => aI scr h5 x7 12 (fun x8 : Int32 => E scr false (d + 1) 206 53 [.ref l0, .int l1, .int l2, .int l3, .int x8, .int (-1), .int 0, .int 0, .null] [] h5 K))))))))) := go (w := (1, [.ref l0, .int l1, .int l2, .int l3, .null, .null, .null, .null, .null], [.ref l0], h)) r206_0 rfl rfl (go (w := (2, [.ref l0, .int l1, .int l2, .int l3, .null, .null, .null, .null, .null], [.int l1, .ref l0], h)) r206_1 rfl rfl (go (w := (3, [.ref l0, .int l1, .int l2, .int l3, .null, .null, .null, .null, .null], [.int l2, .int l1, .ref l0], h)) r206_2 rfl rfl (E_vI r206_3 (As := [.ref l0, .int l1, .int l2]) (rest := []) (cut_n mi195.1 rfl rfl) (rm8_n mi195.2.1 (Nat.le_of_ble_eq_true rfl) (Nat.le_of_ble_eq_true rfl)) mi195.2.2 (fun x2 h1 => E_i1_eq r206_6 rfl (E_ic r206_33 (v := (-1)) (by decide) (E_ri r206_34 (mq206))) (go (w := (10, [.ref l0, .int l1, .int l2, .int l3, .null, .null, .null, .null, .null], [.int l2], h1)) r206_9 rfl rfl (E_bip r206_10 (v := 60) (by decide) (E_i2_gt r206_12 rfl (E_ic r206_33 (v := (-1)) (by decide) (E_ri r206_34 (mq206))) (go (w := (16, [.ref l0, .int l1, .int l2, .int l3, .null, .null, .null, .null, .null], [.ref l0], h1)) r206_15 rfl rfl (E_ic r206_16 (v := 0) (by decide) (E_vI r206_17 (As := [.ref l0, .int 0]) (rest := []) (cut_n mi185.1 rfl rfl) (rm8_n mi185.2.1 (Nat.le_of_ble_eq_true rfl) (Nat.le_of_ble_eq_true rfl)) mi185.2.2 (fun x4 h3 => E_i1_eq r206_20 rfl (E_ic r206_33 (v := (-1)) (by decide) (E_ri r206_34 (mq206))) (go (w := (24, [.ref l0, .int l1, .int l2, .int l3, .null, .null, .null, .null, .null], [.int l3], h3)) r206_23 rfl rfl (go (w := (25, [.ref l0, .int l1, .int l2, .int l3, .null, .null, .null, .null, .null], [.long (Int32.toInt64 l3)], h3)) r206_24 rfl rfl (E_lc r206_25 (v := 0) (by decide) (E_lc r206_26 (v := 1) (by decide) (E_sI r206_27 (As := [.long (Int32.toInt64 l3), .long 0, .long 1]) (rest := []) (cut_n mi121.1 rfl rfl) (rm8_n mi121.2.1 (Nat.le_of_ble_eq_true rfl) (Nat.le_of_ble_eq_true rfl)) mi121.2.2 (fun x6 h5 => E_i1_ne r206_30 rfl (go (w := (36, [.ref l0, .int l1, .int l2, .int l3, .null, .null, .null, .null, .null], [.ref l0], h5)) r206_35 rfl rfl (E_gR r206_36 rfl (fun x7 => E_bip r206_39 (v := 12) (by decide) (E_aI r206_41 (fun x8 => go (w := (44, [.ref l0, .int l1, .int l2, .int l3, .int x8, .null, .null, .null, .null], [], h5)) r206_42 rfl rfl (E_ic r206_44 (v := (-1)) (by decide) (go (w := (47, [.ref l0, .int l1, .int l2, .int l3, .int x8, .int (-1), .null, .null, .null], [], h5)) r206_45 rfl rfl (E_ic r206_47 (v := 0) (by decide) (go (w := (50, [.ref l0, .int l1, .int l2, .int l3, .int x8, .int (-1), .int 0, .null, .null], [], h5)) r206_48 rfl rfl (E_ic r206_50 (v := 0) (by decide) (go (w := (53, [.ref l0, .int l1, .int l2, .int l3, .int x8, .int (-1), .int 0, .int 0, .null], [], h5)) r206_51 rfl rfl (rfl)))))))))))) (E_ic r206_33 (v := (-1)) (by decide) (E_ri r206_34 (mq206))))))))))))))))))))
theorem b206_53 (d : Nat) (l0 : Nat) (l1 : Int32) (l2 : Int32) (l3 : Int32) (l4 : Int32) (l5 : Int32) (l6 : Int32) (l7 : Int32) (l8 : Value) (h : aH) (K : Option Value → aH → Prop) : E scr false (d + 1) 206 53 [.ref l0, .int l1, .int l2, .int l3, .int l4, .int l5, .int l6, .int l7, l8] [] h K = (if 144 ≤ l7 then (if l3 = 0 then K (some (.int l5)) h else K (some (.int l6)) h) else (if l7 = l4 then E scr false (d + 1) 206 77 [.ref l0, .int l1, .int l2, .int l3, .int l4, .int l5, .int l6, .int l7, l8] [] h K else vI scr d 131 [.ref l0, .int l7] h (fun (x2 : Int32) (h1 : aH) => (if x2 = 0 then E scr false (d + 1) 206 124 [.ref l0, .int l1, .int l2, .int l3, .int l4, .int l5, .int l6, .int l7, l8] [] h1 K else E scr false (d + 1) 206 77 [.ref l0, .int l1, .int l2, .int l3, .int l4, .int l5, .int l6, .int l7, l8] [] h1 K)))) := go (w := (55, [.ref l0, .int l1, .int l2, .int l3, .int l4, .int l5, .int l6, .int l7, l8], [.int l7], h)) r206_53 rfl rfl (E_sip r206_55 (v := 144) (by decide) (E_i2_ge r206_58 rfl (go (w := (131, [.ref l0, .int l1, .int l2, .int l3, .int l4, .int l5, .int l6, .int l7, l8], [.int l3], h)) r206_130 rfl rfl (E_i1_ne r206_131 rfl (go (w := (141, [.ref l0, .int l1, .int l2, .int l3, .int l4, .int l5, .int l6, .int l7, l8], [.int l6], h)) r206_139 rfl rfl (E_ri r206_141 (mq206))) (go (w := (136, [.ref l0, .int l1, .int l2, .int l3, .int l4, .int l5, .int l6, .int l7, l8], [.int l5], h)) r206_134 rfl rfl (E_gt r206_136 rfl (E_ri r206_141 (mq206)))))) (go (w := (63, [.ref l0, .int l1, .int l2, .int l3, .int l4, .int l5, .int l6, .int l7, l8], [.int l7], h)) r206_61 rfl rfl (go (w := (65, [.ref l0, .int l1, .int l2, .int l3, .int l4, .int l5, .int l6, .int l7, l8], [.int l4, .int l7], h)) r206_63 rfl rfl (E_i2_eq r206_65 rfl (rfl) (go (w := (69, [.ref l0, .int l1, .int l2, .int l3, .int l4, .int l5, .int l6, .int l7, l8], [.ref l0], h)) r206_68 rfl rfl (go (w := (71, [.ref l0, .int l1, .int l2, .int l3, .int l4, .int l5, .int l6, .int l7, l8], [.int l7, .ref l0], h)) r206_69 rfl rfl (E_vI r206_71 (As := [.ref l0, .int l7]) (rest := []) (cut_n mi131.1 rfl rfl) (rm8_n mi131.2.1 (Nat.le_of_ble_eq_true rfl) (Nat.le_of_ble_eq_true rfl)) mi131.2.2 (fun x2 h1 => E_i1_eq r206_74 rfl (rfl) (rfl))))))))))
theorem b206_77 (d : Nat) (l0 : Nat) (l1 : Int32) (l2 : Int32) (l3 : Int32) (l4 : Int32) (l5 : Int32) (l6 : Int32) (l7 : Int32) (l8 : Value) (h : aH) (K : Option Value → aH → Prop) : E scr false (d + 1) 206 77 [.ref l0, .int l1, .int l2, .int l3, .int l4, .int l5, .int l6, .int l7, l8] [] h K = gR scr h l0 9 10 (fun x1 : Nat => wI h x1 12 l7 (fun h2 : aH => vI scr d 205 [.ref l0, .int l1, .int l2] h2 (fun (x4 : Int32) (h3 : aH) => gR scr h3 l0 9 10 (fun x5 : Nat => wI h3 x5 12 l4 (fun h6 : aH => (if l5 = (-1) then E scr false (d + 1) 206 116 [.ref l0, .int l1, .int l2, .int l3, .int l4, .int l5, .int l6, .int l7, .int x4] [] h6 K else (if x4 ≤ l6 then E scr false (d + 1) 206 124 [.ref l0, .int l1, .int l2, .int l3, .int l4, .int l5, .int l6, .int l7, .int x4] [] h6 K else E scr false (d + 1) 206 116 [.ref l0, .int l1, .int l2, .int l3, .int l4, .int l5, .int l6, .int l7, .int x4] [] h6 K))))))) := go (w := (78, [.ref l0, .int l1, .int l2, .int l3, .int l4, .int l5, .int l6, .int l7, l8], [.ref l0], h)) r206_77 rfl rfl (E_gR r206_78 rfl (fun x1 => E_bip r206_81 (v := 12) (by decide) (go (w := (85, [.ref l0, .int l1, .int l2, .int l3, .int l4, .int l5, .int l6, .int l7, l8], [.int l7, .int 12, .ref x1], h)) r206_83 rfl rfl (E_wI r206_85 (fun h2 => go (w := (87, [.ref l0, .int l1, .int l2, .int l3, .int l4, .int l5, .int l6, .int l7, l8], [.ref l0], h2)) r206_86 rfl rfl (go (w := (88, [.ref l0, .int l1, .int l2, .int l3, .int l4, .int l5, .int l6, .int l7, l8], [.int l1, .ref l0], h2)) r206_87 rfl rfl (go (w := (89, [.ref l0, .int l1, .int l2, .int l3, .int l4, .int l5, .int l6, .int l7, l8], [.int l2, .int l1, .ref l0], h2)) r206_88 rfl rfl (E_vI r206_89 (As := [.ref l0, .int l1, .int l2]) (rest := []) (cut_n mi205.1 rfl rfl) (rm8_n mi205.2.1 (Nat.le_of_ble_eq_true rfl) (Nat.le_of_ble_eq_true rfl)) mi205.2.2 (fun x4 h3 => go (w := (94, [.ref l0, .int l1, .int l2, .int l3, .int l4, .int l5, .int l6, .int l7, .int x4], [], h3)) r206_92 rfl rfl (go (w := (95, [.ref l0, .int l1, .int l2, .int l3, .int l4, .int l5, .int l6, .int l7, .int x4], [.ref l0], h3)) r206_94 rfl rfl (E_gR r206_95 rfl (fun x5 => E_bip r206_98 (v := 12) (by decide) (go (w := (102, [.ref l0, .int l1, .int l2, .int l3, .int l4, .int l5, .int l6, .int l7, .int x4], [.int l4, .int 12, .ref x5], h3)) r206_100 rfl rfl (E_wI r206_102 (fun h6 => go (w := (105, [.ref l0, .int l1, .int l2, .int l3, .int l4, .int l5, .int l6, .int l7, .int x4], [.int l5], h6)) r206_103 rfl rfl (E_ic r206_105 (v := (-1)) (by decide) (E_i2_eq r206_106 rfl (rfl) (go (w := (111, [.ref l0, .int l1, .int l2, .int l3, .int l4, .int l5, .int l6, .int l7, .int x4], [.int x4], h6)) r206_109 rfl rfl (go (w := (113, [.ref l0, .int l1, .int l2, .int l3, .int l4, .int l5, .int l6, .int l7, .int x4], [.int l6, .int x4], h6)) r206_111 rfl rfl (E_i2_le r206_113 rfl (rfl) (rfl)))))))))))))))))))))
theorem b206_116 (d : Nat) (l0 : Nat) (l1 : Int32) (l2 : Int32) (l3 : Int32) (l4 : Int32) (l5 : Int32) (l6 : Int32) (l7 : Int32) (l8 : Int32) (h : aH) (K : Option Value → aH → Prop) : E scr false d 206 116 [.ref l0, .int l1, .int l2, .int l3, .int l4, .int l5, .int l6, .int l7, .int l8] [] h K = E scr false d 206 124 [.ref l0, .int l1, .int l2, .int l3, .int l4, .int l7, .int l8, .int l7, .int l8] [] h K := go (w := (118, [.ref l0, .int l1, .int l2, .int l3, .int l4, .int l5, .int l6, .int l7, .int l8], [.int l7], h)) r206_116 rfl rfl (go (w := (120, [.ref l0, .int l1, .int l2, .int l3, .int l4, .int l7, .int l6, .int l7, .int l8], [], h)) r206_118 rfl rfl (go (w := (122, [.ref l0, .int l1, .int l2, .int l3, .int l4, .int l7, .int l6, .int l7, .int l8], [.int l8], h)) r206_120 rfl rfl (go (w := (124, [.ref l0, .int l1, .int l2, .int l3, .int l4, .int l7, .int l8, .int l7, .int l8], [], h)) r206_122 rfl rfl (rfl))))
theorem b206_124 (d : Nat) (l0 : Nat) (l1 : Int32) (l2 : Int32) (l3 : Int32) (l4 : Int32) (l5 : Int32) (l6 : Int32) (l7 : Int32) (l8 : Value) (h : aH) (K : Option Value → aH → Prop) : E scr false d 206 124 [.ref l0, .int l1, .int l2, .int l3, .int l4, .int l5, .int l6, .int l7, l8] [] h K = E scr false d 206 53 [.ref l0, .int l1, .int l2, .int l3, .int l4, .int l5, .int l6, .int (l7 + 1), l8] [] h K := E_inc r206_124 (c := 1) rfl (by decide) (L' := [.ref l0, .int l1, .int l2, .int l3, .int l4, .int l5, .int l6, .int (l7 + 1), l8]) rfl (E_gt r206_127 rfl (rfl))
-- 207 SecondNearestModel.choice(III)I
theorem mq207 : mRet 207 = (some .int) := by decide +kernel
theorem r207_0 : rowAt 207 0 = some (.iload_n 0, 1, 0, 0) := by decide +kernel
theorem r207_1 : rowAt 207 1 = some (.istore_n 3, 1, 0, 0) := by decide +kernel
theorem r207_2 : rowAt 207 2 = some (.iload_n 1, 1, 0, 0) := by decide +kernel
theorem r207_3 : rowAt 207 3 = some (.iconst 1, 1, 0, 0) := by decide +kernel
theorem r207_4 : rowAt 207 4 = some (.isub, 1, 0, 0) := by decide +kernel
theorem r207_5 : rowAt 207 5 = some (.istore 4, 2, 0, 0) := by decide +kernel
theorem r207_7 : rowAt 207 7 = some (.iload 4, 2, 0, 0) := by decide +kernel
theorem r207_9 : rowAt 207 9 = some (.iload_n 2, 1, 0, 0) := by decide +kernel
theorem r207_10 : rowAt 207 10 = some (.if_icmp .le 14, 3, 0, 0) := by decide +kernel
theorem r207_13 : rowAt 207 13 = some (.iload_n 3, 1, 0, 0) := by decide +kernel
theorem r207_14 : rowAt 207 14 = some (.bipush 9, 2, 0, 0) := by decide +kernel
theorem r207_16 : rowAt 207 16 = some (.idiv, 1, 0, 0) := by decide +kernel
theorem r207_17 : rowAt 207 17 = some (.istore_n 3, 1, 0, 0) := by decide +kernel
theorem r207_18 : rowAt 207 18 = some (.iinc 4 (-1), 3, 0, 0) := by decide +kernel
theorem r207_21 : rowAt 207 21 = some (.goto (-14), 3, 0, 0) := by decide +kernel
theorem r207_24 : rowAt 207 24 = some (.iload_n 3, 1, 0, 0) := by decide +kernel
theorem r207_25 : rowAt 207 25 = some (.bipush 9, 2, 0, 0) := by decide +kernel
theorem r207_27 : rowAt 207 27 = some (.irem, 1, 0, 0) := by decide +kernel
theorem r207_28 : rowAt 207 28 = some (.ireturn, 1, 0, 0) := by decide +kernel
theorem en207 (a0 : Int32) (a1 : Int32) (a2 : Int32) : iniL 207 [.int a0, .int a1, .int a2] = [.int a0, .int a1, .int a2, .null, .null] := ini_n mi207 rfl
theorem b207_0 (d : Nat) (l0 : Int32) (l1 : Int32) (l2 : Int32) (h : aH) (K : Option Value → aH → Prop) : E scr false d 207 0 [.int l0, .int l1, .int l2, .null, .null] [] h K = E scr false d 207 7 [.int l0, .int l1, .int l2, .int l0, .int (l1 - 1)] [] h K := go (w := (1, [.int l0, .int l1, .int l2, .null, .null], [.int l0], h)) r207_0 rfl rfl (go (w := (2, [.int l0, .int l1, .int l2, .int l0, .null], [], h)) r207_1 rfl rfl (go (w := (3, [.int l0, .int l1, .int l2, .int l0, .null], [.int l1], h)) r207_2 rfl rfl (E_ic r207_3 (v := 1) (by decide) (go (w := (5, [.int l0, .int l1, .int l2, .int l0, .null], [.int (l1 - 1)], h)) r207_4 rfl rfl (go (w := (7, [.int l0, .int l1, .int l2, .int l0, .int (l1 - 1)], [], h)) r207_5 rfl rfl (rfl))))))
theorem b207_7 (d : Nat) (l0 : Int32) (l1 : Int32) (l2 : Int32) (l3 : Int32) (l4 : Int32) (h : aH) (K : Option Value → aH → Prop) : E scr false d 207 7 [.int l0, .int l1, .int l2, .int l3, .int l4] [] h K = (if l4 ≤ l2 then K (some (.int (irm l3 9))) h else E scr false d 207 7 [.int l0, .int l1, .int l2, .int (l3 / 9), .int (l4 + (-1))] [] h K) := go (w := (9, [.int l0, .int l1, .int l2, .int l3, .int l4], [.int l4], h)) r207_7 rfl rfl (go (w := (10, [.int l0, .int l1, .int l2, .int l3, .int l4], [.int l2, .int l4], h)) r207_9 rfl rfl (E_i2_le r207_10 rfl (go (w := (25, [.int l0, .int l1, .int l2, .int l3, .int l4], [.int l3], h)) r207_24 rfl rfl (E_bip r207_25 (v := 9) (by decide) (E_remc r207_27 (by decide) (E_ri r207_28 (mq207))))) (go (w := (14, [.int l0, .int l1, .int l2, .int l3, .int l4], [.int l3], h)) r207_13 rfl rfl (E_bip r207_14 (v := 9) (by decide) (E_divc r207_16 (by decide) (go (w := (18, [.int l0, .int l1, .int l2, .int (l3 / 9), .int l4], [], h)) r207_17 rfl rfl (E_inc r207_18 (c := (-1)) rfl (by decide) (L' := [.int l0, .int l1, .int l2, .int (l3 / 9), .int (l4 + (-1))]) rfl (E_gt r207_21 rfl (rfl)))))))))
-- 208 SecondNearestModel.outsBy(IIII)I
theorem mq208 : mRet 208 = (some .int) := by decide +kernel
theorem r208_0 : rowAt 208 0 = some (.aload_n 0, 1, 0, 0) := by decide +kernel
theorem r208_1 : rowAt 208 1 = some (.getfield 7, 3, 9, 1) := by decide +kernel
theorem r208_4 : rowAt 208 4 = some (.aload_n 0, 1, 0, 0) := by decide +kernel
theorem r208_5 : rowAt 208 5 = some (.getfield 118, 3, 9, 47) := by decide +kernel
theorem r208_8 : rowAt 208 8 = some (.invokestatic 346, 3, 166, 1) := by decide +kernel
theorem r208_11 : rowAt 208 11 = some (.aload_n 0, 1, 0, 0) := by decide +kernel
theorem r208_12 : rowAt 208 12 = some (.getfield 37, 3, 9, 10) := by decide +kernel
theorem r208_15 : rowAt 208 15 = some (.aload_n 0, 1, 0, 0) := by decide +kernel
theorem r208_16 : rowAt 208 16 = some (.getfield 121, 3, 9, 48) := by decide +kernel
theorem r208_19 : rowAt 208 19 = some (.invokestatic 346, 3, 166, 1) := by decide +kernel
theorem r208_22 : rowAt 208 22 = some (.aload_n 0, 1, 0, 0) := by decide +kernel
theorem r208_23 : rowAt 208 23 = some (.getfield 40, 3, 9, 11) := by decide +kernel
theorem r208_26 : rowAt 208 26 = some (.aload_n 0, 1, 0, 0) := by decide +kernel
theorem r208_27 : rowAt 208 27 = some (.getfield 124, 3, 9, 49) := by decide +kernel
theorem r208_30 : rowAt 208 30 = some (.invokestatic 346, 3, 166, 1) := by decide +kernel
theorem r208_33 : rowAt 208 33 = some (.iconst 1, 1, 0, 0) := by decide +kernel
theorem r208_34 : rowAt 208 34 = some (.istore 5, 2, 0, 0) := by decide +kernel
theorem r208_36 : rowAt 208 36 = some (.iconst 0, 1, 0, 0) := by decide +kernel
theorem r208_37 : rowAt 208 37 = some (.istore 6, 2, 0, 0) := by decide +kernel
theorem r208_39 : rowAt 208 39 = some (.iload 6, 2, 0, 0) := by decide +kernel
theorem r208_41 : rowAt 208 41 = some (.iload_n 3, 1, 0, 0) := by decide +kernel
theorem r208_42 : rowAt 208 42 = some (.if_icmp .ge 57, 3, 0, 0) := by decide +kernel
theorem r208_45 : rowAt 208 45 = some (.iload 5, 2, 0, 0) := by decide +kernel
theorem r208_47 : rowAt 208 47 = some (.ifCond .eq 52, 3, 0, 0) := by decide +kernel
theorem r208_50 : rowAt 208 50 = some (.iload_n 2, 1, 0, 0) := by decide +kernel
theorem r208_51 : rowAt 208 51 = some (.iload_n 3, 1, 0, 0) := by decide +kernel
theorem r208_52 : rowAt 208 52 = some (.iload 6, 2, 0, 0) := by decide +kernel
theorem r208_54 : rowAt 208 54 = some (.invokestatic 456, 3, 207, 1) := by decide +kernel
theorem r208_57 : rowAt 208 57 = some (.istore 7, 2, 0, 0) := by decide +kernel
theorem r208_59 : rowAt 208 59 = some (.iload 7, 2, 0, 0) := by decide +kernel
theorem r208_61 : rowAt 208 61 = some (.bipush 8, 2, 0, 0) := by decide +kernel
theorem r208_63 : rowAt 208 63 = some (.if_icmp .eq 13, 3, 0, 0) := by decide +kernel
theorem r208_66 : rowAt 208 66 = some (.aload_n 0, 1, 0, 0) := by decide +kernel
theorem r208_67 : rowAt 208 67 = some (.iconst 0, 1, 0, 0) := by decide +kernel
theorem r208_68 : rowAt 208 68 = some (.iload 7, 2, 0, 0) := by decide +kernel
theorem r208_70 : rowAt 208 70 = some (.invokevirtual 423, 3, 190, 0) := by decide +kernel
theorem r208_73 : rowAt 208 73 = some (.ifCond .eq 7, 3, 0, 0) := by decide +kernel
theorem r208_76 : rowAt 208 76 = some (.iconst 1, 1, 0, 0) := by decide +kernel
theorem r208_77 : rowAt 208 77 = some (.goto 4, 3, 0, 0) := by decide +kernel
theorem r208_80 : rowAt 208 80 = some (.iconst 0, 1, 0, 0) := by decide +kernel
theorem r208_81 : rowAt 208 81 = some (.istore 5, 2, 0, 0) := by decide +kernel
theorem r208_83 : rowAt 208 83 = some (.iload 5, 2, 0, 0) := by decide +kernel
theorem r208_85 : rowAt 208 85 = some (.ifCond .eq 8, 3, 0, 0) := by decide +kernel
theorem r208_88 : rowAt 208 88 = some (.aload_n 0, 1, 0, 0) := by decide +kernel
theorem r208_89 : rowAt 208 89 = some (.iload_n 1, 1, 0, 0) := by decide +kernel
theorem r208_90 : rowAt 208 90 = some (.invokevirtual 404, 3, 180, 0) := by decide +kernel
theorem r208_93 : rowAt 208 93 = some (.iinc 6 1, 3, 0, 0) := by decide +kernel
theorem r208_96 : rowAt 208 96 = some (.goto (-57), 3, 0, 0) := by decide +kernel
theorem r208_99 : rowAt 208 99 = some (.iload 5, 2, 0, 0) := by decide +kernel
theorem r208_101 : rowAt 208 101 = some (.ifCond .eq 10, 3, 0, 0) := by decide +kernel
theorem r208_104 : rowAt 208 104 = some (.aload_n 0, 1, 0, 0) := by decide +kernel
theorem r208_105 : rowAt 208 105 = some (.iload_n 1, 1, 0, 0) := by decide +kernel
theorem r208_106 : rowAt 208 106 = some (.iload 4, 2, 0, 0) := by decide +kernel
theorem r208_108 : rowAt 208 108 = some (.invokevirtual 415, 3, 181, 0) := by decide +kernel
theorem r208_111 : rowAt 208 111 = some (.iload 5, 2, 0, 0) := by decide +kernel
theorem r208_113 : rowAt 208 113 = some (.ifCond .eq 10, 3, 0, 0) := by decide +kernel
theorem r208_116 : rowAt 208 116 = some (.aload_n 0, 1, 0, 0) := by decide +kernel
theorem r208_117 : rowAt 208 117 = some (.invokevirtual 432, 3, 182, 0) := by decide +kernel
theorem r208_120 : rowAt 208 120 = some (.goto 4, 3, 0, 0) := by decide +kernel
theorem r208_123 : rowAt 208 123 = some (.iconst (-1), 1, 0, 0) := by decide +kernel
theorem r208_124 : rowAt 208 124 = some (.istore 6, 2, 0, 0) := by decide +kernel
theorem r208_126 : rowAt 208 126 = some (.aload_n 0, 1, 0, 0) := by decide +kernel
theorem r208_127 : rowAt 208 127 = some (.getfield 118, 3, 9, 47) := by decide +kernel
theorem r208_130 : rowAt 208 130 = some (.aload_n 0, 1, 0, 0) := by decide +kernel
theorem r208_131 : rowAt 208 131 = some (.getfield 7, 3, 9, 1) := by decide +kernel
theorem r208_134 : rowAt 208 134 = some (.invokestatic 346, 3, 166, 1) := by decide +kernel
theorem r208_137 : rowAt 208 137 = some (.aload_n 0, 1, 0, 0) := by decide +kernel
theorem r208_138 : rowAt 208 138 = some (.getfield 121, 3, 9, 48) := by decide +kernel
theorem r208_141 : rowAt 208 141 = some (.aload_n 0, 1, 0, 0) := by decide +kernel
theorem r208_142 : rowAt 208 142 = some (.getfield 37, 3, 9, 10) := by decide +kernel
theorem r208_145 : rowAt 208 145 = some (.invokestatic 346, 3, 166, 1) := by decide +kernel
theorem r208_148 : rowAt 208 148 = some (.aload_n 0, 1, 0, 0) := by decide +kernel
theorem r208_149 : rowAt 208 149 = some (.getfield 124, 3, 9, 49) := by decide +kernel
theorem r208_152 : rowAt 208 152 = some (.aload_n 0, 1, 0, 0) := by decide +kernel
theorem r208_153 : rowAt 208 153 = some (.getfield 40, 3, 9, 11) := by decide +kernel
theorem r208_156 : rowAt 208 156 = some (.invokestatic 346, 3, 166, 1) := by decide +kernel
theorem r208_159 : rowAt 208 159 = some (.iload 6, 2, 0, 0) := by decide +kernel
theorem r208_161 : rowAt 208 161 = some (.ireturn, 1, 0, 0) := by decide +kernel
theorem en208 (a0 : Nat) (a1 : Int32) (a2 : Int32) (a3 : Int32) (a4 : Int32) : iniL 208 [.ref a0, .int a1, .int a2, .int a3, .int a4] = [.ref a0, .int a1, .int a2, .int a3, .int a4, .null, .null, .null] := ini_n mi208 rfl
theorem b208_0 (d : Nat) (l0 : Nat) (l1 : Int32) (l2 : Int32) (l3 : Int32) (l4 : Int32) (h : aH) (K : Option Value → aH → Prop) : E scr false (d + 1) 208 0 [.ref l0, .int l1, .int l2, .int l3, .int l4, .null, .null, .null] [] h K = gR scr h l0 9 1 (fun x1 : Nat => gR scr h l0 9 47 (fun x2 : Nat => sV scr d 166 [.ref x1, .ref x2] h (fun h3 : aH => gR scr h3 l0 9 10 (fun x5 : Nat => gR scr h3 l0 9 48 (fun x6 : Nat => sV scr d 166 [.ref x5, .ref x6] h3 (fun h7 : aH => gR scr h7 l0 9 11 (fun x9 : Nat => gR scr h7 l0 9 49 (fun x10 : Nat => sV scr d 166 [.ref x9, .ref x10] h7 (fun h11 : aH => E scr false (d + 1) 208 39 [.ref l0, .int l1, .int l2, .int l3, .int l4, .int 1, .int 0, .null] [] h11 K))))))))) := go (w := (1, [.ref l0, .int l1, .int l2, .int l3, .int l4, .null, .null, .null], [.ref l0], h)) r208_0 rfl rfl (E_gR r208_1 rfl (fun x1 => go (w := (5, [.ref l0, .int l1, .int l2, .int l3, .int l4, .null, .null, .null], [.ref l0, .ref x1], h)) r208_4 rfl rfl (E_gR r208_5 rfl (fun x2 => E_sV r208_8 (As := [.ref x1, .ref x2]) (rest := []) (cut_n mi166.1 rfl rfl) (rm8_n mi166.2.1 (Nat.le_of_ble_eq_true rfl) (Nat.le_of_ble_eq_true rfl)) mi166.2.2 (fun h3 => go (w := (12, [.ref l0, .int l1, .int l2, .int l3, .int l4, .null, .null, .null], [.ref l0], h3)) r208_11 rfl rfl (E_gR r208_12 rfl (fun x5 => go (w := (16, [.ref l0, .int l1, .int l2, .int l3, .int l4, .null, .null, .null], [.ref l0, .ref x5], h3)) r208_15 rfl rfl (E_gR r208_16 rfl (fun x6 => E_sV r208_19 (As := [.ref x5, .ref x6]) (rest := []) (cut_n mi166.1 rfl rfl) (rm8_n mi166.2.1 (Nat.le_of_ble_eq_true rfl) (Nat.le_of_ble_eq_true rfl)) mi166.2.2 (fun h7 => go (w := (23, [.ref l0, .int l1, .int l2, .int l3, .int l4, .null, .null, .null], [.ref l0], h7)) r208_22 rfl rfl (E_gR r208_23 rfl (fun x9 => go (w := (27, [.ref l0, .int l1, .int l2, .int l3, .int l4, .null, .null, .null], [.ref l0, .ref x9], h7)) r208_26 rfl rfl (E_gR r208_27 rfl (fun x10 => E_sV r208_30 (As := [.ref x9, .ref x10]) (rest := []) (cut_n mi166.1 rfl rfl) (rm8_n mi166.2.1 (Nat.le_of_ble_eq_true rfl) (Nat.le_of_ble_eq_true rfl)) mi166.2.2 (fun h11 => E_ic r208_33 (v := 1) (by decide) (go (w := (36, [.ref l0, .int l1, .int l2, .int l3, .int l4, .int 1, .null, .null], [], h11)) r208_34 rfl rfl (E_ic r208_36 (v := 0) (by decide) (go (w := (39, [.ref l0, .int l1, .int l2, .int l3, .int l4, .int 1, .int 0, .null], [], h11)) r208_37 rfl rfl (rfl)))))))))))))))))))
theorem b208_39 (d : Nat) (l0 : Nat) (l1 : Int32) (l2 : Int32) (l3 : Int32) (l4 : Int32) (l5 : Int32) (l6 : Int32) (l7 : Value) (h : aH) (K : Option Value → aH → Prop) : E scr false (d + 1) 208 39 [.ref l0, .int l1, .int l2, .int l3, .int l4, .int l5, .int l6, l7] [] h K = (if l3 ≤ l6 then E scr false (d + 1) 208 99 [.ref l0, .int l1, .int l2, .int l3, .int l4, .int l5, .int l6, l7] [] h K else (if l5 = 0 then E scr false (d + 1) 208 99 [.ref l0, .int l1, .int l2, .int l3, .int l4, .int l5, .int l6, l7] [] h K else sI scr d 207 [.int l2, .int l3, .int l6] h (fun (x2 : Int32) (h1 : aH) => (if x2 = 8 then E scr false (d + 1) 208 76 [.ref l0, .int l1, .int l2, .int l3, .int l4, .int l5, .int l6, .int x2] [] h1 K else vI scr d 190 [.ref l0, .int 0, .int x2] h1 (fun (x4 : Int32) (h3 : aH) => (if x4 = 0 then E scr false (d + 1) 208 81 [.ref l0, .int l1, .int l2, .int l3, .int l4, .int l5, .int l6, .int x2] [.int 0] h3 K else E scr false (d + 1) 208 76 [.ref l0, .int l1, .int l2, .int l3, .int l4, .int l5, .int l6, .int x2] [] h3 K)))))) := go (w := (41, [.ref l0, .int l1, .int l2, .int l3, .int l4, .int l5, .int l6, l7], [.int l6], h)) r208_39 rfl rfl (go (w := (42, [.ref l0, .int l1, .int l2, .int l3, .int l4, .int l5, .int l6, l7], [.int l3, .int l6], h)) r208_41 rfl rfl (E_i2_ge r208_42 rfl (rfl) (go (w := (47, [.ref l0, .int l1, .int l2, .int l3, .int l4, .int l5, .int l6, l7], [.int l5], h)) r208_45 rfl rfl (E_i1_eq r208_47 rfl (rfl) (go (w := (51, [.ref l0, .int l1, .int l2, .int l3, .int l4, .int l5, .int l6, l7], [.int l2], h)) r208_50 rfl rfl (go (w := (52, [.ref l0, .int l1, .int l2, .int l3, .int l4, .int l5, .int l6, l7], [.int l3, .int l2], h)) r208_51 rfl rfl (go (w := (54, [.ref l0, .int l1, .int l2, .int l3, .int l4, .int l5, .int l6, l7], [.int l6, .int l3, .int l2], h)) r208_52 rfl rfl (E_sI r208_54 (As := [.int l2, .int l3, .int l6]) (rest := []) (cut_n mi207.1 rfl rfl) (rm8_n mi207.2.1 (Nat.le_of_ble_eq_true rfl) (Nat.le_of_ble_eq_true rfl)) mi207.2.2 (fun x2 h1 => go (w := (59, [.ref l0, .int l1, .int l2, .int l3, .int l4, .int l5, .int l6, .int x2], [], h1)) r208_57 rfl rfl (go (w := (61, [.ref l0, .int l1, .int l2, .int l3, .int l4, .int l5, .int l6, .int x2], [.int x2], h1)) r208_59 rfl rfl (E_bip r208_61 (v := 8) (by decide) (E_i2_eq r208_63 rfl (rfl) (go (w := (67, [.ref l0, .int l1, .int l2, .int l3, .int l4, .int l5, .int l6, .int x2], [.ref l0], h1)) r208_66 rfl rfl (E_ic r208_67 (v := 0) (by decide) (go (w := (70, [.ref l0, .int l1, .int l2, .int l3, .int l4, .int l5, .int l6, .int x2], [.int x2, .int 0, .ref l0], h1)) r208_68 rfl rfl (E_vI r208_70 (As := [.ref l0, .int 0, .int x2]) (rest := []) (cut_n mi190.1 rfl rfl) (rm8_n mi190.2.1 (Nat.le_of_ble_eq_true rfl) (Nat.le_of_ble_eq_true rfl)) mi190.2.2 (fun x4 h3 => E_i1_eq r208_73 rfl (E_ic r208_80 (v := 0) (by decide) (rfl)) (rfl))))))))))))))))))
theorem b208_76 (d : Nat) (l0 : Nat) (l1 : Int32) (l2 : Int32) (l3 : Int32) (l4 : Int32) (l5 : Int32) (l6 : Int32) (l7 : Int32) (h : aH) (K : Option Value → aH → Prop) : E scr false d 208 76 [.ref l0, .int l1, .int l2, .int l3, .int l4, .int l5, .int l6, .int l7] [] h K = E scr false d 208 81 [.ref l0, .int l1, .int l2, .int l3, .int l4, .int l5, .int l6, .int l7] [.int 1] h K := E_ic r208_76 (v := 1) (by decide) (E_gt r208_77 rfl (rfl))
theorem b208_81 (d : Nat) (l0 : Nat) (l1 : Int32) (l2 : Int32) (l3 : Int32) (l4 : Int32) (l5 : Int32) (l6 : Int32) (l7 : Int32) (s0 : Int32) (h : aH) (K : Option Value → aH → Prop) : E scr false (d + 1) 208 81 [.ref l0, .int l1, .int l2, .int l3, .int l4, .int l5, .int l6, .int l7] [.int s0] h K = (if s0 = 0 then E scr false (d + 1) 208 93 [.ref l0, .int l1, .int l2, .int l3, .int l4, .int s0, .int l6, .int l7] [] h K else vV scr d 180 [.ref l0, .int l1] h (fun h1 : aH => E scr false (d + 1) 208 93 [.ref l0, .int l1, .int l2, .int l3, .int l4, .int s0, .int l6, .int l7] [] h1 K)) := go (w := (83, [.ref l0, .int l1, .int l2, .int l3, .int l4, .int s0, .int l6, .int l7], [], h)) r208_81 rfl rfl (go (w := (85, [.ref l0, .int l1, .int l2, .int l3, .int l4, .int s0, .int l6, .int l7], [.int s0], h)) r208_83 rfl rfl (E_i1_eq r208_85 rfl (rfl) (go (w := (89, [.ref l0, .int l1, .int l2, .int l3, .int l4, .int s0, .int l6, .int l7], [.ref l0], h)) r208_88 rfl rfl (go (w := (90, [.ref l0, .int l1, .int l2, .int l3, .int l4, .int s0, .int l6, .int l7], [.int l1, .ref l0], h)) r208_89 rfl rfl (E_vV r208_90 (As := [.ref l0, .int l1]) (rest := []) (cut_n mi180.1 rfl rfl) (rm8_n mi180.2.1 (Nat.le_of_ble_eq_true rfl) (Nat.le_of_ble_eq_true rfl)) mi180.2.2 (fun h1 => rfl))))))
theorem b208_93 (d : Nat) (l0 : Nat) (l1 : Int32) (l2 : Int32) (l3 : Int32) (l4 : Int32) (l5 : Int32) (l6 : Int32) (l7 : Int32) (h : aH) (K : Option Value → aH → Prop) : E scr false d 208 93 [.ref l0, .int l1, .int l2, .int l3, .int l4, .int l5, .int l6, .int l7] [] h K = E scr false d 208 39 [.ref l0, .int l1, .int l2, .int l3, .int l4, .int l5, .int (l6 + 1), .int l7] [] h K := E_inc r208_93 (c := 1) rfl (by decide) (L' := [.ref l0, .int l1, .int l2, .int l3, .int l4, .int l5, .int (l6 + 1), .int l7]) rfl (E_gt r208_96 rfl (rfl))
theorem b208_99 (d : Nat) (l0 : Nat) (l1 : Int32) (l2 : Int32) (l3 : Int32) (l4 : Int32) (l5 : Int32) (l6 : Int32) (l7 : Value) (h : aH) (K : Option Value → aH → Prop) : E scr false (d + 1) 208 99 [.ref l0, .int l1, .int l2, .int l3, .int l4, .int l5, .int l6, l7] [] h K = (if l5 = 0 then E scr false (d + 1) 208 111 [.ref l0, .int l1, .int l2, .int l3, .int l4, .int l5, .int l6, l7] [] h K else vV scr d 181 [.ref l0, .int l1, .int l4] h (fun h1 : aH => E scr false (d + 1) 208 111 [.ref l0, .int l1, .int l2, .int l3, .int l4, .int l5, .int l6, l7] [] h1 K)) := go (w := (101, [.ref l0, .int l1, .int l2, .int l3, .int l4, .int l5, .int l6, l7], [.int l5], h)) r208_99 rfl rfl (E_i1_eq r208_101 rfl (rfl) (go (w := (105, [.ref l0, .int l1, .int l2, .int l3, .int l4, .int l5, .int l6, l7], [.ref l0], h)) r208_104 rfl rfl (go (w := (106, [.ref l0, .int l1, .int l2, .int l3, .int l4, .int l5, .int l6, l7], [.int l1, .ref l0], h)) r208_105 rfl rfl (go (w := (108, [.ref l0, .int l1, .int l2, .int l3, .int l4, .int l5, .int l6, l7], [.int l4, .int l1, .ref l0], h)) r208_106 rfl rfl (E_vV r208_108 (As := [.ref l0, .int l1, .int l4]) (rest := []) (cut_n mi181.1 rfl rfl) (rm8_n mi181.2.1 (Nat.le_of_ble_eq_true rfl) (Nat.le_of_ble_eq_true rfl)) mi181.2.2 (fun h1 => rfl))))))
theorem b208_111 (d : Nat) (l0 : Nat) (l1 : Int32) (l2 : Int32) (l3 : Int32) (l4 : Int32) (l5 : Int32) (l6 : Int32) (l7 : Value) (h : aH) (K : Option Value → aH → Prop) : E scr false (d + 1) 208 111 [.ref l0, .int l1, .int l2, .int l3, .int l4, .int l5, .int l6, l7] [] h K = (if l5 = 0 then E scr false (d + 1) 208 124 [.ref l0, .int l1, .int l2, .int l3, .int l4, .int l5, .int l6, l7] [.int (-1)] h K else vI scr d 182 [.ref l0] h (fun (x2 : Int32) (h1 : aH) => E scr false (d + 1) 208 124 [.ref l0, .int l1, .int l2, .int l3, .int l4, .int l5, .int l6, l7] [.int x2] h1 K)) := go (w := (113, [.ref l0, .int l1, .int l2, .int l3, .int l4, .int l5, .int l6, l7], [.int l5], h)) r208_111 rfl rfl (E_i1_eq r208_113 rfl (E_ic r208_123 (v := (-1)) (by decide) (rfl)) (go (w := (117, [.ref l0, .int l1, .int l2, .int l3, .int l4, .int l5, .int l6, l7], [.ref l0], h)) r208_116 rfl rfl (E_vI r208_117 (As := [.ref l0]) (rest := []) (cut_n mi182.1 rfl rfl) (rm8_n mi182.2.1 (Nat.le_of_ble_eq_true rfl) (Nat.le_of_ble_eq_true rfl)) mi182.2.2 (fun x2 h1 => E_gt r208_120 rfl (rfl)))))
theorem b208_124 (d : Nat) (l0 : Nat) (l1 : Int32) (l2 : Int32) (l3 : Int32) (l4 : Int32) (l5 : Int32) (l6 : Int32) (l7 : Value) (s0 : Int32) (h : aH) (K : Option Value → aH → Prop) : E scr false (d + 1) 208 124 [.ref l0, .int l1, .int l2, .int l3, .int l4, .int l5, .int l6, l7] [.int s0] h K = gR scr h l0 9 47 (fun x1 : Nat => gR scr h l0 9 1 (fun x2 : Nat => sV scr d 166 [.ref x1, .ref x2] h (fun h3 : aH => gR scr h3 l0 9 48 (fun x5 : Nat => gR scr h3 l0 9 10 (fun x6 : Nat => sV scr d 166 [.ref x5, .ref x6] h3 (fun h7 : aH => gR scr h7 l0 9 49 (fun x9 : Nat => gR scr h7 l0 9 11 (fun x10 : Nat => sV scr d 166 [.ref x9, .ref x10] h7 (fun h11 : aH => K (some (.int s0)) h11))))))))) := go (w := (126, [.ref l0, .int l1, .int l2, .int l3, .int l4, .int l5, .int s0, l7], [], h)) r208_124 rfl rfl (go (w := (127, [.ref l0, .int l1, .int l2, .int l3, .int l4, .int l5, .int s0, l7], [.ref l0], h)) r208_126 rfl rfl (E_gR r208_127 rfl (fun x1 => go (w := (131, [.ref l0, .int l1, .int l2, .int l3, .int l4, .int l5, .int s0, l7], [.ref l0, .ref x1], h)) r208_130 rfl rfl (E_gR r208_131 rfl (fun x2 => E_sV r208_134 (As := [.ref x1, .ref x2]) (rest := []) (cut_n mi166.1 rfl rfl) (rm8_n mi166.2.1 (Nat.le_of_ble_eq_true rfl) (Nat.le_of_ble_eq_true rfl)) mi166.2.2 (fun h3 => go (w := (138, [.ref l0, .int l1, .int l2, .int l3, .int l4, .int l5, .int s0, l7], [.ref l0], h3)) r208_137 rfl rfl (E_gR r208_138 rfl (fun x5 => go (w := (142, [.ref l0, .int l1, .int l2, .int l3, .int l4, .int l5, .int s0, l7], [.ref l0, .ref x5], h3)) r208_141 rfl rfl (E_gR r208_142 rfl (fun x6 => E_sV r208_145 (As := [.ref x5, .ref x6]) (rest := []) (cut_n mi166.1 rfl rfl) (rm8_n mi166.2.1 (Nat.le_of_ble_eq_true rfl) (Nat.le_of_ble_eq_true rfl)) mi166.2.2 (fun h7 => go (w := (149, [.ref l0, .int l1, .int l2, .int l3, .int l4, .int l5, .int s0, l7], [.ref l0], h7)) r208_148 rfl rfl (E_gR r208_149 rfl (fun x9 => go (w := (153, [.ref l0, .int l1, .int l2, .int l3, .int l4, .int l5, .int s0, l7], [.ref l0, .ref x9], h7)) r208_152 rfl rfl (E_gR r208_153 rfl (fun x10 => E_sV r208_156 (As := [.ref x9, .ref x10]) (rest := []) (cut_n mi166.1 rfl rfl) (rm8_n mi166.2.1 (Nat.le_of_ble_eq_true rfl) (Nat.le_of_ble_eq_true rfl)) mi166.2.2 (fun h11 => go (w := (161, [.ref l0, .int l1, .int l2, .int l3, .int l4, .int l5, .int s0, l7], [.int s0], h11)) r208_159 rfl rfl (E_ri r208_161 (mq208))))))))))))))))))
-- 209 SecondNearestModel.lead(IIII)I
theorem mq209 : mRet 209 = (some .int) := by decide +kernel
theorem r209_0 : rowAt 209 0 = some (.aload_n 0, 1, 0, 0) := by decide +kernel
theorem r209_1 : rowAt 209 1 = some (.invokevirtual 407, 3, 124, 0) := by decide +kernel
theorem r209_4 : rowAt 209 4 = some (.ifCond .eq 56, 3, 0, 0) := by decide +kernel
theorem r209_7 : rowAt 209 7 = some (.aload_n 0, 1, 0, 0) := by decide +kernel
theorem r209_8 : rowAt 209 8 = some (.iload_n 1, 1, 0, 0) := by decide +kernel
theorem r209_9 : rowAt 209 9 = some (.invokevirtual 410, 3, 172, 0) := by decide +kernel
theorem r209_12 : rowAt 209 12 = some (.ifCond .eq 48, 3, 0, 0) := by decide +kernel
theorem r209_15 : rowAt 209 15 = some (.aload_n 0, 1, 0, 0) := by decide +kernel
theorem r209_16 : rowAt 209 16 = some (.iconst 0, 1, 0, 0) := by decide +kernel
theorem r209_17 : rowAt 209 17 = some (.invokevirtual 418, 3, 185, 0) := by decide +kernel
theorem r209_20 : rowAt 209 20 = some (.ifCond .eq 40, 3, 0, 0) := by decide +kernel
theorem r209_23 : rowAt 209 23 = some (.iload_n 2, 1, 0, 0) := by decide +kernel
theorem r209_24 : rowAt 209 24 = some (.i2l, 1, 0, 0) := by decide +kernel
theorem r209_25 : rowAt 209 25 = some (.lconst 0, 1, 0, 0) := by decide +kernel
theorem r209_26 : rowAt 209 26 = some (.ldc2_w 170, 3, 3, 0) := by decide +kernel
theorem r209_29 : rowAt 209 29 = some (.invokestatic 143, 3, 121, 1) := by decide +kernel
theorem r209_32 : rowAt 209 32 = some (.ifCond .eq 28, 3, 0, 0) := by decide +kernel
theorem r209_35 : rowAt 209 35 = some (.iload_n 3, 1, 0, 0) := by decide +kernel
theorem r209_36 : rowAt 209 36 = some (.i2l, 1, 0, 0) := by decide +kernel
theorem r209_37 : rowAt 209 37 = some (.lconst 0, 1, 0, 0) := by decide +kernel
theorem r209_38 : rowAt 209 38 = some (.ldc2_w 155, 3, 12, 0) := by decide +kernel
theorem r209_41 : rowAt 209 41 = some (.invokestatic 143, 3, 121, 1) := by decide +kernel
theorem r209_44 : rowAt 209 44 = some (.ifCond .eq 16, 3, 0, 0) := by decide +kernel
theorem r209_47 : rowAt 209 47 = some (.iload 4, 2, 0, 0) := by decide +kernel
theorem r209_49 : rowAt 209 49 = some (.i2l, 1, 0, 0) := by decide +kernel
theorem r209_50 : rowAt 209 50 = some (.lconst 0, 1, 0, 0) := by decide +kernel
theorem r209_51 : rowAt 209 51 = some (.ldc2_w 170, 3, 3, 0) := by decide +kernel
theorem r209_54 : rowAt 209 54 = some (.invokestatic 143, 3, 121, 1) := by decide +kernel
theorem r209_57 : rowAt 209 57 = some (.ifCond .ne 5, 3, 0, 0) := by decide +kernel
theorem r209_60 : rowAt 209 60 = some (.iconst (-1), 1, 0, 0) := by decide +kernel
theorem r209_61 : rowAt 209 61 = some (.ireturn, 1, 0, 0) := by decide +kernel
theorem r209_62 : rowAt 209 62 = some (.iconst 1, 1, 0, 0) := by decide +kernel
theorem r209_63 : rowAt 209 63 = some (.istore 5, 2, 0, 0) := by decide +kernel
theorem r209_65 : rowAt 209 65 = some (.iconst 0, 1, 0, 0) := by decide +kernel
theorem r209_66 : rowAt 209 66 = some (.istore 6, 2, 0, 0) := by decide +kernel
theorem r209_68 : rowAt 209 68 = some (.iload 6, 2, 0, 0) := by decide +kernel
theorem r209_70 : rowAt 209 70 = some (.iload_n 2, 1, 0, 0) := by decide +kernel
theorem r209_71 : rowAt 209 71 = some (.if_icmp .ge 16, 3, 0, 0) := by decide +kernel
theorem r209_74 : rowAt 209 74 = some (.iload 5, 2, 0, 0) := by decide +kernel
theorem r209_76 : rowAt 209 76 = some (.bipush 9, 2, 0, 0) := by decide +kernel
theorem r209_78 : rowAt 209 78 = some (.imul, 1, 0, 0) := by decide +kernel
theorem r209_79 : rowAt 209 79 = some (.istore 5, 2, 0, 0) := by decide +kernel
theorem r209_81 : rowAt 209 81 = some (.iinc 6 1, 3, 0, 0) := by decide +kernel
theorem r209_84 : rowAt 209 84 = some (.goto (-16), 3, 0, 0) := by decide +kernel
theorem r209_87 : rowAt 209 87 = some (.iconst 0, 1, 0, 0) := by decide +kernel
theorem r209_88 : rowAt 209 88 = some (.istore 6, 2, 0, 0) := by decide +kernel
theorem r209_90 : rowAt 209 90 = some (.iconst (-1), 1, 0, 0) := by decide +kernel
theorem r209_91 : rowAt 209 91 = some (.istore 7, 2, 0, 0) := by decide +kernel
theorem r209_93 : rowAt 209 93 = some (.iconst 0, 1, 0, 0) := by decide +kernel
theorem r209_94 : rowAt 209 94 = some (.istore 8, 2, 0, 0) := by decide +kernel
theorem r209_96 : rowAt 209 96 = some (.iload 8, 2, 0, 0) := by decide +kernel
theorem r209_98 : rowAt 209 98 = some (.iload 5, 2, 0, 0) := by decide +kernel
theorem r209_100 : rowAt 209 100 = some (.if_icmp .ge 52, 3, 0, 0) := by decide +kernel
theorem r209_103 : rowAt 209 103 = some (.aload_n 0, 1, 0, 0) := by decide +kernel
theorem r209_104 : rowAt 209 104 = some (.iload_n 1, 1, 0, 0) := by decide +kernel
theorem r209_105 : rowAt 209 105 = some (.iload 8, 2, 0, 0) := by decide +kernel
theorem r209_107 : rowAt 209 107 = some (.iload_n 2, 1, 0, 0) := by decide +kernel
theorem r209_108 : rowAt 209 108 = some (.iload_n 3, 1, 0, 0) := by decide +kernel
theorem r209_109 : rowAt 209 109 = some (.invokevirtual 459, 3, 208, 0) := by decide +kernel
theorem r209_112 : rowAt 209 112 = some (.istore 9, 2, 0, 0) := by decide +kernel
theorem r209_114 : rowAt 209 114 = some (.iload 9, 2, 0, 0) := by decide +kernel
theorem r209_116 : rowAt 209 116 = some (.iload 7, 2, 0, 0) := by decide +kernel
theorem r209_118 : rowAt 209 118 = some (.if_icmp .le 8, 3, 0, 0) := by decide +kernel
theorem r209_121 : rowAt 209 121 = some (.iload 8, 2, 0, 0) := by decide +kernel
theorem r209_123 : rowAt 209 123 = some (.goto 5, 3, 0, 0) := by decide +kernel
theorem r209_126 : rowAt 209 126 = some (.iload 6, 2, 0, 0) := by decide +kernel
theorem r209_128 : rowAt 209 128 = some (.istore 6, 2, 0, 0) := by decide +kernel
theorem r209_130 : rowAt 209 130 = some (.iload 9, 2, 0, 0) := by decide +kernel
theorem r209_132 : rowAt 209 132 = some (.iload 7, 2, 0, 0) := by decide +kernel
theorem r209_134 : rowAt 209 134 = some (.if_icmp .le 8, 3, 0, 0) := by decide +kernel
theorem r209_137 : rowAt 209 137 = some (.iload 9, 2, 0, 0) := by decide +kernel
theorem r209_139 : rowAt 209 139 = some (.goto 5, 3, 0, 0) := by decide +kernel
theorem r209_142 : rowAt 209 142 = some (.iload 7, 2, 0, 0) := by decide +kernel
theorem r209_144 : rowAt 209 144 = some (.istore 7, 2, 0, 0) := by decide +kernel
theorem r209_146 : rowAt 209 146 = some (.iinc 8 1, 3, 0, 0) := by decide +kernel
theorem r209_149 : rowAt 209 149 = some (.goto (-53), 3, 0, 0) := by decide +kernel
theorem r209_152 : rowAt 209 152 = some (.iload 4, 2, 0, 0) := by decide +kernel
theorem r209_154 : rowAt 209 154 = some (.ifCond .ne 8, 3, 0, 0) := by decide +kernel
theorem r209_157 : rowAt 209 157 = some (.iload 7, 2, 0, 0) := by decide +kernel
theorem r209_159 : rowAt 209 159 = some (.goto 24, 3, 0, 0) := by decide +kernel
theorem r209_162 : rowAt 209 162 = some (.iload 4, 2, 0, 0) := by decide +kernel
theorem r209_164 : rowAt 209 164 = some (.iload_n 2, 1, 0, 0) := by decide +kernel
theorem r209_165 : rowAt 209 165 = some (.if_icmp .le 8, 3, 0, 0) := by decide +kernel
theorem r209_168 : rowAt 209 168 = some (.bipush (-2), 2, 0, 0) := by decide +kernel
theorem r209_170 : rowAt 209 170 = some (.goto 13, 3, 0, 0) := by decide +kernel
theorem r209_173 : rowAt 209 173 = some (.iload 6, 2, 0, 0) := by decide +kernel
theorem r209_175 : rowAt 209 175 = some (.iload_n 2, 1, 0, 0) := by decide +kernel
theorem r209_176 : rowAt 209 176 = some (.iload 4, 2, 0, 0) := by decide +kernel
theorem r209_178 : rowAt 209 178 = some (.iconst 1, 1, 0, 0) := by decide +kernel
theorem r209_179 : rowAt 209 179 = some (.isub, 1, 0, 0) := by decide +kernel
theorem r209_180 : rowAt 209 180 = some (.invokestatic 456, 3, 207, 1) := by decide +kernel
theorem r209_183 : rowAt 209 183 = some (.ireturn, 1, 0, 0) := by decide +kernel
theorem en209 (a0 : Nat) (a1 : Int32) (a2 : Int32) (a3 : Int32) (a4 : Int32) : iniL 209 [.ref a0, .int a1, .int a2, .int a3, .int a4] = [.ref a0, .int a1, .int a2, .int a3, .int a4, .null, .null, .null, .null, .null] := ini_n mi209 rfl
theorem b209_0 (d : Nat) (l0 : Nat) (l1 : Int32) (l2 : Int32) (l3 : Int32) (l4 : Int32) (h : aH) (K : Option Value → aH → Prop) : E scr false (d + 1) 209 0 [.ref l0, .int l1, .int l2, .int l3, .int l4, .null, .null, .null, .null, .null] [] h K = vI scr d 124 [.ref l0] h (fun (x2 : Int32) (h1 : aH) => (if x2 = 0 then K (some (.int (-1))) h1 else vI scr d 172 [.ref l0, .int l1] h1 (fun (x4 : Int32) (h3 : aH) => (if x4 = 0 then K (some (.int (-1))) h3 else vI scr d 185 [.ref l0, .int 0] h3 (fun (x6 : Int32) (h5 : aH) => (if x6 = 0 then K (some (.int (-1))) h5 else sI scr d 121 [.long (Int32.toInt64 l2), .long 0, .long 3] h5 (fun (x8 : Int32) (h7 : aH) => (if x8 = 0 then K (some (.int (-1))) h7 else sI scr d 121 [.long (Int32.toInt64 l3), .long 0, .long 12] h7 (fun (x10 : Int32) (h9 : aH) => (if x10 = 0 then K (some (.int (-1))) h9 else sI scr d 121 [.long (Int32.toInt64 l4), .long 0, .long 3] h9 (fun (x12 : Int32) (h11 : aH) => (if x12 = 0 then K (some (.int (-1))) h11 else E scr false (d + 1) 209 68 [.ref l0, .int l1, .int l2, .int l3, .int l4, .int 1, .int 0, .null, .null, .null] [] h11 K)))))))))))) := go (w := (1, [.ref l0, .int l1, .int l2, .int l3, .int l4, .null, .null, .null, .null, .null], [.ref l0], h)) r209_0 rfl rfl (E_vI r209_1 (As := [.ref l0]) (rest := []) (cut_n mi124.1 rfl rfl) (rm8_n mi124.2.1 (Nat.le_of_ble_eq_true rfl) (Nat.le_of_ble_eq_true rfl)) mi124.2.2 (fun x2 h1 => E_i1_eq r209_4 rfl (E_ic r209_60 (v := (-1)) (by decide) (E_ri r209_61 (mq209))) (go (w := (8, [.ref l0, .int l1, .int l2, .int l3, .int l4, .null, .null, .null, .null, .null], [.ref l0], h1)) r209_7 rfl rfl (go (w := (9, [.ref l0, .int l1, .int l2, .int l3, .int l4, .null, .null, .null, .null, .null], [.int l1, .ref l0], h1)) r209_8 rfl rfl (E_vI r209_9 (As := [.ref l0, .int l1]) (rest := []) (cut_n mi172.1 rfl rfl) (rm8_n mi172.2.1 (Nat.le_of_ble_eq_true rfl) (Nat.le_of_ble_eq_true rfl)) mi172.2.2 (fun x4 h3 => E_i1_eq r209_12 rfl (E_ic r209_60 (v := (-1)) (by decide) (E_ri r209_61 (mq209))) (go (w := (16, [.ref l0, .int l1, .int l2, .int l3, .int l4, .null, .null, .null, .null, .null], [.ref l0], h3)) r209_15 rfl rfl (E_ic r209_16 (v := 0) (by decide) (E_vI r209_17 (As := [.ref l0, .int 0]) (rest := []) (cut_n mi185.1 rfl rfl) (rm8_n mi185.2.1 (Nat.le_of_ble_eq_true rfl) (Nat.le_of_ble_eq_true rfl)) mi185.2.2 (fun x6 h5 => E_i1_eq r209_20 rfl (E_ic r209_60 (v := (-1)) (by decide) (E_ri r209_61 (mq209))) (go (w := (24, [.ref l0, .int l1, .int l2, .int l3, .int l4, .null, .null, .null, .null, .null], [.int l2], h5)) r209_23 rfl rfl (go (w := (25, [.ref l0, .int l1, .int l2, .int l3, .int l4, .null, .null, .null, .null, .null], [.long (Int32.toInt64 l2)], h5)) r209_24 rfl rfl (E_lc r209_25 (v := 0) (by decide) (E_ld2 r209_26 (v := 3) (by decide) (E_sI r209_29 (As := [.long (Int32.toInt64 l2), .long 0, .long 3]) (rest := []) (cut_n mi121.1 rfl rfl) (rm8_n mi121.2.1 (Nat.le_of_ble_eq_true rfl) (Nat.le_of_ble_eq_true rfl)) mi121.2.2 (fun x8 h7 => E_i1_eq r209_32 rfl (E_ic r209_60 (v := (-1)) (by decide) (E_ri r209_61 (mq209))) (go (w := (36, [.ref l0, .int l1, .int l2, .int l3, .int l4, .null, .null, .null, .null, .null], [.int l3], h7)) r209_35 rfl rfl (go (w := (37, [.ref l0, .int l1, .int l2, .int l3, .int l4, .null, .null, .null, .null, .null], [.long (Int32.toInt64 l3)], h7)) r209_36 rfl rfl (E_lc r209_37 (v := 0) (by decide) (E_ld2 r209_38 (v := 12) (by decide) (E_sI r209_41 (As := [.long (Int32.toInt64 l3), .long 0, .long 12]) (rest := []) (cut_n mi121.1 rfl rfl) (rm8_n mi121.2.1 (Nat.le_of_ble_eq_true rfl) (Nat.le_of_ble_eq_true rfl)) mi121.2.2 (fun x10 h9 => E_i1_eq r209_44 rfl (E_ic r209_60 (v := (-1)) (by decide) (E_ri r209_61 (mq209))) (go (w := (49, [.ref l0, .int l1, .int l2, .int l3, .int l4, .null, .null, .null, .null, .null], [.int l4], h9)) r209_47 rfl rfl (go (w := (50, [.ref l0, .int l1, .int l2, .int l3, .int l4, .null, .null, .null, .null, .null], [.long (Int32.toInt64 l4)], h9)) r209_49 rfl rfl (E_lc r209_50 (v := 0) (by decide) (E_ld2 r209_51 (v := 3) (by decide) (E_sI r209_54 (As := [.long (Int32.toInt64 l4), .long 0, .long 3]) (rest := []) (cut_n mi121.1 rfl rfl) (rm8_n mi121.2.1 (Nat.le_of_ble_eq_true rfl) (Nat.le_of_ble_eq_true rfl)) mi121.2.2 (fun x12 h11 => E_i1_ne r209_57 rfl (E_ic r209_62 (v := 1) (by decide) (go (w := (65, [.ref l0, .int l1, .int l2, .int l3, .int l4, .int 1, .null, .null, .null, .null], [], h11)) r209_63 rfl rfl (E_ic r209_65 (v := 0) (by decide) (go (w := (68, [.ref l0, .int l1, .int l2, .int l3, .int l4, .int 1, .int 0, .null, .null, .null], [], h11)) r209_66 rfl rfl (rfl))))) (E_ic r209_60 (v := (-1)) (by decide) (E_ri r209_61 (mq209)))))))))))))))))))))))))))))))
theorem b209_68 (d : Nat) (l0 : Nat) (l1 : Int32) (l2 : Int32) (l3 : Int32) (l4 : Int32) (l5 : Int32) (l6 : Int32) (h : aH) (K : Option Value → aH → Prop) : E scr false d 209 68 [.ref l0, .int l1, .int l2, .int l3, .int l4, .int l5, .int l6, .null, .null, .null] [] h K = (if l2 ≤ l6 then E scr false d 209 96 [.ref l0, .int l1, .int l2, .int l3, .int l4, .int l5, .int 0, .int (-1), .int 0, .null] [] h K else E scr false d 209 68 [.ref l0, .int l1, .int l2, .int l3, .int l4, .int (l5 * 9), .int (l6 + 1), .null, .null, .null] [] h K) := go (w := (70, [.ref l0, .int l1, .int l2, .int l3, .int l4, .int l5, .int l6, .null, .null, .null], [.int l6], h)) r209_68 rfl rfl (go (w := (71, [.ref l0, .int l1, .int l2, .int l3, .int l4, .int l5, .int l6, .null, .null, .null], [.int l2, .int l6], h)) r209_70 rfl rfl (E_i2_ge r209_71 rfl (E_ic r209_87 (v := 0) (by decide) (go (w := (90, [.ref l0, .int l1, .int l2, .int l3, .int l4, .int l5, .int 0, .null, .null, .null], [], h)) r209_88 rfl rfl (E_ic r209_90 (v := (-1)) (by decide) (go (w := (93, [.ref l0, .int l1, .int l2, .int l3, .int l4, .int l5, .int 0, .int (-1), .null, .null], [], h)) r209_91 rfl rfl (E_ic r209_93 (v := 0) (by decide) (go (w := (96, [.ref l0, .int l1, .int l2, .int l3, .int l4, .int l5, .int 0, .int (-1), .int 0, .null], [], h)) r209_94 rfl rfl (rfl))))))) (go (w := (76, [.ref l0, .int l1, .int l2, .int l3, .int l4, .int l5, .int l6, .null, .null, .null], [.int l5], h)) r209_74 rfl rfl (E_bip r209_76 (v := 9) (by decide) (go (w := (79, [.ref l0, .int l1, .int l2, .int l3, .int l4, .int l5, .int l6, .null, .null, .null], [.int (l5 * 9)], h)) r209_78 rfl rfl (go (w := (81, [.ref l0, .int l1, .int l2, .int l3, .int l4, .int (l5 * 9), .int l6, .null, .null, .null], [], h)) r209_79 rfl rfl (E_inc r209_81 (c := 1) rfl (by decide) (L' := [.ref l0, .int l1, .int l2, .int l3, .int l4, .int (l5 * 9), .int (l6 + 1), .null, .null, .null]) rfl (E_gt r209_84 rfl (rfl)))))))))
theorem b209_96 (d : Nat) (l0 : Nat) (l1 : Int32) (l2 : Int32) (l3 : Int32) (l4 : Int32) (l5 : Int32) (l6 : Int32) (l7 : Int32) (l8 : Int32) (l9 : Value) (h : aH) (K : Option Value → aH → Prop) : E scr false (d + 1) 209 96 [.ref l0, .int l1, .int l2, .int l3, .int l4, .int l5, .int l6, .int l7, .int l8, l9] [] h K = (if l5 ≤ l8 then (if l4 = 0 then K (some (.int l7)) h else (if l4 ≤ l2 then sI scr d 207 [.int l6, .int l2, .int (l4 - 1)] h (fun (x2 : Int32) (h1 : aH) => K (some (.int x2)) h1) else K (some (.int (-2))) h)) else vI scr d 208 [.ref l0, .int l1, .int l8, .int l2, .int l3] h (fun (x4 : Int32) (h3 : aH) => (if x4 ≤ l7 then E scr false (d + 1) 209 128 [.ref l0, .int l1, .int l2, .int l3, .int l4, .int l5, .int l6, .int l7, .int l8, .int x4] [.int l6] h3 K else E scr false (d + 1) 209 128 [.ref l0, .int l1, .int l2, .int l3, .int l4, .int l5, .int l6, .int l7, .int l8, .int x4] [.int l8] h3 K))) := go (w := (98, [.ref l0, .int l1, .int l2, .int l3, .int l4, .int l5, .int l6, .int l7, .int l8, l9], [.int l8], h)) r209_96 rfl rfl (go (w := (100, [.ref l0, .int l1, .int l2, .int l3, .int l4, .int l5, .int l6, .int l7, .int l8, l9], [.int l5, .int l8], h)) r209_98 rfl rfl (E_i2_ge r209_100 rfl (go (w := (154, [.ref l0, .int l1, .int l2, .int l3, .int l4, .int l5, .int l6, .int l7, .int l8, l9], [.int l4], h)) r209_152 rfl rfl (E_i1_ne r209_154 rfl (go (w := (164, [.ref l0, .int l1, .int l2, .int l3, .int l4, .int l5, .int l6, .int l7, .int l8, l9], [.int l4], h)) r209_162 rfl rfl (go (w := (165, [.ref l0, .int l1, .int l2, .int l3, .int l4, .int l5, .int l6, .int l7, .int l8, l9], [.int l2, .int l4], h)) r209_164 rfl rfl (E_i2_le r209_165 rfl (go (w := (175, [.ref l0, .int l1, .int l2, .int l3, .int l4, .int l5, .int l6, .int l7, .int l8, l9], [.int l6], h)) r209_173 rfl rfl (go (w := (176, [.ref l0, .int l1, .int l2, .int l3, .int l4, .int l5, .int l6, .int l7, .int l8, l9], [.int l2, .int l6], h)) r209_175 rfl rfl (go (w := (178, [.ref l0, .int l1, .int l2, .int l3, .int l4, .int l5, .int l6, .int l7, .int l8, l9], [.int l4, .int l2, .int l6], h)) r209_176 rfl rfl (E_ic r209_178 (v := 1) (by decide) (go (w := (180, [.ref l0, .int l1, .int l2, .int l3, .int l4, .int l5, .int l6, .int l7, .int l8, l9], [.int (l4 - 1), .int l2, .int l6], h)) r209_179 rfl rfl (E_sI r209_180 (As := [.int l6, .int l2, .int (l4 - 1)]) (rest := []) (cut_n mi207.1 rfl rfl) (rm8_n mi207.2.1 (Nat.le_of_ble_eq_true rfl) (Nat.le_of_ble_eq_true rfl)) mi207.2.2 (fun x2 h1 => E_ri r209_183 (mq209)))))))) (E_bip r209_168 (v := (-2)) (by decide) (E_gt r209_170 rfl (E_ri r209_183 (mq209))))))) (go (w := (159, [.ref l0, .int l1, .int l2, .int l3, .int l4, .int l5, .int l6, .int l7, .int l8, l9], [.int l7], h)) r209_157 rfl rfl (E_gt r209_159 rfl (E_ri r209_183 (mq209)))))) (go (w := (104, [.ref l0, .int l1, .int l2, .int l3, .int l4, .int l5, .int l6, .int l7, .int l8, l9], [.ref l0], h)) r209_103 rfl rfl (go (w := (105, [.ref l0, .int l1, .int l2, .int l3, .int l4, .int l5, .int l6, .int l7, .int l8, l9], [.int l1, .ref l0], h)) r209_104 rfl rfl (go (w := (107, [.ref l0, .int l1, .int l2, .int l3, .int l4, .int l5, .int l6, .int l7, .int l8, l9], [.int l8, .int l1, .ref l0], h)) r209_105 rfl rfl (go (w := (108, [.ref l0, .int l1, .int l2, .int l3, .int l4, .int l5, .int l6, .int l7, .int l8, l9], [.int l2, .int l8, .int l1, .ref l0], h)) r209_107 rfl rfl (go (w := (109, [.ref l0, .int l1, .int l2, .int l3, .int l4, .int l5, .int l6, .int l7, .int l8, l9], [.int l3, .int l2, .int l8, .int l1, .ref l0], h)) r209_108 rfl rfl (E_vI r209_109 (As := [.ref l0, .int l1, .int l8, .int l2, .int l3]) (rest := []) (cut_n mi208.1 rfl rfl) (rm8_n mi208.2.1 (Nat.le_of_ble_eq_true rfl) (Nat.le_of_ble_eq_true rfl)) mi208.2.2 (fun x4 h3 => go (w := (114, [.ref l0, .int l1, .int l2, .int l3, .int l4, .int l5, .int l6, .int l7, .int l8, .int x4], [], h3)) r209_112 rfl rfl (go (w := (116, [.ref l0, .int l1, .int l2, .int l3, .int l4, .int l5, .int l6, .int l7, .int l8, .int x4], [.int x4], h3)) r209_114 rfl rfl (go (w := (118, [.ref l0, .int l1, .int l2, .int l3, .int l4, .int l5, .int l6, .int l7, .int l8, .int x4], [.int l7, .int x4], h3)) r209_116 rfl rfl (E_i2_le r209_118 rfl (go (w := (128, [.ref l0, .int l1, .int l2, .int l3, .int l4, .int l5, .int l6, .int l7, .int l8, .int x4], [.int l6], h3)) r209_126 rfl rfl (rfl)) (go (w := (123, [.ref l0, .int l1, .int l2, .int l3, .int l4, .int l5, .int l6, .int l7, .int l8, .int x4], [.int l8], h3)) r209_121 rfl rfl (E_gt r209_123 rfl (rfl)))))))))))))))
theorem b209_128 (d : Nat) (l0 : Nat) (l1 : Int32) (l2 : Int32) (l3 : Int32) (l4 : Int32) (l5 : Int32) (l6 : Int32) (l7 : Int32) (l8 : Int32) (l9 : Int32) (s0 : Int32) (h : aH) (K : Option Value → aH → Prop) : E scr false d 209 128 [.ref l0, .int l1, .int l2, .int l3, .int l4, .int l5, .int l6, .int l7, .int l8, .int l9] [.int s0] h K = (if l9 ≤ l7 then E scr false d 209 144 [.ref l0, .int l1, .int l2, .int l3, .int l4, .int l5, .int s0, .int l7, .int l8, .int l9] [.int l7] h K else E scr false d 209 144 [.ref l0, .int l1, .int l2, .int l3, .int l4, .int l5, .int s0, .int l7, .int l8, .int l9] [.int l9] h K) := go (w := (130, [.ref l0, .int l1, .int l2, .int l3, .int l4, .int l5, .int s0, .int l7, .int l8, .int l9], [], h)) r209_128 rfl rfl (go (w := (132, [.ref l0, .int l1, .int l2, .int l3, .int l4, .int l5, .int s0, .int l7, .int l8, .int l9], [.int l9], h)) r209_130 rfl rfl (go (w := (134, [.ref l0, .int l1, .int l2, .int l3, .int l4, .int l5, .int s0, .int l7, .int l8, .int l9], [.int l7, .int l9], h)) r209_132 rfl rfl (E_i2_le r209_134 rfl (go (w := (144, [.ref l0, .int l1, .int l2, .int l3, .int l4, .int l5, .int s0, .int l7, .int l8, .int l9], [.int l7], h)) r209_142 rfl rfl (rfl)) (go (w := (139, [.ref l0, .int l1, .int l2, .int l3, .int l4, .int l5, .int s0, .int l7, .int l8, .int l9], [.int l9], h)) r209_137 rfl rfl (E_gt r209_139 rfl (rfl))))))
theorem b209_144 (d : Nat) (l0 : Nat) (l1 : Int32) (l2 : Int32) (l3 : Int32) (l4 : Int32) (l5 : Int32) (l6 : Int32) (l7 : Int32) (l8 : Int32) (l9 : Int32) (s0 : Int32) (h : aH) (K : Option Value → aH → Prop) : E scr false d 209 144 [.ref l0, .int l1, .int l2, .int l3, .int l4, .int l5, .int l6, .int l7, .int l8, .int l9] [.int s0] h K = E scr false d 209 96 [.ref l0, .int l1, .int l2, .int l3, .int l4, .int l5, .int l6, .int s0, .int (l8 + 1), .int l9] [] h K := go (w := (146, [.ref l0, .int l1, .int l2, .int l3, .int l4, .int l5, .int l6, .int s0, .int l8, .int l9], [], h)) r209_144 rfl rfl (E_inc r209_146 (c := 1) rfl (by decide) (L' := [.ref l0, .int l1, .int l2, .int l3, .int l4, .int l5, .int l6, .int s0, .int (l8 + 1), .int l9]) rfl (E_gt r209_149 rfl (rfl)))
-- 210 SecondNearestModel.wall(II)I
theorem mq210 : mRet 210 = (some .int) := by decide +kernel
theorem r210_0 : rowAt 210 0 = some (.aload_n 0, 1, 0, 0) := by decide +kernel
theorem r210_1 : rowAt 210 1 = some (.iload_n 1, 1, 0, 0) := by decide +kernel
theorem r210_2 : rowAt 210 2 = some (.iload_n 2, 1, 0, 0) := by decide +kernel
theorem r210_3 : rowAt 210 3 = some (.invokevirtual 426, 3, 195, 0) := by decide +kernel
theorem r210_6 : rowAt 210 6 = some (.ifCond .eq 9, 3, 0, 0) := by decide +kernel
theorem r210_9 : rowAt 210 9 = some (.iload_n 2, 1, 0, 0) := by decide +kernel
theorem r210_10 : rowAt 210 10 = some (.bipush 60, 2, 0, 0) := by decide +kernel
theorem r210_12 : rowAt 210 12 = some (.if_icmp .le 5, 3, 0, 0) := by decide +kernel
theorem r210_15 : rowAt 210 15 = some (.iconst (-1), 1, 0, 0) := by decide +kernel
theorem r210_16 : rowAt 210 16 = some (.ireturn, 1, 0, 0) := by decide +kernel
theorem r210_17 : rowAt 210 17 = some (.bipush (-2), 2, 0, 0) := by decide +kernel
theorem r210_19 : rowAt 210 19 = some (.istore_n 3, 1, 0, 0) := by decide +kernel
theorem r210_20 : rowAt 210 20 = some (.iconst 0, 1, 0, 0) := by decide +kernel
theorem r210_21 : rowAt 210 21 = some (.istore 4, 2, 0, 0) := by decide +kernel
theorem r210_23 : rowAt 210 23 = some (.iload 4, 2, 0, 0) := by decide +kernel
theorem r210_25 : rowAt 210 25 = some (.sipush 144, 3, 0, 0) := by decide +kernel
theorem r210_28 : rowAt 210 28 = some (.if_icmp .ge 76, 3, 0, 0) := by decide +kernel
theorem r210_31 : rowAt 210 31 = some (.iload_n 3, 1, 0, 0) := by decide +kernel
theorem r210_32 : rowAt 210 32 = some (.bipush (-2), 2, 0, 0) := by decide +kernel
theorem r210_34 : rowAt 210 34 = some (.if_icmp .ne 70, 3, 0, 0) := by decide +kernel
theorem r210_37 : rowAt 210 37 = some (.aload_n 0, 1, 0, 0) := by decide +kernel
theorem r210_38 : rowAt 210 38 = some (.iload 4, 2, 0, 0) := by decide +kernel
theorem r210_40 : rowAt 210 40 = some (.invokevirtual 389, 3, 131, 0) := by decide +kernel
theorem r210_43 : rowAt 210 43 = some (.ifCond .eq 55, 3, 0, 0) := by decide +kernel
theorem r210_46 : rowAt 210 46 = some (.aload_n 0, 1, 0, 0) := by decide +kernel
theorem r210_47 : rowAt 210 47 = some (.getfield 13, 3, 9, 2) := by decide +kernel
theorem r210_50 : rowAt 210 50 = some (.iload 4, 2, 0, 0) := by decide +kernel
theorem r210_52 : rowAt 210 52 = some (.iaload, 1, 0, 0) := by decide +kernel
theorem r210_53 : rowAt 210 53 = some (.ifCond .ne 45, 3, 0, 0) := by decide +kernel
theorem r210_56 : rowAt 210 56 = some (.aload_n 0, 1, 0, 0) := by decide +kernel
theorem r210_57 : rowAt 210 57 = some (.getfield 13, 3, 9, 2) := by decide +kernel
theorem r210_60 : rowAt 210 60 = some (.iload 4, 2, 0, 0) := by decide +kernel
theorem r210_62 : rowAt 210 62 = some (.iconst 1, 1, 0, 0) := by decide +kernel
theorem r210_63 : rowAt 210 63 = some (.iastore, 1, 0, 0) := by decide +kernel
theorem r210_64 : rowAt 210 64 = some (.aload_n 0, 1, 0, 0) := by decide +kernel
theorem r210_65 : rowAt 210 65 = some (.invokevirtual 350, 3, 135, 0) := by decide +kernel
theorem r210_68 : rowAt 210 68 = some (.aload_n 0, 1, 0, 0) := by decide +kernel
theorem r210_69 : rowAt 210 69 = some (.iload_n 1, 1, 0, 0) := by decide +kernel
theorem r210_70 : rowAt 210 70 = some (.iload_n 2, 1, 0, 0) := by decide +kernel
theorem r210_71 : rowAt 210 71 = some (.invokevirtual 453, 3, 205, 0) := by decide +kernel
theorem r210_74 : rowAt 210 74 = some (.aload_n 0, 1, 0, 0) := by decide +kernel
theorem r210_75 : rowAt 210 75 = some (.getfield 7, 3, 9, 1) := by decide +kernel
theorem r210_78 : rowAt 210 78 = some (.iconst 2, 1, 0, 0) := by decide +kernel
theorem r210_79 : rowAt 210 79 = some (.iaload, 1, 0, 0) := by decide +kernel
theorem r210_80 : rowAt 210 80 = some (.if_icmp .ne 8, 3, 0, 0) := by decide +kernel
theorem r210_83 : rowAt 210 83 = some (.iload 4, 2, 0, 0) := by decide +kernel
theorem r210_85 : rowAt 210 85 = some (.goto 4, 3, 0, 0) := by decide +kernel
theorem r210_88 : rowAt 210 88 = some (.iload_n 3, 1, 0, 0) := by decide +kernel
theorem r210_89 : rowAt 210 89 = some (.istore_n 3, 1, 0, 0) := by decide +kernel
theorem r210_90 : rowAt 210 90 = some (.aload_n 0, 1, 0, 0) := by decide +kernel
theorem r210_91 : rowAt 210 91 = some (.getfield 13, 3, 9, 2) := by decide +kernel
theorem r210_94 : rowAt 210 94 = some (.iload 4, 2, 0, 0) := by decide +kernel
theorem r210_96 : rowAt 210 96 = some (.iconst 0, 1, 0, 0) := by decide +kernel
theorem r210_97 : rowAt 210 97 = some (.iastore, 1, 0, 0) := by decide +kernel
theorem r210_98 : rowAt 210 98 = some (.iinc 4 1, 3, 0, 0) := by decide +kernel
theorem r210_101 : rowAt 210 101 = some (.goto (-78), 3, 0, 0) := by decide +kernel
theorem r210_104 : rowAt 210 104 = some (.aload_n 0, 1, 0, 0) := by decide +kernel
theorem r210_105 : rowAt 210 105 = some (.invokevirtual 350, 3, 135, 0) := by decide +kernel
theorem r210_108 : rowAt 210 108 = some (.iload_n 3, 1, 0, 0) := by decide +kernel
theorem r210_109 : rowAt 210 109 = some (.ireturn, 1, 0, 0) := by decide +kernel
theorem en210 (a0 : Nat) (a1 : Int32) (a2 : Int32) : iniL 210 [.ref a0, .int a1, .int a2] = [.ref a0, .int a1, .int a2, .null, .null] := ini_n mi210 rfl
theorem b210_0 (d : Nat) (l0 : Nat) (l1 : Int32) (l2 : Int32) (h : aH) (K : Option Value → aH → Prop) : E scr false (d + 1) 210 0 [.ref l0, .int l1, .int l2, .null, .null] [] h K = vI scr d 195 [.ref l0, .int l1, .int l2] h (fun (x2 : Int32) (h1 : aH) => (if x2 = 0 then K (some (.int (-1))) h1 else (if l2 ≤ 60 then E scr false (d + 1) 210 23 [.ref l0, .int l1, .int l2, .int (-2), .int 0] [] h1 K else K (some (.int (-1))) h1))) := go (w := (1, [.ref l0, .int l1, .int l2, .null, .null], [.ref l0], h)) r210_0 rfl rfl (go (w := (2, [.ref l0, .int l1, .int l2, .null, .null], [.int l1, .ref l0], h)) r210_1 rfl rfl (go (w := (3, [.ref l0, .int l1, .int l2, .null, .null], [.int l2, .int l1, .ref l0], h)) r210_2 rfl rfl (E_vI r210_3 (As := [.ref l0, .int l1, .int l2]) (rest := []) (cut_n mi195.1 rfl rfl) (rm8_n mi195.2.1 (Nat.le_of_ble_eq_true rfl) (Nat.le_of_ble_eq_true rfl)) mi195.2.2 (fun x2 h1 => E_i1_eq r210_6 rfl (E_ic r210_15 (v := (-1)) (by decide) (E_ri r210_16 (mq210))) (go (w := (10, [.ref l0, .int l1, .int l2, .null, .null], [.int l2], h1)) r210_9 rfl rfl (E_bip r210_10 (v := 60) (by decide) (E_i2_le r210_12 rfl (E_bip r210_17 (v := (-2)) (by decide) (go (w := (20, [.ref l0, .int l1, .int l2, .int (-2), .null], [], h1)) r210_19 rfl rfl (E_ic r210_20 (v := 0) (by decide) (go (w := (23, [.ref l0, .int l1, .int l2, .int (-2), .int 0], [], h1)) r210_21 rfl rfl (rfl))))) (E_ic r210_15 (v := (-1)) (by decide) (E_ri r210_16 (mq210))))))))))
theorem b210_23 (d : Nat) (l0 : Nat) (l1 : Int32) (l2 : Int32) (l3 : Int32) (l4 : Int32) (h : aH) (K : Option Value → aH → Prop) : E scr false (d + 1) 210 23 [.ref l0, .int l1, .int l2, .int l3, .int l4] [] h K = (if 144 ≤ l4 then E scr false (d + 1) 210 104 [.ref l0, .int l1, .int l2, .int l3, .int l4] [] h K else (if l3 = (-2) then vI scr d 131 [.ref l0, .int l4] h (fun (x2 : Int32) (h1 : aH) => (if x2 = 0 then E scr false (d + 1) 210 98 [.ref l0, .int l1, .int l2, .int l3, .int l4] [] h1 K else gR scr h1 l0 9 2 (fun x3 : Nat => aI scr h1 x3 l4 (fun x4 : Int32 => (if x4 = 0 then gR scr h1 l0 9 2 (fun x5 : Nat => wI h1 x5 l4 1 (fun h6 : aH => vV scr d 135 [.ref l0] h6 (fun h7 : aH => vI scr d 205 [.ref l0, .int l1, .int l2] h7 (fun (x10 : Int32) (h9 : aH) => gR scr h9 l0 9 1 (fun x11 : Nat => aI scr h9 x11 2 (fun x12 : Int32 => (if x10 = x12 then E scr false (d + 1) 210 89 [.ref l0, .int l1, .int l2, .int l3, .int l4] [.int l4] h9 K else E scr false (d + 1) 210 89 [.ref l0, .int l1, .int l2, .int l3, .int l4] [.int l3] h9 K))))))) else E scr false (d + 1) 210 98 [.ref l0, .int l1, .int l2, .int l3, .int l4] [] h1 K))))) else E scr false (d + 1) 210 104 [.ref l0, .int l1, .int l2, .int l3, .int l4] [] h K)) := go (w := (25, [.ref l0, .int l1, .int l2, .int l3, .int l4], [.int l4], h)) r210_23 rfl rfl (E_sip r210_25 (v := 144) (by decide) (E_i2_ge r210_28 rfl (rfl) (go (w := (32, [.ref l0, .int l1, .int l2, .int l3, .int l4], [.int l3], h)) r210_31 rfl rfl (E_bip r210_32 (v := (-2)) (by decide) (E_i2_ne r210_34 rfl (rfl) (go (w := (38, [.ref l0, .int l1, .int l2, .int l3, .int l4], [.ref l0], h)) r210_37 rfl rfl (go (w := (40, [.ref l0, .int l1, .int l2, .int l3, .int l4], [.int l4, .ref l0], h)) r210_38 rfl rfl (E_vI r210_40 (As := [.ref l0, .int l4]) (rest := []) (cut_n mi131.1 rfl rfl) (rm8_n mi131.2.1 (Nat.le_of_ble_eq_true rfl) (Nat.le_of_ble_eq_true rfl)) mi131.2.2 (fun x2 h1 => E_i1_eq r210_43 rfl (rfl) (go (w := (47, [.ref l0, .int l1, .int l2, .int l3, .int l4], [.ref l0], h1)) r210_46 rfl rfl (E_gR r210_47 rfl (fun x3 => go (w := (52, [.ref l0, .int l1, .int l2, .int l3, .int l4], [.int l4, .ref x3], h1)) r210_50 rfl rfl (E_aI r210_52 (fun x4 => E_i1_ne r210_53 rfl (rfl) (go (w := (57, [.ref l0, .int l1, .int l2, .int l3, .int l4], [.ref l0], h1)) r210_56 rfl rfl (E_gR r210_57 rfl (fun x5 => go (w := (62, [.ref l0, .int l1, .int l2, .int l3, .int l4], [.int l4, .ref x5], h1)) r210_60 rfl rfl (E_ic r210_62 (v := 1) (by decide) (E_wI r210_63 (fun h6 => go (w := (65, [.ref l0, .int l1, .int l2, .int l3, .int l4], [.ref l0], h6)) r210_64 rfl rfl (E_vV r210_65 (As := [.ref l0]) (rest := []) (cut_n mi135.1 rfl rfl) (rm8_n mi135.2.1 (Nat.le_of_ble_eq_true rfl) (Nat.le_of_ble_eq_true rfl)) mi135.2.2 (fun h7 => go (w := (69, [.ref l0, .int l1, .int l2, .int l3, .int l4], [.ref l0], h7)) r210_68 rfl rfl (go (w := (70, [.ref l0, .int l1, .int l2, .int l3, .int l4], [.int l1, .ref l0], h7)) r210_69 rfl rfl (go (w := (71, [.ref l0, .int l1, .int l2, .int l3, .int l4], [.int l2, .int l1, .ref l0], h7)) r210_70 rfl rfl (E_vI r210_71 (As := [.ref l0, .int l1, .int l2]) (rest := []) (cut_n mi205.1 rfl rfl) (rm8_n mi205.2.1 (Nat.le_of_ble_eq_true rfl) (Nat.le_of_ble_eq_true rfl)) mi205.2.2 (fun x10 h9 => go (w := (75, [.ref l0, .int l1, .int l2, .int l3, .int l4], [.ref l0, .int x10], h9)) r210_74 rfl rfl (E_gR r210_75 rfl (fun x11 => E_ic r210_78 (v := 2) (by decide) (E_aI r210_79 (fun x12 => E_i2_ne r210_80 rfl (go (w := (89, [.ref l0, .int l1, .int l2, .int l3, .int l4], [.int l3], h9)) r210_88 rfl rfl (rfl)) (go (w := (85, [.ref l0, .int l1, .int l2, .int l3, .int l4], [.int l4], h9)) r210_83 rfl rfl (E_gt r210_85 rfl (rfl)))))))))))))))))))))))))))))))))
theorem b210_89 (d : Nat) (l0 : Nat) (l1 : Int32) (l2 : Int32) (l3 : Int32) (l4 : Int32) (s0 : Int32) (h : aH) (K : Option Value → aH → Prop) : E scr false d 210 89 [.ref l0, .int l1, .int l2, .int l3, .int l4] [.int s0] h K = gR scr h l0 9 2 (fun x1 : Nat => wI h x1 l4 0 (fun h2 : aH => E scr false d 210 98 [.ref l0, .int l1, .int l2, .int s0, .int l4] [] h2 K)) := go (w := (90, [.ref l0, .int l1, .int l2, .int s0, .int l4], [], h)) r210_89 rfl rfl (go (w := (91, [.ref l0, .int l1, .int l2, .int s0, .int l4], [.ref l0], h)) r210_90 rfl rfl (E_gR r210_91 rfl (fun x1 => go (w := (96, [.ref l0, .int l1, .int l2, .int s0, .int l4], [.int l4, .ref x1], h)) r210_94 rfl rfl (E_ic r210_96 (v := 0) (by decide) (E_wI r210_97 (fun h2 => rfl))))))
theorem b210_98 (d : Nat) (l0 : Nat) (l1 : Int32) (l2 : Int32) (l3 : Int32) (l4 : Int32) (h : aH) (K : Option Value → aH → Prop) : E scr false d 210 98 [.ref l0, .int l1, .int l2, .int l3, .int l4] [] h K = E scr false d 210 23 [.ref l0, .int l1, .int l2, .int l3, .int (l4 + 1)] [] h K := E_inc r210_98 (c := 1) rfl (by decide) (L' := [.ref l0, .int l1, .int l2, .int l3, .int (l4 + 1)]) rfl (E_gt r210_101 rfl (rfl))
theorem b210_104 (d : Nat) (l0 : Nat) (l1 : Int32) (l2 : Int32) (l3 : Int32) (l4 : Int32) (h : aH) (K : Option Value → aH → Prop) : E scr false (d + 1) 210 104 [.ref l0, .int l1, .int l2, .int l3, .int l4] [] h K = vV scr d 135 [.ref l0] h (fun h1 : aH => K (some (.int l3)) h1) := go (w := (105, [.ref l0, .int l1, .int l2, .int l3, .int l4], [.ref l0], h)) r210_104 rfl rfl (E_vV r210_105 (As := [.ref l0]) (rest := []) (cut_n mi135.1 rfl rfl) (rm8_n mi135.2.1 (Nat.le_of_ble_eq_true rfl) (Nat.le_of_ble_eq_true rfl)) mi135.2.2 (fun h1 => go (w := (109, [.ref l0, .int l1, .int l2, .int l3, .int l4], [.int l3], h1)) r210_108 rfl rfl (E_ri r210_109 (mq210))))
-- 211 SecondNearestModel.mayStand(I)Z
theorem mq211 : mRet 211 = (some .boolean) := by decide +kernel
theorem r211_0 : rowAt 211 0 = some (.iconst 1, 1, 0, 0) := by decide +kernel
theorem r211_1 : rowAt 211 1 = some (.istore_n 2, 1, 0, 0) := by decide +kernel
theorem r211_2 : rowAt 211 2 = some (.iconst 0, 1, 0, 0) := by decide +kernel
theorem r211_3 : rowAt 211 3 = some (.istore_n 3, 1, 0, 0) := by decide +kernel
theorem r211_4 : rowAt 211 4 = some (.iload_n 3, 1, 0, 0) := by decide +kernel
theorem r211_5 : rowAt 211 5 = some (.iload_n 1, 1, 0, 0) := by decide +kernel
theorem r211_6 : rowAt 211 6 = some (.if_icmp .ge 141, 3, 0, 0) := by decide +kernel
theorem r211_9 : rowAt 211 9 = some (.iload_n 2, 1, 0, 0) := by decide +kernel
theorem r211_10 : rowAt 211 10 = some (.ifCond .eq 137, 3, 0, 0) := by decide +kernel
theorem r211_13 : rowAt 211 13 = some (.aload_n 0, 1, 0, 0) := by decide +kernel
theorem r211_14 : rowAt 211 14 = some (.getfield 37, 3, 9, 10) := by decide +kernel
theorem r211_17 : rowAt 211 17 = some (.aload_n 0, 1, 0, 0) := by decide +kernel
theorem r211_18 : rowAt 211 18 = some (.getfield 127, 3, 9, 50) := by decide +kernel
theorem r211_21 : rowAt 211 21 = some (.iload_n 3, 1, 0, 0) := by decide +kernel
theorem r211_22 : rowAt 211 22 = some (.iaload, 1, 0, 0) := by decide +kernel
theorem r211_23 : rowAt 211 23 = some (.iaload, 1, 0, 0) := by decide +kernel
theorem r211_24 : rowAt 211 24 = some (.istore 4, 2, 0, 0) := by decide +kernel
theorem r211_26 : rowAt 211 26 = some (.aload_n 0, 1, 0, 0) := by decide +kernel
theorem r211_27 : rowAt 211 27 = some (.iload 4, 2, 0, 0) := by decide +kernel
theorem r211_29 : rowAt 211 29 = some (.invokevirtual 160, 3, 126, 0) := by decide +kernel
theorem r211_32 : rowAt 211 32 = some (.ifCond .eq 20, 3, 0, 0) := by decide +kernel
theorem r211_35 : rowAt 211 35 = some (.aload_n 0, 1, 0, 0) := by decide +kernel
theorem r211_36 : rowAt 211 36 = some (.getfield 13, 3, 9, 2) := by decide +kernel
theorem r211_39 : rowAt 211 39 = some (.iload 4, 2, 0, 0) := by decide +kernel
theorem r211_41 : rowAt 211 41 = some (.iaload, 1, 0, 0) := by decide +kernel
theorem r211_42 : rowAt 211 42 = some (.invokestatic 163, 3, 129, 1) := by decide +kernel
theorem r211_45 : rowAt 211 45 = some (.ifCond .eq 7, 3, 0, 0) := by decide +kernel
theorem r211_48 : rowAt 211 48 = some (.iconst 1, 1, 0, 0) := by decide +kernel
theorem r211_49 : rowAt 211 49 = some (.goto 4, 3, 0, 0) := by decide +kernel
theorem r211_52 : rowAt 211 52 = some (.iconst 0, 1, 0, 0) := by decide +kernel
theorem r211_53 : rowAt 211 53 = some (.istore_n 2, 1, 0, 0) := by decide +kernel
theorem r211_54 : rowAt 211 54 = some (.iconst 0, 1, 0, 0) := by decide +kernel
theorem r211_55 : rowAt 211 55 = some (.istore 5, 2, 0, 0) := by decide +kernel
theorem r211_57 : rowAt 211 57 = some (.iload 5, 2, 0, 0) := by decide +kernel
theorem r211_59 : rowAt 211 59 = some (.aload_n 0, 1, 0, 0) := by decide +kernel
theorem r211_60 : rowAt 211 60 = some (.getfield 7, 3, 9, 1) := by decide +kernel
theorem r211_63 : rowAt 211 63 = some (.iconst 3, 1, 0, 0) := by decide +kernel
theorem r211_64 : rowAt 211 64 = some (.iaload, 1, 0, 0) := by decide +kernel
theorem r211_65 : rowAt 211 65 = some (.if_icmp .ge 34, 3, 0, 0) := by decide +kernel
theorem r211_68 : rowAt 211 68 = some (.iload_n 2, 1, 0, 0) := by decide +kernel
theorem r211_69 : rowAt 211 69 = some (.ifCond .eq 22, 3, 0, 0) := by decide +kernel
theorem r211_72 : rowAt 211 72 = some (.aload_n 0, 1, 0, 0) := by decide +kernel
theorem r211_73 : rowAt 211 73 = some (.getfield 37, 3, 9, 10) := by decide +kernel
theorem r211_76 : rowAt 211 76 = some (.bipush 12, 2, 0, 0) := by decide +kernel
theorem r211_78 : rowAt 211 78 = some (.iload 5, 2, 0, 0) := by decide +kernel
theorem r211_80 : rowAt 211 80 = some (.iadd, 1, 0, 0) := by decide +kernel
theorem r211_81 : rowAt 211 81 = some (.iaload, 1, 0, 0) := by decide +kernel
theorem r211_82 : rowAt 211 82 = some (.iload 4, 2, 0, 0) := by decide +kernel
theorem r211_84 : rowAt 211 84 = some (.if_icmp .eq 7, 3, 0, 0) := by decide +kernel
theorem r211_87 : rowAt 211 87 = some (.iconst 1, 1, 0, 0) := by decide +kernel
theorem r211_88 : rowAt 211 88 = some (.goto 4, 3, 0, 0) := by decide +kernel
theorem r211_91 : rowAt 211 91 = some (.iconst 0, 1, 0, 0) := by decide +kernel
theorem r211_92 : rowAt 211 92 = some (.istore_n 2, 1, 0, 0) := by decide +kernel
theorem r211_93 : rowAt 211 93 = some (.iinc 5 1, 3, 0, 0) := by decide +kernel
theorem r211_96 : rowAt 211 96 = some (.goto (-39), 3, 0, 0) := by decide +kernel
theorem r211_99 : rowAt 211 99 = some (.iconst 0, 1, 0, 0) := by decide +kernel
theorem r211_100 : rowAt 211 100 = some (.istore 5, 2, 0, 0) := by decide +kernel
theorem r211_102 : rowAt 211 102 = some (.iload 5, 2, 0, 0) := by decide +kernel
theorem r211_104 : rowAt 211 104 = some (.iload_n 3, 1, 0, 0) := by decide +kernel
theorem r211_105 : rowAt 211 105 = some (.if_icmp .ge 36, 3, 0, 0) := by decide +kernel
theorem r211_108 : rowAt 211 108 = some (.iload_n 2, 1, 0, 0) := by decide +kernel
theorem r211_109 : rowAt 211 109 = some (.ifCond .eq 24, 3, 0, 0) := by decide +kernel
theorem r211_112 : rowAt 211 112 = some (.aload_n 0, 1, 0, 0) := by decide +kernel
theorem r211_113 : rowAt 211 113 = some (.getfield 37, 3, 9, 10) := by decide +kernel
theorem r211_116 : rowAt 211 116 = some (.aload_n 0, 1, 0, 0) := by decide +kernel
theorem r211_117 : rowAt 211 117 = some (.getfield 127, 3, 9, 50) := by decide +kernel
theorem r211_120 : rowAt 211 120 = some (.iload 5, 2, 0, 0) := by decide +kernel
theorem r211_122 : rowAt 211 122 = some (.iaload, 1, 0, 0) := by decide +kernel
theorem r211_123 : rowAt 211 123 = some (.iaload, 1, 0, 0) := by decide +kernel
theorem r211_124 : rowAt 211 124 = some (.iload 4, 2, 0, 0) := by decide +kernel
theorem r211_126 : rowAt 211 126 = some (.if_icmp .eq 7, 3, 0, 0) := by decide +kernel
theorem r211_129 : rowAt 211 129 = some (.iconst 1, 1, 0, 0) := by decide +kernel
theorem r211_130 : rowAt 211 130 = some (.goto 4, 3, 0, 0) := by decide +kernel
theorem r211_133 : rowAt 211 133 = some (.iconst 0, 1, 0, 0) := by decide +kernel
theorem r211_134 : rowAt 211 134 = some (.istore_n 2, 1, 0, 0) := by decide +kernel
theorem r211_135 : rowAt 211 135 = some (.iinc 5 1, 3, 0, 0) := by decide +kernel
theorem r211_138 : rowAt 211 138 = some (.goto (-36), 3, 0, 0) := by decide +kernel
theorem r211_141 : rowAt 211 141 = some (.iinc 3 1, 3, 0, 0) := by decide +kernel
theorem r211_144 : rowAt 211 144 = some (.goto (-140), 3, 0, 0) := by decide +kernel
theorem r211_147 : rowAt 211 147 = some (.iload_n 2, 1, 0, 0) := by decide +kernel
theorem r211_148 : rowAt 211 148 = some (.ireturn, 1, 0, 0) := by decide +kernel
theorem en211 (a0 : Nat) (a1 : Int32) : iniL 211 [.ref a0, .int a1] = [.ref a0, .int a1, .null, .null, .null, .null] := ini_n mi211 rfl
theorem b211_0 (d : Nat) (l0 : Nat) (l1 : Int32) (h : aH) (K : Option Value → aH → Prop) : E scr false d 211 0 [.ref l0, .int l1, .null, .null, .null, .null] [] h K = E scr false d 211 4 [.ref l0, .int l1, .int 1, .int 0, .null, .null] [] h K := E_ic r211_0 (v := 1) (by decide) (go (w := (2, [.ref l0, .int l1, .int 1, .null, .null, .null], [], h)) r211_1 rfl rfl (E_ic r211_2 (v := 0) (by decide) (go (w := (4, [.ref l0, .int l1, .int 1, .int 0, .null, .null], [], h)) r211_3 rfl rfl (rfl))))
theorem b211_4 (d : Nat) (l0 : Nat) (l1 : Int32) (l2 : Int32) (l3 : Int32) (l4 : Value) (l5 : Value) (h : aH) (K : Option Value → aH → Prop) : E scr false (d + 1) 211 4 [.ref l0, .int l1, .int l2, .int l3, l4, l5] [] h K = (if l1 ≤ l3 then (l2 &&& 1 = l2 ∧ K (some (.int l2)) h) else (if l2 = 0 then (l2 &&& 1 = l2 ∧ K (some (.int l2)) h) else gR scr h l0 9 10 (fun x1 : Nat => gR scr h l0 9 50 (fun x2 : Nat => aI scr h x2 l3 (fun x3 : Int32 => aI scr h x1 x3 (fun x4 : Int32 => vI scr d 126 [.ref l0, .int x4] h (fun (x6 : Int32) (h5 : aH) => (if x6 = 0 then E scr false (d + 1) 211 52 [.ref l0, .int l1, .int l2, .int l3, .int x4, l5] [] h5 K else gR scr h5 l0 9 2 (fun x7 : Nat => aI scr h5 x7 x4 (fun x8 : Int32 => sI scr d 129 [.int x8] h5 (fun (x10 : Int32) (h9 : aH) => (if x10 = 0 then E scr false (d + 1) 211 52 [.ref l0, .int l1, .int l2, .int l3, .int x4, l5] [] h9 K else E scr false (d + 1) 211 53 [.ref l0, .int l1, .int l2, .int l3, .int x4, l5] [.int 1] h9 K)))))))))))) := go (w := (5, [.ref l0, .int l1, .int l2, .int l3, l4, l5], [.int l3], h)) r211_4 rfl rfl (go (w := (6, [.ref l0, .int l1, .int l2, .int l3, l4, l5], [.int l1, .int l3], h)) r211_5 rfl rfl (E_i2_ge r211_6 rfl (go (w := (148, [.ref l0, .int l1, .int l2, .int l3, l4, l5], [.int l2], h)) r211_147 rfl rfl (E_zret r211_148 (mq211))) (go (w := (10, [.ref l0, .int l1, .int l2, .int l3, l4, l5], [.int l2], h)) r211_9 rfl rfl (E_i1_eq r211_10 rfl (go (w := (148, [.ref l0, .int l1, .int l2, .int l3, l4, l5], [.int l2], h)) r211_147 rfl rfl (E_zret r211_148 (mq211))) (go (w := (14, [.ref l0, .int l1, .int l2, .int l3, l4, l5], [.ref l0], h)) r211_13 rfl rfl (E_gR r211_14 rfl (fun x1 => go (w := (18, [.ref l0, .int l1, .int l2, .int l3, l4, l5], [.ref l0, .ref x1], h)) r211_17 rfl rfl (E_gR r211_18 rfl (fun x2 => go (w := (22, [.ref l0, .int l1, .int l2, .int l3, l4, l5], [.int l3, .ref x2, .ref x1], h)) r211_21 rfl rfl (E_aI r211_22 (fun x3 => E_aI r211_23 (fun x4 => go (w := (26, [.ref l0, .int l1, .int l2, .int l3, .int x4, l5], [], h)) r211_24 rfl rfl (go (w := (27, [.ref l0, .int l1, .int l2, .int l3, .int x4, l5], [.ref l0], h)) r211_26 rfl rfl (go (w := (29, [.ref l0, .int l1, .int l2, .int l3, .int x4, l5], [.int x4, .ref l0], h)) r211_27 rfl rfl (E_vI r211_29 (As := [.ref l0, .int x4]) (rest := []) (cut_n mi126.1 rfl rfl) (rm8_n mi126.2.1 (Nat.le_of_ble_eq_true rfl) (Nat.le_of_ble_eq_true rfl)) mi126.2.2 (fun x6 h5 => E_i1_eq r211_32 rfl (rfl) (go (w := (36, [.ref l0, .int l1, .int l2, .int l3, .int x4, l5], [.ref l0], h5)) r211_35 rfl rfl (E_gR r211_36 rfl (fun x7 => go (w := (41, [.ref l0, .int l1, .int l2, .int l3, .int x4, l5], [.int x4, .ref x7], h5)) r211_39 rfl rfl (E_aI r211_41 (fun x8 => E_sI r211_42 (As := [.int x8]) (rest := []) (cut_n mi129.1 rfl rfl) (rm8_n mi129.2.1 (Nat.le_of_ble_eq_true rfl) (Nat.le_of_ble_eq_true rfl)) mi129.2.2 (fun x10 h9 => E_i1_eq r211_45 rfl (rfl) (E_ic r211_48 (v := 1) (by decide) (E_gt r211_49 rfl (rfl)))))))))))))))))))))))))
theorem b211_52 (d : Nat) (l0 : Nat) (l1 : Int32) (l2 : Int32) (l3 : Int32) (l4 : Int32) (l5 : Value) (h : aH) (K : Option Value → aH → Prop) : E scr false d 211 52 [.ref l0, .int l1, .int l2, .int l3, .int l4, l5] [] h K = E scr false d 211 53 [.ref l0, .int l1, .int l2, .int l3, .int l4, l5] [.int 0] h K := E_ic r211_52 (v := 0) (by decide) (rfl)
theorem b211_53 (d : Nat) (l0 : Nat) (l1 : Int32) (l2 : Int32) (l3 : Int32) (l4 : Int32) (l5 : Value) (s0 : Int32) (h : aH) (K : Option Value → aH → Prop) : E scr false d 211 53 [.ref l0, .int l1, .int l2, .int l3, .int l4, l5] [.int s0] h K = E scr false d 211 57 [.ref l0, .int l1, .int s0, .int l3, .int l4, .int 0] [] h K := go (w := (54, [.ref l0, .int l1, .int s0, .int l3, .int l4, l5], [], h)) r211_53 rfl rfl (E_ic r211_54 (v := 0) (by decide) (go (w := (57, [.ref l0, .int l1, .int s0, .int l3, .int l4, .int 0], [], h)) r211_55 rfl rfl (rfl)))
theorem b211_57 (d : Nat) (l0 : Nat) (l1 : Int32) (l2 : Int32) (l3 : Int32) (l4 : Int32) (l5 : Int32) (h : aH) (K : Option Value → aH → Prop) : E scr false d 211 57 [.ref l0, .int l1, .int l2, .int l3, .int l4, .int l5] [] h K = gR scr h l0 9 1 (fun x1 : Nat => aI scr h x1 3 (fun x2 : Int32 => (if x2 ≤ l5 then E scr false d 211 102 [.ref l0, .int l1, .int l2, .int l3, .int l4, .int 0] [] h K else (if l2 = 0 then E scr false d 211 91 [.ref l0, .int l1, .int l2, .int l3, .int l4, .int l5] [] h K else gR scr h l0 9 10 (fun x3 : Nat => aI scr h x3 ((12 + l5)) (fun x4 : Int32 => (if x4 = l4 then E scr false d 211 91 [.ref l0, .int l1, .int l2, .int l3, .int l4, .int l5] [] h K else E scr false d 211 92 [.ref l0, .int l1, .int l2, .int l3, .int l4, .int l5] [.int 1] h K))))))) := go (w := (59, [.ref l0, .int l1, .int l2, .int l3, .int l4, .int l5], [.int l5], h)) r211_57 rfl rfl (go (w := (60, [.ref l0, .int l1, .int l2, .int l3, .int l4, .int l5], [.ref l0, .int l5], h)) r211_59 rfl rfl (E_gR r211_60 rfl (fun x1 => E_ic r211_63 (v := 3) (by decide) (E_aI r211_64 (fun x2 => E_i2_ge r211_65 rfl (E_ic r211_99 (v := 0) (by decide) (go (w := (102, [.ref l0, .int l1, .int l2, .int l3, .int l4, .int 0], [], h)) r211_100 rfl rfl (rfl))) (go (w := (69, [.ref l0, .int l1, .int l2, .int l3, .int l4, .int l5], [.int l2], h)) r211_68 rfl rfl (E_i1_eq r211_69 rfl (rfl) (go (w := (73, [.ref l0, .int l1, .int l2, .int l3, .int l4, .int l5], [.ref l0], h)) r211_72 rfl rfl (E_gR r211_73 rfl (fun x3 => E_bip r211_76 (v := 12) (by decide) (go (w := (80, [.ref l0, .int l1, .int l2, .int l3, .int l4, .int l5], [.int l5, .int 12, .ref x3], h)) r211_78 rfl rfl (go (w := (81, [.ref l0, .int l1, .int l2, .int l3, .int l4, .int l5], [.int (12 + l5), .ref x3], h)) r211_80 rfl rfl (E_aI r211_81 (fun x4 => go (w := (84, [.ref l0, .int l1, .int l2, .int l3, .int l4, .int l5], [.int l4, .int x4], h)) r211_82 rfl rfl (E_i2_eq r211_84 rfl (rfl) (E_ic r211_87 (v := 1) (by decide) (E_gt r211_88 rfl (rfl))))))))))))))))))
theorem b211_91 (d : Nat) (l0 : Nat) (l1 : Int32) (l2 : Int32) (l3 : Int32) (l4 : Int32) (l5 : Int32) (h : aH) (K : Option Value → aH → Prop) : E scr false d 211 91 [.ref l0, .int l1, .int l2, .int l3, .int l4, .int l5] [] h K = E scr false d 211 92 [.ref l0, .int l1, .int l2, .int l3, .int l4, .int l5] [.int 0] h K := E_ic r211_91 (v := 0) (by decide) (rfl)
theorem b211_92 (d : Nat) (l0 : Nat) (l1 : Int32) (l2 : Int32) (l3 : Int32) (l4 : Int32) (l5 : Int32) (s0 : Int32) (h : aH) (K : Option Value → aH → Prop) : E scr false d 211 92 [.ref l0, .int l1, .int l2, .int l3, .int l4, .int l5] [.int s0] h K = E scr false d 211 57 [.ref l0, .int l1, .int s0, .int l3, .int l4, .int (l5 + 1)] [] h K := go (w := (93, [.ref l0, .int l1, .int s0, .int l3, .int l4, .int l5], [], h)) r211_92 rfl rfl (E_inc r211_93 (c := 1) rfl (by decide) (L' := [.ref l0, .int l1, .int s0, .int l3, .int l4, .int (l5 + 1)]) rfl (E_gt r211_96 rfl (rfl)))
set_option maxRecDepth 20000 in
theorem b211_102 (d : Nat) (l0 : Nat) (l1 : Int32) (l2 : Int32) (l3 : Int32) (l4 : Int32) (l5 : Int32) (h : aH) (K : Option Value → aH → Prop) : E scr false d 211 102 [.ref l0, .int l1, .int l2, .int l3, .int l4, .int l5] [] h K = (if l3 ≤ l5 then E scr false d 211 4 [.ref l0, .int l1, .int l2, .int (l3 + 1), .int l4, .int l5] [] h K else (if l2 = 0 then E scr false d 211 133 [.ref l0, .int l1, .int l2, .int l3, .int l4, .int l5] [] h K else gR scr h l0 9 10 (fun x1 : Nat => gR scr h l0 9 50 (fun x2 : Nat => aI scr h x2 l5 (fun x3 : Int32 => aI scr h x1 x3 (fun x4 : Int32 => (if x4 = l4 then E scr false d 211 133 [.ref l0, .int l1, .int l2, .int l3, .int l4, .int l5] [] h K else E scr false d 211 134 [.ref l0, .int l1, .int l2, .int l3, .int l4, .int l5] [.int 1] h K))))))) := go (w := (104, [.ref l0, .int l1, .int l2, .int l3, .int l4, .int l5], [.int l5], h)) r211_102 rfl rfl (go (w := (105, [.ref l0, .int l1, .int l2, .int l3, .int l4, .int l5], [.int l3, .int l5], h)) r211_104 rfl rfl (E_i2_ge r211_105 rfl (E_inc r211_141 (c := 1) rfl (by decide) (L' := [.ref l0, .int l1, .int l2, .int (l3 + 1), .int l4, .int l5]) rfl (E_gt r211_144 rfl (rfl))) (go (w := (109, [.ref l0, .int l1, .int l2, .int l3, .int l4, .int l5], [.int l2], h)) r211_108 rfl rfl (E_i1_eq r211_109 rfl (rfl) (go (w := (113, [.ref l0, .int l1, .int l2, .int l3, .int l4, .int l5], [.ref l0], h)) r211_112 rfl rfl (E_gR r211_113 rfl (fun x1 => go (w := (117, [.ref l0, .int l1, .int l2, .int l3, .int l4, .int l5], [.ref l0, .ref x1], h)) r211_116 rfl rfl (E_gR r211_117 rfl (fun x2 => go (w := (122, [.ref l0, .int l1, .int l2, .int l3, .int l4, .int l5], [.int l5, .ref x2, .ref x1], h)) r211_120 rfl rfl (E_aI r211_122 (fun x3 => E_aI r211_123 (fun x4 => go (w := (126, [.ref l0, .int l1, .int l2, .int l3, .int l4, .int l5], [.int l4, .int x4], h)) r211_124 rfl rfl (E_i2_eq r211_126 rfl (rfl) (E_ic r211_129 (v := 1) (by decide) (E_gt r211_130 rfl (rfl))))))))))))))))
theorem b211_133 (d : Nat) (l0 : Nat) (l1 : Int32) (l2 : Int32) (l3 : Int32) (l4 : Int32) (l5 : Int32) (h : aH) (K : Option Value → aH → Prop) : E scr false d 211 133 [.ref l0, .int l1, .int l2, .int l3, .int l4, .int l5] [] h K = E scr false d 211 134 [.ref l0, .int l1, .int l2, .int l3, .int l4, .int l5] [.int 0] h K := E_ic r211_133 (v := 0) (by decide) (rfl)
theorem b211_134 (d : Nat) (l0 : Nat) (l1 : Int32) (l2 : Int32) (l3 : Int32) (l4 : Int32) (l5 : Int32) (s0 : Int32) (h : aH) (K : Option Value → aH → Prop) : E scr false d 211 134 [.ref l0, .int l1, .int l2, .int l3, .int l4, .int l5] [.int s0] h K = E scr false d 211 102 [.ref l0, .int l1, .int s0, .int l3, .int l4, .int (l5 + 1)] [] h K := go (w := (135, [.ref l0, .int l1, .int s0, .int l3, .int l4, .int l5], [], h)) r211_134 rfl rfl (E_inc r211_135 (c := 1) rfl (by decide) (L' := [.ref l0, .int l1, .int s0, .int l3, .int l4, .int (l5 + 1)]) rfl (E_gt r211_138 rfl (rfl)))
