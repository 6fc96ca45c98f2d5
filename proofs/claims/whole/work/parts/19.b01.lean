variable {scr : List Int32}
-- 28 SecondNearest$Planner.findRound(LSecondNearest$Law;I)I
theorem mq28 : mRet 28 = (some .int) := by decide +kernel
theorem r28_0 : rowAt 28 0 = some (.aload_n 0, 1, 0, 0) := by decide +kernel
theorem r28_1 : rowAt 28 1 = some (.getfield 12, 3, 4, 3) := by decide +kernel
theorem r28_4 : rowAt 28 4 = some (.aload_n 0, 1, 0, 0) := by decide +kernel
theorem r28_5 : rowAt 28 5 = some (.getfield 32, 3, 4, 0) := by decide +kernel
theorem r28_8 : rowAt 28 8 = some (.invokevirtual 43, 3, 51, 0) := by decide +kernel
theorem r28_11 : rowAt 28 11 = some (.aload_n 0, 1, 0, 0) := by decide +kernel
theorem r28_12 : rowAt 28 12 = some (.iconst 0, 1, 0, 0) := by decide +kernel
theorem r28_13 : rowAt 28 13 = some (.invokevirtual 73, 3, 29, 0) := by decide +kernel
theorem r28_16 : rowAt 28 16 = some (.iconst 1, 1, 0, 0) := by decide +kernel
theorem r28_17 : rowAt 28 17 = some (.istore_n 3, 1, 0, 0) := by decide +kernel
theorem r28_18 : rowAt 28 18 = some (.iload_n 3, 1, 0, 0) := by decide +kernel
theorem r28_19 : rowAt 28 19 = some (.sipush 400, 3, 0, 0) := by decide +kernel
theorem r28_22 : rowAt 28 22 = some (.if_icmp .gt 53, 3, 0, 0) := by decide +kernel
theorem r28_25 : rowAt 28 25 = some (.aload_n 0, 1, 0, 0) := by decide +kernel
theorem r28_26 : rowAt 28 26 = some (.getfield 35, 3, 4, 1) := by decide +kernel
theorem r28_29 : rowAt 28 29 = some (.aload_n 0, 1, 0, 0) := by decide +kernel
theorem r28_30 : rowAt 28 30 = some (.getfield 12, 3, 4, 3) := by decide +kernel
theorem r28_33 : rowAt 28 33 = some (.aload_n 1, 1, 0, 0) := by decide +kernel
theorem r28_34 : rowAt 28 34 = some (.invokevirtual 77, 3, 79, 0) := by decide +kernel
theorem r28_37 : rowAt 28 37 = some (.pop, 1, 0, 0) := by decide +kernel
theorem r28_38 : rowAt 28 38 = some (.aload_n 0, 1, 0, 0) := by decide +kernel
theorem r28_39 : rowAt 28 39 = some (.iload_n 3, 1, 0, 0) := by decide +kernel
theorem r28_40 : rowAt 28 40 = some (.invokevirtual 73, 3, 29, 0) := by decide +kernel
theorem r28_43 : rowAt 28 43 = some (.aload_n 0, 1, 0, 0) := by decide +kernel
theorem r28_44 : rowAt 28 44 = some (.iload_n 3, 1, 0, 0) := by decide +kernel
theorem r28_45 : rowAt 28 45 = some (.invokevirtual 81, 3, 30, 0) := by decide +kernel
theorem r28_48 : rowAt 28 48 = some (.istore 4, 2, 0, 0) := by decide +kernel
theorem r28_50 : rowAt 28 50 = some (.iload 4, 2, 0, 0) := by decide +kernel
theorem r28_52 : rowAt 28 52 = some (.ifCond .lt 17, 3, 0, 0) := by decide +kernel
theorem r28_55 : rowAt 28 55 = some (.iload_n 2, 1, 0, 0) := by decide +kernel
theorem r28_56 : rowAt 28 56 = some (.ifCond .ne 8, 3, 0, 0) := by decide +kernel
theorem r28_59 : rowAt 28 59 = some (.iload 4, 2, 0, 0) := by decide +kernel
theorem r28_61 : rowAt 28 61 = some (.goto 7, 3, 0, 0) := by decide +kernel
theorem r28_64 : rowAt 28 64 = some (.iload_n 3, 1, 0, 0) := by decide +kernel
theorem r28_65 : rowAt 28 65 = some (.iload 4, 2, 0, 0) := by decide +kernel
theorem r28_67 : rowAt 28 67 = some (.isub, 1, 0, 0) := by decide +kernel
theorem r28_68 : rowAt 28 68 = some (.ireturn, 1, 0, 0) := by decide +kernel
theorem r28_69 : rowAt 28 69 = some (.iinc 3 1, 3, 0, 0) := by decide +kernel
theorem r28_72 : rowAt 28 72 = some (.goto (-54), 3, 0, 0) := by decide +kernel
theorem r28_75 : rowAt 28 75 = some (.bipush (-2), 2, 0, 0) := by decide +kernel
theorem r28_77 : rowAt 28 77 = some (.ireturn, 1, 0, 0) := by decide +kernel
theorem en28 (a0 : Nat) (a1 : Nat) (a2 : Int32) : iniL 28 [.ref a0, .ref a1, .int a2] = [.ref a0, .ref a1, .int a2, .null, .null] := ini_n mi28 rfl
theorem b28_0 (d : Nat) (l0 : Nat) (l1 : Nat) (l2 : Int32) (h : aH) (K : Option Value → aH → Prop) : E scr false (d + 1) 28 0 [.ref l0, .ref l1, .int l2, .null, .null] [] h K = gR scr h l0 4 3 (fun x1 : Nat => gR scr h l0 4 0 (fun x2 : Nat => vV scr d 51 [.ref x1, .ref x2] h (fun h3 : aH => vV scr d 29 [.ref l0, .int 0] h3 (fun h5 : aH => E scr false (d + 1) 28 18 [.ref l0, .ref l1, .int l2, .int 1, .null] [] h5 K)))) := go (w := (1, [.ref l0, .ref l1, .int l2, .null, .null], [.ref l0], h)) r28_0 rfl rfl (E_gR r28_1 rfl (fun x1 => go (w := (5, [.ref l0, .ref l1, .int l2, .null, .null], [.ref l0, .ref x1], h)) r28_4 rfl rfl (E_gR r28_5 rfl (fun x2 => E_vV r28_8 (As := [.ref x1, .ref x2]) (rest := []) (cut_n mi51.1 rfl rfl) (rm8_n mi51.2.1 (Nat.le_of_ble_eq_true rfl) (Nat.le_of_ble_eq_true rfl)) mi51.2.2 (fun h3 => go (w := (12, [.ref l0, .ref l1, .int l2, .null, .null], [.ref l0], h3)) r28_11 rfl rfl (E_ic r28_12 (v := 0) (by decide) (E_vV r28_13 (As := [.ref l0, .int 0]) (rest := []) (cut_n mi29.1 rfl rfl) (rm8_n mi29.2.1 (Nat.le_of_ble_eq_true rfl) (Nat.le_of_ble_eq_true rfl)) mi29.2.2 (fun h5 => E_ic r28_16 (v := 1) (by decide) (go (w := (18, [.ref l0, .ref l1, .int l2, .int 1, .null], [], h5)) r28_17 rfl rfl (rfl))))))))))
theorem b28_18 (d : Nat) (l0 : Nat) (l1 : Nat) (l2 : Int32) (l3 : Int32) (l4 : Value) (h : aH) (K : Option Value → aH → Prop) : E scr false (d + 1) 28 18 [.ref l0, .ref l1, .int l2, .int l3, l4] [] h K = (if 400 < l3 then K (some (.int (-2))) h else gR scr h l0 4 1 (fun x1 : Nat => gR scr h l0 4 3 (fun x2 : Nat => vI scr d 79 [.ref x1, .ref x2, .ref l1] h (fun (x4 : Int32) (h3 : aH) => vV scr d 29 [.ref l0, .int l3] h3 (fun h5 : aH => vI scr d 30 [.ref l0, .int l3] h5 (fun (x8 : Int32) (h7 : aH) => (if x8 < 0 then E scr false (d + 1) 28 18 [.ref l0, .ref l1, .int l2, .int (l3 + 1), .int x8] [] h7 K else (if l2 = 0 then K (some (.int x8)) h7 else K (some (.int (l3 - x8))) h7)))))))) := go (w := (19, [.ref l0, .ref l1, .int l2, .int l3, l4], [.int l3], h)) r28_18 rfl rfl (E_sip r28_19 (v := 400) (by decide) (E_i2_gt r28_22 rfl (E_bip r28_75 (v := (-2)) (by decide) (E_ri r28_77 (mq28))) (go (w := (26, [.ref l0, .ref l1, .int l2, .int l3, l4], [.ref l0], h)) r28_25 rfl rfl (E_gR r28_26 rfl (fun x1 => go (w := (30, [.ref l0, .ref l1, .int l2, .int l3, l4], [.ref l0, .ref x1], h)) r28_29 rfl rfl (E_gR r28_30 rfl (fun x2 => go (w := (34, [.ref l0, .ref l1, .int l2, .int l3, l4], [.ref l1, .ref x2, .ref x1], h)) r28_33 rfl rfl (E_vI r28_34 (As := [.ref x1, .ref x2, .ref l1]) (rest := []) (cut_n mi79.1 rfl rfl) (rm8_n mi79.2.1 (Nat.le_of_ble_eq_true rfl) (Nat.le_of_ble_eq_true rfl)) mi79.2.2 (fun x4 h3 => go (w := (38, [.ref l0, .ref l1, .int l2, .int l3, l4], [], h3)) r28_37 rfl rfl (go (w := (39, [.ref l0, .ref l1, .int l2, .int l3, l4], [.ref l0], h3)) r28_38 rfl rfl (go (w := (40, [.ref l0, .ref l1, .int l2, .int l3, l4], [.int l3, .ref l0], h3)) r28_39 rfl rfl (E_vV r28_40 (As := [.ref l0, .int l3]) (rest := []) (cut_n mi29.1 rfl rfl) (rm8_n mi29.2.1 (Nat.le_of_ble_eq_true rfl) (Nat.le_of_ble_eq_true rfl)) mi29.2.2 (fun h5 => go (w := (44, [.ref l0, .ref l1, .int l2, .int l3, l4], [.ref l0], h5)) r28_43 rfl rfl (go (w := (45, [.ref l0, .ref l1, .int l2, .int l3, l4], [.int l3, .ref l0], h5)) r28_44 rfl rfl (E_vI r28_45 (As := [.ref l0, .int l3]) (rest := []) (cut_n mi30.1 rfl rfl) (rm8_n mi30.2.1 (Nat.le_of_ble_eq_true rfl) (Nat.le_of_ble_eq_true rfl)) mi30.2.2 (fun x8 h7 => go (w := (50, [.ref l0, .ref l1, .int l2, .int l3, .int x8], [], h7)) r28_48 rfl rfl (go (w := (52, [.ref l0, .ref l1, .int l2, .int l3, .int x8], [.int x8], h7)) r28_50 rfl rfl (E_i1_lt r28_52 rfl (E_inc r28_69 (c := 1) rfl (by decide) (L' := [.ref l0, .ref l1, .int l2, .int (l3 + 1), .int x8]) rfl (E_gt r28_72 rfl (rfl))) (go (w := (56, [.ref l0, .ref l1, .int l2, .int l3, .int x8], [.int l2], h7)) r28_55 rfl rfl (E_i1_ne r28_56 rfl (go (w := (65, [.ref l0, .ref l1, .int l2, .int l3, .int x8], [.int l3], h7)) r28_64 rfl rfl (go (w := (67, [.ref l0, .ref l1, .int l2, .int l3, .int x8], [.int x8, .int l3], h7)) r28_65 rfl rfl (go (w := (68, [.ref l0, .ref l1, .int l2, .int l3, .int x8], [.int (l3 - x8)], h7)) r28_67 rfl rfl (E_ri r28_68 (mq28))))) (go (w := (61, [.ref l0, .ref l1, .int l2, .int l3, .int x8], [.int x8], h7)) r28_59 rfl rfl (E_gt r28_61 rfl (E_ri r28_68 (mq28))))))))))))))))))))))))
-- 29 SecondNearest$Planner.keepSituation(I)V
theorem mq29 : mRet 29 = none := by decide +kernel
theorem r29_0 : rowAt 29 0 = some (.lconst 0, 1, 0, 0) := by decide +kernel
theorem r29_1 : rowAt 29 1 = some (.lstore_n 2, 1, 0, 0) := by decide +kernel
theorem r29_2 : rowAt 29 2 = some (.lconst 0, 1, 0, 0) := by decide +kernel
theorem r29_3 : rowAt 29 3 = some (.lstore 4, 2, 0, 0) := by decide +kernel
theorem r29_5 : rowAt 29 5 = some (.iconst 0, 1, 0, 0) := by decide +kernel
theorem r29_6 : rowAt 29 6 = some (.istore 6, 2, 0, 0) := by decide +kernel
theorem r29_8 : rowAt 29 8 = some (.iload 6, 2, 0, 0) := by decide +kernel
theorem r29_10 : rowAt 29 10 = some (.bipush 12, 2, 0, 0) := by decide +kernel
theorem r29_12 : rowAt 29 12 = some (.if_icmp .ge 52, 3, 0, 0) := by decide +kernel
theorem r29_15 : rowAt 29 15 = some (.aload_n 0, 1, 0, 0) := by decide +kernel
theorem r29_16 : rowAt 29 16 = some (.getfield 12, 3, 4, 3) := by decide +kernel
theorem r29_19 : rowAt 29 19 = some (.getfield 64, 3, 5, 10) := by decide +kernel
theorem r29_22 : rowAt 29 22 = some (.iload 6, 2, 0, 0) := by decide +kernel
theorem r29_24 : rowAt 29 24 = some (.iaload, 1, 0, 0) := by decide +kernel
theorem r29_25 : rowAt 29 25 = some (.iconst 1, 1, 0, 0) := by decide +kernel
theorem r29_26 : rowAt 29 26 = some (.iadd, 1, 0, 0) := by decide +kernel
theorem r29_27 : rowAt 29 27 = some (.i2l, 1, 0, 0) := by decide +kernel
theorem r29_28 : rowAt 29 28 = some (.lstore 7, 2, 0, 0) := by decide +kernel
theorem r29_30 : rowAt 29 30 = some (.iload 6, 2, 0, 0) := by decide +kernel
theorem r29_32 : rowAt 29 32 = some (.bipush 8, 2, 0, 0) := by decide +kernel
theorem r29_34 : rowAt 29 34 = some (.if_icmp .ge 14, 3, 0, 0) := by decide +kernel
theorem r29_37 : rowAt 29 37 = some (.lload_n 2, 1, 0, 0) := by decide +kernel
theorem r29_38 : rowAt 29 38 = some (.bipush 8, 2, 0, 0) := by decide +kernel
theorem r29_40 : rowAt 29 40 = some (.lshl, 1, 0, 0) := by decide +kernel
theorem r29_41 : rowAt 29 41 = some (.lload 7, 2, 0, 0) := by decide +kernel
theorem r29_43 : rowAt 29 43 = some (.lor, 1, 0, 0) := by decide +kernel
theorem r29_44 : rowAt 29 44 = some (.lstore_n 2, 1, 0, 0) := by decide +kernel
theorem r29_45 : rowAt 29 45 = some (.goto 13, 3, 0, 0) := by decide +kernel
theorem r29_48 : rowAt 29 48 = some (.lload 4, 2, 0, 0) := by decide +kernel
theorem r29_50 : rowAt 29 50 = some (.bipush 8, 2, 0, 0) := by decide +kernel
theorem r29_52 : rowAt 29 52 = some (.lshl, 1, 0, 0) := by decide +kernel
theorem r29_53 : rowAt 29 53 = some (.lload 7, 2, 0, 0) := by decide +kernel
theorem r29_55 : rowAt 29 55 = some (.lor, 1, 0, 0) := by decide +kernel
theorem r29_56 : rowAt 29 56 = some (.lstore 4, 2, 0, 0) := by decide +kernel
theorem r29_58 : rowAt 29 58 = some (.iinc 6 1, 3, 0, 0) := by decide +kernel
theorem r29_61 : rowAt 29 61 = some (.goto (-53), 3, 0, 0) := by decide +kernel
theorem r29_64 : rowAt 29 64 = some (.iload_n 1, 1, 0, 0) := by decide +kernel
theorem r29_65 : rowAt 29 65 = some (.ifCond .lt 25, 3, 0, 0) := by decide +kernel
theorem r29_68 : rowAt 29 68 = some (.iload_n 1, 1, 0, 0) := by decide +kernel
theorem r29_69 : rowAt 29 69 = some (.sipush 400, 3, 0, 0) := by decide +kernel
theorem r29_72 : rowAt 29 72 = some (.if_icmp .gt 18, 3, 0, 0) := by decide +kernel
theorem r29_75 : rowAt 29 75 = some (.aload_n 0, 1, 0, 0) := by decide +kernel
theorem r29_76 : rowAt 29 76 = some (.getfield 21, 3, 4, 5) := by decide +kernel
theorem r29_79 : rowAt 29 79 = some (.iload_n 1, 1, 0, 0) := by decide +kernel
theorem r29_80 : rowAt 29 80 = some (.lload_n 2, 1, 0, 0) := by decide +kernel
theorem r29_81 : rowAt 29 81 = some (.lastore, 1, 0, 0) := by decide +kernel
theorem r29_82 : rowAt 29 82 = some (.aload_n 0, 1, 0, 0) := by decide +kernel
theorem r29_83 : rowAt 29 83 = some (.getfield 25, 3, 4, 6) := by decide +kernel
theorem r29_86 : rowAt 29 86 = some (.iload_n 1, 1, 0, 0) := by decide +kernel
theorem r29_87 : rowAt 29 87 = some (.lload 4, 2, 0, 0) := by decide +kernel
theorem r29_89 : rowAt 29 89 = some (.lastore, 1, 0, 0) := by decide +kernel
theorem r29_90 : rowAt 29 90 = some (.return_, 1, 0, 0) := by decide +kernel
theorem en29 (a0 : Nat) (a1 : Int32) : iniL 29 [.ref a0, .int a1] = [.ref a0, .int a1, .null, .null, .null, .null, .null, .null, .null] := ini_n mi29 rfl
theorem b29_0 (d : Nat) (l0 : Nat) (l1 : Int32) (h : aH) (K : Option Value → aH → Prop) : E scr false d 29 0 [.ref l0, .int l1, .null, .null, .null, .null, .null, .null, .null] [] h K = E scr false d 29 8 [.ref l0, .int l1, .long 0, .null, .long 0, .null, .int 0, .null, .null] [] h K := E_lc r29_0 (v := 0) (by decide) (go (w := (2, [.ref l0, .int l1, .long 0, .null, .null, .null, .null, .null, .null], [], h)) r29_1 rfl rfl (E_lc r29_2 (v := 0) (by decide) (go (w := (5, [.ref l0, .int l1, .long 0, .null, .long 0, .null, .null, .null, .null], [], h)) r29_3 rfl rfl (E_ic r29_5 (v := 0) (by decide) (go (w := (8, [.ref l0, .int l1, .long 0, .null, .long 0, .null, .int 0, .null, .null], [], h)) r29_6 rfl rfl (rfl))))))
theorem b29_8 (d : Nat) (l0 : Nat) (l1 : Int32) (l2 : Int64) (l4 : Int64) (l6 : Int32) (l7 : Value) (h : aH) (K : Option Value → aH → Prop) : E scr false d 29 8 [.ref l0, .int l1, .long l2, .null, .long l4, .null, .int l6, l7, .null] [] h K = (if 12 ≤ l6 then (if l1 < 0 then K none h else (if 400 < l1 then K none h else gR scr h l0 4 5 (fun x1 : Nat => wJ h x1 l1 l2 (fun h2 : aH => gR scr h2 l0 4 6 (fun x3 : Nat => wJ h2 x3 l1 l4 (fun h4 : aH => K none h4)))))) else gR scr h l0 4 3 (fun x5 : Nat => gR scr h x5 5 10 (fun x6 : Nat => aI scr h x6 l6 (fun x7 : Int32 => (if 8 ≤ l6 then E scr false d 29 58 [.ref l0, .int l1, .long l2, .null, .long (((l4 : Int64) <<< ((Int32.toInt64 8 &&& 63) : Int64) : Int64) ||| (Int32.toInt64 (x7 + 1))), .null, .int l6, .long (Int32.toInt64 (x7 + 1)), .null] [] h K else E scr false d 29 58 [.ref l0, .int l1, .long (((l2 : Int64) <<< ((Int32.toInt64 8 &&& 63) : Int64) : Int64) ||| (Int32.toInt64 (x7 + 1))), .null, .long l4, .null, .int l6, .long (Int32.toInt64 (x7 + 1)), .null] [] h K))))) := go (w := (10, [.ref l0, .int l1, .long l2, .null, .long l4, .null, .int l6, l7, .null], [.int l6], h)) r29_8 rfl rfl (E_bip r29_10 (v := 12) (by decide) (E_i2_ge r29_12 rfl (go (w := (65, [.ref l0, .int l1, .long l2, .null, .long l4, .null, .int l6, l7, .null], [.int l1], h)) r29_64 rfl rfl (E_i1_lt r29_65 rfl (E_vret r29_90 (mq29)) (go (w := (69, [.ref l0, .int l1, .long l2, .null, .long l4, .null, .int l6, l7, .null], [.int l1], h)) r29_68 rfl rfl (E_sip r29_69 (v := 400) (by decide) (E_i2_gt r29_72 rfl (E_vret r29_90 (mq29)) (go (w := (76, [.ref l0, .int l1, .long l2, .null, .long l4, .null, .int l6, l7, .null], [.ref l0], h)) r29_75 rfl rfl (E_gR r29_76 rfl (fun x1 => go (w := (80, [.ref l0, .int l1, .long l2, .null, .long l4, .null, .int l6, l7, .null], [.int l1, .ref x1], h)) r29_79 rfl rfl (go (w := (81, [.ref l0, .int l1, .long l2, .null, .long l4, .null, .int l6, l7, .null], [.long l2, .int l1, .ref x1], h)) r29_80 rfl rfl (E_wJ r29_81 (fun h2 => go (w := (83, [.ref l0, .int l1, .long l2, .null, .long l4, .null, .int l6, l7, .null], [.ref l0], h2)) r29_82 rfl rfl (E_gR r29_83 rfl (fun x3 => go (w := (87, [.ref l0, .int l1, .long l2, .null, .long l4, .null, .int l6, l7, .null], [.int l1, .ref x3], h2)) r29_86 rfl rfl (go (w := (89, [.ref l0, .int l1, .long l2, .null, .long l4, .null, .int l6, l7, .null], [.long l4, .int l1, .ref x3], h2)) r29_87 rfl rfl (E_wJ r29_89 (fun h4 => E_vret r29_90 (mq29))))))))))))))))) (go (w := (16, [.ref l0, .int l1, .long l2, .null, .long l4, .null, .int l6, l7, .null], [.ref l0], h)) r29_15 rfl rfl (E_gR r29_16 rfl (fun x5 => E_gR r29_19 rfl (fun x6 => go (w := (24, [.ref l0, .int l1, .long l2, .null, .long l4, .null, .int l6, l7, .null], [.int l6, .ref x6], h)) r29_22 rfl rfl (E_aI r29_24 (fun x7 => E_ic r29_25 (v := 1) (by decide) (go (w := (27, [.ref l0, .int l1, .long l2, .null, .long l4, .null, .int l6, l7, .null], [.int (x7 + 1)], h)) r29_26 rfl rfl (go (w := (28, [.ref l0, .int l1, .long l2, .null, .long l4, .null, .int l6, l7, .null], [.long (Int32.toInt64 (x7 + 1))], h)) r29_27 rfl rfl (go (w := (30, [.ref l0, .int l1, .long l2, .null, .long l4, .null, .int l6, .long (Int32.toInt64 (x7 + 1)), .null], [], h)) r29_28 rfl rfl (go (w := (32, [.ref l0, .int l1, .long l2, .null, .long l4, .null, .int l6, .long (Int32.toInt64 (x7 + 1)), .null], [.int l6], h)) r29_30 rfl rfl (E_bip r29_32 (v := 8) (by decide) (E_i2_ge r29_34 rfl (go (w := (50, [.ref l0, .int l1, .long l2, .null, .long l4, .null, .int l6, .long (Int32.toInt64 (x7 + 1)), .null], [.long l4], h)) r29_48 rfl rfl (E_bip r29_50 (v := 8) (by decide) (go (w := (53, [.ref l0, .int l1, .long l2, .null, .long l4, .null, .int l6, .long (Int32.toInt64 (x7 + 1)), .null], [.long ((l4 : Int64) <<< ((Int32.toInt64 8 &&& 63) : Int64) : Int64)], h)) r29_52 rfl rfl (go (w := (55, [.ref l0, .int l1, .long l2, .null, .long l4, .null, .int l6, .long (Int32.toInt64 (x7 + 1)), .null], [.long (Int32.toInt64 (x7 + 1)), .long ((l4 : Int64) <<< ((Int32.toInt64 8 &&& 63) : Int64) : Int64)], h)) r29_53 rfl rfl (go (w := (56, [.ref l0, .int l1, .long l2, .null, .long l4, .null, .int l6, .long (Int32.toInt64 (x7 + 1)), .null], [.long (((l4 : Int64) <<< ((Int32.toInt64 8 &&& 63) : Int64) : Int64) ||| (Int32.toInt64 (x7 + 1)))], h)) r29_55 rfl rfl (go (w := (58, [.ref l0, .int l1, .long l2, .null, .long (((l4 : Int64) <<< ((Int32.toInt64 8 &&& 63) : Int64) : Int64) ||| (Int32.toInt64 (x7 + 1))), .null, .int l6, .long (Int32.toInt64 (x7 + 1)), .null], [], h)) r29_56 rfl rfl (rfl))))))) (go (w := (38, [.ref l0, .int l1, .long l2, .null, .long l4, .null, .int l6, .long (Int32.toInt64 (x7 + 1)), .null], [.long l2], h)) r29_37 rfl rfl (E_bip r29_38 (v := 8) (by decide) (go (w := (41, [.ref l0, .int l1, .long l2, .null, .long l4, .null, .int l6, .long (Int32.toInt64 (x7 + 1)), .null], [.long ((l2 : Int64) <<< ((Int32.toInt64 8 &&& 63) : Int64) : Int64)], h)) r29_40 rfl rfl (go (w := (43, [.ref l0, .int l1, .long l2, .null, .long l4, .null, .int l6, .long (Int32.toInt64 (x7 + 1)), .null], [.long (Int32.toInt64 (x7 + 1)), .long ((l2 : Int64) <<< ((Int32.toInt64 8 &&& 63) : Int64) : Int64)], h)) r29_41 rfl rfl (go (w := (44, [.ref l0, .int l1, .long l2, .null, .long l4, .null, .int l6, .long (Int32.toInt64 (x7 + 1)), .null], [.long (((l2 : Int64) <<< ((Int32.toInt64 8 &&& 63) : Int64) : Int64) ||| (Int32.toInt64 (x7 + 1)))], h)) r29_43 rfl rfl (go (w := (45, [.ref l0, .int l1, .long (((l2 : Int64) <<< ((Int32.toInt64 8 &&& 63) : Int64) : Int64) ||| (Int32.toInt64 (x7 + 1))), .null, .long l4, .null, .int l6, .long (Int32.toInt64 (x7 + 1)), .null], [], h)) r29_44 rfl rfl (E_gt r29_45 rfl (rfl))))))))))))))))))))))
theorem b29_58 (d : Nat) (l0 : Nat) (l1 : Int32) (l2 : Int64) (l4 : Int64) (l6 : Int32) (l7 : Int64) (h : aH) (K : Option Value → aH → Prop) : E scr false d 29 58 [.ref l0, .int l1, .long l2, .null, .long l4, .null, .int l6, .long l7, .null] [] h K = E scr false d 29 8 [.ref l0, .int l1, .long l2, .null, .long l4, .null, .int (l6 + 1), .long l7, .null] [] h K := E_inc r29_58 (c := 1) rfl (by decide) (L' := [.ref l0, .int l1, .long l2, .null, .long l4, .null, .int (l6 + 1), .long l7, .null]) rfl (E_gt r29_61 rfl (rfl))
-- 30 SecondNearest$Planner.findBefore(I)I
theorem mq30 : mRet 30 = (some .int) := by decide +kernel
theorem r30_0 : rowAt 30 0 = some (.iload_n 1, 1, 0, 0) := by decide +kernel
theorem r30_1 : rowAt 30 1 = some (.sipush 400, 3, 0, 0) := by decide +kernel
theorem r30_4 : rowAt 30 4 = some (.invokestatic 85, 3, 226, 1) := by decide +kernel
theorem r30_7 : rowAt 30 7 = some (.iconst 1, 1, 0, 0) := by decide +kernel
theorem r30_8 : rowAt 30 8 = some (.isub, 1, 0, 0) := by decide +kernel
theorem r30_9 : rowAt 30 9 = some (.istore_n 2, 1, 0, 0) := by decide +kernel
theorem r30_10 : rowAt 30 10 = some (.iload_n 2, 1, 0, 0) := by decide +kernel
theorem r30_11 : rowAt 30 11 = some (.ifCond .lt 43, 3, 0, 0) := by decide +kernel
theorem r30_14 : rowAt 30 14 = some (.aload_n 0, 1, 0, 0) := by decide +kernel
theorem r30_15 : rowAt 30 15 = some (.getfield 21, 3, 4, 5) := by decide +kernel
theorem r30_18 : rowAt 30 18 = some (.iload_n 2, 1, 0, 0) := by decide +kernel
theorem r30_19 : rowAt 30 19 = some (.laload, 1, 0, 0) := by decide +kernel
theorem r30_20 : rowAt 30 20 = some (.aload_n 0, 1, 0, 0) := by decide +kernel
theorem r30_21 : rowAt 30 21 = some (.getfield 21, 3, 4, 5) := by decide +kernel
theorem r30_24 : rowAt 30 24 = some (.iload_n 1, 1, 0, 0) := by decide +kernel
theorem r30_25 : rowAt 30 25 = some (.laload, 1, 0, 0) := by decide +kernel
theorem r30_26 : rowAt 30 26 = some (.lcmp, 1, 0, 0) := by decide +kernel
theorem r30_27 : rowAt 30 27 = some (.ifCond .ne 21, 3, 0, 0) := by decide +kernel
theorem r30_30 : rowAt 30 30 = some (.aload_n 0, 1, 0, 0) := by decide +kernel
theorem r30_31 : rowAt 30 31 = some (.getfield 25, 3, 4, 6) := by decide +kernel
theorem r30_34 : rowAt 30 34 = some (.iload_n 2, 1, 0, 0) := by decide +kernel
theorem r30_35 : rowAt 30 35 = some (.laload, 1, 0, 0) := by decide +kernel
theorem r30_36 : rowAt 30 36 = some (.aload_n 0, 1, 0, 0) := by decide +kernel
theorem r30_37 : rowAt 30 37 = some (.getfield 25, 3, 4, 6) := by decide +kernel
theorem r30_40 : rowAt 30 40 = some (.iload_n 1, 1, 0, 0) := by decide +kernel
theorem r30_41 : rowAt 30 41 = some (.laload, 1, 0, 0) := by decide +kernel
theorem r30_42 : rowAt 30 42 = some (.lcmp, 1, 0, 0) := by decide +kernel
theorem r30_43 : rowAt 30 43 = some (.ifCond .ne 5, 3, 0, 0) := by decide +kernel
theorem r30_46 : rowAt 30 46 = some (.iload_n 2, 1, 0, 0) := by decide +kernel
theorem r30_47 : rowAt 30 47 = some (.ireturn, 1, 0, 0) := by decide +kernel
theorem r30_48 : rowAt 30 48 = some (.iinc 2 (-1), 3, 0, 0) := by decide +kernel
theorem r30_51 : rowAt 30 51 = some (.goto (-41), 3, 0, 0) := by decide +kernel
theorem r30_54 : rowAt 30 54 = some (.iconst (-1), 1, 0, 0) := by decide +kernel
theorem r30_55 : rowAt 30 55 = some (.ireturn, 1, 0, 0) := by decide +kernel
theorem en30 (a0 : Nat) (a1 : Int32) : iniL 30 [.ref a0, .int a1] = [.ref a0, .int a1, .null] := ini_n mi30 rfl
theorem b30_0 (d : Nat) (l0 : Nat) (l1 : Int32) (h : aH) (K : Option Value → aH → Prop) : E scr false (d + 1) 30 0 [.ref l0, .int l1, .null] [] h K = sI scr d 226 [.int l1, .int 400] h (fun (x2 : Int32) (h1 : aH) => E scr false (d + 1) 30 10 [.ref l0, .int l1, .int (x2 - 1)] [] h1 K) := go (w := (1, [.ref l0, .int l1, .null], [.int l1], h)) r30_0 rfl rfl (E_sip r30_1 (v := 400) (by decide) (E_sI r30_4 (As := [.int l1, .int 400]) (rest := []) (cut_n mi226.1 rfl rfl) (rm8_n mi226.2.1 (Nat.le_of_ble_eq_true rfl) (Nat.le_of_ble_eq_true rfl)) mi226.2.2 (fun x2 h1 => E_ic r30_7 (v := 1) (by decide) (go (w := (9, [.ref l0, .int l1, .null], [.int (x2 - 1)], h1)) r30_8 rfl rfl (go (w := (10, [.ref l0, .int l1, .int (x2 - 1)], [], h1)) r30_9 rfl rfl (rfl))))))
theorem b30_10 (d : Nat) (l0 : Nat) (l1 : Int32) (l2 : Int32) (h : aH) (K : Option Value → aH → Prop) : E scr false d 30 10 [.ref l0, .int l1, .int l2] [] h K = (if l2 < 0 then K (some (.int (-1))) h else gR scr h l0 4 5 (fun x1 : Nat => aJ h x1 l2 (fun x2 : Int64 => gR scr h l0 4 5 (fun x3 : Nat => aJ h x3 l1 (fun x4 : Int64 => (if (lg_cmp x2 x4) = 0 then gR scr h l0 4 6 (fun x5 : Nat => aJ h x5 l2 (fun x6 : Int64 => gR scr h l0 4 6 (fun x7 : Nat => aJ h x7 l1 (fun x8 : Int64 => (if (lg_cmp x6 x8) = 0 then K (some (.int l2)) h else E scr false d 30 48 [.ref l0, .int l1, .int l2] [] h K))))) else E scr false d 30 48 [.ref l0, .int l1, .int l2] [] h K)))))) := go (w := (11, [.ref l0, .int l1, .int l2], [.int l2], h)) r30_10 rfl rfl (E_i1_lt r30_11 rfl (E_ic r30_54 (v := (-1)) (by decide) (E_ri r30_55 (mq30))) (go (w := (15, [.ref l0, .int l1, .int l2], [.ref l0], h)) r30_14 rfl rfl (E_gR r30_15 rfl (fun x1 => go (w := (19, [.ref l0, .int l1, .int l2], [.int l2, .ref x1], h)) r30_18 rfl rfl (E_aJ r30_19 (fun x2 => go (w := (21, [.ref l0, .int l1, .int l2], [.ref l0, .long x2], h)) r30_20 rfl rfl (E_gR r30_21 rfl (fun x3 => go (w := (25, [.ref l0, .int l1, .int l2], [.int l1, .ref x3, .long x2], h)) r30_24 rfl rfl (E_aJ r30_25 (fun x4 => go (w := (27, [.ref l0, .int l1, .int l2], [.int (lg_cmp x2 x4)], h)) r30_26 rfl rfl (E_i1_ne r30_27 rfl (rfl) (go (w := (31, [.ref l0, .int l1, .int l2], [.ref l0], h)) r30_30 rfl rfl (E_gR r30_31 rfl (fun x5 => go (w := (35, [.ref l0, .int l1, .int l2], [.int l2, .ref x5], h)) r30_34 rfl rfl (E_aJ r30_35 (fun x6 => go (w := (37, [.ref l0, .int l1, .int l2], [.ref l0, .long x6], h)) r30_36 rfl rfl (E_gR r30_37 rfl (fun x7 => go (w := (41, [.ref l0, .int l1, .int l2], [.int l1, .ref x7, .long x6], h)) r30_40 rfl rfl (E_aJ r30_41 (fun x8 => go (w := (43, [.ref l0, .int l1, .int l2], [.int (lg_cmp x6 x8)], h)) r30_42 rfl rfl (E_i1_ne r30_43 rfl (rfl) (go (w := (47, [.ref l0, .int l1, .int l2], [.int l2], h)) r30_46 rfl rfl (E_ri r30_47 (mq30))))))))))))))))))))))))
theorem b30_48 (d : Nat) (l0 : Nat) (l1 : Int32) (l2 : Int32) (h : aH) (K : Option Value → aH → Prop) : E scr false d 30 48 [.ref l0, .int l1, .int l2] [] h K = E scr false d 30 10 [.ref l0, .int l1, .int (l2 + (-1))] [] h K := E_inc r30_48 (c := (-1)) rfl (by decide) (L' := [.ref l0, .int l1, .int (l2 + (-1))]) rfl (E_gt r30_51 rfl (rfl))
-- 31 SecondNearest$Planner.longestFile()I
theorem mq31 : mRet 31 = (some .int) := by decide +kernel
theorem r31_0 : rowAt 31 0 = some (.iconst 0, 1, 0, 0) := by decide +kernel
theorem r31_1 : rowAt 31 1 = some (.istore_n 1, 1, 0, 0) := by decide +kernel
theorem r31_2 : rowAt 31 2 = some (.iconst 0, 1, 0, 0) := by decide +kernel
theorem r31_3 : rowAt 31 3 = some (.istore_n 2, 1, 0, 0) := by decide +kernel
theorem r31_4 : rowAt 31 4 = some (.iload_n 2, 1, 0, 0) := by decide +kernel
theorem r31_5 : rowAt 31 5 = some (.aload_n 0, 1, 0, 0) := by decide +kernel
theorem r31_6 : rowAt 31 6 = some (.getfield 32, 3, 4, 0) := by decide +kernel
theorem r31_9 : rowAt 31 9 = some (.getfield 91, 3, 5, 3) := by decide +kernel
theorem r31_12 : rowAt 31 12 = some (.if_icmp .ge 101, 3, 0, 0) := by decide +kernel
theorem r31_15 : rowAt 31 15 = some (.iload_n 2, 1, 0, 0) := by decide +kernel
theorem r31_16 : rowAt 31 16 = some (.bipush 12, 2, 0, 0) := by decide +kernel
theorem r31_18 : rowAt 31 18 = some (.if_icmp .ge 95, 3, 0, 0) := by decide +kernel
theorem r31_21 : rowAt 31 21 = some (.iconst 0, 1, 0, 0) := by decide +kernel
theorem r31_22 : rowAt 31 22 = some (.istore_n 3, 1, 0, 0) := by decide +kernel
theorem r31_23 : rowAt 31 23 = some (.aload_n 0, 1, 0, 0) := by decide +kernel
theorem r31_24 : rowAt 31 24 = some (.getfield 32, 3, 4, 0) := by decide +kernel
theorem r31_27 : rowAt 31 27 = some (.getfield 64, 3, 5, 10) := by decide +kernel
theorem r31_30 : rowAt 31 30 = some (.iload_n 2, 1, 0, 0) := by decide +kernel
theorem r31_31 : rowAt 31 31 = some (.iaload, 1, 0, 0) := by decide +kernel
theorem r31_32 : rowAt 31 32 = some (.ifCond .ge 7, 3, 0, 0) := by decide +kernel
theorem r31_35 : rowAt 31 35 = some (.iconst (-1), 1, 0, 0) := by decide +kernel
theorem r31_36 : rowAt 31 36 = some (.goto 4, 3, 0, 0) := by decide +kernel
theorem r31_39 : rowAt 31 39 = some (.iload_n 2, 1, 0, 0) := by decide +kernel
theorem r31_40 : rowAt 31 40 = some (.istore 4, 2, 0, 0) := by decide +kernel
theorem r31_42 : rowAt 31 42 = some (.iconst 0, 1, 0, 0) := by decide +kernel
theorem r31_43 : rowAt 31 43 = some (.istore 5, 2, 0, 0) := by decide +kernel
theorem r31_45 : rowAt 31 45 = some (.iload 5, 2, 0, 0) := by decide +kernel
theorem r31_47 : rowAt 31 47 = some (.bipush 12, 2, 0, 0) := by decide +kernel
theorem r31_49 : rowAt 31 49 = some (.if_icmp .ge 49, 3, 0, 0) := by decide +kernel
theorem r31_52 : rowAt 31 52 = some (.aload_n 0, 1, 0, 0) := by decide +kernel
theorem r31_53 : rowAt 31 53 = some (.getfield 32, 3, 4, 0) := by decide +kernel
theorem r31_56 : rowAt 31 56 = some (.iload 4, 2, 0, 0) := by decide +kernel
theorem r31_58 : rowAt 31 58 = some (.invokevirtual 60, 3, 53, 0) := by decide +kernel
theorem r31_61 : rowAt 31 61 = some (.ifCond .eq 37, 3, 0, 0) := by decide +kernel
theorem r31_64 : rowAt 31 64 = some (.iload_n 3, 1, 0, 0) := by decide +kernel
theorem r31_65 : rowAt 31 65 = some (.iload 4, 2, 0, 0) := by decide +kernel
theorem r31_67 : rowAt 31 67 = some (.ishr, 1, 0, 0) := by decide +kernel
theorem r31_68 : rowAt 31 68 = some (.iconst 1, 1, 0, 0) := by decide +kernel
theorem r31_69 : rowAt 31 69 = some (.iand, 1, 0, 0) := by decide +kernel
theorem r31_70 : rowAt 31 70 = some (.ifCond .ne 28, 3, 0, 0) := by decide +kernel
theorem r31_73 : rowAt 31 73 = some (.iload_n 3, 1, 0, 0) := by decide +kernel
theorem r31_74 : rowAt 31 74 = some (.iconst 1, 1, 0, 0) := by decide +kernel
theorem r31_75 : rowAt 31 75 = some (.iload 4, 2, 0, 0) := by decide +kernel
theorem r31_77 : rowAt 31 77 = some (.ishl, 1, 0, 0) := by decide +kernel
theorem r31_78 : rowAt 31 78 = some (.ior, 1, 0, 0) := by decide +kernel
theorem r31_79 : rowAt 31 79 = some (.istore_n 3, 1, 0, 0) := by decide +kernel
theorem r31_80 : rowAt 31 80 = some (.aload_n 0, 1, 0, 0) := by decide +kernel
theorem r31_81 : rowAt 31 81 = some (.getfield 35, 3, 4, 1) := by decide +kernel
theorem r31_84 : rowAt 31 84 = some (.getfield 94, 3, 7, 6) := by decide +kernel
theorem r31_87 : rowAt 31 87 = some (.iload 4, 2, 0, 0) := by decide +kernel
theorem r31_89 : rowAt 31 89 = some (.iaload, 1, 0, 0) := by decide +kernel
theorem r31_90 : rowAt 31 90 = some (.istore 4, 2, 0, 0) := by decide +kernel
theorem r31_92 : rowAt 31 92 = some (.iinc 5 1, 3, 0, 0) := by decide +kernel
theorem r31_95 : rowAt 31 95 = some (.goto (-50), 3, 0, 0) := by decide +kernel
theorem r31_98 : rowAt 31 98 = some (.iload_n 1, 1, 0, 0) := by decide +kernel
theorem r31_99 : rowAt 31 99 = some (.iload_n 3, 1, 0, 0) := by decide +kernel
theorem r31_100 : rowAt 31 100 = some (.invokestatic 97, 3, 222, 1) := by decide +kernel
theorem r31_103 : rowAt 31 103 = some (.invokestatic 102, 3, 225, 1) := by decide +kernel
theorem r31_106 : rowAt 31 106 = some (.istore_n 1, 1, 0, 0) := by decide +kernel
theorem r31_107 : rowAt 31 107 = some (.iinc 2 1, 3, 0, 0) := by decide +kernel
theorem r31_110 : rowAt 31 110 = some (.goto (-106), 3, 0, 0) := by decide +kernel
theorem r31_113 : rowAt 31 113 = some (.iload_n 1, 1, 0, 0) := by decide +kernel
theorem r31_114 : rowAt 31 114 = some (.ireturn, 1, 0, 0) := by decide +kernel
theorem en31 (a0 : Nat) : iniL 31 [.ref a0] = [.ref a0, .null, .null, .null, .null, .null] := ini_n mi31 rfl
theorem b31_0 (d : Nat) (l0 : Nat) (h : aH) (K : Option Value → aH → Prop) : E scr false d 31 0 [.ref l0, .null, .null, .null, .null, .null] [] h K = E scr false d 31 4 [.ref l0, .int 0, .int 0, .null, .null, .null] [] h K := E_ic r31_0 (v := 0) (by decide) (go (w := (2, [.ref l0, .int 0, .null, .null, .null, .null], [], h)) r31_1 rfl rfl (E_ic r31_2 (v := 0) (by decide) (go (w := (4, [.ref l0, .int 0, .int 0, .null, .null, .null], [], h)) r31_3 rfl rfl (rfl))))
theorem b31_4 (d : Nat) (l0 : Nat) (l1 : Int32) (l2 : Int32) (l3 : Value) (l4 : Value) (l5 : Value) (h : aH) (K : Option Value → aH → Prop) : E scr false d 31 4 [.ref l0, .int l1, .int l2, l3, l4, l5] [] h K = gR scr h l0 4 0 (fun x1 : Nat => gI scr h x1 5 3 (fun x2 : Int32 => (if x2 ≤ l2 then K (some (.int l1)) h else (if 12 ≤ l2 then K (some (.int l1)) h else gR scr h l0 4 0 (fun x3 : Nat => gR scr h x3 5 10 (fun x4 : Nat => aI scr h x4 l2 (fun x5 : Int32 => (if 0 ≤ x5 then E scr false d 31 40 [.ref l0, .int l1, .int l2, .int 0, l4, l5] [.int l2] h K else E scr false d 31 40 [.ref l0, .int l1, .int l2, .int 0, l4, l5] [.int (-1)] h K)))))))) := go (w := (5, [.ref l0, .int l1, .int l2, l3, l4, l5], [.int l2], h)) r31_4 rfl rfl (go (w := (6, [.ref l0, .int l1, .int l2, l3, l4, l5], [.ref l0, .int l2], h)) r31_5 rfl rfl (E_gR r31_6 rfl (fun x1 => E_gI r31_9 rfl (fun x2 => E_i2_ge r31_12 rfl (go (w := (114, [.ref l0, .int l1, .int l2, l3, l4, l5], [.int l1], h)) r31_113 rfl rfl (E_ri r31_114 (mq31))) (go (w := (16, [.ref l0, .int l1, .int l2, l3, l4, l5], [.int l2], h)) r31_15 rfl rfl (E_bip r31_16 (v := 12) (by decide) (E_i2_ge r31_18 rfl (go (w := (114, [.ref l0, .int l1, .int l2, l3, l4, l5], [.int l1], h)) r31_113 rfl rfl (E_ri r31_114 (mq31))) (E_ic r31_21 (v := 0) (by decide) (go (w := (23, [.ref l0, .int l1, .int l2, .int 0, l4, l5], [], h)) r31_22 rfl rfl (go (w := (24, [.ref l0, .int l1, .int l2, .int 0, l4, l5], [.ref l0], h)) r31_23 rfl rfl (E_gR r31_24 rfl (fun x3 => E_gR r31_27 rfl (fun x4 => go (w := (31, [.ref l0, .int l1, .int l2, .int 0, l4, l5], [.int l2, .ref x4], h)) r31_30 rfl rfl (E_aI r31_31 (fun x5 => E_i1_ge r31_32 rfl (go (w := (40, [.ref l0, .int l1, .int l2, .int 0, l4, l5], [.int l2], h)) r31_39 rfl rfl (rfl)) (E_ic r31_35 (v := (-1)) (by decide) (E_gt r31_36 rfl (rfl))))))))))))))))))
theorem b31_40 (d : Nat) (l0 : Nat) (l1 : Int32) (l2 : Int32) (l3 : Int32) (l4 : Value) (l5 : Value) (s0 : Int32) (h : aH) (K : Option Value → aH → Prop) : E scr false d 31 40 [.ref l0, .int l1, .int l2, .int l3, l4, l5] [.int s0] h K = E scr false d 31 45 [.ref l0, .int l1, .int l2, .int l3, .int s0, .int 0] [] h K := go (w := (42, [.ref l0, .int l1, .int l2, .int l3, .int s0, l5], [], h)) r31_40 rfl rfl (E_ic r31_42 (v := 0) (by decide) (go (w := (45, [.ref l0, .int l1, .int l2, .int l3, .int s0, .int 0], [], h)) r31_43 rfl rfl (rfl)))
theorem b31_45 (d : Nat) (l0 : Nat) (l1 : Int32) (l2 : Int32) (l3 : Int32) (l4 : Int32) (l5 : Int32) (h : aH) (K : Option Value → aH → Prop) : E scr false (d + 1) 31 45 [.ref l0, .int l1, .int l2, .int l3, .int l4, .int l5] [] h K = (if 12 ≤ l5 then E scr false (d + 1) 31 98 [.ref l0, .int l1, .int l2, .int l3, .int l4, .int l5] [] h K else gR scr h l0 4 0 (fun x1 : Nat => vI scr d 53 [.ref x1, .int l4] h (fun (x3 : Int32) (h2 : aH) => (if x3 = 0 then E scr false (d + 1) 31 98 [.ref l0, .int l1, .int l2, .int l3, .int l4, .int l5] [] h2 K else (if (((l3 : Int32) >>> ((l4 : Int32) &&& 31) : Int32) &&& 1) = 0 then gR scr h2 l0 4 1 (fun x4 : Nat => gR scr h2 x4 7 6 (fun x5 : Nat => aI scr h2 x5 l4 (fun x6 : Int32 => E scr false (d + 1) 31 45 [.ref l0, .int l1, .int l2, .int (l3 ||| ((1 : Int32) <<< ((l4 : Int32) &&& 31) : Int32)), .int x6, .int (l5 + 1)] [] h2 K))) else E scr false (d + 1) 31 98 [.ref l0, .int l1, .int l2, .int l3, .int l4, .int l5] [] h2 K))))) := go (w := (47, [.ref l0, .int l1, .int l2, .int l3, .int l4, .int l5], [.int l5], h)) r31_45 rfl rfl (E_bip r31_47 (v := 12) (by decide) (E_i2_ge r31_49 rfl (rfl) (go (w := (53, [.ref l0, .int l1, .int l2, .int l3, .int l4, .int l5], [.ref l0], h)) r31_52 rfl rfl (E_gR r31_53 rfl (fun x1 => go (w := (58, [.ref l0, .int l1, .int l2, .int l3, .int l4, .int l5], [.int l4, .ref x1], h)) r31_56 rfl rfl (E_vI r31_58 (As := [.ref x1, .int l4]) (rest := []) (cut_n mi53.1 rfl rfl) (rm8_n mi53.2.1 (Nat.le_of_ble_eq_true rfl) (Nat.le_of_ble_eq_true rfl)) mi53.2.2 (fun x3 h2 => E_i1_eq r31_61 rfl (rfl) (go (w := (65, [.ref l0, .int l1, .int l2, .int l3, .int l4, .int l5], [.int l3], h2)) r31_64 rfl rfl (go (w := (67, [.ref l0, .int l1, .int l2, .int l3, .int l4, .int l5], [.int l4, .int l3], h2)) r31_65 rfl rfl (go (w := (68, [.ref l0, .int l1, .int l2, .int l3, .int l4, .int l5], [.int ((l3 : Int32) >>> ((l4 : Int32) &&& 31) : Int32)], h2)) r31_67 rfl rfl (E_ic r31_68 (v := 1) (by decide) (go (w := (70, [.ref l0, .int l1, .int l2, .int l3, .int l4, .int l5], [.int (((l3 : Int32) >>> ((l4 : Int32) &&& 31) : Int32) &&& 1)], h2)) r31_69 rfl rfl (E_i1_ne r31_70 rfl (rfl) (go (w := (74, [.ref l0, .int l1, .int l2, .int l3, .int l4, .int l5], [.int l3], h2)) r31_73 rfl rfl (E_ic r31_74 (v := 1) (by decide) (go (w := (77, [.ref l0, .int l1, .int l2, .int l3, .int l4, .int l5], [.int l4, .int 1, .int l3], h2)) r31_75 rfl rfl (go (w := (78, [.ref l0, .int l1, .int l2, .int l3, .int l4, .int l5], [.int ((1 : Int32) <<< ((l4 : Int32) &&& 31) : Int32), .int l3], h2)) r31_77 rfl rfl (go (w := (79, [.ref l0, .int l1, .int l2, .int l3, .int l4, .int l5], [.int (l3 ||| ((1 : Int32) <<< ((l4 : Int32) &&& 31) : Int32))], h2)) r31_78 rfl rfl (go (w := (80, [.ref l0, .int l1, .int l2, .int (l3 ||| ((1 : Int32) <<< ((l4 : Int32) &&& 31) : Int32)), .int l4, .int l5], [], h2)) r31_79 rfl rfl (go (w := (81, [.ref l0, .int l1, .int l2, .int (l3 ||| ((1 : Int32) <<< ((l4 : Int32) &&& 31) : Int32)), .int l4, .int l5], [.ref l0], h2)) r31_80 rfl rfl (E_gR r31_81 rfl (fun x4 => E_gR r31_84 rfl (fun x5 => go (w := (89, [.ref l0, .int l1, .int l2, .int (l3 ||| ((1 : Int32) <<< ((l4 : Int32) &&& 31) : Int32)), .int l4, .int l5], [.int l4, .ref x5], h2)) r31_87 rfl rfl (E_aI r31_89 (fun x6 => go (w := (92, [.ref l0, .int l1, .int l2, .int (l3 ||| ((1 : Int32) <<< ((l4 : Int32) &&& 31) : Int32)), .int x6, .int l5], [], h2)) r31_90 rfl rfl (E_inc r31_92 (c := 1) rfl (by decide) (L' := [.ref l0, .int l1, .int l2, .int (l3 ||| ((1 : Int32) <<< ((l4 : Int32) &&& 31) : Int32)), .int x6, .int (l5 + 1)]) rfl (E_gt r31_95 rfl (rfl))))))))))))))))))))))))))))
theorem b31_98 (d : Nat) (l0 : Nat) (l1 : Int32) (l2 : Int32) (l3 : Int32) (l4 : Int32) (l5 : Int32) (h : aH) (K : Option Value → aH → Prop) : E scr false (d + 1) 31 98 [.ref l0, .int l1, .int l2, .int l3, .int l4, .int l5] [] h K = sI scr d 222 [.int l3] h (fun (x2 : Int32) (h1 : aH) => sI scr d 225 [.int l1, .int x2] h1 (fun (x4 : Int32) (h3 : aH) => E scr false (d + 1) 31 4 [.ref l0, .int x4, .int (l2 + 1), .int l3, .int l4, .int l5] [] h3 K)) := go (w := (99, [.ref l0, .int l1, .int l2, .int l3, .int l4, .int l5], [.int l1], h)) r31_98 rfl rfl (go (w := (100, [.ref l0, .int l1, .int l2, .int l3, .int l4, .int l5], [.int l3, .int l1], h)) r31_99 rfl rfl (E_sI r31_100 (As := [.int l3]) (rest := [.int l1]) (cut_n mi222.1 rfl rfl) (rm8_n mi222.2.1 (Nat.le_of_ble_eq_true rfl) (Nat.le_of_ble_eq_true rfl)) mi222.2.2 (fun x2 h1 => E_sI r31_103 (As := [.int l1, .int x2]) (rest := []) (cut_n mi225.1 rfl rfl) (rm8_n mi225.2.1 (Nat.le_of_ble_eq_true rfl) (Nat.le_of_ble_eq_true rfl)) mi225.2.2 (fun x4 h3 => go (w := (107, [.ref l0, .int x4, .int l2, .int l3, .int l4, .int l5], [], h3)) r31_106 rfl rfl (E_inc r31_107 (c := 1) rfl (by decide) (L' := [.ref l0, .int x4, .int (l2 + 1), .int l3, .int l4, .int l5]) rfl (E_gt r31_110 rfl (rfl)))))))
-- 32 SecondNearest$Planner.findRings(Z)I
theorem mq32 : mRet 32 = (some .int) := by decide +kernel
theorem r32_0 : rowAt 32 0 = some (.iconst 0, 1, 0, 0) := by decide +kernel
theorem r32_1 : rowAt 32 1 = some (.istore_n 2, 1, 0, 0) := by decide +kernel
theorem r32_2 : rowAt 32 2 = some (.iconst 0, 1, 0, 0) := by decide +kernel
theorem r32_3 : rowAt 32 3 = some (.istore_n 3, 1, 0, 0) := by decide +kernel
theorem r32_4 : rowAt 32 4 = some (.iconst 0, 1, 0, 0) := by decide +kernel
theorem r32_5 : rowAt 32 5 = some (.istore 4, 2, 0, 0) := by decide +kernel
theorem r32_7 : rowAt 32 7 = some (.iload 4, 2, 0, 0) := by decide +kernel
theorem r32_9 : rowAt 32 9 = some (.aload_n 0, 1, 0, 0) := by decide +kernel
theorem r32_10 : rowAt 32 10 = some (.getfield 32, 3, 4, 0) := by decide +kernel
theorem r32_13 : rowAt 32 13 = some (.getfield 91, 3, 5, 3) := by decide +kernel
theorem r32_16 : rowAt 32 16 = some (.if_icmp .ge 49, 3, 0, 0) := by decide +kernel
theorem r32_19 : rowAt 32 19 = some (.iload 4, 2, 0, 0) := by decide +kernel
theorem r32_21 : rowAt 32 21 = some (.bipush 12, 2, 0, 0) := by decide +kernel
theorem r32_23 : rowAt 32 23 = some (.if_icmp .ge 42, 3, 0, 0) := by decide +kernel
theorem r32_26 : rowAt 32 26 = some (.aload_n 0, 1, 0, 0) := by decide +kernel
theorem r32_27 : rowAt 32 27 = some (.iload 4, 2, 0, 0) := by decide +kernel
theorem r32_29 : rowAt 32 29 = some (.invokevirtual 105, 3, 33, 0) := by decide +kernel
theorem r32_32 : rowAt 32 32 = some (.istore 5, 2, 0, 0) := by decide +kernel
theorem r32_34 : rowAt 32 34 = some (.iload_n 2, 1, 0, 0) := by decide +kernel
theorem r32_35 : rowAt 32 35 = some (.iload 5, 2, 0, 0) := by decide +kernel
theorem r32_37 : rowAt 32 37 = some (.ifCond .eq 14, 3, 0, 0) := by decide +kernel
theorem r32_40 : rowAt 32 40 = some (.iload_n 3, 1, 0, 0) := by decide +kernel
theorem r32_41 : rowAt 32 41 = some (.iload 5, 2, 0, 0) := by decide +kernel
theorem r32_43 : rowAt 32 43 = some (.iand, 1, 0, 0) := by decide +kernel
theorem r32_44 : rowAt 32 44 = some (.ifCond .ne 7, 3, 0, 0) := by decide +kernel
theorem r32_47 : rowAt 32 47 = some (.iconst 1, 1, 0, 0) := by decide +kernel
theorem r32_48 : rowAt 32 48 = some (.goto 4, 3, 0, 0) := by decide +kernel
theorem r32_51 : rowAt 32 51 = some (.iconst 0, 1, 0, 0) := by decide +kernel
theorem r32_52 : rowAt 32 52 = some (.iadd, 1, 0, 0) := by decide +kernel
theorem r32_53 : rowAt 32 53 = some (.istore_n 2, 1, 0, 0) := by decide +kernel
theorem r32_54 : rowAt 32 54 = some (.iload_n 3, 1, 0, 0) := by decide +kernel
theorem r32_55 : rowAt 32 55 = some (.iload 5, 2, 0, 0) := by decide +kernel
theorem r32_57 : rowAt 32 57 = some (.ior, 1, 0, 0) := by decide +kernel
theorem r32_58 : rowAt 32 58 = some (.istore_n 3, 1, 0, 0) := by decide +kernel
theorem r32_59 : rowAt 32 59 = some (.iinc 4 1, 3, 0, 0) := by decide +kernel
theorem r32_62 : rowAt 32 62 = some (.goto (-55), 3, 0, 0) := by decide +kernel
theorem r32_65 : rowAt 32 65 = some (.iload_n 1, 1, 0, 0) := by decide +kernel
theorem r32_66 : rowAt 32 66 = some (.ifCond .eq 7, 3, 0, 0) := by decide +kernel
theorem r32_69 : rowAt 32 69 = some (.iload_n 3, 1, 0, 0) := by decide +kernel
theorem r32_70 : rowAt 32 70 = some (.goto 4, 3, 0, 0) := by decide +kernel
theorem r32_73 : rowAt 32 73 = some (.iload_n 2, 1, 0, 0) := by decide +kernel
theorem r32_74 : rowAt 32 74 = some (.ireturn, 1, 0, 0) := by decide +kernel
theorem en32 (a0 : Nat) (a1 : Int32) : iniL 32 [.ref a0, .int a1] = [.ref a0, .int a1, .null, .null, .null, .null] := ini_n mi32 rfl
theorem b32_0 (d : Nat) (l0 : Nat) (l1 : Int32) (h : aH) (K : Option Value → aH → Prop) : E scr false d 32 0 [.ref l0, .int l1, .null, .null, .null, .null] [] h K = E scr false d 32 7 [.ref l0, .int l1, .int 0, .int 0, .int 0, .null] [] h K := E_ic r32_0 (v := 0) (by decide) (go (w := (2, [.ref l0, .int l1, .int 0, .null, .null, .null], [], h)) r32_1 rfl rfl (E_ic r32_2 (v := 0) (by decide) (go (w := (4, [.ref l0, .int l1, .int 0, .int 0, .null, .null], [], h)) r32_3 rfl rfl (E_ic r32_4 (v := 0) (by decide) (go (w := (7, [.ref l0, .int l1, .int 0, .int 0, .int 0, .null], [], h)) r32_5 rfl rfl (rfl))))))
theorem b32_7 (d : Nat) (l0 : Nat) (l1 : Int32) (l2 : Int32) (l3 : Int32) (l4 : Int32) (l5 : Value) (h : aH) (K : Option Value → aH → Prop) : E scr false (d + 1) 32 7 [.ref l0, .int l1, .int l2, .int l3, .int l4, l5] [] h K = gR scr h l0 4 0 (fun x1 : Nat => gI scr h x1 5 3 (fun x2 : Int32 => (if x2 ≤ l4 then E scr false (d + 1) 32 65 [.ref l0, .int l1, .int l2, .int l3, .int l4, l5] [] h K else (if 12 ≤ l4 then E scr false (d + 1) 32 65 [.ref l0, .int l1, .int l2, .int l3, .int l4, l5] [] h K else vI scr d 33 [.ref l0, .int l4] h (fun (x4 : Int32) (h3 : aH) => (if x4 = 0 then E scr false (d + 1) 32 51 [.ref l0, .int l1, .int l2, .int l3, .int l4, .int x4] [.int l2] h3 K else (if (l3 &&& x4) = 0 then E scr false (d + 1) 32 52 [.ref l0, .int l1, .int l2, .int l3, .int l4, .int x4] [.int 1, .int l2] h3 K else E scr false (d + 1) 32 51 [.ref l0, .int l1, .int l2, .int l3, .int l4, .int x4] [.int l2] h3 K))))))) := go (w := (9, [.ref l0, .int l1, .int l2, .int l3, .int l4, l5], [.int l4], h)) r32_7 rfl rfl (go (w := (10, [.ref l0, .int l1, .int l2, .int l3, .int l4, l5], [.ref l0, .int l4], h)) r32_9 rfl rfl (E_gR r32_10 rfl (fun x1 => E_gI r32_13 rfl (fun x2 => E_i2_ge r32_16 rfl (rfl) (go (w := (21, [.ref l0, .int l1, .int l2, .int l3, .int l4, l5], [.int l4], h)) r32_19 rfl rfl (E_bip r32_21 (v := 12) (by decide) (E_i2_ge r32_23 rfl (rfl) (go (w := (27, [.ref l0, .int l1, .int l2, .int l3, .int l4, l5], [.ref l0], h)) r32_26 rfl rfl (go (w := (29, [.ref l0, .int l1, .int l2, .int l3, .int l4, l5], [.int l4, .ref l0], h)) r32_27 rfl rfl (E_vI r32_29 (As := [.ref l0, .int l4]) (rest := []) (cut_n mi33.1 rfl rfl) (rm8_n mi33.2.1 (Nat.le_of_ble_eq_true rfl) (Nat.le_of_ble_eq_true rfl)) mi33.2.2 (fun x4 h3 => go (w := (34, [.ref l0, .int l1, .int l2, .int l3, .int l4, .int x4], [], h3)) r32_32 rfl rfl (go (w := (35, [.ref l0, .int l1, .int l2, .int l3, .int l4, .int x4], [.int l2], h3)) r32_34 rfl rfl (go (w := (37, [.ref l0, .int l1, .int l2, .int l3, .int l4, .int x4], [.int x4, .int l2], h3)) r32_35 rfl rfl (E_i1_eq r32_37 rfl (rfl) (go (w := (41, [.ref l0, .int l1, .int l2, .int l3, .int l4, .int x4], [.int l3, .int l2], h3)) r32_40 rfl rfl (go (w := (43, [.ref l0, .int l1, .int l2, .int l3, .int l4, .int x4], [.int x4, .int l3, .int l2], h3)) r32_41 rfl rfl (go (w := (44, [.ref l0, .int l1, .int l2, .int l3, .int l4, .int x4], [.int (l3 &&& x4), .int l2], h3)) r32_43 rfl rfl (E_i1_ne r32_44 rfl (rfl) (E_ic r32_47 (v := 1) (by decide) (E_gt r32_48 rfl (rfl)))))))))))))))))))))
theorem b32_51 (d : Nat) (l0 : Nat) (l1 : Int32) (l2 : Int32) (l3 : Int32) (l4 : Int32) (l5 : Int32) (s0 : Int32) (h : aH) (K : Option Value → aH → Prop) : E scr false d 32 51 [.ref l0, .int l1, .int l2, .int l3, .int l4, .int l5] [.int s0] h K = E scr false d 32 52 [.ref l0, .int l1, .int l2, .int l3, .int l4, .int l5] [.int 0, .int s0] h K := E_ic r32_51 (v := 0) (by decide) (rfl)
theorem b32_52 (d : Nat) (l0 : Nat) (l1 : Int32) (l2 : Int32) (l3 : Int32) (l4 : Int32) (l5 : Int32) (s0 : Int32) (s1 : Int32) (h : aH) (K : Option Value → aH → Prop) : E scr false d 32 52 [.ref l0, .int l1, .int l2, .int l3, .int l4, .int l5] [.int s0, .int s1] h K = E scr false d 32 7 [.ref l0, .int l1, .int (s1 + s0), .int (l3 ||| l5), .int (l4 + 1), .int l5] [] h K := go (w := (53, [.ref l0, .int l1, .int l2, .int l3, .int l4, .int l5], [.int (s1 + s0)], h)) r32_52 rfl rfl (go (w := (54, [.ref l0, .int l1, .int (s1 + s0), .int l3, .int l4, .int l5], [], h)) r32_53 rfl rfl (go (w := (55, [.ref l0, .int l1, .int (s1 + s0), .int l3, .int l4, .int l5], [.int l3], h)) r32_54 rfl rfl (go (w := (57, [.ref l0, .int l1, .int (s1 + s0), .int l3, .int l4, .int l5], [.int l5, .int l3], h)) r32_55 rfl rfl (go (w := (58, [.ref l0, .int l1, .int (s1 + s0), .int l3, .int l4, .int l5], [.int (l3 ||| l5)], h)) r32_57 rfl rfl (go (w := (59, [.ref l0, .int l1, .int (s1 + s0), .int (l3 ||| l5), .int l4, .int l5], [], h)) r32_58 rfl rfl (E_inc r32_59 (c := 1) rfl (by decide) (L' := [.ref l0, .int l1, .int (s1 + s0), .int (l3 ||| l5), .int (l4 + 1), .int l5]) rfl (E_gt r32_62 rfl (rfl))))))))
theorem b32_65 (d : Nat) (l0 : Nat) (l1 : Int32) (l2 : Int32) (l3 : Int32) (l4 : Int32) (l5 : Value) (h : aH) (K : Option Value → aH → Prop) : E scr false d 32 65 [.ref l0, .int l1, .int l2, .int l3, .int l4, l5] [] h K = (if l1 = 0 then K (some (.int l2)) h else K (some (.int l3)) h) := go (w := (66, [.ref l0, .int l1, .int l2, .int l3, .int l4, l5], [.int l1], h)) r32_65 rfl rfl (E_i1_eq r32_66 rfl (go (w := (74, [.ref l0, .int l1, .int l2, .int l3, .int l4, l5], [.int l2], h)) r32_73 rfl rfl (E_ri r32_74 (mq32))) (go (w := (70, [.ref l0, .int l1, .int l2, .int l3, .int l4, l5], [.int l3], h)) r32_69 rfl rfl (E_gt r32_70 rfl (E_ri r32_74 (mq32)))))
-- 33 SecondNearest$Planner.ringFrom(I)I
theorem mq33 : mRet 33 = (some .int) := by decide +kernel
theorem r33_0 : rowAt 33 0 = some (.iconst 0, 1, 0, 0) := by decide +kernel
theorem r33_1 : rowAt 33 1 = some (.istore_n 2, 1, 0, 0) := by decide +kernel
theorem r33_2 : rowAt 33 2 = some (.iload_n 1, 1, 0, 0) := by decide +kernel
theorem r33_3 : rowAt 33 3 = some (.istore_n 3, 1, 0, 0) := by decide +kernel
theorem r33_4 : rowAt 33 4 = some (.iconst 0, 1, 0, 0) := by decide +kernel
theorem r33_5 : rowAt 33 5 = some (.istore 4, 2, 0, 0) := by decide +kernel
theorem r33_7 : rowAt 33 7 = some (.iload 4, 2, 0, 0) := by decide +kernel
theorem r33_9 : rowAt 33 9 = some (.bipush 12, 2, 0, 0) := by decide +kernel
theorem r33_11 : rowAt 33 11 = some (.if_icmp .ge 43, 3, 0, 0) := by decide +kernel
theorem r33_14 : rowAt 33 14 = some (.aload_n 0, 1, 0, 0) := by decide +kernel
theorem r33_15 : rowAt 33 15 = some (.getfield 32, 3, 4, 0) := by decide +kernel
theorem r33_18 : rowAt 33 18 = some (.iload_n 3, 1, 0, 0) := by decide +kernel
theorem r33_19 : rowAt 33 19 = some (.invokevirtual 60, 3, 53, 0) := by decide +kernel
theorem r33_22 : rowAt 33 22 = some (.ifCond .eq 32, 3, 0, 0) := by decide +kernel
theorem r33_25 : rowAt 33 25 = some (.iload_n 2, 1, 0, 0) := by decide +kernel
theorem r33_26 : rowAt 33 26 = some (.iconst 1, 1, 0, 0) := by decide +kernel
theorem r33_27 : rowAt 33 27 = some (.iload_n 3, 1, 0, 0) := by decide +kernel
theorem r33_28 : rowAt 33 28 = some (.ishl, 1, 0, 0) := by decide +kernel
theorem r33_29 : rowAt 33 29 = some (.ior, 1, 0, 0) := by decide +kernel
theorem r33_30 : rowAt 33 30 = some (.istore_n 2, 1, 0, 0) := by decide +kernel
theorem r33_31 : rowAt 33 31 = some (.aload_n 0, 1, 0, 0) := by decide +kernel
theorem r33_32 : rowAt 33 32 = some (.getfield 35, 3, 4, 1) := by decide +kernel
theorem r33_35 : rowAt 33 35 = some (.getfield 94, 3, 7, 6) := by decide +kernel
theorem r33_38 : rowAt 33 38 = some (.iload_n 3, 1, 0, 0) := by decide +kernel
theorem r33_39 : rowAt 33 39 = some (.iaload, 1, 0, 0) := by decide +kernel
theorem r33_40 : rowAt 33 40 = some (.istore_n 3, 1, 0, 0) := by decide +kernel
theorem r33_41 : rowAt 33 41 = some (.iload_n 3, 1, 0, 0) := by decide +kernel
theorem r33_42 : rowAt 33 42 = some (.iload_n 1, 1, 0, 0) := by decide +kernel
theorem r33_43 : rowAt 33 43 = some (.if_icmp .ne 5, 3, 0, 0) := by decide +kernel
theorem r33_46 : rowAt 33 46 = some (.iload_n 2, 1, 0, 0) := by decide +kernel
theorem r33_47 : rowAt 33 47 = some (.ireturn, 1, 0, 0) := by decide +kernel
theorem r33_48 : rowAt 33 48 = some (.iinc 4 1, 3, 0, 0) := by decide +kernel
theorem r33_51 : rowAt 33 51 = some (.goto (-44), 3, 0, 0) := by decide +kernel
theorem r33_54 : rowAt 33 54 = some (.iconst 0, 1, 0, 0) := by decide +kernel
theorem r33_55 : rowAt 33 55 = some (.ireturn, 1, 0, 0) := by decide +kernel
theorem en33 (a0 : Nat) (a1 : Int32) : iniL 33 [.ref a0, .int a1] = [.ref a0, .int a1, .null, .null, .null] := ini_n mi33 rfl
theorem b33_0 (d : Nat) (l0 : Nat) (l1 : Int32) (h : aH) (K : Option Value → aH → Prop) : E scr false d 33 0 [.ref l0, .int l1, .null, .null, .null] [] h K = E scr false d 33 7 [.ref l0, .int l1, .int 0, .int l1, .int 0] [] h K := E_ic r33_0 (v := 0) (by decide) (go (w := (2, [.ref l0, .int l1, .int 0, .null, .null], [], h)) r33_1 rfl rfl (go (w := (3, [.ref l0, .int l1, .int 0, .null, .null], [.int l1], h)) r33_2 rfl rfl (go (w := (4, [.ref l0, .int l1, .int 0, .int l1, .null], [], h)) r33_3 rfl rfl (E_ic r33_4 (v := 0) (by decide) (go (w := (7, [.ref l0, .int l1, .int 0, .int l1, .int 0], [], h)) r33_5 rfl rfl (rfl))))))
theorem b33_7 (d : Nat) (l0 : Nat) (l1 : Int32) (l2 : Int32) (l3 : Int32) (l4 : Int32) (h : aH) (K : Option Value → aH → Prop) : E scr false (d + 1) 33 7 [.ref l0, .int l1, .int l2, .int l3, .int l4] [] h K = (if 12 ≤ l4 then K (some (.int 0)) h else gR scr h l0 4 0 (fun x1 : Nat => vI scr d 53 [.ref x1, .int l3] h (fun (x3 : Int32) (h2 : aH) => (if x3 = 0 then K (some (.int 0)) h2 else gR scr h2 l0 4 1 (fun x4 : Nat => gR scr h2 x4 7 6 (fun x5 : Nat => aI scr h2 x5 l3 (fun x6 : Int32 => (if x6 = l1 then K (some (.int (l2 ||| ((1 : Int32) <<< ((l3 : Int32) &&& 31) : Int32)))) h2 else E scr false (d + 1) 33 7 [.ref l0, .int l1, .int (l2 ||| ((1 : Int32) <<< ((l3 : Int32) &&& 31) : Int32)), .int x6, .int (l4 + 1)] [] h2 K)))))))) := go (w := (9, [.ref l0, .int l1, .int l2, .int l3, .int l4], [.int l4], h)) r33_7 rfl rfl (E_bip r33_9 (v := 12) (by decide) (E_i2_ge r33_11 rfl (E_ic r33_54 (v := 0) (by decide) (E_ri r33_55 (mq33))) (go (w := (15, [.ref l0, .int l1, .int l2, .int l3, .int l4], [.ref l0], h)) r33_14 rfl rfl (E_gR r33_15 rfl (fun x1 => go (w := (19, [.ref l0, .int l1, .int l2, .int l3, .int l4], [.int l3, .ref x1], h)) r33_18 rfl rfl (E_vI r33_19 (As := [.ref x1, .int l3]) (rest := []) (cut_n mi53.1 rfl rfl) (rm8_n mi53.2.1 (Nat.le_of_ble_eq_true rfl) (Nat.le_of_ble_eq_true rfl)) mi53.2.2 (fun x3 h2 => E_i1_eq r33_22 rfl (E_ic r33_54 (v := 0) (by decide) (E_ri r33_55 (mq33))) (go (w := (26, [.ref l0, .int l1, .int l2, .int l3, .int l4], [.int l2], h2)) r33_25 rfl rfl (E_ic r33_26 (v := 1) (by decide) (go (w := (28, [.ref l0, .int l1, .int l2, .int l3, .int l4], [.int l3, .int 1, .int l2], h2)) r33_27 rfl rfl (go (w := (29, [.ref l0, .int l1, .int l2, .int l3, .int l4], [.int ((1 : Int32) <<< ((l3 : Int32) &&& 31) : Int32), .int l2], h2)) r33_28 rfl rfl (go (w := (30, [.ref l0, .int l1, .int l2, .int l3, .int l4], [.int (l2 ||| ((1 : Int32) <<< ((l3 : Int32) &&& 31) : Int32))], h2)) r33_29 rfl rfl (go (w := (31, [.ref l0, .int l1, .int (l2 ||| ((1 : Int32) <<< ((l3 : Int32) &&& 31) : Int32)), .int l3, .int l4], [], h2)) r33_30 rfl rfl (go (w := (32, [.ref l0, .int l1, .int (l2 ||| ((1 : Int32) <<< ((l3 : Int32) &&& 31) : Int32)), .int l3, .int l4], [.ref l0], h2)) r33_31 rfl rfl (E_gR r33_32 rfl (fun x4 => E_gR r33_35 rfl (fun x5 => go (w := (39, [.ref l0, .int l1, .int (l2 ||| ((1 : Int32) <<< ((l3 : Int32) &&& 31) : Int32)), .int l3, .int l4], [.int l3, .ref x5], h2)) r33_38 rfl rfl (E_aI r33_39 (fun x6 => go (w := (41, [.ref l0, .int l1, .int (l2 ||| ((1 : Int32) <<< ((l3 : Int32) &&& 31) : Int32)), .int x6, .int l4], [], h2)) r33_40 rfl rfl (go (w := (42, [.ref l0, .int l1, .int (l2 ||| ((1 : Int32) <<< ((l3 : Int32) &&& 31) : Int32)), .int x6, .int l4], [.int x6], h2)) r33_41 rfl rfl (go (w := (43, [.ref l0, .int l1, .int (l2 ||| ((1 : Int32) <<< ((l3 : Int32) &&& 31) : Int32)), .int x6, .int l4], [.int l1, .int x6], h2)) r33_42 rfl rfl (E_i2_ne r33_43 rfl (E_inc r33_48 (c := 1) rfl (by decide) (L' := [.ref l0, .int l1, .int (l2 ||| ((1 : Int32) <<< ((l3 : Int32) &&& 31) : Int32)), .int x6, .int (l4 + 1)]) rfl (E_gt r33_51 rfl (rfl))) (go (w := (47, [.ref l0, .int l1, .int (l2 ||| ((1 : Int32) <<< ((l3 : Int32) &&& 31) : Int32)), .int x6, .int l4], [.int (l2 ||| ((1 : Int32) <<< ((l3 : Int32) &&& 31) : Int32))], h2)) r33_46 rfl rfl (E_ri r33_47 (mq33)))))))))))))))))))))))))
-- 34 SecondNearest$Planner.missedBy(LSecondNearest$Law;II)I
theorem mq34 : mRet 34 = (some .int) := by decide +kernel
theorem r34_0 : rowAt 34 0 = some (.aload_n 0, 1, 0, 0) := by decide +kernel
theorem r34_1 : rowAt 34 1 = some (.aload_n 1, 1, 0, 0) := by decide +kernel
theorem r34_2 : rowAt 34 2 = some (.iload_n 3, 1, 0, 0) := by decide +kernel
theorem r34_3 : rowAt 34 3 = some (.invokevirtual 108, 3, 36, 0) := by decide +kernel
theorem r34_6 : rowAt 34 6 = some (.aload_n 0, 1, 0, 0) := by decide +kernel
theorem r34_7 : rowAt 34 7 = some (.aload_n 1, 1, 0, 0) := by decide +kernel
theorem r34_8 : rowAt 34 8 = some (.iload_n 2, 1, 0, 0) := by decide +kernel
theorem r34_9 : rowAt 34 9 = some (.iload_n 3, 1, 0, 0) := by decide +kernel
theorem r34_10 : rowAt 34 10 = some (.invokevirtual 112, 3, 37, 0) := by decide +kernel
theorem r34_13 : rowAt 34 13 = some (.ireturn, 1, 0, 0) := by decide +kernel
theorem en34 (a0 : Nat) (a1 : Nat) (a2 : Int32) (a3 : Int32) : iniL 34 [.ref a0, .ref a1, .int a2, .int a3] = [.ref a0, .ref a1, .int a2, .int a3] := ini_n mi34 rfl
theorem b34_0 (d : Nat) (l0 : Nat) (l1 : Nat) (l2 : Int32) (l3 : Int32) (h : aH) (K : Option Value → aH → Prop) : E scr false (d + 1) 34 0 [.ref l0, .ref l1, .int l2, .int l3] [] h K = vV scr d 36 [.ref l0, .ref l1, .int l3] h (fun h1 : aH => vI scr d 37 [.ref l0, .ref l1, .int l2, .int l3] h1 (fun (x4 : Int32) (h3 : aH) => K (some (.int x4)) h3)) := go (w := (1, [.ref l0, .ref l1, .int l2, .int l3], [.ref l0], h)) r34_0 rfl rfl (go (w := (2, [.ref l0, .ref l1, .int l2, .int l3], [.ref l1, .ref l0], h)) r34_1 rfl rfl (go (w := (3, [.ref l0, .ref l1, .int l2, .int l3], [.int l3, .ref l1, .ref l0], h)) r34_2 rfl rfl (E_vV r34_3 (As := [.ref l0, .ref l1, .int l3]) (rest := []) (cut_n mi36.1 rfl rfl) (rm8_n mi36.2.1 (Nat.le_of_ble_eq_true rfl) (Nat.le_of_ble_eq_true rfl)) mi36.2.2 (fun h1 => go (w := (7, [.ref l0, .ref l1, .int l2, .int l3], [.ref l0], h1)) r34_6 rfl rfl (go (w := (8, [.ref l0, .ref l1, .int l2, .int l3], [.ref l1, .ref l0], h1)) r34_7 rfl rfl (go (w := (9, [.ref l0, .ref l1, .int l2, .int l3], [.int l2, .ref l1, .ref l0], h1)) r34_8 rfl rfl (go (w := (10, [.ref l0, .ref l1, .int l2, .int l3], [.int l3, .int l2, .ref l1, .ref l0], h1)) r34_9 rfl rfl (E_vI r34_10 (As := [.ref l0, .ref l1, .int l2, .int l3]) (rest := []) (cut_n mi37.1 rfl rfl) (rm8_n mi37.2.1 (Nat.le_of_ble_eq_true rfl) (Nat.le_of_ble_eq_true rfl)) mi37.2.2 (fun x4 h3 => E_ri r34_13 (mq34))))))))))
-- 35 SecondNearest$Planner.findLeader(LSecondNearest$Law;II)I
theorem mq35 : mRet 35 = (some .int) := by decide +kernel
theorem r35_0 : rowAt 35 0 = some (.aload_n 0, 1, 0, 0) := by decide +kernel
theorem r35_1 : rowAt 35 1 = some (.aload_n 1, 1, 0, 0) := by decide +kernel
theorem r35_2 : rowAt 35 2 = some (.iload_n 2, 1, 0, 0) := by decide +kernel
theorem r35_3 : rowAt 35 3 = some (.invokevirtual 108, 3, 36, 0) := by decide +kernel
theorem r35_6 : rowAt 35 6 = some (.bipush (-2), 2, 0, 0) := by decide +kernel
theorem r35_8 : rowAt 35 8 = some (.istore 4, 2, 0, 0) := by decide +kernel
theorem r35_10 : rowAt 35 10 = some (.iconst (-1), 1, 0, 0) := by decide +kernel
theorem r35_11 : rowAt 35 11 = some (.istore 5, 2, 0, 0) := by decide +kernel
theorem r35_13 : rowAt 35 13 = some (.iconst 0, 1, 0, 0) := by decide +kernel
theorem r35_14 : rowAt 35 14 = some (.istore 6, 2, 0, 0) := by decide +kernel
theorem r35_16 : rowAt 35 16 = some (.iload 6, 2, 0, 0) := by decide +kernel
theorem r35_18 : rowAt 35 18 = some (.bipush 14, 2, 0, 0) := by decide +kernel
theorem r35_20 : rowAt 35 20 = some (.if_icmp .ge 51, 3, 0, 0) := by decide +kernel
theorem r35_23 : rowAt 35 23 = some (.aload_n 0, 1, 0, 0) := by decide +kernel
theorem r35_24 : rowAt 35 24 = some (.getfield 32, 3, 4, 0) := by decide +kernel
theorem r35_27 : rowAt 35 27 = some (.getfield 64, 3, 5, 10) := by decide +kernel
theorem r35_30 : rowAt 35 30 = some (.iload 6, 2, 0, 0) := by decide +kernel
theorem r35_32 : rowAt 35 32 = some (.iaload, 1, 0, 0) := by decide +kernel
theorem r35_33 : rowAt 35 33 = some (.ifCond .ge 7, 3, 0, 0) := by decide +kernel
theorem r35_36 : rowAt 35 36 = some (.iconst (-1), 1, 0, 0) := by decide +kernel
theorem r35_37 : rowAt 35 37 = some (.goto 11, 3, 0, 0) := by decide +kernel
theorem r35_40 : rowAt 35 40 = some (.aload_n 0, 1, 0, 0) := by decide +kernel
theorem r35_41 : rowAt 35 41 = some (.aload_n 1, 1, 0, 0) := by decide +kernel
theorem r35_42 : rowAt 35 42 = some (.iload 6, 2, 0, 0) := by decide +kernel
theorem r35_44 : rowAt 35 44 = some (.iload_n 2, 1, 0, 0) := by decide +kernel
theorem r35_45 : rowAt 35 45 = some (.invokevirtual 112, 3, 37, 0) := by decide +kernel
theorem r35_48 : rowAt 35 48 = some (.istore 7, 2, 0, 0) := by decide +kernel
theorem r35_50 : rowAt 35 50 = some (.iload 7, 2, 0, 0) := by decide +kernel
theorem r35_52 : rowAt 35 52 = some (.iload 5, 2, 0, 0) := by decide +kernel
theorem r35_54 : rowAt 35 54 = some (.if_icmp .le 11, 3, 0, 0) := by decide +kernel
theorem r35_57 : rowAt 35 57 = some (.iload 7, 2, 0, 0) := by decide +kernel
theorem r35_59 : rowAt 35 59 = some (.istore 5, 2, 0, 0) := by decide +kernel
theorem r35_61 : rowAt 35 61 = some (.iload 6, 2, 0, 0) := by decide +kernel
theorem r35_63 : rowAt 35 63 = some (.istore 4, 2, 0, 0) := by decide +kernel
theorem r35_65 : rowAt 35 65 = some (.iinc 6 1, 3, 0, 0) := by decide +kernel
theorem r35_68 : rowAt 35 68 = some (.goto (-52), 3, 0, 0) := by decide +kernel
theorem r35_71 : rowAt 35 71 = some (.iload_n 3, 1, 0, 0) := by decide +kernel
theorem r35_72 : rowAt 35 72 = some (.ifCond .eq 8, 3, 0, 0) := by decide +kernel
theorem r35_75 : rowAt 35 75 = some (.iload 4, 2, 0, 0) := by decide +kernel
theorem r35_77 : rowAt 35 77 = some (.ifCond .ge 8, 3, 0, 0) := by decide +kernel
theorem r35_80 : rowAt 35 80 = some (.iload 4, 2, 0, 0) := by decide +kernel
theorem r35_82 : rowAt 35 82 = some (.goto 5, 3, 0, 0) := by decide +kernel
theorem r35_85 : rowAt 35 85 = some (.iload 5, 2, 0, 0) := by decide +kernel
theorem r35_87 : rowAt 35 87 = some (.ireturn, 1, 0, 0) := by decide +kernel
theorem en35 (a0 : Nat) (a1 : Nat) (a2 : Int32) (a3 : Int32) : iniL 35 [.ref a0, .ref a1, .int a2, .int a3] = [.ref a0, .ref a1, .int a2, .int a3, .null, .null, .null, .null] := ini_n mi35 rfl
theorem b35_0 (d : Nat) (l0 : Nat) (l1 : Nat) (l2 : Int32) (l3 : Int32) (h : aH) (K : Option Value → aH → Prop) : E scr false (d + 1) 35 0 [.ref l0, .ref l1, .int l2, .int l3, .null, .null, .null, .null] [] h K = vV scr d 36 [.ref l0, .ref l1, .int l2] h (fun h1 : aH => E scr false (d + 1) 35 16 [.ref l0, .ref l1, .int l2, .int l3, .int (-2), .int (-1), .int 0, .null] [] h1 K) := go (w := (1, [.ref l0, .ref l1, .int l2, .int l3, .null, .null, .null, .null], [.ref l0], h)) r35_0 rfl rfl (go (w := (2, [.ref l0, .ref l1, .int l2, .int l3, .null, .null, .null, .null], [.ref l1, .ref l0], h)) r35_1 rfl rfl (go (w := (3, [.ref l0, .ref l1, .int l2, .int l3, .null, .null, .null, .null], [.int l2, .ref l1, .ref l0], h)) r35_2 rfl rfl (E_vV r35_3 (As := [.ref l0, .ref l1, .int l2]) (rest := []) (cut_n mi36.1 rfl rfl) (rm8_n mi36.2.1 (Nat.le_of_ble_eq_true rfl) (Nat.le_of_ble_eq_true rfl)) mi36.2.2 (fun h1 => E_bip r35_6 (v := (-2)) (by decide) (go (w := (10, [.ref l0, .ref l1, .int l2, .int l3, .int (-2), .null, .null, .null], [], h1)) r35_8 rfl rfl (E_ic r35_10 (v := (-1)) (by decide) (go (w := (13, [.ref l0, .ref l1, .int l2, .int l3, .int (-2), .int (-1), .null, .null], [], h1)) r35_11 rfl rfl (E_ic r35_13 (v := 0) (by decide) (go (w := (16, [.ref l0, .ref l1, .int l2, .int l3, .int (-2), .int (-1), .int 0, .null], [], h1)) r35_14 rfl rfl (rfl))))))))))
theorem b35_16 (d : Nat) (l0 : Nat) (l1 : Nat) (l2 : Int32) (l3 : Int32) (l4 : Int32) (l5 : Int32) (l6 : Int32) (l7 : Value) (h : aH) (K : Option Value → aH → Prop) : E scr false (d + 1) 35 16 [.ref l0, .ref l1, .int l2, .int l3, .int l4, .int l5, .int l6, l7] [] h K = (if 14 ≤ l6 then (if l3 = 0 then E scr false (d + 1) 35 80 [.ref l0, .ref l1, .int l2, .int l3, .int l4, .int l5, .int l6, l7] [] h K else (if 0 ≤ l4 then K (some (.int l5)) h else E scr false (d + 1) 35 80 [.ref l0, .ref l1, .int l2, .int l3, .int l4, .int l5, .int l6, l7] [] h K)) else gR scr h l0 4 0 (fun x1 : Nat => gR scr h x1 5 10 (fun x2 : Nat => aI scr h x2 l6 (fun x3 : Int32 => (if 0 ≤ x3 then vI scr d 37 [.ref l0, .ref l1, .int l6, .int l2] h (fun (x5 : Int32) (h4 : aH) => E scr false (d + 1) 35 48 [.ref l0, .ref l1, .int l2, .int l3, .int l4, .int l5, .int l6, l7] [.int x5] h4 K) else E scr false (d + 1) 35 48 [.ref l0, .ref l1, .int l2, .int l3, .int l4, .int l5, .int l6, l7] [.int (-1)] h K))))) := go (w := (18, [.ref l0, .ref l1, .int l2, .int l3, .int l4, .int l5, .int l6, l7], [.int l6], h)) r35_16 rfl rfl (E_bip r35_18 (v := 14) (by decide) (E_i2_ge r35_20 rfl (go (w := (72, [.ref l0, .ref l1, .int l2, .int l3, .int l4, .int l5, .int l6, l7], [.int l3], h)) r35_71 rfl rfl (E_i1_eq r35_72 rfl (rfl) (go (w := (77, [.ref l0, .ref l1, .int l2, .int l3, .int l4, .int l5, .int l6, l7], [.int l4], h)) r35_75 rfl rfl (E_i1_ge r35_77 rfl (go (w := (87, [.ref l0, .ref l1, .int l2, .int l3, .int l4, .int l5, .int l6, l7], [.int l5], h)) r35_85 rfl rfl (E_ri r35_87 (mq35))) (rfl))))) (go (w := (24, [.ref l0, .ref l1, .int l2, .int l3, .int l4, .int l5, .int l6, l7], [.ref l0], h)) r35_23 rfl rfl (E_gR r35_24 rfl (fun x1 => E_gR r35_27 rfl (fun x2 => go (w := (32, [.ref l0, .ref l1, .int l2, .int l3, .int l4, .int l5, .int l6, l7], [.int l6, .ref x2], h)) r35_30 rfl rfl (E_aI r35_32 (fun x3 => E_i1_ge r35_33 rfl (go (w := (41, [.ref l0, .ref l1, .int l2, .int l3, .int l4, .int l5, .int l6, l7], [.ref l0], h)) r35_40 rfl rfl (go (w := (42, [.ref l0, .ref l1, .int l2, .int l3, .int l4, .int l5, .int l6, l7], [.ref l1, .ref l0], h)) r35_41 rfl rfl (go (w := (44, [.ref l0, .ref l1, .int l2, .int l3, .int l4, .int l5, .int l6, l7], [.int l6, .ref l1, .ref l0], h)) r35_42 rfl rfl (go (w := (45, [.ref l0, .ref l1, .int l2, .int l3, .int l4, .int l5, .int l6, l7], [.int l2, .int l6, .ref l1, .ref l0], h)) r35_44 rfl rfl (E_vI r35_45 (As := [.ref l0, .ref l1, .int l6, .int l2]) (rest := []) (cut_n mi37.1 rfl rfl) (rm8_n mi37.2.1 (Nat.le_of_ble_eq_true rfl) (Nat.le_of_ble_eq_true rfl)) mi37.2.2 (fun x5 h4 => rfl)))))) (E_ic r35_36 (v := (-1)) (by decide) (E_gt r35_37 rfl (rfl)))))))))))
theorem b35_48 (d : Nat) (l0 : Nat) (l1 : Nat) (l2 : Int32) (l3 : Int32) (l4 : Int32) (l5 : Int32) (l6 : Int32) (l7 : Value) (s0 : Int32) (h : aH) (K : Option Value → aH → Prop) : E scr false d 35 48 [.ref l0, .ref l1, .int l2, .int l3, .int l4, .int l5, .int l6, l7] [.int s0] h K = (if s0 ≤ l5 then E scr false d 35 65 [.ref l0, .ref l1, .int l2, .int l3, .int l4, .int l5, .int l6, .int s0] [] h K else E scr false d 35 65 [.ref l0, .ref l1, .int l2, .int l3, .int l6, .int s0, .int l6, .int s0] [] h K) := go (w := (50, [.ref l0, .ref l1, .int l2, .int l3, .int l4, .int l5, .int l6, .int s0], [], h)) r35_48 rfl rfl (go (w := (52, [.ref l0, .ref l1, .int l2, .int l3, .int l4, .int l5, .int l6, .int s0], [.int s0], h)) r35_50 rfl rfl (go (w := (54, [.ref l0, .ref l1, .int l2, .int l3, .int l4, .int l5, .int l6, .int s0], [.int l5, .int s0], h)) r35_52 rfl rfl (E_i2_le r35_54 rfl (rfl) (go (w := (59, [.ref l0, .ref l1, .int l2, .int l3, .int l4, .int l5, .int l6, .int s0], [.int s0], h)) r35_57 rfl rfl (go (w := (61, [.ref l0, .ref l1, .int l2, .int l3, .int l4, .int s0, .int l6, .int s0], [], h)) r35_59 rfl rfl (go (w := (63, [.ref l0, .ref l1, .int l2, .int l3, .int l4, .int s0, .int l6, .int s0], [.int l6], h)) r35_61 rfl rfl (go (w := (65, [.ref l0, .ref l1, .int l2, .int l3, .int l6, .int s0, .int l6, .int s0], [], h)) r35_63 rfl rfl (rfl))))))))
theorem b35_65 (d : Nat) (l0 : Nat) (l1 : Nat) (l2 : Int32) (l3 : Int32) (l4 : Int32) (l5 : Int32) (l6 : Int32) (l7 : Int32) (h : aH) (K : Option Value → aH → Prop) : E scr false d 35 65 [.ref l0, .ref l1, .int l2, .int l3, .int l4, .int l5, .int l6, .int l7] [] h K = E scr false d 35 16 [.ref l0, .ref l1, .int l2, .int l3, .int l4, .int l5, .int (l6 + 1), .int l7] [] h K := E_inc r35_65 (c := 1) rfl (by decide) (L' := [.ref l0, .ref l1, .int l2, .int l3, .int l4, .int l5, .int (l6 + 1), .int l7]) rfl (E_gt r35_68 rfl (rfl))
theorem b35_80 (d : Nat) (l0 : Nat) (l1 : Nat) (l2 : Int32) (l3 : Int32) (l4 : Int32) (l5 : Int32) (l6 : Int32) (l7 : Value) (h : aH) (K : Option Value → aH → Prop) : E scr false d 35 80 [.ref l0, .ref l1, .int l2, .int l3, .int l4, .int l5, .int l6, l7] [] h K = K (some (.int l4)) h := go (w := (82, [.ref l0, .ref l1, .int l2, .int l3, .int l4, .int l5, .int l6, l7], [.int l4], h)) r35_80 rfl rfl (E_gt r35_82 rfl (E_ri r35_87 (mq35)))
-- 36 SecondNearest$Planner.walkUsually(LSecondNearest$Law;I)V
theorem mq36 : mRet 36 = none := by decide +kernel
theorem r36_0 : rowAt 36 0 = some (.aload_n 0, 1, 0, 0) := by decide +kernel
theorem r36_1 : rowAt 36 1 = some (.getfield 18, 3, 4, 4) := by decide +kernel
theorem r36_4 : rowAt 36 4 = some (.aload_n 0, 1, 0, 0) := by decide +kernel
theorem r36_5 : rowAt 36 5 = some (.getfield 32, 3, 4, 0) := by decide +kernel
theorem r36_8 : rowAt 36 8 = some (.invokevirtual 43, 3, 51, 0) := by decide +kernel
theorem r36_11 : rowAt 36 11 = some (.aload_n 0, 1, 0, 0) := by decide +kernel
theorem r36_12 : rowAt 36 12 = some (.getfield 12, 3, 4, 3) := by decide +kernel
theorem r36_15 : rowAt 36 15 = some (.aload_n 0, 1, 0, 0) := by decide +kernel
theorem r36_16 : rowAt 36 16 = some (.getfield 32, 3, 4, 0) := by decide +kernel
theorem r36_19 : rowAt 36 19 = some (.invokevirtual 43, 3, 51, 0) := by decide +kernel
theorem r36_22 : rowAt 36 22 = some (.aload_n 0, 1, 0, 0) := by decide +kernel
theorem r36_23 : rowAt 36 23 = some (.getfield 35, 3, 4, 1) := by decide +kernel
theorem r36_26 : rowAt 36 26 = some (.aload_n 0, 1, 0, 0) := by decide +kernel
theorem r36_27 : rowAt 36 27 = some (.getfield 18, 3, 4, 4) := by decide +kernel
theorem r36_30 : rowAt 36 30 = some (.aload_n 1, 1, 0, 0) := by decide +kernel
theorem r36_31 : rowAt 36 31 = some (.iload_n 2, 1, 0, 0) := by decide +kernel
theorem r36_32 : rowAt 36 32 = some (.invokevirtual 47, 3, 78, 0) := by decide +kernel
theorem r36_35 : rowAt 36 35 = some (.return_, 1, 0, 0) := by decide +kernel
theorem en36 (a0 : Nat) (a1 : Nat) (a2 : Int32) : iniL 36 [.ref a0, .ref a1, .int a2] = [.ref a0, .ref a1, .int a2] := ini_n mi36 rfl
theorem b36_0 (d : Nat) (l0 : Nat) (l1 : Nat) (l2 : Int32) (h : aH) (K : Option Value → aH → Prop) : E scr false (d + 1) 36 0 [.ref l0, .ref l1, .int l2] [] h K = gR scr h l0 4 4 (fun x1 : Nat => gR scr h l0 4 0 (fun x2 : Nat => vV scr d 51 [.ref x1, .ref x2] h (fun h3 : aH => gR scr h3 l0 4 3 (fun x5 : Nat => gR scr h3 l0 4 0 (fun x6 : Nat => vV scr d 51 [.ref x5, .ref x6] h3 (fun h7 : aH => gR scr h7 l0 4 1 (fun x9 : Nat => gR scr h7 l0 4 4 (fun x10 : Nat => vV scr d 78 [.ref x9, .ref x10, .ref l1, .int l2] h7 (fun h11 : aH => K none h11))))))))) := go (w := (1, [.ref l0, .ref l1, .int l2], [.ref l0], h)) r36_0 rfl rfl (E_gR r36_1 rfl (fun x1 => go (w := (5, [.ref l0, .ref l1, .int l2], [.ref l0, .ref x1], h)) r36_4 rfl rfl (E_gR r36_5 rfl (fun x2 => E_vV r36_8 (As := [.ref x1, .ref x2]) (rest := []) (cut_n mi51.1 rfl rfl) (rm8_n mi51.2.1 (Nat.le_of_ble_eq_true rfl) (Nat.le_of_ble_eq_true rfl)) mi51.2.2 (fun h3 => go (w := (12, [.ref l0, .ref l1, .int l2], [.ref l0], h3)) r36_11 rfl rfl (E_gR r36_12 rfl (fun x5 => go (w := (16, [.ref l0, .ref l1, .int l2], [.ref l0, .ref x5], h3)) r36_15 rfl rfl (E_gR r36_16 rfl (fun x6 => E_vV r36_19 (As := [.ref x5, .ref x6]) (rest := []) (cut_n mi51.1 rfl rfl) (rm8_n mi51.2.1 (Nat.le_of_ble_eq_true rfl) (Nat.le_of_ble_eq_true rfl)) mi51.2.2 (fun h7 => go (w := (23, [.ref l0, .ref l1, .int l2], [.ref l0], h7)) r36_22 rfl rfl (E_gR r36_23 rfl (fun x9 => go (w := (27, [.ref l0, .ref l1, .int l2], [.ref l0, .ref x9], h7)) r36_26 rfl rfl (E_gR r36_27 rfl (fun x10 => go (w := (31, [.ref l0, .ref l1, .int l2], [.ref l1, .ref x10, .ref x9], h7)) r36_30 rfl rfl (go (w := (32, [.ref l0, .ref l1, .int l2], [.int l2, .ref l1, .ref x10, .ref x9], h7)) r36_31 rfl rfl (E_vV r36_32 (As := [.ref x9, .ref x10, .ref l1, .int l2]) (rest := []) (cut_n mi78.1 rfl rfl) (rm8_n mi78.2.1 (Nat.le_of_ble_eq_true rfl) (Nat.le_of_ble_eq_true rfl)) mi78.2.2 (fun h11 => E_vret r36_35 (mq36))))))))))))))))))
-- 37 SecondNearest$Planner.countElsewhere(LSecondNearest$Law;II)I
theorem mq37 : mRet 37 = (some .int) := by decide +kernel
theorem r37_0 : rowAt 37 0 = some (.aload_n 0, 1, 0, 0) := by decide +kernel
theorem r37_1 : rowAt 37 1 = some (.getfield 12, 3, 4, 3) := by decide +kernel
theorem r37_4 : rowAt 37 4 = some (.aload_n 0, 1, 0, 0) := by decide +kernel
theorem r37_5 : rowAt 37 5 = some (.getfield 32, 3, 4, 0) := by decide +kernel
theorem r37_8 : rowAt 37 8 = some (.invokevirtual 116, 3, 52, 0) := by decide +kernel
theorem r37_11 : rowAt 37 11 = some (.aload_n 0, 1, 0, 0) := by decide +kernel
theorem r37_12 : rowAt 37 12 = some (.getfield 12, 3, 4, 3) := by decide +kernel
theorem r37_15 : rowAt 37 15 = some (.iload_n 2, 1, 0, 0) := by decide +kernel
theorem r37_16 : rowAt 37 16 = some (.invokevirtual 119, 3, 59, 0) := by decide +kernel
theorem r37_19 : rowAt 37 19 = some (.aload_n 0, 1, 0, 0) := by decide +kernel
theorem r37_20 : rowAt 37 20 = some (.getfield 35, 3, 4, 1) := by decide +kernel
theorem r37_23 : rowAt 37 23 = some (.aload_n 0, 1, 0, 0) := by decide +kernel
theorem r37_24 : rowAt 37 24 = some (.getfield 12, 3, 4, 3) := by decide +kernel
theorem r37_27 : rowAt 37 27 = some (.aload_n 1, 1, 0, 0) := by decide +kernel
theorem r37_28 : rowAt 37 28 = some (.iload_n 3, 1, 0, 0) := by decide +kernel
theorem r37_29 : rowAt 37 29 = some (.invokevirtual 47, 3, 78, 0) := by decide +kernel
theorem r37_32 : rowAt 37 32 = some (.iconst 0, 1, 0, 0) := by decide +kernel
theorem r37_33 : rowAt 37 33 = some (.istore 4, 2, 0, 0) := by decide +kernel
theorem r37_35 : rowAt 37 35 = some (.iconst 0, 1, 0, 0) := by decide +kernel
theorem r37_36 : rowAt 37 36 = some (.istore 5, 2, 0, 0) := by decide +kernel
theorem r37_38 : rowAt 37 38 = some (.iload 5, 2, 0, 0) := by decide +kernel
theorem r37_40 : rowAt 37 40 = some (.bipush 12, 2, 0, 0) := by decide +kernel
theorem r37_42 : rowAt 37 42 = some (.if_icmp .ge 48, 3, 0, 0) := by decide +kernel
theorem r37_45 : rowAt 37 45 = some (.iload 4, 2, 0, 0) := by decide +kernel
theorem r37_47 : rowAt 37 47 = some (.iload 5, 2, 0, 0) := by decide +kernel
theorem r37_49 : rowAt 37 49 = some (.iload_n 2, 1, 0, 0) := by decide +kernel
theorem r37_50 : rowAt 37 50 = some (.if_icmp .eq 30, 3, 0, 0) := by decide +kernel
theorem r37_53 : rowAt 37 53 = some (.aload_n 0, 1, 0, 0) := by decide +kernel
theorem r37_54 : rowAt 37 54 = some (.getfield 12, 3, 4, 3) := by decide +kernel
theorem r37_57 : rowAt 37 57 = some (.getfield 64, 3, 5, 10) := by decide +kernel
theorem r37_60 : rowAt 37 60 = some (.iload 5, 2, 0, 0) := by decide +kernel
theorem r37_62 : rowAt 37 62 = some (.iaload, 1, 0, 0) := by decide +kernel
theorem r37_63 : rowAt 37 63 = some (.aload_n 0, 1, 0, 0) := by decide +kernel
theorem r37_64 : rowAt 37 64 = some (.getfield 18, 3, 4, 4) := by decide +kernel
theorem r37_67 : rowAt 37 67 = some (.getfield 64, 3, 5, 10) := by decide +kernel
theorem r37_70 : rowAt 37 70 = some (.iload 5, 2, 0, 0) := by decide +kernel
theorem r37_72 : rowAt 37 72 = some (.iaload, 1, 0, 0) := by decide +kernel
theorem r37_73 : rowAt 37 73 = some (.if_icmp .eq 7, 3, 0, 0) := by decide +kernel
theorem r37_76 : rowAt 37 76 = some (.iconst 1, 1, 0, 0) := by decide +kernel
theorem r37_77 : rowAt 37 77 = some (.goto 4, 3, 0, 0) := by decide +kernel
theorem r37_80 : rowAt 37 80 = some (.iconst 0, 1, 0, 0) := by decide +kernel
theorem r37_81 : rowAt 37 81 = some (.iadd, 1, 0, 0) := by decide +kernel
theorem r37_82 : rowAt 37 82 = some (.istore 4, 2, 0, 0) := by decide +kernel
theorem r37_84 : rowAt 37 84 = some (.iinc 5 1, 3, 0, 0) := by decide +kernel
theorem r37_87 : rowAt 37 87 = some (.goto (-49), 3, 0, 0) := by decide +kernel
theorem r37_90 : rowAt 37 90 = some (.iload 4, 2, 0, 0) := by decide +kernel
theorem r37_92 : rowAt 37 92 = some (.ireturn, 1, 0, 0) := by decide +kernel
theorem en37 (a0 : Nat) (a1 : Nat) (a2 : Int32) (a3 : Int32) : iniL 37 [.ref a0, .ref a1, .int a2, .int a3] = [.ref a0, .ref a1, .int a2, .int a3, .null, .null] := ini_n mi37 rfl
theorem b37_0 (d : Nat) (l0 : Nat) (l1 : Nat) (l2 : Int32) (l3 : Int32) (h : aH) (K : Option Value → aH → Prop) : E scr false (d + 1) 37 0 [.ref l0, .ref l1, .int l2, .int l3, .null, .null] [] h K = gR scr h l0 4 3 (fun x1 : Nat => gR scr h l0 4 0 (fun x2 : Nat => vV scr d 52 [.ref x1, .ref x2] h (fun h3 : aH => gR scr h3 l0 4 3 (fun x5 : Nat => vV scr d 59 [.ref x5, .int l2] h3 (fun h6 : aH => gR scr h6 l0 4 1 (fun x8 : Nat => gR scr h6 l0 4 3 (fun x9 : Nat => vV scr d 78 [.ref x8, .ref x9, .ref l1, .int l3] h6 (fun h10 : aH => E scr false (d + 1) 37 38 [.ref l0, .ref l1, .int l2, .int l3, .int 0, .int 0] [] h10 K)))))))) := go (w := (1, [.ref l0, .ref l1, .int l2, .int l3, .null, .null], [.ref l0], h)) r37_0 rfl rfl (E_gR r37_1 rfl (fun x1 => go (w := (5, [.ref l0, .ref l1, .int l2, .int l3, .null, .null], [.ref l0, .ref x1], h)) r37_4 rfl rfl (E_gR r37_5 rfl (fun x2 => E_vV r37_8 (As := [.ref x1, .ref x2]) (rest := []) (cut_n mi52.1 rfl rfl) (rm8_n mi52.2.1 (Nat.le_of_ble_eq_true rfl) (Nat.le_of_ble_eq_true rfl)) mi52.2.2 (fun h3 => go (w := (12, [.ref l0, .ref l1, .int l2, .int l3, .null, .null], [.ref l0], h3)) r37_11 rfl rfl (E_gR r37_12 rfl (fun x5 => go (w := (16, [.ref l0, .ref l1, .int l2, .int l3, .null, .null], [.int l2, .ref x5], h3)) r37_15 rfl rfl (E_vV r37_16 (As := [.ref x5, .int l2]) (rest := []) (cut_n mi59.1 rfl rfl) (rm8_n mi59.2.1 (Nat.le_of_ble_eq_true rfl) (Nat.le_of_ble_eq_true rfl)) mi59.2.2 (fun h6 => go (w := (20, [.ref l0, .ref l1, .int l2, .int l3, .null, .null], [.ref l0], h6)) r37_19 rfl rfl (E_gR r37_20 rfl (fun x8 => go (w := (24, [.ref l0, .ref l1, .int l2, .int l3, .null, .null], [.ref l0, .ref x8], h6)) r37_23 rfl rfl (E_gR r37_24 rfl (fun x9 => go (w := (28, [.ref l0, .ref l1, .int l2, .int l3, .null, .null], [.ref l1, .ref x9, .ref x8], h6)) r37_27 rfl rfl (go (w := (29, [.ref l0, .ref l1, .int l2, .int l3, .null, .null], [.int l3, .ref l1, .ref x9, .ref x8], h6)) r37_28 rfl rfl (E_vV r37_29 (As := [.ref x8, .ref x9, .ref l1, .int l3]) (rest := []) (cut_n mi78.1 rfl rfl) (rm8_n mi78.2.1 (Nat.le_of_ble_eq_true rfl) (Nat.le_of_ble_eq_true rfl)) mi78.2.2 (fun h10 => E_ic r37_32 (v := 0) (by decide) (go (w := (35, [.ref l0, .ref l1, .int l2, .int l3, .int 0, .null], [], h10)) r37_33 rfl rfl (E_ic r37_35 (v := 0) (by decide) (go (w := (38, [.ref l0, .ref l1, .int l2, .int l3, .int 0, .int 0], [], h10)) r37_36 rfl rfl (rfl))))))))))))))))))))
theorem b37_38 (d : Nat) (l0 : Nat) (l1 : Nat) (l2 : Int32) (l3 : Int32) (l4 : Int32) (l5 : Int32) (h : aH) (K : Option Value → aH → Prop) : E scr false d 37 38 [.ref l0, .ref l1, .int l2, .int l3, .int l4, .int l5] [] h K = (if 12 ≤ l5 then K (some (.int l4)) h else (if l5 = l2 then E scr false d 37 80 [.ref l0, .ref l1, .int l2, .int l3, .int l4, .int l5] [.int l4] h K else gR scr h l0 4 3 (fun x1 : Nat => gR scr h x1 5 10 (fun x2 : Nat => aI scr h x2 l5 (fun x3 : Int32 => gR scr h l0 4 4 (fun x4 : Nat => gR scr h x4 5 10 (fun x5 : Nat => aI scr h x5 l5 (fun x6 : Int32 => (if x3 = x6 then E scr false d 37 80 [.ref l0, .ref l1, .int l2, .int l3, .int l4, .int l5] [.int l4] h K else E scr false d 37 81 [.ref l0, .ref l1, .int l2, .int l3, .int l4, .int l5] [.int 1, .int l4] h K))))))))) := go (w := (40, [.ref l0, .ref l1, .int l2, .int l3, .int l4, .int l5], [.int l5], h)) r37_38 rfl rfl (E_bip r37_40 (v := 12) (by decide) (E_i2_ge r37_42 rfl (go (w := (92, [.ref l0, .ref l1, .int l2, .int l3, .int l4, .int l5], [.int l4], h)) r37_90 rfl rfl (E_ri r37_92 (mq37))) (go (w := (47, [.ref l0, .ref l1, .int l2, .int l3, .int l4, .int l5], [.int l4], h)) r37_45 rfl rfl (go (w := (49, [.ref l0, .ref l1, .int l2, .int l3, .int l4, .int l5], [.int l5, .int l4], h)) r37_47 rfl rfl (go (w := (50, [.ref l0, .ref l1, .int l2, .int l3, .int l4, .int l5], [.int l2, .int l5, .int l4], h)) r37_49 rfl rfl (E_i2_eq r37_50 rfl (rfl) (go (w := (54, [.ref l0, .ref l1, .int l2, .int l3, .int l4, .int l5], [.ref l0, .int l4], h)) r37_53 rfl rfl (E_gR r37_54 rfl (fun x1 => E_gR r37_57 rfl (fun x2 => go (w := (62, [.ref l0, .ref l1, .int l2, .int l3, .int l4, .int l5], [.int l5, .ref x2, .int l4], h)) r37_60 rfl rfl (E_aI r37_62 (fun x3 => go (w := (64, [.ref l0, .ref l1, .int l2, .int l3, .int l4, .int l5], [.ref l0, .int x3, .int l4], h)) r37_63 rfl rfl (E_gR r37_64 rfl (fun x4 => E_gR r37_67 rfl (fun x5 => go (w := (72, [.ref l0, .ref l1, .int l2, .int l3, .int l4, .int l5], [.int l5, .ref x5, .int x3, .int l4], h)) r37_70 rfl rfl (E_aI r37_72 (fun x6 => E_i2_eq r37_73 rfl (rfl) (E_ic r37_76 (v := 1) (by decide) (E_gt r37_77 rfl (rfl))))))))))))))))))))
theorem b37_80 (d : Nat) (l0 : Nat) (l1 : Nat) (l2 : Int32) (l3 : Int32) (l4 : Int32) (l5 : Int32) (s0 : Int32) (h : aH) (K : Option Value → aH → Prop) : E scr false d 37 80 [.ref l0, .ref l1, .int l2, .int l3, .int l4, .int l5] [.int s0] h K = E scr false d 37 81 [.ref l0, .ref l1, .int l2, .int l3, .int l4, .int l5] [.int 0, .int s0] h K := E_ic r37_80 (v := 0) (by decide) (rfl)
theorem b37_81 (d : Nat) (l0 : Nat) (l1 : Nat) (l2 : Int32) (l3 : Int32) (l4 : Int32) (l5 : Int32) (s0 : Int32) (s1 : Int32) (h : aH) (K : Option Value → aH → Prop) : E scr false d 37 81 [.ref l0, .ref l1, .int l2, .int l3, .int l4, .int l5] [.int s0, .int s1] h K = E scr false d 37 38 [.ref l0, .ref l1, .int l2, .int l3, .int (s1 + s0), .int (l5 + 1)] [] h K := go (w := (82, [.ref l0, .ref l1, .int l2, .int l3, .int l4, .int l5], [.int (s1 + s0)], h)) r37_81 rfl rfl (go (w := (84, [.ref l0, .ref l1, .int l2, .int l3, .int (s1 + s0), .int l5], [], h)) r37_82 rfl rfl (E_inc r37_84 (c := 1) rfl (by decide) (L' := [.ref l0, .ref l1, .int l2, .int l3, .int (s1 + s0), .int (l5 + 1)]) rfl (E_gt r37_87 rfl (rfl))))
-- 38 SecondNearest$Planner.boundOfOut(I)I
theorem mq38 : mRet 38 = (some .int) := by decide +kernel
theorem r38_0 : rowAt 38 0 = some (.aload_n 0, 1, 0, 0) := by decide +kernel
theorem r38_1 : rowAt 38 1 = some (.getfield 32, 3, 4, 0) := by decide +kernel
theorem r38_4 : rowAt 38 4 = some (.getfield 53, 3, 5, 6) := by decide +kernel
theorem r38_7 : rowAt 38 7 = some (.istore_n 2, 1, 0, 0) := by decide +kernel
theorem r38_8 : rowAt 38 8 = some (.iconst 0, 1, 0, 0) := by decide +kernel
theorem r38_9 : rowAt 38 9 = some (.istore_n 3, 1, 0, 0) := by decide +kernel
theorem r38_10 : rowAt 38 10 = some (.iload_n 3, 1, 0, 0) := by decide +kernel
theorem r38_11 : rowAt 38 11 = some (.bipush 12, 2, 0, 0) := by decide +kernel
theorem r38_13 : rowAt 38 13 = some (.if_icmp .ge 51, 3, 0, 0) := by decide +kernel
theorem r38_16 : rowAt 38 16 = some (.aload_n 0, 1, 0, 0) := by decide +kernel
theorem r38_17 : rowAt 38 17 = some (.getfield 32, 3, 4, 0) := by decide +kernel
theorem r38_20 : rowAt 38 20 = some (.getfield 64, 3, 5, 10) := by decide +kernel
theorem r38_23 : rowAt 38 23 = some (.iload_n 3, 1, 0, 0) := by decide +kernel
theorem r38_24 : rowAt 38 24 = some (.iaload, 1, 0, 0) := by decide +kernel
theorem r38_25 : rowAt 38 25 = some (.istore 4, 2, 0, 0) := by decide +kernel
theorem r38_27 : rowAt 38 27 = some (.iload_n 2, 1, 0, 0) := by decide +kernel
theorem r38_28 : rowAt 38 28 = some (.iload 4, 2, 0, 0) := by decide +kernel
theorem r38_30 : rowAt 38 30 = some (.ifCond .lt 25, 3, 0, 0) := by decide +kernel
theorem r38_33 : rowAt 38 33 = some (.iconst 1, 1, 0, 0) := by decide +kernel
theorem r38_34 : rowAt 38 34 = some (.aload_n 0, 1, 0, 0) := by decide +kernel
theorem r38_35 : rowAt 38 35 = some (.getfield 39, 3, 4, 2) := by decide +kernel
theorem r38_38 : rowAt 38 38 = some (.getfield 122, 3, 0, 0) := by decide +kernel
theorem r38_41 : rowAt 38 41 = some (.iload 4, 2, 0, 0) := by decide +kernel
theorem r38_43 : rowAt 38 43 = some (.iaload, 1, 0, 0) := by decide +kernel
theorem r38_44 : rowAt 38 44 = some (.invokestatic 102, 3, 225, 1) := by decide +kernel
theorem r38_47 : rowAt 38 47 = some (.iload_n 1, 1, 0, 0) := by decide +kernel
theorem r38_48 : rowAt 38 48 = some (.if_icmp .gt 7, 3, 0, 0) := by decide +kernel
theorem r38_51 : rowAt 38 51 = some (.iconst 1, 1, 0, 0) := by decide +kernel
theorem r38_52 : rowAt 38 52 = some (.goto 4, 3, 0, 0) := by decide +kernel
theorem r38_55 : rowAt 38 55 = some (.iconst 0, 1, 0, 0) := by decide +kernel
theorem r38_56 : rowAt 38 56 = some (.iadd, 1, 0, 0) := by decide +kernel
theorem r38_57 : rowAt 38 57 = some (.istore_n 2, 1, 0, 0) := by decide +kernel
theorem r38_58 : rowAt 38 58 = some (.iinc 3 1, 3, 0, 0) := by decide +kernel
theorem r38_61 : rowAt 38 61 = some (.goto (-51), 3, 0, 0) := by decide +kernel
theorem r38_64 : rowAt 38 64 = some (.iload_n 2, 1, 0, 0) := by decide +kernel
theorem r38_65 : rowAt 38 65 = some (.ireturn, 1, 0, 0) := by decide +kernel
theorem en38 (a0 : Nat) (a1 : Int32) : iniL 38 [.ref a0, .int a1] = [.ref a0, .int a1, .null, .null, .null] := ini_n mi38 rfl
theorem b38_0 (d : Nat) (l0 : Nat) (l1 : Int32) (h : aH) (K : Option Value → aH → Prop) : E scr false d 38 0 [.ref l0, .int l1, .null, .null, .null] [] h K = gR scr h l0 4 0 (fun x1 : Nat => gI scr h x1 5 6 (fun x2 : Int32 => E scr false d 38 10 [.ref l0, .int l1, .int x2, .int 0, .null] [] h K)) := go (w := (1, [.ref l0, .int l1, .null, .null, .null], [.ref l0], h)) r38_0 rfl rfl (E_gR r38_1 rfl (fun x1 => E_gI r38_4 rfl (fun x2 => go (w := (8, [.ref l0, .int l1, .int x2, .null, .null], [], h)) r38_7 rfl rfl (E_ic r38_8 (v := 0) (by decide) (go (w := (10, [.ref l0, .int l1, .int x2, .int 0, .null], [], h)) r38_9 rfl rfl (rfl))))))
theorem b38_10 (d : Nat) (l0 : Nat) (l1 : Int32) (l2 : Int32) (l3 : Int32) (l4 : Value) (h : aH) (K : Option Value → aH → Prop) : E scr false (d + 1) 38 10 [.ref l0, .int l1, .int l2, .int l3, l4] [] h K = (if 12 ≤ l3 then K (some (.int l2)) h else gR scr h l0 4 0 (fun x1 : Nat => gR scr h x1 5 10 (fun x2 : Nat => aI scr h x2 l3 (fun x3 : Int32 => (if x3 < 0 then E scr false (d + 1) 38 55 [.ref l0, .int l1, .int l2, .int l3, .int x3] [.int l2] h K else gR scr h l0 4 2 (fun x4 : Nat => gR scr h x4 0 0 (fun x5 : Nat => aI scr h x5 x3 (fun x6 : Int32 => sI scr d 225 [.int 1, .int x6] h (fun (x8 : Int32) (h7 : aH) => (if l1 < x8 then E scr false (d + 1) 38 55 [.ref l0, .int l1, .int l2, .int l3, .int x3] [.int l2] h7 K else E scr false (d + 1) 38 56 [.ref l0, .int l1, .int l2, .int l3, .int x3] [.int 1, .int l2] h7 K)))))))))) := go (w := (11, [.ref l0, .int l1, .int l2, .int l3, l4], [.int l3], h)) r38_10 rfl rfl (E_bip r38_11 (v := 12) (by decide) (E_i2_ge r38_13 rfl (go (w := (65, [.ref l0, .int l1, .int l2, .int l3, l4], [.int l2], h)) r38_64 rfl rfl (E_ri r38_65 (mq38))) (go (w := (17, [.ref l0, .int l1, .int l2, .int l3, l4], [.ref l0], h)) r38_16 rfl rfl (E_gR r38_17 rfl (fun x1 => E_gR r38_20 rfl (fun x2 => go (w := (24, [.ref l0, .int l1, .int l2, .int l3, l4], [.int l3, .ref x2], h)) r38_23 rfl rfl (E_aI r38_24 (fun x3 => go (w := (27, [.ref l0, .int l1, .int l2, .int l3, .int x3], [], h)) r38_25 rfl rfl (go (w := (28, [.ref l0, .int l1, .int l2, .int l3, .int x3], [.int l2], h)) r38_27 rfl rfl (go (w := (30, [.ref l0, .int l1, .int l2, .int l3, .int x3], [.int x3, .int l2], h)) r38_28 rfl rfl (E_i1_lt r38_30 rfl (rfl) (E_ic r38_33 (v := 1) (by decide) (go (w := (35, [.ref l0, .int l1, .int l2, .int l3, .int x3], [.ref l0, .int 1, .int l2], h)) r38_34 rfl rfl (E_gR r38_35 rfl (fun x4 => E_gR r38_38 rfl (fun x5 => go (w := (43, [.ref l0, .int l1, .int l2, .int l3, .int x3], [.int x3, .ref x5, .int 1, .int l2], h)) r38_41 rfl rfl (E_aI r38_43 (fun x6 => E_sI r38_44 (As := [.int 1, .int x6]) (rest := [.int l2]) (cut_n mi225.1 rfl rfl) (rm8_n mi225.2.1 (Nat.le_of_ble_eq_true rfl) (Nat.le_of_ble_eq_true rfl)) mi225.2.2 (fun x8 h7 => go (w := (48, [.ref l0, .int l1, .int l2, .int l3, .int x3], [.int l1, .int x8, .int l2], h7)) r38_47 rfl rfl (E_i2_gt r38_48 rfl (rfl) (E_ic r38_51 (v := 1) (by decide) (E_gt r38_52 rfl (rfl)))))))))))))))))))))))
theorem b38_55 (d : Nat) (l0 : Nat) (l1 : Int32) (l2 : Int32) (l3 : Int32) (l4 : Int32) (s0 : Int32) (h : aH) (K : Option Value → aH → Prop) : E scr false d 38 55 [.ref l0, .int l1, .int l2, .int l3, .int l4] [.int s0] h K = E scr false d 38 56 [.ref l0, .int l1, .int l2, .int l3, .int l4] [.int 0, .int s0] h K := E_ic r38_55 (v := 0) (by decide) (rfl)
theorem b38_56 (d : Nat) (l0 : Nat) (l1 : Int32) (l2 : Int32) (l3 : Int32) (l4 : Int32) (s0 : Int32) (s1 : Int32) (h : aH) (K : Option Value → aH → Prop) : E scr false d 38 56 [.ref l0, .int l1, .int l2, .int l3, .int l4] [.int s0, .int s1] h K = E scr false d 38 10 [.ref l0, .int l1, .int (s1 + s0), .int (l3 + 1), .int l4] [] h K := go (w := (57, [.ref l0, .int l1, .int l2, .int l3, .int l4], [.int (s1 + s0)], h)) r38_56 rfl rfl (go (w := (58, [.ref l0, .int l1, .int (s1 + s0), .int l3, .int l4], [], h)) r38_57 rfl rfl (E_inc r38_58 (c := 1) rfl (by decide) (L' := [.ref l0, .int l1, .int (s1 + s0), .int (l3 + 1), .int l4]) rfl (E_gt r38_61 rfl (rfl))))
-- 39 SecondNearest$Planner.findPost(LSecondNearest$Law;II)I
theorem mq39 : mRet 39 = (some .int) := by decide +kernel
theorem r39_0 : rowAt 39 0 = some (.aload_n 0, 1, 0, 0) := by decide +kernel
theorem r39_1 : rowAt 39 1 = some (.getfield 12, 3, 4, 3) := by decide +kernel
theorem r39_4 : rowAt 39 4 = some (.aload_n 0, 1, 0, 0) := by decide +kernel
theorem r39_5 : rowAt 39 5 = some (.getfield 32, 3, 4, 0) := by decide +kernel
theorem r39_8 : rowAt 39 8 = some (.invokevirtual 43, 3, 51, 0) := by decide +kernel
theorem r39_11 : rowAt 39 11 = some (.aload_n 0, 1, 0, 0) := by decide +kernel
theorem r39_12 : rowAt 39 12 = some (.getfield 32, 3, 4, 0) := by decide +kernel
theorem r39_15 : rowAt 39 15 = some (.getfield 64, 3, 5, 10) := by decide +kernel
theorem r39_18 : rowAt 39 18 = some (.bipush 12, 2, 0, 0) := by decide +kernel
theorem r39_20 : rowAt 39 20 = some (.iaload, 1, 0, 0) := by decide +kernel
theorem r39_21 : rowAt 39 21 = some (.istore 4, 2, 0, 0) := by decide +kernel
theorem r39_23 : rowAt 39 23 = some (.aload_n 0, 1, 0, 0) := by decide +kernel
theorem r39_24 : rowAt 39 24 = some (.iload_n 2, 1, 0, 0) := by decide +kernel
theorem r39_25 : rowAt 39 25 = some (.invokevirtual 127, 3, 38, 0) := by decide +kernel
theorem r39_28 : rowAt 39 28 = some (.istore 5, 2, 0, 0) := by decide +kernel
theorem r39_30 : rowAt 39 30 = some (.iload 4, 2, 0, 0) := by decide +kernel
theorem r39_32 : rowAt 39 32 = some (.istore 6, 2, 0, 0) := by decide +kernel
theorem r39_34 : rowAt 39 34 = some (.iconst (-1), 1, 0, 0) := by decide +kernel
theorem r39_35 : rowAt 39 35 = some (.istore 7, 2, 0, 0) := by decide +kernel
theorem r39_37 : rowAt 39 37 = some (.iconst 0, 1, 0, 0) := by decide +kernel
theorem r39_38 : rowAt 39 38 = some (.istore 8, 2, 0, 0) := by decide +kernel
theorem r39_40 : rowAt 39 40 = some (.iload 8, 2, 0, 0) := by decide +kernel
theorem r39_42 : rowAt 39 42 = some (.sipush 144, 3, 0, 0) := by decide +kernel
theorem r39_45 : rowAt 39 45 = some (.if_icmp .ge 106, 3, 0, 0) := by decide +kernel
theorem r39_48 : rowAt 39 48 = some (.iload 7, 2, 0, 0) := by decide +kernel
theorem r39_50 : rowAt 39 50 = some (.iload 5, 2, 0, 0) := by decide +kernel
theorem r39_52 : rowAt 39 52 = some (.if_icmp .ge 99, 3, 0, 0) := by decide +kernel
theorem r39_55 : rowAt 39 55 = some (.iload 8, 2, 0, 0) := by decide +kernel
theorem r39_57 : rowAt 39 57 = some (.iload 4, 2, 0, 0) := by decide +kernel
theorem r39_59 : rowAt 39 59 = some (.if_icmp .eq 26, 3, 0, 0) := by decide +kernel
theorem r39_62 : rowAt 39 62 = some (.aload_n 0, 1, 0, 0) := by decide +kernel
theorem r39_63 : rowAt 39 63 = some (.getfield 32, 3, 4, 0) := by decide +kernel
theorem r39_66 : rowAt 39 66 = some (.iload 8, 2, 0, 0) := by decide +kernel
theorem r39_68 : rowAt 39 68 = some (.bipush 12, 2, 0, 0) := by decide +kernel
theorem r39_70 : rowAt 39 70 = some (.irem, 1, 0, 0) := by decide +kernel
theorem r39_71 : rowAt 39 71 = some (.iload 8, 2, 0, 0) := by decide +kernel
theorem r39_73 : rowAt 39 73 = some (.bipush 12, 2, 0, 0) := by decide +kernel
theorem r39_75 : rowAt 39 75 = some (.idiv, 1, 0, 0) := by decide +kernel
theorem r39_76 : rowAt 39 76 = some (.invokevirtual 130, 3, 57, 0) := by decide +kernel
theorem r39_79 : rowAt 39 79 = some (.ifCond .ne 6, 3, 0, 0) := by decide +kernel
theorem r39_82 : rowAt 39 82 = some (.goto 63, 3, 0, 0) := by decide +kernel
theorem r39_85 : rowAt 39 85 = some (.aload_n 0, 1, 0, 0) := by decide +kernel
theorem r39_86 : rowAt 39 86 = some (.getfield 12, 3, 4, 3) := by decide +kernel
theorem r39_89 : rowAt 39 89 = some (.aload_n 0, 1, 0, 0) := by decide +kernel
theorem r39_90 : rowAt 39 90 = some (.getfield 32, 3, 4, 0) := by decide +kernel
theorem r39_93 : rowAt 39 93 = some (.invokevirtual 116, 3, 52, 0) := by decide +kernel
theorem r39_96 : rowAt 39 96 = some (.aload_n 0, 1, 0, 0) := by decide +kernel
theorem r39_97 : rowAt 39 97 = some (.getfield 12, 3, 4, 3) := by decide +kernel
theorem r39_100 : rowAt 39 100 = some (.bipush 12, 2, 0, 0) := by decide +kernel
theorem r39_102 : rowAt 39 102 = some (.iload 8, 2, 0, 0) := by decide +kernel
theorem r39_104 : rowAt 39 104 = some (.invokevirtual 134, 3, 60, 0) := by decide +kernel
theorem r39_107 : rowAt 39 107 = some (.aload_n 0, 1, 0, 0) := by decide +kernel
theorem r39_108 : rowAt 39 108 = some (.getfield 35, 3, 4, 1) := by decide +kernel
theorem r39_111 : rowAt 39 111 = some (.aload_n 0, 1, 0, 0) := by decide +kernel
theorem r39_112 : rowAt 39 112 = some (.getfield 12, 3, 4, 3) := by decide +kernel
theorem r39_115 : rowAt 39 115 = some (.aload_n 1, 1, 0, 0) := by decide +kernel
theorem r39_116 : rowAt 39 116 = some (.iload_n 2, 1, 0, 0) := by decide +kernel
theorem r39_117 : rowAt 39 117 = some (.invokevirtual 47, 3, 78, 0) := by decide +kernel
theorem r39_120 : rowAt 39 120 = some (.aload_n 0, 1, 0, 0) := by decide +kernel
theorem r39_121 : rowAt 39 121 = some (.getfield 12, 3, 4, 3) := by decide +kernel
theorem r39_124 : rowAt 39 124 = some (.getfield 53, 3, 5, 6) := by decide +kernel
theorem r39_127 : rowAt 39 127 = some (.iload 7, 2, 0, 0) := by decide +kernel
theorem r39_129 : rowAt 39 129 = some (.if_icmp .le 16, 3, 0, 0) := by decide +kernel
theorem r39_132 : rowAt 39 132 = some (.aload_n 0, 1, 0, 0) := by decide +kernel
theorem r39_133 : rowAt 39 133 = some (.getfield 12, 3, 4, 3) := by decide +kernel
theorem r39_136 : rowAt 39 136 = some (.getfield 53, 3, 5, 6) := by decide +kernel
theorem r39_139 : rowAt 39 139 = some (.istore 7, 2, 0, 0) := by decide +kernel
theorem r39_141 : rowAt 39 141 = some (.iload 8, 2, 0, 0) := by decide +kernel
theorem r39_143 : rowAt 39 143 = some (.istore 6, 2, 0, 0) := by decide +kernel
theorem r39_145 : rowAt 39 145 = some (.iinc 8 1, 3, 0, 0) := by decide +kernel
theorem r39_148 : rowAt 39 148 = some (.goto (-108), 3, 0, 0) := by decide +kernel
theorem r39_151 : rowAt 39 151 = some (.iload_n 3, 1, 0, 0) := by decide +kernel
theorem r39_152 : rowAt 39 152 = some (.ifCond .ne 8, 3, 0, 0) := by decide +kernel
theorem r39_155 : rowAt 39 155 = some (.iload 6, 2, 0, 0) := by decide +kernel
theorem r39_157 : rowAt 39 157 = some (.goto 5, 3, 0, 0) := by decide +kernel
theorem r39_160 : rowAt 39 160 = some (.iload 7, 2, 0, 0) := by decide +kernel
theorem r39_162 : rowAt 39 162 = some (.ireturn, 1, 0, 0) := by decide +kernel
theorem en39 (a0 : Nat) (a1 : Nat) (a2 : Int32) (a3 : Int32) : iniL 39 [.ref a0, .ref a1, .int a2, .int a3] = [.ref a0, .ref a1, .int a2, .int a3, .null, .null, .null, .null, .null] := ini_n mi39 rfl
theorem b39_0 (d : Nat) (l0 : Nat) (l1 : Nat) (l2 : Int32) (l3 : Int32) (h : aH) (K : Option Value → aH → Prop) : E scr false (d + 1) 39 0 [.ref l0, .ref l1, .int l2, .int l3, .null, .null, .null, .null, .null] [] h K = gR scr h l0 4 3 (fun x1 : Nat => gR scr h l0 4 0 (fun x2 : Nat => vV scr d 51 [.ref x1, .ref x2] h (fun h3 : aH => gR scr h3 l0 4 0 (fun x5 : Nat => gR scr h3 x5 5 10 (fun x6 : Nat => aI scr h3 x6 12 (fun x7 : Int32 => vI scr d 38 [.ref l0, .int l2] h3 (fun (x9 : Int32) (h8 : aH) => E scr false (d + 1) 39 40 [.ref l0, .ref l1, .int l2, .int l3, .int x7, .int x9, .int x7, .int (-1), .int 0] [] h8 K))))))) := go (w := (1, [.ref l0, .ref l1, .int l2, .int l3, .null, .null, .null, .null, .null], [.ref l0], h)) r39_0 rfl rfl (E_gR r39_1 rfl (fun x1 => go (w := (5, [.ref l0, .ref l1, .int l2, .int l3, .null, .null, .null, .null, .null], [.ref l0, .ref x1], h)) r39_4 rfl rfl (E_gR r39_5 rfl (fun x2 => E_vV r39_8 (As := [.ref x1, .ref x2]) (rest := []) (cut_n mi51.1 rfl rfl) (rm8_n mi51.2.1 (Nat.le_of_ble_eq_true rfl) (Nat.le_of_ble_eq_true rfl)) mi51.2.2 (fun h3 => go (w := (12, [.ref l0, .ref l1, .int l2, .int l3, .null, .null, .null, .null, .null], [.ref l0], h3)) r39_11 rfl rfl (E_gR r39_12 rfl (fun x5 => E_gR r39_15 rfl (fun x6 => E_bip r39_18 (v := 12) (by decide) (E_aI r39_20 (fun x7 => go (w := (23, [.ref l0, .ref l1, .int l2, .int l3, .int x7, .null, .null, .null, .null], [], h3)) r39_21 rfl rfl (go (w := (24, [.ref l0, .ref l1, .int l2, .int l3, .int x7, .null, .null, .null, .null], [.ref l0], h3)) r39_23 rfl rfl (go (w := (25, [.ref l0, .ref l1, .int l2, .int l3, .int x7, .null, .null, .null, .null], [.int l2, .ref l0], h3)) r39_24 rfl rfl (E_vI r39_25 (As := [.ref l0, .int l2]) (rest := []) (cut_n mi38.1 rfl rfl) (rm8_n mi38.2.1 (Nat.le_of_ble_eq_true rfl) (Nat.le_of_ble_eq_true rfl)) mi38.2.2 (fun x9 h8 => go (w := (30, [.ref l0, .ref l1, .int l2, .int l3, .int x7, .int x9, .null, .null, .null], [], h8)) r39_28 rfl rfl (go (w := (32, [.ref l0, .ref l1, .int l2, .int l3, .int x7, .int x9, .null, .null, .null], [.int x7], h8)) r39_30 rfl rfl (go (w := (34, [.ref l0, .ref l1, .int l2, .int l3, .int x7, .int x9, .int x7, .null, .null], [], h8)) r39_32 rfl rfl (E_ic r39_34 (v := (-1)) (by decide) (go (w := (37, [.ref l0, .ref l1, .int l2, .int l3, .int x7, .int x9, .int x7, .int (-1), .null], [], h8)) r39_35 rfl rfl (E_ic r39_37 (v := 0) (by decide) (go (w := (40, [.ref l0, .ref l1, .int l2, .int l3, .int x7, .int x9, .int x7, .int (-1), .int 0], [], h8)) r39_38 rfl rfl (rfl)))))))))))))))))))))
theorem b39_40 (d : Nat) (l0 : Nat) (l1 : Nat) (l2 : Int32) (l3 : Int32) (l4 : Int32) (l5 : Int32) (l6 : Int32) (l7 : Int32) (l8 : Int32) (h : aH) (K : Option Value → aH → Prop) : E scr false (d + 1) 39 40 [.ref l0, .ref l1, .int l2, .int l3, .int l4, .int l5, .int l6, .int l7, .int l8] [] h K = (if 144 ≤ l8 then E scr false (d + 1) 39 151 [.ref l0, .ref l1, .int l2, .int l3, .int l4, .int l5, .int l6, .int l7, .int l8] [] h K else (if l5 ≤ l7 then E scr false (d + 1) 39 151 [.ref l0, .ref l1, .int l2, .int l3, .int l4, .int l5, .int l6, .int l7, .int l8] [] h K else (if l8 = l4 then E scr false (d + 1) 39 85 [.ref l0, .ref l1, .int l2, .int l3, .int l4, .int l5, .int l6, .int l7, .int l8] [] h K else gR scr h l0 4 0 (fun x1 : Nat => vI scr d 57 [.ref x1, .int (irm l8 12), .int (l8 / 12)] h (fun (x3 : Int32) (h2 : aH) => (if x3 = 0 then E scr false (d + 1) 39 145 [.ref l0, .ref l1, .int l2, .int l3, .int l4, .int l5, .int l6, .int l7, .int l8] [] h2 K else E scr false (d + 1) 39 85 [.ref l0, .ref l1, .int l2, .int l3, .int l4, .int l5, .int l6, .int l7, .int l8] [] h2 K)))))) := go (w := (42, [.ref l0, .ref l1, .int l2, .int l3, .int l4, .int l5, .int l6, .int l7, .int l8], [.int l8], h)) r39_40 rfl rfl (E_sip r39_42 (v := 144) (by decide) (E_i2_ge r39_45 rfl (rfl) (go (w := (50, [.ref l0, .ref l1, .int l2, .int l3, .int l4, .int l5, .int l6, .int l7, .int l8], [.int l7], h)) r39_48 rfl rfl (go (w := (52, [.ref l0, .ref l1, .int l2, .int l3, .int l4, .int l5, .int l6, .int l7, .int l8], [.int l5, .int l7], h)) r39_50 rfl rfl (E_i2_ge r39_52 rfl (rfl) (go (w := (57, [.ref l0, .ref l1, .int l2, .int l3, .int l4, .int l5, .int l6, .int l7, .int l8], [.int l8], h)) r39_55 rfl rfl (go (w := (59, [.ref l0, .ref l1, .int l2, .int l3, .int l4, .int l5, .int l6, .int l7, .int l8], [.int l4, .int l8], h)) r39_57 rfl rfl (E_i2_eq r39_59 rfl (rfl) (go (w := (63, [.ref l0, .ref l1, .int l2, .int l3, .int l4, .int l5, .int l6, .int l7, .int l8], [.ref l0], h)) r39_62 rfl rfl (E_gR r39_63 rfl (fun x1 => go (w := (68, [.ref l0, .ref l1, .int l2, .int l3, .int l4, .int l5, .int l6, .int l7, .int l8], [.int l8, .ref x1], h)) r39_66 rfl rfl (E_bip r39_68 (v := 12) (by decide) (E_remc r39_70 (by decide) (go (w := (73, [.ref l0, .ref l1, .int l2, .int l3, .int l4, .int l5, .int l6, .int l7, .int l8], [.int l8, .int (irm l8 12), .ref x1], h)) r39_71 rfl rfl (E_bip r39_73 (v := 12) (by decide) (E_divc r39_75 (by decide) (E_vI r39_76 (As := [.ref x1, .int (irm l8 12), .int (l8 / 12)]) (rest := []) (cut_n mi57.1 rfl rfl) (rm8_n mi57.2.1 (Nat.le_of_ble_eq_true rfl) (Nat.le_of_ble_eq_true rfl)) mi57.2.2 (fun x3 h2 => E_i1_ne r39_79 rfl (rfl) (E_gt r39_82 rfl (rfl))))))))))))))))))))
theorem b39_85 (d : Nat) (l0 : Nat) (l1 : Nat) (l2 : Int32) (l3 : Int32) (l4 : Int32) (l5 : Int32) (l6 : Int32) (l7 : Int32) (l8 : Int32) (h : aH) (K : Option Value → aH → Prop) : E scr false (d + 1) 39 85 [.ref l0, .ref l1, .int l2, .int l3, .int l4, .int l5, .int l6, .int l7, .int l8] [] h K = gR scr h l0 4 3 (fun x1 : Nat => gR scr h l0 4 0 (fun x2 : Nat => vV scr d 52 [.ref x1, .ref x2] h (fun h3 : aH => gR scr h3 l0 4 3 (fun x5 : Nat => vV scr d 60 [.ref x5, .int 12, .int l8] h3 (fun h6 : aH => gR scr h6 l0 4 1 (fun x8 : Nat => gR scr h6 l0 4 3 (fun x9 : Nat => vV scr d 78 [.ref x8, .ref x9, .ref l1, .int l2] h6 (fun h10 : aH => gR scr h10 l0 4 3 (fun x12 : Nat => gI scr h10 x12 5 6 (fun x13 : Int32 => (if x13 ≤ l7 then E scr false (d + 1) 39 145 [.ref l0, .ref l1, .int l2, .int l3, .int l4, .int l5, .int l6, .int l7, .int l8] [] h10 K else gR scr h10 l0 4 3 (fun x14 : Nat => gI scr h10 x14 5 6 (fun x15 : Int32 => E scr false (d + 1) 39 145 [.ref l0, .ref l1, .int l2, .int l3, .int l4, .int l5, .int l8, .int x15, .int l8] [] h10 K))))))))))))) := go (w := (86, [.ref l0, .ref l1, .int l2, .int l3, .int l4, .int l5, .int l6, .int l7, .int l8], [.ref l0], h)) r39_85 rfl rfl (E_gR r39_86 rfl (fun x1 => go (w := (90, [.ref l0, .ref l1, .int l2, .int l3, .int l4, .int l5, .int l6, .int l7, .int l8], [.ref l0, .ref x1], h)) r39_89 rfl rfl (E_gR r39_90 rfl (fun x2 => E_vV r39_93 (As := [.ref x1, .ref x2]) (rest := []) (cut_n mi52.1 rfl rfl) (rm8_n mi52.2.1 (Nat.le_of_ble_eq_true rfl) (Nat.le_of_ble_eq_true rfl)) mi52.2.2 (fun h3 => go (w := (97, [.ref l0, .ref l1, .int l2, .int l3, .int l4, .int l5, .int l6, .int l7, .int l8], [.ref l0], h3)) r39_96 rfl rfl (E_gR r39_97 rfl (fun x5 => E_bip r39_100 (v := 12) (by decide) (go (w := (104, [.ref l0, .ref l1, .int l2, .int l3, .int l4, .int l5, .int l6, .int l7, .int l8], [.int l8, .int 12, .ref x5], h3)) r39_102 rfl rfl (E_vV r39_104 (As := [.ref x5, .int 12, .int l8]) (rest := []) (cut_n mi60.1 rfl rfl) (rm8_n mi60.2.1 (Nat.le_of_ble_eq_true rfl) (Nat.le_of_ble_eq_true rfl)) mi60.2.2 (fun h6 => go (w := (108, [.ref l0, .ref l1, .int l2, .int l3, .int l4, .int l5, .int l6, .int l7, .int l8], [.ref l0], h6)) r39_107 rfl rfl (E_gR r39_108 rfl (fun x8 => go (w := (112, [.ref l0, .ref l1, .int l2, .int l3, .int l4, .int l5, .int l6, .int l7, .int l8], [.ref l0, .ref x8], h6)) r39_111 rfl rfl (E_gR r39_112 rfl (fun x9 => go (w := (116, [.ref l0, .ref l1, .int l2, .int l3, .int l4, .int l5, .int l6, .int l7, .int l8], [.ref l1, .ref x9, .ref x8], h6)) r39_115 rfl rfl (go (w := (117, [.ref l0, .ref l1, .int l2, .int l3, .int l4, .int l5, .int l6, .int l7, .int l8], [.int l2, .ref l1, .ref x9, .ref x8], h6)) r39_116 rfl rfl (E_vV r39_117 (As := [.ref x8, .ref x9, .ref l1, .int l2]) (rest := []) (cut_n mi78.1 rfl rfl) (rm8_n mi78.2.1 (Nat.le_of_ble_eq_true rfl) (Nat.le_of_ble_eq_true rfl)) mi78.2.2 (fun h10 => go (w := (121, [.ref l0, .ref l1, .int l2, .int l3, .int l4, .int l5, .int l6, .int l7, .int l8], [.ref l0], h10)) r39_120 rfl rfl (E_gR r39_121 rfl (fun x12 => E_gI r39_124 rfl (fun x13 => go (w := (129, [.ref l0, .ref l1, .int l2, .int l3, .int l4, .int l5, .int l6, .int l7, .int l8], [.int l7, .int x13], h10)) r39_127 rfl rfl (E_i2_le r39_129 rfl (rfl) (go (w := (133, [.ref l0, .ref l1, .int l2, .int l3, .int l4, .int l5, .int l6, .int l7, .int l8], [.ref l0], h10)) r39_132 rfl rfl (E_gR r39_133 rfl (fun x14 => E_gI r39_136 rfl (fun x15 => go (w := (141, [.ref l0, .ref l1, .int l2, .int l3, .int l4, .int l5, .int l6, .int x15, .int l8], [], h10)) r39_139 rfl rfl (go (w := (143, [.ref l0, .ref l1, .int l2, .int l3, .int l4, .int l5, .int l6, .int x15, .int l8], [.int l8], h10)) r39_141 rfl rfl (go (w := (145, [.ref l0, .ref l1, .int l2, .int l3, .int l4, .int l5, .int l8, .int x15, .int l8], [], h10)) r39_143 rfl rfl (rfl))))))))))))))))))))))))))))
theorem b39_145 (d : Nat) (l0 : Nat) (l1 : Nat) (l2 : Int32) (l3 : Int32) (l4 : Int32) (l5 : Int32) (l6 : Int32) (l7 : Int32) (l8 : Int32) (h : aH) (K : Option Value → aH → Prop) : E scr false d 39 145 [.ref l0, .ref l1, .int l2, .int l3, .int l4, .int l5, .int l6, .int l7, .int l8] [] h K = E scr false d 39 40 [.ref l0, .ref l1, .int l2, .int l3, .int l4, .int l5, .int l6, .int l7, .int (l8 + 1)] [] h K := E_inc r39_145 (c := 1) rfl (by decide) (L' := [.ref l0, .ref l1, .int l2, .int l3, .int l4, .int l5, .int l6, .int l7, .int (l8 + 1)]) rfl (E_gt r39_148 rfl (rfl))
theorem b39_151 (d : Nat) (l0 : Nat) (l1 : Nat) (l2 : Int32) (l3 : Int32) (l4 : Int32) (l5 : Int32) (l6 : Int32) (l7 : Int32) (l8 : Int32) (h : aH) (K : Option Value → aH → Prop) : E scr false d 39 151 [.ref l0, .ref l1, .int l2, .int l3, .int l4, .int l5, .int l6, .int l7, .int l8] [] h K = (if l3 = 0 then K (some (.int l6)) h else K (some (.int l7)) h) := go (w := (152, [.ref l0, .ref l1, .int l2, .int l3, .int l4, .int l5, .int l6, .int l7, .int l8], [.int l3], h)) r39_151 rfl rfl (E_i1_ne r39_152 rfl (go (w := (162, [.ref l0, .ref l1, .int l2, .int l3, .int l4, .int l5, .int l6, .int l7, .int l8], [.int l7], h)) r39_160 rfl rfl (E_ri r39_162 (mq39))) (go (w := (157, [.ref l0, .ref l1, .int l2, .int l3, .int l4, .int l5, .int l6, .int l7, .int l8], [.int l6], h)) r39_155 rfl rfl (E_gt r39_157 rfl (E_ri r39_162 (mq39)))))
-- 40 SecondNearest$Planner.findCourse(LSecondNearest$Law;III)I
theorem mq40 : mRet 40 = (some .int) := by decide +kernel
theorem r40_0 : rowAt 40 0 = some (.iload_n 2, 1, 0, 0) := by decide +kernel
theorem r40_1 : rowAt 40 1 = some (.ifCond .lt 11, 3, 0, 0) := by decide +kernel
theorem r40_4 : rowAt 40 4 = some (.iload_n 2, 1, 0, 0) := by decide +kernel
theorem r40_5 : rowAt 40 5 = some (.getstatic 138, 3, 2, 0) := by decide +kernel
theorem r40_8 : rowAt 40 8 = some (.arraylength, 1, 0, 0) := by decide +kernel
theorem r40_9 : rowAt 40 9 = some (.if_icmp .lt 5, 3, 0, 0) := by decide +kernel
theorem r40_12 : rowAt 40 12 = some (.iconst (-1), 1, 0, 0) := by decide +kernel
theorem r40_13 : rowAt 40 13 = some (.ireturn, 1, 0, 0) := by decide +kernel
theorem r40_14 : rowAt 40 14 = some (.aload_n 0, 1, 0, 0) := by decide +kernel
theorem r40_15 : rowAt 40 15 = some (.getfield 12, 3, 4, 3) := by decide +kernel
theorem r40_18 : rowAt 40 18 = some (.aload_n 0, 1, 0, 0) := by decide +kernel
theorem r40_19 : rowAt 40 19 = some (.getfield 32, 3, 4, 0) := by decide +kernel
theorem r40_22 : rowAt 40 22 = some (.invokevirtual 43, 3, 51, 0) := by decide +kernel
theorem r40_25 : rowAt 40 25 = some (.aload_n 0, 1, 0, 0) := by decide +kernel
theorem r40_26 : rowAt 40 26 = some (.iload_n 2, 1, 0, 0) := by decide +kernel
theorem r40_27 : rowAt 40 27 = some (.iload_n 3, 1, 0, 0) := by decide +kernel
theorem r40_28 : rowAt 40 28 = some (.iadd, 1, 0, 0) := by decide +kernel
theorem r40_29 : rowAt 40 29 = some (.invokevirtual 127, 3, 38, 0) := by decide +kernel
theorem r40_32 : rowAt 40 32 = some (.istore 5, 2, 0, 0) := by decide +kernel
theorem r40_34 : rowAt 40 34 = some (.iconst 0, 1, 0, 0) := by decide +kernel
theorem r40_35 : rowAt 40 35 = some (.istore 6, 2, 0, 0) := by decide +kernel
theorem r40_37 : rowAt 40 37 = some (.iconst (-1), 1, 0, 0) := by decide +kernel
theorem r40_38 : rowAt 40 38 = some (.istore 7, 2, 0, 0) := by decide +kernel
theorem r40_40 : rowAt 40 40 = some (.iconst 0, 1, 0, 0) := by decide +kernel
theorem r40_41 : rowAt 40 41 = some (.istore 8, 2, 0, 0) := by decide +kernel
theorem r40_43 : rowAt 40 43 = some (.iload 8, 2, 0, 0) := by decide +kernel
theorem r40_45 : rowAt 40 45 = some (.getstatic 138, 3, 2, 0) := by decide +kernel
theorem r40_48 : rowAt 40 48 = some (.iload_n 2, 1, 0, 0) := by decide +kernel
theorem r40_49 : rowAt 40 49 = some (.iaload, 1, 0, 0) := by decide +kernel
theorem r40_50 : rowAt 40 50 = some (.if_icmp .ge 42, 3, 0, 0) := by decide +kernel
theorem r40_53 : rowAt 40 53 = some (.iload 7, 2, 0, 0) := by decide +kernel
theorem r40_55 : rowAt 40 55 = some (.iload 5, 2, 0, 0) := by decide +kernel
theorem r40_57 : rowAt 40 57 = some (.if_icmp .ge 35, 3, 0, 0) := by decide +kernel
theorem r40_60 : rowAt 40 60 = some (.aload_n 0, 1, 0, 0) := by decide +kernel
theorem r40_61 : rowAt 40 61 = some (.aload_n 1, 1, 0, 0) := by decide +kernel
theorem r40_62 : rowAt 40 62 = some (.iload 8, 2, 0, 0) := by decide +kernel
theorem r40_64 : rowAt 40 64 = some (.iload_n 2, 1, 0, 0) := by decide +kernel
theorem r40_65 : rowAt 40 65 = some (.iload_n 3, 1, 0, 0) := by decide +kernel
theorem r40_66 : rowAt 40 66 = some (.invokevirtual 141, 3, 41, 0) := by decide +kernel
theorem r40_69 : rowAt 40 69 = some (.istore 9, 2, 0, 0) := by decide +kernel
theorem r40_71 : rowAt 40 71 = some (.iload 9, 2, 0, 0) := by decide +kernel
theorem r40_73 : rowAt 40 73 = some (.iload 7, 2, 0, 0) := by decide +kernel
theorem r40_75 : rowAt 40 75 = some (.if_icmp .le 11, 3, 0, 0) := by decide +kernel
theorem r40_78 : rowAt 40 78 = some (.iload 9, 2, 0, 0) := by decide +kernel
theorem r40_80 : rowAt 40 80 = some (.istore 7, 2, 0, 0) := by decide +kernel
theorem r40_82 : rowAt 40 82 = some (.iload 8, 2, 0, 0) := by decide +kernel
theorem r40_84 : rowAt 40 84 = some (.istore 6, 2, 0, 0) := by decide +kernel
theorem r40_86 : rowAt 40 86 = some (.iinc 8 1, 3, 0, 0) := by decide +kernel
theorem r40_89 : rowAt 40 89 = some (.goto (-46), 3, 0, 0) := by decide +kernel
theorem r40_92 : rowAt 40 92 = some (.iload 4, 2, 0, 0) := by decide +kernel
theorem r40_94 : rowAt 40 94 = some (.ifCond .ne 8, 3, 0, 0) := by decide +kernel
theorem r40_97 : rowAt 40 97 = some (.iload 7, 2, 0, 0) := by decide +kernel
theorem r40_99 : rowAt 40 99 = some (.goto 13, 3, 0, 0) := by decide +kernel
theorem r40_102 : rowAt 40 102 = some (.iload 6, 2, 0, 0) := by decide +kernel
theorem r40_104 : rowAt 40 104 = some (.iload 4, 2, 0, 0) := by decide +kernel
theorem r40_106 : rowAt 40 106 = some (.iconst 1, 1, 0, 0) := by decide +kernel
theorem r40_107 : rowAt 40 107 = some (.isub, 1, 0, 0) := by decide +kernel
theorem r40_108 : rowAt 40 108 = some (.iload_n 2, 1, 0, 0) := by decide +kernel
theorem r40_109 : rowAt 40 109 = some (.invokestatic 145, 3, 42, 1) := by decide +kernel
theorem r40_112 : rowAt 40 112 = some (.ireturn, 1, 0, 0) := by decide +kernel
theorem en40 (a0 : Nat) (a1 : Nat) (a2 : Int32) (a3 : Int32) (a4 : Int32) : iniL 40 [.ref a0, .ref a1, .int a2, .int a3, .int a4] = [.ref a0, .ref a1, .int a2, .int a3, .int a4, .null, .null, .null, .null, .null] := ini_n mi40 rfl
theorem b40_0 (d : Nat) (l0 : Nat) (l1 : Nat) (l2 : Int32) (l3 : Int32) (l4 : Int32) (h : aH) (K : Option Value → aH → Prop) : E scr false (d + 1) 40 0 [.ref l0, .ref l1, .int l2, .int l3, .int l4, .null, .null, .null, .null, .null] [] h K = (if l2 < 0 then K (some (.int (-1))) h else aN scr h 10002 (fun x1 : Nat => (if l2 < (Int32.ofNat x1) then gR scr h l0 4 3 (fun x2 : Nat => gR scr h l0 4 0 (fun x3 : Nat => vV scr d 51 [.ref x2, .ref x3] h (fun h4 : aH => vI scr d 38 [.ref l0, .int (l2 + l3)] h4 (fun (x7 : Int32) (h6 : aH) => E scr false (d + 1) 40 43 [.ref l0, .ref l1, .int l2, .int l3, .int l4, .int x7, .int 0, .int (-1), .int 0, .null] [] h6 K)))) else K (some (.int (-1))) h))) := go (w := (1, [.ref l0, .ref l1, .int l2, .int l3, .int l4, .null, .null, .null, .null, .null], [.int l2], h)) r40_0 rfl rfl (E_i1_lt r40_1 rfl (E_ic r40_12 (v := (-1)) (by decide) (E_ri r40_13 (mq40))) (go (w := (5, [.ref l0, .ref l1, .int l2, .int l3, .int l4, .null, .null, .null, .null, .null], [.int l2], h)) r40_4 rfl rfl (E_gs r40_5 (v := .ref 10002) rfl (E_aN r40_8 (fun x1 => E_i2_lt r40_9 rfl (go (w := (15, [.ref l0, .ref l1, .int l2, .int l3, .int l4, .null, .null, .null, .null, .null], [.ref l0], h)) r40_14 rfl rfl (E_gR r40_15 rfl (fun x2 => go (w := (19, [.ref l0, .ref l1, .int l2, .int l3, .int l4, .null, .null, .null, .null, .null], [.ref l0, .ref x2], h)) r40_18 rfl rfl (E_gR r40_19 rfl (fun x3 => E_vV r40_22 (As := [.ref x2, .ref x3]) (rest := []) (cut_n mi51.1 rfl rfl) (rm8_n mi51.2.1 (Nat.le_of_ble_eq_true rfl) (Nat.le_of_ble_eq_true rfl)) mi51.2.2 (fun h4 => go (w := (26, [.ref l0, .ref l1, .int l2, .int l3, .int l4, .null, .null, .null, .null, .null], [.ref l0], h4)) r40_25 rfl rfl (go (w := (27, [.ref l0, .ref l1, .int l2, .int l3, .int l4, .null, .null, .null, .null, .null], [.int l2, .ref l0], h4)) r40_26 rfl rfl (go (w := (28, [.ref l0, .ref l1, .int l2, .int l3, .int l4, .null, .null, .null, .null, .null], [.int l3, .int l2, .ref l0], h4)) r40_27 rfl rfl (go (w := (29, [.ref l0, .ref l1, .int l2, .int l3, .int l4, .null, .null, .null, .null, .null], [.int (l2 + l3), .ref l0], h4)) r40_28 rfl rfl (E_vI r40_29 (As := [.ref l0, .int (l2 + l3)]) (rest := []) (cut_n mi38.1 rfl rfl) (rm8_n mi38.2.1 (Nat.le_of_ble_eq_true rfl) (Nat.le_of_ble_eq_true rfl)) mi38.2.2 (fun x7 h6 => go (w := (34, [.ref l0, .ref l1, .int l2, .int l3, .int l4, .int x7, .null, .null, .null, .null], [], h6)) r40_32 rfl rfl (E_ic r40_34 (v := 0) (by decide) (go (w := (37, [.ref l0, .ref l1, .int l2, .int l3, .int l4, .int x7, .int 0, .null, .null, .null], [], h6)) r40_35 rfl rfl (E_ic r40_37 (v := (-1)) (by decide) (go (w := (40, [.ref l0, .ref l1, .int l2, .int l3, .int l4, .int x7, .int 0, .int (-1), .null, .null], [], h6)) r40_38 rfl rfl (E_ic r40_40 (v := 0) (by decide) (go (w := (43, [.ref l0, .ref l1, .int l2, .int l3, .int l4, .int x7, .int 0, .int (-1), .int 0, .null], [], h6)) r40_41 rfl rfl (rfl)))))))))))))))))) (E_ic r40_12 (v := (-1)) (by decide) (E_ri r40_13 (mq40))))))))
theorem b40_43 (d : Nat) (l0 : Nat) (l1 : Nat) (l2 : Int32) (l3 : Int32) (l4 : Int32) (l5 : Int32) (l6 : Int32) (l7 : Int32) (l8 : Int32) (l9 : Value) (h : aH) (K : Option Value → aH → Prop) : E scr false (d + 1) 40 43 [.ref l0, .ref l1, .int l2, .int l3, .int l4, .int l5, .int l6, .int l7, .int l8, l9] [] h K = aI scr h 10002 l2 (fun x1 : Int32 => (if x1 ≤ l8 then E scr false (d + 1) 40 92 [.ref l0, .ref l1, .int l2, .int l3, .int l4, .int l5, .int l6, .int l7, .int l8, l9] [] h K else (if l5 ≤ l7 then E scr false (d + 1) 40 92 [.ref l0, .ref l1, .int l2, .int l3, .int l4, .int l5, .int l6, .int l7, .int l8, l9] [] h K else vI scr d 41 [.ref l0, .ref l1, .int l8, .int l2, .int l3] h (fun (x3 : Int32) (h2 : aH) => (if x3 ≤ l7 then E scr false (d + 1) 40 86 [.ref l0, .ref l1, .int l2, .int l3, .int l4, .int l5, .int l6, .int l7, .int l8, .int x3] [] h2 K else E scr false (d + 1) 40 86 [.ref l0, .ref l1, .int l2, .int l3, .int l4, .int l5, .int l8, .int x3, .int l8, .int x3] [] h2 K))))) := go (w := (45, [.ref l0, .ref l1, .int l2, .int l3, .int l4, .int l5, .int l6, .int l7, .int l8, l9], [.int l8], h)) r40_43 rfl rfl (E_gs r40_45 (v := .ref 10002) rfl (go (w := (49, [.ref l0, .ref l1, .int l2, .int l3, .int l4, .int l5, .int l6, .int l7, .int l8, l9], [.int l2, .ref 10002, .int l8], h)) r40_48 rfl rfl (E_aI r40_49 (fun x1 => E_i2_ge r40_50 rfl (rfl) (go (w := (55, [.ref l0, .ref l1, .int l2, .int l3, .int l4, .int l5, .int l6, .int l7, .int l8, l9], [.int l7], h)) r40_53 rfl rfl (go (w := (57, [.ref l0, .ref l1, .int l2, .int l3, .int l4, .int l5, .int l6, .int l7, .int l8, l9], [.int l5, .int l7], h)) r40_55 rfl rfl (E_i2_ge r40_57 rfl (rfl) (go (w := (61, [.ref l0, .ref l1, .int l2, .int l3, .int l4, .int l5, .int l6, .int l7, .int l8, l9], [.ref l0], h)) r40_60 rfl rfl (go (w := (62, [.ref l0, .ref l1, .int l2, .int l3, .int l4, .int l5, .int l6, .int l7, .int l8, l9], [.ref l1, .ref l0], h)) r40_61 rfl rfl (go (w := (64, [.ref l0, .ref l1, .int l2, .int l3, .int l4, .int l5, .int l6, .int l7, .int l8, l9], [.int l8, .ref l1, .ref l0], h)) r40_62 rfl rfl (go (w := (65, [.ref l0, .ref l1, .int l2, .int l3, .int l4, .int l5, .int l6, .int l7, .int l8, l9], [.int l2, .int l8, .ref l1, .ref l0], h)) r40_64 rfl rfl (go (w := (66, [.ref l0, .ref l1, .int l2, .int l3, .int l4, .int l5, .int l6, .int l7, .int l8, l9], [.int l3, .int l2, .int l8, .ref l1, .ref l0], h)) r40_65 rfl rfl (E_vI r40_66 (As := [.ref l0, .ref l1, .int l8, .int l2, .int l3]) (rest := []) (cut_n mi41.1 rfl rfl) (rm8_n mi41.2.1 (Nat.le_of_ble_eq_true rfl) (Nat.le_of_ble_eq_true rfl)) mi41.2.2 (fun x3 h2 => go (w := (71, [.ref l0, .ref l1, .int l2, .int l3, .int l4, .int l5, .int l6, .int l7, .int l8, .int x3], [], h2)) r40_69 rfl rfl (go (w := (73, [.ref l0, .ref l1, .int l2, .int l3, .int l4, .int l5, .int l6, .int l7, .int l8, .int x3], [.int x3], h2)) r40_71 rfl rfl (go (w := (75, [.ref l0, .ref l1, .int l2, .int l3, .int l4, .int l5, .int l6, .int l7, .int l8, .int x3], [.int l7, .int x3], h2)) r40_73 rfl rfl (E_i2_le r40_75 rfl (rfl) (go (w := (80, [.ref l0, .ref l1, .int l2, .int l3, .int l4, .int l5, .int l6, .int l7, .int l8, .int x3], [.int x3], h2)) r40_78 rfl rfl (go (w := (82, [.ref l0, .ref l1, .int l2, .int l3, .int l4, .int l5, .int l6, .int x3, .int l8, .int x3], [], h2)) r40_80 rfl rfl (go (w := (84, [.ref l0, .ref l1, .int l2, .int l3, .int l4, .int l5, .int l6, .int x3, .int l8, .int x3], [.int l8], h2)) r40_82 rfl rfl (go (w := (86, [.ref l0, .ref l1, .int l2, .int l3, .int l4, .int l5, .int l8, .int x3, .int l8, .int x3], [], h2)) r40_84 rfl rfl (rfl))))))))))))))))))))))
theorem b40_86 (d : Nat) (l0 : Nat) (l1 : Nat) (l2 : Int32) (l3 : Int32) (l4 : Int32) (l5 : Int32) (l6 : Int32) (l7 : Int32) (l8 : Int32) (l9 : Int32) (h : aH) (K : Option Value → aH → Prop) : E scr false d 40 86 [.ref l0, .ref l1, .int l2, .int l3, .int l4, .int l5, .int l6, .int l7, .int l8, .int l9] [] h K = E scr false d 40 43 [.ref l0, .ref l1, .int l2, .int l3, .int l4, .int l5, .int l6, .int l7, .int (l8 + 1), .int l9] [] h K := E_inc r40_86 (c := 1) rfl (by decide) (L' := [.ref l0, .ref l1, .int l2, .int l3, .int l4, .int l5, .int l6, .int l7, .int (l8 + 1), .int l9]) rfl (E_gt r40_89 rfl (rfl))
theorem b40_92 (d : Nat) (l0 : Nat) (l1 : Nat) (l2 : Int32) (l3 : Int32) (l4 : Int32) (l5 : Int32) (l6 : Int32) (l7 : Int32) (l8 : Int32) (l9 : Value) (h : aH) (K : Option Value → aH → Prop) : E scr false (d + 1) 40 92 [.ref l0, .ref l1, .int l2, .int l3, .int l4, .int l5, .int l6, .int l7, .int l8, l9] [] h K = (if l4 = 0 then K (some (.int l7)) h else sI scr d 42 [.int l6, .int (l4 - 1), .int l2] h (fun (x2 : Int32) (h1 : aH) => K (some (.int x2)) h1)) := go (w := (94, [.ref l0, .ref l1, .int l2, .int l3, .int l4, .int l5, .int l6, .int l7, .int l8, l9], [.int l4], h)) r40_92 rfl rfl (E_i1_ne r40_94 rfl (go (w := (104, [.ref l0, .ref l1, .int l2, .int l3, .int l4, .int l5, .int l6, .int l7, .int l8, l9], [.int l6], h)) r40_102 rfl rfl (go (w := (106, [.ref l0, .ref l1, .int l2, .int l3, .int l4, .int l5, .int l6, .int l7, .int l8, l9], [.int l4, .int l6], h)) r40_104 rfl rfl (E_ic r40_106 (v := 1) (by decide) (go (w := (108, [.ref l0, .ref l1, .int l2, .int l3, .int l4, .int l5, .int l6, .int l7, .int l8, l9], [.int (l4 - 1), .int l6], h)) r40_107 rfl rfl (go (w := (109, [.ref l0, .ref l1, .int l2, .int l3, .int l4, .int l5, .int l6, .int l7, .int l8, l9], [.int l2, .int (l4 - 1), .int l6], h)) r40_108 rfl rfl (E_sI r40_109 (As := [.int l6, .int (l4 - 1), .int l2]) (rest := []) (cut_n mi42.1 rfl rfl) (rm8_n mi42.2.1 (Nat.le_of_ble_eq_true rfl) (Nat.le_of_ble_eq_true rfl)) mi42.2.2 (fun x2 h1 => E_ri r40_112 (mq40)))))))) (go (w := (99, [.ref l0, .ref l1, .int l2, .int l3, .int l4, .int l5, .int l6, .int l7, .int l8, l9], [.int l7], h)) r40_97 rfl rfl (E_gt r40_99 rfl (E_ri r40_112 (mq40)))))
-- 41 SecondNearest$Planner.tryCourse(LSecondNearest$Law;III)I
theorem mq41 : mRet 41 = (some .int) := by decide +kernel
theorem r41_0 : rowAt 41 0 = some (.aload_n 0, 1, 0, 0) := by decide +kernel
theorem r41_1 : rowAt 41 1 = some (.getfield 12, 3, 4, 3) := by decide +kernel
theorem r41_4 : rowAt 41 4 = some (.aload_n 0, 1, 0, 0) := by decide +kernel
theorem r41_5 : rowAt 41 5 = some (.getfield 32, 3, 4, 0) := by decide +kernel
theorem r41_8 : rowAt 41 8 = some (.invokevirtual 116, 3, 52, 0) := by decide +kernel
theorem r41_11 : rowAt 41 11 = some (.iconst 0, 1, 0, 0) := by decide +kernel
theorem r41_12 : rowAt 41 12 = some (.istore 5, 2, 0, 0) := by decide +kernel
theorem r41_14 : rowAt 41 14 = some (.iload 5, 2, 0, 0) := by decide +kernel
theorem r41_16 : rowAt 41 16 = some (.iload_n 3, 1, 0, 0) := by decide +kernel
theorem r41_17 : rowAt 41 17 = some (.if_icmp .ge 54, 3, 0, 0) := by decide +kernel
theorem r41_20 : rowAt 41 20 = some (.iload_n 2, 1, 0, 0) := by decide +kernel
theorem r41_21 : rowAt 41 21 = some (.iload 5, 2, 0, 0) := by decide +kernel
theorem r41_23 : rowAt 41 23 = some (.iload_n 3, 1, 0, 0) := by decide +kernel
theorem r41_24 : rowAt 41 24 = some (.invokestatic 145, 3, 42, 1) := by decide +kernel
theorem r41_27 : rowAt 41 27 = some (.istore 6, 2, 0, 0) := by decide +kernel
theorem r41_29 : rowAt 41 29 = some (.iload 6, 2, 0, 0) := by decide +kernel
theorem r41_31 : rowAt 41 31 = some (.bipush 8, 2, 0, 0) := by decide +kernel
theorem r41_33 : rowAt 41 33 = some (.if_icmp .ge 19, 3, 0, 0) := by decide +kernel
theorem r41_36 : rowAt 41 36 = some (.aload_n 0, 1, 0, 0) := by decide +kernel
theorem r41_37 : rowAt 41 37 = some (.getfield 12, 3, 4, 3) := by decide +kernel
theorem r41_40 : rowAt 41 40 = some (.bipush 12, 2, 0, 0) := by decide +kernel
theorem r41_42 : rowAt 41 42 = some (.iload 6, 2, 0, 0) := by decide +kernel
theorem r41_44 : rowAt 41 44 = some (.invokevirtual 149, 3, 61, 0) := by decide +kernel
theorem r41_47 : rowAt 41 47 = some (.ifCond .ne 5, 3, 0, 0) := by decide +kernel
theorem r41_50 : rowAt 41 50 = some (.iconst (-1), 1, 0, 0) := by decide +kernel
theorem r41_51 : rowAt 41 51 = some (.ireturn, 1, 0, 0) := by decide +kernel
theorem r41_52 : rowAt 41 52 = some (.aload_n 0, 1, 0, 0) := by decide +kernel
theorem r41_53 : rowAt 41 53 = some (.getfield 35, 3, 4, 1) := by decide +kernel
theorem r41_56 : rowAt 41 56 = some (.aload_n 0, 1, 0, 0) := by decide +kernel
theorem r41_57 : rowAt 41 57 = some (.getfield 12, 3, 4, 3) := by decide +kernel
theorem r41_60 : rowAt 41 60 = some (.aload_n 1, 1, 0, 0) := by decide +kernel
theorem r41_61 : rowAt 41 61 = some (.invokevirtual 77, 3, 79, 0) := by decide +kernel
theorem r41_64 : rowAt 41 64 = some (.pop, 1, 0, 0) := by decide +kernel
theorem r41_65 : rowAt 41 65 = some (.iinc 5 1, 3, 0, 0) := by decide +kernel
theorem r41_68 : rowAt 41 68 = some (.goto (-54), 3, 0, 0) := by decide +kernel
theorem r41_71 : rowAt 41 71 = some (.aload_n 0, 1, 0, 0) := by decide +kernel
theorem r41_72 : rowAt 41 72 = some (.getfield 35, 3, 4, 1) := by decide +kernel
theorem r41_75 : rowAt 41 75 = some (.aload_n 0, 1, 0, 0) := by decide +kernel
theorem r41_76 : rowAt 41 76 = some (.getfield 12, 3, 4, 3) := by decide +kernel
theorem r41_79 : rowAt 41 79 = some (.aload_n 1, 1, 0, 0) := by decide +kernel
theorem r41_80 : rowAt 41 80 = some (.iload 4, 2, 0, 0) := by decide +kernel
theorem r41_82 : rowAt 41 82 = some (.invokevirtual 47, 3, 78, 0) := by decide +kernel
theorem r41_85 : rowAt 41 85 = some (.aload_n 0, 1, 0, 0) := by decide +kernel
theorem r41_86 : rowAt 41 86 = some (.getfield 12, 3, 4, 3) := by decide +kernel
theorem r41_89 : rowAt 41 89 = some (.getfield 53, 3, 5, 6) := by decide +kernel
theorem r41_92 : rowAt 41 92 = some (.ireturn, 1, 0, 0) := by decide +kernel
theorem en41 (a0 : Nat) (a1 : Nat) (a2 : Int32) (a3 : Int32) (a4 : Int32) : iniL 41 [.ref a0, .ref a1, .int a2, .int a3, .int a4] = [.ref a0, .ref a1, .int a2, .int a3, .int a4, .null, .null] := ini_n mi41 rfl
theorem b41_0 (d : Nat) (l0 : Nat) (l1 : Nat) (l2 : Int32) (l3 : Int32) (l4 : Int32) (h : aH) (K : Option Value → aH → Prop) : E scr false (d + 1) 41 0 [.ref l0, .ref l1, .int l2, .int l3, .int l4, .null, .null] [] h K = gR scr h l0 4 3 (fun x1 : Nat => gR scr h l0 4 0 (fun x2 : Nat => vV scr d 52 [.ref x1, .ref x2] h (fun h3 : aH => E scr false (d + 1) 41 14 [.ref l0, .ref l1, .int l2, .int l3, .int l4, .int 0, .null] [] h3 K))) := go (w := (1, [.ref l0, .ref l1, .int l2, .int l3, .int l4, .null, .null], [.ref l0], h)) r41_0 rfl rfl (E_gR r41_1 rfl (fun x1 => go (w := (5, [.ref l0, .ref l1, .int l2, .int l3, .int l4, .null, .null], [.ref l0, .ref x1], h)) r41_4 rfl rfl (E_gR r41_5 rfl (fun x2 => E_vV r41_8 (As := [.ref x1, .ref x2]) (rest := []) (cut_n mi52.1 rfl rfl) (rm8_n mi52.2.1 (Nat.le_of_ble_eq_true rfl) (Nat.le_of_ble_eq_true rfl)) mi52.2.2 (fun h3 => E_ic r41_11 (v := 0) (by decide) (go (w := (14, [.ref l0, .ref l1, .int l2, .int l3, .int l4, .int 0, .null], [], h3)) r41_12 rfl rfl (rfl)))))))
theorem b41_14 (d : Nat) (l0 : Nat) (l1 : Nat) (l2 : Int32) (l3 : Int32) (l4 : Int32) (l5 : Int32) (l6 : Value) (h : aH) (K : Option Value → aH → Prop) : E scr false (d + 1) 41 14 [.ref l0, .ref l1, .int l2, .int l3, .int l4, .int l5, l6] [] h K = (if l3 ≤ l5 then gR scr h l0 4 1 (fun x1 : Nat => gR scr h l0 4 3 (fun x2 : Nat => vV scr d 78 [.ref x1, .ref x2, .ref l1, .int l4] h (fun h3 : aH => gR scr h3 l0 4 3 (fun x5 : Nat => gI scr h3 x5 5 6 (fun x6 : Int32 => K (some (.int x6)) h3))))) else sI scr d 42 [.int l2, .int l5, .int l3] h (fun (x8 : Int32) (h7 : aH) => (if 8 ≤ x8 then E scr false (d + 1) 41 52 [.ref l0, .ref l1, .int l2, .int l3, .int l4, .int l5, .int x8] [] h7 K else gR scr h7 l0 4 3 (fun x9 : Nat => vI scr d 61 [.ref x9, .int 12, .int x8] h7 (fun (x11 : Int32) (h10 : aH) => (if x11 = 0 then K (some (.int (-1))) h10 else E scr false (d + 1) 41 52 [.ref l0, .ref l1, .int l2, .int l3, .int l4, .int l5, .int x8] [] h10 K)))))) := go (w := (16, [.ref l0, .ref l1, .int l2, .int l3, .int l4, .int l5, l6], [.int l5], h)) r41_14 rfl rfl (go (w := (17, [.ref l0, .ref l1, .int l2, .int l3, .int l4, .int l5, l6], [.int l3, .int l5], h)) r41_16 rfl rfl (E_i2_ge r41_17 rfl (go (w := (72, [.ref l0, .ref l1, .int l2, .int l3, .int l4, .int l5, l6], [.ref l0], h)) r41_71 rfl rfl (E_gR r41_72 rfl (fun x1 => go (w := (76, [.ref l0, .ref l1, .int l2, .int l3, .int l4, .int l5, l6], [.ref l0, .ref x1], h)) r41_75 rfl rfl (E_gR r41_76 rfl (fun x2 => go (w := (80, [.ref l0, .ref l1, .int l2, .int l3, .int l4, .int l5, l6], [.ref l1, .ref x2, .ref x1], h)) r41_79 rfl rfl (go (w := (82, [.ref l0, .ref l1, .int l2, .int l3, .int l4, .int l5, l6], [.int l4, .ref l1, .ref x2, .ref x1], h)) r41_80 rfl rfl (E_vV r41_82 (As := [.ref x1, .ref x2, .ref l1, .int l4]) (rest := []) (cut_n mi78.1 rfl rfl) (rm8_n mi78.2.1 (Nat.le_of_ble_eq_true rfl) (Nat.le_of_ble_eq_true rfl)) mi78.2.2 (fun h3 => go (w := (86, [.ref l0, .ref l1, .int l2, .int l3, .int l4, .int l5, l6], [.ref l0], h3)) r41_85 rfl rfl (E_gR r41_86 rfl (fun x5 => E_gI r41_89 rfl (fun x6 => E_ri r41_92 (mq41)))))))))))) (go (w := (21, [.ref l0, .ref l1, .int l2, .int l3, .int l4, .int l5, l6], [.int l2], h)) r41_20 rfl rfl (go (w := (23, [.ref l0, .ref l1, .int l2, .int l3, .int l4, .int l5, l6], [.int l5, .int l2], h)) r41_21 rfl rfl (go (w := (24, [.ref l0, .ref l1, .int l2, .int l3, .int l4, .int l5, l6], [.int l3, .int l5, .int l2], h)) r41_23 rfl rfl (E_sI r41_24 (As := [.int l2, .int l5, .int l3]) (rest := []) (cut_n mi42.1 rfl rfl) (rm8_n mi42.2.1 (Nat.le_of_ble_eq_true rfl) (Nat.le_of_ble_eq_true rfl)) mi42.2.2 (fun x8 h7 => go (w := (29, [.ref l0, .ref l1, .int l2, .int l3, .int l4, .int l5, .int x8], [], h7)) r41_27 rfl rfl (go (w := (31, [.ref l0, .ref l1, .int l2, .int l3, .int l4, .int l5, .int x8], [.int x8], h7)) r41_29 rfl rfl (E_bip r41_31 (v := 8) (by decide) (E_i2_ge r41_33 rfl (rfl) (go (w := (37, [.ref l0, .ref l1, .int l2, .int l3, .int l4, .int l5, .int x8], [.ref l0], h7)) r41_36 rfl rfl (E_gR r41_37 rfl (fun x9 => E_bip r41_40 (v := 12) (by decide) (go (w := (44, [.ref l0, .ref l1, .int l2, .int l3, .int l4, .int l5, .int x8], [.int x8, .int 12, .ref x9], h7)) r41_42 rfl rfl (E_vI r41_44 (As := [.ref x9, .int 12, .int x8]) (rest := []) (cut_n mi61.1 rfl rfl) (rm8_n mi61.2.1 (Nat.le_of_ble_eq_true rfl) (Nat.le_of_ble_eq_true rfl)) mi61.2.2 (fun x11 h10 => E_i1_ne r41_47 rfl (rfl) (E_ic r41_50 (v := (-1)) (by decide) (E_ri r41_51 (mq41)))))))))))))))))))
theorem b41_52 (d : Nat) (l0 : Nat) (l1 : Nat) (l2 : Int32) (l3 : Int32) (l4 : Int32) (l5 : Int32) (l6 : Int32) (h : aH) (K : Option Value → aH → Prop) : E scr false (d + 1) 41 52 [.ref l0, .ref l1, .int l2, .int l3, .int l4, .int l5, .int l6] [] h K = gR scr h l0 4 1 (fun x1 : Nat => gR scr h l0 4 3 (fun x2 : Nat => vI scr d 79 [.ref x1, .ref x2, .ref l1] h (fun (x4 : Int32) (h3 : aH) => E scr false (d + 1) 41 14 [.ref l0, .ref l1, .int l2, .int l3, .int l4, .int (l5 + 1), .int l6] [] h3 K))) := go (w := (53, [.ref l0, .ref l1, .int l2, .int l3, .int l4, .int l5, .int l6], [.ref l0], h)) r41_52 rfl rfl (E_gR r41_53 rfl (fun x1 => go (w := (57, [.ref l0, .ref l1, .int l2, .int l3, .int l4, .int l5, .int l6], [.ref l0, .ref x1], h)) r41_56 rfl rfl (E_gR r41_57 rfl (fun x2 => go (w := (61, [.ref l0, .ref l1, .int l2, .int l3, .int l4, .int l5, .int l6], [.ref l1, .ref x2, .ref x1], h)) r41_60 rfl rfl (E_vI r41_61 (As := [.ref x1, .ref x2, .ref l1]) (rest := []) (cut_n mi79.1 rfl rfl) (rm8_n mi79.2.1 (Nat.le_of_ble_eq_true rfl) (Nat.le_of_ble_eq_true rfl)) mi79.2.2 (fun x4 h3 => go (w := (65, [.ref l0, .ref l1, .int l2, .int l3, .int l4, .int l5, .int l6], [], h3)) r41_64 rfl rfl (E_inc r41_65 (c := 1) rfl (by decide) (L' := [.ref l0, .ref l1, .int l2, .int l3, .int l4, .int (l5 + 1), .int l6]) rfl (E_gt r41_68 rfl (rfl)))))))))
-- 42 SecondNearest$Planner.choiceOf(III)I
theorem mq42 : mRet 42 = (some .int) := by decide +kernel
theorem r42_0 : rowAt 42 0 = some (.iload_n 2, 1, 0, 0) := by decide +kernel
theorem r42_1 : rowAt 42 1 = some (.iconst 1, 1, 0, 0) := by decide +kernel
theorem r42_2 : rowAt 42 2 = some (.isub, 1, 0, 0) := by decide +kernel
theorem r42_3 : rowAt 42 3 = some (.iload_n 1, 1, 0, 0) := by decide +kernel
theorem r42_4 : rowAt 42 4 = some (.isub, 1, 0, 0) := by decide +kernel
theorem r42_5 : rowAt 42 5 = some (.istore_n 3, 1, 0, 0) := by decide +kernel
theorem r42_6 : rowAt 42 6 = some (.iload_n 3, 1, 0, 0) := by decide +kernel
theorem r42_7 : rowAt 42 7 = some (.ifCond .lt 11, 3, 0, 0) := by decide +kernel
theorem r42_10 : rowAt 42 10 = some (.iload_n 3, 1, 0, 0) := by decide +kernel
theorem r42_11 : rowAt 42 11 = some (.getstatic 138, 3, 2, 0) := by decide +kernel
theorem r42_14 : rowAt 42 14 = some (.arraylength, 1, 0, 0) := by decide +kernel
theorem r42_15 : rowAt 42 15 = some (.if_icmp .lt 5, 3, 0, 0) := by decide +kernel
theorem r42_18 : rowAt 42 18 = some (.iconst (-1), 1, 0, 0) := by decide +kernel
theorem r42_19 : rowAt 42 19 = some (.ireturn, 1, 0, 0) := by decide +kernel
theorem r42_20 : rowAt 42 20 = some (.iload_n 0, 1, 0, 0) := by decide +kernel
theorem r42_21 : rowAt 42 21 = some (.getstatic 138, 3, 2, 0) := by decide +kernel
theorem r42_24 : rowAt 42 24 = some (.iload_n 3, 1, 0, 0) := by decide +kernel
theorem r42_25 : rowAt 42 25 = some (.iaload, 1, 0, 0) := by decide +kernel
theorem r42_26 : rowAt 42 26 = some (.idiv, 1, 0, 0) := by decide +kernel
theorem r42_27 : rowAt 42 27 = some (.bipush 9, 2, 0, 0) := by decide +kernel
theorem r42_29 : rowAt 42 29 = some (.irem, 1, 0, 0) := by decide +kernel
theorem r42_30 : rowAt 42 30 = some (.ireturn, 1, 0, 0) := by decide +kernel
theorem en42 (a0 : Int32) (a1 : Int32) (a2 : Int32) : iniL 42 [.int a0, .int a1, .int a2] = [.int a0, .int a1, .int a2, .null] := ini_n mi42 rfl
theorem b42_0 (d : Nat) (l0 : Int32) (l1 : Int32) (l2 : Int32) (h : aH) (K : Option Value → aH → Prop) : E scr false d 42 0 [.int l0, .int l1, .int l2, .null] [] h K = (if ((l2 - 1) - l1) < 0 then K (some (.int (-1))) h else aN scr h 10002 (fun x1 : Nat => (if ((l2 - 1) - l1) < (Int32.ofNat x1) then aI scr h 10002 (((l2 - 1) - l1)) (fun x2 : Int32 => (¬ x2 = 0 ∧ K (some (.int (irm (l0 / x2) 9))) h)) else K (some (.int (-1))) h))) := go (w := (1, [.int l0, .int l1, .int l2, .null], [.int l2], h)) r42_0 rfl rfl (E_ic r42_1 (v := 1) (by decide) (go (w := (3, [.int l0, .int l1, .int l2, .null], [.int (l2 - 1)], h)) r42_2 rfl rfl (go (w := (4, [.int l0, .int l1, .int l2, .null], [.int l1, .int (l2 - 1)], h)) r42_3 rfl rfl (go (w := (5, [.int l0, .int l1, .int l2, .null], [.int ((l2 - 1) - l1)], h)) r42_4 rfl rfl (go (w := (6, [.int l0, .int l1, .int l2, .int ((l2 - 1) - l1)], [], h)) r42_5 rfl rfl (go (w := (7, [.int l0, .int l1, .int l2, .int ((l2 - 1) - l1)], [.int ((l2 - 1) - l1)], h)) r42_6 rfl rfl (E_i1_lt r42_7 rfl (E_ic r42_18 (v := (-1)) (by decide) (E_ri r42_19 (mq42))) (go (w := (11, [.int l0, .int l1, .int l2, .int ((l2 - 1) - l1)], [.int ((l2 - 1) - l1)], h)) r42_10 rfl rfl (E_gs r42_11 (v := .ref 10002) rfl (E_aN r42_14 (fun x1 => E_i2_lt r42_15 rfl (go (w := (21, [.int l0, .int l1, .int l2, .int ((l2 - 1) - l1)], [.int l0], h)) r42_20 rfl rfl (E_gs r42_21 (v := .ref 10002) rfl (go (w := (25, [.int l0, .int l1, .int l2, .int ((l2 - 1) - l1)], [.int ((l2 - 1) - l1), .ref 10002, .int l0], h)) r42_24 rfl rfl (E_aI r42_25 (fun x2 => E_idiv r42_26 (E_bip r42_27 (v := 9) (by decide) (E_remc r42_29 (by decide) (E_ri r42_30 (mq42))))))))) (E_ic r42_18 (v := (-1)) (by decide) (E_ri r42_19 (mq42))))))))))))))
-- 43 SecondNearest$Planner.findWall(LSecondNearest$Law;I)I
theorem mq43 : mRet 43 = (some .int) := by decide +kernel
theorem r43_0 : rowAt 43 0 = some (.aload_n 0, 1, 0, 0) := by decide +kernel
theorem r43_1 : rowAt 43 1 = some (.iload_n 2, 1, 0, 0) := by decide +kernel
theorem r43_2 : rowAt 43 2 = some (.invokevirtual 127, 3, 38, 0) := by decide +kernel
theorem r43_5 : rowAt 43 5 = some (.aload_n 0, 1, 0, 0) := by decide +kernel
theorem r43_6 : rowAt 43 6 = some (.getfield 32, 3, 4, 0) := by decide +kernel
theorem r43_9 : rowAt 43 9 = some (.getfield 91, 3, 5, 3) := by decide +kernel
theorem r43_12 : rowAt 43 12 = some (.if_icmp .ge 6, 3, 0, 0) := by decide +kernel
theorem r43_15 : rowAt 43 15 = some (.bipush (-2), 2, 0, 0) := by decide +kernel
theorem r43_17 : rowAt 43 17 = some (.ireturn, 1, 0, 0) := by decide +kernel
theorem r43_18 : rowAt 43 18 = some (.aload_n 0, 1, 0, 0) := by decide +kernel
theorem r43_19 : rowAt 43 19 = some (.getfield 12, 3, 4, 3) := by decide +kernel
theorem r43_22 : rowAt 43 22 = some (.aload_n 0, 1, 0, 0) := by decide +kernel
theorem r43_23 : rowAt 43 23 = some (.getfield 32, 3, 4, 0) := by decide +kernel
theorem r43_26 : rowAt 43 26 = some (.invokevirtual 43, 3, 51, 0) := by decide +kernel
theorem r43_29 : rowAt 43 29 = some (.bipush (-2), 2, 0, 0) := by decide +kernel
theorem r43_31 : rowAt 43 31 = some (.istore_n 3, 1, 0, 0) := by decide +kernel
theorem r43_32 : rowAt 43 32 = some (.iconst 0, 1, 0, 0) := by decide +kernel
theorem r43_33 : rowAt 43 33 = some (.istore 4, 2, 0, 0) := by decide +kernel
theorem r43_35 : rowAt 43 35 = some (.iload 4, 2, 0, 0) := by decide +kernel
theorem r43_37 : rowAt 43 37 = some (.sipush 144, 3, 0, 0) := by decide +kernel
theorem r43_40 : rowAt 43 40 = some (.if_icmp .ge 126, 3, 0, 0) := by decide +kernel
theorem r43_43 : rowAt 43 43 = some (.iload_n 3, 1, 0, 0) := by decide +kernel
theorem r43_44 : rowAt 43 44 = some (.ifCond .ge 122, 3, 0, 0) := by decide +kernel
theorem r43_47 : rowAt 43 47 = some (.aload_n 0, 1, 0, 0) := by decide +kernel
theorem r43_48 : rowAt 43 48 = some (.getfield 32, 3, 4, 0) := by decide +kernel
theorem r43_51 : rowAt 43 51 = some (.getfield 152, 3, 5, 8) := by decide +kernel
theorem r43_54 : rowAt 43 54 = some (.iload 4, 2, 0, 0) := by decide +kernel
theorem r43_56 : rowAt 43 56 = some (.baload, 1, 0, 0) := by decide +kernel
theorem r43_57 : rowAt 43 57 = some (.ifCond .ne 103, 3, 0, 0) := by decide +kernel
theorem r43_60 : rowAt 43 60 = some (.aload_n 0, 1, 0, 0) := by decide +kernel
theorem r43_61 : rowAt 43 61 = some (.getfield 32, 3, 4, 0) := by decide +kernel
theorem r43_64 : rowAt 43 64 = some (.iload 4, 2, 0, 0) := by decide +kernel
theorem r43_66 : rowAt 43 66 = some (.bipush 12, 2, 0, 0) := by decide +kernel
theorem r43_68 : rowAt 43 68 = some (.irem, 1, 0, 0) := by decide +kernel
theorem r43_69 : rowAt 43 69 = some (.iload 4, 2, 0, 0) := by decide +kernel
theorem r43_71 : rowAt 43 71 = some (.bipush 12, 2, 0, 0) := by decide +kernel
theorem r43_73 : rowAt 43 73 = some (.idiv, 1, 0, 0) := by decide +kernel
theorem r43_74 : rowAt 43 74 = some (.invokevirtual 130, 3, 57, 0) := by decide +kernel
theorem r43_77 : rowAt 43 77 = some (.ifCond .ne 6, 3, 0, 0) := by decide +kernel
theorem r43_80 : rowAt 43 80 = some (.goto 80, 3, 0, 0) := by decide +kernel
theorem r43_83 : rowAt 43 83 = some (.aload_n 0, 1, 0, 0) := by decide +kernel
theorem r43_84 : rowAt 43 84 = some (.getfield 12, 3, 4, 3) := by decide +kernel
theorem r43_87 : rowAt 43 87 = some (.aload_n 0, 1, 0, 0) := by decide +kernel
theorem r43_88 : rowAt 43 88 = some (.getfield 32, 3, 4, 0) := by decide +kernel
theorem r43_91 : rowAt 43 91 = some (.invokevirtual 116, 3, 52, 0) := by decide +kernel
theorem r43_94 : rowAt 43 94 = some (.aload_n 0, 1, 0, 0) := by decide +kernel
theorem r43_95 : rowAt 43 95 = some (.getfield 12, 3, 4, 3) := by decide +kernel
theorem r43_98 : rowAt 43 98 = some (.getfield 152, 3, 5, 8) := by decide +kernel
theorem r43_101 : rowAt 43 101 = some (.iload 4, 2, 0, 0) := by decide +kernel
theorem r43_103 : rowAt 43 103 = some (.iconst 1, 1, 0, 0) := by decide +kernel
theorem r43_104 : rowAt 43 104 = some (.bastore, 1, 0, 0) := by decide +kernel
theorem r43_105 : rowAt 43 105 = some (.aload_n 0, 1, 0, 0) := by decide +kernel
theorem r43_106 : rowAt 43 106 = some (.getfield 39, 3, 4, 2) := by decide +kernel
theorem r43_109 : rowAt 43 109 = some (.aload_n 0, 1, 0, 0) := by decide +kernel
theorem r43_110 : rowAt 43 110 = some (.getfield 12, 3, 4, 3) := by decide +kernel
theorem r43_113 : rowAt 43 113 = some (.invokevirtual 156, 3, 1, 0) := by decide +kernel
theorem r43_116 : rowAt 43 116 = some (.aload_n 0, 1, 0, 0) := by decide +kernel
theorem r43_117 : rowAt 43 117 = some (.getfield 35, 3, 4, 1) := by decide +kernel
theorem r43_120 : rowAt 43 120 = some (.aload_n 0, 1, 0, 0) := by decide +kernel
theorem r43_121 : rowAt 43 121 = some (.getfield 12, 3, 4, 3) := by decide +kernel
theorem r43_124 : rowAt 43 124 = some (.aload_n 1, 1, 0, 0) := by decide +kernel
theorem r43_125 : rowAt 43 125 = some (.iload_n 2, 1, 0, 0) := by decide +kernel
theorem r43_126 : rowAt 43 126 = some (.invokevirtual 47, 3, 78, 0) := by decide +kernel
theorem r43_129 : rowAt 43 129 = some (.aload_n 0, 1, 0, 0) := by decide +kernel
theorem r43_130 : rowAt 43 130 = some (.getfield 12, 3, 4, 3) := by decide +kernel
theorem r43_133 : rowAt 43 133 = some (.getfield 152, 3, 5, 8) := by decide +kernel
theorem r43_136 : rowAt 43 136 = some (.iload 4, 2, 0, 0) := by decide +kernel
theorem r43_138 : rowAt 43 138 = some (.iconst 0, 1, 0, 0) := by decide +kernel
theorem r43_139 : rowAt 43 139 = some (.bastore, 1, 0, 0) := by decide +kernel
theorem r43_140 : rowAt 43 140 = some (.aload_n 0, 1, 0, 0) := by decide +kernel
theorem r43_141 : rowAt 43 141 = some (.getfield 12, 3, 4, 3) := by decide +kernel
theorem r43_144 : rowAt 43 144 = some (.getfield 53, 3, 5, 6) := by decide +kernel
theorem r43_147 : rowAt 43 147 = some (.aload_n 0, 1, 0, 0) := by decide +kernel
theorem r43_148 : rowAt 43 148 = some (.getfield 12, 3, 4, 3) := by decide +kernel
theorem r43_151 : rowAt 43 151 = some (.getfield 91, 3, 5, 3) := by decide +kernel
theorem r43_154 : rowAt 43 154 = some (.if_icmp .ne 6, 3, 0, 0) := by decide +kernel
theorem r43_157 : rowAt 43 157 = some (.iload 4, 2, 0, 0) := by decide +kernel
theorem r43_159 : rowAt 43 159 = some (.istore_n 3, 1, 0, 0) := by decide +kernel
theorem r43_160 : rowAt 43 160 = some (.iinc 4 1, 3, 0, 0) := by decide +kernel
theorem r43_163 : rowAt 43 163 = some (.goto (-128), 3, 0, 0) := by decide +kernel
theorem r43_166 : rowAt 43 166 = some (.aload_n 0, 1, 0, 0) := by decide +kernel
theorem r43_167 : rowAt 43 167 = some (.getfield 39, 3, 4, 2) := by decide +kernel
theorem r43_170 : rowAt 43 170 = some (.aload_n 0, 1, 0, 0) := by decide +kernel
theorem r43_171 : rowAt 43 171 = some (.getfield 32, 3, 4, 0) := by decide +kernel
theorem r43_174 : rowAt 43 174 = some (.invokevirtual 156, 3, 1, 0) := by decide +kernel
theorem r43_177 : rowAt 43 177 = some (.iload_n 3, 1, 0, 0) := by decide +kernel
theorem r43_178 : rowAt 43 178 = some (.ireturn, 1, 0, 0) := by decide +kernel
theorem en43 (a0 : Nat) (a1 : Nat) (a2 : Int32) : iniL 43 [.ref a0, .ref a1, .int a2] = [.ref a0, .ref a1, .int a2, .null, .null] := ini_n mi43 rfl
theorem b43_0 (d : Nat) (l0 : Nat) (l1 : Nat) (l2 : Int32) (h : aH) (K : Option Value → aH → Prop) : E scr false (d + 1) 43 0 [.ref l0, .ref l1, .int l2, .null, .null] [] h K = vI scr d 38 [.ref l0, .int l2] h (fun (x2 : Int32) (h1 : aH) => gR scr h1 l0 4 0 (fun x3 : Nat => gI scr h1 x3 5 3 (fun x4 : Int32 => (if x4 ≤ x2 then gR scr h1 l0 4 3 (fun x5 : Nat => gR scr h1 l0 4 0 (fun x6 : Nat => vV scr d 51 [.ref x5, .ref x6] h1 (fun h7 : aH => E scr false (d + 1) 43 35 [.ref l0, .ref l1, .int l2, .int (-2), .int 0] [] h7 K))) else K (some (.int (-2))) h1)))) := go (w := (1, [.ref l0, .ref l1, .int l2, .null, .null], [.ref l0], h)) r43_0 rfl rfl (go (w := (2, [.ref l0, .ref l1, .int l2, .null, .null], [.int l2, .ref l0], h)) r43_1 rfl rfl (E_vI r43_2 (As := [.ref l0, .int l2]) (rest := []) (cut_n mi38.1 rfl rfl) (rm8_n mi38.2.1 (Nat.le_of_ble_eq_true rfl) (Nat.le_of_ble_eq_true rfl)) mi38.2.2 (fun x2 h1 => go (w := (6, [.ref l0, .ref l1, .int l2, .null, .null], [.ref l0, .int x2], h1)) r43_5 rfl rfl (E_gR r43_6 rfl (fun x3 => E_gI r43_9 rfl (fun x4 => E_i2_ge r43_12 rfl (go (w := (19, [.ref l0, .ref l1, .int l2, .null, .null], [.ref l0], h1)) r43_18 rfl rfl (E_gR r43_19 rfl (fun x5 => go (w := (23, [.ref l0, .ref l1, .int l2, .null, .null], [.ref l0, .ref x5], h1)) r43_22 rfl rfl (E_gR r43_23 rfl (fun x6 => E_vV r43_26 (As := [.ref x5, .ref x6]) (rest := []) (cut_n mi51.1 rfl rfl) (rm8_n mi51.2.1 (Nat.le_of_ble_eq_true rfl) (Nat.le_of_ble_eq_true rfl)) mi51.2.2 (fun h7 => E_bip r43_29 (v := (-2)) (by decide) (go (w := (32, [.ref l0, .ref l1, .int l2, .int (-2), .null], [], h7)) r43_31 rfl rfl (E_ic r43_32 (v := 0) (by decide) (go (w := (35, [.ref l0, .ref l1, .int l2, .int (-2), .int 0], [], h7)) r43_33 rfl rfl (rfl)))))))))) (E_bip r43_15 (v := (-2)) (by decide) (E_ri r43_17 (mq43)))))))))
theorem b43_35 (d : Nat) (l0 : Nat) (l1 : Nat) (l2 : Int32) (l3 : Int32) (l4 : Int32) (h : aH) (K : Option Value → aH → Prop) : E scr false (d + 1) 43 35 [.ref l0, .ref l1, .int l2, .int l3, .int l4] [] h K = (if 144 ≤ l4 then E scr false (d + 1) 43 166 [.ref l0, .ref l1, .int l2, .int l3, .int l4] [] h K else (if 0 ≤ l3 then E scr false (d + 1) 43 166 [.ref l0, .ref l1, .int l2, .int l3, .int l4] [] h K else gR scr h l0 4 0 (fun x1 : Nat => gR scr h x1 5 8 (fun x2 : Nat => aB scr h x2 l4 (fun x3 : Int32 => (if x3 = 0 then gR scr h l0 4 0 (fun x4 : Nat => vI scr d 57 [.ref x4, .int (irm l4 12), .int (l4 / 12)] h (fun (x6 : Int32) (h5 : aH) => (if x6 = 0 then E scr false (d + 1) 43 160 [.ref l0, .ref l1, .int l2, .int l3, .int l4] [] h5 K else gR scr h5 l0 4 3 (fun x7 : Nat => gR scr h5 l0 4 0 (fun x8 : Nat => vV scr d 52 [.ref x7, .ref x8] h5 (fun h9 : aH => gR scr h9 l0 4 3 (fun x11 : Nat => gR scr h9 x11 5 8 (fun x12 : Nat => wB h9 x12 l4 1 (fun h13 : aH => gR scr h13 l0 4 2 (fun x14 : Nat => gR scr h13 l0 4 3 (fun x15 : Nat => vV scr d 1 [.ref x14, .ref x15] h13 (fun h16 : aH => gR scr h16 l0 4 1 (fun x18 : Nat => gR scr h16 l0 4 3 (fun x19 : Nat => vV scr d 78 [.ref x18, .ref x19, .ref l1, .int l2] h16 (fun h20 : aH => gR scr h20 l0 4 3 (fun x22 : Nat => gR scr h20 x22 5 8 (fun x23 : Nat => wB h20 x23 l4 0 (fun h24 : aH => gR scr h24 l0 4 3 (fun x25 : Nat => gI scr h24 x25 5 6 (fun x26 : Int32 => gR scr h24 l0 4 3 (fun x27 : Nat => gI scr h24 x27 5 3 (fun x28 : Int32 => (if x26 = x28 then E scr false (d + 1) 43 160 [.ref l0, .ref l1, .int l2, .int l4, .int l4] [] h24 K else E scr false (d + 1) 43 160 [.ref l0, .ref l1, .int l2, .int l3, .int l4] [] h24 K))))))))))))))))))))))) else E scr false (d + 1) 43 160 [.ref l0, .ref l1, .int l2, .int l3, .int l4] [] h K)))))) := go (w := (37, [.ref l0, .ref l1, .int l2, .int l3, .int l4], [.int l4], h)) r43_35 rfl rfl (E_sip r43_37 (v := 144) (by decide) (E_i2_ge r43_40 rfl (rfl) (go (w := (44, [.ref l0, .ref l1, .int l2, .int l3, .int l4], [.int l3], h)) r43_43 rfl rfl (E_i1_ge r43_44 rfl (rfl) (go (w := (48, [.ref l0, .ref l1, .int l2, .int l3, .int l4], [.ref l0], h)) r43_47 rfl rfl (E_gR r43_48 rfl (fun x1 => E_gR r43_51 rfl (fun x2 => go (w := (56, [.ref l0, .ref l1, .int l2, .int l3, .int l4], [.int l4, .ref x2], h)) r43_54 rfl rfl (E_aB r43_56 (fun x3 => E_i1_ne r43_57 rfl (rfl) (go (w := (61, [.ref l0, .ref l1, .int l2, .int l3, .int l4], [.ref l0], h)) r43_60 rfl rfl (E_gR r43_61 rfl (fun x4 => go (w := (66, [.ref l0, .ref l1, .int l2, .int l3, .int l4], [.int l4, .ref x4], h)) r43_64 rfl rfl (E_bip r43_66 (v := 12) (by decide) (E_remc r43_68 (by decide) (go (w := (71, [.ref l0, .ref l1, .int l2, .int l3, .int l4], [.int l4, .int (irm l4 12), .ref x4], h)) r43_69 rfl rfl (E_bip r43_71 (v := 12) (by decide) (E_divc r43_73 (by decide) (E_vI r43_74 (As := [.ref x4, .int (irm l4 12), .int (l4 / 12)]) (rest := []) (cut_n mi57.1 rfl rfl) (rm8_n mi57.2.1 (Nat.le_of_ble_eq_true rfl) (Nat.le_of_ble_eq_true rfl)) mi57.2.2 (fun x6 h5 => E_i1_ne r43_77 rfl (go (w := (84, [.ref l0, .ref l1, .int l2, .int l3, .int l4], [.ref l0], h5)) r43_83 rfl rfl (E_gR r43_84 rfl (fun x7 => go (w := (88, [.ref l0, .ref l1, .int l2, .int l3, .int l4], [.ref l0, .ref x7], h5)) r43_87 rfl rfl (E_gR r43_88 rfl (fun x8 => E_vV r43_91 (As := [.ref x7, .ref x8]) (rest := []) (cut_n mi52.1 rfl rfl) (rm8_n mi52.2.1 (Nat.le_of_ble_eq_true rfl) (Nat.le_of_ble_eq_true rfl)) mi52.2.2 (fun h9 => go (w := (95, [.ref l0, .ref l1, .int l2, .int l3, .int l4], [.ref l0], h9)) r43_94 rfl rfl (E_gR r43_95 rfl (fun x11 => E_gR r43_98 rfl (fun x12 => go (w := (103, [.ref l0, .ref l1, .int l2, .int l3, .int l4], [.int l4, .ref x12], h9)) r43_101 rfl rfl (E_ic r43_103 (v := 1) (by decide) (E_wB r43_104 (fun h13 => go (w := (106, [.ref l0, .ref l1, .int l2, .int l3, .int l4], [.ref l0], h13)) r43_105 rfl rfl (E_gR r43_106 rfl (fun x14 => go (w := (110, [.ref l0, .ref l1, .int l2, .int l3, .int l4], [.ref l0, .ref x14], h13)) r43_109 rfl rfl (E_gR r43_110 rfl (fun x15 => E_vV r43_113 (As := [.ref x14, .ref x15]) (rest := []) (cut_n mi1.1 rfl rfl) (rm8_n mi1.2.1 (Nat.le_of_ble_eq_true rfl) (Nat.le_of_ble_eq_true rfl)) mi1.2.2 (fun h16 => go (w := (117, [.ref l0, .ref l1, .int l2, .int l3, .int l4], [.ref l0], h16)) r43_116 rfl rfl (E_gR r43_117 rfl (fun x18 => go (w := (121, [.ref l0, .ref l1, .int l2, .int l3, .int l4], [.ref l0, .ref x18], h16)) r43_120 rfl rfl (E_gR r43_121 rfl (fun x19 => go (w := (125, [.ref l0, .ref l1, .int l2, .int l3, .int l4], [.ref l1, .ref x19, .ref x18], h16)) r43_124 rfl rfl (go (w := (126, [.ref l0, .ref l1, .int l2, .int l3, .int l4], [.int l2, .ref l1, .ref x19, .ref x18], h16)) r43_125 rfl rfl (E_vV r43_126 (As := [.ref x18, .ref x19, .ref l1, .int l2]) (rest := []) (cut_n mi78.1 rfl rfl) (rm8_n mi78.2.1 (Nat.le_of_ble_eq_true rfl) (Nat.le_of_ble_eq_true rfl)) mi78.2.2 (fun h20 => go (w := (130, [.ref l0, .ref l1, .int l2, .int l3, .int l4], [.ref l0], h20)) r43_129 rfl rfl (E_gR r43_130 rfl (fun x22 => E_gR r43_133 rfl (fun x23 => go (w := (138, [.ref l0, .ref l1, .int l2, .int l3, .int l4], [.int l4, .ref x23], h20)) r43_136 rfl rfl (E_ic r43_138 (v := 0) (by decide) (E_wB r43_139 (fun h24 => go (w := (141, [.ref l0, .ref l1, .int l2, .int l3, .int l4], [.ref l0], h24)) r43_140 rfl rfl (E_gR r43_141 rfl (fun x25 => E_gI r43_144 rfl (fun x26 => go (w := (148, [.ref l0, .ref l1, .int l2, .int l3, .int l4], [.ref l0, .int x26], h24)) r43_147 rfl rfl (E_gR r43_148 rfl (fun x27 => E_gI r43_151 rfl (fun x28 => E_i2_ne r43_154 rfl (rfl) (go (w := (159, [.ref l0, .ref l1, .int l2, .int l3, .int l4], [.int l4], h24)) r43_157 rfl rfl (go (w := (160, [.ref l0, .ref l1, .int l2, .int l4, .int l4], [], h24)) r43_159 rfl rfl (rfl))))))))))))))))))))))))))))))))))))))) (E_gt r43_80 rfl (rfl))))))))))))))))))))))
theorem b43_160 (d : Nat) (l0 : Nat) (l1 : Nat) (l2 : Int32) (l3 : Int32) (l4 : Int32) (h : aH) (K : Option Value → aH → Prop) : E scr false d 43 160 [.ref l0, .ref l1, .int l2, .int l3, .int l4] [] h K = E scr false d 43 35 [.ref l0, .ref l1, .int l2, .int l3, .int (l4 + 1)] [] h K := E_inc r43_160 (c := 1) rfl (by decide) (L' := [.ref l0, .ref l1, .int l2, .int l3, .int (l4 + 1)]) rfl (E_gt r43_163 rfl (rfl))
theorem b43_166 (d : Nat) (l0 : Nat) (l1 : Nat) (l2 : Int32) (l3 : Int32) (l4 : Int32) (h : aH) (K : Option Value → aH → Prop) : E scr false (d + 1) 43 166 [.ref l0, .ref l1, .int l2, .int l3, .int l4] [] h K = gR scr h l0 4 2 (fun x1 : Nat => gR scr h l0 4 0 (fun x2 : Nat => vV scr d 1 [.ref x1, .ref x2] h (fun h3 : aH => K (some (.int l3)) h3))) := go (w := (167, [.ref l0, .ref l1, .int l2, .int l3, .int l4], [.ref l0], h)) r43_166 rfl rfl (E_gR r43_167 rfl (fun x1 => go (w := (171, [.ref l0, .ref l1, .int l2, .int l3, .int l4], [.ref l0, .ref x1], h)) r43_170 rfl rfl (E_gR r43_171 rfl (fun x2 => E_vV r43_174 (As := [.ref x1, .ref x2]) (rest := []) (cut_n mi1.1 rfl rfl) (rm8_n mi1.2.1 (Nat.le_of_ble_eq_true rfl) (Nat.le_of_ble_eq_true rfl)) mi1.2.2 (fun h3 => go (w := (178, [.ref l0, .ref l1, .int l2, .int l3, .int l4], [.int l3], h3)) r43_177 rfl rfl (E_ri r43_178 (mq43)))))))
-- 44 SecondNearest$Planner.countAgo(LSecondNearest$Law;)I
theorem mq44 : mRet 44 = (some .int) := by decide +kernel
theorem r44_0 : rowAt 44 0 = some (.iconst 0, 1, 0, 0) := by decide +kernel
theorem r44_1 : rowAt 44 1 = some (.istore_n 2, 1, 0, 0) := by decide +kernel
theorem r44_2 : rowAt 44 2 = some (.iconst 0, 1, 0, 0) := by decide +kernel
theorem r44_3 : rowAt 44 3 = some (.istore_n 3, 1, 0, 0) := by decide +kernel
theorem r44_4 : rowAt 44 4 = some (.iload_n 3, 1, 0, 0) := by decide +kernel
theorem r44_5 : rowAt 44 5 = some (.bipush 12, 2, 0, 0) := by decide +kernel
theorem r44_7 : rowAt 44 7 = some (.if_icmp .ge 31, 3, 0, 0) := by decide +kernel
theorem r44_10 : rowAt 44 10 = some (.aload_n 0, 1, 0, 0) := by decide +kernel
theorem r44_11 : rowAt 44 11 = some (.getfield 32, 3, 4, 0) := by decide +kernel
theorem r44_14 : rowAt 44 14 = some (.getfield 64, 3, 5, 10) := by decide +kernel
theorem r44_17 : rowAt 44 17 = some (.iload_n 3, 1, 0, 0) := by decide +kernel
theorem r44_18 : rowAt 44 18 = some (.iaload, 1, 0, 0) := by decide +kernel
theorem r44_19 : rowAt 44 19 = some (.ifCond .lt 13, 3, 0, 0) := by decide +kernel
theorem r44_22 : rowAt 44 22 = some (.aload_n 0, 1, 0, 0) := by decide +kernel
theorem r44_23 : rowAt 44 23 = some (.getfield 28, 3, 4, 7) := by decide +kernel
theorem r44_26 : rowAt 44 26 = some (.iload_n 2, 1, 0, 0) := by decide +kernel
theorem r44_27 : rowAt 44 27 = some (.iload_n 3, 1, 0, 0) := by decide +kernel
theorem r44_28 : rowAt 44 28 = some (.iastore, 1, 0, 0) := by decide +kernel
theorem r44_29 : rowAt 44 29 = some (.iinc 2 1, 3, 0, 0) := by decide +kernel
theorem r44_32 : rowAt 44 32 = some (.iinc 3 1, 3, 0, 0) := by decide +kernel
theorem r44_35 : rowAt 44 35 = some (.goto (-31), 3, 0, 0) := by decide +kernel
theorem r44_38 : rowAt 44 38 = some (.iload_n 2, 1, 0, 0) := by decide +kernel
theorem r44_39 : rowAt 44 39 = some (.iconst 3, 1, 0, 0) := by decide +kernel
theorem r44_40 : rowAt 44 40 = some (.if_icmp .gt 23, 3, 0, 0) := by decide +kernel
theorem r44_43 : rowAt 44 43 = some (.aload_n 0, 1, 0, 0) := by decide +kernel
theorem r44_44 : rowAt 44 44 = some (.getfield 32, 3, 4, 0) := by decide +kernel
theorem r44_47 : rowAt 44 47 = some (.getfield 159, 3, 5, 0) := by decide +kernel
theorem r44_50 : rowAt 44 50 = some (.aload_n 0, 1, 0, 0) := by decide +kernel
theorem r44_51 : rowAt 44 51 = some (.getfield 32, 3, 4, 0) := by decide +kernel
theorem r44_54 : rowAt 44 54 = some (.getfield 162, 3, 5, 1) := by decide +kernel
theorem r44_57 : rowAt 44 57 = some (.imul, 1, 0, 0) := by decide +kernel
theorem r44_58 : rowAt 44 58 = some (.bipush 36, 2, 0, 0) := by decide +kernel
theorem r44_60 : rowAt 44 60 = some (.if_icmp .le 6, 3, 0, 0) := by decide +kernel
theorem r44_63 : rowAt 44 63 = some (.bipush (-2), 2, 0, 0) := by decide +kernel
theorem r44_65 : rowAt 44 65 = some (.ireturn, 1, 0, 0) := by decide +kernel
theorem r44_66 : rowAt 44 66 = some (.aload_n 0, 1, 0, 0) := by decide +kernel
theorem r44_67 : rowAt 44 67 = some (.getfield 12, 3, 4, 3) := by decide +kernel
theorem r44_70 : rowAt 44 70 = some (.aload_n 0, 1, 0, 0) := by decide +kernel
theorem r44_71 : rowAt 44 71 = some (.getfield 32, 3, 4, 0) := by decide +kernel
theorem r44_74 : rowAt 44 74 = some (.invokevirtual 43, 3, 51, 0) := by decide +kernel
theorem r44_77 : rowAt 44 77 = some (.iconst 0, 1, 0, 0) := by decide +kernel
theorem r44_78 : rowAt 44 78 = some (.istore_n 3, 1, 0, 0) := by decide +kernel
theorem r44_79 : rowAt 44 79 = some (.iconst 0, 1, 0, 0) := by decide +kernel
theorem r44_80 : rowAt 44 80 = some (.istore 4, 2, 0, 0) := by decide +kernel
theorem r44_82 : rowAt 44 82 = some (.iload 4, 2, 0, 0) := by decide +kernel
theorem r44_84 : rowAt 44 84 = some (.getstatic 138, 3, 2, 0) := by decide +kernel
theorem r44_87 : rowAt 44 87 = some (.iload_n 2, 1, 0, 0) := by decide +kernel
theorem r44_88 : rowAt 44 88 = some (.iaload, 1, 0, 0) := by decide +kernel
theorem r44_89 : rowAt 44 89 = some (.if_icmp .ge 31, 3, 0, 0) := by decide +kernel
theorem r44_92 : rowAt 44 92 = some (.aload_n 0, 1, 0, 0) := by decide +kernel
theorem r44_93 : rowAt 44 93 = some (.iload 4, 2, 0, 0) := by decide +kernel
theorem r44_95 : rowAt 44 95 = some (.iload_n 2, 1, 0, 0) := by decide +kernel
theorem r44_96 : rowAt 44 96 = some (.invokevirtual 165, 3, 45, 0) := by decide +kernel
theorem r44_99 : rowAt 44 99 = some (.ifCond .eq 15, 3, 0, 0) := by decide +kernel
theorem r44_102 : rowAt 44 102 = some (.aload_n 0, 1, 0, 0) := by decide +kernel
theorem r44_103 : rowAt 44 103 = some (.aload_n 1, 1, 0, 0) := by decide +kernel
theorem r44_104 : rowAt 44 104 = some (.iload_n 2, 1, 0, 0) := by decide +kernel
theorem r44_105 : rowAt 44 105 = some (.invokevirtual 168, 3, 46, 0) := by decide +kernel
theorem r44_108 : rowAt 44 108 = some (.ifCond .eq 6, 3, 0, 0) := by decide +kernel
theorem r44_111 : rowAt 44 111 = some (.iinc 3 1, 3, 0, 0) := by decide +kernel
theorem r44_114 : rowAt 44 114 = some (.iinc 4 1, 3, 0, 0) := by decide +kernel
theorem r44_117 : rowAt 44 117 = some (.goto (-35), 3, 0, 0) := by decide +kernel
theorem r44_120 : rowAt 44 120 = some (.iload_n 3, 1, 0, 0) := by decide +kernel
theorem r44_121 : rowAt 44 121 = some (.ireturn, 1, 0, 0) := by decide +kernel
theorem en44 (a0 : Nat) (a1 : Nat) : iniL 44 [.ref a0, .ref a1] = [.ref a0, .ref a1, .null, .null, .null] := ini_n mi44 rfl
theorem b44_0 (d : Nat) (l0 : Nat) (l1 : Nat) (h : aH) (K : Option Value → aH → Prop) : E scr false d 44 0 [.ref l0, .ref l1, .null, .null, .null] [] h K = E scr false d 44 4 [.ref l0, .ref l1, .int 0, .int 0, .null] [] h K := E_ic r44_0 (v := 0) (by decide) (go (w := (2, [.ref l0, .ref l1, .int 0, .null, .null], [], h)) r44_1 rfl rfl (E_ic r44_2 (v := 0) (by decide) (go (w := (4, [.ref l0, .ref l1, .int 0, .int 0, .null], [], h)) r44_3 rfl rfl (rfl))))
theorem b44_4 (d : Nat) (l0 : Nat) (l1 : Nat) (l2 : Int32) (l3 : Int32) (h : aH) (K : Option Value → aH → Prop) : E scr false (d + 1) 44 4 [.ref l0, .ref l1, .int l2, .int l3, .null] [] h K = (if 12 ≤ l3 then (if 3 < l2 then K (some (.int (-2))) h else gR scr h l0 4 0 (fun x1 : Nat => gI scr h x1 5 0 (fun x2 : Int32 => gR scr h l0 4 0 (fun x3 : Nat => gI scr h x3 5 1 (fun x4 : Int32 => (if (x2 * x4) ≤ 36 then gR scr h l0 4 3 (fun x5 : Nat => gR scr h l0 4 0 (fun x6 : Nat => vV scr d 51 [.ref x5, .ref x6] h (fun h7 : aH => E scr false (d + 1) 44 82 [.ref l0, .ref l1, .int l2, .int 0, .int 0] [] h7 K))) else K (some (.int (-2))) h)))))) else gR scr h l0 4 0 (fun x9 : Nat => gR scr h x9 5 10 (fun x10 : Nat => aI scr h x10 l3 (fun x11 : Int32 => (if x11 < 0 then E scr false (d + 1) 44 32 [.ref l0, .ref l1, .int l2, .int l3, .null] [] h K else gR scr h l0 4 7 (fun x12 : Nat => wI h x12 l2 l3 (fun h13 : aH => E scr false (d + 1) 44 32 [.ref l0, .ref l1, .int (l2 + 1), .int l3, .null] [] h13 K))))))) := go (w := (5, [.ref l0, .ref l1, .int l2, .int l3, .null], [.int l3], h)) r44_4 rfl rfl (E_bip r44_5 (v := 12) (by decide) (E_i2_ge r44_7 rfl (go (w := (39, [.ref l0, .ref l1, .int l2, .int l3, .null], [.int l2], h)) r44_38 rfl rfl (E_ic r44_39 (v := 3) (by decide) (E_i2_gt r44_40 rfl (E_bip r44_63 (v := (-2)) (by decide) (E_ri r44_65 (mq44))) (go (w := (44, [.ref l0, .ref l1, .int l2, .int l3, .null], [.ref l0], h)) r44_43 rfl rfl (E_gR r44_44 rfl (fun x1 => E_gI r44_47 rfl (fun x2 => go (w := (51, [.ref l0, .ref l1, .int l2, .int l3, .null], [.ref l0, .int x2], h)) r44_50 rfl rfl (E_gR r44_51 rfl (fun x3 => E_gI r44_54 rfl (fun x4 => go (w := (58, [.ref l0, .ref l1, .int l2, .int l3, .null], [.int (x2 * x4)], h)) r44_57 rfl rfl (E_bip r44_58 (v := 36) (by decide) (E_i2_le r44_60 rfl (go (w := (67, [.ref l0, .ref l1, .int l2, .int l3, .null], [.ref l0], h)) r44_66 rfl rfl (E_gR r44_67 rfl (fun x5 => go (w := (71, [.ref l0, .ref l1, .int l2, .int l3, .null], [.ref l0, .ref x5], h)) r44_70 rfl rfl (E_gR r44_71 rfl (fun x6 => E_vV r44_74 (As := [.ref x5, .ref x6]) (rest := []) (cut_n mi51.1 rfl rfl) (rm8_n mi51.2.1 (Nat.le_of_ble_eq_true rfl) (Nat.le_of_ble_eq_true rfl)) mi51.2.2 (fun h7 => E_ic r44_77 (v := 0) (by decide) (go (w := (79, [.ref l0, .ref l1, .int l2, .int 0, .null], [], h7)) r44_78 rfl rfl (E_ic r44_79 (v := 0) (by decide) (go (w := (82, [.ref l0, .ref l1, .int l2, .int 0, .int 0], [], h7)) r44_80 rfl rfl (rfl)))))))))) (E_bip r44_63 (v := (-2)) (by decide) (E_ri r44_65 (mq44))))))))))))))) (go (w := (11, [.ref l0, .ref l1, .int l2, .int l3, .null], [.ref l0], h)) r44_10 rfl rfl (E_gR r44_11 rfl (fun x9 => E_gR r44_14 rfl (fun x10 => go (w := (18, [.ref l0, .ref l1, .int l2, .int l3, .null], [.int l3, .ref x10], h)) r44_17 rfl rfl (E_aI r44_18 (fun x11 => E_i1_lt r44_19 rfl (rfl) (go (w := (23, [.ref l0, .ref l1, .int l2, .int l3, .null], [.ref l0], h)) r44_22 rfl rfl (E_gR r44_23 rfl (fun x12 => go (w := (27, [.ref l0, .ref l1, .int l2, .int l3, .null], [.int l2, .ref x12], h)) r44_26 rfl rfl (go (w := (28, [.ref l0, .ref l1, .int l2, .int l3, .null], [.int l3, .int l2, .ref x12], h)) r44_27 rfl rfl (E_wI r44_28 (fun h13 => E_inc r44_29 (c := 1) rfl (by decide) (L' := [.ref l0, .ref l1, .int (l2 + 1), .int l3, .null]) rfl (rfl)))))))))))))))
theorem b44_32 (d : Nat) (l0 : Nat) (l1 : Nat) (l2 : Int32) (l3 : Int32) (h : aH) (K : Option Value → aH → Prop) : E scr false d 44 32 [.ref l0, .ref l1, .int l2, .int l3, .null] [] h K = E scr false d 44 4 [.ref l0, .ref l1, .int l2, .int (l3 + 1), .null] [] h K := E_inc r44_32 (c := 1) rfl (by decide) (L' := [.ref l0, .ref l1, .int l2, .int (l3 + 1), .null]) rfl (E_gt r44_35 rfl (rfl))
theorem b44_82 (d : Nat) (l0 : Nat) (l1 : Nat) (l2 : Int32) (l3 : Int32) (l4 : Int32) (h : aH) (K : Option Value → aH → Prop) : E scr false (d + 1) 44 82 [.ref l0, .ref l1, .int l2, .int l3, .int l4] [] h K = aI scr h 10002 l2 (fun x1 : Int32 => (if x1 ≤ l4 then K (some (.int l3)) h else vI scr d 45 [.ref l0, .int l4, .int l2] h (fun (x3 : Int32) (h2 : aH) => (if x3 = 0 then E scr false (d + 1) 44 114 [.ref l0, .ref l1, .int l2, .int l3, .int l4] [] h2 K else vI scr d 46 [.ref l0, .ref l1, .int l2] h2 (fun (x5 : Int32) (h4 : aH) => (if x5 = 0 then E scr false (d + 1) 44 114 [.ref l0, .ref l1, .int l2, .int l3, .int l4] [] h4 K else E scr false (d + 1) 44 114 [.ref l0, .ref l1, .int l2, .int (l3 + 1), .int l4] [] h4 K)))))) := go (w := (84, [.ref l0, .ref l1, .int l2, .int l3, .int l4], [.int l4], h)) r44_82 rfl rfl (E_gs r44_84 (v := .ref 10002) rfl (go (w := (88, [.ref l0, .ref l1, .int l2, .int l3, .int l4], [.int l2, .ref 10002, .int l4], h)) r44_87 rfl rfl (E_aI r44_88 (fun x1 => E_i2_ge r44_89 rfl (go (w := (121, [.ref l0, .ref l1, .int l2, .int l3, .int l4], [.int l3], h)) r44_120 rfl rfl (E_ri r44_121 (mq44))) (go (w := (93, [.ref l0, .ref l1, .int l2, .int l3, .int l4], [.ref l0], h)) r44_92 rfl rfl (go (w := (95, [.ref l0, .ref l1, .int l2, .int l3, .int l4], [.int l4, .ref l0], h)) r44_93 rfl rfl (go (w := (96, [.ref l0, .ref l1, .int l2, .int l3, .int l4], [.int l2, .int l4, .ref l0], h)) r44_95 rfl rfl (E_vI r44_96 (As := [.ref l0, .int l4, .int l2]) (rest := []) (cut_n mi45.1 rfl rfl) (rm8_n mi45.2.1 (Nat.le_of_ble_eq_true rfl) (Nat.le_of_ble_eq_true rfl)) mi45.2.2 (fun x3 h2 => E_i1_eq r44_99 rfl (rfl) (go (w := (103, [.ref l0, .ref l1, .int l2, .int l3, .int l4], [.ref l0], h2)) r44_102 rfl rfl (go (w := (104, [.ref l0, .ref l1, .int l2, .int l3, .int l4], [.ref l1, .ref l0], h2)) r44_103 rfl rfl (go (w := (105, [.ref l0, .ref l1, .int l2, .int l3, .int l4], [.int l2, .ref l1, .ref l0], h2)) r44_104 rfl rfl (E_vI r44_105 (As := [.ref l0, .ref l1, .int l2]) (rest := []) (cut_n mi46.1 rfl rfl) (rm8_n mi46.2.1 (Nat.le_of_ble_eq_true rfl) (Nat.le_of_ble_eq_true rfl)) mi46.2.2 (fun x5 h4 => E_i1_eq r44_108 rfl (rfl) (E_inc r44_111 (c := 1) rfl (by decide) (L' := [.ref l0, .ref l1, .int l2, .int (l3 + 1), .int l4]) rfl (rfl))))))))))))))))
theorem b44_114 (d : Nat) (l0 : Nat) (l1 : Nat) (l2 : Int32) (l3 : Int32) (l4 : Int32) (h : aH) (K : Option Value → aH → Prop) : E scr false d 44 114 [.ref l0, .ref l1, .int l2, .int l3, .int l4] [] h K = E scr false d 44 82 [.ref l0, .ref l1, .int l2, .int l3, .int (l4 + 1)] [] h K := E_inc r44_114 (c := 1) rfl (by decide) (L' := [.ref l0, .ref l1, .int l2, .int l3, .int (l4 + 1)]) rfl (E_gt r44_117 rfl (rfl))
-- 45 SecondNearest$Planner.arrange(II)Z
theorem mq45 : mRet 45 = (some .boolean) := by decide +kernel
theorem r45_0 : rowAt 45 0 = some (.aload_n 0, 1, 0, 0) := by decide +kernel
theorem r45_1 : rowAt 45 1 = some (.getfield 12, 3, 4, 3) := by decide +kernel
theorem r45_4 : rowAt 45 4 = some (.aload_n 0, 1, 0, 0) := by decide +kernel
theorem r45_5 : rowAt 45 5 = some (.getfield 32, 3, 4, 0) := by decide +kernel
theorem r45_8 : rowAt 45 8 = some (.invokevirtual 116, 3, 52, 0) := by decide +kernel
theorem r45_11 : rowAt 45 11 = some (.iconst 0, 1, 0, 0) := by decide +kernel
theorem r45_12 : rowAt 45 12 = some (.istore_n 3, 1, 0, 0) := by decide +kernel
theorem r45_13 : rowAt 45 13 = some (.iload_n 3, 1, 0, 0) := by decide +kernel
theorem r45_14 : rowAt 45 14 = some (.iload_n 2, 1, 0, 0) := by decide +kernel
theorem r45_15 : rowAt 45 15 = some (.if_icmp .ge 22, 3, 0, 0) := by decide +kernel
theorem r45_18 : rowAt 45 18 = some (.aload_n 0, 1, 0, 0) := by decide +kernel
theorem r45_19 : rowAt 45 19 = some (.getfield 12, 3, 4, 3) := by decide +kernel
theorem r45_22 : rowAt 45 22 = some (.aload_n 0, 1, 0, 0) := by decide +kernel
theorem r45_23 : rowAt 45 23 = some (.getfield 28, 3, 4, 7) := by decide +kernel
theorem r45_26 : rowAt 45 26 = some (.iload_n 3, 1, 0, 0) := by decide +kernel
theorem r45_27 : rowAt 45 27 = some (.iaload, 1, 0, 0) := by decide +kernel
theorem r45_28 : rowAt 45 28 = some (.invokevirtual 119, 3, 59, 0) := by decide +kernel
theorem r45_31 : rowAt 45 31 = some (.iinc 3 1, 3, 0, 0) := by decide +kernel
theorem r45_34 : rowAt 45 34 = some (.goto (-21), 3, 0, 0) := by decide +kernel
theorem r45_37 : rowAt 45 37 = some (.iconst 0, 1, 0, 0) := by decide +kernel
theorem r45_38 : rowAt 45 38 = some (.istore_n 3, 1, 0, 0) := by decide +kernel
theorem r45_39 : rowAt 45 39 = some (.iload_n 3, 1, 0, 0) := by decide +kernel
theorem r45_40 : rowAt 45 40 = some (.iload_n 2, 1, 0, 0) := by decide +kernel
theorem r45_41 : rowAt 45 41 = some (.if_icmp .ge 100, 3, 0, 0) := by decide +kernel
theorem r45_44 : rowAt 45 44 = some (.iload_n 1, 1, 0, 0) := by decide +kernel
theorem r45_45 : rowAt 45 45 = some (.iload_n 3, 1, 0, 0) := by decide +kernel
theorem r45_46 : rowAt 45 46 = some (.iload_n 2, 1, 0, 0) := by decide +kernel
theorem r45_47 : rowAt 45 47 = some (.invokestatic 145, 3, 42, 1) := by decide +kernel
theorem r45_50 : rowAt 45 50 = some (.istore 4, 2, 0, 0) := by decide +kernel
theorem r45_52 : rowAt 45 52 = some (.aload_n 0, 1, 0, 0) := by decide +kernel
theorem r45_53 : rowAt 45 53 = some (.getfield 32, 3, 4, 0) := by decide +kernel
theorem r45_56 : rowAt 45 56 = some (.getfield 64, 3, 5, 10) := by decide +kernel
theorem r45_59 : rowAt 45 59 = some (.aload_n 0, 1, 0, 0) := by decide +kernel
theorem r45_60 : rowAt 45 60 = some (.getfield 28, 3, 4, 7) := by decide +kernel
theorem r45_63 : rowAt 45 63 = some (.iload_n 3, 1, 0, 0) := by decide +kernel
theorem r45_64 : rowAt 45 64 = some (.iaload, 1, 0, 0) := by decide +kernel
theorem r45_65 : rowAt 45 65 = some (.iaload, 1, 0, 0) := by decide +kernel
theorem r45_66 : rowAt 45 66 = some (.istore 5, 2, 0, 0) := by decide +kernel
theorem r45_68 : rowAt 45 68 = some (.iload 4, 2, 0, 0) := by decide +kernel
theorem r45_70 : rowAt 45 70 = some (.bipush 8, 2, 0, 0) := by decide +kernel
theorem r45_72 : rowAt 45 72 = some (.if_icmp .ge 17, 3, 0, 0) := by decide +kernel
theorem r45_75 : rowAt 45 75 = some (.aload_n 0, 1, 0, 0) := by decide +kernel
theorem r45_76 : rowAt 45 76 = some (.getfield 32, 3, 4, 0) := by decide +kernel
theorem r45_79 : rowAt 45 79 = some (.iload 5, 2, 0, 0) := by decide +kernel
theorem r45_81 : rowAt 45 81 = some (.iload 4, 2, 0, 0) := by decide +kernel
theorem r45_83 : rowAt 45 83 = some (.invokevirtual 172, 3, 58, 0) := by decide +kernel
theorem r45_86 : rowAt 45 86 = some (.goto 5, 3, 0, 0) := by decide +kernel
theorem r45_89 : rowAt 45 89 = some (.iload 5, 2, 0, 0) := by decide +kernel
theorem r45_91 : rowAt 45 91 = some (.istore 6, 2, 0, 0) := by decide +kernel
theorem r45_93 : rowAt 45 93 = some (.iload 6, 2, 0, 0) := by decide +kernel
theorem r45_95 : rowAt 45 95 = some (.ifCond .lt 23, 3, 0, 0) := by decide +kernel
theorem r45_98 : rowAt 45 98 = some (.aload_n 0, 1, 0, 0) := by decide +kernel
theorem r45_99 : rowAt 45 99 = some (.getfield 12, 3, 4, 3) := by decide +kernel
theorem r45_102 : rowAt 45 102 = some (.iload 6, 2, 0, 0) := by decide +kernel
theorem r45_104 : rowAt 45 104 = some (.bipush 12, 2, 0, 0) := by decide +kernel
theorem r45_106 : rowAt 45 106 = some (.irem, 1, 0, 0) := by decide +kernel
theorem r45_107 : rowAt 45 107 = some (.iload 6, 2, 0, 0) := by decide +kernel
theorem r45_109 : rowAt 45 109 = some (.bipush 12, 2, 0, 0) := by decide +kernel
theorem r45_111 : rowAt 45 111 = some (.idiv, 1, 0, 0) := by decide +kernel
theorem r45_112 : rowAt 45 112 = some (.invokevirtual 130, 3, 57, 0) := by decide +kernel
theorem r45_115 : rowAt 45 115 = some (.ifCond .ne 5, 3, 0, 0) := by decide +kernel
theorem r45_118 : rowAt 45 118 = some (.iconst 0, 1, 0, 0) := by decide +kernel
theorem r45_119 : rowAt 45 119 = some (.ireturn, 1, 0, 0) := by decide +kernel
theorem r45_120 : rowAt 45 120 = some (.aload_n 0, 1, 0, 0) := by decide +kernel
theorem r45_121 : rowAt 45 121 = some (.getfield 12, 3, 4, 3) := by decide +kernel
theorem r45_124 : rowAt 45 124 = some (.aload_n 0, 1, 0, 0) := by decide +kernel
theorem r45_125 : rowAt 45 125 = some (.getfield 28, 3, 4, 7) := by decide +kernel
theorem r45_128 : rowAt 45 128 = some (.iload_n 3, 1, 0, 0) := by decide +kernel
theorem r45_129 : rowAt 45 129 = some (.iaload, 1, 0, 0) := by decide +kernel
theorem r45_130 : rowAt 45 130 = some (.iload 6, 2, 0, 0) := by decide +kernel
theorem r45_132 : rowAt 45 132 = some (.invokevirtual 134, 3, 60, 0) := by decide +kernel
theorem r45_135 : rowAt 45 135 = some (.iinc 3 1, 3, 0, 0) := by decide +kernel
theorem r45_138 : rowAt 45 138 = some (.goto (-99), 3, 0, 0) := by decide +kernel
theorem r45_141 : rowAt 45 141 = some (.iconst 1, 1, 0, 0) := by decide +kernel
theorem r45_142 : rowAt 45 142 = some (.ireturn, 1, 0, 0) := by decide +kernel
theorem en45 (a0 : Nat) (a1 : Int32) (a2 : Int32) : iniL 45 [.ref a0, .int a1, .int a2] = [.ref a0, .int a1, .int a2, .null, .null, .null, .null] := ini_n mi45 rfl
theorem b45_0 (d : Nat) (l0 : Nat) (l1 : Int32) (l2 : Int32) (h : aH) (K : Option Value → aH → Prop) : E scr false (d + 1) 45 0 [.ref l0, .int l1, .int l2, .null, .null, .null, .null] [] h K = gR scr h l0 4 3 (fun x1 : Nat => gR scr h l0 4 0 (fun x2 : Nat => vV scr d 52 [.ref x1, .ref x2] h (fun h3 : aH => E scr false (d + 1) 45 13 [.ref l0, .int l1, .int l2, .int 0, .null, .null, .null] [] h3 K))) := go (w := (1, [.ref l0, .int l1, .int l2, .null, .null, .null, .null], [.ref l0], h)) r45_0 rfl rfl (E_gR r45_1 rfl (fun x1 => go (w := (5, [.ref l0, .int l1, .int l2, .null, .null, .null, .null], [.ref l0, .ref x1], h)) r45_4 rfl rfl (E_gR r45_5 rfl (fun x2 => E_vV r45_8 (As := [.ref x1, .ref x2]) (rest := []) (cut_n mi52.1 rfl rfl) (rm8_n mi52.2.1 (Nat.le_of_ble_eq_true rfl) (Nat.le_of_ble_eq_true rfl)) mi52.2.2 (fun h3 => E_ic r45_11 (v := 0) (by decide) (go (w := (13, [.ref l0, .int l1, .int l2, .int 0, .null, .null, .null], [], h3)) r45_12 rfl rfl (rfl)))))))
theorem b45_13 (d : Nat) (l0 : Nat) (l1 : Int32) (l2 : Int32) (l3 : Int32) (h : aH) (K : Option Value → aH → Prop) : E scr false (d + 1) 45 13 [.ref l0, .int l1, .int l2, .int l3, .null, .null, .null] [] h K = (if l2 ≤ l3 then E scr false (d + 1) 45 39 [.ref l0, .int l1, .int l2, .int 0, .null, .null, .null] [] h K else gR scr h l0 4 3 (fun x1 : Nat => gR scr h l0 4 7 (fun x2 : Nat => aI scr h x2 l3 (fun x3 : Int32 => vV scr d 59 [.ref x1, .int x3] h (fun h4 : aH => E scr false (d + 1) 45 13 [.ref l0, .int l1, .int l2, .int (l3 + 1), .null, .null, .null] [] h4 K))))) := go (w := (14, [.ref l0, .int l1, .int l2, .int l3, .null, .null, .null], [.int l3], h)) r45_13 rfl rfl (go (w := (15, [.ref l0, .int l1, .int l2, .int l3, .null, .null, .null], [.int l2, .int l3], h)) r45_14 rfl rfl (E_i2_ge r45_15 rfl (E_ic r45_37 (v := 0) (by decide) (go (w := (39, [.ref l0, .int l1, .int l2, .int 0, .null, .null, .null], [], h)) r45_38 rfl rfl (rfl))) (go (w := (19, [.ref l0, .int l1, .int l2, .int l3, .null, .null, .null], [.ref l0], h)) r45_18 rfl rfl (E_gR r45_19 rfl (fun x1 => go (w := (23, [.ref l0, .int l1, .int l2, .int l3, .null, .null, .null], [.ref l0, .ref x1], h)) r45_22 rfl rfl (E_gR r45_23 rfl (fun x2 => go (w := (27, [.ref l0, .int l1, .int l2, .int l3, .null, .null, .null], [.int l3, .ref x2, .ref x1], h)) r45_26 rfl rfl (E_aI r45_27 (fun x3 => E_vV r45_28 (As := [.ref x1, .int x3]) (rest := []) (cut_n mi59.1 rfl rfl) (rm8_n mi59.2.1 (Nat.le_of_ble_eq_true rfl) (Nat.le_of_ble_eq_true rfl)) mi59.2.2 (fun h4 => E_inc r45_31 (c := 1) rfl (by decide) (L' := [.ref l0, .int l1, .int l2, .int (l3 + 1), .null, .null, .null]) rfl (E_gt r45_34 rfl (rfl))))))))))))
theorem b45_39 (d : Nat) (l0 : Nat) (l1 : Int32) (l2 : Int32) (l3 : Int32) (l4 : Value) (l5 : Value) (l6 : Value) (h : aH) (K : Option Value → aH → Prop) : E scr false (d + 1) 45 39 [.ref l0, .int l1, .int l2, .int l3, l4, l5, l6] [] h K = (if l2 ≤ l3 then K (some (.int 1)) h else sI scr d 42 [.int l1, .int l3, .int l2] h (fun (x2 : Int32) (h1 : aH) => gR scr h1 l0 4 0 (fun x3 : Nat => gR scr h1 x3 5 10 (fun x4 : Nat => gR scr h1 l0 4 7 (fun x5 : Nat => aI scr h1 x5 l3 (fun x6 : Int32 => aI scr h1 x4 x6 (fun x7 : Int32 => (if 8 ≤ x2 then E scr false (d + 1) 45 91 [.ref l0, .int l1, .int l2, .int l3, .int x2, .int x7, l6] [.int x7] h1 K else gR scr h1 l0 4 0 (fun x8 : Nat => vI scr d 58 [.ref x8, .int x7, .int x2] h1 (fun (x10 : Int32) (h9 : aH) => E scr false (d + 1) 45 91 [.ref l0, .int l1, .int l2, .int l3, .int x2, .int x7, l6] [.int x10] h9 K)))))))))) := go (w := (40, [.ref l0, .int l1, .int l2, .int l3, l4, l5, l6], [.int l3], h)) r45_39 rfl rfl (go (w := (41, [.ref l0, .int l1, .int l2, .int l3, l4, l5, l6], [.int l2, .int l3], h)) r45_40 rfl rfl (E_i2_ge r45_41 rfl (E_ic r45_141 (v := 1) (by decide) (E_rz r45_142 (mq45) (by decide))) (go (w := (45, [.ref l0, .int l1, .int l2, .int l3, l4, l5, l6], [.int l1], h)) r45_44 rfl rfl (go (w := (46, [.ref l0, .int l1, .int l2, .int l3, l4, l5, l6], [.int l3, .int l1], h)) r45_45 rfl rfl (go (w := (47, [.ref l0, .int l1, .int l2, .int l3, l4, l5, l6], [.int l2, .int l3, .int l1], h)) r45_46 rfl rfl (E_sI r45_47 (As := [.int l1, .int l3, .int l2]) (rest := []) (cut_n mi42.1 rfl rfl) (rm8_n mi42.2.1 (Nat.le_of_ble_eq_true rfl) (Nat.le_of_ble_eq_true rfl)) mi42.2.2 (fun x2 h1 => go (w := (52, [.ref l0, .int l1, .int l2, .int l3, .int x2, l5, l6], [], h1)) r45_50 rfl rfl (go (w := (53, [.ref l0, .int l1, .int l2, .int l3, .int x2, l5, l6], [.ref l0], h1)) r45_52 rfl rfl (E_gR r45_53 rfl (fun x3 => E_gR r45_56 rfl (fun x4 => go (w := (60, [.ref l0, .int l1, .int l2, .int l3, .int x2, l5, l6], [.ref l0, .ref x4], h1)) r45_59 rfl rfl (E_gR r45_60 rfl (fun x5 => go (w := (64, [.ref l0, .int l1, .int l2, .int l3, .int x2, l5, l6], [.int l3, .ref x5, .ref x4], h1)) r45_63 rfl rfl (E_aI r45_64 (fun x6 => E_aI r45_65 (fun x7 => go (w := (68, [.ref l0, .int l1, .int l2, .int l3, .int x2, .int x7, l6], [], h1)) r45_66 rfl rfl (go (w := (70, [.ref l0, .int l1, .int l2, .int l3, .int x2, .int x7, l6], [.int x2], h1)) r45_68 rfl rfl (E_bip r45_70 (v := 8) (by decide) (E_i2_ge r45_72 rfl (go (w := (91, [.ref l0, .int l1, .int l2, .int l3, .int x2, .int x7, l6], [.int x7], h1)) r45_89 rfl rfl (rfl)) (go (w := (76, [.ref l0, .int l1, .int l2, .int l3, .int x2, .int x7, l6], [.ref l0], h1)) r45_75 rfl rfl (E_gR r45_76 rfl (fun x8 => go (w := (81, [.ref l0, .int l1, .int l2, .int l3, .int x2, .int x7, l6], [.int x7, .ref x8], h1)) r45_79 rfl rfl (go (w := (83, [.ref l0, .int l1, .int l2, .int l3, .int x2, .int x7, l6], [.int x2, .int x7, .ref x8], h1)) r45_81 rfl rfl (E_vI r45_83 (As := [.ref x8, .int x7, .int x2]) (rest := []) (cut_n mi58.1 rfl rfl) (rm8_n mi58.2.1 (Nat.le_of_ble_eq_true rfl) (Nat.le_of_ble_eq_true rfl)) mi58.2.2 (fun x10 h9 => E_gt r45_86 rfl (rfl))))))))))))))))))))))))))
theorem b45_91 (d : Nat) (l0 : Nat) (l1 : Int32) (l2 : Int32) (l3 : Int32) (l4 : Int32) (l5 : Int32) (l6 : Value) (s0 : Int32) (h : aH) (K : Option Value → aH → Prop) : E scr false (d + 1) 45 91 [.ref l0, .int l1, .int l2, .int l3, .int l4, .int l5, l6] [.int s0] h K = (if s0 < 0 then K (some (.int 0)) h else gR scr h l0 4 3 (fun x1 : Nat => vI scr d 57 [.ref x1, .int (irm s0 12), .int (s0 / 12)] h (fun (x3 : Int32) (h2 : aH) => (if x3 = 0 then K (some (.int 0)) h2 else gR scr h2 l0 4 3 (fun x4 : Nat => gR scr h2 l0 4 7 (fun x5 : Nat => aI scr h2 x5 l3 (fun x6 : Int32 => vV scr d 60 [.ref x4, .int x6, .int s0] h2 (fun h7 : aH => E scr false (d + 1) 45 39 [.ref l0, .int l1, .int l2, .int (l3 + 1), .int l4, .int l5, .int s0] [] h7 K)))))))) := go (w := (93, [.ref l0, .int l1, .int l2, .int l3, .int l4, .int l5, .int s0], [], h)) r45_91 rfl rfl (go (w := (95, [.ref l0, .int l1, .int l2, .int l3, .int l4, .int l5, .int s0], [.int s0], h)) r45_93 rfl rfl (E_i1_lt r45_95 rfl (E_ic r45_118 (v := 0) (by decide) (E_rz r45_119 (mq45) (by decide))) (go (w := (99, [.ref l0, .int l1, .int l2, .int l3, .int l4, .int l5, .int s0], [.ref l0], h)) r45_98 rfl rfl (E_gR r45_99 rfl (fun x1 => go (w := (104, [.ref l0, .int l1, .int l2, .int l3, .int l4, .int l5, .int s0], [.int s0, .ref x1], h)) r45_102 rfl rfl (E_bip r45_104 (v := 12) (by decide) (E_remc r45_106 (by decide) (go (w := (109, [.ref l0, .int l1, .int l2, .int l3, .int l4, .int l5, .int s0], [.int s0, .int (irm s0 12), .ref x1], h)) r45_107 rfl rfl (E_bip r45_109 (v := 12) (by decide) (E_divc r45_111 (by decide) (E_vI r45_112 (As := [.ref x1, .int (irm s0 12), .int (s0 / 12)]) (rest := []) (cut_n mi57.1 rfl rfl) (rm8_n mi57.2.1 (Nat.le_of_ble_eq_true rfl) (Nat.le_of_ble_eq_true rfl)) mi57.2.2 (fun x3 h2 => E_i1_ne r45_115 rfl (go (w := (121, [.ref l0, .int l1, .int l2, .int l3, .int l4, .int l5, .int s0], [.ref l0], h2)) r45_120 rfl rfl (E_gR r45_121 rfl (fun x4 => go (w := (125, [.ref l0, .int l1, .int l2, .int l3, .int l4, .int l5, .int s0], [.ref l0, .ref x4], h2)) r45_124 rfl rfl (E_gR r45_125 rfl (fun x5 => go (w := (129, [.ref l0, .int l1, .int l2, .int l3, .int l4, .int l5, .int s0], [.int l3, .ref x5, .ref x4], h2)) r45_128 rfl rfl (E_aI r45_129 (fun x6 => go (w := (132, [.ref l0, .int l1, .int l2, .int l3, .int l4, .int l5, .int s0], [.int s0, .int x6, .ref x4], h2)) r45_130 rfl rfl (E_vV r45_132 (As := [.ref x4, .int x6, .int s0]) (rest := []) (cut_n mi60.1 rfl rfl) (rm8_n mi60.2.1 (Nat.le_of_ble_eq_true rfl) (Nat.le_of_ble_eq_true rfl)) mi60.2.2 (fun h7 => E_inc r45_135 (c := 1) rfl (by decide) (L' := [.ref l0, .int l1, .int l2, .int (l3 + 1), .int l4, .int l5, .int s0]) rfl (E_gt r45_138 rfl (rfl))))))))))) (E_ic r45_118 (v := 0) (by decide) (E_rz r45_119 (mq45) (by decide)))))))))))))))
-- 46 SecondNearest$Planner.leadsHere(LSecondNearest$Law;I)Z
theorem mq46 : mRet 46 = (some .boolean) := by decide +kernel
theorem r46_0 : rowAt 46 0 = some (.aload_n 0, 1, 0, 0) := by decide +kernel
theorem r46_1 : rowAt 46 1 = some (.getfield 35, 3, 4, 1) := by decide +kernel
theorem r46_4 : rowAt 46 4 = some (.aload_n 0, 1, 0, 0) := by decide +kernel
theorem r46_5 : rowAt 46 5 = some (.getfield 12, 3, 4, 3) := by decide +kernel
theorem r46_8 : rowAt 46 8 = some (.aload_n 1, 1, 0, 0) := by decide +kernel
theorem r46_9 : rowAt 46 9 = some (.invokevirtual 77, 3, 79, 0) := by decide +kernel
theorem r46_12 : rowAt 46 12 = some (.pop, 1, 0, 0) := by decide +kernel
theorem r46_13 : rowAt 46 13 = some (.iconst 0, 1, 0, 0) := by decide +kernel
theorem r46_14 : rowAt 46 14 = some (.istore_n 3, 1, 0, 0) := by decide +kernel
theorem r46_15 : rowAt 46 15 = some (.iload_n 3, 1, 0, 0) := by decide +kernel
theorem r46_16 : rowAt 46 16 = some (.iload_n 2, 1, 0, 0) := by decide +kernel
theorem r46_17 : rowAt 46 17 = some (.if_icmp .ge 42, 3, 0, 0) := by decide +kernel
theorem r46_20 : rowAt 46 20 = some (.aload_n 0, 1, 0, 0) := by decide +kernel
theorem r46_21 : rowAt 46 21 = some (.getfield 12, 3, 4, 3) := by decide +kernel
theorem r46_24 : rowAt 46 24 = some (.getfield 64, 3, 5, 10) := by decide +kernel
theorem r46_27 : rowAt 46 27 = some (.aload_n 0, 1, 0, 0) := by decide +kernel
theorem r46_28 : rowAt 46 28 = some (.getfield 28, 3, 4, 7) := by decide +kernel
theorem r46_31 : rowAt 46 31 = some (.iload_n 3, 1, 0, 0) := by decide +kernel
theorem r46_32 : rowAt 46 32 = some (.iaload, 1, 0, 0) := by decide +kernel
theorem r46_33 : rowAt 46 33 = some (.iaload, 1, 0, 0) := by decide +kernel
theorem r46_34 : rowAt 46 34 = some (.aload_n 0, 1, 0, 0) := by decide +kernel
theorem r46_35 : rowAt 46 35 = some (.getfield 32, 3, 4, 0) := by decide +kernel
theorem r46_38 : rowAt 46 38 = some (.getfield 64, 3, 5, 10) := by decide +kernel
theorem r46_41 : rowAt 46 41 = some (.aload_n 0, 1, 0, 0) := by decide +kernel
theorem r46_42 : rowAt 46 42 = some (.getfield 28, 3, 4, 7) := by decide +kernel
theorem r46_45 : rowAt 46 45 = some (.iload_n 3, 1, 0, 0) := by decide +kernel
theorem r46_46 : rowAt 46 46 = some (.iaload, 1, 0, 0) := by decide +kernel
theorem r46_47 : rowAt 46 47 = some (.iaload, 1, 0, 0) := by decide +kernel
theorem r46_48 : rowAt 46 48 = some (.if_icmp .eq 5, 3, 0, 0) := by decide +kernel
theorem r46_51 : rowAt 46 51 = some (.iconst 0, 1, 0, 0) := by decide +kernel
theorem r46_52 : rowAt 46 52 = some (.ireturn, 1, 0, 0) := by decide +kernel
theorem r46_53 : rowAt 46 53 = some (.iinc 3 1, 3, 0, 0) := by decide +kernel
theorem r46_56 : rowAt 46 56 = some (.goto (-41), 3, 0, 0) := by decide +kernel
theorem r46_59 : rowAt 46 59 = some (.iconst 1, 1, 0, 0) := by decide +kernel
theorem r46_60 : rowAt 46 60 = some (.ireturn, 1, 0, 0) := by decide +kernel
theorem en46 (a0 : Nat) (a1 : Nat) (a2 : Int32) : iniL 46 [.ref a0, .ref a1, .int a2] = [.ref a0, .ref a1, .int a2, .null] := ini_n mi46 rfl
theorem b46_0 (d : Nat) (l0 : Nat) (l1 : Nat) (l2 : Int32) (h : aH) (K : Option Value → aH → Prop) : E scr false (d + 1) 46 0 [.ref l0, .ref l1, .int l2, .null] [] h K = gR scr h l0 4 1 (fun x1 : Nat => gR scr h l0 4 3 (fun x2 : Nat => vI scr d 79 [.ref x1, .ref x2, .ref l1] h (fun (x4 : Int32) (h3 : aH) => E scr false (d + 1) 46 15 [.ref l0, .ref l1, .int l2, .int 0] [] h3 K))) := go (w := (1, [.ref l0, .ref l1, .int l2, .null], [.ref l0], h)) r46_0 rfl rfl (E_gR r46_1 rfl (fun x1 => go (w := (5, [.ref l0, .ref l1, .int l2, .null], [.ref l0, .ref x1], h)) r46_4 rfl rfl (E_gR r46_5 rfl (fun x2 => go (w := (9, [.ref l0, .ref l1, .int l2, .null], [.ref l1, .ref x2, .ref x1], h)) r46_8 rfl rfl (E_vI r46_9 (As := [.ref x1, .ref x2, .ref l1]) (rest := []) (cut_n mi79.1 rfl rfl) (rm8_n mi79.2.1 (Nat.le_of_ble_eq_true rfl) (Nat.le_of_ble_eq_true rfl)) mi79.2.2 (fun x4 h3 => go (w := (13, [.ref l0, .ref l1, .int l2, .null], [], h3)) r46_12 rfl rfl (E_ic r46_13 (v := 0) (by decide) (go (w := (15, [.ref l0, .ref l1, .int l2, .int 0], [], h3)) r46_14 rfl rfl (rfl)))))))))
theorem b46_15 (d : Nat) (l0 : Nat) (l1 : Nat) (l2 : Int32) (l3 : Int32) (h : aH) (K : Option Value → aH → Prop) : E scr false d 46 15 [.ref l0, .ref l1, .int l2, .int l3] [] h K = (if l2 ≤ l3 then K (some (.int 1)) h else gR scr h l0 4 3 (fun x1 : Nat => gR scr h x1 5 10 (fun x2 : Nat => gR scr h l0 4 7 (fun x3 : Nat => aI scr h x3 l3 (fun x4 : Int32 => aI scr h x2 x4 (fun x5 : Int32 => gR scr h l0 4 0 (fun x6 : Nat => gR scr h x6 5 10 (fun x7 : Nat => gR scr h l0 4 7 (fun x8 : Nat => aI scr h x8 l3 (fun x9 : Int32 => aI scr h x7 x9 (fun x10 : Int32 => (if x5 = x10 then E scr false d 46 15 [.ref l0, .ref l1, .int l2, .int (l3 + 1)] [] h K else K (some (.int 0)) h)))))))))))) := go (w := (16, [.ref l0, .ref l1, .int l2, .int l3], [.int l3], h)) r46_15 rfl rfl (go (w := (17, [.ref l0, .ref l1, .int l2, .int l3], [.int l2, .int l3], h)) r46_16 rfl rfl (E_i2_ge r46_17 rfl (E_ic r46_59 (v := 1) (by decide) (E_rz r46_60 (mq46) (by decide))) (go (w := (21, [.ref l0, .ref l1, .int l2, .int l3], [.ref l0], h)) r46_20 rfl rfl (E_gR r46_21 rfl (fun x1 => E_gR r46_24 rfl (fun x2 => go (w := (28, [.ref l0, .ref l1, .int l2, .int l3], [.ref l0, .ref x2], h)) r46_27 rfl rfl (E_gR r46_28 rfl (fun x3 => go (w := (32, [.ref l0, .ref l1, .int l2, .int l3], [.int l3, .ref x3, .ref x2], h)) r46_31 rfl rfl (E_aI r46_32 (fun x4 => E_aI r46_33 (fun x5 => go (w := (35, [.ref l0, .ref l1, .int l2, .int l3], [.ref l0, .int x5], h)) r46_34 rfl rfl (E_gR r46_35 rfl (fun x6 => E_gR r46_38 rfl (fun x7 => go (w := (42, [.ref l0, .ref l1, .int l2, .int l3], [.ref l0, .ref x7, .int x5], h)) r46_41 rfl rfl (E_gR r46_42 rfl (fun x8 => go (w := (46, [.ref l0, .ref l1, .int l2, .int l3], [.int l3, .ref x8, .ref x7, .int x5], h)) r46_45 rfl rfl (E_aI r46_46 (fun x9 => E_aI r46_47 (fun x10 => E_i2_eq r46_48 rfl (E_inc r46_53 (c := 1) rfl (by decide) (L' := [.ref l0, .ref l1, .int l2, .int (l3 + 1)]) rfl (E_gt r46_56 rfl (rfl))) (E_ic r46_51 (v := 0) (by decide) (E_rz r46_52 (mq46) (by decide))))))))))))))))))))))
-- 47 SecondNearest$Planner.judge(LSecondNearest$Law;)I
theorem mq47 : mRet 47 = (some .int) := by decide +kernel
theorem r47_0 : rowAt 47 0 = some (.iconst 0, 1, 0, 0) := by decide +kernel
theorem r47_1 : rowAt 47 1 = some (.istore_n 2, 1, 0, 0) := by decide +kernel
theorem r47_2 : rowAt 47 2 = some (.iconst 0, 1, 0, 0) := by decide +kernel
theorem r47_3 : rowAt 47 3 = some (.istore_n 3, 1, 0, 0) := by decide +kernel
theorem r47_4 : rowAt 47 4 = some (.iload_n 3, 1, 0, 0) := by decide +kernel
theorem r47_5 : rowAt 47 5 = some (.aload_n 0, 1, 0, 0) := by decide +kernel
theorem r47_6 : rowAt 47 6 = some (.getfield 32, 3, 4, 0) := by decide +kernel
theorem r47_9 : rowAt 47 9 = some (.getfield 175, 3, 5, 7) := by decide +kernel
theorem r47_12 : rowAt 47 12 = some (.if_icmp .ge 29, 3, 0, 0) := by decide +kernel
theorem r47_15 : rowAt 47 15 = some (.iload_n 3, 1, 0, 0) := by decide +kernel
theorem r47_16 : rowAt 47 16 = some (.bipush 40, 2, 0, 0) := by decide +kernel
theorem r47_18 : rowAt 47 18 = some (.if_icmp .ge 23, 3, 0, 0) := by decide +kernel
theorem r47_21 : rowAt 47 21 = some (.iload_n 2, 1, 0, 0) := by decide +kernel
theorem r47_22 : rowAt 47 22 = some (.aload_n 0, 1, 0, 0) := by decide +kernel
theorem r47_23 : rowAt 47 23 = some (.getfield 32, 3, 4, 0) := by decide +kernel
theorem r47_26 : rowAt 47 26 = some (.getfield 178, 3, 5, 14) := by decide +kernel
theorem r47_29 : rowAt 47 29 = some (.iload_n 3, 1, 0, 0) := by decide +kernel
theorem r47_30 : rowAt 47 30 = some (.iaload, 1, 0, 0) := by decide +kernel
theorem r47_31 : rowAt 47 31 = some (.invokestatic 102, 3, 225, 1) := by decide +kernel
theorem r47_34 : rowAt 47 34 = some (.istore_n 2, 1, 0, 0) := by decide +kernel
theorem r47_35 : rowAt 47 35 = some (.iinc 3 1, 3, 0, 0) := by decide +kernel
theorem r47_38 : rowAt 47 38 = some (.goto (-34), 3, 0, 0) := by decide +kernel
theorem r47_41 : rowAt 47 41 = some (.aload_n 0, 1, 0, 0) := by decide +kernel
theorem r47_42 : rowAt 47 42 = some (.getfield 12, 3, 4, 3) := by decide +kernel
theorem r47_45 : rowAt 47 45 = some (.aload_n 0, 1, 0, 0) := by decide +kernel
theorem r47_46 : rowAt 47 46 = some (.getfield 32, 3, 4, 0) := by decide +kernel
theorem r47_49 : rowAt 47 49 = some (.invokevirtual 43, 3, 51, 0) := by decide +kernel
theorem r47_52 : rowAt 47 52 = some (.aload_n 0, 1, 0, 0) := by decide +kernel
theorem r47_53 : rowAt 47 53 = some (.getfield 32, 3, 4, 0) := by decide +kernel
theorem r47_56 : rowAt 47 56 = some (.getfield 175, 3, 5, 7) := by decide +kernel
theorem r47_59 : rowAt 47 59 = some (.istore_n 3, 1, 0, 0) := by decide +kernel
theorem r47_60 : rowAt 47 60 = some (.iconst 1, 1, 0, 0) := by decide +kernel
theorem r47_61 : rowAt 47 61 = some (.istore 4, 2, 0, 0) := by decide +kernel
theorem r47_63 : rowAt 47 63 = some (.iload 4, 2, 0, 0) := by decide +kernel
theorem r47_65 : rowAt 47 65 = some (.iload_n 2, 1, 0, 0) := by decide +kernel
theorem r47_66 : rowAt 47 66 = some (.if_icmp .gt 97, 3, 0, 0) := by decide +kernel
theorem r47_69 : rowAt 47 69 = some (.iload 4, 2, 0, 0) := by decide +kernel
theorem r47_71 : rowAt 47 71 = some (.sipush 200, 3, 0, 0) := by decide +kernel
theorem r47_74 : rowAt 47 74 = some (.if_icmp .gt 89, 3, 0, 0) := by decide +kernel
theorem r47_77 : rowAt 47 77 = some (.aload_n 0, 1, 0, 0) := by decide +kernel
theorem r47_78 : rowAt 47 78 = some (.getfield 35, 3, 4, 1) := by decide +kernel
theorem r47_81 : rowAt 47 81 = some (.aload_n 0, 1, 0, 0) := by decide +kernel
theorem r47_82 : rowAt 47 82 = some (.getfield 12, 3, 4, 3) := by decide +kernel
theorem r47_85 : rowAt 47 85 = some (.aload_n 1, 1, 0, 0) := by decide +kernel
theorem r47_86 : rowAt 47 86 = some (.invokevirtual 77, 3, 79, 0) := by decide +kernel
theorem r47_89 : rowAt 47 89 = some (.pop, 1, 0, 0) := by decide +kernel
theorem r47_90 : rowAt 47 90 = some (.iconst 0, 1, 0, 0) := by decide +kernel
theorem r47_91 : rowAt 47 91 = some (.istore 5, 2, 0, 0) := by decide +kernel
theorem r47_93 : rowAt 47 93 = some (.iload 5, 2, 0, 0) := by decide +kernel
theorem r47_95 : rowAt 47 95 = some (.iload_n 3, 1, 0, 0) := by decide +kernel
theorem r47_96 : rowAt 47 96 = some (.if_icmp .ge 61, 3, 0, 0) := by decide +kernel
theorem r47_99 : rowAt 47 99 = some (.iload 5, 2, 0, 0) := by decide +kernel
theorem r47_101 : rowAt 47 101 = some (.bipush 40, 2, 0, 0) := by decide +kernel
theorem r47_103 : rowAt 47 103 = some (.if_icmp .ge 54, 3, 0, 0) := by decide +kernel
theorem r47_106 : rowAt 47 106 = some (.aload_n 0, 1, 0, 0) := by decide +kernel
theorem r47_107 : rowAt 47 107 = some (.getfield 32, 3, 4, 0) := by decide +kernel
theorem r47_110 : rowAt 47 110 = some (.getfield 178, 3, 5, 14) := by decide +kernel
theorem r47_113 : rowAt 47 113 = some (.iload 5, 2, 0, 0) := by decide +kernel
theorem r47_115 : rowAt 47 115 = some (.iaload, 1, 0, 0) := by decide +kernel
theorem r47_116 : rowAt 47 116 = some (.iload 4, 2, 0, 0) := by decide +kernel
theorem r47_118 : rowAt 47 118 = some (.if_icmp .ne 33, 3, 0, 0) := by decide +kernel
theorem r47_121 : rowAt 47 121 = some (.aload_n 0, 1, 0, 0) := by decide +kernel
theorem r47_122 : rowAt 47 122 = some (.aload_n 0, 1, 0, 0) := by decide +kernel
theorem r47_123 : rowAt 47 123 = some (.getfield 32, 3, 4, 0) := by decide +kernel
theorem r47_126 : rowAt 47 126 = some (.getfield 181, 3, 5, 15) := by decide +kernel
theorem r47_129 : rowAt 47 129 = some (.iload 5, 2, 0, 0) := by decide +kernel
theorem r47_131 : rowAt 47 131 = some (.iaload, 1, 0, 0) := by decide +kernel
theorem r47_132 : rowAt 47 132 = some (.aload_n 0, 1, 0, 0) := by decide +kernel
theorem r47_133 : rowAt 47 133 = some (.getfield 32, 3, 4, 0) := by decide +kernel
theorem r47_136 : rowAt 47 136 = some (.getfield 184, 3, 5, 16) := by decide +kernel
theorem r47_139 : rowAt 47 139 = some (.iload 5, 2, 0, 0) := by decide +kernel
theorem r47_141 : rowAt 47 141 = some (.iaload, 1, 0, 0) := by decide +kernel
theorem r47_142 : rowAt 47 142 = some (.invokevirtual 187, 3, 48, 0) := by decide +kernel
theorem r47_145 : rowAt 47 145 = some (.ifCond .ne 6, 3, 0, 0) := by decide +kernel
theorem r47_148 : rowAt 47 148 = some (.iload 5, 2, 0, 0) := by decide +kernel
theorem r47_150 : rowAt 47 150 = some (.istore_n 3, 1, 0, 0) := by decide +kernel
theorem r47_151 : rowAt 47 151 = some (.iinc 5 1, 3, 0, 0) := by decide +kernel
theorem r47_154 : rowAt 47 154 = some (.goto (-61), 3, 0, 0) := by decide +kernel
theorem r47_157 : rowAt 47 157 = some (.iinc 4 1, 3, 0, 0) := by decide +kernel
theorem r47_160 : rowAt 47 160 = some (.goto (-97), 3, 0, 0) := by decide +kernel
theorem r47_163 : rowAt 47 163 = some (.iload_n 3, 1, 0, 0) := by decide +kernel
theorem r47_164 : rowAt 47 164 = some (.aload_n 0, 1, 0, 0) := by decide +kernel
theorem r47_165 : rowAt 47 165 = some (.getfield 32, 3, 4, 0) := by decide +kernel
theorem r47_168 : rowAt 47 168 = some (.getfield 175, 3, 5, 7) := by decide +kernel
theorem r47_171 : rowAt 47 171 = some (.if_icmp .ge 7, 3, 0, 0) := by decide +kernel
theorem r47_174 : rowAt 47 174 = some (.iload_n 3, 1, 0, 0) := by decide +kernel
theorem r47_175 : rowAt 47 175 = some (.goto 5, 3, 0, 0) := by decide +kernel
theorem r47_178 : rowAt 47 178 = some (.bipush (-2), 2, 0, 0) := by decide +kernel
theorem r47_180 : rowAt 47 180 = some (.ireturn, 1, 0, 0) := by decide +kernel
theorem en47 (a0 : Nat) (a1 : Nat) : iniL 47 [.ref a0, .ref a1] = [.ref a0, .ref a1, .null, .null, .null, .null] := ini_n mi47 rfl
theorem b47_0 (d : Nat) (l0 : Nat) (l1 : Nat) (h : aH) (K : Option Value → aH → Prop) : E scr false d 47 0 [.ref l0, .ref l1, .null, .null, .null, .null] [] h K = E scr false d 47 4 [.ref l0, .ref l1, .int 0, .int 0, .null, .null] [] h K := E_ic r47_0 (v := 0) (by decide) (go (w := (2, [.ref l0, .ref l1, .int 0, .null, .null, .null], [], h)) r47_1 rfl rfl (E_ic r47_2 (v := 0) (by decide) (go (w := (4, [.ref l0, .ref l1, .int 0, .int 0, .null, .null], [], h)) r47_3 rfl rfl (rfl))))
theorem b47_4 (d : Nat) (l0 : Nat) (l1 : Nat) (l2 : Int32) (l3 : Int32) (h : aH) (K : Option Value → aH → Prop) : E scr false (d + 1) 47 4 [.ref l0, .ref l1, .int l2, .int l3, .null, .null] [] h K = gR scr h l0 4 0 (fun x1 : Nat => gI scr h x1 5 7 (fun x2 : Int32 => (if x2 ≤ l3 then E scr false (d + 1) 47 41 [.ref l0, .ref l1, .int l2, .int l3, .null, .null] [] h K else (if 40 ≤ l3 then E scr false (d + 1) 47 41 [.ref l0, .ref l1, .int l2, .int l3, .null, .null] [] h K else gR scr h l0 4 0 (fun x3 : Nat => gR scr h x3 5 14 (fun x4 : Nat => aI scr h x4 l3 (fun x5 : Int32 => sI scr d 225 [.int l2, .int x5] h (fun (x7 : Int32) (h6 : aH) => E scr false (d + 1) 47 4 [.ref l0, .ref l1, .int x7, .int (l3 + 1), .null, .null] [] h6 K)))))))) := go (w := (5, [.ref l0, .ref l1, .int l2, .int l3, .null, .null], [.int l3], h)) r47_4 rfl rfl (go (w := (6, [.ref l0, .ref l1, .int l2, .int l3, .null, .null], [.ref l0, .int l3], h)) r47_5 rfl rfl (E_gR r47_6 rfl (fun x1 => E_gI r47_9 rfl (fun x2 => E_i2_ge r47_12 rfl (rfl) (go (w := (16, [.ref l0, .ref l1, .int l2, .int l3, .null, .null], [.int l3], h)) r47_15 rfl rfl (E_bip r47_16 (v := 40) (by decide) (E_i2_ge r47_18 rfl (rfl) (go (w := (22, [.ref l0, .ref l1, .int l2, .int l3, .null, .null], [.int l2], h)) r47_21 rfl rfl (go (w := (23, [.ref l0, .ref l1, .int l2, .int l3, .null, .null], [.ref l0, .int l2], h)) r47_22 rfl rfl (E_gR r47_23 rfl (fun x3 => E_gR r47_26 rfl (fun x4 => go (w := (30, [.ref l0, .ref l1, .int l2, .int l3, .null, .null], [.int l3, .ref x4, .int l2], h)) r47_29 rfl rfl (E_aI r47_30 (fun x5 => E_sI r47_31 (As := [.int l2, .int x5]) (rest := []) (cut_n mi225.1 rfl rfl) (rm8_n mi225.2.1 (Nat.le_of_ble_eq_true rfl) (Nat.le_of_ble_eq_true rfl)) mi225.2.2 (fun x7 h6 => go (w := (35, [.ref l0, .ref l1, .int x7, .int l3, .null, .null], [], h6)) r47_34 rfl rfl (E_inc r47_35 (c := 1) rfl (by decide) (L' := [.ref l0, .ref l1, .int x7, .int (l3 + 1), .null, .null]) rfl (E_gt r47_38 rfl (rfl))))))))))))))))))
theorem b47_41 (d : Nat) (l0 : Nat) (l1 : Nat) (l2 : Int32) (l3 : Int32) (h : aH) (K : Option Value → aH → Prop) : E scr false (d + 1) 47 41 [.ref l0, .ref l1, .int l2, .int l3, .null, .null] [] h K = gR scr h l0 4 3 (fun x1 : Nat => gR scr h l0 4 0 (fun x2 : Nat => vV scr d 51 [.ref x1, .ref x2] h (fun h3 : aH => gR scr h3 l0 4 0 (fun x5 : Nat => gI scr h3 x5 5 7 (fun x6 : Int32 => E scr false (d + 1) 47 63 [.ref l0, .ref l1, .int l2, .int x6, .int 1, .null] [] h3 K))))) := go (w := (42, [.ref l0, .ref l1, .int l2, .int l3, .null, .null], [.ref l0], h)) r47_41 rfl rfl (E_gR r47_42 rfl (fun x1 => go (w := (46, [.ref l0, .ref l1, .int l2, .int l3, .null, .null], [.ref l0, .ref x1], h)) r47_45 rfl rfl (E_gR r47_46 rfl (fun x2 => E_vV r47_49 (As := [.ref x1, .ref x2]) (rest := []) (cut_n mi51.1 rfl rfl) (rm8_n mi51.2.1 (Nat.le_of_ble_eq_true rfl) (Nat.le_of_ble_eq_true rfl)) mi51.2.2 (fun h3 => go (w := (53, [.ref l0, .ref l1, .int l2, .int l3, .null, .null], [.ref l0], h3)) r47_52 rfl rfl (E_gR r47_53 rfl (fun x5 => E_gI r47_56 rfl (fun x6 => go (w := (60, [.ref l0, .ref l1, .int l2, .int x6, .null, .null], [], h3)) r47_59 rfl rfl (E_ic r47_60 (v := 1) (by decide) (go (w := (63, [.ref l0, .ref l1, .int l2, .int x6, .int 1, .null], [], h3)) r47_61 rfl rfl (rfl)))))))))))
theorem b47_63 (d : Nat) (l0 : Nat) (l1 : Nat) (l2 : Int32) (l3 : Int32) (l4 : Int32) (l5 : Value) (h : aH) (K : Option Value → aH → Prop) : E scr false (d + 1) 47 63 [.ref l0, .ref l1, .int l2, .int l3, .int l4, l5] [] h K = (if l2 < l4 then E scr false (d + 1) 47 163 [.ref l0, .ref l1, .int l2, .int l3, .int l4, l5] [] h K else (if 200 < l4 then E scr false (d + 1) 47 163 [.ref l0, .ref l1, .int l2, .int l3, .int l4, l5] [] h K else gR scr h l0 4 1 (fun x1 : Nat => gR scr h l0 4 3 (fun x2 : Nat => vI scr d 79 [.ref x1, .ref x2, .ref l1] h (fun (x4 : Int32) (h3 : aH) => E scr false (d + 1) 47 93 [.ref l0, .ref l1, .int l2, .int l3, .int l4, .int 0] [] h3 K))))) := go (w := (65, [.ref l0, .ref l1, .int l2, .int l3, .int l4, l5], [.int l4], h)) r47_63 rfl rfl (go (w := (66, [.ref l0, .ref l1, .int l2, .int l3, .int l4, l5], [.int l2, .int l4], h)) r47_65 rfl rfl (E_i2_gt r47_66 rfl (rfl) (go (w := (71, [.ref l0, .ref l1, .int l2, .int l3, .int l4, l5], [.int l4], h)) r47_69 rfl rfl (E_sip r47_71 (v := 200) (by decide) (E_i2_gt r47_74 rfl (rfl) (go (w := (78, [.ref l0, .ref l1, .int l2, .int l3, .int l4, l5], [.ref l0], h)) r47_77 rfl rfl (E_gR r47_78 rfl (fun x1 => go (w := (82, [.ref l0, .ref l1, .int l2, .int l3, .int l4, l5], [.ref l0, .ref x1], h)) r47_81 rfl rfl (E_gR r47_82 rfl (fun x2 => go (w := (86, [.ref l0, .ref l1, .int l2, .int l3, .int l4, l5], [.ref l1, .ref x2, .ref x1], h)) r47_85 rfl rfl (E_vI r47_86 (As := [.ref x1, .ref x2, .ref l1]) (rest := []) (cut_n mi79.1 rfl rfl) (rm8_n mi79.2.1 (Nat.le_of_ble_eq_true rfl) (Nat.le_of_ble_eq_true rfl)) mi79.2.2 (fun x4 h3 => go (w := (90, [.ref l0, .ref l1, .int l2, .int l3, .int l4, l5], [], h3)) r47_89 rfl rfl (E_ic r47_90 (v := 0) (by decide) (go (w := (93, [.ref l0, .ref l1, .int l2, .int l3, .int l4, .int 0], [], h3)) r47_91 rfl rfl (rfl)))))))))))))))
theorem b47_93 (d : Nat) (l0 : Nat) (l1 : Nat) (l2 : Int32) (l3 : Int32) (l4 : Int32) (l5 : Int32) (h : aH) (K : Option Value → aH → Prop) : E scr false (d + 1) 47 93 [.ref l0, .ref l1, .int l2, .int l3, .int l4, .int l5] [] h K = (if l3 ≤ l5 then E scr false (d + 1) 47 157 [.ref l0, .ref l1, .int l2, .int l3, .int l4, .int l5] [] h K else (if 40 ≤ l5 then E scr false (d + 1) 47 157 [.ref l0, .ref l1, .int l2, .int l3, .int l4, .int l5] [] h K else gR scr h l0 4 0 (fun x1 : Nat => gR scr h x1 5 14 (fun x2 : Nat => aI scr h x2 l5 (fun x3 : Int32 => (if x3 = l4 then gR scr h l0 4 0 (fun x4 : Nat => gR scr h x4 5 15 (fun x5 : Nat => aI scr h x5 l5 (fun x6 : Int32 => gR scr h l0 4 0 (fun x7 : Nat => gR scr h x7 5 16 (fun x8 : Nat => aI scr h x8 l5 (fun x9 : Int32 => vI scr d 48 [.ref l0, .int x6, .int x9] h (fun (x11 : Int32) (h10 : aH) => (if x11 = 0 then E scr false (d + 1) 47 151 [.ref l0, .ref l1, .int l2, .int l5, .int l4, .int l5] [] h10 K else E scr false (d + 1) 47 151 [.ref l0, .ref l1, .int l2, .int l3, .int l4, .int l5] [] h10 K)))))))) else E scr false (d + 1) 47 151 [.ref l0, .ref l1, .int l2, .int l3, .int l4, .int l5] [] h K)))))) := go (w := (95, [.ref l0, .ref l1, .int l2, .int l3, .int l4, .int l5], [.int l5], h)) r47_93 rfl rfl (go (w := (96, [.ref l0, .ref l1, .int l2, .int l3, .int l4, .int l5], [.int l3, .int l5], h)) r47_95 rfl rfl (E_i2_ge r47_96 rfl (rfl) (go (w := (101, [.ref l0, .ref l1, .int l2, .int l3, .int l4, .int l5], [.int l5], h)) r47_99 rfl rfl (E_bip r47_101 (v := 40) (by decide) (E_i2_ge r47_103 rfl (rfl) (go (w := (107, [.ref l0, .ref l1, .int l2, .int l3, .int l4, .int l5], [.ref l0], h)) r47_106 rfl rfl (E_gR r47_107 rfl (fun x1 => E_gR r47_110 rfl (fun x2 => go (w := (115, [.ref l0, .ref l1, .int l2, .int l3, .int l4, .int l5], [.int l5, .ref x2], h)) r47_113 rfl rfl (E_aI r47_115 (fun x3 => go (w := (118, [.ref l0, .ref l1, .int l2, .int l3, .int l4, .int l5], [.int l4, .int x3], h)) r47_116 rfl rfl (E_i2_ne r47_118 rfl (rfl) (go (w := (122, [.ref l0, .ref l1, .int l2, .int l3, .int l4, .int l5], [.ref l0], h)) r47_121 rfl rfl (go (w := (123, [.ref l0, .ref l1, .int l2, .int l3, .int l4, .int l5], [.ref l0, .ref l0], h)) r47_122 rfl rfl (E_gR r47_123 rfl (fun x4 => E_gR r47_126 rfl (fun x5 => go (w := (131, [.ref l0, .ref l1, .int l2, .int l3, .int l4, .int l5], [.int l5, .ref x5, .ref l0], h)) r47_129 rfl rfl (E_aI r47_131 (fun x6 => go (w := (133, [.ref l0, .ref l1, .int l2, .int l3, .int l4, .int l5], [.ref l0, .int x6, .ref l0], h)) r47_132 rfl rfl (E_gR r47_133 rfl (fun x7 => E_gR r47_136 rfl (fun x8 => go (w := (141, [.ref l0, .ref l1, .int l2, .int l3, .int l4, .int l5], [.int l5, .ref x8, .int x6, .ref l0], h)) r47_139 rfl rfl (E_aI r47_141 (fun x9 => E_vI r47_142 (As := [.ref l0, .int x6, .int x9]) (rest := []) (cut_n mi48.1 rfl rfl) (rm8_n mi48.2.1 (Nat.le_of_ble_eq_true rfl) (Nat.le_of_ble_eq_true rfl)) mi48.2.2 (fun x11 h10 => E_i1_ne r47_145 rfl (rfl) (go (w := (150, [.ref l0, .ref l1, .int l2, .int l3, .int l4, .int l5], [.int l5], h10)) r47_148 rfl rfl (go (w := (151, [.ref l0, .ref l1, .int l2, .int l5, .int l4, .int l5], [], h10)) r47_150 rfl rfl (rfl))))))))))))))))))))))))))))
theorem b47_151 (d : Nat) (l0 : Nat) (l1 : Nat) (l2 : Int32) (l3 : Int32) (l4 : Int32) (l5 : Int32) (h : aH) (K : Option Value → aH → Prop) : E scr false d 47 151 [.ref l0, .ref l1, .int l2, .int l3, .int l4, .int l5] [] h K = E scr false d 47 93 [.ref l0, .ref l1, .int l2, .int l3, .int l4, .int (l5 + 1)] [] h K := E_inc r47_151 (c := 1) rfl (by decide) (L' := [.ref l0, .ref l1, .int l2, .int l3, .int l4, .int (l5 + 1)]) rfl (E_gt r47_154 rfl (rfl))
theorem b47_157 (d : Nat) (l0 : Nat) (l1 : Nat) (l2 : Int32) (l3 : Int32) (l4 : Int32) (l5 : Int32) (h : aH) (K : Option Value → aH → Prop) : E scr false d 47 157 [.ref l0, .ref l1, .int l2, .int l3, .int l4, .int l5] [] h K = E scr false d 47 63 [.ref l0, .ref l1, .int l2, .int l3, .int (l4 + 1), .int l5] [] h K := E_inc r47_157 (c := 1) rfl (by decide) (L' := [.ref l0, .ref l1, .int l2, .int l3, .int (l4 + 1), .int l5]) rfl (E_gt r47_160 rfl (rfl))
theorem b47_163 (d : Nat) (l0 : Nat) (l1 : Nat) (l2 : Int32) (l3 : Int32) (l4 : Int32) (l5 : Value) (h : aH) (K : Option Value → aH → Prop) : E scr false d 47 163 [.ref l0, .ref l1, .int l2, .int l3, .int l4, l5] [] h K = gR scr h l0 4 0 (fun x1 : Nat => gI scr h x1 5 7 (fun x2 : Int32 => (if x2 ≤ l3 then K (some (.int (-2))) h else K (some (.int l3)) h))) := go (w := (164, [.ref l0, .ref l1, .int l2, .int l3, .int l4, l5], [.int l3], h)) r47_163 rfl rfl (go (w := (165, [.ref l0, .ref l1, .int l2, .int l3, .int l4, l5], [.ref l0, .int l3], h)) r47_164 rfl rfl (E_gR r47_165 rfl (fun x1 => E_gI r47_168 rfl (fun x2 => E_i2_ge r47_171 rfl (E_bip r47_178 (v := (-2)) (by decide) (E_ri r47_180 (mq47))) (go (w := (175, [.ref l0, .ref l1, .int l2, .int l3, .int l4, l5], [.int l3], h)) r47_174 rfl rfl (E_gt r47_175 rfl (E_ri r47_180 (mq47))))))))
-- 48 SecondNearest$Planner.isFollowing(II)Z
theorem mq48 : mRet 48 = (some .boolean) := by decide +kernel
theorem r48_0 : rowAt 48 0 = some (.aload_n 0, 1, 0, 0) := by decide +kernel
theorem r48_1 : rowAt 48 1 = some (.getfield 32, 3, 4, 0) := by decide +kernel
theorem r48_4 : rowAt 48 4 = some (.iload_n 1, 1, 0, 0) := by decide +kernel
theorem r48_5 : rowAt 48 5 = some (.invokevirtual 60, 3, 53, 0) := by decide +kernel
theorem r48_8 : rowAt 48 8 = some (.ifCond .eq 20, 3, 0, 0) := by decide +kernel
theorem r48_11 : rowAt 48 11 = some (.aload_n 0, 1, 0, 0) := by decide +kernel
theorem r48_12 : rowAt 48 12 = some (.getfield 35, 3, 4, 1) := by decide +kernel
theorem r48_15 : rowAt 48 15 = some (.getfield 94, 3, 7, 6) := by decide +kernel
theorem r48_18 : rowAt 48 18 = some (.iload_n 1, 1, 0, 0) := by decide +kernel
theorem r48_19 : rowAt 48 19 = some (.iaload, 1, 0, 0) := by decide +kernel
theorem r48_20 : rowAt 48 20 = some (.iload_n 2, 1, 0, 0) := by decide +kernel
theorem r48_21 : rowAt 48 21 = some (.if_icmp .ne 7, 3, 0, 0) := by decide +kernel
theorem r48_24 : rowAt 48 24 = some (.iconst 1, 1, 0, 0) := by decide +kernel
theorem r48_25 : rowAt 48 25 = some (.goto 4, 3, 0, 0) := by decide +kernel
theorem r48_28 : rowAt 48 28 = some (.iconst 0, 1, 0, 0) := by decide +kernel
theorem r48_29 : rowAt 48 29 = some (.ireturn, 1, 0, 0) := by decide +kernel
theorem en48 (a0 : Nat) (a1 : Int32) (a2 : Int32) : iniL 48 [.ref a0, .int a1, .int a2] = [.ref a0, .int a1, .int a2] := ini_n mi48 rfl
theorem b48_0 (d : Nat) (l0 : Nat) (l1 : Int32) (l2 : Int32) (h : aH) (K : Option Value → aH → Prop) : E scr false (d + 1) 48 0 [.ref l0, .int l1, .int l2] [] h K = gR scr h l0 4 0 (fun x1 : Nat => vI scr d 53 [.ref x1, .int l1] h (fun (x3 : Int32) (h2 : aH) => (if x3 = 0 then K (some (.int 0)) h2 else gR scr h2 l0 4 1 (fun x4 : Nat => gR scr h2 x4 7 6 (fun x5 : Nat => aI scr h2 x5 l1 (fun x6 : Int32 => (if x6 = l2 then K (some (.int 1)) h2 else K (some (.int 0)) h2))))))) := go (w := (1, [.ref l0, .int l1, .int l2], [.ref l0], h)) r48_0 rfl rfl (E_gR r48_1 rfl (fun x1 => go (w := (5, [.ref l0, .int l1, .int l2], [.int l1, .ref x1], h)) r48_4 rfl rfl (E_vI r48_5 (As := [.ref x1, .int l1]) (rest := []) (cut_n mi53.1 rfl rfl) (rm8_n mi53.2.1 (Nat.le_of_ble_eq_true rfl) (Nat.le_of_ble_eq_true rfl)) mi53.2.2 (fun x3 h2 => E_i1_eq r48_8 rfl (E_ic r48_28 (v := 0) (by decide) (E_rz r48_29 (mq48) (by decide))) (go (w := (12, [.ref l0, .int l1, .int l2], [.ref l0], h2)) r48_11 rfl rfl (E_gR r48_12 rfl (fun x4 => E_gR r48_15 rfl (fun x5 => go (w := (19, [.ref l0, .int l1, .int l2], [.int l1, .ref x5], h2)) r48_18 rfl rfl (E_aI r48_19 (fun x6 => go (w := (21, [.ref l0, .int l1, .int l2], [.int l2, .int x6], h2)) r48_20 rfl rfl (E_i2_ne r48_21 rfl (E_ic r48_28 (v := 0) (by decide) (E_rz r48_29 (mq48) (by decide))) (E_ic r48_24 (v := 1) (by decide) (E_gt r48_25 rfl (E_rz r48_29 (mq48) (by decide)))))))))))))))
-- 50 SecondNearest$Scene.wipe()V
theorem mq50 : mRet 50 = none := by decide +kernel
theorem r50_0 : rowAt 50 0 = some (.aload_n 0, 1, 0, 0) := by decide +kernel
theorem r50_1 : rowAt 50 1 = some (.iconst 0, 1, 0, 0) := by decide +kernel
theorem r50_2 : rowAt 50 2 = some (.putfield 43, 3, 5, 0) := by decide +kernel
theorem r50_5 : rowAt 50 5 = some (.aload_n 0, 1, 0, 0) := by decide +kernel
theorem r50_6 : rowAt 50 6 = some (.iconst 0, 1, 0, 0) := by decide +kernel
theorem r50_7 : rowAt 50 7 = some (.putfield 47, 3, 5, 1) := by decide +kernel
theorem r50_10 : rowAt 50 10 = some (.aload_n 0, 1, 0, 0) := by decide +kernel
theorem r50_11 : rowAt 50 11 = some (.iconst 0, 1, 0, 0) := by decide +kernel
theorem r50_12 : rowAt 50 12 = some (.putfield 50, 3, 5, 2) := by decide +kernel
theorem r50_15 : rowAt 50 15 = some (.aload_n 0, 1, 0, 0) := by decide +kernel
theorem r50_16 : rowAt 50 16 = some (.iconst 0, 1, 0, 0) := by decide +kernel
theorem r50_17 : rowAt 50 17 = some (.putfield 53, 3, 5, 3) := by decide +kernel
theorem r50_20 : rowAt 50 20 = some (.aload_n 0, 1, 0, 0) := by decide +kernel
theorem r50_21 : rowAt 50 21 = some (.iconst 0, 1, 0, 0) := by decide +kernel
theorem r50_22 : rowAt 50 22 = some (.putfield 56, 3, 5, 4) := by decide +kernel
theorem r50_25 : rowAt 50 25 = some (.aload_n 0, 1, 0, 0) := by decide +kernel
theorem r50_26 : rowAt 50 26 = some (.iconst 0, 1, 0, 0) := by decide +kernel
theorem r50_27 : rowAt 50 27 = some (.putfield 59, 3, 5, 5) := by decide +kernel
theorem r50_30 : rowAt 50 30 = some (.aload_n 0, 1, 0, 0) := by decide +kernel
theorem r50_31 : rowAt 50 31 = some (.iconst 0, 1, 0, 0) := by decide +kernel
theorem r50_32 : rowAt 50 32 = some (.putfield 62, 3, 5, 6) := by decide +kernel
theorem r50_35 : rowAt 50 35 = some (.aload_n 0, 1, 0, 0) := by decide +kernel
theorem r50_36 : rowAt 50 36 = some (.iconst 0, 1, 0, 0) := by decide +kernel
theorem r50_37 : rowAt 50 37 = some (.putfield 65, 3, 5, 7) := by decide +kernel
theorem r50_40 : rowAt 50 40 = some (.aload_n 0, 1, 0, 0) := by decide +kernel
theorem r50_41 : rowAt 50 41 = some (.getfield 15, 3, 5, 9) := by decide +kernel
theorem r50_44 : rowAt 50 44 = some (.iconst (-1), 1, 0, 0) := by decide +kernel
theorem r50_45 : rowAt 50 45 = some (.invokestatic 68, 3, 235, 1) := by decide +kernel
theorem r50_48 : rowAt 50 48 = some (.aload_n 0, 1, 0, 0) := by decide +kernel
theorem r50_49 : rowAt 50 49 = some (.getfield 18, 3, 5, 10) := by decide +kernel
theorem r50_52 : rowAt 50 52 = some (.iconst (-1), 1, 0, 0) := by decide +kernel
theorem r50_53 : rowAt 50 53 = some (.invokestatic 74, 3, 234, 1) := by decide +kernel
theorem r50_56 : rowAt 50 56 = some (.aload_n 0, 1, 0, 0) := by decide +kernel
theorem r50_57 : rowAt 50 57 = some (.getfield 28, 3, 5, 13) := by decide +kernel
theorem r50_60 : rowAt 50 60 = some (.iconst (-1), 1, 0, 0) := by decide +kernel
theorem r50_61 : rowAt 50 61 = some (.invokestatic 74, 3, 234, 1) := by decide +kernel
theorem r50_64 : rowAt 50 64 = some (.return_, 1, 0, 0) := by decide +kernel
theorem en50 (a0 : Nat) : iniL 50 [.ref a0] = [.ref a0] := ini_n mi50 rfl
theorem b50_0 (d : Nat) (l0 : Nat) (h : aH) (K : Option Value → aH → Prop) : E scr false (d + 1) 50 0 [.ref l0] [] h K = pF h l0 5 0 (.int 0) (fun h1 : aH => pF h1 l0 5 1 (.int 0) (fun h2 : aH => pF h2 l0 5 2 (.int 0) (fun h3 : aH => pF h3 l0 5 3 (.int 0) (fun h4 : aH => pF h4 l0 5 4 (.int 0) (fun h5 : aH => pF h5 l0 5 5 (.int 0) (fun h6 : aH => pF h6 l0 5 6 (.int 0) (fun h7 : aH => pF h7 l0 5 7 (.int 0) (fun h8 : aH => gR scr h8 l0 5 9 (fun x9 : Nat => sV scr d 235 [.ref x9, .int (-1)] h8 (fun h10 : aH => gR scr h10 l0 5 10 (fun x12 : Nat => sV scr d 234 [.ref x12, .int (-1)] h10 (fun h13 : aH => gR scr h13 l0 5 13 (fun x15 : Nat => sV scr d 234 [.ref x15, .int (-1)] h13 (fun h16 : aH => K none h16)))))))))))))) := go (w := (1, [.ref l0], [.ref l0], h)) r50_0 rfl rfl (E_ic r50_1 (v := 0) (by decide) (E_pI r50_2 ⟨rfl, rfl⟩ (fun h1 => go (w := (6, [.ref l0], [.ref l0], h1)) r50_5 rfl rfl (E_ic r50_6 (v := 0) (by decide) (E_pI r50_7 ⟨rfl, rfl⟩ (fun h2 => go (w := (11, [.ref l0], [.ref l0], h2)) r50_10 rfl rfl (E_ic r50_11 (v := 0) (by decide) (E_pI r50_12 ⟨rfl, rfl⟩ (fun h3 => go (w := (16, [.ref l0], [.ref l0], h3)) r50_15 rfl rfl (E_ic r50_16 (v := 0) (by decide) (E_pI r50_17 ⟨rfl, rfl⟩ (fun h4 => go (w := (21, [.ref l0], [.ref l0], h4)) r50_20 rfl rfl (E_ic r50_21 (v := 0) (by decide) (E_pI r50_22 ⟨rfl, rfl⟩ (fun h5 => go (w := (26, [.ref l0], [.ref l0], h5)) r50_25 rfl rfl (E_ic r50_26 (v := 0) (by decide) (E_pI r50_27 ⟨rfl, rfl⟩ (fun h6 => go (w := (31, [.ref l0], [.ref l0], h6)) r50_30 rfl rfl (E_ic r50_31 (v := 0) (by decide) (E_pI r50_32 ⟨rfl, rfl⟩ (fun h7 => go (w := (36, [.ref l0], [.ref l0], h7)) r50_35 rfl rfl (E_ic r50_36 (v := 0) (by decide) (E_pI r50_37 ⟨rfl, rfl⟩ (fun h8 => go (w := (41, [.ref l0], [.ref l0], h8)) r50_40 rfl rfl (E_gR r50_41 rfl (fun x9 => E_ic r50_44 (v := (-1)) (by decide) (E_sV r50_45 (As := [.ref x9, .int (-1)]) (rest := []) (cut_n mi235.1 rfl rfl) (rm8_n mi235.2.1 (Nat.le_of_ble_eq_true rfl) (Nat.le_of_ble_eq_true rfl)) mi235.2.2 (fun h10 => go (w := (49, [.ref l0], [.ref l0], h10)) r50_48 rfl rfl (E_gR r50_49 rfl (fun x12 => E_ic r50_52 (v := (-1)) (by decide) (E_sV r50_53 (As := [.ref x12, .int (-1)]) (rest := []) (cut_n mi234.1 rfl rfl) (rm8_n mi234.2.1 (Nat.le_of_ble_eq_true rfl) (Nat.le_of_ble_eq_true rfl)) mi234.2.2 (fun h13 => go (w := (57, [.ref l0], [.ref l0], h13)) r50_56 rfl rfl (E_gR r50_57 rfl (fun x15 => E_ic r50_60 (v := (-1)) (by decide) (E_sV r50_61 (As := [.ref x15, .int (-1)]) (rest := []) (cut_n mi234.1 rfl rfl) (rm8_n mi234.2.1 (Nat.le_of_ble_eq_true rfl) (Nat.le_of_ble_eq_true rfl)) mi234.2.2 (fun h16 => E_vret r50_64 (mq50)))))))))))))))))))))))))))))))))))))
-- 51 SecondNearest$Scene.copyAll(LSecondNearest$Scene;)V
theorem mq51 : mRet 51 = none := by decide +kernel
theorem r51_0 : rowAt 51 0 = some (.aload_n 0, 1, 0, 0) := by decide +kernel
theorem r51_1 : rowAt 51 1 = some (.aload_n 1, 1, 0, 0) := by decide +kernel
theorem r51_2 : rowAt 51 2 = some (.getfield 43, 3, 5, 0) := by decide +kernel
theorem r51_5 : rowAt 51 5 = some (.putfield 43, 3, 5, 0) := by decide +kernel
theorem r51_8 : rowAt 51 8 = some (.aload_n 0, 1, 0, 0) := by decide +kernel
theorem r51_9 : rowAt 51 9 = some (.aload_n 1, 1, 0, 0) := by decide +kernel
theorem r51_10 : rowAt 51 10 = some (.getfield 47, 3, 5, 1) := by decide +kernel
theorem r51_13 : rowAt 51 13 = some (.putfield 47, 3, 5, 1) := by decide +kernel
theorem r51_16 : rowAt 51 16 = some (.aload_n 0, 1, 0, 0) := by decide +kernel
theorem r51_17 : rowAt 51 17 = some (.aload_n 1, 1, 0, 0) := by decide +kernel
theorem r51_18 : rowAt 51 18 = some (.getfield 50, 3, 5, 2) := by decide +kernel
theorem r51_21 : rowAt 51 21 = some (.putfield 50, 3, 5, 2) := by decide +kernel
theorem r51_24 : rowAt 51 24 = some (.aload_n 0, 1, 0, 0) := by decide +kernel
theorem r51_25 : rowAt 51 25 = some (.aload_n 1, 1, 0, 0) := by decide +kernel
theorem r51_26 : rowAt 51 26 = some (.getfield 53, 3, 5, 3) := by decide +kernel
theorem r51_29 : rowAt 51 29 = some (.putfield 53, 3, 5, 3) := by decide +kernel
theorem r51_32 : rowAt 51 32 = some (.aload_n 0, 1, 0, 0) := by decide +kernel
theorem r51_33 : rowAt 51 33 = some (.aload_n 1, 1, 0, 0) := by decide +kernel
theorem r51_34 : rowAt 51 34 = some (.getfield 56, 3, 5, 4) := by decide +kernel
theorem r51_37 : rowAt 51 37 = some (.putfield 56, 3, 5, 4) := by decide +kernel
theorem r51_40 : rowAt 51 40 = some (.aload_n 0, 1, 0, 0) := by decide +kernel
theorem r51_41 : rowAt 51 41 = some (.aload_n 1, 1, 0, 0) := by decide +kernel
theorem r51_42 : rowAt 51 42 = some (.getfield 65, 3, 5, 7) := by decide +kernel
theorem r51_45 : rowAt 51 45 = some (.putfield 65, 3, 5, 7) := by decide +kernel
theorem r51_48 : rowAt 51 48 = some (.aload_n 1, 1, 0, 0) := by decide +kernel
theorem r51_49 : rowAt 51 49 = some (.getfield 9, 3, 5, 8) := by decide +kernel
theorem r51_52 : rowAt 51 52 = some (.iconst 0, 1, 0, 0) := by decide +kernel
theorem r51_53 : rowAt 51 53 = some (.aload_n 0, 1, 0, 0) := by decide +kernel
theorem r51_54 : rowAt 51 54 = some (.getfield 9, 3, 5, 8) := by decide +kernel
theorem r51_57 : rowAt 51 57 = some (.iconst 0, 1, 0, 0) := by decide +kernel
theorem r51_58 : rowAt 51 58 = some (.sipush 144, 3, 0, 0) := by decide +kernel
theorem r51_61 : rowAt 51 61 = some (.invokestatic 77, 3, 0, 4) := by decide +kernel
theorem r51_64 : rowAt 51 64 = some (.aload_n 1, 1, 0, 0) := by decide +kernel
theorem r51_65 : rowAt 51 65 = some (.getfield 22, 3, 5, 11) := by decide +kernel
theorem r51_68 : rowAt 51 68 = some (.iconst 0, 1, 0, 0) := by decide +kernel
theorem r51_69 : rowAt 51 69 = some (.aload_n 0, 1, 0, 0) := by decide +kernel
theorem r51_70 : rowAt 51 70 = some (.getfield 22, 3, 5, 11) := by decide +kernel
theorem r51_73 : rowAt 51 73 = some (.iconst 0, 1, 0, 0) := by decide +kernel
theorem r51_74 : rowAt 51 74 = some (.bipush 12, 2, 0, 0) := by decide +kernel
theorem r51_76 : rowAt 51 76 = some (.invokestatic 77, 3, 0, 4) := by decide +kernel
theorem r51_79 : rowAt 51 79 = some (.aload_n 1, 1, 0, 0) := by decide +kernel
theorem r51_80 : rowAt 51 80 = some (.getfield 25, 3, 5, 12) := by decide +kernel
theorem r51_83 : rowAt 51 83 = some (.iconst 0, 1, 0, 0) := by decide +kernel
theorem r51_84 : rowAt 51 84 = some (.aload_n 0, 1, 0, 0) := by decide +kernel
theorem r51_85 : rowAt 51 85 = some (.getfield 25, 3, 5, 12) := by decide +kernel
theorem r51_88 : rowAt 51 88 = some (.iconst 0, 1, 0, 0) := by decide +kernel
theorem r51_89 : rowAt 51 89 = some (.bipush 12, 2, 0, 0) := by decide +kernel
theorem r51_91 : rowAt 51 91 = some (.invokestatic 77, 3, 0, 4) := by decide +kernel
theorem r51_94 : rowAt 51 94 = some (.aload_n 1, 1, 0, 0) := by decide +kernel
theorem r51_95 : rowAt 51 95 = some (.getfield 31, 3, 5, 14) := by decide +kernel
theorem r51_98 : rowAt 51 98 = some (.iconst 0, 1, 0, 0) := by decide +kernel
theorem r51_99 : rowAt 51 99 = some (.aload_n 0, 1, 0, 0) := by decide +kernel
theorem r51_100 : rowAt 51 100 = some (.getfield 31, 3, 5, 14) := by decide +kernel
theorem r51_103 : rowAt 51 103 = some (.iconst 0, 1, 0, 0) := by decide +kernel
theorem r51_104 : rowAt 51 104 = some (.bipush 40, 2, 0, 0) := by decide +kernel
theorem r51_106 : rowAt 51 106 = some (.invokestatic 77, 3, 0, 4) := by decide +kernel
theorem r51_109 : rowAt 51 109 = some (.aload_n 1, 1, 0, 0) := by decide +kernel
theorem r51_110 : rowAt 51 110 = some (.getfield 34, 3, 5, 15) := by decide +kernel
theorem r51_113 : rowAt 51 113 = some (.iconst 0, 1, 0, 0) := by decide +kernel
theorem r51_114 : rowAt 51 114 = some (.aload_n 0, 1, 0, 0) := by decide +kernel
theorem r51_115 : rowAt 51 115 = some (.getfield 34, 3, 5, 15) := by decide +kernel
theorem r51_118 : rowAt 51 118 = some (.iconst 0, 1, 0, 0) := by decide +kernel
theorem r51_119 : rowAt 51 119 = some (.bipush 40, 2, 0, 0) := by decide +kernel
theorem r51_121 : rowAt 51 121 = some (.invokestatic 77, 3, 0, 4) := by decide +kernel
theorem r51_124 : rowAt 51 124 = some (.aload_n 1, 1, 0, 0) := by decide +kernel
theorem r51_125 : rowAt 51 125 = some (.getfield 37, 3, 5, 16) := by decide +kernel
theorem r51_128 : rowAt 51 128 = some (.iconst 0, 1, 0, 0) := by decide +kernel
theorem r51_129 : rowAt 51 129 = some (.aload_n 0, 1, 0, 0) := by decide +kernel
theorem r51_130 : rowAt 51 130 = some (.getfield 37, 3, 5, 16) := by decide +kernel
theorem r51_133 : rowAt 51 133 = some (.iconst 0, 1, 0, 0) := by decide +kernel
theorem r51_134 : rowAt 51 134 = some (.bipush 40, 2, 0, 0) := by decide +kernel
theorem r51_136 : rowAt 51 136 = some (.invokestatic 77, 3, 0, 4) := by decide +kernel
theorem r51_139 : rowAt 51 139 = some (.aload_n 0, 1, 0, 0) := by decide +kernel
theorem r51_140 : rowAt 51 140 = some (.aload_n 1, 1, 0, 0) := by decide +kernel
theorem r51_141 : rowAt 51 141 = some (.invokevirtual 83, 3, 52, 0) := by decide +kernel
theorem r51_144 : rowAt 51 144 = some (.return_, 1, 0, 0) := by decide +kernel
theorem en51 (a0 : Nat) (a1 : Nat) : iniL 51 [.ref a0, .ref a1] = [.ref a0, .ref a1] := ini_n mi51 rfl
theorem b51_0 (d : Nat) (l0 : Nat) (l1 : Nat) (h : aH) (K : Option Value → aH → Prop) : E scr false (d + 1) 51 0 [.ref l0, .ref l1] [] h K = gI scr h l1 5 0 (fun x1 : Int32 => pF h l0 5 0 (.int x1) (fun h2 : aH => gI scr h2 l1 5 1 (fun x3 : Int32 => pF h2 l0 5 1 (.int x3) (fun h4 : aH => gI scr h4 l1 5 2 (fun x5 : Int32 => pF h4 l0 5 2 (.int x5) (fun h6 : aH => gI scr h6 l1 5 3 (fun x7 : Int32 => pF h6 l0 5 3 (.int x7) (fun h8 : aH => gI scr h8 l1 5 4 (fun x9 : Int32 => pF h8 l0 5 4 (.int x9) (fun h10 : aH => gI scr h10 l1 5 7 (fun x11 : Int32 => pF h10 l0 5 7 (.int x11) (fun h12 : aH => gR scr h12 l1 5 8 (fun x13 : Nat => gR scr h12 l0 5 8 (fun x14 : Nat => cP h12 x13 x14 144 (fun h15 : aH => gR scr h15 l1 5 11 (fun x16 : Nat => gR scr h15 l0 5 11 (fun x17 : Nat => cP h15 x16 x17 12 (fun h18 : aH => gR scr h18 l1 5 12 (fun x19 : Nat => gR scr h18 l0 5 12 (fun x20 : Nat => cP h18 x19 x20 12 (fun h21 : aH => gR scr h21 l1 5 14 (fun x22 : Nat => gR scr h21 l0 5 14 (fun x23 : Nat => cP h21 x22 x23 40 (fun h24 : aH => gR scr h24 l1 5 15 (fun x25 : Nat => gR scr h24 l0 5 15 (fun x26 : Nat => cP h24 x25 x26 40 (fun h27 : aH => gR scr h27 l1 5 16 (fun x28 : Nat => gR scr h27 l0 5 16 (fun x29 : Nat => cP h27 x28 x29 40 (fun h30 : aH => vV scr d 52 [.ref l0, .ref l1] h30 (fun h31 : aH => K none h31))))))))))))))))))))))))))))))) := go (w := (1, [.ref l0, .ref l1], [.ref l0], h)) r51_0 rfl rfl (go (w := (2, [.ref l0, .ref l1], [.ref l1, .ref l0], h)) r51_1 rfl rfl (E_gI r51_2 rfl (fun x1 => E_pI r51_5 ⟨rfl, rfl⟩ (fun h2 => go (w := (9, [.ref l0, .ref l1], [.ref l0], h2)) r51_8 rfl rfl (go (w := (10, [.ref l0, .ref l1], [.ref l1, .ref l0], h2)) r51_9 rfl rfl (E_gI r51_10 rfl (fun x3 => E_pI r51_13 ⟨rfl, rfl⟩ (fun h4 => go (w := (17, [.ref l0, .ref l1], [.ref l0], h4)) r51_16 rfl rfl (go (w := (18, [.ref l0, .ref l1], [.ref l1, .ref l0], h4)) r51_17 rfl rfl (E_gI r51_18 rfl (fun x5 => E_pI r51_21 ⟨rfl, rfl⟩ (fun h6 => go (w := (25, [.ref l0, .ref l1], [.ref l0], h6)) r51_24 rfl rfl (go (w := (26, [.ref l0, .ref l1], [.ref l1, .ref l0], h6)) r51_25 rfl rfl (E_gI r51_26 rfl (fun x7 => E_pI r51_29 ⟨rfl, rfl⟩ (fun h8 => go (w := (33, [.ref l0, .ref l1], [.ref l0], h8)) r51_32 rfl rfl (go (w := (34, [.ref l0, .ref l1], [.ref l1, .ref l0], h8)) r51_33 rfl rfl (E_gI r51_34 rfl (fun x9 => E_pI r51_37 ⟨rfl, rfl⟩ (fun h10 => go (w := (41, [.ref l0, .ref l1], [.ref l0], h10)) r51_40 rfl rfl (go (w := (42, [.ref l0, .ref l1], [.ref l1, .ref l0], h10)) r51_41 rfl rfl (E_gI r51_42 rfl (fun x11 => E_pI r51_45 ⟨rfl, rfl⟩ (fun h12 => go (w := (49, [.ref l0, .ref l1], [.ref l1], h12)) r51_48 rfl rfl (E_gR r51_49 rfl (fun x13 => E_ic r51_52 (v := 0) (by decide) (go (w := (54, [.ref l0, .ref l1], [.ref l0, .int 0, .ref x13], h12)) r51_53 rfl rfl (E_gR r51_54 rfl (fun x14 => E_ic r51_57 (v := 0) (by decide) (E_sip r51_58 (v := 144) (by decide) (E_cp r51_61 (Nat.le_of_ble_eq_true rfl) (fun h15 => go (w := (65, [.ref l0, .ref l1], [.ref l1], h15)) r51_64 rfl rfl (E_gR r51_65 rfl (fun x16 => E_ic r51_68 (v := 0) (by decide) (go (w := (70, [.ref l0, .ref l1], [.ref l0, .int 0, .ref x16], h15)) r51_69 rfl rfl (E_gR r51_70 rfl (fun x17 => E_ic r51_73 (v := 0) (by decide) (E_bip r51_74 (v := 12) (by decide) (E_cp r51_76 (Nat.le_of_ble_eq_true rfl) (fun h18 => go (w := (80, [.ref l0, .ref l1], [.ref l1], h18)) r51_79 rfl rfl (E_gR r51_80 rfl (fun x19 => E_ic r51_83 (v := 0) (by decide) (go (w := (85, [.ref l0, .ref l1], [.ref l0, .int 0, .ref x19], h18)) r51_84 rfl rfl (E_gR r51_85 rfl (fun x20 => E_ic r51_88 (v := 0) (by decide) (E_bip r51_89 (v := 12) (by decide) (E_cp r51_91 (Nat.le_of_ble_eq_true rfl) (fun h21 => go (w := (95, [.ref l0, .ref l1], [.ref l1], h21)) r51_94 rfl rfl (E_gR r51_95 rfl (fun x22 => E_ic r51_98 (v := 0) (by decide) (go (w := (100, [.ref l0, .ref l1], [.ref l0, .int 0, .ref x22], h21)) r51_99 rfl rfl (E_gR r51_100 rfl (fun x23 => E_ic r51_103 (v := 0) (by decide) (E_bip r51_104 (v := 40) (by decide) (E_cp r51_106 (Nat.le_of_ble_eq_true rfl) (fun h24 => go (w := (110, [.ref l0, .ref l1], [.ref l1], h24)) r51_109 rfl rfl (E_gR r51_110 rfl (fun x25 => E_ic r51_113 (v := 0) (by decide) (go (w := (115, [.ref l0, .ref l1], [.ref l0, .int 0, .ref x25], h24)) r51_114 rfl rfl (E_gR r51_115 rfl (fun x26 => E_ic r51_118 (v := 0) (by decide) (E_bip r51_119 (v := 40) (by decide) (E_cp r51_121 (Nat.le_of_ble_eq_true rfl) (fun h27 => go (w := (125, [.ref l0, .ref l1], [.ref l1], h27)) r51_124 rfl rfl (E_gR r51_125 rfl (fun x28 => E_ic r51_128 (v := 0) (by decide) (go (w := (130, [.ref l0, .ref l1], [.ref l0, .int 0, .ref x28], h27)) r51_129 rfl rfl (E_gR r51_130 rfl (fun x29 => E_ic r51_133 (v := 0) (by decide) (E_bip r51_134 (v := 40) (by decide) (E_cp r51_136 (Nat.le_of_ble_eq_true rfl) (fun h30 => go (w := (140, [.ref l0, .ref l1], [.ref l0], h30)) r51_139 rfl rfl (go (w := (141, [.ref l0, .ref l1], [.ref l1, .ref l0], h30)) r51_140 rfl rfl (E_vV r51_141 (As := [.ref l0, .ref l1]) (rest := []) (cut_n mi52.1 rfl rfl) (rm8_n mi52.2.1 (Nat.le_of_ble_eq_true rfl) (Nat.le_of_ble_eq_true rfl)) mi52.2.2 (fun h31 => E_vret r51_144 (mq51))))))))))))))))))))))))))))))))))))))))))))))))))))))))))))))))))))))))))))
-- 52 SecondNearest$Scene.copyPlaces(LSecondNearest$Scene;)V
theorem mq52 : mRet 52 = none := by decide +kernel
theorem r52_0 : rowAt 52 0 = some (.aload_n 0, 1, 0, 0) := by decide +kernel
theorem r52_1 : rowAt 52 1 = some (.aload_n 1, 1, 0, 0) := by decide +kernel
theorem r52_2 : rowAt 52 2 = some (.getfield 59, 3, 5, 5) := by decide +kernel
theorem r52_5 : rowAt 52 5 = some (.putfield 59, 3, 5, 5) := by decide +kernel
theorem r52_8 : rowAt 52 8 = some (.aload_n 0, 1, 0, 0) := by decide +kernel
theorem r52_9 : rowAt 52 9 = some (.aload_n 1, 1, 0, 0) := by decide +kernel
theorem r52_10 : rowAt 52 10 = some (.getfield 62, 3, 5, 6) := by decide +kernel
theorem r52_13 : rowAt 52 13 = some (.putfield 62, 3, 5, 6) := by decide +kernel
theorem r52_16 : rowAt 52 16 = some (.aload_n 1, 1, 0, 0) := by decide +kernel
theorem r52_17 : rowAt 52 17 = some (.getfield 15, 3, 5, 9) := by decide +kernel
theorem r52_20 : rowAt 52 20 = some (.iconst 0, 1, 0, 0) := by decide +kernel
theorem r52_21 : rowAt 52 21 = some (.aload_n 0, 1, 0, 0) := by decide +kernel
theorem r52_22 : rowAt 52 22 = some (.getfield 15, 3, 5, 9) := by decide +kernel
theorem r52_25 : rowAt 52 25 = some (.iconst 0, 1, 0, 0) := by decide +kernel
theorem r52_26 : rowAt 52 26 = some (.sipush 144, 3, 0, 0) := by decide +kernel
theorem r52_29 : rowAt 52 29 = some (.invokestatic 77, 3, 0, 4) := by decide +kernel
theorem r52_32 : rowAt 52 32 = some (.aload_n 1, 1, 0, 0) := by decide +kernel
theorem r52_33 : rowAt 52 33 = some (.getfield 18, 3, 5, 10) := by decide +kernel
theorem r52_36 : rowAt 52 36 = some (.iconst 0, 1, 0, 0) := by decide +kernel
theorem r52_37 : rowAt 52 37 = some (.aload_n 0, 1, 0, 0) := by decide +kernel
theorem r52_38 : rowAt 52 38 = some (.getfield 18, 3, 5, 10) := by decide +kernel
theorem r52_41 : rowAt 52 41 = some (.iconst 0, 1, 0, 0) := by decide +kernel
theorem r52_42 : rowAt 52 42 = some (.bipush 14, 2, 0, 0) := by decide +kernel
theorem r52_44 : rowAt 52 44 = some (.invokestatic 77, 3, 0, 4) := by decide +kernel
theorem r52_47 : rowAt 52 47 = some (.aload_n 1, 1, 0, 0) := by decide +kernel
theorem r52_48 : rowAt 52 48 = some (.getfield 28, 3, 5, 13) := by decide +kernel
theorem r52_51 : rowAt 52 51 = some (.iconst 0, 1, 0, 0) := by decide +kernel
theorem r52_52 : rowAt 52 52 = some (.aload_n 0, 1, 0, 0) := by decide +kernel
theorem r52_53 : rowAt 52 53 = some (.getfield 28, 3, 5, 13) := by decide +kernel
theorem r52_56 : rowAt 52 56 = some (.iconst 0, 1, 0, 0) := by decide +kernel
theorem r52_57 : rowAt 52 57 = some (.bipush 12, 2, 0, 0) := by decide +kernel
theorem r52_59 : rowAt 52 59 = some (.invokestatic 77, 3, 0, 4) := by decide +kernel
theorem r52_62 : rowAt 52 62 = some (.return_, 1, 0, 0) := by decide +kernel
theorem en52 (a0 : Nat) (a1 : Nat) : iniL 52 [.ref a0, .ref a1] = [.ref a0, .ref a1] := ini_n mi52 rfl
theorem b52_0 (d : Nat) (l0 : Nat) (l1 : Nat) (h : aH) (K : Option Value → aH → Prop) : E scr false (d + 1) 52 0 [.ref l0, .ref l1] [] h K = gI scr h l1 5 5 (fun x1 : Int32 => pF h l0 5 5 (.int x1) (fun h2 : aH => gI scr h2 l1 5 6 (fun x3 : Int32 => pF h2 l0 5 6 (.int x3) (fun h4 : aH => gR scr h4 l1 5 9 (fun x5 : Nat => gR scr h4 l0 5 9 (fun x6 : Nat => cP h4 x5 x6 144 (fun h7 : aH => gR scr h7 l1 5 10 (fun x8 : Nat => gR scr h7 l0 5 10 (fun x9 : Nat => cP h7 x8 x9 14 (fun h10 : aH => gR scr h10 l1 5 13 (fun x11 : Nat => gR scr h10 l0 5 13 (fun x12 : Nat => cP h10 x11 x12 12 (fun h13 : aH => K none h13))))))))))))) := go (w := (1, [.ref l0, .ref l1], [.ref l0], h)) r52_0 rfl rfl (go (w := (2, [.ref l0, .ref l1], [.ref l1, .ref l0], h)) r52_1 rfl rfl (E_gI r52_2 rfl (fun x1 => E_pI r52_5 ⟨rfl, rfl⟩ (fun h2 => go (w := (9, [.ref l0, .ref l1], [.ref l0], h2)) r52_8 rfl rfl (go (w := (10, [.ref l0, .ref l1], [.ref l1, .ref l0], h2)) r52_9 rfl rfl (E_gI r52_10 rfl (fun x3 => E_pI r52_13 ⟨rfl, rfl⟩ (fun h4 => go (w := (17, [.ref l0, .ref l1], [.ref l1], h4)) r52_16 rfl rfl (E_gR r52_17 rfl (fun x5 => E_ic r52_20 (v := 0) (by decide) (go (w := (22, [.ref l0, .ref l1], [.ref l0, .int 0, .ref x5], h4)) r52_21 rfl rfl (E_gR r52_22 rfl (fun x6 => E_ic r52_25 (v := 0) (by decide) (E_sip r52_26 (v := 144) (by decide) (E_cp r52_29 (Nat.le_of_ble_eq_true rfl) (fun h7 => go (w := (33, [.ref l0, .ref l1], [.ref l1], h7)) r52_32 rfl rfl (E_gR r52_33 rfl (fun x8 => E_ic r52_36 (v := 0) (by decide) (go (w := (38, [.ref l0, .ref l1], [.ref l0, .int 0, .ref x8], h7)) r52_37 rfl rfl (E_gR r52_38 rfl (fun x9 => E_ic r52_41 (v := 0) (by decide) (E_bip r52_42 (v := 14) (by decide) (E_cp r52_44 (Nat.le_of_ble_eq_true rfl) (fun h10 => go (w := (48, [.ref l0, .ref l1], [.ref l1], h10)) r52_47 rfl rfl (E_gR r52_48 rfl (fun x11 => E_ic r52_51 (v := 0) (by decide) (go (w := (53, [.ref l0, .ref l1], [.ref l0, .int 0, .ref x11], h10)) r52_52 rfl rfl (E_gR r52_53 rfl (fun x12 => E_ic r52_56 (v := 0) (by decide) (E_bip r52_57 (v := 12) (by decide) (E_cp r52_59 (Nat.le_of_ble_eq_true rfl) (fun h13 => E_vret r52_62 (mq52)))))))))))))))))))))))))))))))))
-- 53 SecondNearest$Scene.isPerson(I)Z
theorem mq53 : mRet 53 = (some .boolean) := by decide +kernel
theorem r53_0 : rowAt 53 0 = some (.iload_n 1, 1, 0, 0) := by decide +kernel
theorem r53_1 : rowAt 53 1 = some (.ifCond .lt 21, 3, 0, 0) := by decide +kernel
theorem r53_4 : rowAt 53 4 = some (.iload_n 1, 1, 0, 0) := by decide +kernel
theorem r53_5 : rowAt 53 5 = some (.aload_n 0, 1, 0, 0) := by decide +kernel
theorem r53_6 : rowAt 53 6 = some (.getfield 53, 3, 5, 3) := by decide +kernel
theorem r53_9 : rowAt 53 9 = some (.if_icmp .ge 13, 3, 0, 0) := by decide +kernel
theorem r53_12 : rowAt 53 12 = some (.iload_n 1, 1, 0, 0) := by decide +kernel
theorem r53_13 : rowAt 53 13 = some (.bipush 12, 2, 0, 0) := by decide +kernel
theorem r53_15 : rowAt 53 15 = some (.if_icmp .ge 7, 3, 0, 0) := by decide +kernel
theorem r53_18 : rowAt 53 18 = some (.iconst 1, 1, 0, 0) := by decide +kernel
theorem r53_19 : rowAt 53 19 = some (.goto 4, 3, 0, 0) := by decide +kernel
theorem r53_22 : rowAt 53 22 = some (.iconst 0, 1, 0, 0) := by decide +kernel
theorem r53_23 : rowAt 53 23 = some (.ireturn, 1, 0, 0) := by decide +kernel
theorem en53 (a0 : Nat) (a1 : Int32) : iniL 53 [.ref a0, .int a1] = [.ref a0, .int a1] := ini_n mi53 rfl
theorem b53_0 (d : Nat) (l0 : Nat) (l1 : Int32) (h : aH) (K : Option Value → aH → Prop) : E scr false d 53 0 [.ref l0, .int l1] [] h K = (if l1 < 0 then K (some (.int 0)) h else gI scr h l0 5 3 (fun x1 : Int32 => (if x1 ≤ l1 then K (some (.int 0)) h else (if 12 ≤ l1 then K (some (.int 0)) h else K (some (.int 1)) h)))) := go (w := (1, [.ref l0, .int l1], [.int l1], h)) r53_0 rfl rfl (E_i1_lt r53_1 rfl (E_ic r53_22 (v := 0) (by decide) (E_rz r53_23 (mq53) (by decide))) (go (w := (5, [.ref l0, .int l1], [.int l1], h)) r53_4 rfl rfl (go (w := (6, [.ref l0, .int l1], [.ref l0, .int l1], h)) r53_5 rfl rfl (E_gI r53_6 rfl (fun x1 => E_i2_ge r53_9 rfl (E_ic r53_22 (v := 0) (by decide) (E_rz r53_23 (mq53) (by decide))) (go (w := (13, [.ref l0, .int l1], [.int l1], h)) r53_12 rfl rfl (E_bip r53_13 (v := 12) (by decide) (E_i2_ge r53_15 rfl (E_ic r53_22 (v := 0) (by decide) (E_rz r53_23 (mq53) (by decide))) (E_ic r53_18 (v := 1) (by decide) (E_gt r53_19 rfl (E_rz r53_23 (mq53) (by decide))))))))))))
-- 54 SecondNearest$Scene.isHerald(I)Z
theorem mq54 : mRet 54 = (some .boolean) := by decide +kernel
theorem r54_0 : rowAt 54 0 = some (.iload_n 1, 1, 0, 0) := by decide +kernel
theorem r54_1 : rowAt 54 1 = some (.ifCond .lt 20, 3, 0, 0) := by decide +kernel
theorem r54_4 : rowAt 54 4 = some (.iload_n 1, 1, 0, 0) := by decide +kernel
theorem r54_5 : rowAt 54 5 = some (.aload_n 0, 1, 0, 0) := by decide +kernel
theorem r54_6 : rowAt 54 6 = some (.getfield 56, 3, 5, 4) := by decide +kernel
theorem r54_9 : rowAt 54 9 = some (.if_icmp .ge 12, 3, 0, 0) := by decide +kernel
theorem r54_12 : rowAt 54 12 = some (.iload_n 1, 1, 0, 0) := by decide +kernel
theorem r54_13 : rowAt 54 13 = some (.iconst 2, 1, 0, 0) := by decide +kernel
theorem r54_14 : rowAt 54 14 = some (.if_icmp .ge 7, 3, 0, 0) := by decide +kernel
theorem r54_17 : rowAt 54 17 = some (.iconst 1, 1, 0, 0) := by decide +kernel
theorem r54_18 : rowAt 54 18 = some (.goto 4, 3, 0, 0) := by decide +kernel
theorem r54_21 : rowAt 54 21 = some (.iconst 0, 1, 0, 0) := by decide +kernel
theorem r54_22 : rowAt 54 22 = some (.ireturn, 1, 0, 0) := by decide +kernel
theorem en54 (a0 : Nat) (a1 : Int32) : iniL 54 [.ref a0, .int a1] = [.ref a0, .int a1] := ini_n mi54 rfl
theorem b54_0 (d : Nat) (l0 : Nat) (l1 : Int32) (h : aH) (K : Option Value → aH → Prop) : E scr false d 54 0 [.ref l0, .int l1] [] h K = (if l1 < 0 then K (some (.int 0)) h else gI scr h l0 5 4 (fun x1 : Int32 => (if x1 ≤ l1 then K (some (.int 0)) h else (if 2 ≤ l1 then K (some (.int 0)) h else K (some (.int 1)) h)))) := go (w := (1, [.ref l0, .int l1], [.int l1], h)) r54_0 rfl rfl (E_i1_lt r54_1 rfl (E_ic r54_21 (v := 0) (by decide) (E_rz r54_22 (mq54) (by decide))) (go (w := (5, [.ref l0, .int l1], [.int l1], h)) r54_4 rfl rfl (go (w := (6, [.ref l0, .int l1], [.ref l0, .int l1], h)) r54_5 rfl rfl (E_gI r54_6 rfl (fun x1 => E_i2_ge r54_9 rfl (E_ic r54_21 (v := 0) (by decide) (E_rz r54_22 (mq54) (by decide))) (go (w := (13, [.ref l0, .int l1], [.int l1], h)) r54_12 rfl rfl (E_ic r54_13 (v := 2) (by decide) (E_i2_ge r54_14 rfl (E_ic r54_21 (v := 0) (by decide) (E_rz r54_22 (mq54) (by decide))) (E_ic r54_17 (v := 1) (by decide) (E_gt r54_18 rfl (E_rz r54_22 (mq54) (by decide))))))))))))
-- 55 SecondNearest$Scene.isAnybody(I)Z
theorem mq55 : mRet 55 = (some .boolean) := by decide +kernel
theorem r55_0 : rowAt 55 0 = some (.aload_n 0, 1, 0, 0) := by decide +kernel
theorem r55_1 : rowAt 55 1 = some (.iload_n 1, 1, 0, 0) := by decide +kernel
theorem r55_2 : rowAt 55 2 = some (.invokevirtual 87, 3, 53, 0) := by decide +kernel
theorem r55_5 : rowAt 55 5 = some (.ifCond .ne 20, 3, 0, 0) := by decide +kernel
theorem r55_8 : rowAt 55 8 = some (.iload_n 1, 1, 0, 0) := by decide +kernel
theorem r55_9 : rowAt 55 9 = some (.bipush 12, 2, 0, 0) := by decide +kernel
theorem r55_11 : rowAt 55 11 = some (.if_icmp .lt 18, 3, 0, 0) := by decide +kernel
theorem r55_14 : rowAt 55 14 = some (.aload_n 0, 1, 0, 0) := by decide +kernel
theorem r55_15 : rowAt 55 15 = some (.iload_n 1, 1, 0, 0) := by decide +kernel
theorem r55_16 : rowAt 55 16 = some (.bipush 12, 2, 0, 0) := by decide +kernel
theorem r55_18 : rowAt 55 18 = some (.isub, 1, 0, 0) := by decide +kernel
theorem r55_19 : rowAt 55 19 = some (.invokevirtual 91, 3, 54, 0) := by decide +kernel
theorem r55_22 : rowAt 55 22 = some (.ifCond .eq 7, 3, 0, 0) := by decide +kernel
theorem r55_25 : rowAt 55 25 = some (.iconst 1, 1, 0, 0) := by decide +kernel
theorem r55_26 : rowAt 55 26 = some (.goto 4, 3, 0, 0) := by decide +kernel
theorem r55_29 : rowAt 55 29 = some (.iconst 0, 1, 0, 0) := by decide +kernel
theorem r55_30 : rowAt 55 30 = some (.ireturn, 1, 0, 0) := by decide +kernel
theorem en55 (a0 : Nat) (a1 : Int32) : iniL 55 [.ref a0, .int a1] = [.ref a0, .int a1] := ini_n mi55 rfl
theorem b55_0 (d : Nat) (l0 : Nat) (l1 : Int32) (h : aH) (K : Option Value → aH → Prop) : E scr false (d + 1) 55 0 [.ref l0, .int l1] [] h K = vI scr d 53 [.ref l0, .int l1] h (fun (x2 : Int32) (h1 : aH) => (if x2 = 0 then (if l1 < 12 then K (some (.int 0)) h1 else vI scr d 54 [.ref l0, .int (l1 - 12)] h1 (fun (x4 : Int32) (h3 : aH) => (if x4 = 0 then K (some (.int 0)) h3 else E scr false (d + 1) 55 25 [.ref l0, .int l1] [] h3 K))) else E scr false (d + 1) 55 25 [.ref l0, .int l1] [] h1 K)) := go (w := (1, [.ref l0, .int l1], [.ref l0], h)) r55_0 rfl rfl (go (w := (2, [.ref l0, .int l1], [.int l1, .ref l0], h)) r55_1 rfl rfl (E_vI r55_2 (As := [.ref l0, .int l1]) (rest := []) (cut_n mi53.1 rfl rfl) (rm8_n mi53.2.1 (Nat.le_of_ble_eq_true rfl) (Nat.le_of_ble_eq_true rfl)) mi53.2.2 (fun x2 h1 => E_i1_ne r55_5 rfl (rfl) (go (w := (9, [.ref l0, .int l1], [.int l1], h1)) r55_8 rfl rfl (E_bip r55_9 (v := 12) (by decide) (E_i2_lt r55_11 rfl (E_ic r55_29 (v := 0) (by decide) (E_rz r55_30 (mq55) (by decide))) (go (w := (15, [.ref l0, .int l1], [.ref l0], h1)) r55_14 rfl rfl (go (w := (16, [.ref l0, .int l1], [.int l1, .ref l0], h1)) r55_15 rfl rfl (E_bip r55_16 (v := 12) (by decide) (go (w := (19, [.ref l0, .int l1], [.int (l1 - 12), .ref l0], h1)) r55_18 rfl rfl (E_vI r55_19 (As := [.ref l0, .int (l1 - 12)]) (rest := []) (cut_n mi54.1 rfl rfl) (rm8_n mi54.2.1 (Nat.le_of_ble_eq_true rfl) (Nat.le_of_ble_eq_true rfl)) mi54.2.2 (fun x4 h3 => E_i1_eq r55_22 rfl (E_ic r55_29 (v := 0) (by decide) (E_rz r55_30 (mq55) (by decide))) (rfl)))))))))))))
theorem b55_25 (d : Nat) (l0 : Nat) (l1 : Int32) (h : aH) (K : Option Value → aH → Prop) : E scr false d 55 25 [.ref l0, .int l1] [] h K = K (some (.int 1)) h := E_ic r55_25 (v := 1) (by decide) (E_gt r55_26 rfl (E_rz r55_30 (mq55) (by decide)))
-- 56 SecondNearest$Scene.isCell(II)Z
theorem mq56 : mRet 56 = (some .boolean) := by decide +kernel
theorem r56_0 : rowAt 56 0 = some (.iload_n 1, 1, 0, 0) := by decide +kernel
theorem r56_1 : rowAt 56 1 = some (.ifCond .lt 39, 3, 0, 0) := by decide +kernel
theorem r56_4 : rowAt 56 4 = some (.iload_n 2, 1, 0, 0) := by decide +kernel
theorem r56_5 : rowAt 56 5 = some (.ifCond .lt 35, 3, 0, 0) := by decide +kernel
theorem r56_8 : rowAt 56 8 = some (.iload_n 1, 1, 0, 0) := by decide +kernel
theorem r56_9 : rowAt 56 9 = some (.aload_n 0, 1, 0, 0) := by decide +kernel
theorem r56_10 : rowAt 56 10 = some (.getfield 43, 3, 5, 0) := by decide +kernel
theorem r56_13 : rowAt 56 13 = some (.if_icmp .ge 27, 3, 0, 0) := by decide +kernel
theorem r56_16 : rowAt 56 16 = some (.iload_n 2, 1, 0, 0) := by decide +kernel
theorem r56_17 : rowAt 56 17 = some (.aload_n 0, 1, 0, 0) := by decide +kernel
theorem r56_18 : rowAt 56 18 = some (.getfield 47, 3, 5, 1) := by decide +kernel
theorem r56_21 : rowAt 56 21 = some (.if_icmp .ge 19, 3, 0, 0) := by decide +kernel
theorem r56_24 : rowAt 56 24 = some (.iload_n 1, 1, 0, 0) := by decide +kernel
theorem r56_25 : rowAt 56 25 = some (.bipush 12, 2, 0, 0) := by decide +kernel
theorem r56_27 : rowAt 56 27 = some (.if_icmp .ge 13, 3, 0, 0) := by decide +kernel
theorem r56_30 : rowAt 56 30 = some (.iload_n 2, 1, 0, 0) := by decide +kernel
theorem r56_31 : rowAt 56 31 = some (.bipush 12, 2, 0, 0) := by decide +kernel
theorem r56_33 : rowAt 56 33 = some (.if_icmp .ge 7, 3, 0, 0) := by decide +kernel
theorem r56_36 : rowAt 56 36 = some (.iconst 1, 1, 0, 0) := by decide +kernel
theorem r56_37 : rowAt 56 37 = some (.goto 4, 3, 0, 0) := by decide +kernel
theorem r56_40 : rowAt 56 40 = some (.iconst 0, 1, 0, 0) := by decide +kernel
theorem r56_41 : rowAt 56 41 = some (.ireturn, 1, 0, 0) := by decide +kernel
theorem en56 (a0 : Nat) (a1 : Int32) (a2 : Int32) : iniL 56 [.ref a0, .int a1, .int a2] = [.ref a0, .int a1, .int a2] := ini_n mi56 rfl
theorem b56_0 (d : Nat) (l0 : Nat) (l1 : Int32) (l2 : Int32) (h : aH) (K : Option Value → aH → Prop) : E scr false d 56 0 [.ref l0, .int l1, .int l2] [] h K = (if l1 < 0 then K (some (.int 0)) h else (if l2 < 0 then K (some (.int 0)) h else gI scr h l0 5 0 (fun x1 : Int32 => (if x1 ≤ l1 then K (some (.int 0)) h else gI scr h l0 5 1 (fun x2 : Int32 => (if x2 ≤ l2 then K (some (.int 0)) h else (if 12 ≤ l1 then K (some (.int 0)) h else (if 12 ≤ l2 then K (some (.int 0)) h else K (some (.int 1)) h)))))))) := go (w := (1, [.ref l0, .int l1, .int l2], [.int l1], h)) r56_0 rfl rfl (E_i1_lt r56_1 rfl (E_ic r56_40 (v := 0) (by decide) (E_rz r56_41 (mq56) (by decide))) (go (w := (5, [.ref l0, .int l1, .int l2], [.int l2], h)) r56_4 rfl rfl (E_i1_lt r56_5 rfl (E_ic r56_40 (v := 0) (by decide) (E_rz r56_41 (mq56) (by decide))) (go (w := (9, [.ref l0, .int l1, .int l2], [.int l1], h)) r56_8 rfl rfl (go (w := (10, [.ref l0, .int l1, .int l2], [.ref l0, .int l1], h)) r56_9 rfl rfl (E_gI r56_10 rfl (fun x1 => E_i2_ge r56_13 rfl (E_ic r56_40 (v := 0) (by decide) (E_rz r56_41 (mq56) (by decide))) (go (w := (17, [.ref l0, .int l1, .int l2], [.int l2], h)) r56_16 rfl rfl (go (w := (18, [.ref l0, .int l1, .int l2], [.ref l0, .int l2], h)) r56_17 rfl rfl (E_gI r56_18 rfl (fun x2 => E_i2_ge r56_21 rfl (E_ic r56_40 (v := 0) (by decide) (E_rz r56_41 (mq56) (by decide))) (go (w := (25, [.ref l0, .int l1, .int l2], [.int l1], h)) r56_24 rfl rfl (E_bip r56_25 (v := 12) (by decide) (E_i2_ge r56_27 rfl (E_ic r56_40 (v := 0) (by decide) (E_rz r56_41 (mq56) (by decide))) (go (w := (31, [.ref l0, .int l1, .int l2], [.int l2], h)) r56_30 rfl rfl (E_bip r56_31 (v := 12) (by decide) (E_i2_ge r56_33 rfl (E_ic r56_40 (v := 0) (by decide) (E_rz r56_41 (mq56) (by decide))) (E_ic r56_36 (v := 1) (by decide) (E_gt r56_37 rfl (E_rz r56_41 (mq56) (by decide)))))))))))))))))))))
