variable {scr : List Int32}
-- 57 SecondNearest$Scene.isFree(II)Z
theorem mq57 : mRet 57 = (some .boolean) := by decide +kernel
theorem r57_0 : rowAt 57 0 = some (.aload_n 0, 1, 0, 0) := by decide +kernel
theorem r57_1 : rowAt 57 1 = some (.iload_n 1, 1, 0, 0) := by decide +kernel
theorem r57_2 : rowAt 57 2 = some (.iload_n 2, 1, 0, 0) := by decide +kernel
theorem r57_3 : rowAt 57 3 = some (.invokevirtual 94, 3, 56, 0) := by decide +kernel
theorem r57_6 : rowAt 57 6 = some (.ifCond .ne 5, 3, 0, 0) := by decide +kernel
theorem r57_9 : rowAt 57 9 = some (.iconst 0, 1, 0, 0) := by decide +kernel
theorem r57_10 : rowAt 57 10 = some (.ireturn, 1, 0, 0) := by decide +kernel
theorem r57_11 : rowAt 57 11 = some (.bipush 12, 2, 0, 0) := by decide +kernel
theorem r57_13 : rowAt 57 13 = some (.iload_n 2, 1, 0, 0) := by decide +kernel
theorem r57_14 : rowAt 57 14 = some (.imul, 1, 0, 0) := by decide +kernel
theorem r57_15 : rowAt 57 15 = some (.iload_n 1, 1, 0, 0) := by decide +kernel
theorem r57_16 : rowAt 57 16 = some (.iadd, 1, 0, 0) := by decide +kernel
theorem r57_17 : rowAt 57 17 = some (.istore_n 3, 1, 0, 0) := by decide +kernel
theorem r57_18 : rowAt 57 18 = some (.aload_n 0, 1, 0, 0) := by decide +kernel
theorem r57_19 : rowAt 57 19 = some (.getfield 9, 3, 5, 8) := by decide +kernel
theorem r57_22 : rowAt 57 22 = some (.iload_n 3, 1, 0, 0) := by decide +kernel
theorem r57_23 : rowAt 57 23 = some (.baload, 1, 0, 0) := by decide +kernel
theorem r57_24 : rowAt 57 24 = some (.invokestatic 98, 3, 63, 1) := by decide +kernel
theorem r57_27 : rowAt 57 27 = some (.ifCond .eq 16, 3, 0, 0) := by decide +kernel
theorem r57_30 : rowAt 57 30 = some (.aload_n 0, 1, 0, 0) := by decide +kernel
theorem r57_31 : rowAt 57 31 = some (.getfield 15, 3, 5, 9) := by decide +kernel
theorem r57_34 : rowAt 57 34 = some (.iload_n 3, 1, 0, 0) := by decide +kernel
theorem r57_35 : rowAt 57 35 = some (.baload, 1, 0, 0) := by decide +kernel
theorem r57_36 : rowAt 57 36 = some (.ifCond .ge 7, 3, 0, 0) := by decide +kernel
theorem r57_39 : rowAt 57 39 = some (.iconst 1, 1, 0, 0) := by decide +kernel
theorem r57_40 : rowAt 57 40 = some (.goto 4, 3, 0, 0) := by decide +kernel
theorem r57_43 : rowAt 57 43 = some (.iconst 0, 1, 0, 0) := by decide +kernel
theorem r57_44 : rowAt 57 44 = some (.ireturn, 1, 0, 0) := by decide +kernel
theorem en57 (a0 : Nat) (a1 : Int32) (a2 : Int32) : iniL 57 [.ref a0, .int a1, .int a2] = [.ref a0, .int a1, .int a2, .null] := ini_n mi57 rfl
theorem b57_0 (d : Nat) (l0 : Nat) (l1 : Int32) (l2 : Int32) (h : aH) (K : Option Value → aH → Prop) : E scr false (d + 1) 57 0 [.ref l0, .int l1, .int l2, .null] [] h K = vI scr d 56 [.ref l0, .int l1, .int l2] h (fun (x2 : Int32) (h1 : aH) => (if x2 = 0 then K (some (.int 0)) h1 else gR scr h1 l0 5 8 (fun x3 : Nat => aB scr h1 x3 (((12 * l2) + l1)) (fun x4 : Int32 => sI scr d 63 [.int x4] h1 (fun (x6 : Int32) (h5 : aH) => (if x6 = 0 then K (some (.int 0)) h5 else gR scr h5 l0 5 9 (fun x7 : Nat => aB scr h5 x7 (((12 * l2) + l1)) (fun x8 : Int32 => (if 0 ≤ x8 then K (some (.int 0)) h5 else K (some (.int 1)) h5))))))))) := go (w := (1, [.ref l0, .int l1, .int l2, .null], [.ref l0], h)) r57_0 rfl rfl (go (w := (2, [.ref l0, .int l1, .int l2, .null], [.int l1, .ref l0], h)) r57_1 rfl rfl (go (w := (3, [.ref l0, .int l1, .int l2, .null], [.int l2, .int l1, .ref l0], h)) r57_2 rfl rfl (E_vI r57_3 (As := [.ref l0, .int l1, .int l2]) (rest := []) (cut_n mi56.1 rfl rfl) (rm8_n mi56.2.1 (Nat.le_of_ble_eq_true rfl) (Nat.le_of_ble_eq_true rfl)) mi56.2.2 (fun x2 h1 => E_i1_ne r57_6 rfl (E_bip r57_11 (v := 12) (by decide) (go (w := (14, [.ref l0, .int l1, .int l2, .null], [.int l2, .int 12], h1)) r57_13 rfl rfl (go (w := (15, [.ref l0, .int l1, .int l2, .null], [.int (12 * l2)], h1)) r57_14 rfl rfl (go (w := (16, [.ref l0, .int l1, .int l2, .null], [.int l1, .int (12 * l2)], h1)) r57_15 rfl rfl (go (w := (17, [.ref l0, .int l1, .int l2, .null], [.int ((12 * l2) + l1)], h1)) r57_16 rfl rfl (go (w := (18, [.ref l0, .int l1, .int l2, .int ((12 * l2) + l1)], [], h1)) r57_17 rfl rfl (go (w := (19, [.ref l0, .int l1, .int l2, .int ((12 * l2) + l1)], [.ref l0], h1)) r57_18 rfl rfl (E_gR r57_19 rfl (fun x3 => go (w := (23, [.ref l0, .int l1, .int l2, .int ((12 * l2) + l1)], [.int ((12 * l2) + l1), .ref x3], h1)) r57_22 rfl rfl (E_aB r57_23 (fun x4 => E_sI r57_24 (As := [.int x4]) (rest := []) (cut_n mi63.1 rfl rfl) (rm8_n mi63.2.1 (Nat.le_of_ble_eq_true rfl) (Nat.le_of_ble_eq_true rfl)) mi63.2.2 (fun x6 h5 => E_i1_eq r57_27 rfl (E_ic r57_43 (v := 0) (by decide) (E_rz r57_44 (mq57) (by decide))) (go (w := (31, [.ref l0, .int l1, .int l2, .int ((12 * l2) + l1)], [.ref l0], h5)) r57_30 rfl rfl (E_gR r57_31 rfl (fun x7 => go (w := (35, [.ref l0, .int l1, .int l2, .int ((12 * l2) + l1)], [.int ((12 * l2) + l1), .ref x7], h5)) r57_34 rfl rfl (E_aB r57_35 (fun x8 => E_i1_ge r57_36 rfl (E_ic r57_43 (v := 0) (by decide) (E_rz r57_44 (mq57) (by decide))) (E_ic r57_39 (v := 1) (by decide) (E_gt r57_40 rfl (E_rz r57_44 (mq57) (by decide))))))))))))))))))))) (E_ic r57_9 (v := 0) (by decide) (E_rz r57_10 (mq57) (by decide)))))))
-- 58 SecondNearest$Scene.beside(II)I
theorem mq58 : mRet 58 = (some .int) := by decide +kernel
theorem r58_0 : rowAt 58 0 = some (.iload_n 1, 1, 0, 0) := by decide +kernel
theorem r58_1 : rowAt 58 1 = some (.ifCond .lt 20, 3, 0, 0) := by decide +kernel
theorem r58_4 : rowAt 58 4 = some (.iload_n 1, 1, 0, 0) := by decide +kernel
theorem r58_5 : rowAt 58 5 = some (.sipush 144, 3, 0, 0) := by decide +kernel
theorem r58_8 : rowAt 58 8 = some (.if_icmp .ge 13, 3, 0, 0) := by decide +kernel
theorem r58_11 : rowAt 58 11 = some (.iload_n 2, 1, 0, 0) := by decide +kernel
theorem r58_12 : rowAt 58 12 = some (.ifCond .lt 9, 3, 0, 0) := by decide +kernel
theorem r58_15 : rowAt 58 15 = some (.iload_n 2, 1, 0, 0) := by decide +kernel
theorem r58_16 : rowAt 58 16 = some (.bipush 8, 2, 0, 0) := by decide +kernel
theorem r58_18 : rowAt 58 18 = some (.if_icmp .lt 5, 3, 0, 0) := by decide +kernel
theorem r58_21 : rowAt 58 21 = some (.iconst (-1), 1, 0, 0) := by decide +kernel
theorem r58_22 : rowAt 58 22 = some (.ireturn, 1, 0, 0) := by decide +kernel
theorem r58_23 : rowAt 58 23 = some (.iload_n 1, 1, 0, 0) := by decide +kernel
theorem r58_24 : rowAt 58 24 = some (.bipush 12, 2, 0, 0) := by decide +kernel
theorem r58_26 : rowAt 58 26 = some (.irem, 1, 0, 0) := by decide +kernel
theorem r58_27 : rowAt 58 27 = some (.getstatic 101, 3, 0, 0) := by decide +kernel
theorem r58_30 : rowAt 58 30 = some (.iload_n 2, 1, 0, 0) := by decide +kernel
theorem r58_31 : rowAt 58 31 = some (.iaload, 1, 0, 0) := by decide +kernel
theorem r58_32 : rowAt 58 32 = some (.iadd, 1, 0, 0) := by decide +kernel
theorem r58_33 : rowAt 58 33 = some (.istore_n 3, 1, 0, 0) := by decide +kernel
theorem r58_34 : rowAt 58 34 = some (.iload_n 1, 1, 0, 0) := by decide +kernel
theorem r58_35 : rowAt 58 35 = some (.bipush 12, 2, 0, 0) := by decide +kernel
theorem r58_37 : rowAt 58 37 = some (.idiv, 1, 0, 0) := by decide +kernel
theorem r58_38 : rowAt 58 38 = some (.getstatic 104, 3, 1, 0) := by decide +kernel
theorem r58_41 : rowAt 58 41 = some (.iload_n 2, 1, 0, 0) := by decide +kernel
theorem r58_42 : rowAt 58 42 = some (.iaload, 1, 0, 0) := by decide +kernel
theorem r58_43 : rowAt 58 43 = some (.iadd, 1, 0, 0) := by decide +kernel
theorem r58_44 : rowAt 58 44 = some (.istore 4, 2, 0, 0) := by decide +kernel
theorem r58_46 : rowAt 58 46 = some (.aload_n 0, 1, 0, 0) := by decide +kernel
theorem r58_47 : rowAt 58 47 = some (.iload_n 3, 1, 0, 0) := by decide +kernel
theorem r58_48 : rowAt 58 48 = some (.iload 4, 2, 0, 0) := by decide +kernel
theorem r58_50 : rowAt 58 50 = some (.invokevirtual 94, 3, 56, 0) := by decide +kernel
theorem r58_53 : rowAt 58 53 = some (.ifCond .eq 13, 3, 0, 0) := by decide +kernel
theorem r58_56 : rowAt 58 56 = some (.bipush 12, 2, 0, 0) := by decide +kernel
theorem r58_58 : rowAt 58 58 = some (.iload 4, 2, 0, 0) := by decide +kernel
theorem r58_60 : rowAt 58 60 = some (.imul, 1, 0, 0) := by decide +kernel
theorem r58_61 : rowAt 58 61 = some (.iload_n 3, 1, 0, 0) := by decide +kernel
theorem r58_62 : rowAt 58 62 = some (.iadd, 1, 0, 0) := by decide +kernel
theorem r58_63 : rowAt 58 63 = some (.goto 4, 3, 0, 0) := by decide +kernel
theorem r58_66 : rowAt 58 66 = some (.iconst (-1), 1, 0, 0) := by decide +kernel
theorem r58_67 : rowAt 58 67 = some (.ireturn, 1, 0, 0) := by decide +kernel
theorem en58 (a0 : Nat) (a1 : Int32) (a2 : Int32) : iniL 58 [.ref a0, .int a1, .int a2] = [.ref a0, .int a1, .int a2, .null, .null] := ini_n mi58 rfl
theorem b58_0 (d : Nat) (l0 : Nat) (l1 : Int32) (l2 : Int32) (h : aH) (K : Option Value → aH → Prop) : E scr false (d + 1) 58 0 [.ref l0, .int l1, .int l2, .null, .null] [] h K = (if l1 < 0 then K (some (.int (-1))) h else (if 144 ≤ l1 then K (some (.int (-1))) h else (if l2 < 0 then K (some (.int (-1))) h else (if l2 < 8 then aI scr h 10000 l2 (fun x1 : Int32 => aI scr h 10001 l2 (fun x2 : Int32 => vI scr d 56 [.ref l0, .int ((irm l1 12) + x1), .int ((l1 / 12) + x2)] h (fun (x4 : Int32) (h3 : aH) => (if x4 = 0 then K (some (.int (-1))) h3 else K (some (.int ((12 * ((l1 / 12) + x2)) + ((irm l1 12) + x1)))) h3)))) else K (some (.int (-1))) h)))) := go (w := (1, [.ref l0, .int l1, .int l2, .null, .null], [.int l1], h)) r58_0 rfl rfl (E_i1_lt r58_1 rfl (E_ic r58_21 (v := (-1)) (by decide) (E_ri r58_22 (mq58))) (go (w := (5, [.ref l0, .int l1, .int l2, .null, .null], [.int l1], h)) r58_4 rfl rfl (E_sip r58_5 (v := 144) (by decide) (E_i2_ge r58_8 rfl (E_ic r58_21 (v := (-1)) (by decide) (E_ri r58_22 (mq58))) (go (w := (12, [.ref l0, .int l1, .int l2, .null, .null], [.int l2], h)) r58_11 rfl rfl (E_i1_lt r58_12 rfl (E_ic r58_21 (v := (-1)) (by decide) (E_ri r58_22 (mq58))) (go (w := (16, [.ref l0, .int l1, .int l2, .null, .null], [.int l2], h)) r58_15 rfl rfl (E_bip r58_16 (v := 8) (by decide) (E_i2_lt r58_18 rfl (go (w := (24, [.ref l0, .int l1, .int l2, .null, .null], [.int l1], h)) r58_23 rfl rfl (E_bip r58_24 (v := 12) (by decide) (E_remc r58_26 (by decide) (E_gs r58_27 (v := .ref 10000) rfl (go (w := (31, [.ref l0, .int l1, .int l2, .null, .null], [.int l2, .ref 10000, .int (irm l1 12)], h)) r58_30 rfl rfl (E_aI r58_31 (fun x1 => go (w := (33, [.ref l0, .int l1, .int l2, .null, .null], [.int ((irm l1 12) + x1)], h)) r58_32 rfl rfl (go (w := (34, [.ref l0, .int l1, .int l2, .int ((irm l1 12) + x1), .null], [], h)) r58_33 rfl rfl (go (w := (35, [.ref l0, .int l1, .int l2, .int ((irm l1 12) + x1), .null], [.int l1], h)) r58_34 rfl rfl (E_bip r58_35 (v := 12) (by decide) (E_divc r58_37 (by decide) (E_gs r58_38 (v := .ref 10001) rfl (go (w := (42, [.ref l0, .int l1, .int l2, .int ((irm l1 12) + x1), .null], [.int l2, .ref 10001, .int (l1 / 12)], h)) r58_41 rfl rfl (E_aI r58_42 (fun x2 => go (w := (44, [.ref l0, .int l1, .int l2, .int ((irm l1 12) + x1), .null], [.int ((l1 / 12) + x2)], h)) r58_43 rfl rfl (go (w := (46, [.ref l0, .int l1, .int l2, .int ((irm l1 12) + x1), .int ((l1 / 12) + x2)], [], h)) r58_44 rfl rfl (go (w := (47, [.ref l0, .int l1, .int l2, .int ((irm l1 12) + x1), .int ((l1 / 12) + x2)], [.ref l0], h)) r58_46 rfl rfl (go (w := (48, [.ref l0, .int l1, .int l2, .int ((irm l1 12) + x1), .int ((l1 / 12) + x2)], [.int ((irm l1 12) + x1), .ref l0], h)) r58_47 rfl rfl (go (w := (50, [.ref l0, .int l1, .int l2, .int ((irm l1 12) + x1), .int ((l1 / 12) + x2)], [.int ((l1 / 12) + x2), .int ((irm l1 12) + x1), .ref l0], h)) r58_48 rfl rfl (E_vI r58_50 (As := [.ref l0, .int ((irm l1 12) + x1), .int ((l1 / 12) + x2)]) (rest := []) (cut_n mi56.1 rfl rfl) (rm8_n mi56.2.1 (Nat.le_of_ble_eq_true rfl) (Nat.le_of_ble_eq_true rfl)) mi56.2.2 (fun x4 h3 => E_i1_eq r58_53 rfl (E_ic r58_66 (v := (-1)) (by decide) (E_ri r58_67 (mq58))) (E_bip r58_56 (v := 12) (by decide) (go (w := (60, [.ref l0, .int l1, .int l2, .int ((irm l1 12) + x1), .int ((l1 / 12) + x2)], [.int ((l1 / 12) + x2), .int 12], h3)) r58_58 rfl rfl (go (w := (61, [.ref l0, .int l1, .int l2, .int ((irm l1 12) + x1), .int ((l1 / 12) + x2)], [.int (12 * ((l1 / 12) + x2))], h3)) r58_60 rfl rfl (go (w := (62, [.ref l0, .int l1, .int l2, .int ((irm l1 12) + x1), .int ((l1 / 12) + x2)], [.int ((irm l1 12) + x1), .int (12 * ((l1 / 12) + x2))], h3)) r58_61 rfl rfl (go (w := (63, [.ref l0, .int l1, .int l2, .int ((irm l1 12) + x1), .int ((l1 / 12) + x2)], [.int ((12 * ((l1 / 12) + x2)) + ((irm l1 12) + x1))], h3)) r58_62 rfl rfl (E_gt r58_63 rfl (E_ri r58_67 (mq58))))))))))))))))))))))))))))) (E_ic r58_21 (v := (-1)) (by decide) (E_ri r58_22 (mq58))))))))))))
-- 59 SecondNearest$Scene.lift(I)V
theorem mq59 : mRet 59 = none := by decide +kernel
theorem r59_0 : rowAt 59 0 = some (.iload_n 1, 1, 0, 0) := by decide +kernel
theorem r59_1 : rowAt 59 1 = some (.ifCond .lt 49, 3, 0, 0) := by decide +kernel
theorem r59_4 : rowAt 59 4 = some (.iload_n 1, 1, 0, 0) := by decide +kernel
theorem r59_5 : rowAt 59 5 = some (.bipush 14, 2, 0, 0) := by decide +kernel
theorem r59_7 : rowAt 59 7 = some (.if_icmp .ge 43, 3, 0, 0) := by decide +kernel
theorem r59_10 : rowAt 59 10 = some (.aload_n 0, 1, 0, 0) := by decide +kernel
theorem r59_11 : rowAt 59 11 = some (.getfield 18, 3, 5, 10) := by decide +kernel
theorem r59_14 : rowAt 59 14 = some (.iload_n 1, 1, 0, 0) := by decide +kernel
theorem r59_15 : rowAt 59 15 = some (.iaload, 1, 0, 0) := by decide +kernel
theorem r59_16 : rowAt 59 16 = some (.ifCond .lt 34, 3, 0, 0) := by decide +kernel
theorem r59_19 : rowAt 59 19 = some (.aload_n 0, 1, 0, 0) := by decide +kernel
theorem r59_20 : rowAt 59 20 = some (.getfield 18, 3, 5, 10) := by decide +kernel
theorem r59_23 : rowAt 59 23 = some (.iload_n 1, 1, 0, 0) := by decide +kernel
theorem r59_24 : rowAt 59 24 = some (.iaload, 1, 0, 0) := by decide +kernel
theorem r59_25 : rowAt 59 25 = some (.sipush 144, 3, 0, 0) := by decide +kernel
theorem r59_28 : rowAt 59 28 = some (.if_icmp .ge 22, 3, 0, 0) := by decide +kernel
theorem r59_31 : rowAt 59 31 = some (.aload_n 0, 1, 0, 0) := by decide +kernel
theorem r59_32 : rowAt 59 32 = some (.getfield 15, 3, 5, 9) := by decide +kernel
theorem r59_35 : rowAt 59 35 = some (.aload_n 0, 1, 0, 0) := by decide +kernel
theorem r59_36 : rowAt 59 36 = some (.getfield 18, 3, 5, 10) := by decide +kernel
theorem r59_39 : rowAt 59 39 = some (.iload_n 1, 1, 0, 0) := by decide +kernel
theorem r59_40 : rowAt 59 40 = some (.iaload, 1, 0, 0) := by decide +kernel
theorem r59_41 : rowAt 59 41 = some (.iconst (-1), 1, 0, 0) := by decide +kernel
theorem r59_42 : rowAt 59 42 = some (.bastore, 1, 0, 0) := by decide +kernel
theorem r59_43 : rowAt 59 43 = some (.aload_n 0, 1, 0, 0) := by decide +kernel
theorem r59_44 : rowAt 59 44 = some (.getfield 18, 3, 5, 10) := by decide +kernel
theorem r59_47 : rowAt 59 47 = some (.iload_n 1, 1, 0, 0) := by decide +kernel
theorem r59_48 : rowAt 59 48 = some (.iconst (-1), 1, 0, 0) := by decide +kernel
theorem r59_49 : rowAt 59 49 = some (.iastore, 1, 0, 0) := by decide +kernel
theorem r59_50 : rowAt 59 50 = some (.return_, 1, 0, 0) := by decide +kernel
theorem en59 (a0 : Nat) (a1 : Int32) : iniL 59 [.ref a0, .int a1] = [.ref a0, .int a1] := ini_n mi59 rfl
theorem b59_0 (d : Nat) (l0 : Nat) (l1 : Int32) (h : aH) (K : Option Value → aH → Prop) : E scr false d 59 0 [.ref l0, .int l1] [] h K = (if l1 < 0 then K none h else (if 14 ≤ l1 then K none h else gR scr h l0 5 10 (fun x1 : Nat => aI scr h x1 l1 (fun x2 : Int32 => (if x2 < 0 then K none h else gR scr h l0 5 10 (fun x3 : Nat => aI scr h x3 l1 (fun x4 : Int32 => (if 144 ≤ x4 then K none h else gR scr h l0 5 9 (fun x5 : Nat => gR scr h l0 5 10 (fun x6 : Nat => aI scr h x6 l1 (fun x7 : Int32 => wB h x5 x7 ((-1)) (fun h8 : aH => gR scr h8 l0 5 10 (fun x9 : Nat => wI h8 x9 l1 ((-1)) (fun h10 : aH => K none h10)))))))))))))) := go (w := (1, [.ref l0, .int l1], [.int l1], h)) r59_0 rfl rfl (E_i1_lt r59_1 rfl (E_vret r59_50 (mq59)) (go (w := (5, [.ref l0, .int l1], [.int l1], h)) r59_4 rfl rfl (E_bip r59_5 (v := 14) (by decide) (E_i2_ge r59_7 rfl (E_vret r59_50 (mq59)) (go (w := (11, [.ref l0, .int l1], [.ref l0], h)) r59_10 rfl rfl (E_gR r59_11 rfl (fun x1 => go (w := (15, [.ref l0, .int l1], [.int l1, .ref x1], h)) r59_14 rfl rfl (E_aI r59_15 (fun x2 => E_i1_lt r59_16 rfl (E_vret r59_50 (mq59)) (go (w := (20, [.ref l0, .int l1], [.ref l0], h)) r59_19 rfl rfl (E_gR r59_20 rfl (fun x3 => go (w := (24, [.ref l0, .int l1], [.int l1, .ref x3], h)) r59_23 rfl rfl (E_aI r59_24 (fun x4 => E_sip r59_25 (v := 144) (by decide) (E_i2_ge r59_28 rfl (E_vret r59_50 (mq59)) (go (w := (32, [.ref l0, .int l1], [.ref l0], h)) r59_31 rfl rfl (E_gR r59_32 rfl (fun x5 => go (w := (36, [.ref l0, .int l1], [.ref l0, .ref x5], h)) r59_35 rfl rfl (E_gR r59_36 rfl (fun x6 => go (w := (40, [.ref l0, .int l1], [.int l1, .ref x6, .ref x5], h)) r59_39 rfl rfl (E_aI r59_40 (fun x7 => E_ic r59_41 (v := (-1)) (by decide) (E_wB r59_42 (fun h8 => go (w := (44, [.ref l0, .int l1], [.ref l0], h8)) r59_43 rfl rfl (E_gR r59_44 rfl (fun x9 => go (w := (48, [.ref l0, .int l1], [.int l1, .ref x9], h8)) r59_47 rfl rfl (E_ic r59_48 (v := (-1)) (by decide) (E_wI r59_49 (fun h10 => E_vret r59_50 (mq59))))))))))))))))))))))))))))))
-- 60 SecondNearest$Scene.put(II)V
theorem mq60 : mRet 60 = none := by decide +kernel
theorem r60_0 : rowAt 60 0 = some (.iload_n 1, 1, 0, 0) := by decide +kernel
theorem r60_1 : rowAt 60 1 = some (.ifCond .lt 40, 3, 0, 0) := by decide +kernel
theorem r60_4 : rowAt 60 4 = some (.iload_n 1, 1, 0, 0) := by decide +kernel
theorem r60_5 : rowAt 60 5 = some (.bipush 14, 2, 0, 0) := by decide +kernel
theorem r60_7 : rowAt 60 7 = some (.if_icmp .ge 34, 3, 0, 0) := by decide +kernel
theorem r60_10 : rowAt 60 10 = some (.iload_n 2, 1, 0, 0) := by decide +kernel
theorem r60_11 : rowAt 60 11 = some (.ifCond .lt 30, 3, 0, 0) := by decide +kernel
theorem r60_14 : rowAt 60 14 = some (.iload_n 2, 1, 0, 0) := by decide +kernel
theorem r60_15 : rowAt 60 15 = some (.sipush 144, 3, 0, 0) := by decide +kernel
theorem r60_18 : rowAt 60 18 = some (.if_icmp .ge 23, 3, 0, 0) := by decide +kernel
theorem r60_21 : rowAt 60 21 = some (.aload_n 0, 1, 0, 0) := by decide +kernel
theorem r60_22 : rowAt 60 22 = some (.iload_n 1, 1, 0, 0) := by decide +kernel
theorem r60_23 : rowAt 60 23 = some (.invokevirtual 107, 3, 59, 0) := by decide +kernel
theorem r60_26 : rowAt 60 26 = some (.aload_n 0, 1, 0, 0) := by decide +kernel
theorem r60_27 : rowAt 60 27 = some (.getfield 18, 3, 5, 10) := by decide +kernel
theorem r60_30 : rowAt 60 30 = some (.iload_n 1, 1, 0, 0) := by decide +kernel
theorem r60_31 : rowAt 60 31 = some (.iload_n 2, 1, 0, 0) := by decide +kernel
theorem r60_32 : rowAt 60 32 = some (.iastore, 1, 0, 0) := by decide +kernel
theorem r60_33 : rowAt 60 33 = some (.aload_n 0, 1, 0, 0) := by decide +kernel
theorem r60_34 : rowAt 60 34 = some (.getfield 15, 3, 5, 9) := by decide +kernel
theorem r60_37 : rowAt 60 37 = some (.iload_n 2, 1, 0, 0) := by decide +kernel
theorem r60_38 : rowAt 60 38 = some (.iload_n 1, 1, 0, 0) := by decide +kernel
theorem r60_39 : rowAt 60 39 = some (.i2b, 1, 0, 0) := by decide +kernel
theorem r60_40 : rowAt 60 40 = some (.bastore, 1, 0, 0) := by decide +kernel
theorem r60_41 : rowAt 60 41 = some (.return_, 1, 0, 0) := by decide +kernel
theorem en60 (a0 : Nat) (a1 : Int32) (a2 : Int32) : iniL 60 [.ref a0, .int a1, .int a2] = [.ref a0, .int a1, .int a2] := ini_n mi60 rfl
theorem b60_0 (d : Nat) (l0 : Nat) (l1 : Int32) (l2 : Int32) (h : aH) (K : Option Value → aH → Prop) : E scr false (d + 1) 60 0 [.ref l0, .int l1, .int l2] [] h K = (if l1 < 0 then K none h else (if 14 ≤ l1 then K none h else (if l2 < 0 then K none h else (if 144 ≤ l2 then K none h else vV scr d 59 [.ref l0, .int l1] h (fun h1 : aH => gR scr h1 l0 5 10 (fun x3 : Nat => wI h1 x3 l1 l2 (fun h4 : aH => gR scr h4 l0 5 9 (fun x5 : Nat => wB h4 x5 l2 ((Int8.toInt32 (Int32.toInt8 l1))) (fun h6 : aH => K none h6))))))))) := go (w := (1, [.ref l0, .int l1, .int l2], [.int l1], h)) r60_0 rfl rfl (E_i1_lt r60_1 rfl (E_vret r60_41 (mq60)) (go (w := (5, [.ref l0, .int l1, .int l2], [.int l1], h)) r60_4 rfl rfl (E_bip r60_5 (v := 14) (by decide) (E_i2_ge r60_7 rfl (E_vret r60_41 (mq60)) (go (w := (11, [.ref l0, .int l1, .int l2], [.int l2], h)) r60_10 rfl rfl (E_i1_lt r60_11 rfl (E_vret r60_41 (mq60)) (go (w := (15, [.ref l0, .int l1, .int l2], [.int l2], h)) r60_14 rfl rfl (E_sip r60_15 (v := 144) (by decide) (E_i2_ge r60_18 rfl (E_vret r60_41 (mq60)) (go (w := (22, [.ref l0, .int l1, .int l2], [.ref l0], h)) r60_21 rfl rfl (go (w := (23, [.ref l0, .int l1, .int l2], [.int l1, .ref l0], h)) r60_22 rfl rfl (E_vV r60_23 (As := [.ref l0, .int l1]) (rest := []) (cut_n mi59.1 rfl rfl) (rm8_n mi59.2.1 (Nat.le_of_ble_eq_true rfl) (Nat.le_of_ble_eq_true rfl)) mi59.2.2 (fun h1 => go (w := (27, [.ref l0, .int l1, .int l2], [.ref l0], h1)) r60_26 rfl rfl (E_gR r60_27 rfl (fun x3 => go (w := (31, [.ref l0, .int l1, .int l2], [.int l1, .ref x3], h1)) r60_30 rfl rfl (go (w := (32, [.ref l0, .int l1, .int l2], [.int l2, .int l1, .ref x3], h1)) r60_31 rfl rfl (E_wI r60_32 (fun h4 => go (w := (34, [.ref l0, .int l1, .int l2], [.ref l0], h4)) r60_33 rfl rfl (E_gR r60_34 rfl (fun x5 => go (w := (38, [.ref l0, .int l1, .int l2], [.int l2, .ref x5], h4)) r60_37 rfl rfl (go (w := (39, [.ref l0, .int l1, .int l2], [.int l1, .int l2, .ref x5], h4)) r60_38 rfl rfl (go (w := (40, [.ref l0, .int l1, .int l2], [.int (Int8.toInt32 (Int32.toInt8 l1)), .int l2, .ref x5], h4)) r60_39 rfl rfl (E_wB r60_40 (fun h6 => E_vret r60_41 (mq60)))))))))))))))))))))))))
-- 61 SecondNearest$Scene.goBy(II)Z
theorem mq61 : mRet 61 = (some .boolean) := by decide +kernel
theorem r61_0 : rowAt 61 0 = some (.iload_n 1, 1, 0, 0) := by decide +kernel
theorem r61_1 : rowAt 61 1 = some (.ifCond .lt 9, 3, 0, 0) := by decide +kernel
theorem r61_4 : rowAt 61 4 = some (.iload_n 1, 1, 0, 0) := by decide +kernel
theorem r61_5 : rowAt 61 5 = some (.bipush 14, 2, 0, 0) := by decide +kernel
theorem r61_7 : rowAt 61 7 = some (.if_icmp .lt 5, 3, 0, 0) := by decide +kernel
theorem r61_10 : rowAt 61 10 = some (.iconst 0, 1, 0, 0) := by decide +kernel
theorem r61_11 : rowAt 61 11 = some (.ireturn, 1, 0, 0) := by decide +kernel
theorem r61_12 : rowAt 61 12 = some (.aload_n 0, 1, 0, 0) := by decide +kernel
theorem r61_13 : rowAt 61 13 = some (.aload_n 0, 1, 0, 0) := by decide +kernel
theorem r61_14 : rowAt 61 14 = some (.getfield 18, 3, 5, 10) := by decide +kernel
theorem r61_17 : rowAt 61 17 = some (.iload_n 1, 1, 0, 0) := by decide +kernel
theorem r61_18 : rowAt 61 18 = some (.iaload, 1, 0, 0) := by decide +kernel
theorem r61_19 : rowAt 61 19 = some (.iload_n 2, 1, 0, 0) := by decide +kernel
theorem r61_20 : rowAt 61 20 = some (.invokevirtual 111, 3, 58, 0) := by decide +kernel
theorem r61_23 : rowAt 61 23 = some (.istore_n 3, 1, 0, 0) := by decide +kernel
theorem r61_24 : rowAt 61 24 = some (.iload_n 3, 1, 0, 0) := by decide +kernel
theorem r61_25 : rowAt 61 25 = some (.ifCond .lt 18, 3, 0, 0) := by decide +kernel
theorem r61_28 : rowAt 61 28 = some (.aload_n 0, 1, 0, 0) := by decide +kernel
theorem r61_29 : rowAt 61 29 = some (.iload_n 3, 1, 0, 0) := by decide +kernel
theorem r61_30 : rowAt 61 30 = some (.bipush 12, 2, 0, 0) := by decide +kernel
theorem r61_32 : rowAt 61 32 = some (.irem, 1, 0, 0) := by decide +kernel
theorem r61_33 : rowAt 61 33 = some (.iload_n 3, 1, 0, 0) := by decide +kernel
theorem r61_34 : rowAt 61 34 = some (.bipush 12, 2, 0, 0) := by decide +kernel
theorem r61_36 : rowAt 61 36 = some (.idiv, 1, 0, 0) := by decide +kernel
theorem r61_37 : rowAt 61 37 = some (.invokevirtual 115, 3, 57, 0) := by decide +kernel
theorem r61_40 : rowAt 61 40 = some (.ifCond .ne 5, 3, 0, 0) := by decide +kernel
theorem r61_43 : rowAt 61 43 = some (.iconst 0, 1, 0, 0) := by decide +kernel
theorem r61_44 : rowAt 61 44 = some (.ireturn, 1, 0, 0) := by decide +kernel
theorem r61_45 : rowAt 61 45 = some (.aload_n 0, 1, 0, 0) := by decide +kernel
theorem r61_46 : rowAt 61 46 = some (.iload_n 1, 1, 0, 0) := by decide +kernel
theorem r61_47 : rowAt 61 47 = some (.iload_n 3, 1, 0, 0) := by decide +kernel
theorem r61_48 : rowAt 61 48 = some (.invokevirtual 118, 3, 60, 0) := by decide +kernel
theorem r61_51 : rowAt 61 51 = some (.iconst 1, 1, 0, 0) := by decide +kernel
theorem r61_52 : rowAt 61 52 = some (.ireturn, 1, 0, 0) := by decide +kernel
theorem en61 (a0 : Nat) (a1 : Int32) (a2 : Int32) : iniL 61 [.ref a0, .int a1, .int a2] = [.ref a0, .int a1, .int a2, .null] := ini_n mi61 rfl
theorem b61_0 (d : Nat) (l0 : Nat) (l1 : Int32) (l2 : Int32) (h : aH) (K : Option Value → aH → Prop) : E scr false (d + 1) 61 0 [.ref l0, .int l1, .int l2, .null] [] h K = (if l1 < 0 then K (some (.int 0)) h else (if l1 < 14 then gR scr h l0 5 10 (fun x1 : Nat => aI scr h x1 l1 (fun x2 : Int32 => vI scr d 58 [.ref l0, .int x2, .int l2] h (fun (x4 : Int32) (h3 : aH) => (if x4 < 0 then K (some (.int 0)) h3 else vI scr d 57 [.ref l0, .int (irm x4 12), .int (x4 / 12)] h3 (fun (x6 : Int32) (h5 : aH) => (if x6 = 0 then K (some (.int 0)) h5 else vV scr d 60 [.ref l0, .int l1, .int x4] h5 (fun h7 : aH => K (some (.int 1)) h7))))))) else K (some (.int 0)) h)) := go (w := (1, [.ref l0, .int l1, .int l2, .null], [.int l1], h)) r61_0 rfl rfl (E_i1_lt r61_1 rfl (E_ic r61_10 (v := 0) (by decide) (E_rz r61_11 (mq61) (by decide))) (go (w := (5, [.ref l0, .int l1, .int l2, .null], [.int l1], h)) r61_4 rfl rfl (E_bip r61_5 (v := 14) (by decide) (E_i2_lt r61_7 rfl (go (w := (13, [.ref l0, .int l1, .int l2, .null], [.ref l0], h)) r61_12 rfl rfl (go (w := (14, [.ref l0, .int l1, .int l2, .null], [.ref l0, .ref l0], h)) r61_13 rfl rfl (E_gR r61_14 rfl (fun x1 => go (w := (18, [.ref l0, .int l1, .int l2, .null], [.int l1, .ref x1, .ref l0], h)) r61_17 rfl rfl (E_aI r61_18 (fun x2 => go (w := (20, [.ref l0, .int l1, .int l2, .null], [.int l2, .int x2, .ref l0], h)) r61_19 rfl rfl (E_vI r61_20 (As := [.ref l0, .int x2, .int l2]) (rest := []) (cut_n mi58.1 rfl rfl) (rm8_n mi58.2.1 (Nat.le_of_ble_eq_true rfl) (Nat.le_of_ble_eq_true rfl)) mi58.2.2 (fun x4 h3 => go (w := (24, [.ref l0, .int l1, .int l2, .int x4], [], h3)) r61_23 rfl rfl (go (w := (25, [.ref l0, .int l1, .int l2, .int x4], [.int x4], h3)) r61_24 rfl rfl (E_i1_lt r61_25 rfl (E_ic r61_43 (v := 0) (by decide) (E_rz r61_44 (mq61) (by decide))) (go (w := (29, [.ref l0, .int l1, .int l2, .int x4], [.ref l0], h3)) r61_28 rfl rfl (go (w := (30, [.ref l0, .int l1, .int l2, .int x4], [.int x4, .ref l0], h3)) r61_29 rfl rfl (E_bip r61_30 (v := 12) (by decide) (E_remc r61_32 (by decide) (go (w := (34, [.ref l0, .int l1, .int l2, .int x4], [.int x4, .int (irm x4 12), .ref l0], h3)) r61_33 rfl rfl (E_bip r61_34 (v := 12) (by decide) (E_divc r61_36 (by decide) (E_vI r61_37 (As := [.ref l0, .int (irm x4 12), .int (x4 / 12)]) (rest := []) (cut_n mi57.1 rfl rfl) (rm8_n mi57.2.1 (Nat.le_of_ble_eq_true rfl) (Nat.le_of_ble_eq_true rfl)) mi57.2.2 (fun x6 h5 => E_i1_ne r61_40 rfl (go (w := (46, [.ref l0, .int l1, .int l2, .int x4], [.ref l0], h5)) r61_45 rfl rfl (go (w := (47, [.ref l0, .int l1, .int l2, .int x4], [.int l1, .ref l0], h5)) r61_46 rfl rfl (go (w := (48, [.ref l0, .int l1, .int l2, .int x4], [.int x4, .int l1, .ref l0], h5)) r61_47 rfl rfl (E_vV r61_48 (As := [.ref l0, .int l1, .int x4]) (rest := []) (cut_n mi60.1 rfl rfl) (rm8_n mi60.2.1 (Nat.le_of_ble_eq_true rfl) (Nat.le_of_ble_eq_true rfl)) mi60.2.2 (fun h7 => E_ic r61_51 (v := 1) (by decide) (E_rz r61_52 (mq61) (by decide))))))) (E_ic r61_43 (v := 0) (by decide) (E_rz r61_44 (mq61) (by decide)))))))))))))))))))))) (E_ic r61_10 (v := 0) (by decide) (E_rz r61_11 (mq61) (by decide)))))))
-- 62 SecondNearest$Scene.addSpoor(III)V
theorem mq62 : mRet 62 = none := by decide +kernel
theorem r62_0 : rowAt 62 0 = some (.aload_n 0, 1, 0, 0) := by decide +kernel
theorem r62_1 : rowAt 62 1 = some (.getfield 65, 3, 5, 7) := by decide +kernel
theorem r62_4 : rowAt 62 4 = some (.ifCond .lt 52, 3, 0, 0) := by decide +kernel
theorem r62_7 : rowAt 62 7 = some (.aload_n 0, 1, 0, 0) := by decide +kernel
theorem r62_8 : rowAt 62 8 = some (.getfield 65, 3, 5, 7) := by decide +kernel
theorem r62_11 : rowAt 62 11 = some (.bipush 40, 2, 0, 0) := by decide +kernel
theorem r62_13 : rowAt 62 13 = some (.if_icmp .ge 43, 3, 0, 0) := by decide +kernel
theorem r62_16 : rowAt 62 16 = some (.aload_n 0, 1, 0, 0) := by decide +kernel
theorem r62_17 : rowAt 62 17 = some (.getfield 31, 3, 5, 14) := by decide +kernel
theorem r62_20 : rowAt 62 20 = some (.aload_n 0, 1, 0, 0) := by decide +kernel
theorem r62_21 : rowAt 62 21 = some (.getfield 65, 3, 5, 7) := by decide +kernel
theorem r62_24 : rowAt 62 24 = some (.iload_n 1, 1, 0, 0) := by decide +kernel
theorem r62_25 : rowAt 62 25 = some (.iastore, 1, 0, 0) := by decide +kernel
theorem r62_26 : rowAt 62 26 = some (.aload_n 0, 1, 0, 0) := by decide +kernel
theorem r62_27 : rowAt 62 27 = some (.getfield 34, 3, 5, 15) := by decide +kernel
theorem r62_30 : rowAt 62 30 = some (.aload_n 0, 1, 0, 0) := by decide +kernel
theorem r62_31 : rowAt 62 31 = some (.getfield 65, 3, 5, 7) := by decide +kernel
theorem r62_34 : rowAt 62 34 = some (.iload_n 2, 1, 0, 0) := by decide +kernel
theorem r62_35 : rowAt 62 35 = some (.iastore, 1, 0, 0) := by decide +kernel
theorem r62_36 : rowAt 62 36 = some (.aload_n 0, 1, 0, 0) := by decide +kernel
theorem r62_37 : rowAt 62 37 = some (.getfield 37, 3, 5, 16) := by decide +kernel
theorem r62_40 : rowAt 62 40 = some (.aload_n 0, 1, 0, 0) := by decide +kernel
theorem r62_41 : rowAt 62 41 = some (.getfield 65, 3, 5, 7) := by decide +kernel
theorem r62_44 : rowAt 62 44 = some (.iload_n 3, 1, 0, 0) := by decide +kernel
theorem r62_45 : rowAt 62 45 = some (.iastore, 1, 0, 0) := by decide +kernel
theorem r62_46 : rowAt 62 46 = some (.aload_n 0, 1, 0, 0) := by decide +kernel
theorem r62_47 : rowAt 62 47 = some (.dup, 1, 0, 0) := by decide +kernel
theorem r62_48 : rowAt 62 48 = some (.getfield 65, 3, 5, 7) := by decide +kernel
theorem r62_51 : rowAt 62 51 = some (.iconst 1, 1, 0, 0) := by decide +kernel
theorem r62_52 : rowAt 62 52 = some (.iadd, 1, 0, 0) := by decide +kernel
theorem r62_53 : rowAt 62 53 = some (.putfield 65, 3, 5, 7) := by decide +kernel
theorem r62_56 : rowAt 62 56 = some (.return_, 1, 0, 0) := by decide +kernel
theorem en62 (a0 : Nat) (a1 : Int32) (a2 : Int32) (a3 : Int32) : iniL 62 [.ref a0, .int a1, .int a2, .int a3] = [.ref a0, .int a1, .int a2, .int a3] := ini_n mi62 rfl
theorem b62_0 (d : Nat) (l0 : Nat) (l1 : Int32) (l2 : Int32) (l3 : Int32) (h : aH) (K : Option Value → aH → Prop) : E scr false d 62 0 [.ref l0, .int l1, .int l2, .int l3] [] h K = gI scr h l0 5 7 (fun x1 : Int32 => (if x1 < 0 then K none h else gI scr h l0 5 7 (fun x2 : Int32 => (if 40 ≤ x2 then K none h else gR scr h l0 5 14 (fun x3 : Nat => gI scr h l0 5 7 (fun x4 : Int32 => wI h x3 x4 l1 (fun h5 : aH => gR scr h5 l0 5 15 (fun x6 : Nat => gI scr h5 l0 5 7 (fun x7 : Int32 => wI h5 x6 x7 l2 (fun h8 : aH => gR scr h8 l0 5 16 (fun x9 : Nat => gI scr h8 l0 5 7 (fun x10 : Int32 => wI h8 x9 x10 l3 (fun h11 : aH => gI scr h11 l0 5 7 (fun x12 : Int32 => pF h11 l0 5 7 (.int (x12 + 1)) (fun h13 : aH => K none h13))))))))))))))) := go (w := (1, [.ref l0, .int l1, .int l2, .int l3], [.ref l0], h)) r62_0 rfl rfl (E_gI r62_1 rfl (fun x1 => E_i1_lt r62_4 rfl (E_vret r62_56 (mq62)) (go (w := (8, [.ref l0, .int l1, .int l2, .int l3], [.ref l0], h)) r62_7 rfl rfl (E_gI r62_8 rfl (fun x2 => E_bip r62_11 (v := 40) (by decide) (E_i2_ge r62_13 rfl (E_vret r62_56 (mq62)) (go (w := (17, [.ref l0, .int l1, .int l2, .int l3], [.ref l0], h)) r62_16 rfl rfl (E_gR r62_17 rfl (fun x3 => go (w := (21, [.ref l0, .int l1, .int l2, .int l3], [.ref l0, .ref x3], h)) r62_20 rfl rfl (E_gI r62_21 rfl (fun x4 => go (w := (25, [.ref l0, .int l1, .int l2, .int l3], [.int l1, .int x4, .ref x3], h)) r62_24 rfl rfl (E_wI r62_25 (fun h5 => go (w := (27, [.ref l0, .int l1, .int l2, .int l3], [.ref l0], h5)) r62_26 rfl rfl (E_gR r62_27 rfl (fun x6 => go (w := (31, [.ref l0, .int l1, .int l2, .int l3], [.ref l0, .ref x6], h5)) r62_30 rfl rfl (E_gI r62_31 rfl (fun x7 => go (w := (35, [.ref l0, .int l1, .int l2, .int l3], [.int l2, .int x7, .ref x6], h5)) r62_34 rfl rfl (E_wI r62_35 (fun h8 => go (w := (37, [.ref l0, .int l1, .int l2, .int l3], [.ref l0], h8)) r62_36 rfl rfl (E_gR r62_37 rfl (fun x9 => go (w := (41, [.ref l0, .int l1, .int l2, .int l3], [.ref l0, .ref x9], h8)) r62_40 rfl rfl (E_gI r62_41 rfl (fun x10 => go (w := (45, [.ref l0, .int l1, .int l2, .int l3], [.int l3, .int x10, .ref x9], h8)) r62_44 rfl rfl (E_wI r62_45 (fun h11 => go (w := (47, [.ref l0, .int l1, .int l2, .int l3], [.ref l0], h11)) r62_46 rfl rfl (go (w := (48, [.ref l0, .int l1, .int l2, .int l3], [.ref l0, .ref l0], h11)) r62_47 rfl rfl (E_gI r62_48 rfl (fun x12 => E_ic r62_51 (v := 1) (by decide) (go (w := (53, [.ref l0, .int l1, .int l2, .int l3], [.int (x12 + 1), .ref l0], h11)) r62_52 rfl rfl (E_pI r62_53 ⟨rfl, rfl⟩ (fun h13 => E_vret r62_56 (mq62))))))))))))))))))))))))))))))))
-- 63 SecondNearest$Scene.isGround(I)Z
theorem mq63 : mRet 63 = (some .boolean) := by decide +kernel
theorem r63_0 : rowAt 63 0 = some (.iload_n 0, 1, 0, 0) := by decide +kernel
theorem r63_1 : rowAt 63 1 = some (.ifCond .eq 8, 3, 0, 0) := by decide +kernel
theorem r63_4 : rowAt 63 4 = some (.iload_n 0, 1, 0, 0) := by decide +kernel
theorem r63_5 : rowAt 63 5 = some (.iconst 3, 1, 0, 0) := by decide +kernel
theorem r63_6 : rowAt 63 6 = some (.if_icmp .ne 7, 3, 0, 0) := by decide +kernel
theorem r63_9 : rowAt 63 9 = some (.iconst 1, 1, 0, 0) := by decide +kernel
theorem r63_10 : rowAt 63 10 = some (.goto 4, 3, 0, 0) := by decide +kernel
theorem r63_13 : rowAt 63 13 = some (.iconst 0, 1, 0, 0) := by decide +kernel
theorem r63_14 : rowAt 63 14 = some (.ireturn, 1, 0, 0) := by decide +kernel
theorem en63 (a0 : Int32) : iniL 63 [.int a0] = [.int a0] := ini_n mi63 rfl
theorem b63_0 (d : Nat) (l0 : Int32) (h : aH) (K : Option Value → aH → Prop) : E scr false d 63 0 [.int l0] [] h K = (if l0 = 0 then E scr false d 63 9 [.int l0] [] h K else (if l0 = 3 then E scr false d 63 9 [.int l0] [] h K else K (some (.int 0)) h)) := go (w := (1, [.int l0], [.int l0], h)) r63_0 rfl rfl (E_i1_eq r63_1 rfl (rfl) (go (w := (5, [.int l0], [.int l0], h)) r63_4 rfl rfl (E_ic r63_5 (v := 3) (by decide) (E_i2_ne r63_6 rfl (E_ic r63_13 (v := 0) (by decide) (E_rz r63_14 (mq63) (by decide))) (rfl)))))
theorem b63_9 (d : Nat) (l0 : Int32) (h : aH) (K : Option Value → aH → Prop) : E scr false d 63 9 [.int l0] [] h K = K (some (.int 1)) h := E_ic r63_9 (v := 1) (by decide) (E_gt r63_10 rfl (E_rz r63_14 (mq63) (by decide)))
-- 65 SecondNearest$Tape.hasRoom(I)Z
theorem mq65 : mRet 65 = (some .boolean) := by decide +kernel
theorem r65_0 : rowAt 65 0 = some (.aload_n 0, 1, 0, 0) := by decide +kernel
theorem r65_1 : rowAt 65 1 = some (.getfield 15, 3, 6, 1) := by decide +kernel
theorem r65_4 : rowAt 65 4 = some (.iload_n 1, 1, 0, 0) := by decide +kernel
theorem r65_5 : rowAt 65 5 = some (.iadd, 1, 0, 0) := by decide +kernel
theorem r65_6 : rowAt 65 6 = some (.sipush 400, 3, 0, 0) := by decide +kernel
theorem r65_9 : rowAt 65 9 = some (.if_icmp .gt 7, 3, 0, 0) := by decide +kernel
theorem r65_12 : rowAt 65 12 = some (.iconst 1, 1, 0, 0) := by decide +kernel
theorem r65_13 : rowAt 65 13 = some (.goto 4, 3, 0, 0) := by decide +kernel
theorem r65_16 : rowAt 65 16 = some (.iconst 0, 1, 0, 0) := by decide +kernel
theorem r65_17 : rowAt 65 17 = some (.ireturn, 1, 0, 0) := by decide +kernel
theorem en65 (a0 : Nat) (a1 : Int32) : iniL 65 [.ref a0, .int a1] = [.ref a0, .int a1] := ini_n mi65 rfl
theorem b65_0 (d : Nat) (l0 : Nat) (l1 : Int32) (h : aH) (K : Option Value → aH → Prop) : E scr false d 65 0 [.ref l0, .int l1] [] h K = gI scr h l0 6 1 (fun x1 : Int32 => (if 400 < (x1 + l1) then K (some (.int 0)) h else K (some (.int 1)) h)) := go (w := (1, [.ref l0, .int l1], [.ref l0], h)) r65_0 rfl rfl (E_gI r65_1 rfl (fun x1 => go (w := (5, [.ref l0, .int l1], [.int l1, .int x1], h)) r65_4 rfl rfl (go (w := (6, [.ref l0, .int l1], [.int (x1 + l1)], h)) r65_5 rfl rfl (E_sip r65_6 (v := 400) (by decide) (E_i2_gt r65_9 rfl (E_ic r65_16 (v := 0) (by decide) (E_rz r65_17 (mq65) (by decide))) (E_ic r65_12 (v := 1) (by decide) (E_gt r65_13 rfl (E_rz r65_17 (mq65) (by decide)))))))))
-- 66 SecondNearest$Tape.add(I)V
theorem mq66 : mRet 66 = none := by decide +kernel
theorem r66_0 : rowAt 66 0 = some (.bipush 24, 2, 0, 0) := by decide +kernel
theorem r66_2 : rowAt 66 2 = some (.istore_n 2, 1, 0, 0) := by decide +kernel
theorem r66_3 : rowAt 66 3 = some (.iload_n 2, 1, 0, 0) := by decide +kernel
theorem r66_4 : rowAt 66 4 = some (.ifCond .lt 42, 3, 0, 0) := by decide +kernel
theorem r66_7 : rowAt 66 7 = some (.aload_n 0, 1, 0, 0) := by decide +kernel
theorem r66_8 : rowAt 66 8 = some (.getfield 15, 3, 6, 1) := by decide +kernel
theorem r66_11 : rowAt 66 11 = some (.sipush 400, 3, 0, 0) := by decide +kernel
theorem r66_14 : rowAt 66 14 = some (.if_icmp .ge 32, 3, 0, 0) := by decide +kernel
theorem r66_17 : rowAt 66 17 = some (.aload_n 0, 1, 0, 0) := by decide +kernel
theorem r66_18 : rowAt 66 18 = some (.getfield 11, 3, 6, 0) := by decide +kernel
theorem r66_21 : rowAt 66 21 = some (.aload_n 0, 1, 0, 0) := by decide +kernel
theorem r66_22 : rowAt 66 22 = some (.getfield 15, 3, 6, 1) := by decide +kernel
theorem r66_25 : rowAt 66 25 = some (.iload_n 1, 1, 0, 0) := by decide +kernel
theorem r66_26 : rowAt 66 26 = some (.iload_n 2, 1, 0, 0) := by decide +kernel
theorem r66_27 : rowAt 66 27 = some (.iushr, 1, 0, 0) := by decide +kernel
theorem r66_28 : rowAt 66 28 = some (.i2b, 1, 0, 0) := by decide +kernel
theorem r66_29 : rowAt 66 29 = some (.bastore, 1, 0, 0) := by decide +kernel
theorem r66_30 : rowAt 66 30 = some (.aload_n 0, 1, 0, 0) := by decide +kernel
theorem r66_31 : rowAt 66 31 = some (.dup, 1, 0, 0) := by decide +kernel
theorem r66_32 : rowAt 66 32 = some (.getfield 15, 3, 6, 1) := by decide +kernel
theorem r66_35 : rowAt 66 35 = some (.iconst 1, 1, 0, 0) := by decide +kernel
theorem r66_36 : rowAt 66 36 = some (.iadd, 1, 0, 0) := by decide +kernel
theorem r66_37 : rowAt 66 37 = some (.putfield 15, 3, 6, 1) := by decide +kernel
theorem r66_40 : rowAt 66 40 = some (.iinc 2 (-8), 3, 0, 0) := by decide +kernel
theorem r66_43 : rowAt 66 43 = some (.goto (-40), 3, 0, 0) := by decide +kernel
theorem r66_46 : rowAt 66 46 = some (.return_, 1, 0, 0) := by decide +kernel
theorem en66 (a0 : Nat) (a1 : Int32) : iniL 66 [.ref a0, .int a1] = [.ref a0, .int a1, .null] := ini_n mi66 rfl
theorem b66_0 (d : Nat) (l0 : Nat) (l1 : Int32) (h : aH) (K : Option Value → aH → Prop) : E scr false d 66 0 [.ref l0, .int l1, .null] [] h K = E scr false d 66 3 [.ref l0, .int l1, .int 24] [] h K := E_bip r66_0 (v := 24) (by decide) (go (w := (3, [.ref l0, .int l1, .int 24], [], h)) r66_2 rfl rfl (rfl))
theorem b66_3 (d : Nat) (l0 : Nat) (l1 : Int32) (l2 : Int32) (h : aH) (K : Option Value → aH → Prop) : E scr false d 66 3 [.ref l0, .int l1, .int l2] [] h K = (if l2 < 0 then K none h else gI scr h l0 6 1 (fun x1 : Int32 => (if 400 ≤ x1 then K none h else gR scr h l0 6 0 (fun x2 : Nat => gI scr h l0 6 1 (fun x3 : Int32 => wB h x2 x3 ((Int8.toInt32 (Int32.toInt8 (UInt32.toInt32 ((Int32.toUInt32 l1 : UInt32) >>> ((Int32.toUInt32 l2 &&& Int32.toUInt32 31) : UInt32)))))) (fun h4 : aH => gI scr h4 l0 6 1 (fun x5 : Int32 => pF h4 l0 6 1 (.int (x5 + 1)) (fun h6 : aH => E scr false d 66 3 [.ref l0, .int l1, .int (l2 + (-8))] [] h6 K)))))))) := go (w := (4, [.ref l0, .int l1, .int l2], [.int l2], h)) r66_3 rfl rfl (E_i1_lt r66_4 rfl (E_vret r66_46 (mq66)) (go (w := (8, [.ref l0, .int l1, .int l2], [.ref l0], h)) r66_7 rfl rfl (E_gI r66_8 rfl (fun x1 => E_sip r66_11 (v := 400) (by decide) (E_i2_ge r66_14 rfl (E_vret r66_46 (mq66)) (go (w := (18, [.ref l0, .int l1, .int l2], [.ref l0], h)) r66_17 rfl rfl (E_gR r66_18 rfl (fun x2 => go (w := (22, [.ref l0, .int l1, .int l2], [.ref l0, .ref x2], h)) r66_21 rfl rfl (E_gI r66_22 rfl (fun x3 => go (w := (26, [.ref l0, .int l1, .int l2], [.int l1, .int x3, .ref x2], h)) r66_25 rfl rfl (go (w := (27, [.ref l0, .int l1, .int l2], [.int l2, .int l1, .int x3, .ref x2], h)) r66_26 rfl rfl (go (w := (28, [.ref l0, .int l1, .int l2], [.int (UInt32.toInt32 ((Int32.toUInt32 l1 : UInt32) >>> ((Int32.toUInt32 l2 &&& Int32.toUInt32 31) : UInt32))), .int x3, .ref x2], h)) r66_27 rfl rfl (go (w := (29, [.ref l0, .int l1, .int l2], [.int (Int8.toInt32 (Int32.toInt8 (UInt32.toInt32 ((Int32.toUInt32 l1 : UInt32) >>> ((Int32.toUInt32 l2 &&& Int32.toUInt32 31) : UInt32))))), .int x3, .ref x2], h)) r66_28 rfl rfl (E_wB r66_29 (fun h4 => go (w := (31, [.ref l0, .int l1, .int l2], [.ref l0], h4)) r66_30 rfl rfl (go (w := (32, [.ref l0, .int l1, .int l2], [.ref l0, .ref l0], h4)) r66_31 rfl rfl (E_gI r66_32 rfl (fun x5 => E_ic r66_35 (v := 1) (by decide) (go (w := (37, [.ref l0, .int l1, .int l2], [.int (x5 + 1), .ref l0], h4)) r66_36 rfl rfl (E_pI r66_37 ⟨rfl, rfl⟩ (fun h6 => E_inc r66_40 (c := (-8)) rfl (by decide) (L' := [.ref l0, .int l1, .int (l2 + (-8))]) rfl (E_gt r66_43 rfl (rfl)))))))))))))))))))))))
-- 67 SecondNearest$Tape.rewind()V
theorem mq67 : mRet 67 = none := by decide +kernel
theorem r67_0 : rowAt 67 0 = some (.aload_n 0, 1, 0, 0) := by decide +kernel
theorem r67_1 : rowAt 67 1 = some (.iconst 0, 1, 0, 0) := by decide +kernel
theorem r67_2 : rowAt 67 2 = some (.putfield 19, 3, 6, 2) := by decide +kernel
theorem r67_5 : rowAt 67 5 = some (.aload_n 0, 1, 0, 0) := by decide +kernel
theorem r67_6 : rowAt 67 6 = some (.iconst 0, 1, 0, 0) := by decide +kernel
theorem r67_7 : rowAt 67 7 = some (.putfield 22, 3, 6, 3) := by decide +kernel
theorem r67_10 : rowAt 67 10 = some (.return_, 1, 0, 0) := by decide +kernel
theorem en67 (a0 : Nat) : iniL 67 [.ref a0] = [.ref a0] := ini_n mi67 rfl
theorem b67_0 (d : Nat) (l0 : Nat) (h : aH) (K : Option Value → aH → Prop) : E scr false d 67 0 [.ref l0] [] h K = pF h l0 6 2 (.int 0) (fun h1 : aH => pF h1 l0 6 3 (.int 0) (fun h2 : aH => K none h2)) := go (w := (1, [.ref l0], [.ref l0], h)) r67_0 rfl rfl (E_ic r67_1 (v := 0) (by decide) (E_pI r67_2 ⟨rfl, rfl⟩ (fun h1 => go (w := (6, [.ref l0], [.ref l0], h1)) r67_5 rfl rfl (E_ic r67_6 (v := 0) (by decide) (E_pI r67_7 ⟨rfl, rfl⟩ (fun h2 => E_vret r67_10 (mq67)))))))
-- 68 SecondNearest$Tape.here()I
theorem mq68 : mRet 68 = (some .int) := by decide +kernel
theorem r68_0 : rowAt 68 0 = some (.aload_n 0, 1, 0, 0) := by decide +kernel
theorem r68_1 : rowAt 68 1 = some (.getfield 19, 3, 6, 2) := by decide +kernel
theorem r68_4 : rowAt 68 4 = some (.aload_n 0, 1, 0, 0) := by decide +kernel
theorem r68_5 : rowAt 68 5 = some (.getfield 15, 3, 6, 1) := by decide +kernel
theorem r68_8 : rowAt 68 8 = some (.if_icmp .ge 29, 3, 0, 0) := by decide +kernel
theorem r68_11 : rowAt 68 11 = some (.aload_n 0, 1, 0, 0) := by decide +kernel
theorem r68_12 : rowAt 68 12 = some (.getfield 19, 3, 6, 2) := by decide +kernel
theorem r68_15 : rowAt 68 15 = some (.sipush 400, 3, 0, 0) := by decide +kernel
theorem r68_18 : rowAt 68 18 = some (.if_icmp .ge 19, 3, 0, 0) := by decide +kernel
theorem r68_21 : rowAt 68 21 = some (.aload_n 0, 1, 0, 0) := by decide +kernel
theorem r68_22 : rowAt 68 22 = some (.getfield 11, 3, 6, 0) := by decide +kernel
theorem r68_25 : rowAt 68 25 = some (.aload_n 0, 1, 0, 0) := by decide +kernel
theorem r68_26 : rowAt 68 26 = some (.getfield 19, 3, 6, 2) := by decide +kernel
theorem r68_29 : rowAt 68 29 = some (.baload, 1, 0, 0) := by decide +kernel
theorem r68_30 : rowAt 68 30 = some (.sipush 255, 3, 0, 0) := by decide +kernel
theorem r68_33 : rowAt 68 33 = some (.iand, 1, 0, 0) := by decide +kernel
theorem r68_34 : rowAt 68 34 = some (.goto 4, 3, 0, 0) := by decide +kernel
theorem r68_37 : rowAt 68 37 = some (.iconst (-1), 1, 0, 0) := by decide +kernel
theorem r68_38 : rowAt 68 38 = some (.ireturn, 1, 0, 0) := by decide +kernel
theorem en68 (a0 : Nat) : iniL 68 [.ref a0] = [.ref a0] := ini_n mi68 rfl
theorem b68_0 (d : Nat) (l0 : Nat) (h : aH) (K : Option Value → aH → Prop) : E scr false d 68 0 [.ref l0] [] h K = gI scr h l0 6 2 (fun x1 : Int32 => gI scr h l0 6 1 (fun x2 : Int32 => (if x2 ≤ x1 then K (some (.int (-1))) h else gI scr h l0 6 2 (fun x3 : Int32 => (if 400 ≤ x3 then K (some (.int (-1))) h else gR scr h l0 6 0 (fun x4 : Nat => gI scr h l0 6 2 (fun x5 : Int32 => aB scr h x4 x5 (fun x6 : Int32 => K (some (.int (x6 &&& 255))) h)))))))) := go (w := (1, [.ref l0], [.ref l0], h)) r68_0 rfl rfl (E_gI r68_1 rfl (fun x1 => go (w := (5, [.ref l0], [.ref l0, .int x1], h)) r68_4 rfl rfl (E_gI r68_5 rfl (fun x2 => E_i2_ge r68_8 rfl (E_ic r68_37 (v := (-1)) (by decide) (E_ri r68_38 (mq68))) (go (w := (12, [.ref l0], [.ref l0], h)) r68_11 rfl rfl (E_gI r68_12 rfl (fun x3 => E_sip r68_15 (v := 400) (by decide) (E_i2_ge r68_18 rfl (E_ic r68_37 (v := (-1)) (by decide) (E_ri r68_38 (mq68))) (go (w := (22, [.ref l0], [.ref l0], h)) r68_21 rfl rfl (E_gR r68_22 rfl (fun x4 => go (w := (26, [.ref l0], [.ref l0, .ref x4], h)) r68_25 rfl rfl (E_gI r68_26 rfl (fun x5 => E_aB r68_29 (fun x6 => E_sip r68_30 (v := 255) (by decide) (go (w := (34, [.ref l0], [.int (x6 &&& 255)], h)) r68_33 rfl rfl (E_gt r68_34 rfl (E_ri r68_38 (mq68))))))))))))))))))
-- 69 SecondNearest$Tape.skip()I
theorem mq69 : mRet 69 = (some .int) := by decide +kernel
theorem r69_0 : rowAt 69 0 = some (.aload_n 0, 1, 0, 0) := by decide +kernel
theorem r69_1 : rowAt 69 1 = some (.getfield 19, 3, 6, 2) := by decide +kernel
theorem r69_4 : rowAt 69 4 = some (.aload_n 0, 1, 0, 0) := by decide +kernel
theorem r69_5 : rowAt 69 5 = some (.getfield 15, 3, 6, 1) := by decide +kernel
theorem r69_8 : rowAt 69 8 = some (.if_icmp .ge 40, 3, 0, 0) := by decide +kernel
theorem r69_11 : rowAt 69 11 = some (.aload_n 0, 1, 0, 0) := by decide +kernel
theorem r69_12 : rowAt 69 12 = some (.getfield 19, 3, 6, 2) := by decide +kernel
theorem r69_15 : rowAt 69 15 = some (.sipush 400, 3, 0, 0) := by decide +kernel
theorem r69_18 : rowAt 69 18 = some (.if_icmp .ge 30, 3, 0, 0) := by decide +kernel
theorem r69_21 : rowAt 69 21 = some (.aload_n 0, 1, 0, 0) := by decide +kernel
theorem r69_22 : rowAt 69 22 = some (.getfield 11, 3, 6, 0) := by decide +kernel
theorem r69_25 : rowAt 69 25 = some (.aload_n 0, 1, 0, 0) := by decide +kernel
theorem r69_26 : rowAt 69 26 = some (.getfield 19, 3, 6, 2) := by decide +kernel
theorem r69_29 : rowAt 69 29 = some (.baload, 1, 0, 0) := by decide +kernel
theorem r69_30 : rowAt 69 30 = some (.bipush 32, 2, 0, 0) := by decide +kernel
theorem r69_32 : rowAt 69 32 = some (.if_icmp .ne 16, 3, 0, 0) := by decide +kernel
theorem r69_35 : rowAt 69 35 = some (.aload_n 0, 1, 0, 0) := by decide +kernel
theorem r69_36 : rowAt 69 36 = some (.dup, 1, 0, 0) := by decide +kernel
theorem r69_37 : rowAt 69 37 = some (.getfield 19, 3, 6, 2) := by decide +kernel
theorem r69_40 : rowAt 69 40 = some (.iconst 1, 1, 0, 0) := by decide +kernel
theorem r69_41 : rowAt 69 41 = some (.iadd, 1, 0, 0) := by decide +kernel
theorem r69_42 : rowAt 69 42 = some (.putfield 19, 3, 6, 2) := by decide +kernel
theorem r69_45 : rowAt 69 45 = some (.goto (-45), 3, 0, 0) := by decide +kernel
theorem r69_48 : rowAt 69 48 = some (.aload_n 0, 1, 0, 0) := by decide +kernel
theorem r69_49 : rowAt 69 49 = some (.getfield 19, 3, 6, 2) := by decide +kernel
theorem r69_52 : rowAt 69 52 = some (.ireturn, 1, 0, 0) := by decide +kernel
theorem en69 (a0 : Nat) : iniL 69 [.ref a0] = [.ref a0] := ini_n mi69 rfl
theorem b69_0 (d : Nat) (l0 : Nat) (h : aH) (K : Option Value → aH → Prop) : E scr false d 69 0 [.ref l0] [] h K = gI scr h l0 6 2 (fun x1 : Int32 => gI scr h l0 6 1 (fun x2 : Int32 => (if x2 ≤ x1 then gI scr h l0 6 2 (fun x3 : Int32 => K (some (.int x3)) h) else gI scr h l0 6 2 (fun x4 : Int32 => (if 400 ≤ x4 then gI scr h l0 6 2 (fun x5 : Int32 => K (some (.int x5)) h) else gR scr h l0 6 0 (fun x6 : Nat => gI scr h l0 6 2 (fun x7 : Int32 => aB scr h x6 x7 (fun x8 : Int32 => (if x8 = 32 then gI scr h l0 6 2 (fun x10 : Int32 => pF h l0 6 2 (.int (x10 + 1)) (fun h11 : aH => E scr false d 69 0 [.ref l0] [] h11 K)) else gI scr h l0 6 2 (fun x9 : Int32 => K (some (.int x9)) h)))))))))) := go (w := (1, [.ref l0], [.ref l0], h)) r69_0 rfl rfl (E_gI r69_1 rfl (fun x1 => go (w := (5, [.ref l0], [.ref l0, .int x1], h)) r69_4 rfl rfl (E_gI r69_5 rfl (fun x2 => E_i2_ge r69_8 rfl (go (w := (49, [.ref l0], [.ref l0], h)) r69_48 rfl rfl (E_gI r69_49 rfl (fun x3 => E_ri r69_52 (mq69)))) (go (w := (12, [.ref l0], [.ref l0], h)) r69_11 rfl rfl (E_gI r69_12 rfl (fun x4 => E_sip r69_15 (v := 400) (by decide) (E_i2_ge r69_18 rfl (go (w := (49, [.ref l0], [.ref l0], h)) r69_48 rfl rfl (E_gI r69_49 rfl (fun x5 => E_ri r69_52 (mq69)))) (go (w := (22, [.ref l0], [.ref l0], h)) r69_21 rfl rfl (E_gR r69_22 rfl (fun x6 => go (w := (26, [.ref l0], [.ref l0, .ref x6], h)) r69_25 rfl rfl (E_gI r69_26 rfl (fun x7 => E_aB r69_29 (fun x8 => E_bip r69_30 (v := 32) (by decide) (E_i2_ne r69_32 rfl (go (w := (49, [.ref l0], [.ref l0], h)) r69_48 rfl rfl (E_gI r69_49 rfl (fun x9 => E_ri r69_52 (mq69)))) (go (w := (36, [.ref l0], [.ref l0], h)) r69_35 rfl rfl (go (w := (37, [.ref l0], [.ref l0, .ref l0], h)) r69_36 rfl rfl (E_gI r69_37 rfl (fun x10 => E_ic r69_40 (v := 1) (by decide) (go (w := (42, [.ref l0], [.int (x10 + 1), .ref l0], h)) r69_41 rfl rfl (E_pI r69_42 ⟨rfl, rfl⟩ (fun h11 => E_gt r69_45 rfl (rfl)))))))))))))))))))))))
-- 70 SecondNearest$Tape.blame(II)Z
theorem mq70 : mRet 70 = (some .boolean) := by decide +kernel
theorem r70_0 : rowAt 70 0 = some (.aload_n 0, 1, 0, 0) := by decide +kernel
theorem r70_1 : rowAt 70 1 = some (.getfield 22, 3, 6, 3) := by decide +kernel
theorem r70_4 : rowAt 70 4 = some (.ifCond .ne 15, 3, 0, 0) := by decide +kernel
theorem r70_7 : rowAt 70 7 = some (.aload_n 0, 1, 0, 0) := by decide +kernel
theorem r70_8 : rowAt 70 8 = some (.iconst 1, 1, 0, 0) := by decide +kernel
theorem r70_9 : rowAt 70 9 = some (.bipush 8, 2, 0, 0) := by decide +kernel
theorem r70_11 : rowAt 70 11 = some (.iload_n 1, 1, 0, 0) := by decide +kernel
theorem r70_12 : rowAt 70 12 = some (.imul, 1, 0, 0) := by decide +kernel
theorem r70_13 : rowAt 70 13 = some (.iadd, 1, 0, 0) := by decide +kernel
theorem r70_14 : rowAt 70 14 = some (.iload_n 2, 1, 0, 0) := by decide +kernel
theorem r70_15 : rowAt 70 15 = some (.iadd, 1, 0, 0) := by decide +kernel
theorem r70_16 : rowAt 70 16 = some (.putfield 22, 3, 6, 3) := by decide +kernel
theorem r70_19 : rowAt 70 19 = some (.iconst 0, 1, 0, 0) := by decide +kernel
theorem r70_20 : rowAt 70 20 = some (.ireturn, 1, 0, 0) := by decide +kernel
theorem en70 (a0 : Nat) (a1 : Int32) (a2 : Int32) : iniL 70 [.ref a0, .int a1, .int a2] = [.ref a0, .int a1, .int a2] := ini_n mi70 rfl
theorem b70_0 (d : Nat) (l0 : Nat) (l1 : Int32) (l2 : Int32) (h : aH) (K : Option Value → aH → Prop) : E scr false d 70 0 [.ref l0, .int l1, .int l2] [] h K = gI scr h l0 6 3 (fun x1 : Int32 => (if x1 = 0 then pF h l0 6 3 (.int ((1 + (8 * l1)) + l2)) (fun h2 : aH => K (some (.int 0)) h2) else K (some (.int 0)) h)) := go (w := (1, [.ref l0, .int l1, .int l2], [.ref l0], h)) r70_0 rfl rfl (E_gI r70_1 rfl (fun x1 => E_i1_ne r70_4 rfl (E_ic r70_19 (v := 0) (by decide) (E_rz r70_20 (mq70) (by decide))) (go (w := (8, [.ref l0, .int l1, .int l2], [.ref l0], h)) r70_7 rfl rfl (E_ic r70_8 (v := 1) (by decide) (E_bip r70_9 (v := 8) (by decide) (go (w := (12, [.ref l0, .int l1, .int l2], [.int l1, .int 8, .int 1, .ref l0], h)) r70_11 rfl rfl (go (w := (13, [.ref l0, .int l1, .int l2], [.int (8 * l1), .int 1, .ref l0], h)) r70_12 rfl rfl (go (w := (14, [.ref l0, .int l1, .int l2], [.int (1 + (8 * l1)), .ref l0], h)) r70_13 rfl rfl (go (w := (15, [.ref l0, .int l1, .int l2], [.int l2, .int (1 + (8 * l1)), .ref l0], h)) r70_14 rfl rfl (go (w := (16, [.ref l0, .int l1, .int l2], [.int ((1 + (8 * l1)) + l2), .ref l0], h)) r70_15 rfl rfl (E_pI r70_16 ⟨rfl, rfl⟩ (fun h2 => E_ic r70_19 (v := 0) (by decide) (E_rz r70_20 (mq70) (by decide))))))))))))))
-- 71 SecondNearest$Tape.take(C)Z
theorem mq71 : mRet 71 = (some .boolean) := by decide +kernel
theorem r71_0 : rowAt 71 0 = some (.aload_n 0, 1, 0, 0) := by decide +kernel
theorem r71_1 : rowAt 71 1 = some (.invokevirtual 25, 3, 69, 0) := by decide +kernel
theorem r71_4 : rowAt 71 4 = some (.pop, 1, 0, 0) := by decide +kernel
theorem r71_5 : rowAt 71 5 = some (.aload_n 0, 1, 0, 0) := by decide +kernel
theorem r71_6 : rowAt 71 6 = some (.invokevirtual 29, 3, 68, 0) := by decide +kernel
theorem r71_9 : rowAt 71 9 = some (.iload_n 1, 1, 0, 0) := by decide +kernel
theorem r71_10 : rowAt 71 10 = some (.if_icmp .eq 5, 3, 0, 0) := by decide +kernel
theorem r71_13 : rowAt 71 13 = some (.iconst 0, 1, 0, 0) := by decide +kernel
theorem r71_14 : rowAt 71 14 = some (.ireturn, 1, 0, 0) := by decide +kernel
theorem r71_15 : rowAt 71 15 = some (.aload_n 0, 1, 0, 0) := by decide +kernel
theorem r71_16 : rowAt 71 16 = some (.dup, 1, 0, 0) := by decide +kernel
theorem r71_17 : rowAt 71 17 = some (.getfield 19, 3, 6, 2) := by decide +kernel
theorem r71_20 : rowAt 71 20 = some (.iconst 1, 1, 0, 0) := by decide +kernel
theorem r71_21 : rowAt 71 21 = some (.iadd, 1, 0, 0) := by decide +kernel
theorem r71_22 : rowAt 71 22 = some (.putfield 19, 3, 6, 2) := by decide +kernel
theorem r71_25 : rowAt 71 25 = some (.iconst 1, 1, 0, 0) := by decide +kernel
theorem r71_26 : rowAt 71 26 = some (.ireturn, 1, 0, 0) := by decide +kernel
theorem en71 (a0 : Nat) (a1 : Int32) : iniL 71 [.ref a0, .int a1] = [.ref a0, .int a1] := ini_n mi71 rfl
theorem b71_0 (d : Nat) (l0 : Nat) (l1 : Int32) (h : aH) (K : Option Value → aH → Prop) : E scr false (d + 1) 71 0 [.ref l0, .int l1] [] h K = vI scr d 69 [.ref l0] h (fun (x2 : Int32) (h1 : aH) => vI scr d 68 [.ref l0] h1 (fun (x4 : Int32) (h3 : aH) => (if x4 = l1 then gI scr h3 l0 6 2 (fun x5 : Int32 => pF h3 l0 6 2 (.int (x5 + 1)) (fun h6 : aH => K (some (.int 1)) h6)) else K (some (.int 0)) h3))) := go (w := (1, [.ref l0, .int l1], [.ref l0], h)) r71_0 rfl rfl (E_vI r71_1 (As := [.ref l0]) (rest := []) (cut_n mi69.1 rfl rfl) (rm8_n mi69.2.1 (Nat.le_of_ble_eq_true rfl) (Nat.le_of_ble_eq_true rfl)) mi69.2.2 (fun x2 h1 => go (w := (5, [.ref l0, .int l1], [], h1)) r71_4 rfl rfl (go (w := (6, [.ref l0, .int l1], [.ref l0], h1)) r71_5 rfl rfl (E_vI r71_6 (As := [.ref l0]) (rest := []) (cut_n mi68.1 rfl rfl) (rm8_n mi68.2.1 (Nat.le_of_ble_eq_true rfl) (Nat.le_of_ble_eq_true rfl)) mi68.2.2 (fun x4 h3 => go (w := (10, [.ref l0, .int l1], [.int l1, .int x4], h3)) r71_9 rfl rfl (E_i2_eq r71_10 rfl (go (w := (16, [.ref l0, .int l1], [.ref l0], h3)) r71_15 rfl rfl (go (w := (17, [.ref l0, .int l1], [.ref l0, .ref l0], h3)) r71_16 rfl rfl (E_gI r71_17 rfl (fun x5 => E_ic r71_20 (v := 1) (by decide) (go (w := (22, [.ref l0, .int l1], [.int (x5 + 1), .ref l0], h3)) r71_21 rfl rfl (E_pI r71_22 ⟨rfl, rfl⟩ (fun h6 => E_ic r71_25 (v := 1) (by decide) (E_rz r71_26 (mq71) (by decide))))))))) (E_ic r71_13 (v := 0) (by decide) (E_rz r71_14 (mq71) (by decide)))))))))
-- 72 SecondNearest$Tape.takeWord(Ljava/lang/String;)I
theorem mq72 : mRet 72 = (some .int) := by decide +kernel
theorem r72_0 : rowAt 72 0 = some (.aload_n 0, 1, 0, 0) := by decide +kernel
theorem r72_1 : rowAt 72 1 = some (.invokevirtual 25, 3, 69, 0) := by decide +kernel
theorem r72_4 : rowAt 72 4 = some (.istore_n 2, 1, 0, 0) := by decide +kernel
theorem r72_5 : rowAt 72 5 = some (.iload_n 2, 1, 0, 0) := by decide +kernel
theorem r72_6 : rowAt 72 6 = some (.istore_n 3, 1, 0, 0) := by decide +kernel
theorem r72_7 : rowAt 72 7 = some (.iload_n 3, 1, 0, 0) := by decide +kernel
theorem r72_8 : rowAt 72 8 = some (.aload_n 0, 1, 0, 0) := by decide +kernel
theorem r72_9 : rowAt 72 9 = some (.getfield 15, 3, 6, 1) := by decide +kernel
theorem r72_12 : rowAt 72 12 = some (.if_icmp .ge 38, 3, 0, 0) := by decide +kernel
theorem r72_15 : rowAt 72 15 = some (.iload_n 3, 1, 0, 0) := by decide +kernel
theorem r72_16 : rowAt 72 16 = some (.sipush 400, 3, 0, 0) := by decide +kernel
theorem r72_19 : rowAt 72 19 = some (.if_icmp .ge 31, 3, 0, 0) := by decide +kernel
theorem r72_22 : rowAt 72 22 = some (.aload_n 0, 1, 0, 0) := by decide +kernel
theorem r72_23 : rowAt 72 23 = some (.getfield 11, 3, 6, 0) := by decide +kernel
theorem r72_26 : rowAt 72 26 = some (.iload_n 3, 1, 0, 0) := by decide +kernel
theorem r72_27 : rowAt 72 27 = some (.baload, 1, 0, 0) := by decide +kernel
theorem r72_28 : rowAt 72 28 = some (.bipush 97, 2, 0, 0) := by decide +kernel
theorem r72_30 : rowAt 72 30 = some (.if_icmp .lt 20, 3, 0, 0) := by decide +kernel
theorem r72_33 : rowAt 72 33 = some (.aload_n 0, 1, 0, 0) := by decide +kernel
theorem r72_34 : rowAt 72 34 = some (.getfield 11, 3, 6, 0) := by decide +kernel
theorem r72_37 : rowAt 72 37 = some (.iload_n 3, 1, 0, 0) := by decide +kernel
theorem r72_38 : rowAt 72 38 = some (.baload, 1, 0, 0) := by decide +kernel
theorem r72_39 : rowAt 72 39 = some (.bipush 122, 2, 0, 0) := by decide +kernel
theorem r72_41 : rowAt 72 41 = some (.if_icmp .gt 9, 3, 0, 0) := by decide +kernel
theorem r72_44 : rowAt 72 44 = some (.iinc 3 1, 3, 0, 0) := by decide +kernel
theorem r72_47 : rowAt 72 47 = some (.goto (-40), 3, 0, 0) := by decide +kernel
theorem r72_50 : rowAt 72 50 = some (.iconst 0, 1, 0, 0) := by decide +kernel
theorem r72_51 : rowAt 72 51 = some (.istore 4, 2, 0, 0) := by decide +kernel
theorem r72_53 : rowAt 72 53 = some (.iload_n 2, 1, 0, 0) := by decide +kernel
theorem r72_54 : rowAt 72 54 = some (.istore 5, 2, 0, 0) := by decide +kernel
theorem r72_56 : rowAt 72 56 = some (.iconst 1, 1, 0, 0) := by decide +kernel
theorem r72_57 : rowAt 72 57 = some (.istore 6, 2, 0, 0) := by decide +kernel
theorem r72_59 : rowAt 72 59 = some (.iconst 0, 1, 0, 0) := by decide +kernel
theorem r72_60 : rowAt 72 60 = some (.istore 7, 2, 0, 0) := by decide +kernel
theorem r72_62 : rowAt 72 62 = some (.iload 7, 2, 0, 0) := by decide +kernel
theorem r72_64 : rowAt 72 64 = some (.aload_n 1, 1, 0, 0) := by decide +kernel
theorem r72_65 : rowAt 72 65 = some (.invokevirtual 32, 3, 227, 0) := by decide +kernel
theorem r72_68 : rowAt 72 68 = some (.if_icmp .gt 97, 3, 0, 0) := by decide +kernel
theorem r72_71 : rowAt 72 71 = some (.iload 7, 2, 0, 0) := by decide +kernel
theorem r72_73 : rowAt 72 73 = some (.aload_n 1, 1, 0, 0) := by decide +kernel
theorem r72_74 : rowAt 72 74 = some (.invokevirtual 32, 3, 227, 0) := by decide +kernel
theorem r72_77 : rowAt 72 77 = some (.if_icmp .ge 54, 3, 0, 0) := by decide +kernel
theorem r72_80 : rowAt 72 80 = some (.aload_n 1, 1, 0, 0) := by decide +kernel
theorem r72_81 : rowAt 72 81 = some (.iload 7, 2, 0, 0) := by decide +kernel
theorem r72_83 : rowAt 72 83 = some (.invokevirtual 36, 3, 228, 0) := by decide +kernel
theorem r72_86 : rowAt 72 86 = some (.bipush 32, 2, 0, 0) := by decide +kernel
theorem r72_88 : rowAt 72 88 = some (.if_icmp .eq 43, 3, 0, 0) := by decide +kernel
theorem r72_91 : rowAt 72 91 = some (.iload 6, 2, 0, 0) := by decide +kernel
theorem r72_93 : rowAt 72 93 = some (.ifCond .eq 29, 3, 0, 0) := by decide +kernel
theorem r72_96 : rowAt 72 96 = some (.iload 5, 2, 0, 0) := by decide +kernel
theorem r72_98 : rowAt 72 98 = some (.iload_n 3, 1, 0, 0) := by decide +kernel
theorem r72_99 : rowAt 72 99 = some (.if_icmp .ge 23, 3, 0, 0) := by decide +kernel
theorem r72_102 : rowAt 72 102 = some (.aload_n 0, 1, 0, 0) := by decide +kernel
theorem r72_103 : rowAt 72 103 = some (.getfield 11, 3, 6, 0) := by decide +kernel
theorem r72_106 : rowAt 72 106 = some (.iload 5, 2, 0, 0) := by decide +kernel
theorem r72_108 : rowAt 72 108 = some (.baload, 1, 0, 0) := by decide +kernel
theorem r72_109 : rowAt 72 109 = some (.aload_n 1, 1, 0, 0) := by decide +kernel
theorem r72_110 : rowAt 72 110 = some (.iload 7, 2, 0, 0) := by decide +kernel
theorem r72_112 : rowAt 72 112 = some (.invokevirtual 36, 3, 228, 0) := by decide +kernel
theorem r72_115 : rowAt 72 115 = some (.if_icmp .ne 7, 3, 0, 0) := by decide +kernel
theorem r72_118 : rowAt 72 118 = some (.iconst 1, 1, 0, 0) := by decide +kernel
theorem r72_119 : rowAt 72 119 = some (.goto 4, 3, 0, 0) := by decide +kernel
theorem r72_122 : rowAt 72 122 = some (.iconst 0, 1, 0, 0) := by decide +kernel
theorem r72_123 : rowAt 72 123 = some (.istore 6, 2, 0, 0) := by decide +kernel
theorem r72_125 : rowAt 72 125 = some (.iinc 5 1, 3, 0, 0) := by decide +kernel
theorem r72_128 : rowAt 72 128 = some (.goto 31, 3, 0, 0) := by decide +kernel
theorem r72_131 : rowAt 72 131 = some (.iload 6, 2, 0, 0) := by decide +kernel
theorem r72_133 : rowAt 72 133 = some (.ifCond .eq 17, 3, 0, 0) := by decide +kernel
theorem r72_136 : rowAt 72 136 = some (.iload 5, 2, 0, 0) := by decide +kernel
theorem r72_138 : rowAt 72 138 = some (.iload_n 3, 1, 0, 0) := by decide +kernel
theorem r72_139 : rowAt 72 139 = some (.if_icmp .ne 11, 3, 0, 0) := by decide +kernel
theorem r72_142 : rowAt 72 142 = some (.aload_n 0, 1, 0, 0) := by decide +kernel
theorem r72_143 : rowAt 72 143 = some (.iload_n 3, 1, 0, 0) := by decide +kernel
theorem r72_144 : rowAt 72 144 = some (.putfield 19, 3, 6, 2) := by decide +kernel
theorem r72_147 : rowAt 72 147 = some (.iload 4, 2, 0, 0) := by decide +kernel
theorem r72_149 : rowAt 72 149 = some (.ireturn, 1, 0, 0) := by decide +kernel
theorem r72_150 : rowAt 72 150 = some (.iinc 4 1, 3, 0, 0) := by decide +kernel
theorem r72_153 : rowAt 72 153 = some (.iload_n 2, 1, 0, 0) := by decide +kernel
theorem r72_154 : rowAt 72 154 = some (.istore 5, 2, 0, 0) := by decide +kernel
theorem r72_156 : rowAt 72 156 = some (.iconst 1, 1, 0, 0) := by decide +kernel
theorem r72_157 : rowAt 72 157 = some (.istore 6, 2, 0, 0) := by decide +kernel
theorem r72_159 : rowAt 72 159 = some (.iinc 7 1, 3, 0, 0) := by decide +kernel
theorem r72_162 : rowAt 72 162 = some (.goto (-100), 3, 0, 0) := by decide +kernel
theorem r72_165 : rowAt 72 165 = some (.iconst (-1), 1, 0, 0) := by decide +kernel
theorem r72_166 : rowAt 72 166 = some (.ireturn, 1, 0, 0) := by decide +kernel
theorem en72 (a0 : Nat) (a1 : Nat) : iniL 72 [.ref a0, .ref a1] = [.ref a0, .ref a1, .null, .null, .null, .null, .null, .null] := ini_n mi72 rfl
theorem b72_0 (d : Nat) (l0 : Nat) (l1 : Nat) (h : aH) (K : Option Value → aH → Prop) : E scr false (d + 1) 72 0 [.ref l0, .ref l1, .null, .null, .null, .null, .null, .null] [] h K = vI scr d 69 [.ref l0] h (fun (x2 : Int32) (h1 : aH) => E scr false (d + 1) 72 7 [.ref l0, .ref l1, .int x2, .int x2, .null, .null, .null, .null] [] h1 K) := go (w := (1, [.ref l0, .ref l1, .null, .null, .null, .null, .null, .null], [.ref l0], h)) r72_0 rfl rfl (E_vI r72_1 (As := [.ref l0]) (rest := []) (cut_n mi69.1 rfl rfl) (rm8_n mi69.2.1 (Nat.le_of_ble_eq_true rfl) (Nat.le_of_ble_eq_true rfl)) mi69.2.2 (fun x2 h1 => go (w := (5, [.ref l0, .ref l1, .int x2, .null, .null, .null, .null, .null], [], h1)) r72_4 rfl rfl (go (w := (6, [.ref l0, .ref l1, .int x2, .null, .null, .null, .null, .null], [.int x2], h1)) r72_5 rfl rfl (go (w := (7, [.ref l0, .ref l1, .int x2, .int x2, .null, .null, .null, .null], [], h1)) r72_6 rfl rfl (rfl)))))
theorem b72_7 (d : Nat) (l0 : Nat) (l1 : Nat) (l2 : Int32) (l3 : Int32) (h : aH) (K : Option Value → aH → Prop) : E scr false d 72 7 [.ref l0, .ref l1, .int l2, .int l3, .null, .null, .null, .null] [] h K = gI scr h l0 6 1 (fun x1 : Int32 => (if x1 ≤ l3 then E scr false d 72 50 [.ref l0, .ref l1, .int l2, .int l3, .null, .null, .null, .null] [] h K else (if 400 ≤ l3 then E scr false d 72 50 [.ref l0, .ref l1, .int l2, .int l3, .null, .null, .null, .null] [] h K else gR scr h l0 6 0 (fun x2 : Nat => aB scr h x2 l3 (fun x3 : Int32 => (if x3 < 97 then E scr false d 72 50 [.ref l0, .ref l1, .int l2, .int l3, .null, .null, .null, .null] [] h K else gR scr h l0 6 0 (fun x4 : Nat => aB scr h x4 l3 (fun x5 : Int32 => (if 122 < x5 then E scr false d 72 50 [.ref l0, .ref l1, .int l2, .int l3, .null, .null, .null, .null] [] h K else E scr false d 72 7 [.ref l0, .ref l1, .int l2, .int (l3 + 1), .null, .null, .null, .null] [] h K))))))))) := go (w := (8, [.ref l0, .ref l1, .int l2, .int l3, .null, .null, .null, .null], [.int l3], h)) r72_7 rfl rfl (go (w := (9, [.ref l0, .ref l1, .int l2, .int l3, .null, .null, .null, .null], [.ref l0, .int l3], h)) r72_8 rfl rfl (E_gI r72_9 rfl (fun x1 => E_i2_ge r72_12 rfl (rfl) (go (w := (16, [.ref l0, .ref l1, .int l2, .int l3, .null, .null, .null, .null], [.int l3], h)) r72_15 rfl rfl (E_sip r72_16 (v := 400) (by decide) (E_i2_ge r72_19 rfl (rfl) (go (w := (23, [.ref l0, .ref l1, .int l2, .int l3, .null, .null, .null, .null], [.ref l0], h)) r72_22 rfl rfl (E_gR r72_23 rfl (fun x2 => go (w := (27, [.ref l0, .ref l1, .int l2, .int l3, .null, .null, .null, .null], [.int l3, .ref x2], h)) r72_26 rfl rfl (E_aB r72_27 (fun x3 => E_bip r72_28 (v := 97) (by decide) (E_i2_lt r72_30 rfl (rfl) (go (w := (34, [.ref l0, .ref l1, .int l2, .int l3, .null, .null, .null, .null], [.ref l0], h)) r72_33 rfl rfl (E_gR r72_34 rfl (fun x4 => go (w := (38, [.ref l0, .ref l1, .int l2, .int l3, .null, .null, .null, .null], [.int l3, .ref x4], h)) r72_37 rfl rfl (E_aB r72_38 (fun x5 => E_bip r72_39 (v := 122) (by decide) (E_i2_gt r72_41 rfl (rfl) (E_inc r72_44 (c := 1) rfl (by decide) (L' := [.ref l0, .ref l1, .int l2, .int (l3 + 1), .null, .null, .null, .null]) rfl (E_gt r72_47 rfl (rfl)))))))))))))))))))))
theorem b72_50 (d : Nat) (l0 : Nat) (l1 : Nat) (l2 : Int32) (l3 : Int32) (h : aH) (K : Option Value → aH → Prop) : E scr false d 72 50 [.ref l0, .ref l1, .int l2, .int l3, .null, .null, .null, .null] [] h K = E scr false d 72 62 [.ref l0, .ref l1, .int l2, .int l3, .int 0, .int l2, .int 1, .int 0] [] h K := E_ic r72_50 (v := 0) (by decide) (go (w := (53, [.ref l0, .ref l1, .int l2, .int l3, .int 0, .null, .null, .null], [], h)) r72_51 rfl rfl (go (w := (54, [.ref l0, .ref l1, .int l2, .int l3, .int 0, .null, .null, .null], [.int l2], h)) r72_53 rfl rfl (go (w := (56, [.ref l0, .ref l1, .int l2, .int l3, .int 0, .int l2, .null, .null], [], h)) r72_54 rfl rfl (E_ic r72_56 (v := 1) (by decide) (go (w := (59, [.ref l0, .ref l1, .int l2, .int l3, .int 0, .int l2, .int 1, .null], [], h)) r72_57 rfl rfl (E_ic r72_59 (v := 0) (by decide) (go (w := (62, [.ref l0, .ref l1, .int l2, .int l3, .int 0, .int l2, .int 1, .int 0], [], h)) r72_60 rfl rfl (rfl))))))))
theorem b72_62 (d : Nat) (l0 : Nat) (l1 : Nat) (l2 : Int32) (l3 : Int32) (l4 : Int32) (l5 : Int32) (l6 : Int32) (l7 : Int32) (h : aH) (K : Option Value → aH → Prop) : E scr false (d + 1) 72 62 [.ref l0, .ref l1, .int l2, .int l3, .int l4, .int l5, .int l6, .int l7] [] h K = vI scr d 227 [.ref l1] h (fun (x2 : Int32) (h1 : aH) => (if x2 < l7 then K (some (.int (-1))) h1 else vI scr d 227 [.ref l1] h1 (fun (x4 : Int32) (h3 : aH) => (if x4 ≤ l7 then E scr false (d + 1) 72 131 [.ref l0, .ref l1, .int l2, .int l3, .int l4, .int l5, .int l6, .int l7] [] h3 K else vI scr d 228 [.ref l1, .int l7] h3 (fun (x6 : Int32) (h5 : aH) => (if x6 = 32 then E scr false (d + 1) 72 131 [.ref l0, .ref l1, .int l2, .int l3, .int l4, .int l5, .int l6, .int l7] [] h5 K else (if l6 = 0 then E scr false (d + 1) 72 122 [.ref l0, .ref l1, .int l2, .int l3, .int l4, .int l5, .int l6, .int l7] [] h5 K else (if l3 ≤ l5 then E scr false (d + 1) 72 122 [.ref l0, .ref l1, .int l2, .int l3, .int l4, .int l5, .int l6, .int l7] [] h5 K else gR scr h5 l0 6 0 (fun x7 : Nat => aB scr h5 x7 l5 (fun x8 : Int32 => vI scr d 228 [.ref l1, .int l7] h5 (fun (x10 : Int32) (h9 : aH) => (if x8 = x10 then E scr false (d + 1) 72 123 [.ref l0, .ref l1, .int l2, .int l3, .int l4, .int l5, .int l6, .int l7] [.int 1] h9 K else E scr false (d + 1) 72 122 [.ref l0, .ref l1, .int l2, .int l3, .int l4, .int l5, .int l6, .int l7] [] h9 K)))))))))))) := go (w := (64, [.ref l0, .ref l1, .int l2, .int l3, .int l4, .int l5, .int l6, .int l7], [.int l7], h)) r72_62 rfl rfl (go (w := (65, [.ref l0, .ref l1, .int l2, .int l3, .int l4, .int l5, .int l6, .int l7], [.ref l1, .int l7], h)) r72_64 rfl rfl (E_vI r72_65 (As := [.ref l1]) (rest := [.int l7]) (cut_n mi227.1 rfl rfl) (rm8_n mi227.2.1 (Nat.le_of_ble_eq_true rfl) (Nat.le_of_ble_eq_true rfl)) mi227.2.2 (fun x2 h1 => E_i2_gt r72_68 rfl (E_ic r72_165 (v := (-1)) (by decide) (E_ri r72_166 (mq72))) (go (w := (73, [.ref l0, .ref l1, .int l2, .int l3, .int l4, .int l5, .int l6, .int l7], [.int l7], h1)) r72_71 rfl rfl (go (w := (74, [.ref l0, .ref l1, .int l2, .int l3, .int l4, .int l5, .int l6, .int l7], [.ref l1, .int l7], h1)) r72_73 rfl rfl (E_vI r72_74 (As := [.ref l1]) (rest := [.int l7]) (cut_n mi227.1 rfl rfl) (rm8_n mi227.2.1 (Nat.le_of_ble_eq_true rfl) (Nat.le_of_ble_eq_true rfl)) mi227.2.2 (fun x4 h3 => E_i2_ge r72_77 rfl (rfl) (go (w := (81, [.ref l0, .ref l1, .int l2, .int l3, .int l4, .int l5, .int l6, .int l7], [.ref l1], h3)) r72_80 rfl rfl (go (w := (83, [.ref l0, .ref l1, .int l2, .int l3, .int l4, .int l5, .int l6, .int l7], [.int l7, .ref l1], h3)) r72_81 rfl rfl (E_vI r72_83 (As := [.ref l1, .int l7]) (rest := []) (cut_n mi228.1 rfl rfl) (rm8_n mi228.2.1 (Nat.le_of_ble_eq_true rfl) (Nat.le_of_ble_eq_true rfl)) mi228.2.2 (fun x6 h5 => E_bip r72_86 (v := 32) (by decide) (E_i2_eq r72_88 rfl (rfl) (go (w := (93, [.ref l0, .ref l1, .int l2, .int l3, .int l4, .int l5, .int l6, .int l7], [.int l6], h5)) r72_91 rfl rfl (E_i1_eq r72_93 rfl (rfl) (go (w := (98, [.ref l0, .ref l1, .int l2, .int l3, .int l4, .int l5, .int l6, .int l7], [.int l5], h5)) r72_96 rfl rfl (go (w := (99, [.ref l0, .ref l1, .int l2, .int l3, .int l4, .int l5, .int l6, .int l7], [.int l3, .int l5], h5)) r72_98 rfl rfl (E_i2_ge r72_99 rfl (rfl) (go (w := (103, [.ref l0, .ref l1, .int l2, .int l3, .int l4, .int l5, .int l6, .int l7], [.ref l0], h5)) r72_102 rfl rfl (E_gR r72_103 rfl (fun x7 => go (w := (108, [.ref l0, .ref l1, .int l2, .int l3, .int l4, .int l5, .int l6, .int l7], [.int l5, .ref x7], h5)) r72_106 rfl rfl (E_aB r72_108 (fun x8 => go (w := (110, [.ref l0, .ref l1, .int l2, .int l3, .int l4, .int l5, .int l6, .int l7], [.ref l1, .int x8], h5)) r72_109 rfl rfl (go (w := (112, [.ref l0, .ref l1, .int l2, .int l3, .int l4, .int l5, .int l6, .int l7], [.int l7, .ref l1, .int x8], h5)) r72_110 rfl rfl (E_vI r72_112 (As := [.ref l1, .int l7]) (rest := [.int x8]) (cut_n mi228.1 rfl rfl) (rm8_n mi228.2.1 (Nat.le_of_ble_eq_true rfl) (Nat.le_of_ble_eq_true rfl)) mi228.2.2 (fun x10 h9 => E_i2_ne r72_115 rfl (rfl) (E_ic r72_118 (v := 1) (by decide) (E_gt r72_119 rfl (rfl))))))))))))))))))))))))))))
theorem b72_122 (d : Nat) (l0 : Nat) (l1 : Nat) (l2 : Int32) (l3 : Int32) (l4 : Int32) (l5 : Int32) (l6 : Int32) (l7 : Int32) (h : aH) (K : Option Value → aH → Prop) : E scr false d 72 122 [.ref l0, .ref l1, .int l2, .int l3, .int l4, .int l5, .int l6, .int l7] [] h K = E scr false d 72 123 [.ref l0, .ref l1, .int l2, .int l3, .int l4, .int l5, .int l6, .int l7] [.int 0] h K := E_ic r72_122 (v := 0) (by decide) (rfl)
theorem b72_123 (d : Nat) (l0 : Nat) (l1 : Nat) (l2 : Int32) (l3 : Int32) (l4 : Int32) (l5 : Int32) (l6 : Int32) (l7 : Int32) (s0 : Int32) (h : aH) (K : Option Value → aH → Prop) : E scr false d 72 123 [.ref l0, .ref l1, .int l2, .int l3, .int l4, .int l5, .int l6, .int l7] [.int s0] h K = E scr false d 72 159 [.ref l0, .ref l1, .int l2, .int l3, .int l4, .int (l5 + 1), .int s0, .int l7] [] h K := go (w := (125, [.ref l0, .ref l1, .int l2, .int l3, .int l4, .int l5, .int s0, .int l7], [], h)) r72_123 rfl rfl (E_inc r72_125 (c := 1) rfl (by decide) (L' := [.ref l0, .ref l1, .int l2, .int l3, .int l4, .int (l5 + 1), .int s0, .int l7]) rfl (E_gt r72_128 rfl (rfl)))
theorem b72_131 (d : Nat) (l0 : Nat) (l1 : Nat) (l2 : Int32) (l3 : Int32) (l4 : Int32) (l5 : Int32) (l6 : Int32) (l7 : Int32) (h : aH) (K : Option Value → aH → Prop) : E scr false d 72 131 [.ref l0, .ref l1, .int l2, .int l3, .int l4, .int l5, .int l6, .int l7] [] h K = (if l6 = 0 then E scr false d 72 150 [.ref l0, .ref l1, .int l2, .int l3, .int l4, .int l5, .int l6, .int l7] [] h K else (if l5 = l3 then pF h l0 6 2 (.int l3) (fun h1 : aH => K (some (.int l4)) h1) else E scr false d 72 150 [.ref l0, .ref l1, .int l2, .int l3, .int l4, .int l5, .int l6, .int l7] [] h K)) := go (w := (133, [.ref l0, .ref l1, .int l2, .int l3, .int l4, .int l5, .int l6, .int l7], [.int l6], h)) r72_131 rfl rfl (E_i1_eq r72_133 rfl (rfl) (go (w := (138, [.ref l0, .ref l1, .int l2, .int l3, .int l4, .int l5, .int l6, .int l7], [.int l5], h)) r72_136 rfl rfl (go (w := (139, [.ref l0, .ref l1, .int l2, .int l3, .int l4, .int l5, .int l6, .int l7], [.int l3, .int l5], h)) r72_138 rfl rfl (E_i2_ne r72_139 rfl (rfl) (go (w := (143, [.ref l0, .ref l1, .int l2, .int l3, .int l4, .int l5, .int l6, .int l7], [.ref l0], h)) r72_142 rfl rfl (go (w := (144, [.ref l0, .ref l1, .int l2, .int l3, .int l4, .int l5, .int l6, .int l7], [.int l3, .ref l0], h)) r72_143 rfl rfl (E_pI r72_144 ⟨rfl, rfl⟩ (fun h1 => go (w := (149, [.ref l0, .ref l1, .int l2, .int l3, .int l4, .int l5, .int l6, .int l7], [.int l4], h1)) r72_147 rfl rfl (E_ri r72_149 (mq72))))))))))
theorem b72_150 (d : Nat) (l0 : Nat) (l1 : Nat) (l2 : Int32) (l3 : Int32) (l4 : Int32) (l5 : Int32) (l6 : Int32) (l7 : Int32) (h : aH) (K : Option Value → aH → Prop) : E scr false d 72 150 [.ref l0, .ref l1, .int l2, .int l3, .int l4, .int l5, .int l6, .int l7] [] h K = E scr false d 72 159 [.ref l0, .ref l1, .int l2, .int l3, .int (l4 + 1), .int l2, .int 1, .int l7] [] h K := E_inc r72_150 (c := 1) rfl (by decide) (L' := [.ref l0, .ref l1, .int l2, .int l3, .int (l4 + 1), .int l5, .int l6, .int l7]) rfl (go (w := (154, [.ref l0, .ref l1, .int l2, .int l3, .int (l4 + 1), .int l5, .int l6, .int l7], [.int l2], h)) r72_153 rfl rfl (go (w := (156, [.ref l0, .ref l1, .int l2, .int l3, .int (l4 + 1), .int l2, .int l6, .int l7], [], h)) r72_154 rfl rfl (E_ic r72_156 (v := 1) (by decide) (go (w := (159, [.ref l0, .ref l1, .int l2, .int l3, .int (l4 + 1), .int l2, .int 1, .int l7], [], h)) r72_157 rfl rfl (rfl)))))
theorem b72_159 (d : Nat) (l0 : Nat) (l1 : Nat) (l2 : Int32) (l3 : Int32) (l4 : Int32) (l5 : Int32) (l6 : Int32) (l7 : Int32) (h : aH) (K : Option Value → aH → Prop) : E scr false d 72 159 [.ref l0, .ref l1, .int l2, .int l3, .int l4, .int l5, .int l6, .int l7] [] h K = E scr false d 72 62 [.ref l0, .ref l1, .int l2, .int l3, .int l4, .int l5, .int l6, .int (l7 + 1)] [] h K := E_inc r72_159 (c := 1) rfl (by decide) (L' := [.ref l0, .ref l1, .int l2, .int l3, .int l4, .int l5, .int l6, .int (l7 + 1)]) rfl (E_gt r72_162 rfl (rfl))
-- 73 SecondNearest$Tape.onDigit()Z
theorem mq73 : mRet 73 = (some .boolean) := by decide +kernel
theorem r73_0 : rowAt 73 0 = some (.aload_n 0, 1, 0, 0) := by decide +kernel
theorem r73_1 : rowAt 73 1 = some (.getfield 19, 3, 6, 2) := by decide +kernel
theorem r73_4 : rowAt 73 4 = some (.aload_n 0, 1, 0, 0) := by decide +kernel
theorem r73_5 : rowAt 73 5 = some (.getfield 15, 3, 6, 1) := by decide +kernel
theorem r73_8 : rowAt 73 8 = some (.if_icmp .ge 45, 3, 0, 0) := by decide +kernel
theorem r73_11 : rowAt 73 11 = some (.aload_n 0, 1, 0, 0) := by decide +kernel
theorem r73_12 : rowAt 73 12 = some (.getfield 19, 3, 6, 2) := by decide +kernel
theorem r73_15 : rowAt 73 15 = some (.sipush 400, 3, 0, 0) := by decide +kernel
theorem r73_18 : rowAt 73 18 = some (.if_icmp .ge 35, 3, 0, 0) := by decide +kernel
theorem r73_21 : rowAt 73 21 = some (.aload_n 0, 1, 0, 0) := by decide +kernel
theorem r73_22 : rowAt 73 22 = some (.getfield 11, 3, 6, 0) := by decide +kernel
theorem r73_25 : rowAt 73 25 = some (.aload_n 0, 1, 0, 0) := by decide +kernel
theorem r73_26 : rowAt 73 26 = some (.getfield 19, 3, 6, 2) := by decide +kernel
theorem r73_29 : rowAt 73 29 = some (.baload, 1, 0, 0) := by decide +kernel
theorem r73_30 : rowAt 73 30 = some (.bipush 48, 2, 0, 0) := by decide +kernel
theorem r73_32 : rowAt 73 32 = some (.if_icmp .lt 21, 3, 0, 0) := by decide +kernel
theorem r73_35 : rowAt 73 35 = some (.aload_n 0, 1, 0, 0) := by decide +kernel
theorem r73_36 : rowAt 73 36 = some (.getfield 11, 3, 6, 0) := by decide +kernel
theorem r73_39 : rowAt 73 39 = some (.aload_n 0, 1, 0, 0) := by decide +kernel
theorem r73_40 : rowAt 73 40 = some (.getfield 19, 3, 6, 2) := by decide +kernel
theorem r73_43 : rowAt 73 43 = some (.baload, 1, 0, 0) := by decide +kernel
theorem r73_44 : rowAt 73 44 = some (.bipush 57, 2, 0, 0) := by decide +kernel
theorem r73_46 : rowAt 73 46 = some (.if_icmp .gt 7, 3, 0, 0) := by decide +kernel
theorem r73_49 : rowAt 73 49 = some (.iconst 1, 1, 0, 0) := by decide +kernel
theorem r73_50 : rowAt 73 50 = some (.goto 4, 3, 0, 0) := by decide +kernel
theorem r73_53 : rowAt 73 53 = some (.iconst 0, 1, 0, 0) := by decide +kernel
theorem r73_54 : rowAt 73 54 = some (.ireturn, 1, 0, 0) := by decide +kernel
theorem en73 (a0 : Nat) : iniL 73 [.ref a0] = [.ref a0] := ini_n mi73 rfl
theorem b73_0 (d : Nat) (l0 : Nat) (h : aH) (K : Option Value → aH → Prop) : E scr false d 73 0 [.ref l0] [] h K = gI scr h l0 6 2 (fun x1 : Int32 => gI scr h l0 6 1 (fun x2 : Int32 => (if x2 ≤ x1 then K (some (.int 0)) h else gI scr h l0 6 2 (fun x3 : Int32 => (if 400 ≤ x3 then K (some (.int 0)) h else gR scr h l0 6 0 (fun x4 : Nat => gI scr h l0 6 2 (fun x5 : Int32 => aB scr h x4 x5 (fun x6 : Int32 => (if x6 < 48 then K (some (.int 0)) h else gR scr h l0 6 0 (fun x7 : Nat => gI scr h l0 6 2 (fun x8 : Int32 => aB scr h x7 x8 (fun x9 : Int32 => (if 57 < x9 then K (some (.int 0)) h else K (some (.int 1)) h))))))))))))) := go (w := (1, [.ref l0], [.ref l0], h)) r73_0 rfl rfl (E_gI r73_1 rfl (fun x1 => go (w := (5, [.ref l0], [.ref l0, .int x1], h)) r73_4 rfl rfl (E_gI r73_5 rfl (fun x2 => E_i2_ge r73_8 rfl (E_ic r73_53 (v := 0) (by decide) (E_rz r73_54 (mq73) (by decide))) (go (w := (12, [.ref l0], [.ref l0], h)) r73_11 rfl rfl (E_gI r73_12 rfl (fun x3 => E_sip r73_15 (v := 400) (by decide) (E_i2_ge r73_18 rfl (E_ic r73_53 (v := 0) (by decide) (E_rz r73_54 (mq73) (by decide))) (go (w := (22, [.ref l0], [.ref l0], h)) r73_21 rfl rfl (E_gR r73_22 rfl (fun x4 => go (w := (26, [.ref l0], [.ref l0, .ref x4], h)) r73_25 rfl rfl (E_gI r73_26 rfl (fun x5 => E_aB r73_29 (fun x6 => E_bip r73_30 (v := 48) (by decide) (E_i2_lt r73_32 rfl (E_ic r73_53 (v := 0) (by decide) (E_rz r73_54 (mq73) (by decide))) (go (w := (36, [.ref l0], [.ref l0], h)) r73_35 rfl rfl (E_gR r73_36 rfl (fun x7 => go (w := (40, [.ref l0], [.ref l0, .ref x7], h)) r73_39 rfl rfl (E_gI r73_40 rfl (fun x8 => E_aB r73_43 (fun x9 => E_bip r73_44 (v := 57) (by decide) (E_i2_gt r73_46 rfl (E_ic r73_53 (v := 0) (by decide) (E_rz r73_54 (mq73) (by decide))) (E_ic r73_49 (v := 1) (by decide) (E_gt r73_50 rfl (E_rz r73_54 (mq73) (by decide))))))))))))))))))))))))))
-- 74 SecondNearest$Tape.onDigit()Z
theorem mq74 : mRet 74 = (some .boolean) := by decide +kernel
theorem r74_0 : rowAt 74 0 = some (.aload_n 0, 1, 0, 0) := by decide +kernel
theorem r74_1 : rowAt 74 1 = some (.getfield 19, 3, 6, 2) := by decide +kernel
theorem r74_4 : rowAt 74 4 = some (.aload_n 0, 1, 0, 0) := by decide +kernel
theorem r74_5 : rowAt 74 5 = some (.getfield 15, 3, 6, 1) := by decide +kernel
theorem r74_8 : rowAt 74 8 = some (.if_icmp .ge 45, 3, 0, 0) := by decide +kernel
theorem r74_11 : rowAt 74 11 = some (.aload_n 0, 1, 0, 0) := by decide +kernel
theorem r74_12 : rowAt 74 12 = some (.getfield 19, 3, 6, 2) := by decide +kernel
theorem r74_15 : rowAt 74 15 = some (.sipush 400, 3, 0, 0) := by decide +kernel
theorem r74_18 : rowAt 74 18 = some (.if_icmp .ge 35, 3, 0, 0) := by decide +kernel
theorem r74_21 : rowAt 74 21 = some (.aload_n 0, 1, 0, 0) := by decide +kernel
theorem r74_22 : rowAt 74 22 = some (.getfield 11, 3, 6, 0) := by decide +kernel
theorem r74_25 : rowAt 74 25 = some (.aload_n 0, 1, 0, 0) := by decide +kernel
theorem r74_26 : rowAt 74 26 = some (.getfield 19, 3, 6, 2) := by decide +kernel
theorem r74_29 : rowAt 74 29 = some (.baload, 1, 0, 0) := by decide +kernel
theorem r74_30 : rowAt 74 30 = some (.bipush 48, 2, 0, 0) := by decide +kernel
theorem r74_32 : rowAt 74 32 = some (.if_icmp .lt 21, 3, 0, 0) := by decide +kernel
theorem r74_35 : rowAt 74 35 = some (.aload_n 0, 1, 0, 0) := by decide +kernel
theorem r74_36 : rowAt 74 36 = some (.getfield 11, 3, 6, 0) := by decide +kernel
theorem r74_39 : rowAt 74 39 = some (.aload_n 0, 1, 0, 0) := by decide +kernel
theorem r74_40 : rowAt 74 40 = some (.getfield 19, 3, 6, 2) := by decide +kernel
theorem r74_43 : rowAt 74 43 = some (.baload, 1, 0, 0) := by decide +kernel
theorem r74_44 : rowAt 74 44 = some (.bipush 57, 2, 0, 0) := by decide +kernel
theorem r74_46 : rowAt 74 46 = some (.if_icmp .gt 7, 3, 0, 0) := by decide +kernel
theorem r74_49 : rowAt 74 49 = some (.iconst 1, 1, 0, 0) := by decide +kernel
theorem r74_50 : rowAt 74 50 = some (.goto 4, 3, 0, 0) := by decide +kernel
theorem r74_53 : rowAt 74 53 = some (.iconst 0, 1, 0, 0) := by decide +kernel
theorem r74_54 : rowAt 74 54 = some (.ireturn, 1, 0, 0) := by decide +kernel
theorem en74 (a0 : Nat) : iniL 74 [.ref a0] = [.ref a0] := ini_n mi74 rfl
theorem b74_0 (d : Nat) (l0 : Nat) (h : aH) (K : Option Value → aH → Prop) : E scr false d 74 0 [.ref l0] [] h K = gI scr h l0 6 2 (fun x1 : Int32 => gI scr h l0 6 1 (fun x2 : Int32 => (if x2 ≤ x1 then K (some (.int 0)) h else gI scr h l0 6 2 (fun x3 : Int32 => (if 400 ≤ x3 then K (some (.int 0)) h else gR scr h l0 6 0 (fun x4 : Nat => gI scr h l0 6 2 (fun x5 : Int32 => aB scr h x4 x5 (fun x6 : Int32 => (if x6 < 48 then K (some (.int 0)) h else gR scr h l0 6 0 (fun x7 : Nat => gI scr h l0 6 2 (fun x8 : Int32 => aB scr h x7 x8 (fun x9 : Int32 => (if 57 < x9 then K (some (.int 0)) h else K (some (.int 1)) h))))))))))))) := go (w := (1, [.ref l0], [.ref l0], h)) r74_0 rfl rfl (E_gI r74_1 rfl (fun x1 => go (w := (5, [.ref l0], [.ref l0, .int x1], h)) r74_4 rfl rfl (E_gI r74_5 rfl (fun x2 => E_i2_ge r74_8 rfl (E_ic r74_53 (v := 0) (by decide) (E_rz r74_54 (mq74) (by decide))) (go (w := (12, [.ref l0], [.ref l0], h)) r74_11 rfl rfl (E_gI r74_12 rfl (fun x3 => E_sip r74_15 (v := 400) (by decide) (E_i2_ge r74_18 rfl (E_ic r74_53 (v := 0) (by decide) (E_rz r74_54 (mq74) (by decide))) (go (w := (22, [.ref l0], [.ref l0], h)) r74_21 rfl rfl (E_gR r74_22 rfl (fun x4 => go (w := (26, [.ref l0], [.ref l0, .ref x4], h)) r74_25 rfl rfl (E_gI r74_26 rfl (fun x5 => E_aB r74_29 (fun x6 => E_bip r74_30 (v := 48) (by decide) (E_i2_lt r74_32 rfl (E_ic r74_53 (v := 0) (by decide) (E_rz r74_54 (mq74) (by decide))) (go (w := (36, [.ref l0], [.ref l0], h)) r74_35 rfl rfl (E_gR r74_36 rfl (fun x7 => go (w := (40, [.ref l0], [.ref l0, .ref x7], h)) r74_39 rfl rfl (E_gI r74_40 rfl (fun x8 => E_aB r74_43 (fun x9 => E_bip r74_44 (v := 57) (by decide) (E_i2_gt r74_46 rfl (E_ic r74_53 (v := 0) (by decide) (E_rz r74_54 (mq74) (by decide))) (E_ic r74_49 (v := 1) (by decide) (E_gt r74_50 rfl (E_rz r74_54 (mq74) (by decide))))))))))))))))))))))))))
-- 75 SecondNearest$Tape.takeNumber(II)I
theorem mq75 : mRet 75 = (some .int) := by decide +kernel
theorem r75_0 : rowAt 75 0 = some (.aload_n 0, 1, 0, 0) := by decide +kernel
theorem r75_1 : rowAt 75 1 = some (.invokevirtual 25, 3, 69, 0) := by decide +kernel
theorem r75_4 : rowAt 75 4 = some (.istore_n 3, 1, 0, 0) := by decide +kernel
theorem r75_5 : rowAt 75 5 = some (.iconst 0, 1, 0, 0) := by decide +kernel
theorem r75_6 : rowAt 75 6 = some (.istore 4, 2, 0, 0) := by decide +kernel
theorem r75_8 : rowAt 75 8 = some (.aload_n 0, 1, 0, 0) := by decide +kernel
theorem r75_9 : rowAt 75 9 = some (.getfield 19, 3, 6, 2) := by decide +kernel
theorem r75_12 : rowAt 75 12 = some (.sipush 400, 3, 0, 0) := by decide +kernel
theorem r75_15 : rowAt 75 15 = some (.if_icmp .ge 53, 3, 0, 0) := by decide +kernel
theorem r75_18 : rowAt 75 18 = some (.aload_n 0, 1, 0, 0) := by decide +kernel
theorem r75_19 : rowAt 75 19 = some (.invokevirtual 40, 3, 74, 0) := by decide +kernel
theorem r75_22 : rowAt 75 22 = some (.ifCond .eq 46, 3, 0, 0) := by decide +kernel
theorem r75_25 : rowAt 75 25 = some (.aload_n 0, 1, 0, 0) := by decide +kernel
theorem r75_26 : rowAt 75 26 = some (.getfield 19, 3, 6, 2) := by decide +kernel
theorem r75_29 : rowAt 75 29 = some (.iload_n 3, 1, 0, 0) := by decide +kernel
theorem r75_30 : rowAt 75 30 = some (.isub, 1, 0, 0) := by decide +kernel
theorem r75_31 : rowAt 75 31 = some (.iconst 5, 1, 0, 0) := by decide +kernel
theorem r75_32 : rowAt 75 32 = some (.if_icmp .ge 23, 3, 0, 0) := by decide +kernel
theorem r75_35 : rowAt 75 35 = some (.bipush 10, 2, 0, 0) := by decide +kernel
theorem r75_37 : rowAt 75 37 = some (.iload 4, 2, 0, 0) := by decide +kernel
theorem r75_39 : rowAt 75 39 = some (.imul, 1, 0, 0) := by decide +kernel
theorem r75_40 : rowAt 75 40 = some (.aload_n 0, 1, 0, 0) := by decide +kernel
theorem r75_41 : rowAt 75 41 = some (.getfield 11, 3, 6, 0) := by decide +kernel
theorem r75_44 : rowAt 75 44 = some (.aload_n 0, 1, 0, 0) := by decide +kernel
theorem r75_45 : rowAt 75 45 = some (.getfield 19, 3, 6, 2) := by decide +kernel
theorem r75_48 : rowAt 75 48 = some (.baload, 1, 0, 0) := by decide +kernel
theorem r75_49 : rowAt 75 49 = some (.iadd, 1, 0, 0) := by decide +kernel
theorem r75_50 : rowAt 75 50 = some (.bipush 48, 2, 0, 0) := by decide +kernel
theorem r75_52 : rowAt 75 52 = some (.isub, 1, 0, 0) := by decide +kernel
theorem r75_53 : rowAt 75 53 = some (.istore 4, 2, 0, 0) := by decide +kernel
theorem r75_55 : rowAt 75 55 = some (.aload_n 0, 1, 0, 0) := by decide +kernel
theorem r75_56 : rowAt 75 56 = some (.dup, 1, 0, 0) := by decide +kernel
theorem r75_57 : rowAt 75 57 = some (.getfield 19, 3, 6, 2) := by decide +kernel
theorem r75_60 : rowAt 75 60 = some (.iconst 1, 1, 0, 0) := by decide +kernel
theorem r75_61 : rowAt 75 61 = some (.iadd, 1, 0, 0) := by decide +kernel
theorem r75_62 : rowAt 75 62 = some (.putfield 19, 3, 6, 2) := by decide +kernel
theorem r75_65 : rowAt 75 65 = some (.goto (-57), 3, 0, 0) := by decide +kernel
theorem r75_68 : rowAt 75 68 = some (.aload_n 0, 1, 0, 0) := by decide +kernel
theorem r75_69 : rowAt 75 69 = some (.getfield 19, 3, 6, 2) := by decide +kernel
theorem r75_72 : rowAt 75 72 = some (.iload_n 3, 1, 0, 0) := by decide +kernel
theorem r75_73 : rowAt 75 73 = some (.if_icmp .ne 12, 3, 0, 0) := by decide +kernel
theorem r75_76 : rowAt 75 76 = some (.aload_n 0, 1, 0, 0) := by decide +kernel
theorem r75_77 : rowAt 75 77 = some (.iload_n 3, 1, 0, 0) := by decide +kernel
theorem r75_78 : rowAt 75 78 = some (.iconst 0, 1, 0, 0) := by decide +kernel
theorem r75_79 : rowAt 75 79 = some (.invokevirtual 44, 3, 70, 0) := by decide +kernel
theorem r75_82 : rowAt 75 82 = some (.pop, 1, 0, 0) := by decide +kernel
theorem r75_83 : rowAt 75 83 = some (.iconst (-1), 1, 0, 0) := by decide +kernel
theorem r75_84 : rowAt 75 84 = some (.ireturn, 1, 0, 0) := by decide +kernel
theorem r75_85 : rowAt 75 85 = some (.aload_n 0, 1, 0, 0) := by decide +kernel
theorem r75_86 : rowAt 75 86 = some (.getfield 19, 3, 6, 2) := by decide +kernel
theorem r75_89 : rowAt 75 89 = some (.iload_n 3, 1, 0, 0) := by decide +kernel
theorem r75_90 : rowAt 75 90 = some (.isub, 1, 0, 0) := by decide +kernel
theorem r75_91 : rowAt 75 91 = some (.iconst 5, 1, 0, 0) := by decide +kernel
theorem r75_92 : rowAt 75 92 = some (.if_icmp .gt 15, 3, 0, 0) := by decide +kernel
theorem r75_95 : rowAt 75 95 = some (.iload 4, 2, 0, 0) := by decide +kernel
theorem r75_97 : rowAt 75 97 = some (.iload_n 1, 1, 0, 0) := by decide +kernel
theorem r75_98 : rowAt 75 98 = some (.if_icmp .lt 9, 3, 0, 0) := by decide +kernel
theorem r75_101 : rowAt 75 101 = some (.iload 4, 2, 0, 0) := by decide +kernel
theorem r75_103 : rowAt 75 103 = some (.iload_n 2, 1, 0, 0) := by decide +kernel
theorem r75_104 : rowAt 75 104 = some (.if_icmp .le 12, 3, 0, 0) := by decide +kernel
theorem r75_107 : rowAt 75 107 = some (.aload_n 0, 1, 0, 0) := by decide +kernel
theorem r75_108 : rowAt 75 108 = some (.iload_n 3, 1, 0, 0) := by decide +kernel
theorem r75_109 : rowAt 75 109 = some (.iconst 1, 1, 0, 0) := by decide +kernel
theorem r75_110 : rowAt 75 110 = some (.invokevirtual 44, 3, 70, 0) := by decide +kernel
theorem r75_113 : rowAt 75 113 = some (.pop, 1, 0, 0) := by decide +kernel
theorem r75_114 : rowAt 75 114 = some (.iconst (-1), 1, 0, 0) := by decide +kernel
theorem r75_115 : rowAt 75 115 = some (.ireturn, 1, 0, 0) := by decide +kernel
theorem r75_116 : rowAt 75 116 = some (.iload 4, 2, 0, 0) := by decide +kernel
theorem r75_118 : rowAt 75 118 = some (.ireturn, 1, 0, 0) := by decide +kernel
theorem en75 (a0 : Nat) (a1 : Int32) (a2 : Int32) : iniL 75 [.ref a0, .int a1, .int a2] = [.ref a0, .int a1, .int a2, .null, .null] := ini_n mi75 rfl
theorem b75_0 (d : Nat) (l0 : Nat) (l1 : Int32) (l2 : Int32) (h : aH) (K : Option Value → aH → Prop) : E scr false (d + 1) 75 0 [.ref l0, .int l1, .int l2, .null, .null] [] h K = vI scr d 69 [.ref l0] h (fun (x2 : Int32) (h1 : aH) => E scr false (d + 1) 75 8 [.ref l0, .int l1, .int l2, .int x2, .int 0] [] h1 K) := go (w := (1, [.ref l0, .int l1, .int l2, .null, .null], [.ref l0], h)) r75_0 rfl rfl (E_vI r75_1 (As := [.ref l0]) (rest := []) (cut_n mi69.1 rfl rfl) (rm8_n mi69.2.1 (Nat.le_of_ble_eq_true rfl) (Nat.le_of_ble_eq_true rfl)) mi69.2.2 (fun x2 h1 => go (w := (5, [.ref l0, .int l1, .int l2, .int x2, .null], [], h1)) r75_4 rfl rfl (E_ic r75_5 (v := 0) (by decide) (go (w := (8, [.ref l0, .int l1, .int l2, .int x2, .int 0], [], h1)) r75_6 rfl rfl (rfl)))))
theorem b75_8 (d : Nat) (l0 : Nat) (l1 : Int32) (l2 : Int32) (l3 : Int32) (l4 : Int32) (h : aH) (K : Option Value → aH → Prop) : E scr false (d + 1) 75 8 [.ref l0, .int l1, .int l2, .int l3, .int l4] [] h K = gI scr h l0 6 2 (fun x1 : Int32 => (if 400 ≤ x1 then E scr false (d + 1) 75 68 [.ref l0, .int l1, .int l2, .int l3, .int l4] [] h K else vI scr d 74 [.ref l0] h (fun (x3 : Int32) (h2 : aH) => (if x3 = 0 then E scr false (d + 1) 75 68 [.ref l0, .int l1, .int l2, .int l3, .int l4] [] h2 K else gI scr h2 l0 6 2 (fun x4 : Int32 => (if 5 ≤ (x4 - l3) then E scr false (d + 1) 75 55 [.ref l0, .int l1, .int l2, .int l3, .int l4] [] h2 K else gR scr h2 l0 6 0 (fun x5 : Nat => gI scr h2 l0 6 2 (fun x6 : Int32 => aB scr h2 x5 x6 (fun x7 : Int32 => E scr false (d + 1) 75 55 [.ref l0, .int l1, .int l2, .int l3, .int (((10 * l4) + x7) - 48)] [] h2 K))))))))) := go (w := (9, [.ref l0, .int l1, .int l2, .int l3, .int l4], [.ref l0], h)) r75_8 rfl rfl (E_gI r75_9 rfl (fun x1 => E_sip r75_12 (v := 400) (by decide) (E_i2_ge r75_15 rfl (rfl) (go (w := (19, [.ref l0, .int l1, .int l2, .int l3, .int l4], [.ref l0], h)) r75_18 rfl rfl (E_vI r75_19 (As := [.ref l0]) (rest := []) (cut_n mi74.1 rfl rfl) (rm8_n mi74.2.1 (Nat.le_of_ble_eq_true rfl) (Nat.le_of_ble_eq_true rfl)) mi74.2.2 (fun x3 h2 => E_i1_eq r75_22 rfl (rfl) (go (w := (26, [.ref l0, .int l1, .int l2, .int l3, .int l4], [.ref l0], h2)) r75_25 rfl rfl (E_gI r75_26 rfl (fun x4 => go (w := (30, [.ref l0, .int l1, .int l2, .int l3, .int l4], [.int l3, .int x4], h2)) r75_29 rfl rfl (go (w := (31, [.ref l0, .int l1, .int l2, .int l3, .int l4], [.int (x4 - l3)], h2)) r75_30 rfl rfl (E_ic r75_31 (v := 5) (by decide) (E_i2_ge r75_32 rfl (rfl) (E_bip r75_35 (v := 10) (by decide) (go (w := (39, [.ref l0, .int l1, .int l2, .int l3, .int l4], [.int l4, .int 10], h2)) r75_37 rfl rfl (go (w := (40, [.ref l0, .int l1, .int l2, .int l3, .int l4], [.int (10 * l4)], h2)) r75_39 rfl rfl (go (w := (41, [.ref l0, .int l1, .int l2, .int l3, .int l4], [.ref l0, .int (10 * l4)], h2)) r75_40 rfl rfl (E_gR r75_41 rfl (fun x5 => go (w := (45, [.ref l0, .int l1, .int l2, .int l3, .int l4], [.ref l0, .ref x5, .int (10 * l4)], h2)) r75_44 rfl rfl (E_gI r75_45 rfl (fun x6 => E_aB r75_48 (fun x7 => go (w := (50, [.ref l0, .int l1, .int l2, .int l3, .int l4], [.int ((10 * l4) + x7)], h2)) r75_49 rfl rfl (E_bip r75_50 (v := 48) (by decide) (go (w := (53, [.ref l0, .int l1, .int l2, .int l3, .int l4], [.int (((10 * l4) + x7) - 48)], h2)) r75_52 rfl rfl (go (w := (55, [.ref l0, .int l1, .int l2, .int l3, .int (((10 * l4) + x7) - 48)], [], h2)) r75_53 rfl rfl (rfl)))))))))))))))))))))))))
theorem b75_55 (d : Nat) (l0 : Nat) (l1 : Int32) (l2 : Int32) (l3 : Int32) (l4 : Int32) (h : aH) (K : Option Value → aH → Prop) : E scr false d 75 55 [.ref l0, .int l1, .int l2, .int l3, .int l4] [] h K = gI scr h l0 6 2 (fun x1 : Int32 => pF h l0 6 2 (.int (x1 + 1)) (fun h2 : aH => E scr false d 75 8 [.ref l0, .int l1, .int l2, .int l3, .int l4] [] h2 K)) := go (w := (56, [.ref l0, .int l1, .int l2, .int l3, .int l4], [.ref l0], h)) r75_55 rfl rfl (go (w := (57, [.ref l0, .int l1, .int l2, .int l3, .int l4], [.ref l0, .ref l0], h)) r75_56 rfl rfl (E_gI r75_57 rfl (fun x1 => E_ic r75_60 (v := 1) (by decide) (go (w := (62, [.ref l0, .int l1, .int l2, .int l3, .int l4], [.int (x1 + 1), .ref l0], h)) r75_61 rfl rfl (E_pI r75_62 ⟨rfl, rfl⟩ (fun h2 => E_gt r75_65 rfl (rfl)))))))
theorem b75_68 (d : Nat) (l0 : Nat) (l1 : Int32) (l2 : Int32) (l3 : Int32) (l4 : Int32) (h : aH) (K : Option Value → aH → Prop) : E scr false (d + 1) 75 68 [.ref l0, .int l1, .int l2, .int l3, .int l4] [] h K = gI scr h l0 6 2 (fun x1 : Int32 => (if x1 = l3 then vI scr d 70 [.ref l0, .int l3, .int 0] h (fun (x4 : Int32) (h3 : aH) => K (some (.int (-1))) h3) else gI scr h l0 6 2 (fun x2 : Int32 => (if 5 < (x2 - l3) then E scr false (d + 1) 75 107 [.ref l0, .int l1, .int l2, .int l3, .int l4] [] h K else (if l4 < l1 then E scr false (d + 1) 75 107 [.ref l0, .int l1, .int l2, .int l3, .int l4] [] h K else (if l4 ≤ l2 then K (some (.int l4)) h else E scr false (d + 1) 75 107 [.ref l0, .int l1, .int l2, .int l3, .int l4] [] h K)))))) := go (w := (69, [.ref l0, .int l1, .int l2, .int l3, .int l4], [.ref l0], h)) r75_68 rfl rfl (E_gI r75_69 rfl (fun x1 => go (w := (73, [.ref l0, .int l1, .int l2, .int l3, .int l4], [.int l3, .int x1], h)) r75_72 rfl rfl (E_i2_ne r75_73 rfl (go (w := (86, [.ref l0, .int l1, .int l2, .int l3, .int l4], [.ref l0], h)) r75_85 rfl rfl (E_gI r75_86 rfl (fun x2 => go (w := (90, [.ref l0, .int l1, .int l2, .int l3, .int l4], [.int l3, .int x2], h)) r75_89 rfl rfl (go (w := (91, [.ref l0, .int l1, .int l2, .int l3, .int l4], [.int (x2 - l3)], h)) r75_90 rfl rfl (E_ic r75_91 (v := 5) (by decide) (E_i2_gt r75_92 rfl (rfl) (go (w := (97, [.ref l0, .int l1, .int l2, .int l3, .int l4], [.int l4], h)) r75_95 rfl rfl (go (w := (98, [.ref l0, .int l1, .int l2, .int l3, .int l4], [.int l1, .int l4], h)) r75_97 rfl rfl (E_i2_lt r75_98 rfl (rfl) (go (w := (103, [.ref l0, .int l1, .int l2, .int l3, .int l4], [.int l4], h)) r75_101 rfl rfl (go (w := (104, [.ref l0, .int l1, .int l2, .int l3, .int l4], [.int l2, .int l4], h)) r75_103 rfl rfl (E_i2_le r75_104 rfl (go (w := (118, [.ref l0, .int l1, .int l2, .int l3, .int l4], [.int l4], h)) r75_116 rfl rfl (E_ri r75_118 (mq75))) (rfl))))))))))))) (go (w := (77, [.ref l0, .int l1, .int l2, .int l3, .int l4], [.ref l0], h)) r75_76 rfl rfl (go (w := (78, [.ref l0, .int l1, .int l2, .int l3, .int l4], [.int l3, .ref l0], h)) r75_77 rfl rfl (E_ic r75_78 (v := 0) (by decide) (E_vI r75_79 (As := [.ref l0, .int l3, .int 0]) (rest := []) (cut_n mi70.1 rfl rfl) (rm8_n mi70.2.1 (Nat.le_of_ble_eq_true rfl) (Nat.le_of_ble_eq_true rfl)) mi70.2.2 (fun x4 h3 => go (w := (83, [.ref l0, .int l1, .int l2, .int l3, .int l4], [], h3)) r75_82 rfl rfl (E_ic r75_83 (v := (-1)) (by decide) (E_ri r75_84 (mq75)))))))))))
theorem b75_107 (d : Nat) (l0 : Nat) (l1 : Int32) (l2 : Int32) (l3 : Int32) (l4 : Int32) (h : aH) (K : Option Value → aH → Prop) : E scr false (d + 1) 75 107 [.ref l0, .int l1, .int l2, .int l3, .int l4] [] h K = vI scr d 70 [.ref l0, .int l3, .int 1] h (fun (x2 : Int32) (h1 : aH) => K (some (.int (-1))) h1) := go (w := (108, [.ref l0, .int l1, .int l2, .int l3, .int l4], [.ref l0], h)) r75_107 rfl rfl (go (w := (109, [.ref l0, .int l1, .int l2, .int l3, .int l4], [.int l3, .ref l0], h)) r75_108 rfl rfl (E_ic r75_109 (v := 1) (by decide) (E_vI r75_110 (As := [.ref l0, .int l3, .int 1]) (rest := []) (cut_n mi70.1 rfl rfl) (rm8_n mi70.2.1 (Nat.le_of_ble_eq_true rfl) (Nat.le_of_ble_eq_true rfl)) mi70.2.2 (fun x2 h1 => go (w := (114, [.ref l0, .int l1, .int l2, .int l3, .int l4], [], h1)) r75_113 rfl rfl (E_ic r75_114 (v := (-1)) (by decide) (E_ri r75_115 (mq75)))))))
-- 76 SecondNearest$Tape.isRead()Z
theorem mq76 : mRet 76 = (some .boolean) := by decide +kernel
theorem r76_0 : rowAt 76 0 = some (.aload_n 0, 1, 0, 0) := by decide +kernel
theorem r76_1 : rowAt 76 1 = some (.invokevirtual 25, 3, 69, 0) := by decide +kernel
theorem r76_4 : rowAt 76 4 = some (.aload_n 0, 1, 0, 0) := by decide +kernel
theorem r76_5 : rowAt 76 5 = some (.getfield 15, 3, 6, 1) := by decide +kernel
theorem r76_8 : rowAt 76 8 = some (.if_icmp .ge 15, 3, 0, 0) := by decide +kernel
theorem r76_11 : rowAt 76 11 = some (.aload_n 0, 1, 0, 0) := by decide +kernel
theorem r76_12 : rowAt 76 12 = some (.aload_n 0, 1, 0, 0) := by decide +kernel
theorem r76_13 : rowAt 76 13 = some (.getfield 19, 3, 6, 2) := by decide +kernel
theorem r76_16 : rowAt 76 16 = some (.iconst 0, 1, 0, 0) := by decide +kernel
theorem r76_17 : rowAt 76 17 = some (.invokevirtual 44, 3, 70, 0) := by decide +kernel
theorem r76_20 : rowAt 76 20 = some (.ifCond .eq 7, 3, 0, 0) := by decide +kernel
theorem r76_23 : rowAt 76 23 = some (.iconst 1, 1, 0, 0) := by decide +kernel
theorem r76_24 : rowAt 76 24 = some (.goto 4, 3, 0, 0) := by decide +kernel
theorem r76_27 : rowAt 76 27 = some (.iconst 0, 1, 0, 0) := by decide +kernel
theorem r76_28 : rowAt 76 28 = some (.ireturn, 1, 0, 0) := by decide +kernel
theorem en76 (a0 : Nat) : iniL 76 [.ref a0] = [.ref a0] := ini_n mi76 rfl
theorem b76_0 (d : Nat) (l0 : Nat) (h : aH) (K : Option Value → aH → Prop) : E scr false (d + 1) 76 0 [.ref l0] [] h K = vI scr d 69 [.ref l0] h (fun (x2 : Int32) (h1 : aH) => gI scr h1 l0 6 1 (fun x3 : Int32 => (if x3 ≤ x2 then E scr false (d + 1) 76 23 [.ref l0] [] h1 K else gI scr h1 l0 6 2 (fun x4 : Int32 => vI scr d 70 [.ref l0, .int x4, .int 0] h1 (fun (x6 : Int32) (h5 : aH) => (if x6 = 0 then K (some (.int 0)) h5 else E scr false (d + 1) 76 23 [.ref l0] [] h5 K)))))) := go (w := (1, [.ref l0], [.ref l0], h)) r76_0 rfl rfl (E_vI r76_1 (As := [.ref l0]) (rest := []) (cut_n mi69.1 rfl rfl) (rm8_n mi69.2.1 (Nat.le_of_ble_eq_true rfl) (Nat.le_of_ble_eq_true rfl)) mi69.2.2 (fun x2 h1 => go (w := (5, [.ref l0], [.ref l0, .int x2], h1)) r76_4 rfl rfl (E_gI r76_5 rfl (fun x3 => E_i2_ge r76_8 rfl (rfl) (go (w := (12, [.ref l0], [.ref l0], h1)) r76_11 rfl rfl (go (w := (13, [.ref l0], [.ref l0, .ref l0], h1)) r76_12 rfl rfl (E_gI r76_13 rfl (fun x4 => E_ic r76_16 (v := 0) (by decide) (E_vI r76_17 (As := [.ref l0, .int x4, .int 0]) (rest := []) (cut_n mi70.1 rfl rfl) (rm8_n mi70.2.1 (Nat.le_of_ble_eq_true rfl) (Nat.le_of_ble_eq_true rfl)) mi70.2.2 (fun x6 h5 => E_i1_eq r76_20 rfl (E_ic r76_27 (v := 0) (by decide) (E_rz r76_28 (mq76) (by decide))) (rfl)))))))))))
theorem b76_23 (d : Nat) (l0 : Nat) (h : aH) (K : Option Value → aH → Prop) : E scr false d 76 23 [.ref l0] [] h K = K (some (.int 1)) h := E_ic r76_23 (v := 1) (by decide) (E_gt r76_24 rfl (E_rz r76_28 (mq76) (by decide)))
-- 78 SecondNearest$Walker.walk(LSecondNearest$Scene;LSecondNearest$Law;I)V
theorem mq78 : mRet 78 = none := by decide +kernel
theorem r78_0 : rowAt 78 0 = some (.aload_n 0, 1, 0, 0) := by decide +kernel
theorem r78_1 : rowAt 78 1 = some (.iconst 0, 1, 0, 0) := by decide +kernel
theorem r78_2 : rowAt 78 2 = some (.putfield 26, 3, 7, 7) := by decide +kernel
theorem r78_5 : rowAt 78 5 = some (.iconst 1, 1, 0, 0) := by decide +kernel
theorem r78_6 : rowAt 78 6 = some (.istore 4, 2, 0, 0) := by decide +kernel
theorem r78_8 : rowAt 78 8 = some (.iload 4, 2, 0, 0) := by decide +kernel
theorem r78_10 : rowAt 78 10 = some (.iload_n 3, 1, 0, 0) := by decide +kernel
theorem r78_11 : rowAt 78 11 = some (.if_icmp .gt 34, 3, 0, 0) := by decide +kernel
theorem r78_14 : rowAt 78 14 = some (.aload_n 0, 1, 0, 0) := by decide +kernel
theorem r78_15 : rowAt 78 15 = some (.aload_n 1, 1, 0, 0) := by decide +kernel
theorem r78_16 : rowAt 78 16 = some (.aload_n 2, 1, 0, 0) := by decide +kernel
theorem r78_17 : rowAt 78 17 = some (.invokevirtual 30, 3, 79, 0) := by decide +kernel
theorem r78_20 : rowAt 78 20 = some (.ifCond .ne 19, 3, 0, 0) := by decide +kernel
theorem r78_23 : rowAt 78 23 = some (.aload_n 1, 1, 0, 0) := by decide +kernel
theorem r78_24 : rowAt 78 24 = some (.dup, 1, 0, 0) := by decide +kernel
theorem r78_25 : rowAt 78 25 = some (.getfield 34, 3, 5, 5) := by decide +kernel
theorem r78_28 : rowAt 78 28 = some (.iload_n 3, 1, 0, 0) := by decide +kernel
theorem r78_29 : rowAt 78 29 = some (.iload 4, 2, 0, 0) := by decide +kernel
theorem r78_31 : rowAt 78 31 = some (.isub, 1, 0, 0) := by decide +kernel
theorem r78_32 : rowAt 78 32 = some (.iadd, 1, 0, 0) := by decide +kernel
theorem r78_33 : rowAt 78 33 = some (.putfield 34, 3, 5, 5) := by decide +kernel
theorem r78_36 : rowAt 78 36 = some (.goto 9, 3, 0, 0) := by decide +kernel
theorem r78_39 : rowAt 78 39 = some (.iinc 4 1, 3, 0, 0) := by decide +kernel
theorem r78_42 : rowAt 78 42 = some (.goto (-34), 3, 0, 0) := by decide +kernel
theorem r78_45 : rowAt 78 45 = some (.return_, 1, 0, 0) := by decide +kernel
theorem en78 (a0 : Nat) (a1 : Nat) (a2 : Nat) (a3 : Int32) : iniL 78 [.ref a0, .ref a1, .ref a2, .int a3] = [.ref a0, .ref a1, .ref a2, .int a3, .null] := ini_n mi78 rfl
theorem b78_0 (d : Nat) (l0 : Nat) (l1 : Nat) (l2 : Nat) (l3 : Int32) (h : aH) (K : Option Value → aH → Prop) : E scr false d 78 0 [.ref l0, .ref l1, .ref l2, .int l3, .null] [] h K = pF h l0 7 7 (.int 0) (fun h1 : aH => E scr false d 78 8 [.ref l0, .ref l1, .ref l2, .int l3, .int 1] [] h1 K) := go (w := (1, [.ref l0, .ref l1, .ref l2, .int l3, .null], [.ref l0], h)) r78_0 rfl rfl (E_ic r78_1 (v := 0) (by decide) (E_pI r78_2 ⟨rfl, rfl⟩ (fun h1 => E_ic r78_5 (v := 1) (by decide) (go (w := (8, [.ref l0, .ref l1, .ref l2, .int l3, .int 1], [], h1)) r78_6 rfl rfl (rfl)))))
theorem b78_8 (d : Nat) (l0 : Nat) (l1 : Nat) (l2 : Nat) (l3 : Int32) (l4 : Int32) (h : aH) (K : Option Value → aH → Prop) : E scr false (d + 1) 78 8 [.ref l0, .ref l1, .ref l2, .int l3, .int l4] [] h K = (if l3 < l4 then K none h else vI scr d 79 [.ref l0, .ref l1, .ref l2] h (fun (x2 : Int32) (h1 : aH) => (if x2 = 0 then gI scr h1 l1 5 5 (fun x3 : Int32 => pF h1 l1 5 5 (.int (x3 + (l3 - l4))) (fun h4 : aH => K none h4)) else E scr false (d + 1) 78 8 [.ref l0, .ref l1, .ref l2, .int l3, .int (l4 + 1)] [] h1 K))) := go (w := (10, [.ref l0, .ref l1, .ref l2, .int l3, .int l4], [.int l4], h)) r78_8 rfl rfl (go (w := (11, [.ref l0, .ref l1, .ref l2, .int l3, .int l4], [.int l3, .int l4], h)) r78_10 rfl rfl (E_i2_gt r78_11 rfl (E_vret r78_45 (mq78)) (go (w := (15, [.ref l0, .ref l1, .ref l2, .int l3, .int l4], [.ref l0], h)) r78_14 rfl rfl (go (w := (16, [.ref l0, .ref l1, .ref l2, .int l3, .int l4], [.ref l1, .ref l0], h)) r78_15 rfl rfl (go (w := (17, [.ref l0, .ref l1, .ref l2, .int l3, .int l4], [.ref l2, .ref l1, .ref l0], h)) r78_16 rfl rfl (E_vI r78_17 (As := [.ref l0, .ref l1, .ref l2]) (rest := []) (cut_n mi79.1 rfl rfl) (rm8_n mi79.2.1 (Nat.le_of_ble_eq_true rfl) (Nat.le_of_ble_eq_true rfl)) mi79.2.2 (fun x2 h1 => E_i1_ne r78_20 rfl (E_inc r78_39 (c := 1) rfl (by decide) (L' := [.ref l0, .ref l1, .ref l2, .int l3, .int (l4 + 1)]) rfl (E_gt r78_42 rfl (rfl))) (go (w := (24, [.ref l0, .ref l1, .ref l2, .int l3, .int l4], [.ref l1], h1)) r78_23 rfl rfl (go (w := (25, [.ref l0, .ref l1, .ref l2, .int l3, .int l4], [.ref l1, .ref l1], h1)) r78_24 rfl rfl (E_gI r78_25 rfl (fun x3 => go (w := (29, [.ref l0, .ref l1, .ref l2, .int l3, .int l4], [.int l3, .int x3, .ref l1], h1)) r78_28 rfl rfl (go (w := (31, [.ref l0, .ref l1, .ref l2, .int l3, .int l4], [.int l4, .int l3, .int x3, .ref l1], h1)) r78_29 rfl rfl (go (w := (32, [.ref l0, .ref l1, .ref l2, .int l3, .int l4], [.int (l3 - l4), .int x3, .ref l1], h1)) r78_31 rfl rfl (go (w := (33, [.ref l0, .ref l1, .ref l2, .int l3, .int l4], [.int (x3 + (l3 - l4)), .ref l1], h1)) r78_32 rfl rfl (E_pI r78_33 ⟨rfl, rfl⟩ (fun h4 => E_gt r78_36 rfl (E_vret r78_45 (mq78))))))))))))))))))
-- 79 SecondNearest$Walker.step(LSecondNearest$Scene;LSecondNearest$Law;)Z
theorem mq79 : mRet 79 = (some .boolean) := by decide +kernel
theorem r79_0 : rowAt 79 0 = some (.aload_n 1, 1, 0, 0) := by decide +kernel
theorem r79_1 : rowAt 79 1 = some (.getfield 39, 3, 5, 6) := by decide +kernel
theorem r79_4 : rowAt 79 4 = some (.istore_n 3, 1, 0, 0) := by decide +kernel
theorem r79_5 : rowAt 79 5 = some (.aload_n 1, 1, 0, 0) := by decide +kernel
theorem r79_6 : rowAt 79 6 = some (.dup, 1, 0, 0) := by decide +kernel
theorem r79_7 : rowAt 79 7 = some (.getfield 34, 3, 5, 5) := by decide +kernel
theorem r79_10 : rowAt 79 10 = some (.iconst 1, 1, 0, 0) := by decide +kernel
theorem r79_11 : rowAt 79 11 = some (.iadd, 1, 0, 0) := by decide +kernel
theorem r79_12 : rowAt 79 12 = some (.putfield 34, 3, 5, 5) := by decide +kernel
theorem r79_15 : rowAt 79 15 = some (.aload_n 0, 1, 0, 0) := by decide +kernel
theorem r79_16 : rowAt 79 16 = some (.iconst 0, 1, 0, 0) := by decide +kernel
theorem r79_17 : rowAt 79 17 = some (.putfield 26, 3, 7, 7) := by decide +kernel
theorem r79_20 : rowAt 79 20 = some (.iconst 0, 1, 0, 0) := by decide +kernel
theorem r79_21 : rowAt 79 21 = some (.istore 4, 2, 0, 0) := by decide +kernel
theorem r79_23 : rowAt 79 23 = some (.iload 4, 2, 0, 0) := by decide +kernel
theorem r79_25 : rowAt 79 25 = some (.aload_n 1, 1, 0, 0) := by decide +kernel
theorem r79_26 : rowAt 79 26 = some (.getfield 42, 3, 5, 3) := by decide +kernel
theorem r79_29 : rowAt 79 29 = some (.if_icmp .ge 92, 3, 0, 0) := by decide +kernel
theorem r79_32 : rowAt 79 32 = some (.iload 4, 2, 0, 0) := by decide +kernel
theorem r79_34 : rowAt 79 34 = some (.bipush 12, 2, 0, 0) := by decide +kernel
theorem r79_36 : rowAt 79 36 = some (.if_icmp .ge 85, 3, 0, 0) := by decide +kernel
theorem r79_39 : rowAt 79 39 = some (.aload_n 0, 1, 0, 0) := by decide +kernel
theorem r79_40 : rowAt 79 40 = some (.getfield 19, 3, 7, 6) := by decide +kernel
theorem r79_43 : rowAt 79 43 = some (.iload 4, 2, 0, 0) := by decide +kernel
theorem r79_45 : rowAt 79 45 = some (.iconst (-1), 1, 0, 0) := by decide +kernel
theorem r79_46 : rowAt 79 46 = some (.iastore, 1, 0, 0) := by decide +kernel
theorem r79_47 : rowAt 79 47 = some (.aload_n 1, 1, 0, 0) := by decide +kernel
theorem r79_48 : rowAt 79 48 = some (.getfield 45, 3, 5, 10) := by decide +kernel
theorem r79_51 : rowAt 79 51 = some (.iload 4, 2, 0, 0) := by decide +kernel
theorem r79_53 : rowAt 79 53 = some (.iaload, 1, 0, 0) := by decide +kernel
theorem r79_54 : rowAt 79 54 = some (.ifCond .lt 61, 3, 0, 0) := by decide +kernel
theorem r79_57 : rowAt 79 57 = some (.aload_n 0, 1, 0, 0) := by decide +kernel
theorem r79_58 : rowAt 79 58 = some (.aload_n 1, 1, 0, 0) := by decide +kernel
theorem r79_59 : rowAt 79 59 = some (.iload 4, 2, 0, 0) := by decide +kernel
theorem r79_61 : rowAt 79 61 = some (.invokevirtual 48, 3, 81, 0) := by decide +kernel
theorem r79_64 : rowAt 79 64 = some (.aload_n 0, 1, 0, 0) := by decide +kernel
theorem r79_65 : rowAt 79 65 = some (.getfield 19, 3, 7, 6) := by decide +kernel
theorem r79_68 : rowAt 79 68 = some (.iload 4, 2, 0, 0) := by decide +kernel
theorem r79_70 : rowAt 79 70 = some (.aload_n 0, 1, 0, 0) := by decide +kernel
theorem r79_71 : rowAt 79 71 = some (.aload_n 1, 1, 0, 0) := by decide +kernel
theorem r79_72 : rowAt 79 72 = some (.aload_n 2, 1, 0, 0) := by decide +kernel
theorem r79_73 : rowAt 79 73 = some (.iload 4, 2, 0, 0) := by decide +kernel
theorem r79_75 : rowAt 79 75 = some (.invokevirtual 52, 3, 84, 0) := by decide +kernel
theorem r79_78 : rowAt 79 78 = some (.iastore, 1, 0, 0) := by decide +kernel
theorem r79_79 : rowAt 79 79 = some (.aload_n 0, 1, 0, 0) := by decide +kernel
theorem r79_80 : rowAt 79 80 = some (.dup, 1, 0, 0) := by decide +kernel
theorem r79_81 : rowAt 79 81 = some (.getfield 26, 3, 7, 7) := by decide +kernel
theorem r79_84 : rowAt 79 84 = some (.aload_n 1, 1, 0, 0) := by decide +kernel
theorem r79_85 : rowAt 79 85 = some (.iload 4, 2, 0, 0) := by decide +kernel
theorem r79_87 : rowAt 79 87 = some (.aload_n 0, 1, 0, 0) := by decide +kernel
theorem r79_88 : rowAt 79 88 = some (.getfield 19, 3, 7, 6) := by decide +kernel
theorem r79_91 : rowAt 79 91 = some (.iload 4, 2, 0, 0) := by decide +kernel
theorem r79_93 : rowAt 79 93 = some (.iaload, 1, 0, 0) := by decide +kernel
theorem r79_94 : rowAt 79 94 = some (.invokestatic 56, 3, 88, 1) := by decide +kernel
theorem r79_97 : rowAt 79 97 = some (.ifCond .eq 7, 3, 0, 0) := by decide +kernel
theorem r79_100 : rowAt 79 100 = some (.iconst 1, 1, 0, 0) := by decide +kernel
theorem r79_101 : rowAt 79 101 = some (.goto 4, 3, 0, 0) := by decide +kernel
theorem r79_104 : rowAt 79 104 = some (.iconst 0, 1, 0, 0) := by decide +kernel
theorem r79_105 : rowAt 79 105 = some (.iadd, 1, 0, 0) := by decide +kernel
theorem r79_106 : rowAt 79 106 = some (.putfield 26, 3, 7, 7) := by decide +kernel
theorem r79_109 : rowAt 79 109 = some (.aload_n 1, 1, 0, 0) := by decide +kernel
theorem r79_110 : rowAt 79 110 = some (.iload 4, 2, 0, 0) := by decide +kernel
theorem r79_112 : rowAt 79 112 = some (.invokestatic 60, 3, 89, 1) := by decide +kernel
theorem r79_115 : rowAt 79 115 = some (.iinc 4 1, 3, 0, 0) := by decide +kernel
theorem r79_118 : rowAt 79 118 = some (.goto (-95), 3, 0, 0) := by decide +kernel
theorem r79_121 : rowAt 79 121 = some (.aload_n 0, 1, 0, 0) := by decide +kernel
theorem r79_122 : rowAt 79 122 = some (.getfield 26, 3, 7, 7) := by decide +kernel
theorem r79_125 : rowAt 79 125 = some (.ifCond .gt 11, 3, 0, 0) := by decide +kernel
theorem r79_128 : rowAt 79 128 = some (.aload_n 1, 1, 0, 0) := by decide +kernel
theorem r79_129 : rowAt 79 129 = some (.getfield 39, 3, 5, 6) := by decide +kernel
theorem r79_132 : rowAt 79 132 = some (.iload_n 3, 1, 0, 0) := by decide +kernel
theorem r79_133 : rowAt 79 133 = some (.if_icmp .le 7, 3, 0, 0) := by decide +kernel
theorem r79_136 : rowAt 79 136 = some (.iconst 1, 1, 0, 0) := by decide +kernel
theorem r79_137 : rowAt 79 137 = some (.goto 4, 3, 0, 0) := by decide +kernel
theorem r79_140 : rowAt 79 140 = some (.iconst 0, 1, 0, 0) := by decide +kernel
theorem r79_141 : rowAt 79 141 = some (.ireturn, 1, 0, 0) := by decide +kernel
theorem en79 (a0 : Nat) (a1 : Nat) (a2 : Nat) : iniL 79 [.ref a0, .ref a1, .ref a2] = [.ref a0, .ref a1, .ref a2, .null, .null] := ini_n mi79 rfl
theorem b79_0 (d : Nat) (l0 : Nat) (l1 : Nat) (l2 : Nat) (h : aH) (K : Option Value → aH → Prop) : E scr false d 79 0 [.ref l0, .ref l1, .ref l2, .null, .null] [] h K = gI scr h l1 5 6 (fun x1 : Int32 => gI scr h l1 5 5 (fun x2 : Int32 => pF h l1 5 5 (.int (x2 + 1)) (fun h3 : aH => pF h3 l0 7 7 (.int 0) (fun h4 : aH => E scr false d 79 23 [.ref l0, .ref l1, .ref l2, .int x1, .int 0] [] h4 K)))) := go (w := (1, [.ref l0, .ref l1, .ref l2, .null, .null], [.ref l1], h)) r79_0 rfl rfl (E_gI r79_1 rfl (fun x1 => go (w := (5, [.ref l0, .ref l1, .ref l2, .int x1, .null], [], h)) r79_4 rfl rfl (go (w := (6, [.ref l0, .ref l1, .ref l2, .int x1, .null], [.ref l1], h)) r79_5 rfl rfl (go (w := (7, [.ref l0, .ref l1, .ref l2, .int x1, .null], [.ref l1, .ref l1], h)) r79_6 rfl rfl (E_gI r79_7 rfl (fun x2 => E_ic r79_10 (v := 1) (by decide) (go (w := (12, [.ref l0, .ref l1, .ref l2, .int x1, .null], [.int (x2 + 1), .ref l1], h)) r79_11 rfl rfl (E_pI r79_12 ⟨rfl, rfl⟩ (fun h3 => go (w := (16, [.ref l0, .ref l1, .ref l2, .int x1, .null], [.ref l0], h3)) r79_15 rfl rfl (E_ic r79_16 (v := 0) (by decide) (E_pI r79_17 ⟨rfl, rfl⟩ (fun h4 => E_ic r79_20 (v := 0) (by decide) (go (w := (23, [.ref l0, .ref l1, .ref l2, .int x1, .int 0], [], h4)) r79_21 rfl rfl (rfl))))))))))))))
theorem b79_23 (d : Nat) (l0 : Nat) (l1 : Nat) (l2 : Nat) (l3 : Int32) (l4 : Int32) (h : aH) (K : Option Value → aH → Prop) : E scr false (d + 1) 79 23 [.ref l0, .ref l1, .ref l2, .int l3, .int l4] [] h K = gI scr h l1 5 3 (fun x1 : Int32 => (if x1 ≤ l4 then E scr false (d + 1) 79 121 [.ref l0, .ref l1, .ref l2, .int l3, .int l4] [] h K else (if 12 ≤ l4 then E scr false (d + 1) 79 121 [.ref l0, .ref l1, .ref l2, .int l3, .int l4] [] h K else gR scr h l0 7 6 (fun x2 : Nat => wI h x2 l4 ((-1)) (fun h3 : aH => gR scr h3 l1 5 10 (fun x4 : Nat => aI scr h3 x4 l4 (fun x5 : Int32 => (if x5 < 0 then E scr false (d + 1) 79 115 [.ref l0, .ref l1, .ref l2, .int l3, .int l4] [] h3 K else vV scr d 81 [.ref l0, .ref l1, .int l4] h3 (fun h6 : aH => gR scr h6 l0 7 6 (fun x8 : Nat => vI scr d 84 [.ref l0, .ref l1, .ref l2, .int l4] h6 (fun (x10 : Int32) (h9 : aH) => wI h9 x8 l4 x10 (fun h11 : aH => gI scr h11 l0 7 7 (fun x12 : Int32 => gR scr h11 l0 7 6 (fun x13 : Nat => aI scr h11 x13 l4 (fun x14 : Int32 => sI scr d 88 [.ref l1, .int l4, .int x14] h11 (fun (x16 : Int32) (h15 : aH) => (if x16 = 0 then E scr false (d + 1) 79 105 [.ref l0, .ref l1, .ref l2, .int l3, .int l4] [.int 0, .int x12, .ref l0] h15 K else E scr false (d + 1) 79 105 [.ref l0, .ref l1, .ref l2, .int l3, .int l4] [.int 1, .int x12, .ref l0] h15 K))))))))))))))))) := go (w := (25, [.ref l0, .ref l1, .ref l2, .int l3, .int l4], [.int l4], h)) r79_23 rfl rfl (go (w := (26, [.ref l0, .ref l1, .ref l2, .int l3, .int l4], [.ref l1, .int l4], h)) r79_25 rfl rfl (E_gI r79_26 rfl (fun x1 => E_i2_ge r79_29 rfl (rfl) (go (w := (34, [.ref l0, .ref l1, .ref l2, .int l3, .int l4], [.int l4], h)) r79_32 rfl rfl (E_bip r79_34 (v := 12) (by decide) (E_i2_ge r79_36 rfl (rfl) (go (w := (40, [.ref l0, .ref l1, .ref l2, .int l3, .int l4], [.ref l0], h)) r79_39 rfl rfl (E_gR r79_40 rfl (fun x2 => go (w := (45, [.ref l0, .ref l1, .ref l2, .int l3, .int l4], [.int l4, .ref x2], h)) r79_43 rfl rfl (E_ic r79_45 (v := (-1)) (by decide) (E_wI r79_46 (fun h3 => go (w := (48, [.ref l0, .ref l1, .ref l2, .int l3, .int l4], [.ref l1], h3)) r79_47 rfl rfl (E_gR r79_48 rfl (fun x4 => go (w := (53, [.ref l0, .ref l1, .ref l2, .int l3, .int l4], [.int l4, .ref x4], h3)) r79_51 rfl rfl (E_aI r79_53 (fun x5 => E_i1_lt r79_54 rfl (rfl) (go (w := (58, [.ref l0, .ref l1, .ref l2, .int l3, .int l4], [.ref l0], h3)) r79_57 rfl rfl (go (w := (59, [.ref l0, .ref l1, .ref l2, .int l3, .int l4], [.ref l1, .ref l0], h3)) r79_58 rfl rfl (go (w := (61, [.ref l0, .ref l1, .ref l2, .int l3, .int l4], [.int l4, .ref l1, .ref l0], h3)) r79_59 rfl rfl (E_vV r79_61 (As := [.ref l0, .ref l1, .int l4]) (rest := []) (cut_n mi81.1 rfl rfl) (rm8_n mi81.2.1 (Nat.le_of_ble_eq_true rfl) (Nat.le_of_ble_eq_true rfl)) mi81.2.2 (fun h6 => go (w := (65, [.ref l0, .ref l1, .ref l2, .int l3, .int l4], [.ref l0], h6)) r79_64 rfl rfl (E_gR r79_65 rfl (fun x8 => go (w := (70, [.ref l0, .ref l1, .ref l2, .int l3, .int l4], [.int l4, .ref x8], h6)) r79_68 rfl rfl (go (w := (71, [.ref l0, .ref l1, .ref l2, .int l3, .int l4], [.ref l0, .int l4, .ref x8], h6)) r79_70 rfl rfl (go (w := (72, [.ref l0, .ref l1, .ref l2, .int l3, .int l4], [.ref l1, .ref l0, .int l4, .ref x8], h6)) r79_71 rfl rfl (go (w := (73, [.ref l0, .ref l1, .ref l2, .int l3, .int l4], [.ref l2, .ref l1, .ref l0, .int l4, .ref x8], h6)) r79_72 rfl rfl (go (w := (75, [.ref l0, .ref l1, .ref l2, .int l3, .int l4], [.int l4, .ref l2, .ref l1, .ref l0, .int l4, .ref x8], h6)) r79_73 rfl rfl (E_vI r79_75 (As := [.ref l0, .ref l1, .ref l2, .int l4]) (rest := [.int l4, .ref x8]) (cut_n mi84.1 rfl rfl) (rm8_n mi84.2.1 (Nat.le_of_ble_eq_true rfl) (Nat.le_of_ble_eq_true rfl)) mi84.2.2 (fun x10 h9 => E_wI r79_78 (fun h11 => go (w := (80, [.ref l0, .ref l1, .ref l2, .int l3, .int l4], [.ref l0], h11)) r79_79 rfl rfl (go (w := (81, [.ref l0, .ref l1, .ref l2, .int l3, .int l4], [.ref l0, .ref l0], h11)) r79_80 rfl rfl (E_gI r79_81 rfl (fun x12 => go (w := (85, [.ref l0, .ref l1, .ref l2, .int l3, .int l4], [.ref l1, .int x12, .ref l0], h11)) r79_84 rfl rfl (go (w := (87, [.ref l0, .ref l1, .ref l2, .int l3, .int l4], [.int l4, .ref l1, .int x12, .ref l0], h11)) r79_85 rfl rfl (go (w := (88, [.ref l0, .ref l1, .ref l2, .int l3, .int l4], [.ref l0, .int l4, .ref l1, .int x12, .ref l0], h11)) r79_87 rfl rfl (E_gR r79_88 rfl (fun x13 => go (w := (93, [.ref l0, .ref l1, .ref l2, .int l3, .int l4], [.int l4, .ref x13, .int l4, .ref l1, .int x12, .ref l0], h11)) r79_91 rfl rfl (E_aI r79_93 (fun x14 => E_sI r79_94 (As := [.ref l1, .int l4, .int x14]) (rest := [.int x12, .ref l0]) (cut_n mi88.1 rfl rfl) (rm8_n mi88.2.1 (Nat.le_of_ble_eq_true rfl) (Nat.le_of_ble_eq_true rfl)) mi88.2.2 (fun x16 h15 => E_i1_eq r79_97 rfl (E_ic r79_104 (v := 0) (by decide) (rfl)) (E_ic r79_100 (v := 1) (by decide) (E_gt r79_101 rfl (rfl)))))))))))))))))))))))))))))))))))))))))))
theorem b79_105 (d : Nat) (l0 : Nat) (l1 : Nat) (l2 : Nat) (l3 : Int32) (l4 : Int32) (s0 : Int32) (s1 : Int32) (s2 : Nat) (h : aH) (K : Option Value → aH → Prop) : E scr false (d + 1) 79 105 [.ref l0, .ref l1, .ref l2, .int l3, .int l4] [.int s0, .int s1, .ref s2] h K = pF h s2 7 7 (.int (s1 + s0)) (fun h1 : aH => sV scr d 89 [.ref l1, .int l4] h1 (fun h2 : aH => E scr false (d + 1) 79 115 [.ref l0, .ref l1, .ref l2, .int l3, .int l4] [] h2 K)) := go (w := (106, [.ref l0, .ref l1, .ref l2, .int l3, .int l4], [.int (s1 + s0), .ref s2], h)) r79_105 rfl rfl (E_pI r79_106 ⟨rfl, rfl⟩ (fun h1 => go (w := (110, [.ref l0, .ref l1, .ref l2, .int l3, .int l4], [.ref l1], h1)) r79_109 rfl rfl (go (w := (112, [.ref l0, .ref l1, .ref l2, .int l3, .int l4], [.int l4, .ref l1], h1)) r79_110 rfl rfl (E_sV r79_112 (As := [.ref l1, .int l4]) (rest := []) (cut_n mi89.1 rfl rfl) (rm8_n mi89.2.1 (Nat.le_of_ble_eq_true rfl) (Nat.le_of_ble_eq_true rfl)) mi89.2.2 (fun h2 => rfl)))))
theorem b79_115 (d : Nat) (l0 : Nat) (l1 : Nat) (l2 : Nat) (l3 : Int32) (l4 : Int32) (h : aH) (K : Option Value → aH → Prop) : E scr false d 79 115 [.ref l0, .ref l1, .ref l2, .int l3, .int l4] [] h K = E scr false d 79 23 [.ref l0, .ref l1, .ref l2, .int l3, .int (l4 + 1)] [] h K := E_inc r79_115 (c := 1) rfl (by decide) (L' := [.ref l0, .ref l1, .ref l2, .int l3, .int (l4 + 1)]) rfl (E_gt r79_118 rfl (rfl))
theorem b79_121 (d : Nat) (l0 : Nat) (l1 : Nat) (l2 : Nat) (l3 : Int32) (l4 : Int32) (h : aH) (K : Option Value → aH → Prop) : E scr false d 79 121 [.ref l0, .ref l1, .ref l2, .int l3, .int l4] [] h K = gI scr h l0 7 7 (fun x1 : Int32 => (if 0 < x1 then E scr false d 79 136 [.ref l0, .ref l1, .ref l2, .int l3, .int l4] [] h K else gI scr h l1 5 6 (fun x2 : Int32 => (if x2 ≤ l3 then K (some (.int 0)) h else E scr false d 79 136 [.ref l0, .ref l1, .ref l2, .int l3, .int l4] [] h K)))) := go (w := (122, [.ref l0, .ref l1, .ref l2, .int l3, .int l4], [.ref l0], h)) r79_121 rfl rfl (E_gI r79_122 rfl (fun x1 => E_i1_gt r79_125 rfl (rfl) (go (w := (129, [.ref l0, .ref l1, .ref l2, .int l3, .int l4], [.ref l1], h)) r79_128 rfl rfl (E_gI r79_129 rfl (fun x2 => go (w := (133, [.ref l0, .ref l1, .ref l2, .int l3, .int l4], [.int l3, .int x2], h)) r79_132 rfl rfl (E_i2_le r79_133 rfl (E_ic r79_140 (v := 0) (by decide) (E_rz r79_141 (mq79) (by decide))) (rfl)))))))
theorem b79_136 (d : Nat) (l0 : Nat) (l1 : Nat) (l2 : Nat) (l3 : Int32) (l4 : Int32) (h : aH) (K : Option Value → aH → Prop) : E scr false d 79 136 [.ref l0, .ref l1, .ref l2, .int l3, .int l4] [] h K = K (some (.int 1)) h := E_ic r79_136 (v := 1) (by decide) (E_gt r79_137 rfl (E_rz r79_141 (mq79) (by decide)))
-- 80 SecondNearest$Walker.askAll(LSecondNearest$Scene;LSecondNearest$Law;)V
theorem mq80 : mRet 80 = none := by decide +kernel
theorem r80_0 : rowAt 80 0 = some (.iconst 0, 1, 0, 0) := by decide +kernel
theorem r80_1 : rowAt 80 1 = some (.istore_n 3, 1, 0, 0) := by decide +kernel
theorem r80_2 : rowAt 80 2 = some (.iload_n 3, 1, 0, 0) := by decide +kernel
theorem r80_3 : rowAt 80 3 = some (.aload_n 1, 1, 0, 0) := by decide +kernel
theorem r80_4 : rowAt 80 4 = some (.getfield 42, 3, 5, 3) := by decide +kernel
theorem r80_7 : rowAt 80 7 = some (.if_icmp .ge 50, 3, 0, 0) := by decide +kernel
theorem r80_10 : rowAt 80 10 = some (.iload_n 3, 1, 0, 0) := by decide +kernel
theorem r80_11 : rowAt 80 11 = some (.bipush 12, 2, 0, 0) := by decide +kernel
theorem r80_13 : rowAt 80 13 = some (.if_icmp .ge 44, 3, 0, 0) := by decide +kernel
theorem r80_16 : rowAt 80 16 = some (.aload_n 0, 1, 0, 0) := by decide +kernel
theorem r80_17 : rowAt 80 17 = some (.getfield 19, 3, 7, 6) := by decide +kernel
theorem r80_20 : rowAt 80 20 = some (.iload_n 3, 1, 0, 0) := by decide +kernel
theorem r80_21 : rowAt 80 21 = some (.iconst (-1), 1, 0, 0) := by decide +kernel
theorem r80_22 : rowAt 80 22 = some (.iastore, 1, 0, 0) := by decide +kernel
theorem r80_23 : rowAt 80 23 = some (.aload_n 1, 1, 0, 0) := by decide +kernel
theorem r80_24 : rowAt 80 24 = some (.getfield 45, 3, 5, 10) := by decide +kernel
theorem r80_27 : rowAt 80 27 = some (.iload_n 3, 1, 0, 0) := by decide +kernel
theorem r80_28 : rowAt 80 28 = some (.iaload, 1, 0, 0) := by decide +kernel
theorem r80_29 : rowAt 80 29 = some (.ifCond .lt 22, 3, 0, 0) := by decide +kernel
theorem r80_32 : rowAt 80 32 = some (.aload_n 0, 1, 0, 0) := by decide +kernel
theorem r80_33 : rowAt 80 33 = some (.aload_n 1, 1, 0, 0) := by decide +kernel
theorem r80_34 : rowAt 80 34 = some (.iload_n 3, 1, 0, 0) := by decide +kernel
theorem r80_35 : rowAt 80 35 = some (.invokevirtual 48, 3, 81, 0) := by decide +kernel
theorem r80_38 : rowAt 80 38 = some (.aload_n 0, 1, 0, 0) := by decide +kernel
theorem r80_39 : rowAt 80 39 = some (.getfield 19, 3, 7, 6) := by decide +kernel
theorem r80_42 : rowAt 80 42 = some (.iload_n 3, 1, 0, 0) := by decide +kernel
theorem r80_43 : rowAt 80 43 = some (.aload_n 0, 1, 0, 0) := by decide +kernel
theorem r80_44 : rowAt 80 44 = some (.aload_n 1, 1, 0, 0) := by decide +kernel
theorem r80_45 : rowAt 80 45 = some (.aload_n 2, 1, 0, 0) := by decide +kernel
theorem r80_46 : rowAt 80 46 = some (.iload_n 3, 1, 0, 0) := by decide +kernel
theorem r80_47 : rowAt 80 47 = some (.invokevirtual 52, 3, 84, 0) := by decide +kernel
theorem r80_50 : rowAt 80 50 = some (.iastore, 1, 0, 0) := by decide +kernel
theorem r80_51 : rowAt 80 51 = some (.iinc 3 1, 3, 0, 0) := by decide +kernel
theorem r80_54 : rowAt 80 54 = some (.goto (-52), 3, 0, 0) := by decide +kernel
theorem r80_57 : rowAt 80 57 = some (.return_, 1, 0, 0) := by decide +kernel
theorem en80 (a0 : Nat) (a1 : Nat) (a2 : Nat) : iniL 80 [.ref a0, .ref a1, .ref a2] = [.ref a0, .ref a1, .ref a2, .null] := ini_n mi80 rfl
theorem b80_0 (d : Nat) (l0 : Nat) (l1 : Nat) (l2 : Nat) (h : aH) (K : Option Value → aH → Prop) : E scr false d 80 0 [.ref l0, .ref l1, .ref l2, .null] [] h K = E scr false d 80 2 [.ref l0, .ref l1, .ref l2, .int 0] [] h K := E_ic r80_0 (v := 0) (by decide) (go (w := (2, [.ref l0, .ref l1, .ref l2, .int 0], [], h)) r80_1 rfl rfl (rfl))
theorem b80_2 (d : Nat) (l0 : Nat) (l1 : Nat) (l2 : Nat) (l3 : Int32) (h : aH) (K : Option Value → aH → Prop) : E scr false (d + 1) 80 2 [.ref l0, .ref l1, .ref l2, .int l3] [] h K = gI scr h l1 5 3 (fun x1 : Int32 => (if x1 ≤ l3 then K none h else (if 12 ≤ l3 then K none h else gR scr h l0 7 6 (fun x2 : Nat => wI h x2 l3 ((-1)) (fun h3 : aH => gR scr h3 l1 5 10 (fun x4 : Nat => aI scr h3 x4 l3 (fun x5 : Int32 => (if x5 < 0 then E scr false (d + 1) 80 51 [.ref l0, .ref l1, .ref l2, .int l3] [] h3 K else vV scr d 81 [.ref l0, .ref l1, .int l3] h3 (fun h6 : aH => gR scr h6 l0 7 6 (fun x8 : Nat => vI scr d 84 [.ref l0, .ref l1, .ref l2, .int l3] h6 (fun (x10 : Int32) (h9 : aH) => wI h9 x8 l3 x10 (fun h11 : aH => E scr false (d + 1) 80 51 [.ref l0, .ref l1, .ref l2, .int l3] [] h11 K)))))))))))) := go (w := (3, [.ref l0, .ref l1, .ref l2, .int l3], [.int l3], h)) r80_2 rfl rfl (go (w := (4, [.ref l0, .ref l1, .ref l2, .int l3], [.ref l1, .int l3], h)) r80_3 rfl rfl (E_gI r80_4 rfl (fun x1 => E_i2_ge r80_7 rfl (E_vret r80_57 (mq80)) (go (w := (11, [.ref l0, .ref l1, .ref l2, .int l3], [.int l3], h)) r80_10 rfl rfl (E_bip r80_11 (v := 12) (by decide) (E_i2_ge r80_13 rfl (E_vret r80_57 (mq80)) (go (w := (17, [.ref l0, .ref l1, .ref l2, .int l3], [.ref l0], h)) r80_16 rfl rfl (E_gR r80_17 rfl (fun x2 => go (w := (21, [.ref l0, .ref l1, .ref l2, .int l3], [.int l3, .ref x2], h)) r80_20 rfl rfl (E_ic r80_21 (v := (-1)) (by decide) (E_wI r80_22 (fun h3 => go (w := (24, [.ref l0, .ref l1, .ref l2, .int l3], [.ref l1], h3)) r80_23 rfl rfl (E_gR r80_24 rfl (fun x4 => go (w := (28, [.ref l0, .ref l1, .ref l2, .int l3], [.int l3, .ref x4], h3)) r80_27 rfl rfl (E_aI r80_28 (fun x5 => E_i1_lt r80_29 rfl (rfl) (go (w := (33, [.ref l0, .ref l1, .ref l2, .int l3], [.ref l0], h3)) r80_32 rfl rfl (go (w := (34, [.ref l0, .ref l1, .ref l2, .int l3], [.ref l1, .ref l0], h3)) r80_33 rfl rfl (go (w := (35, [.ref l0, .ref l1, .ref l2, .int l3], [.int l3, .ref l1, .ref l0], h3)) r80_34 rfl rfl (E_vV r80_35 (As := [.ref l0, .ref l1, .int l3]) (rest := []) (cut_n mi81.1 rfl rfl) (rm8_n mi81.2.1 (Nat.le_of_ble_eq_true rfl) (Nat.le_of_ble_eq_true rfl)) mi81.2.2 (fun h6 => go (w := (39, [.ref l0, .ref l1, .ref l2, .int l3], [.ref l0], h6)) r80_38 rfl rfl (E_gR r80_39 rfl (fun x8 => go (w := (43, [.ref l0, .ref l1, .ref l2, .int l3], [.int l3, .ref x8], h6)) r80_42 rfl rfl (go (w := (44, [.ref l0, .ref l1, .ref l2, .int l3], [.ref l0, .int l3, .ref x8], h6)) r80_43 rfl rfl (go (w := (45, [.ref l0, .ref l1, .ref l2, .int l3], [.ref l1, .ref l0, .int l3, .ref x8], h6)) r80_44 rfl rfl (go (w := (46, [.ref l0, .ref l1, .ref l2, .int l3], [.ref l2, .ref l1, .ref l0, .int l3, .ref x8], h6)) r80_45 rfl rfl (go (w := (47, [.ref l0, .ref l1, .ref l2, .int l3], [.int l3, .ref l2, .ref l1, .ref l0, .int l3, .ref x8], h6)) r80_46 rfl rfl (E_vI r80_47 (As := [.ref l0, .ref l1, .ref l2, .int l3]) (rest := [.int l3, .ref x8]) (cut_n mi84.1 rfl rfl) (rm8_n mi84.2.1 (Nat.le_of_ble_eq_true rfl) (Nat.le_of_ble_eq_true rfl)) mi84.2.2 (fun x10 h9 => E_wI r80_50 (fun h11 => rfl))))))))))))))))))))))))))))))
theorem b80_51 (d : Nat) (l0 : Nat) (l1 : Nat) (l2 : Nat) (l3 : Int32) (h : aH) (K : Option Value → aH → Prop) : E scr false d 80 51 [.ref l0, .ref l1, .ref l2, .int l3] [] h K = E scr false d 80 2 [.ref l0, .ref l1, .ref l2, .int (l3 + 1)] [] h K := E_inc r80_51 (c := 1) rfl (by decide) (L' := [.ref l0, .ref l1, .ref l2, .int (l3 + 1)]) rfl (E_gt r80_54 rfl (rfl))
-- 81 SecondNearest$Walker.look(LSecondNearest$Scene;I)V
theorem mq81 : mRet 81 = none := by decide +kernel
theorem r81_0 : rowAt 81 0 = some (.aload_n 0, 1, 0, 0) := by decide +kernel
theorem r81_1 : rowAt 81 1 = some (.iconst 0, 1, 0, 0) := by decide +kernel
theorem r81_2 : rowAt 81 2 = some (.putfield 63, 3, 7, 3) := by decide +kernel
theorem r81_5 : rowAt 81 5 = some (.aload_n 0, 1, 0, 0) := by decide +kernel
theorem r81_6 : rowAt 81 6 = some (.iconst 0, 1, 0, 0) := by decide +kernel
theorem r81_7 : rowAt 81 7 = some (.putfield 66, 3, 7, 4) := by decide +kernel
theorem r81_10 : rowAt 81 10 = some (.aload_n 0, 1, 0, 0) := by decide +kernel
theorem r81_11 : rowAt 81 11 = some (.iconst 1, 1, 0, 0) := by decide +kernel
theorem r81_12 : rowAt 81 12 = some (.putfield 69, 3, 7, 5) := by decide +kernel
theorem r81_15 : rowAt 81 15 = some (.iload_n 2, 1, 0, 0) := by decide +kernel
theorem r81_16 : rowAt 81 16 = some (.ifCond .lt 18, 3, 0, 0) := by decide +kernel
theorem r81_19 : rowAt 81 19 = some (.iload_n 2, 1, 0, 0) := by decide +kernel
theorem r81_20 : rowAt 81 20 = some (.bipush 14, 2, 0, 0) := by decide +kernel
theorem r81_22 : rowAt 81 22 = some (.if_icmp .ge 12, 3, 0, 0) := by decide +kernel
theorem r81_25 : rowAt 81 25 = some (.aload_n 1, 1, 0, 0) := by decide +kernel
theorem r81_26 : rowAt 81 26 = some (.getfield 45, 3, 5, 10) := by decide +kernel
theorem r81_29 : rowAt 81 29 = some (.iload_n 2, 1, 0, 0) := by decide +kernel
theorem r81_30 : rowAt 81 30 = some (.iaload, 1, 0, 0) := by decide +kernel
theorem r81_31 : rowAt 81 31 = some (.goto 4, 3, 0, 0) := by decide +kernel
theorem r81_34 : rowAt 81 34 = some (.iconst (-1), 1, 0, 0) := by decide +kernel
theorem r81_35 : rowAt 81 35 = some (.istore_n 3, 1, 0, 0) := by decide +kernel
theorem r81_36 : rowAt 81 36 = some (.iload_n 2, 1, 0, 0) := by decide +kernel
theorem r81_37 : rowAt 81 37 = some (.ifCond .lt 18, 3, 0, 0) := by decide +kernel
theorem r81_40 : rowAt 81 40 = some (.iload_n 2, 1, 0, 0) := by decide +kernel
theorem r81_41 : rowAt 81 41 = some (.bipush 12, 2, 0, 0) := by decide +kernel
theorem r81_43 : rowAt 81 43 = some (.if_icmp .ge 12, 3, 0, 0) := by decide +kernel
theorem r81_46 : rowAt 81 46 = some (.aload_n 1, 1, 0, 0) := by decide +kernel
theorem r81_47 : rowAt 81 47 = some (.getfield 73, 3, 5, 11) := by decide +kernel
theorem r81_50 : rowAt 81 50 = some (.iload_n 2, 1, 0, 0) := by decide +kernel
theorem r81_51 : rowAt 81 51 = some (.iaload, 1, 0, 0) := by decide +kernel
theorem r81_52 : rowAt 81 52 = some (.goto 5, 3, 0, 0) := by decide +kernel
theorem r81_55 : rowAt 81 55 = some (.bipush 99, 2, 0, 0) := by decide +kernel
theorem r81_57 : rowAt 81 57 = some (.istore 4, 2, 0, 0) := by decide +kernel
theorem r81_59 : rowAt 81 59 = some (.iconst 0, 1, 0, 0) := by decide +kernel
theorem r81_60 : rowAt 81 60 = some (.istore 5, 2, 0, 0) := by decide +kernel
theorem r81_62 : rowAt 81 62 = some (.iload_n 3, 1, 0, 0) := by decide +kernel
theorem r81_63 : rowAt 81 63 = some (.ifCond .lt 151, 3, 0, 0) := by decide +kernel
theorem r81_66 : rowAt 81 66 = some (.iload 5, 2, 0, 0) := by decide +kernel
theorem r81_68 : rowAt 81 68 = some (.bipush 14, 2, 0, 0) := by decide +kernel
theorem r81_70 : rowAt 81 70 = some (.if_icmp .ge 144, 3, 0, 0) := by decide +kernel
theorem r81_73 : rowAt 81 73 = some (.aload_n 1, 1, 0, 0) := by decide +kernel
theorem r81_74 : rowAt 81 74 = some (.getfield 45, 3, 5, 10) := by decide +kernel
theorem r81_77 : rowAt 81 77 = some (.iload 5, 2, 0, 0) := by decide +kernel
theorem r81_79 : rowAt 81 79 = some (.iaload, 1, 0, 0) := by decide +kernel
theorem r81_80 : rowAt 81 80 = some (.istore 6, 2, 0, 0) := by decide +kernel
theorem r81_82 : rowAt 81 82 = some (.iload 5, 2, 0, 0) := by decide +kernel
theorem r81_84 : rowAt 81 84 = some (.iload_n 2, 1, 0, 0) := by decide +kernel
theorem r81_85 : rowAt 81 85 = some (.if_icmp .eq 123, 3, 0, 0) := by decide +kernel
theorem r81_88 : rowAt 81 88 = some (.iload 6, 2, 0, 0) := by decide +kernel
theorem r81_90 : rowAt 81 90 = some (.ifCond .lt 118, 3, 0, 0) := by decide +kernel
theorem r81_93 : rowAt 81 93 = some (.aload_n 0, 1, 0, 0) := by decide +kernel
theorem r81_94 : rowAt 81 94 = some (.getfield 22, 3, 7, 0) := by decide +kernel
theorem r81_97 : rowAt 81 97 = some (.aload_n 1, 1, 0, 0) := by decide +kernel
theorem r81_98 : rowAt 81 98 = some (.getfield 76, 3, 5, 8) := by decide +kernel
theorem r81_101 : rowAt 81 101 = some (.iload_n 3, 1, 0, 0) := by decide +kernel
theorem r81_102 : rowAt 81 102 = some (.iload 6, 2, 0, 0) := by decide +kernel
theorem r81_104 : rowAt 81 104 = some (.invokevirtual 80, 3, 2, 0) := by decide +kernel
theorem r81_107 : rowAt 81 107 = some (.ifCond .ne 6, 3, 0, 0) := by decide +kernel
theorem r81_110 : rowAt 81 110 = some (.goto 98, 3, 0, 0) := by decide +kernel
theorem r81_113 : rowAt 81 113 = some (.iload_n 3, 1, 0, 0) := by decide +kernel
theorem r81_114 : rowAt 81 114 = some (.iload 6, 2, 0, 0) := by decide +kernel
theorem r81_116 : rowAt 81 116 = some (.invokestatic 86, 3, 90, 1) := by decide +kernel
theorem r81_119 : rowAt 81 119 = some (.istore 7, 2, 0, 0) := by decide +kernel
theorem r81_121 : rowAt 81 121 = some (.iload 5, 2, 0, 0) := by decide +kernel
theorem r81_123 : rowAt 81 123 = some (.bipush 12, 2, 0, 0) := by decide +kernel
theorem r81_125 : rowAt 81 125 = some (.if_icmp .ge 16, 3, 0, 0) := by decide +kernel
theorem r81_128 : rowAt 81 128 = some (.bipush 99, 2, 0, 0) := by decide +kernel
theorem r81_130 : rowAt 81 130 = some (.aload_n 1, 1, 0, 0) := by decide +kernel
theorem r81_131 : rowAt 81 131 = some (.getfield 73, 3, 5, 11) := by decide +kernel
theorem r81_134 : rowAt 81 134 = some (.iload 5, 2, 0, 0) := by decide +kernel
theorem r81_136 : rowAt 81 136 = some (.iaload, 1, 0, 0) := by decide +kernel
theorem r81_137 : rowAt 81 137 = some (.isub, 1, 0, 0) := by decide +kernel
theorem r81_138 : rowAt 81 138 = some (.goto 5, 3, 0, 0) := by decide +kernel
theorem r81_141 : rowAt 81 141 = some (.bipush 100, 2, 0, 0) := by decide +kernel
theorem r81_143 : rowAt 81 143 = some (.istore 8, 2, 0, 0) := by decide +kernel
theorem r81_145 : rowAt 81 145 = some (.aload_n 0, 1, 0, 0) := by decide +kernel
theorem r81_146 : rowAt 81 146 = some (.iload 7, 2, 0, 0) := by decide +kernel
theorem r81_148 : rowAt 81 148 = some (.bipush 12, 2, 0, 0) := by decide +kernel
theorem r81_150 : rowAt 81 150 = some (.ishl, 1, 0, 0) := by decide +kernel
theorem r81_151 : rowAt 81 151 = some (.iload 8, 2, 0, 0) := by decide +kernel
theorem r81_153 : rowAt 81 153 = some (.iconst 4, 1, 0, 0) := by decide +kernel
theorem r81_154 : rowAt 81 154 = some (.ishl, 1, 0, 0) := by decide +kernel
theorem r81_155 : rowAt 81 155 = some (.iadd, 1, 0, 0) := by decide +kernel
theorem r81_156 : rowAt 81 156 = some (.iload 5, 2, 0, 0) := by decide +kernel
theorem r81_158 : rowAt 81 158 = some (.iadd, 1, 0, 0) := by decide +kernel
theorem r81_159 : rowAt 81 159 = some (.invokevirtual 90, 3, 82, 0) := by decide +kernel
theorem r81_162 : rowAt 81 162 = some (.aload_n 0, 1, 0, 0) := by decide +kernel
theorem r81_163 : rowAt 81 163 = some (.dup, 1, 0, 0) := by decide +kernel
theorem r81_164 : rowAt 81 164 = some (.getfield 66, 3, 7, 4) := by decide +kernel
theorem r81_167 : rowAt 81 167 = some (.iload 7, 2, 0, 0) := by decide +kernel
theorem r81_169 : rowAt 81 169 = some (.iconst 2, 1, 0, 0) := by decide +kernel
theorem r81_170 : rowAt 81 170 = some (.if_icmp .gt 7, 3, 0, 0) := by decide +kernel
theorem r81_173 : rowAt 81 173 = some (.iconst 1, 1, 0, 0) := by decide +kernel
theorem r81_174 : rowAt 81 174 = some (.goto 4, 3, 0, 0) := by decide +kernel
theorem r81_177 : rowAt 81 177 = some (.iconst 0, 1, 0, 0) := by decide +kernel
theorem r81_178 : rowAt 81 178 = some (.iadd, 1, 0, 0) := by decide +kernel
theorem r81_179 : rowAt 81 179 = some (.putfield 66, 3, 7, 4) := by decide +kernel
theorem r81_182 : rowAt 81 182 = some (.aload_n 0, 1, 0, 0) := by decide +kernel
theorem r81_183 : rowAt 81 183 = some (.aload_n 0, 1, 0, 0) := by decide +kernel
theorem r81_184 : rowAt 81 184 = some (.getfield 69, 3, 7, 5) := by decide +kernel
theorem r81_187 : rowAt 81 187 = some (.ifCond .eq 17, 3, 0, 0) := by decide +kernel
theorem r81_190 : rowAt 81 190 = some (.bipush 99, 2, 0, 0) := by decide +kernel
theorem r81_192 : rowAt 81 192 = some (.iload 8, 2, 0, 0) := by decide +kernel
theorem r81_194 : rowAt 81 194 = some (.isub, 1, 0, 0) := by decide +kernel
theorem r81_195 : rowAt 81 195 = some (.iload 4, 2, 0, 0) := by decide +kernel
theorem r81_197 : rowAt 81 197 = some (.if_icmp .gt 7, 3, 0, 0) := by decide +kernel
theorem r81_200 : rowAt 81 200 = some (.iconst 1, 1, 0, 0) := by decide +kernel
theorem r81_201 : rowAt 81 201 = some (.goto 4, 3, 0, 0) := by decide +kernel
theorem r81_204 : rowAt 81 204 = some (.iconst 0, 1, 0, 0) := by decide +kernel
theorem r81_205 : rowAt 81 205 = some (.putfield 69, 3, 7, 5) := by decide +kernel
theorem r81_208 : rowAt 81 208 = some (.iinc 5 1, 3, 0, 0) := by decide +kernel
theorem r81_211 : rowAt 81 211 = some (.goto (-149), 3, 0, 0) := by decide +kernel
theorem r81_214 : rowAt 81 214 = some (.return_, 1, 0, 0) := by decide +kernel
theorem en81 (a0 : Nat) (a1 : Nat) (a2 : Int32) : iniL 81 [.ref a0, .ref a1, .int a2] = [.ref a0, .ref a1, .int a2, .null, .null, .null, .null, .null, .null] := ini_n mi81 rfl
theorem b81_0 (d : Nat) (l0 : Nat) (l1 : Nat) (l2 : Int32) (h : aH) (K : Option Value → aH → Prop) : E scr false d 81 0 [.ref l0, .ref l1, .int l2, .null, .null, .null, .null, .null, .null] [] h K = pF h l0 7 3 (.int 0) (fun h1 : aH => pF h1 l0 7 4 (.int 0) (fun h2 : aH => (((1 : Int32) = 0 ∨ (1 : Int32) = 1) ∧ pF h2 l0 7 5 (.int 1) (fun h3 : aH => (if l2 < 0 then E scr false d 81 34 [.ref l0, .ref l1, .int l2, .null, .null, .null, .null, .null, .null] [] h3 K else (if 14 ≤ l2 then E scr false d 81 34 [.ref l0, .ref l1, .int l2, .null, .null, .null, .null, .null, .null] [] h3 K else gR scr h3 l1 5 10 (fun x4 : Nat => aI scr h3 x4 l2 (fun x5 : Int32 => E scr false d 81 35 [.ref l0, .ref l1, .int l2, .null, .null, .null, .null, .null, .null] [.int x5] h3 K)))))))) := go (w := (1, [.ref l0, .ref l1, .int l2, .null, .null, .null, .null, .null, .null], [.ref l0], h)) r81_0 rfl rfl (E_ic r81_1 (v := 0) (by decide) (E_pI r81_2 ⟨rfl, rfl⟩ (fun h1 => go (w := (6, [.ref l0, .ref l1, .int l2, .null, .null, .null, .null, .null, .null], [.ref l0], h1)) r81_5 rfl rfl (E_ic r81_6 (v := 0) (by decide) (E_pI r81_7 ⟨rfl, rfl⟩ (fun h2 => go (w := (11, [.ref l0, .ref l1, .int l2, .null, .null, .null, .null, .null, .null], [.ref l0], h2)) r81_10 rfl rfl (E_ic r81_11 (v := 1) (by decide) (E_pZ r81_12 ⟨rfl, rfl⟩ (fun h3 => go (w := (16, [.ref l0, .ref l1, .int l2, .null, .null, .null, .null, .null, .null], [.int l2], h3)) r81_15 rfl rfl (E_i1_lt r81_16 rfl (rfl) (go (w := (20, [.ref l0, .ref l1, .int l2, .null, .null, .null, .null, .null, .null], [.int l2], h3)) r81_19 rfl rfl (E_bip r81_20 (v := 14) (by decide) (E_i2_ge r81_22 rfl (rfl) (go (w := (26, [.ref l0, .ref l1, .int l2, .null, .null, .null, .null, .null, .null], [.ref l1], h3)) r81_25 rfl rfl (E_gR r81_26 rfl (fun x4 => go (w := (30, [.ref l0, .ref l1, .int l2, .null, .null, .null, .null, .null, .null], [.int l2, .ref x4], h3)) r81_29 rfl rfl (E_aI r81_30 (fun x5 => E_gt r81_31 rfl (rfl)))))))))))))))))))
theorem b81_34 (d : Nat) (l0 : Nat) (l1 : Nat) (l2 : Int32) (h : aH) (K : Option Value → aH → Prop) : E scr false d 81 34 [.ref l0, .ref l1, .int l2, .null, .null, .null, .null, .null, .null] [] h K = E scr false d 81 35 [.ref l0, .ref l1, .int l2, .null, .null, .null, .null, .null, .null] [.int (-1)] h K := E_ic r81_34 (v := (-1)) (by decide) (rfl)
theorem b81_35 (d : Nat) (l0 : Nat) (l1 : Nat) (l2 : Int32) (s0 : Int32) (h : aH) (K : Option Value → aH → Prop) : E scr false d 81 35 [.ref l0, .ref l1, .int l2, .null, .null, .null, .null, .null, .null] [.int s0] h K = (if l2 < 0 then E scr false d 81 55 [.ref l0, .ref l1, .int l2, .int s0, .null, .null, .null, .null, .null] [] h K else (if 12 ≤ l2 then E scr false d 81 55 [.ref l0, .ref l1, .int l2, .int s0, .null, .null, .null, .null, .null] [] h K else gR scr h l1 5 11 (fun x1 : Nat => aI scr h x1 l2 (fun x2 : Int32 => E scr false d 81 57 [.ref l0, .ref l1, .int l2, .int s0, .null, .null, .null, .null, .null] [.int x2] h K)))) := go (w := (36, [.ref l0, .ref l1, .int l2, .int s0, .null, .null, .null, .null, .null], [], h)) r81_35 rfl rfl (go (w := (37, [.ref l0, .ref l1, .int l2, .int s0, .null, .null, .null, .null, .null], [.int l2], h)) r81_36 rfl rfl (E_i1_lt r81_37 rfl (rfl) (go (w := (41, [.ref l0, .ref l1, .int l2, .int s0, .null, .null, .null, .null, .null], [.int l2], h)) r81_40 rfl rfl (E_bip r81_41 (v := 12) (by decide) (E_i2_ge r81_43 rfl (rfl) (go (w := (47, [.ref l0, .ref l1, .int l2, .int s0, .null, .null, .null, .null, .null], [.ref l1], h)) r81_46 rfl rfl (E_gR r81_47 rfl (fun x1 => go (w := (51, [.ref l0, .ref l1, .int l2, .int s0, .null, .null, .null, .null, .null], [.int l2, .ref x1], h)) r81_50 rfl rfl (E_aI r81_51 (fun x2 => E_gt r81_52 rfl (rfl)))))))))))
theorem b81_55 (d : Nat) (l0 : Nat) (l1 : Nat) (l2 : Int32) (l3 : Int32) (h : aH) (K : Option Value → aH → Prop) : E scr false d 81 55 [.ref l0, .ref l1, .int l2, .int l3, .null, .null, .null, .null, .null] [] h K = E scr false d 81 57 [.ref l0, .ref l1, .int l2, .int l3, .null, .null, .null, .null, .null] [.int 99] h K := E_bip r81_55 (v := 99) (by decide) (rfl)
theorem b81_57 (d : Nat) (l0 : Nat) (l1 : Nat) (l2 : Int32) (l3 : Int32) (s0 : Int32) (h : aH) (K : Option Value → aH → Prop) : E scr false d 81 57 [.ref l0, .ref l1, .int l2, .int l3, .null, .null, .null, .null, .null] [.int s0] h K = E scr false d 81 62 [.ref l0, .ref l1, .int l2, .int l3, .int s0, .int 0, .null, .null, .null] [] h K := go (w := (59, [.ref l0, .ref l1, .int l2, .int l3, .int s0, .null, .null, .null, .null], [], h)) r81_57 rfl rfl (E_ic r81_59 (v := 0) (by decide) (go (w := (62, [.ref l0, .ref l1, .int l2, .int l3, .int s0, .int 0, .null, .null, .null], [], h)) r81_60 rfl rfl (rfl)))
theorem b81_62 (d : Nat) (l0 : Nat) (l1 : Nat) (l2 : Int32) (l3 : Int32) (l4 : Int32) (l5 : Int32) (l6 : Value) (l7 : Value) (l8 : Value) (h : aH) (K : Option Value → aH → Prop) : E scr false (d + 1) 81 62 [.ref l0, .ref l1, .int l2, .int l3, .int l4, .int l5, l6, l7, l8] [] h K = (if l3 < 0 then K none h else (if 14 ≤ l5 then K none h else gR scr h l1 5 10 (fun x1 : Nat => aI scr h x1 l5 (fun x2 : Int32 => (if l5 = l2 then E scr false (d + 1) 81 208 [.ref l0, .ref l1, .int l2, .int l3, .int l4, .int l5, .int x2, l7, l8] [] h K else (if x2 < 0 then E scr false (d + 1) 81 208 [.ref l0, .ref l1, .int l2, .int l3, .int l4, .int l5, .int x2, l7, l8] [] h K else gR scr h l0 7 0 (fun x3 : Nat => gR scr h l1 5 8 (fun x4 : Nat => vI scr d 2 [.ref x3, .ref x4, .int l3, .int x2] h (fun (x6 : Int32) (h5 : aH) => (if x6 = 0 then E scr false (d + 1) 81 208 [.ref l0, .ref l1, .int l2, .int l3, .int l4, .int l5, .int x2, l7, l8] [] h5 K else sI scr d 90 [.int l3, .int x2] h5 (fun (x8 : Int32) (h7 : aH) => (if 12 ≤ l5 then E scr false (d + 1) 81 143 [.ref l0, .ref l1, .int l2, .int l3, .int l4, .int l5, .int x2, .int x8, l8] [.int 100] h7 K else gR scr h7 l1 5 11 (fun x9 : Nat => aI scr h7 x9 l5 (fun x10 : Int32 => E scr false (d + 1) 81 143 [.ref l0, .ref l1, .int l2, .int l3, .int l4, .int l5, .int x2, .int x8, l8] [.int (99 - x10)] h7 K)))))))))))))) := go (w := (63, [.ref l0, .ref l1, .int l2, .int l3, .int l4, .int l5, l6, l7, l8], [.int l3], h)) r81_62 rfl rfl (E_i1_lt r81_63 rfl (E_vret r81_214 (mq81)) (go (w := (68, [.ref l0, .ref l1, .int l2, .int l3, .int l4, .int l5, l6, l7, l8], [.int l5], h)) r81_66 rfl rfl (E_bip r81_68 (v := 14) (by decide) (E_i2_ge r81_70 rfl (E_vret r81_214 (mq81)) (go (w := (74, [.ref l0, .ref l1, .int l2, .int l3, .int l4, .int l5, l6, l7, l8], [.ref l1], h)) r81_73 rfl rfl (E_gR r81_74 rfl (fun x1 => go (w := (79, [.ref l0, .ref l1, .int l2, .int l3, .int l4, .int l5, l6, l7, l8], [.int l5, .ref x1], h)) r81_77 rfl rfl (E_aI r81_79 (fun x2 => go (w := (82, [.ref l0, .ref l1, .int l2, .int l3, .int l4, .int l5, .int x2, l7, l8], [], h)) r81_80 rfl rfl (go (w := (84, [.ref l0, .ref l1, .int l2, .int l3, .int l4, .int l5, .int x2, l7, l8], [.int l5], h)) r81_82 rfl rfl (go (w := (85, [.ref l0, .ref l1, .int l2, .int l3, .int l4, .int l5, .int x2, l7, l8], [.int l2, .int l5], h)) r81_84 rfl rfl (E_i2_eq r81_85 rfl (rfl) (go (w := (90, [.ref l0, .ref l1, .int l2, .int l3, .int l4, .int l5, .int x2, l7, l8], [.int x2], h)) r81_88 rfl rfl (E_i1_lt r81_90 rfl (rfl) (go (w := (94, [.ref l0, .ref l1, .int l2, .int l3, .int l4, .int l5, .int x2, l7, l8], [.ref l0], h)) r81_93 rfl rfl (E_gR r81_94 rfl (fun x3 => go (w := (98, [.ref l0, .ref l1, .int l2, .int l3, .int l4, .int l5, .int x2, l7, l8], [.ref l1, .ref x3], h)) r81_97 rfl rfl (E_gR r81_98 rfl (fun x4 => go (w := (102, [.ref l0, .ref l1, .int l2, .int l3, .int l4, .int l5, .int x2, l7, l8], [.int l3, .ref x4, .ref x3], h)) r81_101 rfl rfl (go (w := (104, [.ref l0, .ref l1, .int l2, .int l3, .int l4, .int l5, .int x2, l7, l8], [.int x2, .int l3, .ref x4, .ref x3], h)) r81_102 rfl rfl (E_vI r81_104 (As := [.ref x3, .ref x4, .int l3, .int x2]) (rest := []) (cut_n mi2.1 rfl rfl) (rm8_n mi2.2.1 (Nat.le_of_ble_eq_true rfl) (Nat.le_of_ble_eq_true rfl)) mi2.2.2 (fun x6 h5 => E_i1_ne r81_107 rfl (go (w := (114, [.ref l0, .ref l1, .int l2, .int l3, .int l4, .int l5, .int x2, l7, l8], [.int l3], h5)) r81_113 rfl rfl (go (w := (116, [.ref l0, .ref l1, .int l2, .int l3, .int l4, .int l5, .int x2, l7, l8], [.int x2, .int l3], h5)) r81_114 rfl rfl (E_sI r81_116 (As := [.int l3, .int x2]) (rest := []) (cut_n mi90.1 rfl rfl) (rm8_n mi90.2.1 (Nat.le_of_ble_eq_true rfl) (Nat.le_of_ble_eq_true rfl)) mi90.2.2 (fun x8 h7 => go (w := (121, [.ref l0, .ref l1, .int l2, .int l3, .int l4, .int l5, .int x2, .int x8, l8], [], h7)) r81_119 rfl rfl (go (w := (123, [.ref l0, .ref l1, .int l2, .int l3, .int l4, .int l5, .int x2, .int x8, l8], [.int l5], h7)) r81_121 rfl rfl (E_bip r81_123 (v := 12) (by decide) (E_i2_ge r81_125 rfl (E_bip r81_141 (v := 100) (by decide) (rfl)) (E_bip r81_128 (v := 99) (by decide) (go (w := (131, [.ref l0, .ref l1, .int l2, .int l3, .int l4, .int l5, .int x2, .int x8, l8], [.ref l1, .int 99], h7)) r81_130 rfl rfl (E_gR r81_131 rfl (fun x9 => go (w := (136, [.ref l0, .ref l1, .int l2, .int l3, .int l4, .int l5, .int x2, .int x8, l8], [.int l5, .ref x9, .int 99], h7)) r81_134 rfl rfl (E_aI r81_136 (fun x10 => go (w := (138, [.ref l0, .ref l1, .int l2, .int l3, .int l4, .int l5, .int x2, .int x8, l8], [.int (99 - x10)], h7)) r81_137 rfl rfl (E_gt r81_138 rfl (rfl))))))))))))))) (E_gt r81_110 rfl (rfl))))))))))))))))))))))))
theorem b81_143 (d : Nat) (l0 : Nat) (l1 : Nat) (l2 : Int32) (l3 : Int32) (l4 : Int32) (l5 : Int32) (l6 : Int32) (l7 : Int32) (l8 : Value) (s0 : Int32) (h : aH) (K : Option Value → aH → Prop) : E scr false (d + 1) 81 143 [.ref l0, .ref l1, .int l2, .int l3, .int l4, .int l5, .int l6, .int l7, l8] [.int s0] h K = vV scr d 82 [.ref l0, .int ((((l7 : Int32) <<< ((12 : Int32) &&& 31) : Int32) + ((s0 : Int32) <<< ((4 : Int32) &&& 31) : Int32)) + l5)] h (fun h1 : aH => gI scr h1 l0 7 4 (fun x3 : Int32 => (if 2 < l7 then E scr false (d + 1) 81 178 [.ref l0, .ref l1, .int l2, .int l3, .int l4, .int l5, .int l6, .int l7, .int s0] [.int 0, .int x3, .ref l0] h1 K else E scr false (d + 1) 81 178 [.ref l0, .ref l1, .int l2, .int l3, .int l4, .int l5, .int l6, .int l7, .int s0] [.int 1, .int x3, .ref l0] h1 K))) := go (w := (145, [.ref l0, .ref l1, .int l2, .int l3, .int l4, .int l5, .int l6, .int l7, .int s0], [], h)) r81_143 rfl rfl (go (w := (146, [.ref l0, .ref l1, .int l2, .int l3, .int l4, .int l5, .int l6, .int l7, .int s0], [.ref l0], h)) r81_145 rfl rfl (go (w := (148, [.ref l0, .ref l1, .int l2, .int l3, .int l4, .int l5, .int l6, .int l7, .int s0], [.int l7, .ref l0], h)) r81_146 rfl rfl (E_bip r81_148 (v := 12) (by decide) (go (w := (151, [.ref l0, .ref l1, .int l2, .int l3, .int l4, .int l5, .int l6, .int l7, .int s0], [.int ((l7 : Int32) <<< ((12 : Int32) &&& 31) : Int32), .ref l0], h)) r81_150 rfl rfl (go (w := (153, [.ref l0, .ref l1, .int l2, .int l3, .int l4, .int l5, .int l6, .int l7, .int s0], [.int s0, .int ((l7 : Int32) <<< ((12 : Int32) &&& 31) : Int32), .ref l0], h)) r81_151 rfl rfl (E_ic r81_153 (v := 4) (by decide) (go (w := (155, [.ref l0, .ref l1, .int l2, .int l3, .int l4, .int l5, .int l6, .int l7, .int s0], [.int ((s0 : Int32) <<< ((4 : Int32) &&& 31) : Int32), .int ((l7 : Int32) <<< ((12 : Int32) &&& 31) : Int32), .ref l0], h)) r81_154 rfl rfl (go (w := (156, [.ref l0, .ref l1, .int l2, .int l3, .int l4, .int l5, .int l6, .int l7, .int s0], [.int (((l7 : Int32) <<< ((12 : Int32) &&& 31) : Int32) + ((s0 : Int32) <<< ((4 : Int32) &&& 31) : Int32)), .ref l0], h)) r81_155 rfl rfl (go (w := (158, [.ref l0, .ref l1, .int l2, .int l3, .int l4, .int l5, .int l6, .int l7, .int s0], [.int l5, .int (((l7 : Int32) <<< ((12 : Int32) &&& 31) : Int32) + ((s0 : Int32) <<< ((4 : Int32) &&& 31) : Int32)), .ref l0], h)) r81_156 rfl rfl (go (w := (159, [.ref l0, .ref l1, .int l2, .int l3, .int l4, .int l5, .int l6, .int l7, .int s0], [.int ((((l7 : Int32) <<< ((12 : Int32) &&& 31) : Int32) + ((s0 : Int32) <<< ((4 : Int32) &&& 31) : Int32)) + l5), .ref l0], h)) r81_158 rfl rfl (E_vV r81_159 (As := [.ref l0, .int ((((l7 : Int32) <<< ((12 : Int32) &&& 31) : Int32) + ((s0 : Int32) <<< ((4 : Int32) &&& 31) : Int32)) + l5)]) (rest := []) (cut_n mi82.1 rfl rfl) (rm8_n mi82.2.1 (Nat.le_of_ble_eq_true rfl) (Nat.le_of_ble_eq_true rfl)) mi82.2.2 (fun h1 => go (w := (163, [.ref l0, .ref l1, .int l2, .int l3, .int l4, .int l5, .int l6, .int l7, .int s0], [.ref l0], h1)) r81_162 rfl rfl (go (w := (164, [.ref l0, .ref l1, .int l2, .int l3, .int l4, .int l5, .int l6, .int l7, .int s0], [.ref l0, .ref l0], h1)) r81_163 rfl rfl (E_gI r81_164 rfl (fun x3 => go (w := (169, [.ref l0, .ref l1, .int l2, .int l3, .int l4, .int l5, .int l6, .int l7, .int s0], [.int l7, .int x3, .ref l0], h1)) r81_167 rfl rfl (E_ic r81_169 (v := 2) (by decide) (E_i2_gt r81_170 rfl (E_ic r81_177 (v := 0) (by decide) (rfl)) (E_ic r81_173 (v := 1) (by decide) (E_gt r81_174 rfl (rfl))))))))))))))))))))
theorem b81_178 (d : Nat) (l0 : Nat) (l1 : Nat) (l2 : Int32) (l3 : Int32) (l4 : Int32) (l5 : Int32) (l6 : Int32) (l7 : Int32) (l8 : Int32) (s0 : Int32) (s1 : Int32) (s2 : Nat) (h : aH) (K : Option Value → aH → Prop) : E scr false d 81 178 [.ref l0, .ref l1, .int l2, .int l3, .int l4, .int l5, .int l6, .int l7, .int l8] [.int s0, .int s1, .ref s2] h K = pF h s2 7 4 (.int (s1 + s0)) (fun h1 : aH => gI scr h1 l0 7 5 (fun x2 : Int32 => (if x2 = 0 then E scr false d 81 204 [.ref l0, .ref l1, .int l2, .int l3, .int l4, .int l5, .int l6, .int l7, .int l8] [.ref l0] h1 K else (if l4 < (99 - l8) then E scr false d 81 204 [.ref l0, .ref l1, .int l2, .int l3, .int l4, .int l5, .int l6, .int l7, .int l8] [.ref l0] h1 K else E scr false d 81 205 [.ref l0, .ref l1, .int l2, .int l3, .int l4, .int l5, .int l6, .int l7, .int l8] [.int 1, .ref l0] h1 K)))) := go (w := (179, [.ref l0, .ref l1, .int l2, .int l3, .int l4, .int l5, .int l6, .int l7, .int l8], [.int (s1 + s0), .ref s2], h)) r81_178 rfl rfl (E_pI r81_179 ⟨rfl, rfl⟩ (fun h1 => go (w := (183, [.ref l0, .ref l1, .int l2, .int l3, .int l4, .int l5, .int l6, .int l7, .int l8], [.ref l0], h1)) r81_182 rfl rfl (go (w := (184, [.ref l0, .ref l1, .int l2, .int l3, .int l4, .int l5, .int l6, .int l7, .int l8], [.ref l0, .ref l0], h1)) r81_183 rfl rfl (E_gI r81_184 rfl (fun x2 => E_i1_eq r81_187 rfl (rfl) (E_bip r81_190 (v := 99) (by decide) (go (w := (194, [.ref l0, .ref l1, .int l2, .int l3, .int l4, .int l5, .int l6, .int l7, .int l8], [.int l8, .int 99, .ref l0], h1)) r81_192 rfl rfl (go (w := (195, [.ref l0, .ref l1, .int l2, .int l3, .int l4, .int l5, .int l6, .int l7, .int l8], [.int (99 - l8), .ref l0], h1)) r81_194 rfl rfl (go (w := (197, [.ref l0, .ref l1, .int l2, .int l3, .int l4, .int l5, .int l6, .int l7, .int l8], [.int l4, .int (99 - l8), .ref l0], h1)) r81_195 rfl rfl (E_i2_gt r81_197 rfl (rfl) (E_ic r81_200 (v := 1) (by decide) (E_gt r81_201 rfl (rfl)))))))))))))
theorem b81_204 (d : Nat) (l0 : Nat) (l1 : Nat) (l2 : Int32) (l3 : Int32) (l4 : Int32) (l5 : Int32) (l6 : Int32) (l7 : Int32) (l8 : Int32) (s0 : Nat) (h : aH) (K : Option Value → aH → Prop) : E scr false d 81 204 [.ref l0, .ref l1, .int l2, .int l3, .int l4, .int l5, .int l6, .int l7, .int l8] [.ref s0] h K = E scr false d 81 205 [.ref l0, .ref l1, .int l2, .int l3, .int l4, .int l5, .int l6, .int l7, .int l8] [.int 0, .ref s0] h K := E_ic r81_204 (v := 0) (by decide) (rfl)
theorem b81_205 (d : Nat) (l0 : Nat) (l1 : Nat) (l2 : Int32) (l3 : Int32) (l4 : Int32) (l5 : Int32) (l6 : Int32) (l7 : Int32) (l8 : Int32) (s0 : Int32) (s1 : Nat) (h : aH) (K : Option Value → aH → Prop) : E scr false d 81 205 [.ref l0, .ref l1, .int l2, .int l3, .int l4, .int l5, .int l6, .int l7, .int l8] [.int s0, .ref s1] h K = (((s0 : Int32) = 0 ∨ (s0 : Int32) = 1) ∧ pF h s1 7 5 (.int s0) (fun h1 : aH => E scr false d 81 208 [.ref l0, .ref l1, .int l2, .int l3, .int l4, .int l5, .int l6, .int l7, .int l8] [] h1 K)) := E_pZ r81_205 ⟨rfl, rfl⟩ (fun h1 => rfl)
theorem b81_208 (d : Nat) (l0 : Nat) (l1 : Nat) (l2 : Int32) (l3 : Int32) (l4 : Int32) (l5 : Int32) (l6 : Int32) (l7 : Value) (l8 : Value) (h : aH) (K : Option Value → aH → Prop) : E scr false d 81 208 [.ref l0, .ref l1, .int l2, .int l3, .int l4, .int l5, .int l6, l7, l8] [] h K = E scr false d 81 62 [.ref l0, .ref l1, .int l2, .int l3, .int l4, .int (l5 + 1), .int l6, l7, l8] [] h K := E_inc r81_208 (c := 1) rfl (by decide) (L' := [.ref l0, .ref l1, .int l2, .int l3, .int l4, .int (l5 + 1), .int l6, l7, l8]) rfl (E_gt r81_211 rfl (rfl))
-- 82 SecondNearest$Walker.insert(I)V
theorem mq82 : mRet 82 = none := by decide +kernel
theorem r82_0 : rowAt 82 0 = some (.aload_n 0, 1, 0, 0) := by decide +kernel
theorem r82_1 : rowAt 82 1 = some (.getfield 63, 3, 7, 3) := by decide +kernel
theorem r82_4 : rowAt 82 4 = some (.bipush 13, 2, 0, 0) := by decide +kernel
theorem r82_6 : rowAt 82 6 = some (.invokestatic 94, 3, 226, 1) := by decide +kernel
theorem r82_9 : rowAt 82 9 = some (.istore_n 2, 1, 0, 0) := by decide +kernel
theorem r82_10 : rowAt 82 10 = some (.iload_n 2, 1, 0, 0) := by decide +kernel
theorem r82_11 : rowAt 82 11 = some (.ifCond .le 35, 3, 0, 0) := by decide +kernel
theorem r82_14 : rowAt 82 14 = some (.aload_n 0, 1, 0, 0) := by decide +kernel
theorem r82_15 : rowAt 82 15 = some (.getfield 15, 3, 7, 2) := by decide +kernel
theorem r82_18 : rowAt 82 18 = some (.iload_n 2, 1, 0, 0) := by decide +kernel
theorem r82_19 : rowAt 82 19 = some (.iconst 1, 1, 0, 0) := by decide +kernel
theorem r82_20 : rowAt 82 20 = some (.isub, 1, 0, 0) := by decide +kernel
theorem r82_21 : rowAt 82 21 = some (.iaload, 1, 0, 0) := by decide +kernel
theorem r82_22 : rowAt 82 22 = some (.iload_n 1, 1, 0, 0) := by decide +kernel
theorem r82_23 : rowAt 82 23 = some (.if_icmp .le 23, 3, 0, 0) := by decide +kernel
theorem r82_26 : rowAt 82 26 = some (.aload_n 0, 1, 0, 0) := by decide +kernel
theorem r82_27 : rowAt 82 27 = some (.getfield 15, 3, 7, 2) := by decide +kernel
theorem r82_30 : rowAt 82 30 = some (.iload_n 2, 1, 0, 0) := by decide +kernel
theorem r82_31 : rowAt 82 31 = some (.aload_n 0, 1, 0, 0) := by decide +kernel
theorem r82_32 : rowAt 82 32 = some (.getfield 15, 3, 7, 2) := by decide +kernel
theorem r82_35 : rowAt 82 35 = some (.iload_n 2, 1, 0, 0) := by decide +kernel
theorem r82_36 : rowAt 82 36 = some (.iconst 1, 1, 0, 0) := by decide +kernel
theorem r82_37 : rowAt 82 37 = some (.isub, 1, 0, 0) := by decide +kernel
theorem r82_38 : rowAt 82 38 = some (.iaload, 1, 0, 0) := by decide +kernel
theorem r82_39 : rowAt 82 39 = some (.iastore, 1, 0, 0) := by decide +kernel
theorem r82_40 : rowAt 82 40 = some (.iinc 2 (-1), 3, 0, 0) := by decide +kernel
theorem r82_43 : rowAt 82 43 = some (.goto (-33), 3, 0, 0) := by decide +kernel
theorem r82_46 : rowAt 82 46 = some (.aload_n 0, 1, 0, 0) := by decide +kernel
theorem r82_47 : rowAt 82 47 = some (.getfield 15, 3, 7, 2) := by decide +kernel
theorem r82_50 : rowAt 82 50 = some (.iload_n 2, 1, 0, 0) := by decide +kernel
theorem r82_51 : rowAt 82 51 = some (.iload_n 1, 1, 0, 0) := by decide +kernel
theorem r82_52 : rowAt 82 52 = some (.iastore, 1, 0, 0) := by decide +kernel
theorem r82_53 : rowAt 82 53 = some (.aload_n 0, 1, 0, 0) := by decide +kernel
theorem r82_54 : rowAt 82 54 = some (.dup, 1, 0, 0) := by decide +kernel
theorem r82_55 : rowAt 82 55 = some (.getfield 63, 3, 7, 3) := by decide +kernel
theorem r82_58 : rowAt 82 58 = some (.iconst 1, 1, 0, 0) := by decide +kernel
theorem r82_59 : rowAt 82 59 = some (.iadd, 1, 0, 0) := by decide +kernel
theorem r82_60 : rowAt 82 60 = some (.putfield 63, 3, 7, 3) := by decide +kernel
theorem r82_63 : rowAt 82 63 = some (.return_, 1, 0, 0) := by decide +kernel
theorem en82 (a0 : Nat) (a1 : Int32) : iniL 82 [.ref a0, .int a1] = [.ref a0, .int a1, .null] := ini_n mi82 rfl
theorem b82_0 (d : Nat) (l0 : Nat) (l1 : Int32) (h : aH) (K : Option Value → aH → Prop) : E scr false (d + 1) 82 0 [.ref l0, .int l1, .null] [] h K = gI scr h l0 7 3 (fun x1 : Int32 => sI scr d 226 [.int x1, .int 13] h (fun (x3 : Int32) (h2 : aH) => E scr false (d + 1) 82 10 [.ref l0, .int l1, .int x3] [] h2 K)) := go (w := (1, [.ref l0, .int l1, .null], [.ref l0], h)) r82_0 rfl rfl (E_gI r82_1 rfl (fun x1 => E_bip r82_4 (v := 13) (by decide) (E_sI r82_6 (As := [.int x1, .int 13]) (rest := []) (cut_n mi226.1 rfl rfl) (rm8_n mi226.2.1 (Nat.le_of_ble_eq_true rfl) (Nat.le_of_ble_eq_true rfl)) mi226.2.2 (fun x3 h2 => go (w := (10, [.ref l0, .int l1, .int x3], [], h2)) r82_9 rfl rfl (rfl)))))
theorem b82_10 (d : Nat) (l0 : Nat) (l1 : Int32) (l2 : Int32) (h : aH) (K : Option Value → aH → Prop) : E scr false d 82 10 [.ref l0, .int l1, .int l2] [] h K = (if l2 ≤ 0 then E scr false d 82 46 [.ref l0, .int l1, .int l2] [] h K else gR scr h l0 7 2 (fun x1 : Nat => aI scr h x1 ((l2 - 1)) (fun x2 : Int32 => (if x2 ≤ l1 then E scr false d 82 46 [.ref l0, .int l1, .int l2] [] h K else gR scr h l0 7 2 (fun x3 : Nat => gR scr h l0 7 2 (fun x4 : Nat => aI scr h x4 ((l2 - 1)) (fun x5 : Int32 => wI h x3 l2 x5 (fun h6 : aH => E scr false d 82 10 [.ref l0, .int l1, .int (l2 + (-1))] [] h6 K)))))))) := go (w := (11, [.ref l0, .int l1, .int l2], [.int l2], h)) r82_10 rfl rfl (E_i1_le r82_11 rfl (rfl) (go (w := (15, [.ref l0, .int l1, .int l2], [.ref l0], h)) r82_14 rfl rfl (E_gR r82_15 rfl (fun x1 => go (w := (19, [.ref l0, .int l1, .int l2], [.int l2, .ref x1], h)) r82_18 rfl rfl (E_ic r82_19 (v := 1) (by decide) (go (w := (21, [.ref l0, .int l1, .int l2], [.int (l2 - 1), .ref x1], h)) r82_20 rfl rfl (E_aI r82_21 (fun x2 => go (w := (23, [.ref l0, .int l1, .int l2], [.int l1, .int x2], h)) r82_22 rfl rfl (E_i2_le r82_23 rfl (rfl) (go (w := (27, [.ref l0, .int l1, .int l2], [.ref l0], h)) r82_26 rfl rfl (E_gR r82_27 rfl (fun x3 => go (w := (31, [.ref l0, .int l1, .int l2], [.int l2, .ref x3], h)) r82_30 rfl rfl (go (w := (32, [.ref l0, .int l1, .int l2], [.ref l0, .int l2, .ref x3], h)) r82_31 rfl rfl (E_gR r82_32 rfl (fun x4 => go (w := (36, [.ref l0, .int l1, .int l2], [.int l2, .ref x4, .int l2, .ref x3], h)) r82_35 rfl rfl (E_ic r82_36 (v := 1) (by decide) (go (w := (38, [.ref l0, .int l1, .int l2], [.int (l2 - 1), .ref x4, .int l2, .ref x3], h)) r82_37 rfl rfl (E_aI r82_38 (fun x5 => E_wI r82_39 (fun h6 => E_inc r82_40 (c := (-1)) rfl (by decide) (L' := [.ref l0, .int l1, .int (l2 + (-1))]) rfl (E_gt r82_43 rfl (rfl))))))))))))))))))))))
theorem b82_46 (d : Nat) (l0 : Nat) (l1 : Int32) (l2 : Int32) (h : aH) (K : Option Value → aH → Prop) : E scr false d 82 46 [.ref l0, .int l1, .int l2] [] h K = gR scr h l0 7 2 (fun x1 : Nat => wI h x1 l2 l1 (fun h2 : aH => gI scr h2 l0 7 3 (fun x3 : Int32 => pF h2 l0 7 3 (.int (x3 + 1)) (fun h4 : aH => K none h4)))) := go (w := (47, [.ref l0, .int l1, .int l2], [.ref l0], h)) r82_46 rfl rfl (E_gR r82_47 rfl (fun x1 => go (w := (51, [.ref l0, .int l1, .int l2], [.int l2, .ref x1], h)) r82_50 rfl rfl (go (w := (52, [.ref l0, .int l1, .int l2], [.int l1, .int l2, .ref x1], h)) r82_51 rfl rfl (E_wI r82_52 (fun h2 => go (w := (54, [.ref l0, .int l1, .int l2], [.ref l0], h2)) r82_53 rfl rfl (go (w := (55, [.ref l0, .int l1, .int l2], [.ref l0, .ref l0], h2)) r82_54 rfl rfl (E_gI r82_55 rfl (fun x3 => E_ic r82_58 (v := 1) (by decide) (go (w := (60, [.ref l0, .int l1, .int l2], [.int (x3 + 1), .ref l0], h2)) r82_59 rfl rfl (E_pI r82_60 ⟨rfl, rfl⟩ (fun h4 => E_vret r82_63 (mq82))))))))))))
-- 83 SecondNearest$Walker.sightedAt(I)I
theorem mq83 : mRet 83 = (some .int) := by decide +kernel
theorem r83_0 : rowAt 83 0 = some (.iload_n 1, 1, 0, 0) := by decide +kernel
theorem r83_1 : rowAt 83 1 = some (.iconst 1, 1, 0, 0) := by decide +kernel
theorem r83_2 : rowAt 83 2 = some (.if_icmp .lt 31, 3, 0, 0) := by decide +kernel
theorem r83_5 : rowAt 83 5 = some (.iload_n 1, 1, 0, 0) := by decide +kernel
theorem r83_6 : rowAt 83 6 = some (.aload_n 0, 1, 0, 0) := by decide +kernel
theorem r83_7 : rowAt 83 7 = some (.getfield 63, 3, 7, 3) := by decide +kernel
theorem r83_10 : rowAt 83 10 = some (.if_icmp .gt 23, 3, 0, 0) := by decide +kernel
theorem r83_13 : rowAt 83 13 = some (.iload_n 1, 1, 0, 0) := by decide +kernel
theorem r83_14 : rowAt 83 14 = some (.bipush 14, 2, 0, 0) := by decide +kernel
theorem r83_16 : rowAt 83 16 = some (.if_icmp .gt 17, 3, 0, 0) := by decide +kernel
theorem r83_19 : rowAt 83 19 = some (.aload_n 0, 1, 0, 0) := by decide +kernel
theorem r83_20 : rowAt 83 20 = some (.getfield 15, 3, 7, 2) := by decide +kernel
theorem r83_23 : rowAt 83 23 = some (.iload_n 1, 1, 0, 0) := by decide +kernel
theorem r83_24 : rowAt 83 24 = some (.iconst 1, 1, 0, 0) := by decide +kernel
theorem r83_25 : rowAt 83 25 = some (.isub, 1, 0, 0) := by decide +kernel
theorem r83_26 : rowAt 83 26 = some (.iaload, 1, 0, 0) := by decide +kernel
theorem r83_27 : rowAt 83 27 = some (.bipush 15, 2, 0, 0) := by decide +kernel
theorem r83_29 : rowAt 83 29 = some (.iand, 1, 0, 0) := by decide +kernel
theorem r83_30 : rowAt 83 30 = some (.goto 4, 3, 0, 0) := by decide +kernel
theorem r83_33 : rowAt 83 33 = some (.iconst (-1), 1, 0, 0) := by decide +kernel
theorem r83_34 : rowAt 83 34 = some (.ireturn, 1, 0, 0) := by decide +kernel
theorem en83 (a0 : Nat) (a1 : Int32) : iniL 83 [.ref a0, .int a1] = [.ref a0, .int a1] := ini_n mi83 rfl
theorem b83_0 (d : Nat) (l0 : Nat) (l1 : Int32) (h : aH) (K : Option Value → aH → Prop) : E scr false d 83 0 [.ref l0, .int l1] [] h K = (if l1 < 1 then K (some (.int (-1))) h else gI scr h l0 7 3 (fun x1 : Int32 => (if x1 < l1 then K (some (.int (-1))) h else (if 14 < l1 then K (some (.int (-1))) h else gR scr h l0 7 2 (fun x2 : Nat => aI scr h x2 ((l1 - 1)) (fun x3 : Int32 => K (some (.int (x3 &&& 15))) h)))))) := go (w := (1, [.ref l0, .int l1], [.int l1], h)) r83_0 rfl rfl (E_ic r83_1 (v := 1) (by decide) (E_i2_lt r83_2 rfl (E_ic r83_33 (v := (-1)) (by decide) (E_ri r83_34 (mq83))) (go (w := (6, [.ref l0, .int l1], [.int l1], h)) r83_5 rfl rfl (go (w := (7, [.ref l0, .int l1], [.ref l0, .int l1], h)) r83_6 rfl rfl (E_gI r83_7 rfl (fun x1 => E_i2_gt r83_10 rfl (E_ic r83_33 (v := (-1)) (by decide) (E_ri r83_34 (mq83))) (go (w := (14, [.ref l0, .int l1], [.int l1], h)) r83_13 rfl rfl (E_bip r83_14 (v := 14) (by decide) (E_i2_gt r83_16 rfl (E_ic r83_33 (v := (-1)) (by decide) (E_ri r83_34 (mq83))) (go (w := (20, [.ref l0, .int l1], [.ref l0], h)) r83_19 rfl rfl (E_gR r83_20 rfl (fun x2 => go (w := (24, [.ref l0, .int l1], [.int l1, .ref x2], h)) r83_23 rfl rfl (E_ic r83_24 (v := 1) (by decide) (go (w := (26, [.ref l0, .int l1], [.int (l1 - 1), .ref x2], h)) r83_25 rfl rfl (E_aI r83_26 (fun x3 => E_bip r83_27 (v := 15) (by decide) (go (w := (30, [.ref l0, .int l1], [.int (x3 &&& 15)], h)) r83_29 rfl rfl (E_gt r83_30 rfl (E_ri r83_34 (mq83))))))))))))))))))))
-- 84 SecondNearest$Walker.choose(LSecondNearest$Scene;LSecondNearest$Law;I)I
theorem mq84 : mRet 84 = (some .int) := by decide +kernel
theorem r84_0 : rowAt 84 0 = some (.iconst 0, 1, 0, 0) := by decide +kernel
theorem r84_1 : rowAt 84 1 = some (.istore 4, 2, 0, 0) := by decide +kernel
theorem r84_3 : rowAt 84 3 = some (.iconst 0, 1, 0, 0) := by decide +kernel
theorem r84_4 : rowAt 84 4 = some (.istore 5, 2, 0, 0) := by decide +kernel
theorem r84_6 : rowAt 84 6 = some (.iload 5, 2, 0, 0) := by decide +kernel
theorem r84_8 : rowAt 84 8 = some (.aload_n 2, 1, 0, 0) := by decide +kernel
theorem r84_9 : rowAt 84 9 = some (.getfield 99, 3, 1, 0) := by decide +kernel
theorem r84_12 : rowAt 84 12 = some (.if_icmp .ge 65, 3, 0, 0) := by decide +kernel
theorem r84_15 : rowAt 84 15 = some (.iload 5, 2, 0, 0) := by decide +kernel
theorem r84_17 : rowAt 84 17 = some (.bipush 12, 2, 0, 0) := by decide +kernel
theorem r84_19 : rowAt 84 19 = some (.if_icmp .ge 58, 3, 0, 0) := by decide +kernel
theorem r84_22 : rowAt 84 22 = some (.aload_n 2, 1, 0, 0) := by decide +kernel
theorem r84_23 : rowAt 84 23 = some (.getfield 104, 3, 1, 2) := by decide +kernel
theorem r84_26 : rowAt 84 26 = some (.iload 5, 2, 0, 0) := by decide +kernel
theorem r84_28 : rowAt 84 28 = some (.iaload, 1, 0, 0) := by decide +kernel
theorem r84_29 : rowAt 84 29 = some (.istore 6, 2, 0, 0) := by decide +kernel
theorem r84_31 : rowAt 84 31 = some (.iload 4, 2, 0, 0) := by decide +kernel
theorem r84_33 : rowAt 84 33 = some (.iload 6, 2, 0, 0) := by decide +kernel
theorem r84_35 : rowAt 84 35 = some (.if_icmp .eq 20, 3, 0, 0) := by decide +kernel
theorem r84_38 : rowAt 84 38 = some (.aload_n 0, 1, 0, 0) := by decide +kernel
theorem r84_39 : rowAt 84 39 = some (.aload_n 1, 1, 0, 0) := by decide +kernel
theorem r84_40 : rowAt 84 40 = some (.aload_n 2, 1, 0, 0) := by decide +kernel
theorem r84_41 : rowAt 84 41 = some (.getfield 107, 3, 1, 4) := by decide +kernel
theorem r84_44 : rowAt 84 44 = some (.iload 4, 2, 0, 0) := by decide +kernel
theorem r84_46 : rowAt 84 46 = some (.iload 6, 2, 0, 0) := by decide +kernel
theorem r84_48 : rowAt 84 48 = some (.iload_n 3, 1, 0, 0) := by decide +kernel
theorem r84_49 : rowAt 84 49 = some (.invokevirtual 110, 3, 85, 0) := by decide +kernel
theorem r84_52 : rowAt 84 52 = some (.ifCond .eq 15, 3, 0, 0) := by decide +kernel
theorem r84_55 : rowAt 84 55 = some (.aload_n 0, 1, 0, 0) := by decide +kernel
theorem r84_56 : rowAt 84 56 = some (.aload_n 2, 1, 0, 0) := by decide +kernel
theorem r84_57 : rowAt 84 57 = some (.getfield 114, 3, 1, 1) := by decide +kernel
theorem r84_60 : rowAt 84 60 = some (.iload 5, 2, 0, 0) := by decide +kernel
theorem r84_62 : rowAt 84 62 = some (.iaload, 1, 0, 0) := by decide +kernel
theorem r84_63 : rowAt 84 63 = some (.invokevirtual 117, 3, 83, 0) := by decide +kernel
theorem r84_66 : rowAt 84 66 = some (.ireturn, 1, 0, 0) := by decide +kernel
theorem r84_67 : rowAt 84 67 = some (.iload 6, 2, 0, 0) := by decide +kernel
theorem r84_69 : rowAt 84 69 = some (.istore 4, 2, 0, 0) := by decide +kernel
theorem r84_71 : rowAt 84 71 = some (.iinc 5 1, 3, 0, 0) := by decide +kernel
theorem r84_74 : rowAt 84 74 = some (.goto (-68), 3, 0, 0) := by decide +kernel
theorem r84_77 : rowAt 84 77 = some (.iconst (-1), 1, 0, 0) := by decide +kernel
theorem r84_78 : rowAt 84 78 = some (.ireturn, 1, 0, 0) := by decide +kernel
theorem en84 (a0 : Nat) (a1 : Nat) (a2 : Nat) (a3 : Int32) : iniL 84 [.ref a0, .ref a1, .ref a2, .int a3] = [.ref a0, .ref a1, .ref a2, .int a3, .null, .null, .null] := ini_n mi84 rfl
theorem b84_0 (d : Nat) (l0 : Nat) (l1 : Nat) (l2 : Nat) (l3 : Int32) (h : aH) (K : Option Value → aH → Prop) : E scr false d 84 0 [.ref l0, .ref l1, .ref l2, .int l3, .null, .null, .null] [] h K = E scr false d 84 6 [.ref l0, .ref l1, .ref l2, .int l3, .int 0, .int 0, .null] [] h K := E_ic r84_0 (v := 0) (by decide) (go (w := (3, [.ref l0, .ref l1, .ref l2, .int l3, .int 0, .null, .null], [], h)) r84_1 rfl rfl (E_ic r84_3 (v := 0) (by decide) (go (w := (6, [.ref l0, .ref l1, .ref l2, .int l3, .int 0, .int 0, .null], [], h)) r84_4 rfl rfl (rfl))))
theorem b84_6 (d : Nat) (l0 : Nat) (l1 : Nat) (l2 : Nat) (l3 : Int32) (l4 : Int32) (l5 : Int32) (l6 : Value) (h : aH) (K : Option Value → aH → Prop) : E scr false (d + 1) 84 6 [.ref l0, .ref l1, .ref l2, .int l3, .int l4, .int l5, l6] [] h K = gI scr h l2 1 0 (fun x1 : Int32 => (if x1 ≤ l5 then K (some (.int (-1))) h else (if 12 ≤ l5 then K (some (.int (-1))) h else gR scr h l2 1 2 (fun x2 : Nat => aI scr h x2 l5 (fun x3 : Int32 => (if l4 = x3 then E scr false (d + 1) 84 55 [.ref l0, .ref l1, .ref l2, .int l3, .int l4, .int l5, .int x3] [] h K else gR scr h l2 1 4 (fun x4 : Nat => vI scr d 85 [.ref l0, .ref l1, .ref x4, .int l4, .int x3, .int l3] h (fun (x6 : Int32) (h5 : aH) => (if x6 = 0 then E scr false (d + 1) 84 6 [.ref l0, .ref l1, .ref l2, .int l3, .int x3, .int (l5 + 1), .int x3] [] h5 K else E scr false (d + 1) 84 55 [.ref l0, .ref l1, .ref l2, .int l3, .int l4, .int l5, .int x3] [] h5 K))))))))) := go (w := (8, [.ref l0, .ref l1, .ref l2, .int l3, .int l4, .int l5, l6], [.int l5], h)) r84_6 rfl rfl (go (w := (9, [.ref l0, .ref l1, .ref l2, .int l3, .int l4, .int l5, l6], [.ref l2, .int l5], h)) r84_8 rfl rfl (E_gI r84_9 rfl (fun x1 => E_i2_ge r84_12 rfl (E_ic r84_77 (v := (-1)) (by decide) (E_ri r84_78 (mq84))) (go (w := (17, [.ref l0, .ref l1, .ref l2, .int l3, .int l4, .int l5, l6], [.int l5], h)) r84_15 rfl rfl (E_bip r84_17 (v := 12) (by decide) (E_i2_ge r84_19 rfl (E_ic r84_77 (v := (-1)) (by decide) (E_ri r84_78 (mq84))) (go (w := (23, [.ref l0, .ref l1, .ref l2, .int l3, .int l4, .int l5, l6], [.ref l2], h)) r84_22 rfl rfl (E_gR r84_23 rfl (fun x2 => go (w := (28, [.ref l0, .ref l1, .ref l2, .int l3, .int l4, .int l5, l6], [.int l5, .ref x2], h)) r84_26 rfl rfl (E_aI r84_28 (fun x3 => go (w := (31, [.ref l0, .ref l1, .ref l2, .int l3, .int l4, .int l5, .int x3], [], h)) r84_29 rfl rfl (go (w := (33, [.ref l0, .ref l1, .ref l2, .int l3, .int l4, .int l5, .int x3], [.int l4], h)) r84_31 rfl rfl (go (w := (35, [.ref l0, .ref l1, .ref l2, .int l3, .int l4, .int l5, .int x3], [.int x3, .int l4], h)) r84_33 rfl rfl (E_i2_eq r84_35 rfl (rfl) (go (w := (39, [.ref l0, .ref l1, .ref l2, .int l3, .int l4, .int l5, .int x3], [.ref l0], h)) r84_38 rfl rfl (go (w := (40, [.ref l0, .ref l1, .ref l2, .int l3, .int l4, .int l5, .int x3], [.ref l1, .ref l0], h)) r84_39 rfl rfl (go (w := (41, [.ref l0, .ref l1, .ref l2, .int l3, .int l4, .int l5, .int x3], [.ref l2, .ref l1, .ref l0], h)) r84_40 rfl rfl (E_gR r84_41 rfl (fun x4 => go (w := (46, [.ref l0, .ref l1, .ref l2, .int l3, .int l4, .int l5, .int x3], [.int l4, .ref x4, .ref l1, .ref l0], h)) r84_44 rfl rfl (go (w := (48, [.ref l0, .ref l1, .ref l2, .int l3, .int l4, .int l5, .int x3], [.int x3, .int l4, .ref x4, .ref l1, .ref l0], h)) r84_46 rfl rfl (go (w := (49, [.ref l0, .ref l1, .ref l2, .int l3, .int l4, .int l5, .int x3], [.int l3, .int x3, .int l4, .ref x4, .ref l1, .ref l0], h)) r84_48 rfl rfl (E_vI r84_49 (As := [.ref l0, .ref l1, .ref x4, .int l4, .int x3, .int l3]) (rest := []) (cut_n mi85.1 rfl rfl) (rm8_n mi85.2.1 (Nat.le_of_ble_eq_true rfl) (Nat.le_of_ble_eq_true rfl)) mi85.2.2 (fun x6 h5 => E_i1_eq r84_52 rfl (go (w := (69, [.ref l0, .ref l1, .ref l2, .int l3, .int l4, .int l5, .int x3], [.int x3], h5)) r84_67 rfl rfl (go (w := (71, [.ref l0, .ref l1, .ref l2, .int l3, .int x3, .int l5, .int x3], [], h5)) r84_69 rfl rfl (E_inc r84_71 (c := 1) rfl (by decide) (L' := [.ref l0, .ref l1, .ref l2, .int l3, .int x3, .int (l5 + 1), .int x3]) rfl (E_gt r84_74 rfl (rfl))))) (rfl))))))))))))))))))))))))
theorem b84_55 (d : Nat) (l0 : Nat) (l1 : Nat) (l2 : Nat) (l3 : Int32) (l4 : Int32) (l5 : Int32) (l6 : Int32) (h : aH) (K : Option Value → aH → Prop) : E scr false (d + 1) 84 55 [.ref l0, .ref l1, .ref l2, .int l3, .int l4, .int l5, .int l6] [] h K = gR scr h l2 1 1 (fun x1 : Nat => aI scr h x1 l5 (fun x2 : Int32 => vI scr d 83 [.ref l0, .int x2] h (fun (x4 : Int32) (h3 : aH) => K (some (.int x4)) h3))) := go (w := (56, [.ref l0, .ref l1, .ref l2, .int l3, .int l4, .int l5, .int l6], [.ref l0], h)) r84_55 rfl rfl (go (w := (57, [.ref l0, .ref l1, .ref l2, .int l3, .int l4, .int l5, .int l6], [.ref l2, .ref l0], h)) r84_56 rfl rfl (E_gR r84_57 rfl (fun x1 => go (w := (62, [.ref l0, .ref l1, .ref l2, .int l3, .int l4, .int l5, .int l6], [.int l5, .ref x1, .ref l0], h)) r84_60 rfl rfl (E_aI r84_62 (fun x2 => E_vI r84_63 (As := [.ref l0, .int x2]) (rest := []) (cut_n mi83.1 rfl rfl) (rm8_n mi83.2.1 (Nat.le_of_ble_eq_true rfl) (Nat.le_of_ble_eq_true rfl)) mi83.2.2 (fun x4 h3 => E_ri r84_66 (mq84)))))))
-- 85 SecondNearest$Walker.holds(LSecondNearest$Scene;[IIII)Z
theorem mq85 : mRet 85 = (some .boolean) := by decide +kernel
theorem r85_0 : rowAt 85 0 = some (.iconst 0, 1, 0, 0) := by decide +kernel
theorem r85_1 : rowAt 85 1 = some (.istore 6, 2, 0, 0) := by decide +kernel
theorem r85_3 : rowAt 85 3 = some (.iload_n 3, 1, 0, 0) := by decide +kernel
theorem r85_4 : rowAt 85 4 = some (.iconst 0, 1, 0, 0) := by decide +kernel
theorem r85_5 : rowAt 85 5 = some (.invokestatic 121, 3, 225, 1) := by decide +kernel
theorem r85_8 : rowAt 85 8 = some (.istore 7, 2, 0, 0) := by decide +kernel
theorem r85_10 : rowAt 85 10 = some (.iload 7, 2, 0, 0) := by decide +kernel
theorem r85_12 : rowAt 85 12 = some (.iload 4, 2, 0, 0) := by decide +kernel
theorem r85_14 : rowAt 85 14 = some (.if_icmp .ge 158, 3, 0, 0) := by decide +kernel
theorem r85_17 : rowAt 85 17 = some (.iload 7, 2, 0, 0) := by decide +kernel
theorem r85_19 : rowAt 85 19 = some (.aload_n 2, 1, 0, 0) := by decide +kernel
theorem r85_20 : rowAt 85 20 = some (.arraylength, 1, 0, 0) := by decide +kernel
theorem r85_21 : rowAt 85 21 = some (.if_icmp .ge 151, 3, 0, 0) := by decide +kernel
theorem r85_24 : rowAt 85 24 = some (.aload_n 2, 1, 0, 0) := by decide +kernel
theorem r85_25 : rowAt 85 25 = some (.iload 7, 2, 0, 0) := by decide +kernel
theorem r85_27 : rowAt 85 27 = some (.iaload, 1, 0, 0) := by decide +kernel
theorem r85_28 : rowAt 85 28 = some (.istore 8, 2, 0, 0) := by decide +kernel
theorem r85_30 : rowAt 85 30 = some (.iload 8, 2, 0, 0) := by decide +kernel
theorem r85_32 : rowAt 85 32 = some (.bipush 22, 2, 0, 0) := by decide +kernel
theorem r85_34 : rowAt 85 34 = some (.if_icmp .ne 32, 3, 0, 0) := by decide +kernel
theorem r85_37 : rowAt 85 37 = some (.iload 6, 2, 0, 0) := by decide +kernel
theorem r85_39 : rowAt 85 39 = some (.iconst 1, 1, 0, 0) := by decide +kernel
theorem r85_40 : rowAt 85 40 = some (.if_icmp .lt 26, 3, 0, 0) := by decide +kernel
theorem r85_43 : rowAt 85 43 = some (.aload_n 0, 1, 0, 0) := by decide +kernel
theorem r85_44 : rowAt 85 44 = some (.getfield 11, 3, 7, 1) := by decide +kernel
theorem r85_47 : rowAt 85 47 = some (.iload 6, 2, 0, 0) := by decide +kernel
theorem r85_49 : rowAt 85 49 = some (.iconst 1, 1, 0, 0) := by decide +kernel
theorem r85_50 : rowAt 85 50 = some (.isub, 1, 0, 0) := by decide +kernel
theorem r85_51 : rowAt 85 51 = some (.lconst 1, 1, 0, 0) := by decide +kernel
theorem r85_52 : rowAt 85 52 = some (.aload_n 0, 1, 0, 0) := by decide +kernel
theorem r85_53 : rowAt 85 53 = some (.getfield 11, 3, 7, 1) := by decide +kernel
theorem r85_56 : rowAt 85 56 = some (.iload 6, 2, 0, 0) := by decide +kernel
theorem r85_58 : rowAt 85 58 = some (.iconst 1, 1, 0, 0) := by decide +kernel
theorem r85_59 : rowAt 85 59 = some (.isub, 1, 0, 0) := by decide +kernel
theorem r85_60 : rowAt 85 60 = some (.laload, 1, 0, 0) := by decide +kernel
theorem r85_61 : rowAt 85 61 = some (.lsub, 1, 0, 0) := by decide +kernel
theorem r85_62 : rowAt 85 62 = some (.lastore, 1, 0, 0) := by decide +kernel
theorem r85_63 : rowAt 85 63 = some (.goto 103, 3, 0, 0) := by decide +kernel
theorem r85_66 : rowAt 85 66 = some (.iload 8, 2, 0, 0) := by decide +kernel
theorem r85_68 : rowAt 85 68 = some (.bipush 10, 2, 0, 0) := by decide +kernel
theorem r85_70 : rowAt 85 70 = some (.if_icmp .lt 54, 3, 0, 0) := by decide +kernel
theorem r85_73 : rowAt 85 73 = some (.iload 8, 2, 0, 0) := by decide +kernel
theorem r85_75 : rowAt 85 75 = some (.bipush 21, 2, 0, 0) := by decide +kernel
theorem r85_77 : rowAt 85 77 = some (.if_icmp .gt 47, 3, 0, 0) := by decide +kernel
theorem r85_80 : rowAt 85 80 = some (.iload 6, 2, 0, 0) := by decide +kernel
theorem r85_82 : rowAt 85 82 = some (.iconst 2, 1, 0, 0) := by decide +kernel
theorem r85_83 : rowAt 85 83 = some (.if_icmp .lt 41, 3, 0, 0) := by decide +kernel
theorem r85_86 : rowAt 85 86 = some (.aload_n 0, 1, 0, 0) := by decide +kernel
theorem r85_87 : rowAt 85 87 = some (.getfield 11, 3, 7, 1) := by decide +kernel
theorem r85_90 : rowAt 85 90 = some (.iload 6, 2, 0, 0) := by decide +kernel
theorem r85_92 : rowAt 85 92 = some (.iconst 2, 1, 0, 0) := by decide +kernel
theorem r85_93 : rowAt 85 93 = some (.isub, 1, 0, 0) := by decide +kernel
theorem r85_94 : rowAt 85 94 = some (.iload 8, 2, 0, 0) := by decide +kernel
theorem r85_96 : rowAt 85 96 = some (.aload_n 0, 1, 0, 0) := by decide +kernel
theorem r85_97 : rowAt 85 97 = some (.getfield 11, 3, 7, 1) := by decide +kernel
theorem r85_100 : rowAt 85 100 = some (.iload 6, 2, 0, 0) := by decide +kernel
theorem r85_102 : rowAt 85 102 = some (.iconst 2, 1, 0, 0) := by decide +kernel
theorem r85_103 : rowAt 85 103 = some (.isub, 1, 0, 0) := by decide +kernel
theorem r85_104 : rowAt 85 104 = some (.laload, 1, 0, 0) := by decide +kernel
theorem r85_105 : rowAt 85 105 = some (.aload_n 0, 1, 0, 0) := by decide +kernel
theorem r85_106 : rowAt 85 106 = some (.getfield 11, 3, 7, 1) := by decide +kernel
theorem r85_109 : rowAt 85 109 = some (.iload 6, 2, 0, 0) := by decide +kernel
theorem r85_111 : rowAt 85 111 = some (.iconst 1, 1, 0, 0) := by decide +kernel
theorem r85_112 : rowAt 85 112 = some (.isub, 1, 0, 0) := by decide +kernel
theorem r85_113 : rowAt 85 113 = some (.laload, 1, 0, 0) := by decide +kernel
theorem r85_114 : rowAt 85 114 = some (.invokestatic 124, 3, 86, 1) := by decide +kernel
theorem r85_117 : rowAt 85 117 = some (.lastore, 1, 0, 0) := by decide +kernel
theorem r85_118 : rowAt 85 118 = some (.iinc 6 (-1), 3, 0, 0) := by decide +kernel
theorem r85_121 : rowAt 85 121 = some (.goto 45, 3, 0, 0) := by decide +kernel
theorem r85_124 : rowAt 85 124 = some (.iload 6, 2, 0, 0) := by decide +kernel
theorem r85_126 : rowAt 85 126 = some (.bipush 64, 2, 0, 0) := by decide +kernel
theorem r85_128 : rowAt 85 128 = some (.if_icmp .ge 38, 3, 0, 0) := by decide +kernel
theorem r85_131 : rowAt 85 131 = some (.aload_n 0, 1, 0, 0) := by decide +kernel
theorem r85_132 : rowAt 85 132 = some (.getfield 11, 3, 7, 1) := by decide +kernel
theorem r85_135 : rowAt 85 135 = some (.iload 6, 2, 0, 0) := by decide +kernel
theorem r85_137 : rowAt 85 137 = some (.iload 8, 2, 0, 0) := by decide +kernel
theorem r85_139 : rowAt 85 139 = some (.bipush 32, 2, 0, 0) := by decide +kernel
theorem r85_141 : rowAt 85 141 = some (.if_icmp .lt 12, 3, 0, 0) := by decide +kernel
theorem r85_144 : rowAt 85 144 = some (.iload 8, 2, 0, 0) := by decide +kernel
theorem r85_146 : rowAt 85 146 = some (.bipush 32, 2, 0, 0) := by decide +kernel
theorem r85_148 : rowAt 85 148 = some (.isub, 1, 0, 0) := by decide +kernel
theorem r85_149 : rowAt 85 149 = some (.i2l, 1, 0, 0) := by decide +kernel
theorem r85_150 : rowAt 85 150 = some (.goto 12, 3, 0, 0) := by decide +kernel
theorem r85_153 : rowAt 85 153 = some (.aload_n 0, 1, 0, 0) := by decide +kernel
theorem r85_154 : rowAt 85 154 = some (.aload_n 1, 1, 0, 0) := by decide +kernel
theorem r85_155 : rowAt 85 155 = some (.iload 8, 2, 0, 0) := by decide +kernel
theorem r85_157 : rowAt 85 157 = some (.iload 5, 2, 0, 0) := by decide +kernel
theorem r85_159 : rowAt 85 159 = some (.invokevirtual 128, 3, 87, 0) := by decide +kernel
theorem r85_162 : rowAt 85 162 = some (.lastore, 1, 0, 0) := by decide +kernel
theorem r85_163 : rowAt 85 163 = some (.iinc 6 1, 3, 0, 0) := by decide +kernel
theorem r85_166 : rowAt 85 166 = some (.iinc 7 1, 3, 0, 0) := by decide +kernel
theorem r85_169 : rowAt 85 169 = some (.goto (-159), 3, 0, 0) := by decide +kernel
theorem r85_172 : rowAt 85 172 = some (.aload_n 0, 1, 0, 0) := by decide +kernel
theorem r85_173 : rowAt 85 173 = some (.getfield 11, 3, 7, 1) := by decide +kernel
theorem r85_176 : rowAt 85 176 = some (.iconst 0, 1, 0, 0) := by decide +kernel
theorem r85_177 : rowAt 85 177 = some (.laload, 1, 0, 0) := by decide +kernel
theorem r85_178 : rowAt 85 178 = some (.lconst 0, 1, 0, 0) := by decide +kernel
theorem r85_179 : rowAt 85 179 = some (.lcmp, 1, 0, 0) := by decide +kernel
theorem r85_180 : rowAt 85 180 = some (.ifCond .eq 7, 3, 0, 0) := by decide +kernel
theorem r85_183 : rowAt 85 183 = some (.iconst 1, 1, 0, 0) := by decide +kernel
theorem r85_184 : rowAt 85 184 = some (.goto 4, 3, 0, 0) := by decide +kernel
theorem r85_187 : rowAt 85 187 = some (.iconst 0, 1, 0, 0) := by decide +kernel
theorem r85_188 : rowAt 85 188 = some (.ireturn, 1, 0, 0) := by decide +kernel
theorem en85 (a0 : Nat) (a1 : Nat) (a2 : Nat) (a3 : Int32) (a4 : Int32) (a5 : Int32) : iniL 85 [.ref a0, .ref a1, .ref a2, .int a3, .int a4, .int a5] = [.ref a0, .ref a1, .ref a2, .int a3, .int a4, .int a5, .null, .null, .null] := ini_n mi85 rfl
theorem b85_0 (d : Nat) (l0 : Nat) (l1 : Nat) (l2 : Nat) (l3 : Int32) (l4 : Int32) (l5 : Int32) (h : aH) (K : Option Value → aH → Prop) : E scr false (d + 1) 85 0 [.ref l0, .ref l1, .ref l2, .int l3, .int l4, .int l5, .null, .null, .null] [] h K = sI scr d 225 [.int l3, .int 0] h (fun (x2 : Int32) (h1 : aH) => E scr false (d + 1) 85 10 [.ref l0, .ref l1, .ref l2, .int l3, .int l4, .int l5, .int 0, .int x2, .null] [] h1 K) := E_ic r85_0 (v := 0) (by decide) (go (w := (3, [.ref l0, .ref l1, .ref l2, .int l3, .int l4, .int l5, .int 0, .null, .null], [], h)) r85_1 rfl rfl (go (w := (4, [.ref l0, .ref l1, .ref l2, .int l3, .int l4, .int l5, .int 0, .null, .null], [.int l3], h)) r85_3 rfl rfl (E_ic r85_4 (v := 0) (by decide) (E_sI r85_5 (As := [.int l3, .int 0]) (rest := []) (cut_n mi225.1 rfl rfl) (rm8_n mi225.2.1 (Nat.le_of_ble_eq_true rfl) (Nat.le_of_ble_eq_true rfl)) mi225.2.2 (fun x2 h1 => go (w := (10, [.ref l0, .ref l1, .ref l2, .int l3, .int l4, .int l5, .int 0, .int x2, .null], [], h1)) r85_8 rfl rfl (rfl))))))
theorem b85_10 (d : Nat) (l0 : Nat) (l1 : Nat) (l2 : Nat) (l3 : Int32) (l4 : Int32) (l5 : Int32) (l6 : Int32) (l7 : Int32) (l8 : Value) (h : aH) (K : Option Value → aH → Prop) : E scr false d 85 10 [.ref l0, .ref l1, .ref l2, .int l3, .int l4, .int l5, .int l6, .int l7, l8] [] h K = (if l4 ≤ l7 then E scr false d 85 172 [.ref l0, .ref l1, .ref l2, .int l3, .int l4, .int l5, .int l6, .int l7, l8] [] h K else aN scr h l2 (fun x1 : Nat => (if (Int32.ofNat x1) ≤ l7 then E scr false d 85 172 [.ref l0, .ref l1, .ref l2, .int l3, .int l4, .int l5, .int l6, .int l7, l8] [] h K else aI scr h l2 l7 (fun x2 : Int32 => (if x2 = 22 then (if l6 < 1 then E scr false d 85 66 [.ref l0, .ref l1, .ref l2, .int l3, .int l4, .int l5, .int l6, .int l7, .int x2] [] h K else gR scr h l0 7 1 (fun x3 : Nat => gR scr h l0 7 1 (fun x4 : Nat => aJ h x4 ((l6 - 1)) (fun x5 : Int64 => wJ h x3 ((l6 - 1)) ((1 - x5)) (fun h6 : aH => E scr false d 85 166 [.ref l0, .ref l1, .ref l2, .int l3, .int l4, .int l5, .int l6, .int l7, .int x2] [] h6 K))))) else E scr false d 85 66 [.ref l0, .ref l1, .ref l2, .int l3, .int l4, .int l5, .int l6, .int l7, .int x2] [] h K))))) := go (w := (12, [.ref l0, .ref l1, .ref l2, .int l3, .int l4, .int l5, .int l6, .int l7, l8], [.int l7], h)) r85_10 rfl rfl (go (w := (14, [.ref l0, .ref l1, .ref l2, .int l3, .int l4, .int l5, .int l6, .int l7, l8], [.int l4, .int l7], h)) r85_12 rfl rfl (E_i2_ge r85_14 rfl (rfl) (go (w := (19, [.ref l0, .ref l1, .ref l2, .int l3, .int l4, .int l5, .int l6, .int l7, l8], [.int l7], h)) r85_17 rfl rfl (go (w := (20, [.ref l0, .ref l1, .ref l2, .int l3, .int l4, .int l5, .int l6, .int l7, l8], [.ref l2, .int l7], h)) r85_19 rfl rfl (E_aN r85_20 (fun x1 => E_i2_ge r85_21 rfl (rfl) (go (w := (25, [.ref l0, .ref l1, .ref l2, .int l3, .int l4, .int l5, .int l6, .int l7, l8], [.ref l2], h)) r85_24 rfl rfl (go (w := (27, [.ref l0, .ref l1, .ref l2, .int l3, .int l4, .int l5, .int l6, .int l7, l8], [.int l7, .ref l2], h)) r85_25 rfl rfl (E_aI r85_27 (fun x2 => go (w := (30, [.ref l0, .ref l1, .ref l2, .int l3, .int l4, .int l5, .int l6, .int l7, .int x2], [], h)) r85_28 rfl rfl (go (w := (32, [.ref l0, .ref l1, .ref l2, .int l3, .int l4, .int l5, .int l6, .int l7, .int x2], [.int x2], h)) r85_30 rfl rfl (E_bip r85_32 (v := 22) (by decide) (E_i2_ne r85_34 rfl (rfl) (go (w := (39, [.ref l0, .ref l1, .ref l2, .int l3, .int l4, .int l5, .int l6, .int l7, .int x2], [.int l6], h)) r85_37 rfl rfl (E_ic r85_39 (v := 1) (by decide) (E_i2_lt r85_40 rfl (rfl) (go (w := (44, [.ref l0, .ref l1, .ref l2, .int l3, .int l4, .int l5, .int l6, .int l7, .int x2], [.ref l0], h)) r85_43 rfl rfl (E_gR r85_44 rfl (fun x3 => go (w := (49, [.ref l0, .ref l1, .ref l2, .int l3, .int l4, .int l5, .int l6, .int l7, .int x2], [.int l6, .ref x3], h)) r85_47 rfl rfl (E_ic r85_49 (v := 1) (by decide) (go (w := (51, [.ref l0, .ref l1, .ref l2, .int l3, .int l4, .int l5, .int l6, .int l7, .int x2], [.int (l6 - 1), .ref x3], h)) r85_50 rfl rfl (E_lc r85_51 (v := 1) (by decide) (go (w := (53, [.ref l0, .ref l1, .ref l2, .int l3, .int l4, .int l5, .int l6, .int l7, .int x2], [.ref l0, .long 1, .int (l6 - 1), .ref x3], h)) r85_52 rfl rfl (E_gR r85_53 rfl (fun x4 => go (w := (58, [.ref l0, .ref l1, .ref l2, .int l3, .int l4, .int l5, .int l6, .int l7, .int x2], [.int l6, .ref x4, .long 1, .int (l6 - 1), .ref x3], h)) r85_56 rfl rfl (E_ic r85_58 (v := 1) (by decide) (go (w := (60, [.ref l0, .ref l1, .ref l2, .int l3, .int l4, .int l5, .int l6, .int l7, .int x2], [.int (l6 - 1), .ref x4, .long 1, .int (l6 - 1), .ref x3], h)) r85_59 rfl rfl (E_aJ r85_60 (fun x5 => go (w := (62, [.ref l0, .ref l1, .ref l2, .int l3, .int l4, .int l5, .int l6, .int l7, .int x2], [.long (1 - x5), .int (l6 - 1), .ref x3], h)) r85_61 rfl rfl (E_wJ r85_62 (fun h6 => E_gt r85_63 rfl (rfl))))))))))))))))))))))))))))))))
theorem b85_66 (d : Nat) (l0 : Nat) (l1 : Nat) (l2 : Nat) (l3 : Int32) (l4 : Int32) (l5 : Int32) (l6 : Int32) (l7 : Int32) (l8 : Int32) (h : aH) (K : Option Value → aH → Prop) : E scr false (d + 1) 85 66 [.ref l0, .ref l1, .ref l2, .int l3, .int l4, .int l5, .int l6, .int l7, .int l8] [] h K = (if l8 < 10 then E scr false (d + 1) 85 124 [.ref l0, .ref l1, .ref l2, .int l3, .int l4, .int l5, .int l6, .int l7, .int l8] [] h K else (if 21 < l8 then E scr false (d + 1) 85 124 [.ref l0, .ref l1, .ref l2, .int l3, .int l4, .int l5, .int l6, .int l7, .int l8] [] h K else (if l6 < 2 then E scr false (d + 1) 85 124 [.ref l0, .ref l1, .ref l2, .int l3, .int l4, .int l5, .int l6, .int l7, .int l8] [] h K else gR scr h l0 7 1 (fun x1 : Nat => gR scr h l0 7 1 (fun x2 : Nat => aJ h x2 ((l6 - 2)) (fun x3 : Int64 => gR scr h l0 7 1 (fun x4 : Nat => aJ h x4 ((l6 - 1)) (fun x5 : Int64 => sJ scr d 86 [.int l8, .long x3, .long x5] h (fun (x7 : Int64) (h6 : aH) => wJ h6 x1 ((l6 - 2)) x7 (fun h8 : aH => E scr false (d + 1) 85 166 [.ref l0, .ref l1, .ref l2, .int l3, .int l4, .int l5, .int (l6 + (-1)), .int l7, .int l8] [] h8 K)))))))))) := go (w := (68, [.ref l0, .ref l1, .ref l2, .int l3, .int l4, .int l5, .int l6, .int l7, .int l8], [.int l8], h)) r85_66 rfl rfl (E_bip r85_68 (v := 10) (by decide) (E_i2_lt r85_70 rfl (rfl) (go (w := (75, [.ref l0, .ref l1, .ref l2, .int l3, .int l4, .int l5, .int l6, .int l7, .int l8], [.int l8], h)) r85_73 rfl rfl (E_bip r85_75 (v := 21) (by decide) (E_i2_gt r85_77 rfl (rfl) (go (w := (82, [.ref l0, .ref l1, .ref l2, .int l3, .int l4, .int l5, .int l6, .int l7, .int l8], [.int l6], h)) r85_80 rfl rfl (E_ic r85_82 (v := 2) (by decide) (E_i2_lt r85_83 rfl (rfl) (go (w := (87, [.ref l0, .ref l1, .ref l2, .int l3, .int l4, .int l5, .int l6, .int l7, .int l8], [.ref l0], h)) r85_86 rfl rfl (E_gR r85_87 rfl (fun x1 => go (w := (92, [.ref l0, .ref l1, .ref l2, .int l3, .int l4, .int l5, .int l6, .int l7, .int l8], [.int l6, .ref x1], h)) r85_90 rfl rfl (E_ic r85_92 (v := 2) (by decide) (go (w := (94, [.ref l0, .ref l1, .ref l2, .int l3, .int l4, .int l5, .int l6, .int l7, .int l8], [.int (l6 - 2), .ref x1], h)) r85_93 rfl rfl (go (w := (96, [.ref l0, .ref l1, .ref l2, .int l3, .int l4, .int l5, .int l6, .int l7, .int l8], [.int l8, .int (l6 - 2), .ref x1], h)) r85_94 rfl rfl (go (w := (97, [.ref l0, .ref l1, .ref l2, .int l3, .int l4, .int l5, .int l6, .int l7, .int l8], [.ref l0, .int l8, .int (l6 - 2), .ref x1], h)) r85_96 rfl rfl (E_gR r85_97 rfl (fun x2 => go (w := (102, [.ref l0, .ref l1, .ref l2, .int l3, .int l4, .int l5, .int l6, .int l7, .int l8], [.int l6, .ref x2, .int l8, .int (l6 - 2), .ref x1], h)) r85_100 rfl rfl (E_ic r85_102 (v := 2) (by decide) (go (w := (104, [.ref l0, .ref l1, .ref l2, .int l3, .int l4, .int l5, .int l6, .int l7, .int l8], [.int (l6 - 2), .ref x2, .int l8, .int (l6 - 2), .ref x1], h)) r85_103 rfl rfl (E_aJ r85_104 (fun x3 => go (w := (106, [.ref l0, .ref l1, .ref l2, .int l3, .int l4, .int l5, .int l6, .int l7, .int l8], [.ref l0, .long x3, .int l8, .int (l6 - 2), .ref x1], h)) r85_105 rfl rfl (E_gR r85_106 rfl (fun x4 => go (w := (111, [.ref l0, .ref l1, .ref l2, .int l3, .int l4, .int l5, .int l6, .int l7, .int l8], [.int l6, .ref x4, .long x3, .int l8, .int (l6 - 2), .ref x1], h)) r85_109 rfl rfl (E_ic r85_111 (v := 1) (by decide) (go (w := (113, [.ref l0, .ref l1, .ref l2, .int l3, .int l4, .int l5, .int l6, .int l7, .int l8], [.int (l6 - 1), .ref x4, .long x3, .int l8, .int (l6 - 2), .ref x1], h)) r85_112 rfl rfl (E_aJ r85_113 (fun x5 => E_sJ r85_114 (As := [.int l8, .long x3, .long x5]) (rest := [.int (l6 - 2), .ref x1]) (cut_n mi86.1 rfl rfl) (rm8_n mi86.2.1 (Nat.le_of_ble_eq_true rfl) (Nat.le_of_ble_eq_true rfl)) mi86.2.2 (fun x7 h6 => E_wJ r85_117 (fun h8 => E_inc r85_118 (c := (-1)) rfl (by decide) (L' := [.ref l0, .ref l1, .ref l2, .int l3, .int l4, .int l5, .int (l6 + (-1)), .int l7, .int l8]) rfl (E_gt r85_121 rfl (rfl)))))))))))))))))))))))))))))))
theorem b85_124 (d : Nat) (l0 : Nat) (l1 : Nat) (l2 : Nat) (l3 : Int32) (l4 : Int32) (l5 : Int32) (l6 : Int32) (l7 : Int32) (l8 : Int32) (h : aH) (K : Option Value → aH → Prop) : E scr false (d + 1) 85 124 [.ref l0, .ref l1, .ref l2, .int l3, .int l4, .int l5, .int l6, .int l7, .int l8] [] h K = (if 64 ≤ l6 then E scr false (d + 1) 85 166 [.ref l0, .ref l1, .ref l2, .int l3, .int l4, .int l5, .int l6, .int l7, .int l8] [] h K else gR scr h l0 7 1 (fun x1 : Nat => (if l8 < 32 then vJ scr d 87 [.ref l0, .ref l1, .int l8, .int l5] h (fun (x3 : Int64) (h2 : aH) => E scr false (d + 1) 85 162 [.ref l0, .ref l1, .ref l2, .int l3, .int l4, .int l5, .int l6, .int l7, .int l8] [.long x3, .int l6, .ref x1] h2 K) else E scr false (d + 1) 85 162 [.ref l0, .ref l1, .ref l2, .int l3, .int l4, .int l5, .int l6, .int l7, .int l8] [.long (Int32.toInt64 (l8 - 32)), .int l6, .ref x1] h K))) := go (w := (126, [.ref l0, .ref l1, .ref l2, .int l3, .int l4, .int l5, .int l6, .int l7, .int l8], [.int l6], h)) r85_124 rfl rfl (E_bip r85_126 (v := 64) (by decide) (E_i2_ge r85_128 rfl (rfl) (go (w := (132, [.ref l0, .ref l1, .ref l2, .int l3, .int l4, .int l5, .int l6, .int l7, .int l8], [.ref l0], h)) r85_131 rfl rfl (E_gR r85_132 rfl (fun x1 => go (w := (137, [.ref l0, .ref l1, .ref l2, .int l3, .int l4, .int l5, .int l6, .int l7, .int l8], [.int l6, .ref x1], h)) r85_135 rfl rfl (go (w := (139, [.ref l0, .ref l1, .ref l2, .int l3, .int l4, .int l5, .int l6, .int l7, .int l8], [.int l8, .int l6, .ref x1], h)) r85_137 rfl rfl (E_bip r85_139 (v := 32) (by decide) (E_i2_lt r85_141 rfl (go (w := (154, [.ref l0, .ref l1, .ref l2, .int l3, .int l4, .int l5, .int l6, .int l7, .int l8], [.ref l0, .int l6, .ref x1], h)) r85_153 rfl rfl (go (w := (155, [.ref l0, .ref l1, .ref l2, .int l3, .int l4, .int l5, .int l6, .int l7, .int l8], [.ref l1, .ref l0, .int l6, .ref x1], h)) r85_154 rfl rfl (go (w := (157, [.ref l0, .ref l1, .ref l2, .int l3, .int l4, .int l5, .int l6, .int l7, .int l8], [.int l8, .ref l1, .ref l0, .int l6, .ref x1], h)) r85_155 rfl rfl (go (w := (159, [.ref l0, .ref l1, .ref l2, .int l3, .int l4, .int l5, .int l6, .int l7, .int l8], [.int l5, .int l8, .ref l1, .ref l0, .int l6, .ref x1], h)) r85_157 rfl rfl (E_vJ r85_159 (As := [.ref l0, .ref l1, .int l8, .int l5]) (rest := [.int l6, .ref x1]) (cut_n mi87.1 rfl rfl) (rm8_n mi87.2.1 (Nat.le_of_ble_eq_true rfl) (Nat.le_of_ble_eq_true rfl)) mi87.2.2 (fun x3 h2 => rfl)))))) (go (w := (146, [.ref l0, .ref l1, .ref l2, .int l3, .int l4, .int l5, .int l6, .int l7, .int l8], [.int l8, .int l6, .ref x1], h)) r85_144 rfl rfl (E_bip r85_146 (v := 32) (by decide) (go (w := (149, [.ref l0, .ref l1, .ref l2, .int l3, .int l4, .int l5, .int l6, .int l7, .int l8], [.int (l8 - 32), .int l6, .ref x1], h)) r85_148 rfl rfl (go (w := (150, [.ref l0, .ref l1, .ref l2, .int l3, .int l4, .int l5, .int l6, .int l7, .int l8], [.long (Int32.toInt64 (l8 - 32)), .int l6, .ref x1], h)) r85_149 rfl rfl (E_gt r85_150 rfl (rfl))))))))))))))
theorem b85_162 (d : Nat) (l0 : Nat) (l1 : Nat) (l2 : Nat) (l3 : Int32) (l4 : Int32) (l5 : Int32) (l6 : Int32) (l7 : Int32) (l8 : Int32) (s0 : Int64) (s1 : Int32) (s2 : Nat) (h : aH) (K : Option Value → aH → Prop) : E scr false d 85 162 [.ref l0, .ref l1, .ref l2, .int l3, .int l4, .int l5, .int l6, .int l7, .int l8] [.long s0, .int s1, .ref s2] h K = wJ h s2 s1 s0 (fun h1 : aH => E scr false d 85 166 [.ref l0, .ref l1, .ref l2, .int l3, .int l4, .int l5, .int (l6 + 1), .int l7, .int l8] [] h1 K) := E_wJ r85_162 (fun h1 => E_inc r85_163 (c := 1) rfl (by decide) (L' := [.ref l0, .ref l1, .ref l2, .int l3, .int l4, .int l5, .int (l6 + 1), .int l7, .int l8]) rfl (rfl))
theorem b85_166 (d : Nat) (l0 : Nat) (l1 : Nat) (l2 : Nat) (l3 : Int32) (l4 : Int32) (l5 : Int32) (l6 : Int32) (l7 : Int32) (l8 : Int32) (h : aH) (K : Option Value → aH → Prop) : E scr false d 85 166 [.ref l0, .ref l1, .ref l2, .int l3, .int l4, .int l5, .int l6, .int l7, .int l8] [] h K = E scr false d 85 10 [.ref l0, .ref l1, .ref l2, .int l3, .int l4, .int l5, .int l6, .int (l7 + 1), .int l8] [] h K := E_inc r85_166 (c := 1) rfl (by decide) (L' := [.ref l0, .ref l1, .ref l2, .int l3, .int l4, .int l5, .int l6, .int (l7 + 1), .int l8]) rfl (E_gt r85_169 rfl (rfl))
theorem b85_172 (d : Nat) (l0 : Nat) (l1 : Nat) (l2 : Nat) (l3 : Int32) (l4 : Int32) (l5 : Int32) (l6 : Int32) (l7 : Int32) (l8 : Value) (h : aH) (K : Option Value → aH → Prop) : E scr false d 85 172 [.ref l0, .ref l1, .ref l2, .int l3, .int l4, .int l5, .int l6, .int l7, l8] [] h K = gR scr h l0 7 1 (fun x1 : Nat => aJ h x1 0 (fun x2 : Int64 => (if (lg_cmp x2 0) = 0 then K (some (.int 0)) h else K (some (.int 1)) h))) := go (w := (173, [.ref l0, .ref l1, .ref l2, .int l3, .int l4, .int l5, .int l6, .int l7, l8], [.ref l0], h)) r85_172 rfl rfl (E_gR r85_173 rfl (fun x1 => E_ic r85_176 (v := 0) (by decide) (E_aJ r85_177 (fun x2 => E_lc r85_178 (v := 0) (by decide) (go (w := (180, [.ref l0, .ref l1, .ref l2, .int l3, .int l4, .int l5, .int l6, .int l7, l8], [.int (lg_cmp x2 0)], h)) r85_179 rfl rfl (E_i1_eq r85_180 rfl (E_ic r85_187 (v := 0) (by decide) (E_rz r85_188 (mq85) (by decide))) (E_ic r85_183 (v := 1) (by decide) (E_gt r85_184 rfl (E_rz r85_188 (mq85) (by decide))))))))))
-- 86 SecondNearest$Walker.work(IJJ)J
theorem mq86 : mRet 86 = (some .long) := by decide +kernel
theorem r86_0 : rowAt 86 0 = some (.iload_n 0, 1, 0, 0) := by decide +kernel
theorem r86_1 : rowAt 86 1 = some (.tableswitch 163 10 20 #[59, 63, 67, 71, 85, 99, 111, 123, 135, 147, 159], 59, 0, 0) := by decide +kernel
theorem r86_60 : rowAt 86 60 = some (.lload_n 1, 1, 0, 0) := by decide +kernel
theorem r86_61 : rowAt 86 61 = some (.lload_n 3, 1, 0, 0) := by decide +kernel
theorem r86_62 : rowAt 86 62 = some (.ladd, 1, 0, 0) := by decide +kernel
theorem r86_63 : rowAt 86 63 = some (.lreturn, 1, 0, 0) := by decide +kernel
theorem r86_64 : rowAt 86 64 = some (.lload_n 1, 1, 0, 0) := by decide +kernel
theorem r86_65 : rowAt 86 65 = some (.lload_n 3, 1, 0, 0) := by decide +kernel
theorem r86_66 : rowAt 86 66 = some (.lsub, 1, 0, 0) := by decide +kernel
theorem r86_67 : rowAt 86 67 = some (.lreturn, 1, 0, 0) := by decide +kernel
theorem r86_68 : rowAt 86 68 = some (.lload_n 1, 1, 0, 0) := by decide +kernel
theorem r86_69 : rowAt 86 69 = some (.lload_n 3, 1, 0, 0) := by decide +kernel
theorem r86_70 : rowAt 86 70 = some (.lmul, 1, 0, 0) := by decide +kernel
theorem r86_71 : rowAt 86 71 = some (.lreturn, 1, 0, 0) := by decide +kernel
theorem r86_72 : rowAt 86 72 = some (.lload_n 3, 1, 0, 0) := by decide +kernel
theorem r86_73 : rowAt 86 73 = some (.lconst 0, 1, 0, 0) := by decide +kernel
theorem r86_74 : rowAt 86 74 = some (.lcmp, 1, 0, 0) := by decide +kernel
theorem r86_75 : rowAt 86 75 = some (.ifCond .ne 7, 3, 0, 0) := by decide +kernel
theorem r86_78 : rowAt 86 78 = some (.lconst 0, 1, 0, 0) := by decide +kernel
theorem r86_79 : rowAt 86 79 = some (.goto 6, 3, 0, 0) := by decide +kernel
theorem r86_82 : rowAt 86 82 = some (.lload_n 1, 1, 0, 0) := by decide +kernel
theorem r86_83 : rowAt 86 83 = some (.lload_n 3, 1, 0, 0) := by decide +kernel
theorem r86_84 : rowAt 86 84 = some (.ldiv, 1, 0, 0) := by decide +kernel
theorem r86_85 : rowAt 86 85 = some (.lreturn, 1, 0, 0) := by decide +kernel
theorem r86_86 : rowAt 86 86 = some (.lload_n 3, 1, 0, 0) := by decide +kernel
theorem r86_87 : rowAt 86 87 = some (.lconst 0, 1, 0, 0) := by decide +kernel
theorem r86_88 : rowAt 86 88 = some (.lcmp, 1, 0, 0) := by decide +kernel
theorem r86_89 : rowAt 86 89 = some (.ifCond .ne 7, 3, 0, 0) := by decide +kernel
theorem r86_92 : rowAt 86 92 = some (.lconst 0, 1, 0, 0) := by decide +kernel
theorem r86_93 : rowAt 86 93 = some (.goto 6, 3, 0, 0) := by decide +kernel
theorem r86_96 : rowAt 86 96 = some (.lload_n 1, 1, 0, 0) := by decide +kernel
theorem r86_97 : rowAt 86 97 = some (.lload_n 3, 1, 0, 0) := by decide +kernel
theorem r86_98 : rowAt 86 98 = some (.lrem, 1, 0, 0) := by decide +kernel
theorem r86_99 : rowAt 86 99 = some (.lreturn, 1, 0, 0) := by decide +kernel
theorem r86_100 : rowAt 86 100 = some (.lload_n 1, 1, 0, 0) := by decide +kernel
theorem r86_101 : rowAt 86 101 = some (.lload_n 3, 1, 0, 0) := by decide +kernel
theorem r86_102 : rowAt 86 102 = some (.lcmp, 1, 0, 0) := by decide +kernel
theorem r86_103 : rowAt 86 103 = some (.ifCond .ge 7, 3, 0, 0) := by decide +kernel
theorem r86_106 : rowAt 86 106 = some (.lconst 1, 1, 0, 0) := by decide +kernel
theorem r86_107 : rowAt 86 107 = some (.goto 4, 3, 0, 0) := by decide +kernel
theorem r86_110 : rowAt 86 110 = some (.lconst 0, 1, 0, 0) := by decide +kernel
theorem r86_111 : rowAt 86 111 = some (.lreturn, 1, 0, 0) := by decide +kernel
theorem r86_112 : rowAt 86 112 = some (.lload_n 1, 1, 0, 0) := by decide +kernel
theorem r86_113 : rowAt 86 113 = some (.lload_n 3, 1, 0, 0) := by decide +kernel
theorem r86_114 : rowAt 86 114 = some (.lcmp, 1, 0, 0) := by decide +kernel
theorem r86_115 : rowAt 86 115 = some (.ifCond .gt 7, 3, 0, 0) := by decide +kernel
theorem r86_118 : rowAt 86 118 = some (.lconst 1, 1, 0, 0) := by decide +kernel
theorem r86_119 : rowAt 86 119 = some (.goto 4, 3, 0, 0) := by decide +kernel
theorem r86_122 : rowAt 86 122 = some (.lconst 0, 1, 0, 0) := by decide +kernel
theorem r86_123 : rowAt 86 123 = some (.lreturn, 1, 0, 0) := by decide +kernel
theorem r86_124 : rowAt 86 124 = some (.lload_n 1, 1, 0, 0) := by decide +kernel
theorem r86_125 : rowAt 86 125 = some (.lload_n 3, 1, 0, 0) := by decide +kernel
theorem r86_126 : rowAt 86 126 = some (.lcmp, 1, 0, 0) := by decide +kernel
theorem r86_127 : rowAt 86 127 = some (.ifCond .ne 7, 3, 0, 0) := by decide +kernel
theorem r86_130 : rowAt 86 130 = some (.lconst 1, 1, 0, 0) := by decide +kernel
theorem r86_131 : rowAt 86 131 = some (.goto 4, 3, 0, 0) := by decide +kernel
theorem r86_134 : rowAt 86 134 = some (.lconst 0, 1, 0, 0) := by decide +kernel
theorem r86_135 : rowAt 86 135 = some (.lreturn, 1, 0, 0) := by decide +kernel
theorem r86_136 : rowAt 86 136 = some (.lload_n 1, 1, 0, 0) := by decide +kernel
theorem r86_137 : rowAt 86 137 = some (.lload_n 3, 1, 0, 0) := by decide +kernel
theorem r86_138 : rowAt 86 138 = some (.lcmp, 1, 0, 0) := by decide +kernel
theorem r86_139 : rowAt 86 139 = some (.ifCond .lt 7, 3, 0, 0) := by decide +kernel
theorem r86_142 : rowAt 86 142 = some (.lconst 1, 1, 0, 0) := by decide +kernel
theorem r86_143 : rowAt 86 143 = some (.goto 4, 3, 0, 0) := by decide +kernel
theorem r86_146 : rowAt 86 146 = some (.lconst 0, 1, 0, 0) := by decide +kernel
theorem r86_147 : rowAt 86 147 = some (.lreturn, 1, 0, 0) := by decide +kernel
theorem r86_148 : rowAt 86 148 = some (.lload_n 1, 1, 0, 0) := by decide +kernel
theorem r86_149 : rowAt 86 149 = some (.lload_n 3, 1, 0, 0) := by decide +kernel
theorem r86_150 : rowAt 86 150 = some (.lcmp, 1, 0, 0) := by decide +kernel
theorem r86_151 : rowAt 86 151 = some (.ifCond .le 7, 3, 0, 0) := by decide +kernel
theorem r86_154 : rowAt 86 154 = some (.lconst 1, 1, 0, 0) := by decide +kernel
theorem r86_155 : rowAt 86 155 = some (.goto 4, 3, 0, 0) := by decide +kernel
theorem r86_158 : rowAt 86 158 = some (.lconst 0, 1, 0, 0) := by decide +kernel
theorem r86_159 : rowAt 86 159 = some (.lreturn, 1, 0, 0) := by decide +kernel
theorem r86_160 : rowAt 86 160 = some (.lload_n 1, 1, 0, 0) := by decide +kernel
theorem r86_161 : rowAt 86 161 = some (.lload_n 3, 1, 0, 0) := by decide +kernel
theorem r86_162 : rowAt 86 162 = some (.land, 1, 0, 0) := by decide +kernel
theorem r86_163 : rowAt 86 163 = some (.lreturn, 1, 0, 0) := by decide +kernel
theorem r86_164 : rowAt 86 164 = some (.lload_n 1, 1, 0, 0) := by decide +kernel
theorem r86_165 : rowAt 86 165 = some (.lload_n 3, 1, 0, 0) := by decide +kernel
theorem r86_166 : rowAt 86 166 = some (.lor, 1, 0, 0) := by decide +kernel
theorem r86_167 : rowAt 86 167 = some (.lreturn, 1, 0, 0) := by decide +kernel
theorem en86 (a0 : Int32) (a1 : Int64) (a2 : Int64) : iniL 86 [.int a0, .long a1, .long a2] = [.int a0, .long a1, .null, .long a2, .null] := ini_n mi86 rfl
theorem b86_0 (d : Nat) (l0 : Int32) (l1 : Int64) (l3 : Int64) (h : aH) (K : Option Value → aH → Prop) : E scr false d 86 0 [.int l0, .long l1, .null, .long l3, .null] [] h K = (if l0 = 10 then E scr false d 86 60 [.int l0, .long l1, .null, .long l3, .null] [] h K else (if l0 = 11 then E scr false d 86 64 [.int l0, .long l1, .null, .long l3, .null] [] h K else (if l0 = 12 then E scr false d 86 68 [.int l0, .long l1, .null, .long l3, .null] [] h K else (if l0 = 13 then E scr false d 86 72 [.int l0, .long l1, .null, .long l3, .null] [] h K else (if l0 = 14 then E scr false d 86 86 [.int l0, .long l1, .null, .long l3, .null] [] h K else (if l0 = 15 then E scr false d 86 100 [.int l0, .long l1, .null, .long l3, .null] [] h K else (if l0 = 16 then E scr false d 86 112 [.int l0, .long l1, .null, .long l3, .null] [] h K else (if l0 = 17 then E scr false d 86 124 [.int l0, .long l1, .null, .long l3, .null] [] h K else (if l0 = 18 then E scr false d 86 136 [.int l0, .long l1, .null, .long l3, .null] [] h K else (if l0 = 19 then E scr false d 86 148 [.int l0, .long l1, .null, .long l3, .null] [] h K else (if l0 = 20 then E scr false d 86 160 [.int l0, .long l1, .null, .long l3, .null] [] h K else E scr false d 86 164 [.int l0, .long l1, .null, .long l3, .null] [] h K))))))))))) := go (w := (1, [.int l0, .long l1, .null, .long l3, .null], [.int l0], h)) r86_0 rfl rfl (E_tab (pc := 1) [(10, 60), (11, 64), (12, 68), (13, 72), (14, 86), (15, 100), (16, 112), (17, 124), (18, 136), (19, 148), (20, 160)] 164 r86_1 (by decide +kernel) (by decide +kernel) (by decide +kernel))
theorem b86_60 (d : Nat) (l0 : Int32) (l1 : Int64) (l3 : Int64) (h : aH) (K : Option Value → aH → Prop) : E scr false d 86 60 [.int l0, .long l1, .null, .long l3, .null] [] h K = K (some (.long (l1 + l3))) h := go (w := (61, [.int l0, .long l1, .null, .long l3, .null], [.long l1], h)) r86_60 rfl rfl (go (w := (62, [.int l0, .long l1, .null, .long l3, .null], [.long l3, .long l1], h)) r86_61 rfl rfl (go (w := (63, [.int l0, .long l1, .null, .long l3, .null], [.long (l1 + l3)], h)) r86_62 rfl rfl (E_lret r86_63 (mq86))))
theorem b86_64 (d : Nat) (l0 : Int32) (l1 : Int64) (l3 : Int64) (h : aH) (K : Option Value → aH → Prop) : E scr false d 86 64 [.int l0, .long l1, .null, .long l3, .null] [] h K = K (some (.long (l1 - l3))) h := go (w := (65, [.int l0, .long l1, .null, .long l3, .null], [.long l1], h)) r86_64 rfl rfl (go (w := (66, [.int l0, .long l1, .null, .long l3, .null], [.long l3, .long l1], h)) r86_65 rfl rfl (go (w := (67, [.int l0, .long l1, .null, .long l3, .null], [.long (l1 - l3)], h)) r86_66 rfl rfl (E_lret r86_67 (mq86))))
theorem b86_68 (d : Nat) (l0 : Int32) (l1 : Int64) (l3 : Int64) (h : aH) (K : Option Value → aH → Prop) : E scr false d 86 68 [.int l0, .long l1, .null, .long l3, .null] [] h K = K (some (.long (l1 * l3))) h := go (w := (69, [.int l0, .long l1, .null, .long l3, .null], [.long l1], h)) r86_68 rfl rfl (go (w := (70, [.int l0, .long l1, .null, .long l3, .null], [.long l3, .long l1], h)) r86_69 rfl rfl (go (w := (71, [.int l0, .long l1, .null, .long l3, .null], [.long (l1 * l3)], h)) r86_70 rfl rfl (E_lret r86_71 (mq86))))
theorem b86_72 (d : Nat) (l0 : Int32) (l1 : Int64) (l3 : Int64) (h : aH) (K : Option Value → aH → Prop) : E scr false d 86 72 [.int l0, .long l1, .null, .long l3, .null] [] h K = (if (lg_cmp l3 0) = 0 then K (some (.long 0)) h else (¬ l3 = 0 ∧ K (some (.long (l1 / l3))) h)) := go (w := (73, [.int l0, .long l1, .null, .long l3, .null], [.long l3], h)) r86_72 rfl rfl (E_lc r86_73 (v := 0) (by decide) (go (w := (75, [.int l0, .long l1, .null, .long l3, .null], [.int (lg_cmp l3 0)], h)) r86_74 rfl rfl (E_i1_ne r86_75 rfl (go (w := (83, [.int l0, .long l1, .null, .long l3, .null], [.long l1], h)) r86_82 rfl rfl (go (w := (84, [.int l0, .long l1, .null, .long l3, .null], [.long l3, .long l1], h)) r86_83 rfl rfl (E_ldiv r86_84 (E_lret r86_85 (mq86))))) (E_lc r86_78 (v := 0) (by decide) (E_gt r86_79 rfl (E_lret r86_85 (mq86)))))))
theorem b86_86 (d : Nat) (l0 : Int32) (l1 : Int64) (l3 : Int64) (h : aH) (K : Option Value → aH → Prop) : E scr false d 86 86 [.int l0, .long l1, .null, .long l3, .null] [] h K = (if (lg_cmp l3 0) = 0 then K (some (.long 0)) h else (¬ l3 = 0 ∧ K (some (.long (lrm l1 l3))) h)) := go (w := (87, [.int l0, .long l1, .null, .long l3, .null], [.long l3], h)) r86_86 rfl rfl (E_lc r86_87 (v := 0) (by decide) (go (w := (89, [.int l0, .long l1, .null, .long l3, .null], [.int (lg_cmp l3 0)], h)) r86_88 rfl rfl (E_i1_ne r86_89 rfl (go (w := (97, [.int l0, .long l1, .null, .long l3, .null], [.long l1], h)) r86_96 rfl rfl (go (w := (98, [.int l0, .long l1, .null, .long l3, .null], [.long l3, .long l1], h)) r86_97 rfl rfl (E_remJ r86_98 (E_lret r86_99 (mq86))))) (E_lc r86_92 (v := 0) (by decide) (E_gt r86_93 rfl (E_lret r86_99 (mq86)))))))
theorem b86_100 (d : Nat) (l0 : Int32) (l1 : Int64) (l3 : Int64) (h : aH) (K : Option Value → aH → Prop) : E scr false d 86 100 [.int l0, .long l1, .null, .long l3, .null] [] h K = (if 0 ≤ (lg_cmp l1 l3) then K (some (.long 0)) h else K (some (.long 1)) h) := go (w := (101, [.int l0, .long l1, .null, .long l3, .null], [.long l1], h)) r86_100 rfl rfl (go (w := (102, [.int l0, .long l1, .null, .long l3, .null], [.long l3, .long l1], h)) r86_101 rfl rfl (go (w := (103, [.int l0, .long l1, .null, .long l3, .null], [.int (lg_cmp l1 l3)], h)) r86_102 rfl rfl (E_i1_ge r86_103 rfl (E_lc r86_110 (v := 0) (by decide) (E_lret r86_111 (mq86))) (E_lc r86_106 (v := 1) (by decide) (E_gt r86_107 rfl (E_lret r86_111 (mq86)))))))
theorem b86_112 (d : Nat) (l0 : Int32) (l1 : Int64) (l3 : Int64) (h : aH) (K : Option Value → aH → Prop) : E scr false d 86 112 [.int l0, .long l1, .null, .long l3, .null] [] h K = (if 0 < (lg_cmp l1 l3) then K (some (.long 0)) h else K (some (.long 1)) h) := go (w := (113, [.int l0, .long l1, .null, .long l3, .null], [.long l1], h)) r86_112 rfl rfl (go (w := (114, [.int l0, .long l1, .null, .long l3, .null], [.long l3, .long l1], h)) r86_113 rfl rfl (go (w := (115, [.int l0, .long l1, .null, .long l3, .null], [.int (lg_cmp l1 l3)], h)) r86_114 rfl rfl (E_i1_gt r86_115 rfl (E_lc r86_122 (v := 0) (by decide) (E_lret r86_123 (mq86))) (E_lc r86_118 (v := 1) (by decide) (E_gt r86_119 rfl (E_lret r86_123 (mq86)))))))
theorem b86_124 (d : Nat) (l0 : Int32) (l1 : Int64) (l3 : Int64) (h : aH) (K : Option Value → aH → Prop) : E scr false d 86 124 [.int l0, .long l1, .null, .long l3, .null] [] h K = (if (lg_cmp l1 l3) = 0 then K (some (.long 1)) h else K (some (.long 0)) h) := go (w := (125, [.int l0, .long l1, .null, .long l3, .null], [.long l1], h)) r86_124 rfl rfl (go (w := (126, [.int l0, .long l1, .null, .long l3, .null], [.long l3, .long l1], h)) r86_125 rfl rfl (go (w := (127, [.int l0, .long l1, .null, .long l3, .null], [.int (lg_cmp l1 l3)], h)) r86_126 rfl rfl (E_i1_ne r86_127 rfl (E_lc r86_134 (v := 0) (by decide) (E_lret r86_135 (mq86))) (E_lc r86_130 (v := 1) (by decide) (E_gt r86_131 rfl (E_lret r86_135 (mq86)))))))
theorem b86_136 (d : Nat) (l0 : Int32) (l1 : Int64) (l3 : Int64) (h : aH) (K : Option Value → aH → Prop) : E scr false d 86 136 [.int l0, .long l1, .null, .long l3, .null] [] h K = (if (lg_cmp l1 l3) < 0 then K (some (.long 0)) h else K (some (.long 1)) h) := go (w := (137, [.int l0, .long l1, .null, .long l3, .null], [.long l1], h)) r86_136 rfl rfl (go (w := (138, [.int l0, .long l1, .null, .long l3, .null], [.long l3, .long l1], h)) r86_137 rfl rfl (go (w := (139, [.int l0, .long l1, .null, .long l3, .null], [.int (lg_cmp l1 l3)], h)) r86_138 rfl rfl (E_i1_lt r86_139 rfl (E_lc r86_146 (v := 0) (by decide) (E_lret r86_147 (mq86))) (E_lc r86_142 (v := 1) (by decide) (E_gt r86_143 rfl (E_lret r86_147 (mq86)))))))
theorem b86_148 (d : Nat) (l0 : Int32) (l1 : Int64) (l3 : Int64) (h : aH) (K : Option Value → aH → Prop) : E scr false d 86 148 [.int l0, .long l1, .null, .long l3, .null] [] h K = (if (lg_cmp l1 l3) ≤ 0 then K (some (.long 0)) h else K (some (.long 1)) h) := go (w := (149, [.int l0, .long l1, .null, .long l3, .null], [.long l1], h)) r86_148 rfl rfl (go (w := (150, [.int l0, .long l1, .null, .long l3, .null], [.long l3, .long l1], h)) r86_149 rfl rfl (go (w := (151, [.int l0, .long l1, .null, .long l3, .null], [.int (lg_cmp l1 l3)], h)) r86_150 rfl rfl (E_i1_le r86_151 rfl (E_lc r86_158 (v := 0) (by decide) (E_lret r86_159 (mq86))) (E_lc r86_154 (v := 1) (by decide) (E_gt r86_155 rfl (E_lret r86_159 (mq86)))))))
theorem b86_160 (d : Nat) (l0 : Int32) (l1 : Int64) (l3 : Int64) (h : aH) (K : Option Value → aH → Prop) : E scr false d 86 160 [.int l0, .long l1, .null, .long l3, .null] [] h K = K (some (.long (l1 &&& l3))) h := go (w := (161, [.int l0, .long l1, .null, .long l3, .null], [.long l1], h)) r86_160 rfl rfl (go (w := (162, [.int l0, .long l1, .null, .long l3, .null], [.long l3, .long l1], h)) r86_161 rfl rfl (go (w := (163, [.int l0, .long l1, .null, .long l3, .null], [.long (l1 &&& l3)], h)) r86_162 rfl rfl (E_lret r86_163 (mq86))))
theorem b86_164 (d : Nat) (l0 : Int32) (l1 : Int64) (l3 : Int64) (h : aH) (K : Option Value → aH → Prop) : E scr false d 86 164 [.int l0, .long l1, .null, .long l3, .null] [] h K = K (some (.long (l1 ||| l3))) h := go (w := (165, [.int l0, .long l1, .null, .long l3, .null], [.long l1], h)) r86_164 rfl rfl (go (w := (166, [.int l0, .long l1, .null, .long l3, .null], [.long l3, .long l1], h)) r86_165 rfl rfl (go (w := (167, [.int l0, .long l1, .null, .long l3, .null], [.long (l1 ||| l3)], h)) r86_166 rfl rfl (E_lret r86_167 (mq86))))
-- 87 SecondNearest$Walker.valueOf(LSecondNearest$Scene;II)J
theorem mq87 : mRet 87 = (some .long) := by decide +kernel
theorem r87_0 : rowAt 87 0 = some (.aload_n 1, 1, 0, 0) := by decide +kernel
theorem r87_1 : rowAt 87 1 = some (.getfield 45, 3, 5, 10) := by decide +kernel
theorem r87_4 : rowAt 87 4 = some (.iload_n 3, 1, 0, 0) := by decide +kernel
theorem r87_5 : rowAt 87 5 = some (.iaload, 1, 0, 0) := by decide +kernel
theorem r87_6 : rowAt 87 6 = some (.istore 4, 2, 0, 0) := by decide +kernel
theorem r87_8 : rowAt 87 8 = some (.iload_n 2, 1, 0, 0) := by decide +kernel
theorem r87_9 : rowAt 87 9 = some (.tableswitch 134 0 7 #[47, 54, 61, 69, 77, 83, 105, 128], 47, 0, 0) := by decide +kernel
theorem r87_56 : rowAt 87 56 = some (.iload 4, 2, 0, 0) := by decide +kernel
theorem r87_58 : rowAt 87 58 = some (.bipush 12, 2, 0, 0) := by decide +kernel
theorem r87_60 : rowAt 87 60 = some (.irem, 1, 0, 0) := by decide +kernel
theorem r87_61 : rowAt 87 61 = some (.i2l, 1, 0, 0) := by decide +kernel
theorem r87_62 : rowAt 87 62 = some (.lreturn, 1, 0, 0) := by decide +kernel
theorem r87_63 : rowAt 87 63 = some (.iload 4, 2, 0, 0) := by decide +kernel
theorem r87_65 : rowAt 87 65 = some (.bipush 12, 2, 0, 0) := by decide +kernel
theorem r87_67 : rowAt 87 67 = some (.idiv, 1, 0, 0) := by decide +kernel
theorem r87_68 : rowAt 87 68 = some (.i2l, 1, 0, 0) := by decide +kernel
theorem r87_69 : rowAt 87 69 = some (.lreturn, 1, 0, 0) := by decide +kernel
theorem r87_70 : rowAt 87 70 = some (.aload_n 1, 1, 0, 0) := by decide +kernel
theorem r87_71 : rowAt 87 71 = some (.getfield 73, 3, 5, 11) := by decide +kernel
theorem r87_74 : rowAt 87 74 = some (.iload_n 3, 1, 0, 0) := by decide +kernel
theorem r87_75 : rowAt 87 75 = some (.iaload, 1, 0, 0) := by decide +kernel
theorem r87_76 : rowAt 87 76 = some (.i2l, 1, 0, 0) := by decide +kernel
theorem r87_77 : rowAt 87 77 = some (.lreturn, 1, 0, 0) := by decide +kernel
theorem r87_78 : rowAt 87 78 = some (.aload_n 1, 1, 0, 0) := by decide +kernel
theorem r87_79 : rowAt 87 79 = some (.getfield 132, 3, 5, 12) := by decide +kernel
theorem r87_82 : rowAt 87 82 = some (.iload_n 3, 1, 0, 0) := by decide +kernel
theorem r87_83 : rowAt 87 83 = some (.iaload, 1, 0, 0) := by decide +kernel
theorem r87_84 : rowAt 87 84 = some (.i2l, 1, 0, 0) := by decide +kernel
theorem r87_85 : rowAt 87 85 = some (.lreturn, 1, 0, 0) := by decide +kernel
theorem r87_86 : rowAt 87 86 = some (.aload_n 0, 1, 0, 0) := by decide +kernel
theorem r87_87 : rowAt 87 87 = some (.getfield 63, 3, 7, 3) := by decide +kernel
theorem r87_90 : rowAt 87 90 = some (.i2l, 1, 0, 0) := by decide +kernel
theorem r87_91 : rowAt 87 91 = some (.lreturn, 1, 0, 0) := by decide +kernel
theorem r87_92 : rowAt 87 92 = some (.aload_n 0, 1, 0, 0) := by decide +kernel
theorem r87_93 : rowAt 87 93 = some (.getfield 63, 3, 7, 3) := by decide +kernel
theorem r87_96 : rowAt 87 96 = some (.ifCond .le 16, 3, 0, 0) := by decide +kernel
theorem r87_99 : rowAt 87 99 = some (.aload_n 0, 1, 0, 0) := by decide +kernel
theorem r87_100 : rowAt 87 100 = some (.getfield 15, 3, 7, 2) := by decide +kernel
theorem r87_103 : rowAt 87 103 = some (.iconst 0, 1, 0, 0) := by decide +kernel
theorem r87_104 : rowAt 87 104 = some (.iaload, 1, 0, 0) := by decide +kernel
theorem r87_105 : rowAt 87 105 = some (.bipush 12, 2, 0, 0) := by decide +kernel
theorem r87_107 : rowAt 87 107 = some (.ishr, 1, 0, 0) := by decide +kernel
theorem r87_108 : rowAt 87 108 = some (.i2l, 1, 0, 0) := by decide +kernel
theorem r87_109 : rowAt 87 109 = some (.goto 4, 3, 0, 0) := by decide +kernel
theorem r87_112 : rowAt 87 112 = some (.lconst 0, 1, 0, 0) := by decide +kernel
theorem r87_113 : rowAt 87 113 = some (.lreturn, 1, 0, 0) := by decide +kernel
theorem r87_114 : rowAt 87 114 = some (.iload 4, 2, 0, 0) := by decide +kernel
theorem r87_116 : rowAt 87 116 = some (.ifCond .lt 17, 3, 0, 0) := by decide +kernel
theorem r87_119 : rowAt 87 119 = some (.aload_n 0, 1, 0, 0) := by decide +kernel
theorem r87_120 : rowAt 87 120 = some (.getfield 22, 3, 7, 0) := by decide +kernel
theorem r87_123 : rowAt 87 123 = some (.getfield 135, 3, 0, 0) := by decide +kernel
theorem r87_126 : rowAt 87 126 = some (.iload 4, 2, 0, 0) := by decide +kernel
theorem r87_128 : rowAt 87 128 = some (.iaload, 1, 0, 0) := by decide +kernel
theorem r87_129 : rowAt 87 129 = some (.i2l, 1, 0, 0) := by decide +kernel
theorem r87_130 : rowAt 87 130 = some (.goto 6, 3, 0, 0) := by decide +kernel
theorem r87_133 : rowAt 87 133 = some (.ldc2_w 138, 3, 99, 0) := by decide +kernel
theorem r87_136 : rowAt 87 136 = some (.lreturn, 1, 0, 0) := by decide +kernel
theorem r87_137 : rowAt 87 137 = some (.aload_n 0, 1, 0, 0) := by decide +kernel
theorem r87_138 : rowAt 87 138 = some (.getfield 66, 3, 7, 4) := by decide +kernel
theorem r87_141 : rowAt 87 141 = some (.i2l, 1, 0, 0) := by decide +kernel
theorem r87_142 : rowAt 87 142 = some (.lreturn, 1, 0, 0) := by decide +kernel
theorem r87_143 : rowAt 87 143 = some (.aload_n 0, 1, 0, 0) := by decide +kernel
theorem r87_144 : rowAt 87 144 = some (.getfield 69, 3, 7, 5) := by decide +kernel
theorem r87_147 : rowAt 87 147 = some (.ifCond .eq 7, 3, 0, 0) := by decide +kernel
theorem r87_150 : rowAt 87 150 = some (.lconst 1, 1, 0, 0) := by decide +kernel
theorem r87_151 : rowAt 87 151 = some (.goto 4, 3, 0, 0) := by decide +kernel
theorem r87_154 : rowAt 87 154 = some (.lconst 0, 1, 0, 0) := by decide +kernel
theorem r87_155 : rowAt 87 155 = some (.lreturn, 1, 0, 0) := by decide +kernel
theorem en87 (a0 : Nat) (a1 : Nat) (a2 : Int32) (a3 : Int32) : iniL 87 [.ref a0, .ref a1, .int a2, .int a3] = [.ref a0, .ref a1, .int a2, .int a3, .null] := ini_n mi87 rfl
theorem b87_0 (d : Nat) (l0 : Nat) (l1 : Nat) (l2 : Int32) (l3 : Int32) (h : aH) (K : Option Value → aH → Prop) : E scr false d 87 0 [.ref l0, .ref l1, .int l2, .int l3, .null] [] h K = gR scr h l1 5 10 (fun x1 : Nat => aI scr h x1 l3 (fun x2 : Int32 => (if l2 = 0 then E scr false d 87 56 [.ref l0, .ref l1, .int l2, .int l3, .int x2] [] h K else (if l2 = 1 then E scr false d 87 63 [.ref l0, .ref l1, .int l2, .int l3, .int x2] [] h K else (if l2 = 2 then E scr false d 87 70 [.ref l0, .ref l1, .int l2, .int l3, .int x2] [] h K else (if l2 = 3 then E scr false d 87 78 [.ref l0, .ref l1, .int l2, .int l3, .int x2] [] h K else (if l2 = 4 then E scr false d 87 86 [.ref l0, .ref l1, .int l2, .int l3, .int x2] [] h K else (if l2 = 5 then E scr false d 87 92 [.ref l0, .ref l1, .int l2, .int l3, .int x2] [] h K else (if l2 = 6 then E scr false d 87 114 [.ref l0, .ref l1, .int l2, .int l3, .int x2] [] h K else (if l2 = 7 then E scr false d 87 137 [.ref l0, .ref l1, .int l2, .int l3, .int x2] [] h K else E scr false d 87 143 [.ref l0, .ref l1, .int l2, .int l3, .int x2] [] h K)))))))))) := go (w := (1, [.ref l0, .ref l1, .int l2, .int l3, .null], [.ref l1], h)) r87_0 rfl rfl (E_gR r87_1 rfl (fun x1 => go (w := (5, [.ref l0, .ref l1, .int l2, .int l3, .null], [.int l3, .ref x1], h)) r87_4 rfl rfl (E_aI r87_5 (fun x2 => go (w := (8, [.ref l0, .ref l1, .int l2, .int l3, .int x2], [], h)) r87_6 rfl rfl (go (w := (9, [.ref l0, .ref l1, .int l2, .int l3, .int x2], [.int l2], h)) r87_8 rfl rfl (E_tab (pc := 9) [(0, 56), (1, 63), (2, 70), (3, 78), (4, 86), (5, 92), (6, 114), (7, 137)] 143 r87_9 (by decide +kernel) (by decide +kernel) (by decide +kernel)))))))
theorem b87_56 (d : Nat) (l0 : Nat) (l1 : Nat) (l2 : Int32) (l3 : Int32) (l4 : Int32) (h : aH) (K : Option Value → aH → Prop) : E scr false d 87 56 [.ref l0, .ref l1, .int l2, .int l3, .int l4] [] h K = K (some (.long (Int32.toInt64 (irm l4 12)))) h := go (w := (58, [.ref l0, .ref l1, .int l2, .int l3, .int l4], [.int l4], h)) r87_56 rfl rfl (E_bip r87_58 (v := 12) (by decide) (E_remc r87_60 (by decide) (go (w := (62, [.ref l0, .ref l1, .int l2, .int l3, .int l4], [.long (Int32.toInt64 (irm l4 12))], h)) r87_61 rfl rfl (E_lret r87_62 (mq87)))))
theorem b87_63 (d : Nat) (l0 : Nat) (l1 : Nat) (l2 : Int32) (l3 : Int32) (l4 : Int32) (h : aH) (K : Option Value → aH → Prop) : E scr false d 87 63 [.ref l0, .ref l1, .int l2, .int l3, .int l4] [] h K = K (some (.long (Int32.toInt64 (l4 / 12)))) h := go (w := (65, [.ref l0, .ref l1, .int l2, .int l3, .int l4], [.int l4], h)) r87_63 rfl rfl (E_bip r87_65 (v := 12) (by decide) (E_divc r87_67 (by decide) (go (w := (69, [.ref l0, .ref l1, .int l2, .int l3, .int l4], [.long (Int32.toInt64 (l4 / 12))], h)) r87_68 rfl rfl (E_lret r87_69 (mq87)))))
theorem b87_70 (d : Nat) (l0 : Nat) (l1 : Nat) (l2 : Int32) (l3 : Int32) (l4 : Int32) (h : aH) (K : Option Value → aH → Prop) : E scr false d 87 70 [.ref l0, .ref l1, .int l2, .int l3, .int l4] [] h K = gR scr h l1 5 11 (fun x1 : Nat => aI scr h x1 l3 (fun x2 : Int32 => K (some (.long (Int32.toInt64 x2))) h)) := go (w := (71, [.ref l0, .ref l1, .int l2, .int l3, .int l4], [.ref l1], h)) r87_70 rfl rfl (E_gR r87_71 rfl (fun x1 => go (w := (75, [.ref l0, .ref l1, .int l2, .int l3, .int l4], [.int l3, .ref x1], h)) r87_74 rfl rfl (E_aI r87_75 (fun x2 => go (w := (77, [.ref l0, .ref l1, .int l2, .int l3, .int l4], [.long (Int32.toInt64 x2)], h)) r87_76 rfl rfl (E_lret r87_77 (mq87))))))
theorem b87_78 (d : Nat) (l0 : Nat) (l1 : Nat) (l2 : Int32) (l3 : Int32) (l4 : Int32) (h : aH) (K : Option Value → aH → Prop) : E scr false d 87 78 [.ref l0, .ref l1, .int l2, .int l3, .int l4] [] h K = gR scr h l1 5 12 (fun x1 : Nat => aI scr h x1 l3 (fun x2 : Int32 => K (some (.long (Int32.toInt64 x2))) h)) := go (w := (79, [.ref l0, .ref l1, .int l2, .int l3, .int l4], [.ref l1], h)) r87_78 rfl rfl (E_gR r87_79 rfl (fun x1 => go (w := (83, [.ref l0, .ref l1, .int l2, .int l3, .int l4], [.int l3, .ref x1], h)) r87_82 rfl rfl (E_aI r87_83 (fun x2 => go (w := (85, [.ref l0, .ref l1, .int l2, .int l3, .int l4], [.long (Int32.toInt64 x2)], h)) r87_84 rfl rfl (E_lret r87_85 (mq87))))))
theorem b87_86 (d : Nat) (l0 : Nat) (l1 : Nat) (l2 : Int32) (l3 : Int32) (l4 : Int32) (h : aH) (K : Option Value → aH → Prop) : E scr false d 87 86 [.ref l0, .ref l1, .int l2, .int l3, .int l4] [] h K = gI scr h l0 7 3 (fun x1 : Int32 => K (some (.long (Int32.toInt64 x1))) h) := go (w := (87, [.ref l0, .ref l1, .int l2, .int l3, .int l4], [.ref l0], h)) r87_86 rfl rfl (E_gI r87_87 rfl (fun x1 => go (w := (91, [.ref l0, .ref l1, .int l2, .int l3, .int l4], [.long (Int32.toInt64 x1)], h)) r87_90 rfl rfl (E_lret r87_91 (mq87))))
theorem b87_92 (d : Nat) (l0 : Nat) (l1 : Nat) (l2 : Int32) (l3 : Int32) (l4 : Int32) (h : aH) (K : Option Value → aH → Prop) : E scr false d 87 92 [.ref l0, .ref l1, .int l2, .int l3, .int l4] [] h K = gI scr h l0 7 3 (fun x1 : Int32 => (if x1 ≤ 0 then K (some (.long 0)) h else gR scr h l0 7 2 (fun x2 : Nat => aI scr h x2 0 (fun x3 : Int32 => K (some (.long (Int32.toInt64 ((x3 : Int32) >>> ((12 : Int32) &&& 31) : Int32)))) h)))) := go (w := (93, [.ref l0, .ref l1, .int l2, .int l3, .int l4], [.ref l0], h)) r87_92 rfl rfl (E_gI r87_93 rfl (fun x1 => E_i1_le r87_96 rfl (E_lc r87_112 (v := 0) (by decide) (E_lret r87_113 (mq87))) (go (w := (100, [.ref l0, .ref l1, .int l2, .int l3, .int l4], [.ref l0], h)) r87_99 rfl rfl (E_gR r87_100 rfl (fun x2 => E_ic r87_103 (v := 0) (by decide) (E_aI r87_104 (fun x3 => E_bip r87_105 (v := 12) (by decide) (go (w := (108, [.ref l0, .ref l1, .int l2, .int l3, .int l4], [.int ((x3 : Int32) >>> ((12 : Int32) &&& 31) : Int32)], h)) r87_107 rfl rfl (go (w := (109, [.ref l0, .ref l1, .int l2, .int l3, .int l4], [.long (Int32.toInt64 ((x3 : Int32) >>> ((12 : Int32) &&& 31) : Int32))], h)) r87_108 rfl rfl (E_gt r87_109 rfl (E_lret r87_113 (mq87))))))))))))
theorem b87_114 (d : Nat) (l0 : Nat) (l1 : Nat) (l2 : Int32) (l3 : Int32) (l4 : Int32) (h : aH) (K : Option Value → aH → Prop) : E scr false d 87 114 [.ref l0, .ref l1, .int l2, .int l3, .int l4] [] h K = (if l4 < 0 then K (some (.long 99)) h else gR scr h l0 7 0 (fun x1 : Nat => gR scr h x1 0 0 (fun x2 : Nat => aI scr h x2 l4 (fun x3 : Int32 => K (some (.long (Int32.toInt64 x3))) h)))) := go (w := (116, [.ref l0, .ref l1, .int l2, .int l3, .int l4], [.int l4], h)) r87_114 rfl rfl (E_i1_lt r87_116 rfl (E_ld2 r87_133 (v := 99) (by decide) (E_lret r87_136 (mq87))) (go (w := (120, [.ref l0, .ref l1, .int l2, .int l3, .int l4], [.ref l0], h)) r87_119 rfl rfl (E_gR r87_120 rfl (fun x1 => E_gR r87_123 rfl (fun x2 => go (w := (128, [.ref l0, .ref l1, .int l2, .int l3, .int l4], [.int l4, .ref x2], h)) r87_126 rfl rfl (E_aI r87_128 (fun x3 => go (w := (130, [.ref l0, .ref l1, .int l2, .int l3, .int l4], [.long (Int32.toInt64 x3)], h)) r87_129 rfl rfl (E_gt r87_130 rfl (E_lret r87_136 (mq87))))))))))
theorem b87_137 (d : Nat) (l0 : Nat) (l1 : Nat) (l2 : Int32) (l3 : Int32) (l4 : Int32) (h : aH) (K : Option Value → aH → Prop) : E scr false d 87 137 [.ref l0, .ref l1, .int l2, .int l3, .int l4] [] h K = gI scr h l0 7 4 (fun x1 : Int32 => K (some (.long (Int32.toInt64 x1))) h) := go (w := (138, [.ref l0, .ref l1, .int l2, .int l3, .int l4], [.ref l0], h)) r87_137 rfl rfl (E_gI r87_138 rfl (fun x1 => go (w := (142, [.ref l0, .ref l1, .int l2, .int l3, .int l4], [.long (Int32.toInt64 x1)], h)) r87_141 rfl rfl (E_lret r87_142 (mq87))))
theorem b87_143 (d : Nat) (l0 : Nat) (l1 : Nat) (l2 : Int32) (l3 : Int32) (l4 : Int32) (h : aH) (K : Option Value → aH → Prop) : E scr false d 87 143 [.ref l0, .ref l1, .int l2, .int l3, .int l4] [] h K = gI scr h l0 7 5 (fun x1 : Int32 => (if x1 = 0 then K (some (.long 0)) h else K (some (.long 1)) h)) := go (w := (144, [.ref l0, .ref l1, .int l2, .int l3, .int l4], [.ref l0], h)) r87_143 rfl rfl (E_gI r87_144 rfl (fun x1 => E_i1_eq r87_147 rfl (E_lc r87_154 (v := 0) (by decide) (E_lret r87_155 (mq87))) (E_lc r87_150 (v := 1) (by decide) (E_gt r87_151 rfl (E_lret r87_155 (mq87))))))
-- 88 SecondNearest$Walker.approach(LSecondNearest$Scene;II)Z
theorem mq88 : mRet 88 = (some .boolean) := by decide +kernel
theorem r88_0 : rowAt 88 0 = some (.iload_n 2, 1, 0, 0) := by decide +kernel
theorem r88_1 : rowAt 88 1 = some (.ifCond .lt 9, 3, 0, 0) := by decide +kernel
theorem r88_4 : rowAt 88 4 = some (.iload_n 2, 1, 0, 0) := by decide +kernel
theorem r88_5 : rowAt 88 5 = some (.bipush 14, 2, 0, 0) := by decide +kernel
theorem r88_7 : rowAt 88 7 = some (.if_icmp .lt 5, 3, 0, 0) := by decide +kernel
theorem r88_10 : rowAt 88 10 = some (.iconst 0, 1, 0, 0) := by decide +kernel
theorem r88_11 : rowAt 88 11 = some (.ireturn, 1, 0, 0) := by decide +kernel
theorem r88_12 : rowAt 88 12 = some (.aload_n 0, 1, 0, 0) := by decide +kernel
theorem r88_13 : rowAt 88 13 = some (.getfield 45, 3, 5, 10) := by decide +kernel
theorem r88_16 : rowAt 88 16 = some (.iload_n 1, 1, 0, 0) := by decide +kernel
theorem r88_17 : rowAt 88 17 = some (.iaload, 1, 0, 0) := by decide +kernel
theorem r88_18 : rowAt 88 18 = some (.istore_n 3, 1, 0, 0) := by decide +kernel
theorem r88_19 : rowAt 88 19 = some (.aload_n 0, 1, 0, 0) := by decide +kernel
theorem r88_20 : rowAt 88 20 = some (.getfield 45, 3, 5, 10) := by decide +kernel
theorem r88_23 : rowAt 88 23 = some (.iload_n 2, 1, 0, 0) := by decide +kernel
theorem r88_24 : rowAt 88 24 = some (.iaload, 1, 0, 0) := by decide +kernel
theorem r88_25 : rowAt 88 25 = some (.istore 4, 2, 0, 0) := by decide +kernel
theorem r88_27 : rowAt 88 27 = some (.iconst (-1), 1, 0, 0) := by decide +kernel
theorem r88_28 : rowAt 88 28 = some (.istore 5, 2, 0, 0) := by decide +kernel
theorem r88_30 : rowAt 88 30 = some (.iload_n 3, 1, 0, 0) := by decide +kernel
theorem r88_31 : rowAt 88 31 = some (.iload 4, 2, 0, 0) := by decide +kernel
theorem r88_33 : rowAt 88 33 = some (.invokestatic 86, 3, 90, 1) := by decide +kernel
theorem r88_36 : rowAt 88 36 = some (.istore 6, 2, 0, 0) := by decide +kernel
theorem r88_38 : rowAt 88 38 = some (.iconst 0, 1, 0, 0) := by decide +kernel
theorem r88_39 : rowAt 88 39 = some (.istore 7, 2, 0, 0) := by decide +kernel
theorem r88_41 : rowAt 88 41 = some (.iload 7, 2, 0, 0) := by decide +kernel
theorem r88_43 : rowAt 88 43 = some (.bipush 8, 2, 0, 0) := by decide +kernel
theorem r88_45 : rowAt 88 45 = some (.if_icmp .ge 68, 3, 0, 0) := by decide +kernel
theorem r88_48 : rowAt 88 48 = some (.aload_n 0, 1, 0, 0) := by decide +kernel
theorem r88_49 : rowAt 88 49 = some (.iload_n 3, 1, 0, 0) := by decide +kernel
theorem r88_50 : rowAt 88 50 = some (.iload 7, 2, 0, 0) := by decide +kernel
theorem r88_52 : rowAt 88 52 = some (.invokevirtual 140, 3, 58, 0) := by decide +kernel
theorem r88_55 : rowAt 88 55 = some (.istore 8, 2, 0, 0) := by decide +kernel
theorem r88_57 : rowAt 88 57 = some (.iload 8, 2, 0, 0) := by decide +kernel
theorem r88_59 : rowAt 88 59 = some (.ifCond .lt 48, 3, 0, 0) := by decide +kernel
theorem r88_62 : rowAt 88 62 = some (.iload 8, 2, 0, 0) := by decide +kernel
theorem r88_64 : rowAt 88 64 = some (.iload 4, 2, 0, 0) := by decide +kernel
theorem r88_66 : rowAt 88 66 = some (.invokestatic 86, 3, 90, 1) := by decide +kernel
theorem r88_69 : rowAt 88 69 = some (.iload 6, 2, 0, 0) := by decide +kernel
theorem r88_71 : rowAt 88 71 = some (.if_icmp .lt 6, 3, 0, 0) := by decide +kernel
theorem r88_74 : rowAt 88 74 = some (.goto 33, 3, 0, 0) := by decide +kernel
theorem r88_77 : rowAt 88 77 = some (.aload_n 0, 1, 0, 0) := by decide +kernel
theorem r88_78 : rowAt 88 78 = some (.iload 8, 2, 0, 0) := by decide +kernel
theorem r88_80 : rowAt 88 80 = some (.bipush 12, 2, 0, 0) := by decide +kernel
theorem r88_82 : rowAt 88 82 = some (.irem, 1, 0, 0) := by decide +kernel
theorem r88_83 : rowAt 88 83 = some (.iload 8, 2, 0, 0) := by decide +kernel
theorem r88_85 : rowAt 88 85 = some (.bipush 12, 2, 0, 0) := by decide +kernel
theorem r88_87 : rowAt 88 87 = some (.idiv, 1, 0, 0) := by decide +kernel
theorem r88_88 : rowAt 88 88 = some (.invokevirtual 142, 3, 57, 0) := by decide +kernel
theorem r88_91 : rowAt 88 91 = some (.ifCond .eq 16, 3, 0, 0) := by decide +kernel
theorem r88_94 : rowAt 88 94 = some (.iload 8, 2, 0, 0) := by decide +kernel
theorem r88_96 : rowAt 88 96 = some (.istore 5, 2, 0, 0) := by decide +kernel
theorem r88_98 : rowAt 88 98 = some (.iload 8, 2, 0, 0) := by decide +kernel
theorem r88_100 : rowAt 88 100 = some (.iload 4, 2, 0, 0) := by decide +kernel
theorem r88_102 : rowAt 88 102 = some (.invokestatic 86, 3, 90, 1) := by decide +kernel
theorem r88_105 : rowAt 88 105 = some (.istore 6, 2, 0, 0) := by decide +kernel
theorem r88_107 : rowAt 88 107 = some (.iinc 7 1, 3, 0, 0) := by decide +kernel
theorem r88_110 : rowAt 88 110 = some (.goto (-69), 3, 0, 0) := by decide +kernel
theorem r88_113 : rowAt 88 113 = some (.aload_n 0, 1, 0, 0) := by decide +kernel
theorem r88_114 : rowAt 88 114 = some (.iload_n 1, 1, 0, 0) := by decide +kernel
theorem r88_115 : rowAt 88 115 = some (.iload 5, 2, 0, 0) := by decide +kernel
theorem r88_117 : rowAt 88 117 = some (.invokevirtual 146, 3, 60, 0) := by decide +kernel
theorem r88_120 : rowAt 88 120 = some (.iload 5, 2, 0, 0) := by decide +kernel
theorem r88_122 : rowAt 88 122 = some (.ifCond .lt 7, 3, 0, 0) := by decide +kernel
theorem r88_125 : rowAt 88 125 = some (.iconst 1, 1, 0, 0) := by decide +kernel
theorem r88_126 : rowAt 88 126 = some (.goto 4, 3, 0, 0) := by decide +kernel
theorem r88_129 : rowAt 88 129 = some (.iconst 0, 1, 0, 0) := by decide +kernel
theorem r88_130 : rowAt 88 130 = some (.ireturn, 1, 0, 0) := by decide +kernel
theorem en88 (a0 : Nat) (a1 : Int32) (a2 : Int32) : iniL 88 [.ref a0, .int a1, .int a2] = [.ref a0, .int a1, .int a2, .null, .null, .null, .null, .null, .null] := ini_n mi88 rfl
theorem b88_0 (d : Nat) (l0 : Nat) (l1 : Int32) (l2 : Int32) (h : aH) (K : Option Value → aH → Prop) : E scr false (d + 1) 88 0 [.ref l0, .int l1, .int l2, .null, .null, .null, .null, .null, .null] [] h K = (if l2 < 0 then K (some (.int 0)) h else (if l2 < 14 then gR scr h l0 5 10 (fun x1 : Nat => aI scr h x1 l1 (fun x2 : Int32 => gR scr h l0 5 10 (fun x3 : Nat => aI scr h x3 l2 (fun x4 : Int32 => sI scr d 90 [.int x2, .int x4] h (fun (x6 : Int32) (h5 : aH) => E scr false (d + 1) 88 41 [.ref l0, .int l1, .int l2, .int x2, .int x4, .int (-1), .int x6, .int 0, .null] [] h5 K))))) else K (some (.int 0)) h)) := go (w := (1, [.ref l0, .int l1, .int l2, .null, .null, .null, .null, .null, .null], [.int l2], h)) r88_0 rfl rfl (E_i1_lt r88_1 rfl (E_ic r88_10 (v := 0) (by decide) (E_rz r88_11 (mq88) (by decide))) (go (w := (5, [.ref l0, .int l1, .int l2, .null, .null, .null, .null, .null, .null], [.int l2], h)) r88_4 rfl rfl (E_bip r88_5 (v := 14) (by decide) (E_i2_lt r88_7 rfl (go (w := (13, [.ref l0, .int l1, .int l2, .null, .null, .null, .null, .null, .null], [.ref l0], h)) r88_12 rfl rfl (E_gR r88_13 rfl (fun x1 => go (w := (17, [.ref l0, .int l1, .int l2, .null, .null, .null, .null, .null, .null], [.int l1, .ref x1], h)) r88_16 rfl rfl (E_aI r88_17 (fun x2 => go (w := (19, [.ref l0, .int l1, .int l2, .int x2, .null, .null, .null, .null, .null], [], h)) r88_18 rfl rfl (go (w := (20, [.ref l0, .int l1, .int l2, .int x2, .null, .null, .null, .null, .null], [.ref l0], h)) r88_19 rfl rfl (E_gR r88_20 rfl (fun x3 => go (w := (24, [.ref l0, .int l1, .int l2, .int x2, .null, .null, .null, .null, .null], [.int l2, .ref x3], h)) r88_23 rfl rfl (E_aI r88_24 (fun x4 => go (w := (27, [.ref l0, .int l1, .int l2, .int x2, .int x4, .null, .null, .null, .null], [], h)) r88_25 rfl rfl (E_ic r88_27 (v := (-1)) (by decide) (go (w := (30, [.ref l0, .int l1, .int l2, .int x2, .int x4, .int (-1), .null, .null, .null], [], h)) r88_28 rfl rfl (go (w := (31, [.ref l0, .int l1, .int l2, .int x2, .int x4, .int (-1), .null, .null, .null], [.int x2], h)) r88_30 rfl rfl (go (w := (33, [.ref l0, .int l1, .int l2, .int x2, .int x4, .int (-1), .null, .null, .null], [.int x4, .int x2], h)) r88_31 rfl rfl (E_sI r88_33 (As := [.int x2, .int x4]) (rest := []) (cut_n mi90.1 rfl rfl) (rm8_n mi90.2.1 (Nat.le_of_ble_eq_true rfl) (Nat.le_of_ble_eq_true rfl)) mi90.2.2 (fun x6 h5 => go (w := (38, [.ref l0, .int l1, .int l2, .int x2, .int x4, .int (-1), .int x6, .null, .null], [], h5)) r88_36 rfl rfl (E_ic r88_38 (v := 0) (by decide) (go (w := (41, [.ref l0, .int l1, .int l2, .int x2, .int x4, .int (-1), .int x6, .int 0, .null], [], h5)) r88_39 rfl rfl (rfl))))))))))))))))))) (E_ic r88_10 (v := 0) (by decide) (E_rz r88_11 (mq88) (by decide)))))))
theorem b88_41 (d : Nat) (l0 : Nat) (l1 : Int32) (l2 : Int32) (l3 : Int32) (l4 : Int32) (l5 : Int32) (l6 : Int32) (l7 : Int32) (l8 : Value) (h : aH) (K : Option Value → aH → Prop) : E scr false (d + 1) 88 41 [.ref l0, .int l1, .int l2, .int l3, .int l4, .int l5, .int l6, .int l7, l8] [] h K = (if 8 ≤ l7 then vV scr d 60 [.ref l0, .int l1, .int l5] h (fun h1 : aH => (if l5 < 0 then K (some (.int 0)) h1 else K (some (.int 1)) h1)) else vI scr d 58 [.ref l0, .int l3, .int l7] h (fun (x4 : Int32) (h3 : aH) => (if x4 < 0 then E scr false (d + 1) 88 107 [.ref l0, .int l1, .int l2, .int l3, .int l4, .int l5, .int l6, .int l7, .int x4] [] h3 K else sI scr d 90 [.int x4, .int l4] h3 (fun (x6 : Int32) (h5 : aH) => (if x6 < l6 then vI scr d 57 [.ref l0, .int (irm x4 12), .int (x4 / 12)] h5 (fun (x8 : Int32) (h7 : aH) => (if x8 = 0 then E scr false (d + 1) 88 107 [.ref l0, .int l1, .int l2, .int l3, .int l4, .int l5, .int l6, .int l7, .int x4] [] h7 K else sI scr d 90 [.int x4, .int l4] h7 (fun (x10 : Int32) (h9 : aH) => E scr false (d + 1) 88 107 [.ref l0, .int l1, .int l2, .int l3, .int l4, .int x4, .int x10, .int l7, .int x4] [] h9 K))) else E scr false (d + 1) 88 107 [.ref l0, .int l1, .int l2, .int l3, .int l4, .int l5, .int l6, .int l7, .int x4] [] h5 K))))) := go (w := (43, [.ref l0, .int l1, .int l2, .int l3, .int l4, .int l5, .int l6, .int l7, l8], [.int l7], h)) r88_41 rfl rfl (E_bip r88_43 (v := 8) (by decide) (E_i2_ge r88_45 rfl (go (w := (114, [.ref l0, .int l1, .int l2, .int l3, .int l4, .int l5, .int l6, .int l7, l8], [.ref l0], h)) r88_113 rfl rfl (go (w := (115, [.ref l0, .int l1, .int l2, .int l3, .int l4, .int l5, .int l6, .int l7, l8], [.int l1, .ref l0], h)) r88_114 rfl rfl (go (w := (117, [.ref l0, .int l1, .int l2, .int l3, .int l4, .int l5, .int l6, .int l7, l8], [.int l5, .int l1, .ref l0], h)) r88_115 rfl rfl (E_vV r88_117 (As := [.ref l0, .int l1, .int l5]) (rest := []) (cut_n mi60.1 rfl rfl) (rm8_n mi60.2.1 (Nat.le_of_ble_eq_true rfl) (Nat.le_of_ble_eq_true rfl)) mi60.2.2 (fun h1 => go (w := (122, [.ref l0, .int l1, .int l2, .int l3, .int l4, .int l5, .int l6, .int l7, l8], [.int l5], h1)) r88_120 rfl rfl (E_i1_lt r88_122 rfl (E_ic r88_129 (v := 0) (by decide) (E_rz r88_130 (mq88) (by decide))) (E_ic r88_125 (v := 1) (by decide) (E_gt r88_126 rfl (E_rz r88_130 (mq88) (by decide)))))))))) (go (w := (49, [.ref l0, .int l1, .int l2, .int l3, .int l4, .int l5, .int l6, .int l7, l8], [.ref l0], h)) r88_48 rfl rfl (go (w := (50, [.ref l0, .int l1, .int l2, .int l3, .int l4, .int l5, .int l6, .int l7, l8], [.int l3, .ref l0], h)) r88_49 rfl rfl (go (w := (52, [.ref l0, .int l1, .int l2, .int l3, .int l4, .int l5, .int l6, .int l7, l8], [.int l7, .int l3, .ref l0], h)) r88_50 rfl rfl (E_vI r88_52 (As := [.ref l0, .int l3, .int l7]) (rest := []) (cut_n mi58.1 rfl rfl) (rm8_n mi58.2.1 (Nat.le_of_ble_eq_true rfl) (Nat.le_of_ble_eq_true rfl)) mi58.2.2 (fun x4 h3 => go (w := (57, [.ref l0, .int l1, .int l2, .int l3, .int l4, .int l5, .int l6, .int l7, .int x4], [], h3)) r88_55 rfl rfl (go (w := (59, [.ref l0, .int l1, .int l2, .int l3, .int l4, .int l5, .int l6, .int l7, .int x4], [.int x4], h3)) r88_57 rfl rfl (E_i1_lt r88_59 rfl (rfl) (go (w := (64, [.ref l0, .int l1, .int l2, .int l3, .int l4, .int l5, .int l6, .int l7, .int x4], [.int x4], h3)) r88_62 rfl rfl (go (w := (66, [.ref l0, .int l1, .int l2, .int l3, .int l4, .int l5, .int l6, .int l7, .int x4], [.int l4, .int x4], h3)) r88_64 rfl rfl (E_sI r88_66 (As := [.int x4, .int l4]) (rest := []) (cut_n mi90.1 rfl rfl) (rm8_n mi90.2.1 (Nat.le_of_ble_eq_true rfl) (Nat.le_of_ble_eq_true rfl)) mi90.2.2 (fun x6 h5 => go (w := (71, [.ref l0, .int l1, .int l2, .int l3, .int l4, .int l5, .int l6, .int l7, .int x4], [.int l6, .int x6], h5)) r88_69 rfl rfl (E_i2_lt r88_71 rfl (go (w := (78, [.ref l0, .int l1, .int l2, .int l3, .int l4, .int l5, .int l6, .int l7, .int x4], [.ref l0], h5)) r88_77 rfl rfl (go (w := (80, [.ref l0, .int l1, .int l2, .int l3, .int l4, .int l5, .int l6, .int l7, .int x4], [.int x4, .ref l0], h5)) r88_78 rfl rfl (E_bip r88_80 (v := 12) (by decide) (E_remc r88_82 (by decide) (go (w := (85, [.ref l0, .int l1, .int l2, .int l3, .int l4, .int l5, .int l6, .int l7, .int x4], [.int x4, .int (irm x4 12), .ref l0], h5)) r88_83 rfl rfl (E_bip r88_85 (v := 12) (by decide) (E_divc r88_87 (by decide) (E_vI r88_88 (As := [.ref l0, .int (irm x4 12), .int (x4 / 12)]) (rest := []) (cut_n mi57.1 rfl rfl) (rm8_n mi57.2.1 (Nat.le_of_ble_eq_true rfl) (Nat.le_of_ble_eq_true rfl)) mi57.2.2 (fun x8 h7 => E_i1_eq r88_91 rfl (rfl) (go (w := (96, [.ref l0, .int l1, .int l2, .int l3, .int l4, .int l5, .int l6, .int l7, .int x4], [.int x4], h7)) r88_94 rfl rfl (go (w := (98, [.ref l0, .int l1, .int l2, .int l3, .int l4, .int x4, .int l6, .int l7, .int x4], [], h7)) r88_96 rfl rfl (go (w := (100, [.ref l0, .int l1, .int l2, .int l3, .int l4, .int x4, .int l6, .int l7, .int x4], [.int x4], h7)) r88_98 rfl rfl (go (w := (102, [.ref l0, .int l1, .int l2, .int l3, .int l4, .int x4, .int l6, .int l7, .int x4], [.int l4, .int x4], h7)) r88_100 rfl rfl (E_sI r88_102 (As := [.int x4, .int l4]) (rest := []) (cut_n mi90.1 rfl rfl) (rm8_n mi90.2.1 (Nat.le_of_ble_eq_true rfl) (Nat.le_of_ble_eq_true rfl)) mi90.2.2 (fun x10 h9 => go (w := (107, [.ref l0, .int l1, .int l2, .int l3, .int l4, .int x4, .int x10, .int l7, .int x4], [], h9)) r88_105 rfl rfl (rfl)))))))))))))))) (E_gt r88_74 rfl (rfl))))))))))))))))
theorem b88_107 (d : Nat) (l0 : Nat) (l1 : Int32) (l2 : Int32) (l3 : Int32) (l4 : Int32) (l5 : Int32) (l6 : Int32) (l7 : Int32) (l8 : Int32) (h : aH) (K : Option Value → aH → Prop) : E scr false d 88 107 [.ref l0, .int l1, .int l2, .int l3, .int l4, .int l5, .int l6, .int l7, .int l8] [] h K = E scr false d 88 41 [.ref l0, .int l1, .int l2, .int l3, .int l4, .int l5, .int l6, .int (l7 + 1), .int l8] [] h K := E_inc r88_107 (c := 1) rfl (by decide) (L' := [.ref l0, .int l1, .int l2, .int l3, .int l4, .int l5, .int l6, .int (l7 + 1), .int l8]) rfl (E_gt r88_110 rfl (rfl))
