variable {scr : List Int32}
-- 89 SecondNearest$Walker.leaveByGate(LSecondNearest$Scene;I)V
theorem mq89 : mRet 89 = none := by decide +kernel
theorem r89_0 : rowAt 89 0 = some (.aload_n 0, 1, 0, 0) := by decide +kernel
theorem r89_1 : rowAt 89 1 = some (.getfield 45, 3, 5, 10) := by decide +kernel
theorem r89_4 : rowAt 89 4 = some (.iload_n 1, 1, 0, 0) := by decide +kernel
theorem r89_5 : rowAt 89 5 = some (.iaload, 1, 0, 0) := by decide +kernel
theorem r89_6 : rowAt 89 6 = some (.istore_n 2, 1, 0, 0) := by decide +kernel
theorem r89_7 : rowAt 89 7 = some (.iload_n 2, 1, 0, 0) := by decide +kernel
theorem r89_8 : rowAt 89 8 = some (.ifCond .lt 45, 3, 0, 0) := by decide +kernel
theorem r89_11 : rowAt 89 11 = some (.iload_n 2, 1, 0, 0) := by decide +kernel
theorem r89_12 : rowAt 89 12 = some (.sipush 144, 3, 0, 0) := by decide +kernel
theorem r89_15 : rowAt 89 15 = some (.if_icmp .ge 38, 3, 0, 0) := by decide +kernel
theorem r89_18 : rowAt 89 18 = some (.aload_n 0, 1, 0, 0) := by decide +kernel
theorem r89_19 : rowAt 89 19 = some (.getfield 76, 3, 5, 8) := by decide +kernel
theorem r89_22 : rowAt 89 22 = some (.iload_n 2, 1, 0, 0) := by decide +kernel
theorem r89_23 : rowAt 89 23 = some (.baload, 1, 0, 0) := by decide +kernel
theorem r89_24 : rowAt 89 24 = some (.iconst 3, 1, 0, 0) := by decide +kernel
theorem r89_25 : rowAt 89 25 = some (.if_icmp .ne 28, 3, 0, 0) := by decide +kernel
theorem r89_28 : rowAt 89 28 = some (.aload_n 0, 1, 0, 0) := by decide +kernel
theorem r89_29 : rowAt 89 29 = some (.iload_n 1, 1, 0, 0) := by decide +kernel
theorem r89_30 : rowAt 89 30 = some (.invokevirtual 150, 3, 59, 0) := by decide +kernel
theorem r89_33 : rowAt 89 33 = some (.aload_n 0, 1, 0, 0) := by decide +kernel
theorem r89_34 : rowAt 89 34 = some (.getfield 153, 3, 5, 13) := by decide +kernel
theorem r89_37 : rowAt 89 37 = some (.iload_n 1, 1, 0, 0) := by decide +kernel
theorem r89_38 : rowAt 89 38 = some (.aload_n 0, 1, 0, 0) := by decide +kernel
theorem r89_39 : rowAt 89 39 = some (.getfield 34, 3, 5, 5) := by decide +kernel
theorem r89_42 : rowAt 89 42 = some (.iastore, 1, 0, 0) := by decide +kernel
theorem r89_43 : rowAt 89 43 = some (.aload_n 0, 1, 0, 0) := by decide +kernel
theorem r89_44 : rowAt 89 44 = some (.dup, 1, 0, 0) := by decide +kernel
theorem r89_45 : rowAt 89 45 = some (.getfield 39, 3, 5, 6) := by decide +kernel
theorem r89_48 : rowAt 89 48 = some (.iconst 1, 1, 0, 0) := by decide +kernel
theorem r89_49 : rowAt 89 49 = some (.iadd, 1, 0, 0) := by decide +kernel
theorem r89_50 : rowAt 89 50 = some (.putfield 39, 3, 5, 6) := by decide +kernel
theorem r89_53 : rowAt 89 53 = some (.return_, 1, 0, 0) := by decide +kernel
theorem en89 (a0 : Nat) (a1 : Int32) : iniL 89 [.ref a0, .int a1] = [.ref a0, .int a1, .null] := ini_n mi89 rfl
theorem b89_0 (d : Nat) (l0 : Nat) (l1 : Int32) (h : aH) (K : Option Value → aH → Prop) : E scr false (d + 1) 89 0 [.ref l0, .int l1, .null] [] h K = gR scr h l0 5 10 (fun x1 : Nat => aI scr h x1 l1 (fun x2 : Int32 => (if x2 < 0 then K none h else (if 144 ≤ x2 then K none h else gR scr h l0 5 8 (fun x3 : Nat => aB scr h x3 x2 (fun x4 : Int32 => (if x4 = 3 then vV scr d 59 [.ref l0, .int l1] h (fun h5 : aH => gR scr h5 l0 5 13 (fun x7 : Nat => gI scr h5 l0 5 5 (fun x8 : Int32 => wI h5 x7 l1 x8 (fun h9 : aH => gI scr h9 l0 5 6 (fun x10 : Int32 => pF h9 l0 5 6 (.int (x10 + 1)) (fun h11 : aH => K none h11)))))) else K none h))))))) := go (w := (1, [.ref l0, .int l1, .null], [.ref l0], h)) r89_0 rfl rfl (E_gR r89_1 rfl (fun x1 => go (w := (5, [.ref l0, .int l1, .null], [.int l1, .ref x1], h)) r89_4 rfl rfl (E_aI r89_5 (fun x2 => go (w := (7, [.ref l0, .int l1, .int x2], [], h)) r89_6 rfl rfl (go (w := (8, [.ref l0, .int l1, .int x2], [.int x2], h)) r89_7 rfl rfl (E_i1_lt r89_8 rfl (E_vret r89_53 (mq89)) (go (w := (12, [.ref l0, .int l1, .int x2], [.int x2], h)) r89_11 rfl rfl (E_sip r89_12 (v := 144) (by decide) (E_i2_ge r89_15 rfl (E_vret r89_53 (mq89)) (go (w := (19, [.ref l0, .int l1, .int x2], [.ref l0], h)) r89_18 rfl rfl (E_gR r89_19 rfl (fun x3 => go (w := (23, [.ref l0, .int l1, .int x2], [.int x2, .ref x3], h)) r89_22 rfl rfl (E_aB r89_23 (fun x4 => E_ic r89_24 (v := 3) (by decide) (E_i2_ne r89_25 rfl (E_vret r89_53 (mq89)) (go (w := (29, [.ref l0, .int l1, .int x2], [.ref l0], h)) r89_28 rfl rfl (go (w := (30, [.ref l0, .int l1, .int x2], [.int l1, .ref l0], h)) r89_29 rfl rfl (E_vV r89_30 (As := [.ref l0, .int l1]) (rest := []) (cut_n mi59.1 rfl rfl) (rm8_n mi59.2.1 (Nat.le_of_ble_eq_true rfl) (Nat.le_of_ble_eq_true rfl)) mi59.2.2 (fun h5 => go (w := (34, [.ref l0, .int l1, .int x2], [.ref l0], h5)) r89_33 rfl rfl (E_gR r89_34 rfl (fun x7 => go (w := (38, [.ref l0, .int l1, .int x2], [.int l1, .ref x7], h5)) r89_37 rfl rfl (go (w := (39, [.ref l0, .int l1, .int x2], [.ref l0, .int l1, .ref x7], h5)) r89_38 rfl rfl (E_gI r89_39 rfl (fun x8 => E_wI r89_42 (fun h9 => go (w := (44, [.ref l0, .int l1, .int x2], [.ref l0], h9)) r89_43 rfl rfl (go (w := (45, [.ref l0, .int l1, .int x2], [.ref l0, .ref l0], h9)) r89_44 rfl rfl (E_gI r89_45 rfl (fun x10 => E_ic r89_48 (v := 1) (by decide) (go (w := (50, [.ref l0, .int l1, .int x2], [.int (x10 + 1), .ref l0], h9)) r89_49 rfl rfl (E_pI r89_50 ⟨rfl, rfl⟩ (fun h11 => E_vret r89_53 (mq89))))))))))))))))))))))))))))))))
-- 90 SecondNearest$Walker.distance(II)I
theorem mq90 : mRet 90 = (some .int) := by decide +kernel
theorem r90_0 : rowAt 90 0 = some (.iload_n 0, 1, 0, 0) := by decide +kernel
theorem r90_1 : rowAt 90 1 = some (.bipush 12, 2, 0, 0) := by decide +kernel
theorem r90_3 : rowAt 90 3 = some (.irem, 1, 0, 0) := by decide +kernel
theorem r90_4 : rowAt 90 4 = some (.iload_n 1, 1, 0, 0) := by decide +kernel
theorem r90_5 : rowAt 90 5 = some (.bipush 12, 2, 0, 0) := by decide +kernel
theorem r90_7 : rowAt 90 7 = some (.irem, 1, 0, 0) := by decide +kernel
theorem r90_8 : rowAt 90 8 = some (.isub, 1, 0, 0) := by decide +kernel
theorem r90_9 : rowAt 90 9 = some (.istore_n 2, 1, 0, 0) := by decide +kernel
theorem r90_10 : rowAt 90 10 = some (.iload_n 0, 1, 0, 0) := by decide +kernel
theorem r90_11 : rowAt 90 11 = some (.bipush 12, 2, 0, 0) := by decide +kernel
theorem r90_13 : rowAt 90 13 = some (.idiv, 1, 0, 0) := by decide +kernel
theorem r90_14 : rowAt 90 14 = some (.iload_n 1, 1, 0, 0) := by decide +kernel
theorem r90_15 : rowAt 90 15 = some (.bipush 12, 2, 0, 0) := by decide +kernel
theorem r90_17 : rowAt 90 17 = some (.idiv, 1, 0, 0) := by decide +kernel
theorem r90_18 : rowAt 90 18 = some (.isub, 1, 0, 0) := by decide +kernel
theorem r90_19 : rowAt 90 19 = some (.istore_n 3, 1, 0, 0) := by decide +kernel
theorem r90_20 : rowAt 90 20 = some (.iload_n 2, 1, 0, 0) := by decide +kernel
theorem r90_21 : rowAt 90 21 = some (.iload_n 2, 1, 0, 0) := by decide +kernel
theorem r90_22 : rowAt 90 22 = some (.imul, 1, 0, 0) := by decide +kernel
theorem r90_23 : rowAt 90 23 = some (.iload_n 3, 1, 0, 0) := by decide +kernel
theorem r90_24 : rowAt 90 24 = some (.iload_n 3, 1, 0, 0) := by decide +kernel
theorem r90_25 : rowAt 90 25 = some (.imul, 1, 0, 0) := by decide +kernel
theorem r90_26 : rowAt 90 26 = some (.iadd, 1, 0, 0) := by decide +kernel
theorem r90_27 : rowAt 90 27 = some (.ireturn, 1, 0, 0) := by decide +kernel
theorem en90 (a0 : Int32) (a1 : Int32) : iniL 90 [.int a0, .int a1] = [.int a0, .int a1, .null, .null] := ini_n mi90 rfl
theorem b90_0 (d : Nat) (l0 : Int32) (l1 : Int32) (h : aH) (K : Option Value → aH → Prop) : E scr false d 90 0 [.int l0, .int l1, .null, .null] [] h K = K (some (.int ((((irm l0 12) - (irm l1 12)) * ((irm l0 12) - (irm l1 12))) + (((l0 / 12) - (l1 / 12)) * ((l0 / 12) - (l1 / 12)))))) h := go (w := (1, [.int l0, .int l1, .null, .null], [.int l0], h)) r90_0 rfl rfl (E_bip r90_1 (v := 12) (by decide) (E_remc r90_3 (by decide) (go (w := (5, [.int l0, .int l1, .null, .null], [.int l1, .int (irm l0 12)], h)) r90_4 rfl rfl (E_bip r90_5 (v := 12) (by decide) (E_remc r90_7 (by decide) (go (w := (9, [.int l0, .int l1, .null, .null], [.int ((irm l0 12) - (irm l1 12))], h)) r90_8 rfl rfl (go (w := (10, [.int l0, .int l1, .int ((irm l0 12) - (irm l1 12)), .null], [], h)) r90_9 rfl rfl (go (w := (11, [.int l0, .int l1, .int ((irm l0 12) - (irm l1 12)), .null], [.int l0], h)) r90_10 rfl rfl (E_bip r90_11 (v := 12) (by decide) (E_divc r90_13 (by decide) (go (w := (15, [.int l0, .int l1, .int ((irm l0 12) - (irm l1 12)), .null], [.int l1, .int (l0 / 12)], h)) r90_14 rfl rfl (E_bip r90_15 (v := 12) (by decide) (E_divc r90_17 (by decide) (go (w := (19, [.int l0, .int l1, .int ((irm l0 12) - (irm l1 12)), .null], [.int ((l0 / 12) - (l1 / 12))], h)) r90_18 rfl rfl (go (w := (20, [.int l0, .int l1, .int ((irm l0 12) - (irm l1 12)), .int ((l0 / 12) - (l1 / 12))], [], h)) r90_19 rfl rfl (go (w := (21, [.int l0, .int l1, .int ((irm l0 12) - (irm l1 12)), .int ((l0 / 12) - (l1 / 12))], [.int ((irm l0 12) - (irm l1 12))], h)) r90_20 rfl rfl (go (w := (22, [.int l0, .int l1, .int ((irm l0 12) - (irm l1 12)), .int ((l0 / 12) - (l1 / 12))], [.int ((irm l0 12) - (irm l1 12)), .int ((irm l0 12) - (irm l1 12))], h)) r90_21 rfl rfl (go (w := (23, [.int l0, .int l1, .int ((irm l0 12) - (irm l1 12)), .int ((l0 / 12) - (l1 / 12))], [.int (((irm l0 12) - (irm l1 12)) * ((irm l0 12) - (irm l1 12)))], h)) r90_22 rfl rfl (go (w := (24, [.int l0, .int l1, .int ((irm l0 12) - (irm l1 12)), .int ((l0 / 12) - (l1 / 12))], [.int ((l0 / 12) - (l1 / 12)), .int (((irm l0 12) - (irm l1 12)) * ((irm l0 12) - (irm l1 12)))], h)) r90_23 rfl rfl (go (w := (25, [.int l0, .int l1, .int ((irm l0 12) - (irm l1 12)), .int ((l0 / 12) - (l1 / 12))], [.int ((l0 / 12) - (l1 / 12)), .int ((l0 / 12) - (l1 / 12)), .int (((irm l0 12) - (irm l1 12)) * ((irm l0 12) - (irm l1 12)))], h)) r90_24 rfl rfl (go (w := (26, [.int l0, .int l1, .int ((irm l0 12) - (irm l1 12)), .int ((l0 / 12) - (l1 / 12))], [.int (((l0 / 12) - (l1 / 12)) * ((l0 / 12) - (l1 / 12))), .int (((irm l0 12) - (irm l1 12)) * ((irm l0 12) - (irm l1 12)))], h)) r90_25 rfl rfl (go (w := (27, [.int l0, .int l1, .int ((irm l0 12) - (irm l1 12)), .int ((l0 / 12) - (l1 / 12))], [.int ((((irm l0 12) - (irm l1 12)) * ((irm l0 12) - (irm l1 12))) + (((l0 / 12) - (l1 / 12)) * ((l0 / 12) - (l1 / 12))))], h)) r90_26 rfl rfl (E_ri r90_27 (mq90))))))))))))))))))))))))
-- 92 SecondNearest.feed(IIIII)I
theorem mq92 : mRet 92 = (some .int) := by decide +kernel
theorem r92_0 : rowAt 92 0 = some (.aload_n 0, 1, 0, 0) := by decide +kernel
theorem r92_1 : rowAt 92 1 = some (.getfield 10, 3, 8, 0) := by decide +kernel
theorem r92_4 : rowAt 92 4 = some (.bipush 20, 2, 0, 0) := by decide +kernel
theorem r92_6 : rowAt 92 6 = some (.invokevirtual 88, 3, 65, 0) := by decide +kernel
theorem r92_9 : rowAt 92 9 = some (.ifCond .ne 5, 3, 0, 0) := by decide +kernel
theorem r92_12 : rowAt 92 12 = some (.iconst (-1), 1, 0, 0) := by decide +kernel
theorem r92_13 : rowAt 92 13 = some (.ireturn, 1, 0, 0) := by decide +kernel
theorem r92_14 : rowAt 92 14 = some (.aload_n 0, 1, 0, 0) := by decide +kernel
theorem r92_15 : rowAt 92 15 = some (.getfield 10, 3, 8, 0) := by decide +kernel
theorem r92_18 : rowAt 92 18 = some (.iload_n 1, 1, 0, 0) := by decide +kernel
theorem r92_19 : rowAt 92 19 = some (.invokevirtual 92, 3, 66, 0) := by decide +kernel
theorem r92_22 : rowAt 92 22 = some (.aload_n 0, 1, 0, 0) := by decide +kernel
theorem r92_23 : rowAt 92 23 = some (.getfield 10, 3, 8, 0) := by decide +kernel
theorem r92_26 : rowAt 92 26 = some (.iload_n 2, 1, 0, 0) := by decide +kernel
theorem r92_27 : rowAt 92 27 = some (.invokevirtual 92, 3, 66, 0) := by decide +kernel
theorem r92_30 : rowAt 92 30 = some (.aload_n 0, 1, 0, 0) := by decide +kernel
theorem r92_31 : rowAt 92 31 = some (.getfield 10, 3, 8, 0) := by decide +kernel
theorem r92_34 : rowAt 92 34 = some (.iload_n 3, 1, 0, 0) := by decide +kernel
theorem r92_35 : rowAt 92 35 = some (.invokevirtual 92, 3, 66, 0) := by decide +kernel
theorem r92_38 : rowAt 92 38 = some (.aload_n 0, 1, 0, 0) := by decide +kernel
theorem r92_39 : rowAt 92 39 = some (.getfield 10, 3, 8, 0) := by decide +kernel
theorem r92_42 : rowAt 92 42 = some (.iload 4, 2, 0, 0) := by decide +kernel
theorem r92_44 : rowAt 92 44 = some (.invokevirtual 92, 3, 66, 0) := by decide +kernel
theorem r92_47 : rowAt 92 47 = some (.aload_n 0, 1, 0, 0) := by decide +kernel
theorem r92_48 : rowAt 92 48 = some (.getfield 10, 3, 8, 0) := by decide +kernel
theorem r92_51 : rowAt 92 51 = some (.iload 5, 2, 0, 0) := by decide +kernel
theorem r92_53 : rowAt 92 53 = some (.invokevirtual 92, 3, 66, 0) := by decide +kernel
theorem r92_56 : rowAt 92 56 = some (.aload_n 0, 1, 0, 0) := by decide +kernel
theorem r92_57 : rowAt 92 57 = some (.getfield 10, 3, 8, 0) := by decide +kernel
theorem r92_60 : rowAt 92 60 = some (.getfield 96, 3, 6, 1) := by decide +kernel
theorem r92_63 : rowAt 92 63 = some (.ireturn, 1, 0, 0) := by decide +kernel
theorem en92 (a0 : Nat) (a1 : Int32) (a2 : Int32) (a3 : Int32) (a4 : Int32) (a5 : Int32) : iniL 92 [.ref a0, .int a1, .int a2, .int a3, .int a4, .int a5] = [.ref a0, .int a1, .int a2, .int a3, .int a4, .int a5] := ini_n mi92 rfl
theorem b92_0 (d : Nat) (l0 : Nat) (l1 : Int32) (l2 : Int32) (l3 : Int32) (l4 : Int32) (l5 : Int32) (h : aH) (K : Option Value → aH → Prop) : E scr false (d + 1) 92 0 [.ref l0, .int l1, .int l2, .int l3, .int l4, .int l5] [] h K = gR scr h l0 8 0 (fun x1 : Nat => vI scr d 65 [.ref x1, .int 20] h (fun (x3 : Int32) (h2 : aH) => (if x3 = 0 then K (some (.int (-1))) h2 else gR scr h2 l0 8 0 (fun x4 : Nat => vV scr d 66 [.ref x4, .int l1] h2 (fun h5 : aH => gR scr h5 l0 8 0 (fun x7 : Nat => vV scr d 66 [.ref x7, .int l2] h5 (fun h8 : aH => gR scr h8 l0 8 0 (fun x10 : Nat => vV scr d 66 [.ref x10, .int l3] h8 (fun h11 : aH => gR scr h11 l0 8 0 (fun x13 : Nat => vV scr d 66 [.ref x13, .int l4] h11 (fun h14 : aH => gR scr h14 l0 8 0 (fun x16 : Nat => vV scr d 66 [.ref x16, .int l5] h14 (fun h17 : aH => gR scr h17 l0 8 0 (fun x19 : Nat => gI scr h17 x19 6 1 (fun x20 : Int32 => K (some (.int x20)) h17))))))))))))))) := go (w := (1, [.ref l0, .int l1, .int l2, .int l3, .int l4, .int l5], [.ref l0], h)) r92_0 rfl rfl (E_gR r92_1 rfl (fun x1 => E_bip r92_4 (v := 20) (by decide) (E_vI r92_6 (As := [.ref x1, .int 20]) (rest := []) (cut_n mi65.1 rfl rfl) (rm8_n mi65.2.1 (Nat.le_of_ble_eq_true rfl) (Nat.le_of_ble_eq_true rfl)) mi65.2.2 (fun x3 h2 => E_i1_ne r92_9 rfl (go (w := (15, [.ref l0, .int l1, .int l2, .int l3, .int l4, .int l5], [.ref l0], h2)) r92_14 rfl rfl (E_gR r92_15 rfl (fun x4 => go (w := (19, [.ref l0, .int l1, .int l2, .int l3, .int l4, .int l5], [.int l1, .ref x4], h2)) r92_18 rfl rfl (E_vV r92_19 (As := [.ref x4, .int l1]) (rest := []) (cut_n mi66.1 rfl rfl) (rm8_n mi66.2.1 (Nat.le_of_ble_eq_true rfl) (Nat.le_of_ble_eq_true rfl)) mi66.2.2 (fun h5 => go (w := (23, [.ref l0, .int l1, .int l2, .int l3, .int l4, .int l5], [.ref l0], h5)) r92_22 rfl rfl (E_gR r92_23 rfl (fun x7 => go (w := (27, [.ref l0, .int l1, .int l2, .int l3, .int l4, .int l5], [.int l2, .ref x7], h5)) r92_26 rfl rfl (E_vV r92_27 (As := [.ref x7, .int l2]) (rest := []) (cut_n mi66.1 rfl rfl) (rm8_n mi66.2.1 (Nat.le_of_ble_eq_true rfl) (Nat.le_of_ble_eq_true rfl)) mi66.2.2 (fun h8 => go (w := (31, [.ref l0, .int l1, .int l2, .int l3, .int l4, .int l5], [.ref l0], h8)) r92_30 rfl rfl (E_gR r92_31 rfl (fun x10 => go (w := (35, [.ref l0, .int l1, .int l2, .int l3, .int l4, .int l5], [.int l3, .ref x10], h8)) r92_34 rfl rfl (E_vV r92_35 (As := [.ref x10, .int l3]) (rest := []) (cut_n mi66.1 rfl rfl) (rm8_n mi66.2.1 (Nat.le_of_ble_eq_true rfl) (Nat.le_of_ble_eq_true rfl)) mi66.2.2 (fun h11 => go (w := (39, [.ref l0, .int l1, .int l2, .int l3, .int l4, .int l5], [.ref l0], h11)) r92_38 rfl rfl (E_gR r92_39 rfl (fun x13 => go (w := (44, [.ref l0, .int l1, .int l2, .int l3, .int l4, .int l5], [.int l4, .ref x13], h11)) r92_42 rfl rfl (E_vV r92_44 (As := [.ref x13, .int l4]) (rest := []) (cut_n mi66.1 rfl rfl) (rm8_n mi66.2.1 (Nat.le_of_ble_eq_true rfl) (Nat.le_of_ble_eq_true rfl)) mi66.2.2 (fun h14 => go (w := (48, [.ref l0, .int l1, .int l2, .int l3, .int l4, .int l5], [.ref l0], h14)) r92_47 rfl rfl (E_gR r92_48 rfl (fun x16 => go (w := (53, [.ref l0, .int l1, .int l2, .int l3, .int l4, .int l5], [.int l5, .ref x16], h14)) r92_51 rfl rfl (E_vV r92_53 (As := [.ref x16, .int l5]) (rest := []) (cut_n mi66.1 rfl rfl) (rm8_n mi66.2.1 (Nat.le_of_ble_eq_true rfl) (Nat.le_of_ble_eq_true rfl)) mi66.2.2 (fun h17 => go (w := (57, [.ref l0, .int l1, .int l2, .int l3, .int l4, .int l5], [.ref l0], h17)) r92_56 rfl rfl (E_gR r92_57 rfl (fun x19 => E_gI r92_60 rfl (fun x20 => E_ri r92_63 (mq92))))))))))))))))))))))))) (E_ic r92_12 (v := (-1)) (by decide) (E_ri r92_13 (mq92)))))))
-- 93 SecondNearest.end(I)I
theorem mq93 : mRet 93 = (some .int) := by decide +kernel
theorem r93_0 : rowAt 93 0 = some (.iload_n 1, 1, 0, 0) := by decide +kernel
theorem r93_1 : rowAt 93 1 = some (.ifCond .lt 14, 3, 0, 0) := by decide +kernel
theorem r93_4 : rowAt 93 4 = some (.iload_n 1, 1, 0, 0) := by decide +kernel
theorem r93_5 : rowAt 93 5 = some (.aload_n 0, 1, 0, 0) := by decide +kernel
theorem r93_6 : rowAt 93 6 = some (.getfield 10, 3, 8, 0) := by decide +kernel
theorem r93_9 : rowAt 93 9 = some (.getfield 96, 3, 6, 1) := by decide +kernel
theorem r93_12 : rowAt 93 12 = some (.if_icmp .le 5, 3, 0, 0) := by decide +kernel
theorem r93_15 : rowAt 93 15 = some (.iconst (-1), 1, 0, 0) := by decide +kernel
theorem r93_16 : rowAt 93 16 = some (.ireturn, 1, 0, 0) := by decide +kernel
theorem r93_17 : rowAt 93 17 = some (.aload_n 0, 1, 0, 0) := by decide +kernel
theorem r93_18 : rowAt 93 18 = some (.getfield 10, 3, 8, 0) := by decide +kernel
theorem r93_21 : rowAt 93 21 = some (.iload_n 1, 1, 0, 0) := by decide +kernel
theorem r93_22 : rowAt 93 22 = some (.putfield 96, 3, 6, 1) := by decide +kernel
theorem r93_25 : rowAt 93 25 = some (.iload_n 1, 1, 0, 0) := by decide +kernel
theorem r93_26 : rowAt 93 26 = some (.ireturn, 1, 0, 0) := by decide +kernel
theorem en93 (a0 : Nat) (a1 : Int32) : iniL 93 [.ref a0, .int a1] = [.ref a0, .int a1] := ini_n mi93 rfl
theorem b93_0 (d : Nat) (l0 : Nat) (l1 : Int32) (h : aH) (K : Option Value → aH → Prop) : E scr false d 93 0 [.ref l0, .int l1] [] h K = (if l1 < 0 then K (some (.int (-1))) h else gR scr h l0 8 0 (fun x1 : Nat => gI scr h x1 6 1 (fun x2 : Int32 => (if l1 ≤ x2 then gR scr h l0 8 0 (fun x3 : Nat => pF h x3 6 1 (.int l1) (fun h4 : aH => K (some (.int l1)) h4)) else K (some (.int (-1))) h)))) := go (w := (1, [.ref l0, .int l1], [.int l1], h)) r93_0 rfl rfl (E_i1_lt r93_1 rfl (E_ic r93_15 (v := (-1)) (by decide) (E_ri r93_16 (mq93))) (go (w := (5, [.ref l0, .int l1], [.int l1], h)) r93_4 rfl rfl (go (w := (6, [.ref l0, .int l1], [.ref l0, .int l1], h)) r93_5 rfl rfl (E_gR r93_6 rfl (fun x1 => E_gI r93_9 rfl (fun x2 => E_i2_le r93_12 rfl (go (w := (18, [.ref l0, .int l1], [.ref l0], h)) r93_17 rfl rfl (E_gR r93_18 rfl (fun x3 => go (w := (22, [.ref l0, .int l1], [.int l1, .ref x3], h)) r93_21 rfl rfl (E_pI r93_22 ⟨rfl, rfl⟩ (fun h4 => go (w := (26, [.ref l0, .int l1], [.int l1], h4)) r93_25 rfl rfl (E_ri r93_26 (mq93))))))) (E_ic r93_15 (v := (-1)) (by decide) (E_ri r93_16 (mq93)))))))))
-- 94 SecondNearest.plain()I
theorem mq94 : mRet 94 = (some .int) := by decide +kernel
theorem r94_0 : rowAt 94 0 = some (.aload_n 0, 1, 0, 0) := by decide +kernel
theorem r94_1 : rowAt 94 1 = some (.getfield 31, 3, 8, 3) := by decide +kernel
theorem r94_4 : rowAt 94 4 = some (.invokevirtual 99, 3, 19, 0) := by decide +kernel
theorem r94_7 : rowAt 94 7 = some (.istore_n 1, 1, 0, 0) := by decide +kernel
theorem r94_8 : rowAt 94 8 = some (.aload_n 0, 1, 0, 0) := by decide +kernel
theorem r94_9 : rowAt 94 9 = some (.getfield 10, 3, 8, 0) := by decide +kernel
theorem r94_12 : rowAt 94 12 = some (.iconst 0, 1, 0, 0) := by decide +kernel
theorem r94_13 : rowAt 94 13 = some (.putfield 96, 3, 6, 1) := by decide +kernel
theorem r94_16 : rowAt 94 16 = some (.iload_n 1, 1, 0, 0) := by decide +kernel
theorem r94_17 : rowAt 94 17 = some (.ifCond .eq 8, 3, 0, 0) := by decide +kernel
theorem r94_20 : rowAt 94 20 = some (.bipush (-2), 2, 0, 0) := by decide +kernel
theorem r94_22 : rowAt 94 22 = some (.iload_n 1, 1, 0, 0) := by decide +kernel
theorem r94_23 : rowAt 94 23 = some (.isub, 1, 0, 0) := by decide +kernel
theorem r94_24 : rowAt 94 24 = some (.ireturn, 1, 0, 0) := by decide +kernel
theorem r94_25 : rowAt 94 25 = some (.aload_n 0, 1, 0, 0) := by decide +kernel
theorem r94_26 : rowAt 94 26 = some (.getfield 19, 3, 8, 1) := by decide +kernel
theorem r94_29 : rowAt 94 29 = some (.aload_n 0, 1, 0, 0) := by decide +kernel
theorem r94_30 : rowAt 94 30 = some (.getfield 23, 3, 8, 2) := by decide +kernel
theorem r94_33 : rowAt 94 33 = some (.invokevirtual 103, 3, 51, 0) := by decide +kernel
theorem r94_36 : rowAt 94 36 = some (.aload_n 0, 1, 0, 0) := by decide +kernel
theorem r94_37 : rowAt 94 37 = some (.getfield 58, 3, 8, 7) := by decide +kernel
theorem r94_40 : rowAt 94 40 = some (.aload_n 0, 1, 0, 0) := by decide +kernel
theorem r94_41 : rowAt 94 41 = some (.getfield 19, 3, 8, 1) := by decide +kernel
theorem r94_44 : rowAt 94 44 = some (.invokevirtual 107, 3, 1, 0) := by decide +kernel
theorem r94_47 : rowAt 94 47 = some (.aload_n 0, 1, 0, 0) := by decide +kernel
theorem r94_48 : rowAt 94 48 = some (.getfield 19, 3, 8, 1) := by decide +kernel
theorem r94_51 : rowAt 94 51 = some (.getfield 110, 3, 5, 3) := by decide +kernel
theorem r94_54 : rowAt 94 54 = some (.ireturn, 1, 0, 0) := by decide +kernel
theorem en94 (a0 : Nat) : iniL 94 [.ref a0] = [.ref a0, .null] := ini_n mi94 rfl
theorem b94_0 (d : Nat) (l0 : Nat) (h : aH) (K : Option Value → aH → Prop) : E scr false (d + 1) 94 0 [.ref l0, .null] [] h K = gR scr h l0 8 3 (fun x1 : Nat => vI scr d 19 [.ref x1] h (fun (x3 : Int32) (h2 : aH) => gR scr h2 l0 8 0 (fun x4 : Nat => pF h2 x4 6 1 (.int 0) (fun h5 : aH => (if x3 = 0 then gR scr h5 l0 8 1 (fun x6 : Nat => gR scr h5 l0 8 2 (fun x7 : Nat => vV scr d 51 [.ref x6, .ref x7] h5 (fun h8 : aH => gR scr h8 l0 8 7 (fun x10 : Nat => gR scr h8 l0 8 1 (fun x11 : Nat => vV scr d 1 [.ref x10, .ref x11] h8 (fun h12 : aH => gR scr h12 l0 8 1 (fun x14 : Nat => gI scr h12 x14 5 3 (fun x15 : Int32 => K (some (.int x15)) h12)))))))) else K (some (.int ((-2) - x3))) h5))))) := go (w := (1, [.ref l0, .null], [.ref l0], h)) r94_0 rfl rfl (E_gR r94_1 rfl (fun x1 => E_vI r94_4 (As := [.ref x1]) (rest := []) (cut_n mi19.1 rfl rfl) (rm8_n mi19.2.1 (Nat.le_of_ble_eq_true rfl) (Nat.le_of_ble_eq_true rfl)) mi19.2.2 (fun x3 h2 => go (w := (8, [.ref l0, .int x3], [], h2)) r94_7 rfl rfl (go (w := (9, [.ref l0, .int x3], [.ref l0], h2)) r94_8 rfl rfl (E_gR r94_9 rfl (fun x4 => E_ic r94_12 (v := 0) (by decide) (E_pI r94_13 ⟨rfl, rfl⟩ (fun h5 => go (w := (17, [.ref l0, .int x3], [.int x3], h5)) r94_16 rfl rfl (E_i1_eq r94_17 rfl (go (w := (26, [.ref l0, .int x3], [.ref l0], h5)) r94_25 rfl rfl (E_gR r94_26 rfl (fun x6 => go (w := (30, [.ref l0, .int x3], [.ref l0, .ref x6], h5)) r94_29 rfl rfl (E_gR r94_30 rfl (fun x7 => E_vV r94_33 (As := [.ref x6, .ref x7]) (rest := []) (cut_n mi51.1 rfl rfl) (rm8_n mi51.2.1 (Nat.le_of_ble_eq_true rfl) (Nat.le_of_ble_eq_true rfl)) mi51.2.2 (fun h8 => go (w := (37, [.ref l0, .int x3], [.ref l0], h8)) r94_36 rfl rfl (E_gR r94_37 rfl (fun x10 => go (w := (41, [.ref l0, .int x3], [.ref l0, .ref x10], h8)) r94_40 rfl rfl (E_gR r94_41 rfl (fun x11 => E_vV r94_44 (As := [.ref x10, .ref x11]) (rest := []) (cut_n mi1.1 rfl rfl) (rm8_n mi1.2.1 (Nat.le_of_ble_eq_true rfl) (Nat.le_of_ble_eq_true rfl)) mi1.2.2 (fun h12 => go (w := (48, [.ref l0, .int x3], [.ref l0], h12)) r94_47 rfl rfl (E_gR r94_48 rfl (fun x14 => E_gI r94_51 rfl (fun x15 => E_ri r94_54 (mq94))))))))))))))) (E_bip r94_20 (v := (-2)) (by decide) (go (w := (23, [.ref l0, .int x3], [.int x3, .int (-2)], h5)) r94_22 rfl rfl (go (w := (24, [.ref l0, .int x3], [.int ((-2) - x3)], h5)) r94_23 rfl rfl (E_ri r94_24 (mq94))))))))))))))
-- 95 SecondNearest.law()I
theorem mq95 : mRet 95 = (some .int) := by decide +kernel
theorem r95_0 : rowAt 95 0 = some (.aload_n 0, 1, 0, 0) := by decide +kernel
theorem r95_1 : rowAt 95 1 = some (.getfield 51, 3, 8, 6) := by decide +kernel
theorem r95_4 : rowAt 95 4 = some (.ifCond .lt 12, 3, 0, 0) := by decide +kernel
theorem r95_7 : rowAt 95 7 = some (.aload_n 0, 1, 0, 0) := by decide +kernel
theorem r95_8 : rowAt 95 8 = some (.getfield 51, 3, 8, 6) := by decide +kernel
theorem r95_11 : rowAt 95 11 = some (.bipush 6, 2, 0, 0) := by decide +kernel
theorem r95_13 : rowAt 95 13 = some (.if_icmp .lt 5, 3, 0, 0) := by decide +kernel
theorem r95_16 : rowAt 95 16 = some (.iconst (-1), 1, 0, 0) := by decide +kernel
theorem r95_17 : rowAt 95 17 = some (.ireturn, 1, 0, 0) := by decide +kernel
theorem r95_18 : rowAt 95 18 = some (.aload_n 0, 1, 0, 0) := by decide +kernel
theorem r95_19 : rowAt 95 19 = some (.getfield 40, 3, 8, 4) := by decide +kernel
theorem r95_22 : rowAt 95 22 = some (.aload_n 0, 1, 0, 0) := by decide +kernel
theorem r95_23 : rowAt 95 23 = some (.getfield 46, 3, 8, 5) := by decide +kernel
theorem r95_26 : rowAt 95 26 = some (.aload_n 0, 1, 0, 0) := by decide +kernel
theorem r95_27 : rowAt 95 27 = some (.getfield 51, 3, 8, 6) := by decide +kernel
theorem r95_30 : rowAt 95 30 = some (.aaload, 1, 0, 0) := by decide +kernel
theorem r95_31 : rowAt 95 31 = some (.invokevirtual 113, 3, 8, 0) := by decide +kernel
theorem r95_34 : rowAt 95 34 = some (.istore_n 1, 1, 0, 0) := by decide +kernel
theorem r95_35 : rowAt 95 35 = some (.aload_n 0, 1, 0, 0) := by decide +kernel
theorem r95_36 : rowAt 95 36 = some (.getfield 10, 3, 8, 0) := by decide +kernel
theorem r95_39 : rowAt 95 39 = some (.iconst 0, 1, 0, 0) := by decide +kernel
theorem r95_40 : rowAt 95 40 = some (.putfield 96, 3, 6, 1) := by decide +kernel
theorem r95_43 : rowAt 95 43 = some (.iload_n 1, 1, 0, 0) := by decide +kernel
theorem r95_44 : rowAt 95 44 = some (.ifCond .eq 8, 3, 0, 0) := by decide +kernel
theorem r95_47 : rowAt 95 47 = some (.bipush (-2), 2, 0, 0) := by decide +kernel
theorem r95_49 : rowAt 95 49 = some (.iload_n 1, 1, 0, 0) := by decide +kernel
theorem r95_50 : rowAt 95 50 = some (.isub, 1, 0, 0) := by decide +kernel
theorem r95_51 : rowAt 95 51 = some (.ireturn, 1, 0, 0) := by decide +kernel
theorem r95_52 : rowAt 95 52 = some (.aload_n 0, 1, 0, 0) := by decide +kernel
theorem r95_53 : rowAt 95 53 = some (.dup, 1, 0, 0) := by decide +kernel
theorem r95_54 : rowAt 95 54 = some (.getfield 51, 3, 8, 6) := by decide +kernel
theorem r95_57 : rowAt 95 57 = some (.iconst 1, 1, 0, 0) := by decide +kernel
theorem r95_58 : rowAt 95 58 = some (.iadd, 1, 0, 0) := by decide +kernel
theorem r95_59 : rowAt 95 59 = some (.putfield 51, 3, 8, 6) := by decide +kernel
theorem r95_62 : rowAt 95 62 = some (.aload_n 0, 1, 0, 0) := by decide +kernel
theorem r95_63 : rowAt 95 63 = some (.getfield 51, 3, 8, 6) := by decide +kernel
theorem r95_66 : rowAt 95 66 = some (.iconst 1, 1, 0, 0) := by decide +kernel
theorem r95_67 : rowAt 95 67 = some (.isub, 1, 0, 0) := by decide +kernel
theorem r95_68 : rowAt 95 68 = some (.ireturn, 1, 0, 0) := by decide +kernel
theorem en95 (a0 : Nat) : iniL 95 [.ref a0] = [.ref a0, .null] := ini_n mi95 rfl
theorem b95_0 (d : Nat) (l0 : Nat) (h : aH) (K : Option Value → aH → Prop) : E scr false (d + 1) 95 0 [.ref l0, .null] [] h K = gI scr h l0 8 6 (fun x1 : Int32 => (if x1 < 0 then K (some (.int (-1))) h else gI scr h l0 8 6 (fun x2 : Int32 => (if x2 < 6 then gR scr h l0 8 4 (fun x3 : Nat => gR scr h l0 8 5 (fun x4 : Nat => gI scr h l0 8 6 (fun x5 : Int32 => aR h x4 x5 (fun x6 : Nat => vI scr d 8 [.ref x3, .ref x6] h (fun (x8 : Int32) (h7 : aH) => gR scr h7 l0 8 0 (fun x9 : Nat => pF h7 x9 6 1 (.int 0) (fun h10 : aH => (if x8 = 0 then gI scr h10 l0 8 6 (fun x11 : Int32 => pF h10 l0 8 6 (.int (x11 + 1)) (fun h12 : aH => gI scr h12 l0 8 6 (fun x13 : Int32 => K (some (.int (x13 - 1))) h12))) else K (some (.int ((-2) - x8))) h10)))))))) else K (some (.int (-1))) h)))) := go (w := (1, [.ref l0, .null], [.ref l0], h)) r95_0 rfl rfl (E_gI r95_1 rfl (fun x1 => E_i1_lt r95_4 rfl (E_ic r95_16 (v := (-1)) (by decide) (E_ri r95_17 (mq95))) (go (w := (8, [.ref l0, .null], [.ref l0], h)) r95_7 rfl rfl (E_gI r95_8 rfl (fun x2 => E_bip r95_11 (v := 6) (by decide) (E_i2_lt r95_13 rfl (go (w := (19, [.ref l0, .null], [.ref l0], h)) r95_18 rfl rfl (E_gR r95_19 rfl (fun x3 => go (w := (23, [.ref l0, .null], [.ref l0, .ref x3], h)) r95_22 rfl rfl (E_gR r95_23 rfl (fun x4 => go (w := (27, [.ref l0, .null], [.ref l0, .ref x4, .ref x3], h)) r95_26 rfl rfl (E_gI r95_27 rfl (fun x5 => E_aR r95_30 (fun x6 => E_vI r95_31 (As := [.ref x3, .ref x6]) (rest := []) (cut_n mi8.1 rfl rfl) (rm8_n mi8.2.1 (Nat.le_of_ble_eq_true rfl) (Nat.le_of_ble_eq_true rfl)) mi8.2.2 (fun x8 h7 => go (w := (35, [.ref l0, .int x8], [], h7)) r95_34 rfl rfl (go (w := (36, [.ref l0, .int x8], [.ref l0], h7)) r95_35 rfl rfl (E_gR r95_36 rfl (fun x9 => E_ic r95_39 (v := 0) (by decide) (E_pI r95_40 ⟨rfl, rfl⟩ (fun h10 => go (w := (44, [.ref l0, .int x8], [.int x8], h10)) r95_43 rfl rfl (E_i1_eq r95_44 rfl (go (w := (53, [.ref l0, .int x8], [.ref l0], h10)) r95_52 rfl rfl (go (w := (54, [.ref l0, .int x8], [.ref l0, .ref l0], h10)) r95_53 rfl rfl (E_gI r95_54 rfl (fun x11 => E_ic r95_57 (v := 1) (by decide) (go (w := (59, [.ref l0, .int x8], [.int (x11 + 1), .ref l0], h10)) r95_58 rfl rfl (E_pI r95_59 ⟨rfl, rfl⟩ (fun h12 => go (w := (63, [.ref l0, .int x8], [.ref l0], h12)) r95_62 rfl rfl (E_gI r95_63 rfl (fun x13 => E_ic r95_66 (v := 1) (by decide) (go (w := (68, [.ref l0, .int x8], [.int (x13 - 1)], h12)) r95_67 rfl rfl (E_ri r95_68 (mq95)))))))))))) (E_bip r95_47 (v := (-2)) (by decide) (go (w := (50, [.ref l0, .int x8], [.int x8, .int (-2)], h10)) r95_49 rfl rfl (go (w := (51, [.ref l0, .int x8], [.int ((-2) - x8)], h10)) r95_50 rfl rfl (E_ri r95_51 (mq95)))))))))))))))))))) (E_ic r95_16 (v := (-1)) (by decide) (E_ri r95_17 (mq95)))))))))
-- 96 SecondNearest.person(II)I
theorem mq96 : mRet 96 = (some .int) := by decide +kernel
theorem r96_0 : rowAt 96 0 = some (.aload_n 0, 1, 0, 0) := by decide +kernel
theorem r96_1 : rowAt 96 1 = some (.getfield 19, 3, 8, 1) := by decide +kernel
theorem r96_4 : rowAt 96 4 = some (.iload_n 1, 1, 0, 0) := by decide +kernel
theorem r96_5 : rowAt 96 5 = some (.invokevirtual 116, 3, 53, 0) := by decide +kernel
theorem r96_8 : rowAt 96 8 = some (.ifCond .ne 5, 3, 0, 0) := by decide +kernel
theorem r96_11 : rowAt 96 11 = some (.iconst (-1), 1, 0, 0) := by decide +kernel
theorem r96_12 : rowAt 96 12 = some (.ireturn, 1, 0, 0) := by decide +kernel
theorem r96_13 : rowAt 96 13 = some (.aload_n 0, 1, 0, 0) := by decide +kernel
theorem r96_14 : rowAt 96 14 = some (.getfield 19, 3, 8, 1) := by decide +kernel
theorem r96_17 : rowAt 96 17 = some (.getfield 119, 3, 5, 10) := by decide +kernel
theorem r96_20 : rowAt 96 20 = some (.iload_n 1, 1, 0, 0) := by decide +kernel
theorem r96_21 : rowAt 96 21 = some (.iaload, 1, 0, 0) := by decide +kernel
theorem r96_22 : rowAt 96 22 = some (.istore_n 3, 1, 0, 0) := by decide +kernel
theorem r96_23 : rowAt 96 23 = some (.iload_n 2, 1, 0, 0) := by decide +kernel
theorem r96_24 : rowAt 96 24 = some (.tableswitch 92 0 4 #[36, 49, 62, 72, 82], 36, 0, 0) := by decide +kernel
theorem r96_60 : rowAt 96 60 = some (.iload_n 3, 1, 0, 0) := by decide +kernel
theorem r96_61 : rowAt 96 61 = some (.ifCond .ge 7, 3, 0, 0) := by decide +kernel
theorem r96_64 : rowAt 96 64 = some (.iconst (-1), 1, 0, 0) := by decide +kernel
theorem r96_65 : rowAt 96 65 = some (.goto 7, 3, 0, 0) := by decide +kernel
theorem r96_68 : rowAt 96 68 = some (.iload_n 3, 1, 0, 0) := by decide +kernel
theorem r96_69 : rowAt 96 69 = some (.bipush 12, 2, 0, 0) := by decide +kernel
theorem r96_71 : rowAt 96 71 = some (.irem, 1, 0, 0) := by decide +kernel
theorem r96_72 : rowAt 96 72 = some (.ireturn, 1, 0, 0) := by decide +kernel
theorem r96_73 : rowAt 96 73 = some (.iload_n 3, 1, 0, 0) := by decide +kernel
theorem r96_74 : rowAt 96 74 = some (.ifCond .ge 7, 3, 0, 0) := by decide +kernel
theorem r96_77 : rowAt 96 77 = some (.iconst (-1), 1, 0, 0) := by decide +kernel
theorem r96_78 : rowAt 96 78 = some (.goto 7, 3, 0, 0) := by decide +kernel
theorem r96_81 : rowAt 96 81 = some (.iload_n 3, 1, 0, 0) := by decide +kernel
theorem r96_82 : rowAt 96 82 = some (.bipush 12, 2, 0, 0) := by decide +kernel
theorem r96_84 : rowAt 96 84 = some (.idiv, 1, 0, 0) := by decide +kernel
theorem r96_85 : rowAt 96 85 = some (.ireturn, 1, 0, 0) := by decide +kernel
theorem r96_86 : rowAt 96 86 = some (.aload_n 0, 1, 0, 0) := by decide +kernel
theorem r96_87 : rowAt 96 87 = some (.getfield 19, 3, 8, 1) := by decide +kernel
theorem r96_90 : rowAt 96 90 = some (.getfield 123, 3, 5, 11) := by decide +kernel
theorem r96_93 : rowAt 96 93 = some (.iload_n 1, 1, 0, 0) := by decide +kernel
theorem r96_94 : rowAt 96 94 = some (.iaload, 1, 0, 0) := by decide +kernel
theorem r96_95 : rowAt 96 95 = some (.ireturn, 1, 0, 0) := by decide +kernel
theorem r96_96 : rowAt 96 96 = some (.aload_n 0, 1, 0, 0) := by decide +kernel
theorem r96_97 : rowAt 96 97 = some (.getfield 19, 3, 8, 1) := by decide +kernel
theorem r96_100 : rowAt 96 100 = some (.getfield 126, 3, 5, 12) := by decide +kernel
theorem r96_103 : rowAt 96 103 = some (.iload_n 1, 1, 0, 0) := by decide +kernel
theorem r96_104 : rowAt 96 104 = some (.iaload, 1, 0, 0) := by decide +kernel
theorem r96_105 : rowAt 96 105 = some (.ireturn, 1, 0, 0) := by decide +kernel
theorem r96_106 : rowAt 96 106 = some (.aload_n 0, 1, 0, 0) := by decide +kernel
theorem r96_107 : rowAt 96 107 = some (.getfield 19, 3, 8, 1) := by decide +kernel
theorem r96_110 : rowAt 96 110 = some (.getfield 129, 3, 5, 13) := by decide +kernel
theorem r96_113 : rowAt 96 113 = some (.iload_n 1, 1, 0, 0) := by decide +kernel
theorem r96_114 : rowAt 96 114 = some (.iaload, 1, 0, 0) := by decide +kernel
theorem r96_115 : rowAt 96 115 = some (.ireturn, 1, 0, 0) := by decide +kernel
theorem r96_116 : rowAt 96 116 = some (.iconst (-1), 1, 0, 0) := by decide +kernel
theorem r96_117 : rowAt 96 117 = some (.ireturn, 1, 0, 0) := by decide +kernel
theorem en96 (a0 : Nat) (a1 : Int32) (a2 : Int32) : iniL 96 [.ref a0, .int a1, .int a2] = [.ref a0, .int a1, .int a2, .null] := ini_n mi96 rfl
theorem b96_0 (d : Nat) (l0 : Nat) (l1 : Int32) (l2 : Int32) (h : aH) (K : Option Value → aH → Prop) : E scr false (d + 1) 96 0 [.ref l0, .int l1, .int l2, .null] [] h K = gR scr h l0 8 1 (fun x1 : Nat => vI scr d 53 [.ref x1, .int l1] h (fun (x3 : Int32) (h2 : aH) => (if x3 = 0 then K (some (.int (-1))) h2 else gR scr h2 l0 8 1 (fun x4 : Nat => gR scr h2 x4 5 10 (fun x5 : Nat => aI scr h2 x5 l1 (fun x6 : Int32 => (if l2 = 0 then E scr false (d + 1) 96 60 [.ref l0, .int l1, .int l2, .int x6] [] h2 K else (if l2 = 1 then E scr false (d + 1) 96 73 [.ref l0, .int l1, .int l2, .int x6] [] h2 K else (if l2 = 2 then E scr false (d + 1) 96 86 [.ref l0, .int l1, .int l2, .int x6] [] h2 K else (if l2 = 3 then E scr false (d + 1) 96 96 [.ref l0, .int l1, .int l2, .int x6] [] h2 K else (if l2 = 4 then E scr false (d + 1) 96 106 [.ref l0, .int l1, .int l2, .int x6] [] h2 K else E scr false (d + 1) 96 116 [.ref l0, .int l1, .int l2, .int x6] [] h2 K))))))))))) := go (w := (1, [.ref l0, .int l1, .int l2, .null], [.ref l0], h)) r96_0 rfl rfl (E_gR r96_1 rfl (fun x1 => go (w := (5, [.ref l0, .int l1, .int l2, .null], [.int l1, .ref x1], h)) r96_4 rfl rfl (E_vI r96_5 (As := [.ref x1, .int l1]) (rest := []) (cut_n mi53.1 rfl rfl) (rm8_n mi53.2.1 (Nat.le_of_ble_eq_true rfl) (Nat.le_of_ble_eq_true rfl)) mi53.2.2 (fun x3 h2 => E_i1_ne r96_8 rfl (go (w := (14, [.ref l0, .int l1, .int l2, .null], [.ref l0], h2)) r96_13 rfl rfl (E_gR r96_14 rfl (fun x4 => E_gR r96_17 rfl (fun x5 => go (w := (21, [.ref l0, .int l1, .int l2, .null], [.int l1, .ref x5], h2)) r96_20 rfl rfl (E_aI r96_21 (fun x6 => go (w := (23, [.ref l0, .int l1, .int l2, .int x6], [], h2)) r96_22 rfl rfl (go (w := (24, [.ref l0, .int l1, .int l2, .int x6], [.int l2], h2)) r96_23 rfl rfl (E_tab (pc := 24) [(0, 60), (1, 73), (2, 86), (3, 96), (4, 106)] 116 r96_24 (by decide +kernel) (by decide +kernel) (by decide +kernel))))))))) (E_ic r96_11 (v := (-1)) (by decide) (E_ri r96_12 (mq96)))))))
theorem b96_60 (d : Nat) (l0 : Nat) (l1 : Int32) (l2 : Int32) (l3 : Int32) (h : aH) (K : Option Value → aH → Prop) : E scr false d 96 60 [.ref l0, .int l1, .int l2, .int l3] [] h K = (if 0 ≤ l3 then K (some (.int (irm l3 12))) h else K (some (.int (-1))) h) := go (w := (61, [.ref l0, .int l1, .int l2, .int l3], [.int l3], h)) r96_60 rfl rfl (E_i1_ge r96_61 rfl (go (w := (69, [.ref l0, .int l1, .int l2, .int l3], [.int l3], h)) r96_68 rfl rfl (E_bip r96_69 (v := 12) (by decide) (E_remc r96_71 (by decide) (E_ri r96_72 (mq96))))) (E_ic r96_64 (v := (-1)) (by decide) (E_gt r96_65 rfl (E_ri r96_72 (mq96)))))
theorem b96_73 (d : Nat) (l0 : Nat) (l1 : Int32) (l2 : Int32) (l3 : Int32) (h : aH) (K : Option Value → aH → Prop) : E scr false d 96 73 [.ref l0, .int l1, .int l2, .int l3] [] h K = (if 0 ≤ l3 then K (some (.int (l3 / 12))) h else K (some (.int (-1))) h) := go (w := (74, [.ref l0, .int l1, .int l2, .int l3], [.int l3], h)) r96_73 rfl rfl (E_i1_ge r96_74 rfl (go (w := (82, [.ref l0, .int l1, .int l2, .int l3], [.int l3], h)) r96_81 rfl rfl (E_bip r96_82 (v := 12) (by decide) (E_divc r96_84 (by decide) (E_ri r96_85 (mq96))))) (E_ic r96_77 (v := (-1)) (by decide) (E_gt r96_78 rfl (E_ri r96_85 (mq96)))))
theorem b96_86 (d : Nat) (l0 : Nat) (l1 : Int32) (l2 : Int32) (l3 : Int32) (h : aH) (K : Option Value → aH → Prop) : E scr false d 96 86 [.ref l0, .int l1, .int l2, .int l3] [] h K = gR scr h l0 8 1 (fun x1 : Nat => gR scr h x1 5 11 (fun x2 : Nat => aI scr h x2 l1 (fun x3 : Int32 => K (some (.int x3)) h))) := go (w := (87, [.ref l0, .int l1, .int l2, .int l3], [.ref l0], h)) r96_86 rfl rfl (E_gR r96_87 rfl (fun x1 => E_gR r96_90 rfl (fun x2 => go (w := (94, [.ref l0, .int l1, .int l2, .int l3], [.int l1, .ref x2], h)) r96_93 rfl rfl (E_aI r96_94 (fun x3 => E_ri r96_95 (mq96))))))
theorem b96_96 (d : Nat) (l0 : Nat) (l1 : Int32) (l2 : Int32) (l3 : Int32) (h : aH) (K : Option Value → aH → Prop) : E scr false d 96 96 [.ref l0, .int l1, .int l2, .int l3] [] h K = gR scr h l0 8 1 (fun x1 : Nat => gR scr h x1 5 12 (fun x2 : Nat => aI scr h x2 l1 (fun x3 : Int32 => K (some (.int x3)) h))) := go (w := (97, [.ref l0, .int l1, .int l2, .int l3], [.ref l0], h)) r96_96 rfl rfl (E_gR r96_97 rfl (fun x1 => E_gR r96_100 rfl (fun x2 => go (w := (104, [.ref l0, .int l1, .int l2, .int l3], [.int l1, .ref x2], h)) r96_103 rfl rfl (E_aI r96_104 (fun x3 => E_ri r96_105 (mq96))))))
theorem b96_106 (d : Nat) (l0 : Nat) (l1 : Int32) (l2 : Int32) (l3 : Int32) (h : aH) (K : Option Value → aH → Prop) : E scr false d 96 106 [.ref l0, .int l1, .int l2, .int l3] [] h K = gR scr h l0 8 1 (fun x1 : Nat => gR scr h x1 5 13 (fun x2 : Nat => aI scr h x2 l1 (fun x3 : Int32 => K (some (.int x3)) h))) := go (w := (107, [.ref l0, .int l1, .int l2, .int l3], [.ref l0], h)) r96_106 rfl rfl (E_gR r96_107 rfl (fun x1 => E_gR r96_110 rfl (fun x2 => go (w := (114, [.ref l0, .int l1, .int l2, .int l3], [.int l1, .ref x2], h)) r96_113 rfl rfl (E_aI r96_114 (fun x3 => E_ri r96_115 (mq96))))))
theorem b96_116 (d : Nat) (l0 : Nat) (l1 : Int32) (l2 : Int32) (l3 : Int32) (h : aH) (K : Option Value → aH → Prop) : E scr false d 96 116 [.ref l0, .int l1, .int l2, .int l3] [] h K = K (some (.int (-1))) h := E_ic r96_116 (v := (-1)) (by decide) (E_ri r96_117 (mq96))
-- 97 SecondNearest.herald(II)I
theorem mq97 : mRet 97 = (some .int) := by decide +kernel
theorem r97_0 : rowAt 97 0 = some (.aload_n 0, 1, 0, 0) := by decide +kernel
theorem r97_1 : rowAt 97 1 = some (.getfield 19, 3, 8, 1) := by decide +kernel
theorem r97_4 : rowAt 97 4 = some (.iload_n 1, 1, 0, 0) := by decide +kernel
theorem r97_5 : rowAt 97 5 = some (.invokevirtual 132, 3, 54, 0) := by decide +kernel
theorem r97_8 : rowAt 97 8 = some (.ifCond .eq 12, 3, 0, 0) := by decide +kernel
theorem r97_11 : rowAt 97 11 = some (.iload_n 2, 1, 0, 0) := by decide +kernel
theorem r97_12 : rowAt 97 12 = some (.ifCond .lt 8, 3, 0, 0) := by decide +kernel
theorem r97_15 : rowAt 97 15 = some (.iload_n 2, 1, 0, 0) := by decide +kernel
theorem r97_16 : rowAt 97 16 = some (.iconst 1, 1, 0, 0) := by decide +kernel
theorem r97_17 : rowAt 97 17 = some (.if_icmp .le 5, 3, 0, 0) := by decide +kernel
theorem r97_20 : rowAt 97 20 = some (.iconst (-1), 1, 0, 0) := by decide +kernel
theorem r97_21 : rowAt 97 21 = some (.ireturn, 1, 0, 0) := by decide +kernel
theorem r97_22 : rowAt 97 22 = some (.aload_n 0, 1, 0, 0) := by decide +kernel
theorem r97_23 : rowAt 97 23 = some (.getfield 19, 3, 8, 1) := by decide +kernel
theorem r97_26 : rowAt 97 26 = some (.getfield 119, 3, 5, 10) := by decide +kernel
theorem r97_29 : rowAt 97 29 = some (.bipush 12, 2, 0, 0) := by decide +kernel
theorem r97_31 : rowAt 97 31 = some (.iload_n 1, 1, 0, 0) := by decide +kernel
theorem r97_32 : rowAt 97 32 = some (.iadd, 1, 0, 0) := by decide +kernel
theorem r97_33 : rowAt 97 33 = some (.iaload, 1, 0, 0) := by decide +kernel
theorem r97_34 : rowAt 97 34 = some (.istore_n 3, 1, 0, 0) := by decide +kernel
theorem r97_35 : rowAt 97 35 = some (.iload_n 2, 1, 0, 0) := by decide +kernel
theorem r97_36 : rowAt 97 36 = some (.ifCond .ne 10, 3, 0, 0) := by decide +kernel
theorem r97_39 : rowAt 97 39 = some (.iload_n 3, 1, 0, 0) := by decide +kernel
theorem r97_40 : rowAt 97 40 = some (.bipush 12, 2, 0, 0) := by decide +kernel
theorem r97_42 : rowAt 97 42 = some (.irem, 1, 0, 0) := by decide +kernel
theorem r97_43 : rowAt 97 43 = some (.goto 7, 3, 0, 0) := by decide +kernel
theorem r97_46 : rowAt 97 46 = some (.iload_n 3, 1, 0, 0) := by decide +kernel
theorem r97_47 : rowAt 97 47 = some (.bipush 12, 2, 0, 0) := by decide +kernel
theorem r97_49 : rowAt 97 49 = some (.idiv, 1, 0, 0) := by decide +kernel
theorem r97_50 : rowAt 97 50 = some (.ireturn, 1, 0, 0) := by decide +kernel
theorem en97 (a0 : Nat) (a1 : Int32) (a2 : Int32) : iniL 97 [.ref a0, .int a1, .int a2] = [.ref a0, .int a1, .int a2, .null] := ini_n mi97 rfl
theorem b97_0 (d : Nat) (l0 : Nat) (l1 : Int32) (l2 : Int32) (h : aH) (K : Option Value → aH → Prop) : E scr false (d + 1) 97 0 [.ref l0, .int l1, .int l2, .null] [] h K = gR scr h l0 8 1 (fun x1 : Nat => vI scr d 54 [.ref x1, .int l1] h (fun (x3 : Int32) (h2 : aH) => (if x3 = 0 then K (some (.int (-1))) h2 else (if l2 < 0 then K (some (.int (-1))) h2 else (if l2 ≤ 1 then gR scr h2 l0 8 1 (fun x4 : Nat => gR scr h2 x4 5 10 (fun x5 : Nat => aI scr h2 x5 ((12 + l1)) (fun x6 : Int32 => (if l2 = 0 then K (some (.int (irm x6 12))) h2 else K (some (.int (x6 / 12))) h2)))) else K (some (.int (-1))) h2))))) := go (w := (1, [.ref l0, .int l1, .int l2, .null], [.ref l0], h)) r97_0 rfl rfl (E_gR r97_1 rfl (fun x1 => go (w := (5, [.ref l0, .int l1, .int l2, .null], [.int l1, .ref x1], h)) r97_4 rfl rfl (E_vI r97_5 (As := [.ref x1, .int l1]) (rest := []) (cut_n mi54.1 rfl rfl) (rm8_n mi54.2.1 (Nat.le_of_ble_eq_true rfl) (Nat.le_of_ble_eq_true rfl)) mi54.2.2 (fun x3 h2 => E_i1_eq r97_8 rfl (E_ic r97_20 (v := (-1)) (by decide) (E_ri r97_21 (mq97))) (go (w := (12, [.ref l0, .int l1, .int l2, .null], [.int l2], h2)) r97_11 rfl rfl (E_i1_lt r97_12 rfl (E_ic r97_20 (v := (-1)) (by decide) (E_ri r97_21 (mq97))) (go (w := (16, [.ref l0, .int l1, .int l2, .null], [.int l2], h2)) r97_15 rfl rfl (E_ic r97_16 (v := 1) (by decide) (E_i2_le r97_17 rfl (go (w := (23, [.ref l0, .int l1, .int l2, .null], [.ref l0], h2)) r97_22 rfl rfl (E_gR r97_23 rfl (fun x4 => E_gR r97_26 rfl (fun x5 => E_bip r97_29 (v := 12) (by decide) (go (w := (32, [.ref l0, .int l1, .int l2, .null], [.int l1, .int 12, .ref x5], h2)) r97_31 rfl rfl (go (w := (33, [.ref l0, .int l1, .int l2, .null], [.int (12 + l1), .ref x5], h2)) r97_32 rfl rfl (E_aI r97_33 (fun x6 => go (w := (35, [.ref l0, .int l1, .int l2, .int x6], [], h2)) r97_34 rfl rfl (go (w := (36, [.ref l0, .int l1, .int l2, .int x6], [.int l2], h2)) r97_35 rfl rfl (E_i1_ne r97_36 rfl (go (w := (47, [.ref l0, .int l1, .int l2, .int x6], [.int x6], h2)) r97_46 rfl rfl (E_bip r97_47 (v := 12) (by decide) (E_divc r97_49 (by decide) (E_ri r97_50 (mq97))))) (go (w := (40, [.ref l0, .int l1, .int l2, .int x6], [.int x6], h2)) r97_39 rfl rfl (E_bip r97_40 (v := 12) (by decide) (E_remc r97_42 (by decide) (E_gt r97_43 rfl (E_ri r97_50 (mq97)))))))))))))))) (E_ic r97_20 (v := (-1)) (by decide) (E_ri r97_21 (mq97))))))))))))
-- 98 SecondNearest.cell(III)I
theorem mq98 : mRet 98 = (some .int) := by decide +kernel
theorem r98_0 : rowAt 98 0 = some (.aload_n 0, 1, 0, 0) := by decide +kernel
theorem r98_1 : rowAt 98 1 = some (.getfield 19, 3, 8, 1) := by decide +kernel
theorem r98_4 : rowAt 98 4 = some (.iload_n 1, 1, 0, 0) := by decide +kernel
theorem r98_5 : rowAt 98 5 = some (.iload_n 2, 1, 0, 0) := by decide +kernel
theorem r98_6 : rowAt 98 6 = some (.invokevirtual 135, 3, 56, 0) := by decide +kernel
theorem r98_9 : rowAt 98 9 = some (.ifCond .ne 5, 3, 0, 0) := by decide +kernel
theorem r98_12 : rowAt 98 12 = some (.iconst (-1), 1, 0, 0) := by decide +kernel
theorem r98_13 : rowAt 98 13 = some (.ireturn, 1, 0, 0) := by decide +kernel
theorem r98_14 : rowAt 98 14 = some (.bipush 12, 2, 0, 0) := by decide +kernel
theorem r98_16 : rowAt 98 16 = some (.iload_n 2, 1, 0, 0) := by decide +kernel
theorem r98_17 : rowAt 98 17 = some (.imul, 1, 0, 0) := by decide +kernel
theorem r98_18 : rowAt 98 18 = some (.iload_n 1, 1, 0, 0) := by decide +kernel
theorem r98_19 : rowAt 98 19 = some (.iadd, 1, 0, 0) := by decide +kernel
theorem r98_20 : rowAt 98 20 = some (.istore 4, 2, 0, 0) := by decide +kernel
theorem r98_22 : rowAt 98 22 = some (.iload_n 3, 1, 0, 0) := by decide +kernel
theorem r98_23 : rowAt 98 23 = some (.tableswitch 58 0 2 #[25, 36, 47], 25, 0, 0) := by decide +kernel
theorem r98_48 : rowAt 98 48 = some (.aload_n 0, 1, 0, 0) := by decide +kernel
theorem r98_49 : rowAt 98 49 = some (.getfield 19, 3, 8, 1) := by decide +kernel
theorem r98_52 : rowAt 98 52 = some (.getfield 139, 3, 5, 8) := by decide +kernel
theorem r98_55 : rowAt 98 55 = some (.iload 4, 2, 0, 0) := by decide +kernel
theorem r98_57 : rowAt 98 57 = some (.baload, 1, 0, 0) := by decide +kernel
theorem r98_58 : rowAt 98 58 = some (.ireturn, 1, 0, 0) := by decide +kernel
theorem r98_59 : rowAt 98 59 = some (.aload_n 0, 1, 0, 0) := by decide +kernel
theorem r98_60 : rowAt 98 60 = some (.getfield 19, 3, 8, 1) := by decide +kernel
theorem r98_63 : rowAt 98 63 = some (.getfield 143, 3, 5, 9) := by decide +kernel
theorem r98_66 : rowAt 98 66 = some (.iload 4, 2, 0, 0) := by decide +kernel
theorem r98_68 : rowAt 98 68 = some (.baload, 1, 0, 0) := by decide +kernel
theorem r98_69 : rowAt 98 69 = some (.ireturn, 1, 0, 0) := by decide +kernel
theorem r98_70 : rowAt 98 70 = some (.aload_n 0, 1, 0, 0) := by decide +kernel
theorem r98_71 : rowAt 98 71 = some (.getfield 58, 3, 8, 7) := by decide +kernel
theorem r98_74 : rowAt 98 74 = some (.getfield 146, 3, 0, 0) := by decide +kernel
theorem r98_77 : rowAt 98 77 = some (.iload 4, 2, 0, 0) := by decide +kernel
theorem r98_79 : rowAt 98 79 = some (.iaload, 1, 0, 0) := by decide +kernel
theorem r98_80 : rowAt 98 80 = some (.ireturn, 1, 0, 0) := by decide +kernel
theorem r98_81 : rowAt 98 81 = some (.iconst (-1), 1, 0, 0) := by decide +kernel
theorem r98_82 : rowAt 98 82 = some (.ireturn, 1, 0, 0) := by decide +kernel
theorem en98 (a0 : Nat) (a1 : Int32) (a2 : Int32) (a3 : Int32) : iniL 98 [.ref a0, .int a1, .int a2, .int a3] = [.ref a0, .int a1, .int a2, .int a3, .null] := ini_n mi98 rfl
theorem b98_0 (d : Nat) (l0 : Nat) (l1 : Int32) (l2 : Int32) (l3 : Int32) (h : aH) (K : Option Value → aH → Prop) : E scr false (d + 1) 98 0 [.ref l0, .int l1, .int l2, .int l3, .null] [] h K = gR scr h l0 8 1 (fun x1 : Nat => vI scr d 56 [.ref x1, .int l1, .int l2] h (fun (x3 : Int32) (h2 : aH) => (if x3 = 0 then K (some (.int (-1))) h2 else (if l3 = 0 then E scr false (d + 1) 98 48 [.ref l0, .int l1, .int l2, .int l3, .int ((12 * l2) + l1)] [] h2 K else (if l3 = 1 then E scr false (d + 1) 98 59 [.ref l0, .int l1, .int l2, .int l3, .int ((12 * l2) + l1)] [] h2 K else (if l3 = 2 then E scr false (d + 1) 98 70 [.ref l0, .int l1, .int l2, .int l3, .int ((12 * l2) + l1)] [] h2 K else E scr false (d + 1) 98 81 [.ref l0, .int l1, .int l2, .int l3, .int ((12 * l2) + l1)] [] h2 K)))))) := go (w := (1, [.ref l0, .int l1, .int l2, .int l3, .null], [.ref l0], h)) r98_0 rfl rfl (E_gR r98_1 rfl (fun x1 => go (w := (5, [.ref l0, .int l1, .int l2, .int l3, .null], [.int l1, .ref x1], h)) r98_4 rfl rfl (go (w := (6, [.ref l0, .int l1, .int l2, .int l3, .null], [.int l2, .int l1, .ref x1], h)) r98_5 rfl rfl (E_vI r98_6 (As := [.ref x1, .int l1, .int l2]) (rest := []) (cut_n mi56.1 rfl rfl) (rm8_n mi56.2.1 (Nat.le_of_ble_eq_true rfl) (Nat.le_of_ble_eq_true rfl)) mi56.2.2 (fun x3 h2 => E_i1_ne r98_9 rfl (E_bip r98_14 (v := 12) (by decide) (go (w := (17, [.ref l0, .int l1, .int l2, .int l3, .null], [.int l2, .int 12], h2)) r98_16 rfl rfl (go (w := (18, [.ref l0, .int l1, .int l2, .int l3, .null], [.int (12 * l2)], h2)) r98_17 rfl rfl (go (w := (19, [.ref l0, .int l1, .int l2, .int l3, .null], [.int l1, .int (12 * l2)], h2)) r98_18 rfl rfl (go (w := (20, [.ref l0, .int l1, .int l2, .int l3, .null], [.int ((12 * l2) + l1)], h2)) r98_19 rfl rfl (go (w := (22, [.ref l0, .int l1, .int l2, .int l3, .int ((12 * l2) + l1)], [], h2)) r98_20 rfl rfl (go (w := (23, [.ref l0, .int l1, .int l2, .int l3, .int ((12 * l2) + l1)], [.int l3], h2)) r98_22 rfl rfl (E_tab (pc := 23) [(0, 48), (1, 59), (2, 70)] 81 r98_23 (by decide +kernel) (by decide +kernel) (by decide +kernel))))))))) (E_ic r98_12 (v := (-1)) (by decide) (E_ri r98_13 (mq98))))))))
theorem b98_48 (d : Nat) (l0 : Nat) (l1 : Int32) (l2 : Int32) (l3 : Int32) (l4 : Int32) (h : aH) (K : Option Value → aH → Prop) : E scr false d 98 48 [.ref l0, .int l1, .int l2, .int l3, .int l4] [] h K = gR scr h l0 8 1 (fun x1 : Nat => gR scr h x1 5 8 (fun x2 : Nat => aB scr h x2 l4 (fun x3 : Int32 => K (some (.int x3)) h))) := go (w := (49, [.ref l0, .int l1, .int l2, .int l3, .int l4], [.ref l0], h)) r98_48 rfl rfl (E_gR r98_49 rfl (fun x1 => E_gR r98_52 rfl (fun x2 => go (w := (57, [.ref l0, .int l1, .int l2, .int l3, .int l4], [.int l4, .ref x2], h)) r98_55 rfl rfl (E_aB r98_57 (fun x3 => E_ri r98_58 (mq98))))))
theorem b98_59 (d : Nat) (l0 : Nat) (l1 : Int32) (l2 : Int32) (l3 : Int32) (l4 : Int32) (h : aH) (K : Option Value → aH → Prop) : E scr false d 98 59 [.ref l0, .int l1, .int l2, .int l3, .int l4] [] h K = gR scr h l0 8 1 (fun x1 : Nat => gR scr h x1 5 9 (fun x2 : Nat => aB scr h x2 l4 (fun x3 : Int32 => K (some (.int x3)) h))) := go (w := (60, [.ref l0, .int l1, .int l2, .int l3, .int l4], [.ref l0], h)) r98_59 rfl rfl (E_gR r98_60 rfl (fun x1 => E_gR r98_63 rfl (fun x2 => go (w := (68, [.ref l0, .int l1, .int l2, .int l3, .int l4], [.int l4, .ref x2], h)) r98_66 rfl rfl (E_aB r98_68 (fun x3 => E_ri r98_69 (mq98))))))
theorem b98_70 (d : Nat) (l0 : Nat) (l1 : Int32) (l2 : Int32) (l3 : Int32) (l4 : Int32) (h : aH) (K : Option Value → aH → Prop) : E scr false d 98 70 [.ref l0, .int l1, .int l2, .int l3, .int l4] [] h K = gR scr h l0 8 7 (fun x1 : Nat => gR scr h x1 0 0 (fun x2 : Nat => aI scr h x2 l4 (fun x3 : Int32 => K (some (.int x3)) h))) := go (w := (71, [.ref l0, .int l1, .int l2, .int l3, .int l4], [.ref l0], h)) r98_70 rfl rfl (E_gR r98_71 rfl (fun x1 => E_gR r98_74 rfl (fun x2 => go (w := (79, [.ref l0, .int l1, .int l2, .int l3, .int l4], [.int l4, .ref x2], h)) r98_77 rfl rfl (E_aI r98_79 (fun x3 => E_ri r98_80 (mq98))))))
theorem b98_81 (d : Nat) (l0 : Nat) (l1 : Int32) (l2 : Int32) (l3 : Int32) (l4 : Int32) (h : aH) (K : Option Value → aH → Prop) : E scr false d 98 81 [.ref l0, .int l1, .int l2, .int l3, .int l4] [] h K = K (some (.int (-1))) h := E_ic r98_81 (v := (-1)) (by decide) (E_ri r98_82 (mq98))
-- 99 SecondNearest.sees(I)I
theorem mq99 : mRet 99 = (some .int) := by decide +kernel
theorem r99_0 : rowAt 99 0 = some (.aload_n 0, 1, 0, 0) := by decide +kernel
theorem r99_1 : rowAt 99 1 = some (.getfield 19, 3, 8, 1) := by decide +kernel
theorem r99_4 : rowAt 99 4 = some (.iload_n 1, 1, 0, 0) := by decide +kernel
theorem r99_5 : rowAt 99 5 = some (.invokevirtual 149, 3, 55, 0) := by decide +kernel
theorem r99_8 : rowAt 99 8 = some (.ifCond .ne 5, 3, 0, 0) := by decide +kernel
theorem r99_11 : rowAt 99 11 = some (.iconst (-1), 1, 0, 0) := by decide +kernel
theorem r99_12 : rowAt 99 12 = some (.ireturn, 1, 0, 0) := by decide +kernel
theorem r99_13 : rowAt 99 13 = some (.aload_n 0, 1, 0, 0) := by decide +kernel
theorem r99_14 : rowAt 99 14 = some (.getfield 19, 3, 8, 1) := by decide +kernel
theorem r99_17 : rowAt 99 17 = some (.getfield 119, 3, 5, 10) := by decide +kernel
theorem r99_20 : rowAt 99 20 = some (.iload_n 1, 1, 0, 0) := by decide +kernel
theorem r99_21 : rowAt 99 21 = some (.iaload, 1, 0, 0) := by decide +kernel
theorem r99_22 : rowAt 99 22 = some (.ifCond .ge 6, 3, 0, 0) := by decide +kernel
theorem r99_25 : rowAt 99 25 = some (.bipush (-2), 2, 0, 0) := by decide +kernel
theorem r99_27 : rowAt 99 27 = some (.ireturn, 1, 0, 0) := by decide +kernel
theorem r99_28 : rowAt 99 28 = some (.aload_n 0, 1, 0, 0) := by decide +kernel
theorem r99_29 : rowAt 99 29 = some (.getfield 67, 3, 8, 8) := by decide +kernel
theorem r99_32 : rowAt 99 32 = some (.aload_n 0, 1, 0, 0) := by decide +kernel
theorem r99_33 : rowAt 99 33 = some (.getfield 19, 3, 8, 1) := by decide +kernel
theorem r99_36 : rowAt 99 36 = some (.iload_n 1, 1, 0, 0) := by decide +kernel
theorem r99_37 : rowAt 99 37 = some (.invokevirtual 152, 3, 81, 0) := by decide +kernel
theorem r99_40 : rowAt 99 40 = some (.aload_n 0, 1, 0, 0) := by decide +kernel
theorem r99_41 : rowAt 99 41 = some (.getfield 67, 3, 8, 8) := by decide +kernel
theorem r99_44 : rowAt 99 44 = some (.getfield 156, 3, 7, 3) := by decide +kernel
theorem r99_47 : rowAt 99 47 = some (.ireturn, 1, 0, 0) := by decide +kernel
theorem en99 (a0 : Nat) (a1 : Int32) : iniL 99 [.ref a0, .int a1] = [.ref a0, .int a1] := ini_n mi99 rfl
theorem b99_0 (d : Nat) (l0 : Nat) (l1 : Int32) (h : aH) (K : Option Value → aH → Prop) : E scr false (d + 1) 99 0 [.ref l0, .int l1] [] h K = gR scr h l0 8 1 (fun x1 : Nat => vI scr d 55 [.ref x1, .int l1] h (fun (x3 : Int32) (h2 : aH) => (if x3 = 0 then K (some (.int (-1))) h2 else gR scr h2 l0 8 1 (fun x4 : Nat => gR scr h2 x4 5 10 (fun x5 : Nat => aI scr h2 x5 l1 (fun x6 : Int32 => (if 0 ≤ x6 then gR scr h2 l0 8 8 (fun x7 : Nat => gR scr h2 l0 8 1 (fun x8 : Nat => vV scr d 81 [.ref x7, .ref x8, .int l1] h2 (fun h9 : aH => gR scr h9 l0 8 8 (fun x11 : Nat => gI scr h9 x11 7 3 (fun x12 : Int32 => K (some (.int x12)) h9))))) else K (some (.int (-2))) h2))))))) := go (w := (1, [.ref l0, .int l1], [.ref l0], h)) r99_0 rfl rfl (E_gR r99_1 rfl (fun x1 => go (w := (5, [.ref l0, .int l1], [.int l1, .ref x1], h)) r99_4 rfl rfl (E_vI r99_5 (As := [.ref x1, .int l1]) (rest := []) (cut_n mi55.1 rfl rfl) (rm8_n mi55.2.1 (Nat.le_of_ble_eq_true rfl) (Nat.le_of_ble_eq_true rfl)) mi55.2.2 (fun x3 h2 => E_i1_ne r99_8 rfl (go (w := (14, [.ref l0, .int l1], [.ref l0], h2)) r99_13 rfl rfl (E_gR r99_14 rfl (fun x4 => E_gR r99_17 rfl (fun x5 => go (w := (21, [.ref l0, .int l1], [.int l1, .ref x5], h2)) r99_20 rfl rfl (E_aI r99_21 (fun x6 => E_i1_ge r99_22 rfl (go (w := (29, [.ref l0, .int l1], [.ref l0], h2)) r99_28 rfl rfl (E_gR r99_29 rfl (fun x7 => go (w := (33, [.ref l0, .int l1], [.ref l0, .ref x7], h2)) r99_32 rfl rfl (E_gR r99_33 rfl (fun x8 => go (w := (37, [.ref l0, .int l1], [.int l1, .ref x8, .ref x7], h2)) r99_36 rfl rfl (E_vV r99_37 (As := [.ref x7, .ref x8, .int l1]) (rest := []) (cut_n mi81.1 rfl rfl) (rm8_n mi81.2.1 (Nat.le_of_ble_eq_true rfl) (Nat.le_of_ble_eq_true rfl)) mi81.2.2 (fun h9 => go (w := (41, [.ref l0, .int l1], [.ref l0], h9)) r99_40 rfl rfl (E_gR r99_41 rfl (fun x11 => E_gI r99_44 rfl (fun x12 => E_ri r99_47 (mq99))))))))))) (E_bip r99_25 (v := (-2)) (by decide) (E_ri r99_27 (mq99))))))))) (E_ic r99_11 (v := (-1)) (by decide) (E_ri r99_12 (mq99)))))))
-- 100 SecondNearest.seen(II)I
theorem mq100 : mRet 100 = (some .int) := by decide +kernel
theorem r100_0 : rowAt 100 0 = some (.aload_n 0, 1, 0, 0) := by decide +kernel
theorem r100_1 : rowAt 100 1 = some (.getfield 19, 3, 8, 1) := by decide +kernel
theorem r100_4 : rowAt 100 4 = some (.iload_n 1, 1, 0, 0) := by decide +kernel
theorem r100_5 : rowAt 100 5 = some (.invokevirtual 149, 3, 55, 0) := by decide +kernel
theorem r100_8 : rowAt 100 8 = some (.ifCond .eq 8, 3, 0, 0) := by decide +kernel
theorem r100_11 : rowAt 100 11 = some (.iload_n 2, 1, 0, 0) := by decide +kernel
theorem r100_12 : rowAt 100 12 = some (.iconst 1, 1, 0, 0) := by decide +kernel
theorem r100_13 : rowAt 100 13 = some (.if_icmp .ge 5, 3, 0, 0) := by decide +kernel
theorem r100_16 : rowAt 100 16 = some (.iconst (-1), 1, 0, 0) := by decide +kernel
theorem r100_17 : rowAt 100 17 = some (.ireturn, 1, 0, 0) := by decide +kernel
theorem r100_18 : rowAt 100 18 = some (.aload_n 0, 1, 0, 0) := by decide +kernel
theorem r100_19 : rowAt 100 19 = some (.getfield 19, 3, 8, 1) := by decide +kernel
theorem r100_22 : rowAt 100 22 = some (.getfield 119, 3, 5, 10) := by decide +kernel
theorem r100_25 : rowAt 100 25 = some (.iload_n 1, 1, 0, 0) := by decide +kernel
theorem r100_26 : rowAt 100 26 = some (.iaload, 1, 0, 0) := by decide +kernel
theorem r100_27 : rowAt 100 27 = some (.ifCond .ge 6, 3, 0, 0) := by decide +kernel
theorem r100_30 : rowAt 100 30 = some (.bipush (-2), 2, 0, 0) := by decide +kernel
theorem r100_32 : rowAt 100 32 = some (.ireturn, 1, 0, 0) := by decide +kernel
theorem r100_33 : rowAt 100 33 = some (.aload_n 0, 1, 0, 0) := by decide +kernel
theorem r100_34 : rowAt 100 34 = some (.getfield 67, 3, 8, 8) := by decide +kernel
theorem r100_37 : rowAt 100 37 = some (.aload_n 0, 1, 0, 0) := by decide +kernel
theorem r100_38 : rowAt 100 38 = some (.getfield 19, 3, 8, 1) := by decide +kernel
theorem r100_41 : rowAt 100 41 = some (.iload_n 1, 1, 0, 0) := by decide +kernel
theorem r100_42 : rowAt 100 42 = some (.invokevirtual 152, 3, 81, 0) := by decide +kernel
theorem r100_45 : rowAt 100 45 = some (.aload_n 0, 1, 0, 0) := by decide +kernel
theorem r100_46 : rowAt 100 46 = some (.getfield 67, 3, 8, 8) := by decide +kernel
theorem r100_49 : rowAt 100 49 = some (.iload_n 2, 1, 0, 0) := by decide +kernel
theorem r100_50 : rowAt 100 50 = some (.invokevirtual 159, 3, 83, 0) := by decide +kernel
theorem r100_53 : rowAt 100 53 = some (.istore_n 3, 1, 0, 0) := by decide +kernel
theorem r100_54 : rowAt 100 54 = some (.iload_n 3, 1, 0, 0) := by decide +kernel
theorem r100_55 : rowAt 100 55 = some (.ifCond .ge 8, 3, 0, 0) := by decide +kernel
theorem r100_58 : rowAt 100 58 = some (.bipush (-2), 2, 0, 0) := by decide +kernel
theorem r100_60 : rowAt 100 60 = some (.goto 4, 3, 0, 0) := by decide +kernel
theorem r100_63 : rowAt 100 63 = some (.iload_n 3, 1, 0, 0) := by decide +kernel
theorem r100_64 : rowAt 100 64 = some (.ireturn, 1, 0, 0) := by decide +kernel
theorem en100 (a0 : Nat) (a1 : Int32) (a2 : Int32) : iniL 100 [.ref a0, .int a1, .int a2] = [.ref a0, .int a1, .int a2, .null] := ini_n mi100 rfl
theorem b100_0 (d : Nat) (l0 : Nat) (l1 : Int32) (l2 : Int32) (h : aH) (K : Option Value → aH → Prop) : E scr false (d + 1) 100 0 [.ref l0, .int l1, .int l2, .null] [] h K = gR scr h l0 8 1 (fun x1 : Nat => vI scr d 55 [.ref x1, .int l1] h (fun (x3 : Int32) (h2 : aH) => (if x3 = 0 then K (some (.int (-1))) h2 else (if 1 ≤ l2 then gR scr h2 l0 8 1 (fun x4 : Nat => gR scr h2 x4 5 10 (fun x5 : Nat => aI scr h2 x5 l1 (fun x6 : Int32 => (if 0 ≤ x6 then gR scr h2 l0 8 8 (fun x7 : Nat => gR scr h2 l0 8 1 (fun x8 : Nat => vV scr d 81 [.ref x7, .ref x8, .int l1] h2 (fun h9 : aH => gR scr h9 l0 8 8 (fun x11 : Nat => vI scr d 83 [.ref x11, .int l2] h9 (fun (x13 : Int32) (h12 : aH) => (if 0 ≤ x13 then K (some (.int x13)) h12 else K (some (.int (-2))) h12)))))) else K (some (.int (-2))) h2)))) else K (some (.int (-1))) h2)))) := go (w := (1, [.ref l0, .int l1, .int l2, .null], [.ref l0], h)) r100_0 rfl rfl (E_gR r100_1 rfl (fun x1 => go (w := (5, [.ref l0, .int l1, .int l2, .null], [.int l1, .ref x1], h)) r100_4 rfl rfl (E_vI r100_5 (As := [.ref x1, .int l1]) (rest := []) (cut_n mi55.1 rfl rfl) (rm8_n mi55.2.1 (Nat.le_of_ble_eq_true rfl) (Nat.le_of_ble_eq_true rfl)) mi55.2.2 (fun x3 h2 => E_i1_eq r100_8 rfl (E_ic r100_16 (v := (-1)) (by decide) (E_ri r100_17 (mq100))) (go (w := (12, [.ref l0, .int l1, .int l2, .null], [.int l2], h2)) r100_11 rfl rfl (E_ic r100_12 (v := 1) (by decide) (E_i2_ge r100_13 rfl (go (w := (19, [.ref l0, .int l1, .int l2, .null], [.ref l0], h2)) r100_18 rfl rfl (E_gR r100_19 rfl (fun x4 => E_gR r100_22 rfl (fun x5 => go (w := (26, [.ref l0, .int l1, .int l2, .null], [.int l1, .ref x5], h2)) r100_25 rfl rfl (E_aI r100_26 (fun x6 => E_i1_ge r100_27 rfl (go (w := (34, [.ref l0, .int l1, .int l2, .null], [.ref l0], h2)) r100_33 rfl rfl (E_gR r100_34 rfl (fun x7 => go (w := (38, [.ref l0, .int l1, .int l2, .null], [.ref l0, .ref x7], h2)) r100_37 rfl rfl (E_gR r100_38 rfl (fun x8 => go (w := (42, [.ref l0, .int l1, .int l2, .null], [.int l1, .ref x8, .ref x7], h2)) r100_41 rfl rfl (E_vV r100_42 (As := [.ref x7, .ref x8, .int l1]) (rest := []) (cut_n mi81.1 rfl rfl) (rm8_n mi81.2.1 (Nat.le_of_ble_eq_true rfl) (Nat.le_of_ble_eq_true rfl)) mi81.2.2 (fun h9 => go (w := (46, [.ref l0, .int l1, .int l2, .null], [.ref l0], h9)) r100_45 rfl rfl (E_gR r100_46 rfl (fun x11 => go (w := (50, [.ref l0, .int l1, .int l2, .null], [.int l2, .ref x11], h9)) r100_49 rfl rfl (E_vI r100_50 (As := [.ref x11, .int l2]) (rest := []) (cut_n mi83.1 rfl rfl) (rm8_n mi83.2.1 (Nat.le_of_ble_eq_true rfl) (Nat.le_of_ble_eq_true rfl)) mi83.2.2 (fun x13 h12 => go (w := (54, [.ref l0, .int l1, .int l2, .int x13], [], h12)) r100_53 rfl rfl (go (w := (55, [.ref l0, .int l1, .int l2, .int x13], [.int x13], h12)) r100_54 rfl rfl (E_i1_ge r100_55 rfl (go (w := (64, [.ref l0, .int l1, .int l2, .int x13], [.int x13], h12)) r100_63 rfl rfl (E_ri r100_64 (mq100))) (E_bip r100_58 (v := (-2)) (by decide) (E_gt r100_60 rfl (E_ri r100_64 (mq100))))))))))))))))) (E_bip r100_30 (v := (-2)) (by decide) (E_ri r100_32 (mq100))))))))) (E_ic r100_16 (v := (-1)) (by decide) (E_ri r100_17 (mq100))))))))))
-- 101 SecondNearest.goes(II)Z
theorem mq101 : mRet 101 = (some .boolean) := by decide +kernel
theorem r101_0 : rowAt 101 0 = some (.aload_n 0, 1, 0, 0) := by decide +kernel
theorem r101_1 : rowAt 101 1 = some (.getfield 19, 3, 8, 1) := by decide +kernel
theorem r101_4 : rowAt 101 4 = some (.iload_n 1, 1, 0, 0) := by decide +kernel
theorem r101_5 : rowAt 101 5 = some (.invokevirtual 132, 3, 54, 0) := by decide +kernel
theorem r101_8 : rowAt 101 8 = some (.ifCond .eq 22, 3, 0, 0) := by decide +kernel
theorem r101_11 : rowAt 101 11 = some (.aload_n 0, 1, 0, 0) := by decide +kernel
theorem r101_12 : rowAt 101 12 = some (.getfield 19, 3, 8, 1) := by decide +kernel
theorem r101_15 : rowAt 101 15 = some (.bipush 12, 2, 0, 0) := by decide +kernel
theorem r101_17 : rowAt 101 17 = some (.iload_n 1, 1, 0, 0) := by decide +kernel
theorem r101_18 : rowAt 101 18 = some (.iadd, 1, 0, 0) := by decide +kernel
theorem r101_19 : rowAt 101 19 = some (.iload_n 2, 1, 0, 0) := by decide +kernel
theorem r101_20 : rowAt 101 20 = some (.invokevirtual 163, 3, 61, 0) := by decide +kernel
theorem r101_23 : rowAt 101 23 = some (.ifCond .eq 7, 3, 0, 0) := by decide +kernel
theorem r101_26 : rowAt 101 26 = some (.iconst 1, 1, 0, 0) := by decide +kernel
theorem r101_27 : rowAt 101 27 = some (.goto 4, 3, 0, 0) := by decide +kernel
theorem r101_30 : rowAt 101 30 = some (.iconst 0, 1, 0, 0) := by decide +kernel
theorem r101_31 : rowAt 101 31 = some (.ireturn, 1, 0, 0) := by decide +kernel
theorem en101 (a0 : Nat) (a1 : Int32) (a2 : Int32) : iniL 101 [.ref a0, .int a1, .int a2] = [.ref a0, .int a1, .int a2] := ini_n mi101 rfl
theorem b101_0 (d : Nat) (l0 : Nat) (l1 : Int32) (l2 : Int32) (h : aH) (K : Option Value → aH → Prop) : E scr false (d + 1) 101 0 [.ref l0, .int l1, .int l2] [] h K = gR scr h l0 8 1 (fun x1 : Nat => vI scr d 54 [.ref x1, .int l1] h (fun (x3 : Int32) (h2 : aH) => (if x3 = 0 then K (some (.int 0)) h2 else gR scr h2 l0 8 1 (fun x4 : Nat => vI scr d 61 [.ref x4, .int (12 + l1), .int l2] h2 (fun (x6 : Int32) (h5 : aH) => (if x6 = 0 then K (some (.int 0)) h5 else K (some (.int 1)) h5)))))) := go (w := (1, [.ref l0, .int l1, .int l2], [.ref l0], h)) r101_0 rfl rfl (E_gR r101_1 rfl (fun x1 => go (w := (5, [.ref l0, .int l1, .int l2], [.int l1, .ref x1], h)) r101_4 rfl rfl (E_vI r101_5 (As := [.ref x1, .int l1]) (rest := []) (cut_n mi54.1 rfl rfl) (rm8_n mi54.2.1 (Nat.le_of_ble_eq_true rfl) (Nat.le_of_ble_eq_true rfl)) mi54.2.2 (fun x3 h2 => E_i1_eq r101_8 rfl (E_ic r101_30 (v := 0) (by decide) (E_rz r101_31 (mq101) (by decide))) (go (w := (12, [.ref l0, .int l1, .int l2], [.ref l0], h2)) r101_11 rfl rfl (E_gR r101_12 rfl (fun x4 => E_bip r101_15 (v := 12) (by decide) (go (w := (18, [.ref l0, .int l1, .int l2], [.int l1, .int 12, .ref x4], h2)) r101_17 rfl rfl (go (w := (19, [.ref l0, .int l1, .int l2], [.int (12 + l1), .ref x4], h2)) r101_18 rfl rfl (go (w := (20, [.ref l0, .int l1, .int l2], [.int l2, .int (12 + l1), .ref x4], h2)) r101_19 rfl rfl (E_vI r101_20 (As := [.ref x4, .int (12 + l1), .int l2]) (rest := []) (cut_n mi61.1 rfl rfl) (rm8_n mi61.2.1 (Nat.le_of_ble_eq_true rfl) (Nat.le_of_ble_eq_true rfl)) mi61.2.2 (fun x6 h5 => E_i1_eq r101_23 rfl (E_ic r101_30 (v := 0) (by decide) (E_rz r101_31 (mq101) (by decide))) (E_ic r101_26 (v := 1) (by decide) (E_gt r101_27 rfl (E_rz r101_31 (mq101) (by decide))))))))))))))))
-- 102 SecondNearest.tick(II)I
theorem mq102 : mRet 102 = (some .int) := by decide +kernel
theorem r102_0 : rowAt 102 0 = some (.aload_n 0, 1, 0, 0) := by decide +kernel
theorem r102_1 : rowAt 102 1 = some (.iload_n 1, 1, 0, 0) := by decide +kernel
theorem r102_2 : rowAt 102 2 = some (.invokevirtual 166, 3, 119, 0) := by decide +kernel
theorem r102_5 : rowAt 102 5 = some (.ifCond .eq 15, 3, 0, 0) := by decide +kernel
theorem r102_8 : rowAt 102 8 = some (.iload_n 2, 1, 0, 0) := by decide +kernel
theorem r102_9 : rowAt 102 9 = some (.iconst 1, 1, 0, 0) := by decide +kernel
theorem r102_10 : rowAt 102 10 = some (.if_icmp .lt 10, 3, 0, 0) := by decide +kernel
theorem r102_13 : rowAt 102 13 = some (.iload_n 2, 1, 0, 0) := by decide +kernel
theorem r102_14 : rowAt 102 14 = some (.sipush 200, 3, 0, 0) := by decide +kernel
theorem r102_17 : rowAt 102 17 = some (.if_icmp .le 5, 3, 0, 0) := by decide +kernel
theorem r102_20 : rowAt 102 20 = some (.iconst (-1), 1, 0, 0) := by decide +kernel
theorem r102_21 : rowAt 102 21 = some (.ireturn, 1, 0, 0) := by decide +kernel
theorem r102_22 : rowAt 102 22 = some (.aload_n 0, 1, 0, 0) := by decide +kernel
theorem r102_23 : rowAt 102 23 = some (.getfield 67, 3, 8, 8) := by decide +kernel
theorem r102_26 : rowAt 102 26 = some (.aload_n 0, 1, 0, 0) := by decide +kernel
theorem r102_27 : rowAt 102 27 = some (.getfield 19, 3, 8, 1) := by decide +kernel
theorem r102_30 : rowAt 102 30 = some (.aload_n 0, 1, 0, 0) := by decide +kernel
theorem r102_31 : rowAt 102 31 = some (.getfield 46, 3, 8, 5) := by decide +kernel
theorem r102_34 : rowAt 102 34 = some (.iload_n 1, 1, 0, 0) := by decide +kernel
theorem r102_35 : rowAt 102 35 = some (.aaload, 1, 0, 0) := by decide +kernel
theorem r102_36 : rowAt 102 36 = some (.iload_n 2, 1, 0, 0) := by decide +kernel
theorem r102_37 : rowAt 102 37 = some (.invokevirtual 169, 3, 78, 0) := by decide +kernel
theorem r102_40 : rowAt 102 40 = some (.aload_n 0, 1, 0, 0) := by decide +kernel
theorem r102_41 : rowAt 102 41 = some (.getfield 19, 3, 8, 1) := by decide +kernel
theorem r102_44 : rowAt 102 44 = some (.getfield 173, 3, 5, 5) := by decide +kernel
theorem r102_47 : rowAt 102 47 = some (.ireturn, 1, 0, 0) := by decide +kernel
theorem en102 (a0 : Nat) (a1 : Int32) (a2 : Int32) : iniL 102 [.ref a0, .int a1, .int a2] = [.ref a0, .int a1, .int a2] := ini_n mi102 rfl
theorem b102_0 (d : Nat) (l0 : Nat) (l1 : Int32) (l2 : Int32) (h : aH) (K : Option Value → aH → Prop) : E scr false (d + 1) 102 0 [.ref l0, .int l1, .int l2] [] h K = vI scr d 119 [.ref l0, .int l1] h (fun (x2 : Int32) (h1 : aH) => (if x2 = 0 then K (some (.int (-1))) h1 else (if l2 < 1 then K (some (.int (-1))) h1 else (if l2 ≤ 200 then gR scr h1 l0 8 8 (fun x3 : Nat => gR scr h1 l0 8 1 (fun x4 : Nat => gR scr h1 l0 8 5 (fun x5 : Nat => aR h1 x5 l1 (fun x6 : Nat => vV scr d 78 [.ref x3, .ref x4, .ref x6, .int l2] h1 (fun h7 : aH => gR scr h7 l0 8 1 (fun x9 : Nat => gI scr h7 x9 5 5 (fun x10 : Int32 => K (some (.int x10)) h7))))))) else K (some (.int (-1))) h1)))) := go (w := (1, [.ref l0, .int l1, .int l2], [.ref l0], h)) r102_0 rfl rfl (go (w := (2, [.ref l0, .int l1, .int l2], [.int l1, .ref l0], h)) r102_1 rfl rfl (E_vI r102_2 (As := [.ref l0, .int l1]) (rest := []) (cut_n mi119.1 rfl rfl) (rm8_n mi119.2.1 (Nat.le_of_ble_eq_true rfl) (Nat.le_of_ble_eq_true rfl)) mi119.2.2 (fun x2 h1 => E_i1_eq r102_5 rfl (E_ic r102_20 (v := (-1)) (by decide) (E_ri r102_21 (mq102))) (go (w := (9, [.ref l0, .int l1, .int l2], [.int l2], h1)) r102_8 rfl rfl (E_ic r102_9 (v := 1) (by decide) (E_i2_lt r102_10 rfl (E_ic r102_20 (v := (-1)) (by decide) (E_ri r102_21 (mq102))) (go (w := (14, [.ref l0, .int l1, .int l2], [.int l2], h1)) r102_13 rfl rfl (E_sip r102_14 (v := 200) (by decide) (E_i2_le r102_17 rfl (go (w := (23, [.ref l0, .int l1, .int l2], [.ref l0], h1)) r102_22 rfl rfl (E_gR r102_23 rfl (fun x3 => go (w := (27, [.ref l0, .int l1, .int l2], [.ref l0, .ref x3], h1)) r102_26 rfl rfl (E_gR r102_27 rfl (fun x4 => go (w := (31, [.ref l0, .int l1, .int l2], [.ref l0, .ref x4, .ref x3], h1)) r102_30 rfl rfl (E_gR r102_31 rfl (fun x5 => go (w := (35, [.ref l0, .int l1, .int l2], [.int l1, .ref x5, .ref x4, .ref x3], h1)) r102_34 rfl rfl (E_aR r102_35 (fun x6 => go (w := (37, [.ref l0, .int l1, .int l2], [.int l2, .ref x6, .ref x4, .ref x3], h1)) r102_36 rfl rfl (E_vV r102_37 (As := [.ref x3, .ref x4, .ref x6, .int l2]) (rest := []) (cut_n mi78.1 rfl rfl) (rm8_n mi78.2.1 (Nat.le_of_ble_eq_true rfl) (Nat.le_of_ble_eq_true rfl)) mi78.2.2 (fun h7 => go (w := (41, [.ref l0, .int l1, .int l2], [.ref l0], h7)) r102_40 rfl rfl (E_gR r102_41 rfl (fun x9 => E_gI r102_44 rfl (fun x10 => E_ri r102_47 (mq102))))))))))))))) (E_ic r102_20 (v := (-1)) (by decide) (E_ri r102_21 (mq102))))))))))))
-- 103 SecondNearest.follows(II)I
theorem mq103 : mRet 103 = (some .int) := by decide +kernel
theorem r103_0 : rowAt 103 0 = some (.aload_n 0, 1, 0, 0) := by decide +kernel
theorem r103_1 : rowAt 103 1 = some (.iload_n 1, 1, 0, 0) := by decide +kernel
theorem r103_2 : rowAt 103 2 = some (.invokevirtual 166, 3, 119, 0) := by decide +kernel
theorem r103_5 : rowAt 103 5 = some (.ifCond .eq 14, 3, 0, 0) := by decide +kernel
theorem r103_8 : rowAt 103 8 = some (.aload_n 0, 1, 0, 0) := by decide +kernel
theorem r103_9 : rowAt 103 9 = some (.getfield 19, 3, 8, 1) := by decide +kernel
theorem r103_12 : rowAt 103 12 = some (.iload_n 2, 1, 0, 0) := by decide +kernel
theorem r103_13 : rowAt 103 13 = some (.invokevirtual 116, 3, 53, 0) := by decide +kernel
theorem r103_16 : rowAt 103 16 = some (.ifCond .ne 5, 3, 0, 0) := by decide +kernel
theorem r103_19 : rowAt 103 19 = some (.iconst (-1), 1, 0, 0) := by decide +kernel
theorem r103_20 : rowAt 103 20 = some (.ireturn, 1, 0, 0) := by decide +kernel
theorem r103_21 : rowAt 103 21 = some (.aload_n 0, 1, 0, 0) := by decide +kernel
theorem r103_22 : rowAt 103 22 = some (.getfield 67, 3, 8, 8) := by decide +kernel
theorem r103_25 : rowAt 103 25 = some (.aload_n 0, 1, 0, 0) := by decide +kernel
theorem r103_26 : rowAt 103 26 = some (.getfield 19, 3, 8, 1) := by decide +kernel
theorem r103_29 : rowAt 103 29 = some (.aload_n 0, 1, 0, 0) := by decide +kernel
theorem r103_30 : rowAt 103 30 = some (.getfield 46, 3, 8, 5) := by decide +kernel
theorem r103_33 : rowAt 103 33 = some (.iload_n 1, 1, 0, 0) := by decide +kernel
theorem r103_34 : rowAt 103 34 = some (.aaload, 1, 0, 0) := by decide +kernel
theorem r103_35 : rowAt 103 35 = some (.invokevirtual 176, 3, 80, 0) := by decide +kernel
theorem r103_38 : rowAt 103 38 = some (.aload_n 0, 1, 0, 0) := by decide +kernel
theorem r103_39 : rowAt 103 39 = some (.getfield 67, 3, 8, 8) := by decide +kernel
theorem r103_42 : rowAt 103 42 = some (.getfield 180, 3, 7, 6) := by decide +kernel
theorem r103_45 : rowAt 103 45 = some (.iload_n 2, 1, 0, 0) := by decide +kernel
theorem r103_46 : rowAt 103 46 = some (.iaload, 1, 0, 0) := by decide +kernel
theorem r103_47 : rowAt 103 47 = some (.istore_n 3, 1, 0, 0) := by decide +kernel
theorem r103_48 : rowAt 103 48 = some (.iload_n 3, 1, 0, 0) := by decide +kernel
theorem r103_49 : rowAt 103 49 = some (.ifCond .ge 8, 3, 0, 0) := by decide +kernel
theorem r103_52 : rowAt 103 52 = some (.bipush (-2), 2, 0, 0) := by decide +kernel
theorem r103_54 : rowAt 103 54 = some (.goto 4, 3, 0, 0) := by decide +kernel
theorem r103_57 : rowAt 103 57 = some (.iload_n 3, 1, 0, 0) := by decide +kernel
theorem r103_58 : rowAt 103 58 = some (.ireturn, 1, 0, 0) := by decide +kernel
theorem en103 (a0 : Nat) (a1 : Int32) (a2 : Int32) : iniL 103 [.ref a0, .int a1, .int a2] = [.ref a0, .int a1, .int a2, .null] := ini_n mi103 rfl
theorem b103_0 (d : Nat) (l0 : Nat) (l1 : Int32) (l2 : Int32) (h : aH) (K : Option Value → aH → Prop) : E scr false (d + 1) 103 0 [.ref l0, .int l1, .int l2, .null] [] h K = vI scr d 119 [.ref l0, .int l1] h (fun (x2 : Int32) (h1 : aH) => (if x2 = 0 then K (some (.int (-1))) h1 else gR scr h1 l0 8 1 (fun x3 : Nat => vI scr d 53 [.ref x3, .int l2] h1 (fun (x5 : Int32) (h4 : aH) => (if x5 = 0 then K (some (.int (-1))) h4 else gR scr h4 l0 8 8 (fun x6 : Nat => gR scr h4 l0 8 1 (fun x7 : Nat => gR scr h4 l0 8 5 (fun x8 : Nat => aR h4 x8 l1 (fun x9 : Nat => vV scr d 80 [.ref x6, .ref x7, .ref x9] h4 (fun h10 : aH => gR scr h10 l0 8 8 (fun x12 : Nat => gR scr h10 x12 7 6 (fun x13 : Nat => aI scr h10 x13 l2 (fun x14 : Int32 => (if 0 ≤ x14 then K (some (.int x14)) h10 else K (some (.int (-2))) h10)))))))))))))) := go (w := (1, [.ref l0, .int l1, .int l2, .null], [.ref l0], h)) r103_0 rfl rfl (go (w := (2, [.ref l0, .int l1, .int l2, .null], [.int l1, .ref l0], h)) r103_1 rfl rfl (E_vI r103_2 (As := [.ref l0, .int l1]) (rest := []) (cut_n mi119.1 rfl rfl) (rm8_n mi119.2.1 (Nat.le_of_ble_eq_true rfl) (Nat.le_of_ble_eq_true rfl)) mi119.2.2 (fun x2 h1 => E_i1_eq r103_5 rfl (E_ic r103_19 (v := (-1)) (by decide) (E_ri r103_20 (mq103))) (go (w := (9, [.ref l0, .int l1, .int l2, .null], [.ref l0], h1)) r103_8 rfl rfl (E_gR r103_9 rfl (fun x3 => go (w := (13, [.ref l0, .int l1, .int l2, .null], [.int l2, .ref x3], h1)) r103_12 rfl rfl (E_vI r103_13 (As := [.ref x3, .int l2]) (rest := []) (cut_n mi53.1 rfl rfl) (rm8_n mi53.2.1 (Nat.le_of_ble_eq_true rfl) (Nat.le_of_ble_eq_true rfl)) mi53.2.2 (fun x5 h4 => E_i1_ne r103_16 rfl (go (w := (22, [.ref l0, .int l1, .int l2, .null], [.ref l0], h4)) r103_21 rfl rfl (E_gR r103_22 rfl (fun x6 => go (w := (26, [.ref l0, .int l1, .int l2, .null], [.ref l0, .ref x6], h4)) r103_25 rfl rfl (E_gR r103_26 rfl (fun x7 => go (w := (30, [.ref l0, .int l1, .int l2, .null], [.ref l0, .ref x7, .ref x6], h4)) r103_29 rfl rfl (E_gR r103_30 rfl (fun x8 => go (w := (34, [.ref l0, .int l1, .int l2, .null], [.int l1, .ref x8, .ref x7, .ref x6], h4)) r103_33 rfl rfl (E_aR r103_34 (fun x9 => E_vV r103_35 (As := [.ref x6, .ref x7, .ref x9]) (rest := []) (cut_n mi80.1 rfl rfl) (rm8_n mi80.2.1 (Nat.le_of_ble_eq_true rfl) (Nat.le_of_ble_eq_true rfl)) mi80.2.2 (fun h10 => go (w := (39, [.ref l0, .int l1, .int l2, .null], [.ref l0], h10)) r103_38 rfl rfl (E_gR r103_39 rfl (fun x12 => E_gR r103_42 rfl (fun x13 => go (w := (46, [.ref l0, .int l1, .int l2, .null], [.int l2, .ref x13], h10)) r103_45 rfl rfl (E_aI r103_46 (fun x14 => go (w := (48, [.ref l0, .int l1, .int l2, .int x14], [], h10)) r103_47 rfl rfl (go (w := (49, [.ref l0, .int l1, .int l2, .int x14], [.int x14], h10)) r103_48 rfl rfl (E_i1_ge r103_49 rfl (go (w := (58, [.ref l0, .int l1, .int l2, .int x14], [.int x14], h10)) r103_57 rfl rfl (E_ri r103_58 (mq103))) (E_bip r103_52 (v := (-2)) (by decide) (E_gt r103_54 rfl (E_ri r103_58 (mq103))))))))))))))))))))) (E_ic r103_19 (v := (-1)) (by decide) (E_ri r103_20 (mq103)))))))))))
-- 104 SecondNearest.ahead(III)I
theorem mq104 : mRet 104 = (some .int) := by decide +kernel
theorem r104_0 : rowAt 104 0 = some (.aload_n 0, 1, 0, 0) := by decide +kernel
theorem r104_1 : rowAt 104 1 = some (.iload_n 1, 1, 0, 0) := by decide +kernel
theorem r104_2 : rowAt 104 2 = some (.invokevirtual 166, 3, 119, 0) := by decide +kernel
theorem r104_5 : rowAt 104 5 = some (.ifCond .eq 18, 3, 0, 0) := by decide +kernel
theorem r104_8 : rowAt 104 8 = some (.iload_n 2, 1, 0, 0) := by decide +kernel
theorem r104_9 : rowAt 104 9 = some (.ifCond .lt 14, 3, 0, 0) := by decide +kernel
theorem r104_12 : rowAt 104 12 = some (.iload_n 2, 1, 0, 0) := by decide +kernel
theorem r104_13 : rowAt 104 13 = some (.sipush 200, 3, 0, 0) := by decide +kernel
theorem r104_16 : rowAt 104 16 = some (.if_icmp .gt 7, 3, 0, 0) := by decide +kernel
theorem r104_19 : rowAt 104 19 = some (.iload_n 3, 1, 0, 0) := by decide +kernel
theorem r104_20 : rowAt 104 20 = some (.ifCond .ge 5, 3, 0, 0) := by decide +kernel
theorem r104_23 : rowAt 104 23 = some (.iconst (-1), 1, 0, 0) := by decide +kernel
theorem r104_24 : rowAt 104 24 = some (.ireturn, 1, 0, 0) := by decide +kernel
theorem r104_25 : rowAt 104 25 = some (.iload_n 3, 1, 0, 0) := by decide +kernel
theorem r104_26 : rowAt 104 26 = some (.iconst 1, 1, 0, 0) := by decide +kernel
theorem r104_27 : rowAt 104 27 = some (.if_icmp .le 18, 3, 0, 0) := by decide +kernel
theorem r104_30 : rowAt 104 30 = some (.aload_n 0, 1, 0, 0) := by decide +kernel
theorem r104_31 : rowAt 104 31 = some (.getfield 19, 3, 8, 1) := by decide +kernel
theorem r104_34 : rowAt 104 34 = some (.iload_n 3, 1, 0, 0) := by decide +kernel
theorem r104_35 : rowAt 104 35 = some (.iconst 2, 1, 0, 0) := by decide +kernel
theorem r104_36 : rowAt 104 36 = some (.isub, 1, 0, 0) := by decide +kernel
theorem r104_37 : rowAt 104 37 = some (.invokevirtual 116, 3, 53, 0) := by decide +kernel
theorem r104_40 : rowAt 104 40 = some (.ifCond .ne 5, 3, 0, 0) := by decide +kernel
theorem r104_43 : rowAt 104 43 = some (.iconst (-1), 1, 0, 0) := by decide +kernel
theorem r104_44 : rowAt 104 44 = some (.ireturn, 1, 0, 0) := by decide +kernel
theorem r104_45 : rowAt 104 45 = some (.aload_n 0, 1, 0, 0) := by decide +kernel
theorem r104_46 : rowAt 104 46 = some (.getfield 76, 3, 8, 9) := by decide +kernel
theorem r104_49 : rowAt 104 49 = some (.aload_n 0, 1, 0, 0) := by decide +kernel
theorem r104_50 : rowAt 104 50 = some (.getfield 46, 3, 8, 5) := by decide +kernel
theorem r104_53 : rowAt 104 53 = some (.iload_n 1, 1, 0, 0) := by decide +kernel
theorem r104_54 : rowAt 104 54 = some (.aaload, 1, 0, 0) := by decide +kernel
theorem r104_55 : rowAt 104 55 = some (.iload_n 2, 1, 0, 0) := by decide +kernel
theorem r104_56 : rowAt 104 56 = some (.iload_n 3, 1, 0, 0) := by decide +kernel
theorem r104_57 : rowAt 104 57 = some (.invokevirtual 183, 3, 27, 0) := by decide +kernel
theorem r104_60 : rowAt 104 60 = some (.ireturn, 1, 0, 0) := by decide +kernel
theorem en104 (a0 : Nat) (a1 : Int32) (a2 : Int32) (a3 : Int32) : iniL 104 [.ref a0, .int a1, .int a2, .int a3] = [.ref a0, .int a1, .int a2, .int a3] := ini_n mi104 rfl
theorem b104_0 (d : Nat) (l0 : Nat) (l1 : Int32) (l2 : Int32) (l3 : Int32) (h : aH) (K : Option Value → aH → Prop) : E scr false (d + 1) 104 0 [.ref l0, .int l1, .int l2, .int l3] [] h K = vI scr d 119 [.ref l0, .int l1] h (fun (x2 : Int32) (h1 : aH) => (if x2 = 0 then K (some (.int (-1))) h1 else (if l2 < 0 then K (some (.int (-1))) h1 else (if 200 < l2 then K (some (.int (-1))) h1 else (if 0 ≤ l3 then (if l3 ≤ 1 then E scr false (d + 1) 104 45 [.ref l0, .int l1, .int l2, .int l3] [] h1 K else gR scr h1 l0 8 1 (fun x3 : Nat => vI scr d 53 [.ref x3, .int (l3 - 2)] h1 (fun (x5 : Int32) (h4 : aH) => (if x5 = 0 then K (some (.int (-1))) h4 else E scr false (d + 1) 104 45 [.ref l0, .int l1, .int l2, .int l3] [] h4 K)))) else K (some (.int (-1))) h1))))) := go (w := (1, [.ref l0, .int l1, .int l2, .int l3], [.ref l0], h)) r104_0 rfl rfl (go (w := (2, [.ref l0, .int l1, .int l2, .int l3], [.int l1, .ref l0], h)) r104_1 rfl rfl (E_vI r104_2 (As := [.ref l0, .int l1]) (rest := []) (cut_n mi119.1 rfl rfl) (rm8_n mi119.2.1 (Nat.le_of_ble_eq_true rfl) (Nat.le_of_ble_eq_true rfl)) mi119.2.2 (fun x2 h1 => E_i1_eq r104_5 rfl (E_ic r104_23 (v := (-1)) (by decide) (E_ri r104_24 (mq104))) (go (w := (9, [.ref l0, .int l1, .int l2, .int l3], [.int l2], h1)) r104_8 rfl rfl (E_i1_lt r104_9 rfl (E_ic r104_23 (v := (-1)) (by decide) (E_ri r104_24 (mq104))) (go (w := (13, [.ref l0, .int l1, .int l2, .int l3], [.int l2], h1)) r104_12 rfl rfl (E_sip r104_13 (v := 200) (by decide) (E_i2_gt r104_16 rfl (E_ic r104_23 (v := (-1)) (by decide) (E_ri r104_24 (mq104))) (go (w := (20, [.ref l0, .int l1, .int l2, .int l3], [.int l3], h1)) r104_19 rfl rfl (E_i1_ge r104_20 rfl (go (w := (26, [.ref l0, .int l1, .int l2, .int l3], [.int l3], h1)) r104_25 rfl rfl (E_ic r104_26 (v := 1) (by decide) (E_i2_le r104_27 rfl (rfl) (go (w := (31, [.ref l0, .int l1, .int l2, .int l3], [.ref l0], h1)) r104_30 rfl rfl (E_gR r104_31 rfl (fun x3 => go (w := (35, [.ref l0, .int l1, .int l2, .int l3], [.int l3, .ref x3], h1)) r104_34 rfl rfl (E_ic r104_35 (v := 2) (by decide) (go (w := (37, [.ref l0, .int l1, .int l2, .int l3], [.int (l3 - 2), .ref x3], h1)) r104_36 rfl rfl (E_vI r104_37 (As := [.ref x3, .int (l3 - 2)]) (rest := []) (cut_n mi53.1 rfl rfl) (rm8_n mi53.2.1 (Nat.le_of_ble_eq_true rfl) (Nat.le_of_ble_eq_true rfl)) mi53.2.2 (fun x5 h4 => E_i1_ne r104_40 rfl (rfl) (E_ic r104_43 (v := (-1)) (by decide) (E_ri r104_44 (mq104))))))))))))) (E_ic r104_23 (v := (-1)) (by decide) (E_ri r104_24 (mq104)))))))))))))
theorem b104_45 (d : Nat) (l0 : Nat) (l1 : Int32) (l2 : Int32) (l3 : Int32) (h : aH) (K : Option Value → aH → Prop) : E scr false (d + 1) 104 45 [.ref l0, .int l1, .int l2, .int l3] [] h K = gR scr h l0 8 9 (fun x1 : Nat => gR scr h l0 8 5 (fun x2 : Nat => aR h x2 l1 (fun x3 : Nat => vI scr d 27 [.ref x1, .ref x3, .int l2, .int l3] h (fun (x5 : Int32) (h4 : aH) => K (some (.int x5)) h4)))) := go (w := (46, [.ref l0, .int l1, .int l2, .int l3], [.ref l0], h)) r104_45 rfl rfl (E_gR r104_46 rfl (fun x1 => go (w := (50, [.ref l0, .int l1, .int l2, .int l3], [.ref l0, .ref x1], h)) r104_49 rfl rfl (E_gR r104_50 rfl (fun x2 => go (w := (54, [.ref l0, .int l1, .int l2, .int l3], [.int l1, .ref x2, .ref x1], h)) r104_53 rfl rfl (E_aR r104_54 (fun x3 => go (w := (56, [.ref l0, .int l1, .int l2, .int l3], [.int l2, .ref x3, .ref x1], h)) r104_55 rfl rfl (go (w := (57, [.ref l0, .int l1, .int l2, .int l3], [.int l3, .int l2, .ref x3, .ref x1], h)) r104_56 rfl rfl (E_vI r104_57 (As := [.ref x1, .ref x3, .int l2, .int l3]) (rest := []) (cut_n mi27.1 rfl rfl) (rm8_n mi27.2.1 (Nat.le_of_ble_eq_true rfl) (Nat.le_of_ble_eq_true rfl)) mi27.2.2 (fun x5 h4 => E_ri r104_60 (mq104))))))))))
-- 105 SecondNearest.round(II)I
theorem mq105 : mRet 105 = (some .int) := by decide +kernel
theorem r105_0 : rowAt 105 0 = some (.aload_n 0, 1, 0, 0) := by decide +kernel
theorem r105_1 : rowAt 105 1 = some (.iload_n 1, 1, 0, 0) := by decide +kernel
theorem r105_2 : rowAt 105 2 = some (.invokevirtual 166, 3, 119, 0) := by decide +kernel
theorem r105_5 : rowAt 105 5 = some (.ifCond .eq 12, 3, 0, 0) := by decide +kernel
theorem r105_8 : rowAt 105 8 = some (.iload_n 2, 1, 0, 0) := by decide +kernel
theorem r105_9 : rowAt 105 9 = some (.ifCond .lt 8, 3, 0, 0) := by decide +kernel
theorem r105_12 : rowAt 105 12 = some (.iload_n 2, 1, 0, 0) := by decide +kernel
theorem r105_13 : rowAt 105 13 = some (.iconst 1, 1, 0, 0) := by decide +kernel
theorem r105_14 : rowAt 105 14 = some (.if_icmp .le 5, 3, 0, 0) := by decide +kernel
theorem r105_17 : rowAt 105 17 = some (.iconst (-1), 1, 0, 0) := by decide +kernel
theorem r105_18 : rowAt 105 18 = some (.ireturn, 1, 0, 0) := by decide +kernel
theorem r105_19 : rowAt 105 19 = some (.aload_n 0, 1, 0, 0) := by decide +kernel
theorem r105_20 : rowAt 105 20 = some (.getfield 76, 3, 8, 9) := by decide +kernel
theorem r105_23 : rowAt 105 23 = some (.aload_n 0, 1, 0, 0) := by decide +kernel
theorem r105_24 : rowAt 105 24 = some (.getfield 46, 3, 8, 5) := by decide +kernel
theorem r105_27 : rowAt 105 27 = some (.iload_n 1, 1, 0, 0) := by decide +kernel
theorem r105_28 : rowAt 105 28 = some (.aaload, 1, 0, 0) := by decide +kernel
theorem r105_29 : rowAt 105 29 = some (.iload_n 2, 1, 0, 0) := by decide +kernel
theorem r105_30 : rowAt 105 30 = some (.invokevirtual 187, 3, 28, 0) := by decide +kernel
theorem r105_33 : rowAt 105 33 = some (.ireturn, 1, 0, 0) := by decide +kernel
theorem en105 (a0 : Nat) (a1 : Int32) (a2 : Int32) : iniL 105 [.ref a0, .int a1, .int a2] = [.ref a0, .int a1, .int a2] := ini_n mi105 rfl
theorem b105_0 (d : Nat) (l0 : Nat) (l1 : Int32) (l2 : Int32) (h : aH) (K : Option Value → aH → Prop) : E scr false (d + 1) 105 0 [.ref l0, .int l1, .int l2] [] h K = vI scr d 119 [.ref l0, .int l1] h (fun (x2 : Int32) (h1 : aH) => (if x2 = 0 then K (some (.int (-1))) h1 else (if l2 < 0 then K (some (.int (-1))) h1 else (if l2 ≤ 1 then gR scr h1 l0 8 9 (fun x3 : Nat => gR scr h1 l0 8 5 (fun x4 : Nat => aR h1 x4 l1 (fun x5 : Nat => vI scr d 28 [.ref x3, .ref x5, .int l2] h1 (fun (x7 : Int32) (h6 : aH) => K (some (.int x7)) h6)))) else K (some (.int (-1))) h1)))) := go (w := (1, [.ref l0, .int l1, .int l2], [.ref l0], h)) r105_0 rfl rfl (go (w := (2, [.ref l0, .int l1, .int l2], [.int l1, .ref l0], h)) r105_1 rfl rfl (E_vI r105_2 (As := [.ref l0, .int l1]) (rest := []) (cut_n mi119.1 rfl rfl) (rm8_n mi119.2.1 (Nat.le_of_ble_eq_true rfl) (Nat.le_of_ble_eq_true rfl)) mi119.2.2 (fun x2 h1 => E_i1_eq r105_5 rfl (E_ic r105_17 (v := (-1)) (by decide) (E_ri r105_18 (mq105))) (go (w := (9, [.ref l0, .int l1, .int l2], [.int l2], h1)) r105_8 rfl rfl (E_i1_lt r105_9 rfl (E_ic r105_17 (v := (-1)) (by decide) (E_ri r105_18 (mq105))) (go (w := (13, [.ref l0, .int l1, .int l2], [.int l2], h1)) r105_12 rfl rfl (E_ic r105_13 (v := 1) (by decide) (E_i2_le r105_14 rfl (go (w := (20, [.ref l0, .int l1, .int l2], [.ref l0], h1)) r105_19 rfl rfl (E_gR r105_20 rfl (fun x3 => go (w := (24, [.ref l0, .int l1, .int l2], [.ref l0, .ref x3], h1)) r105_23 rfl rfl (E_gR r105_24 rfl (fun x4 => go (w := (28, [.ref l0, .int l1, .int l2], [.int l1, .ref x4, .ref x3], h1)) r105_27 rfl rfl (E_aR r105_28 (fun x5 => go (w := (30, [.ref l0, .int l1, .int l2], [.int l2, .ref x5, .ref x3], h1)) r105_29 rfl rfl (E_vI r105_30 (As := [.ref x3, .ref x5, .int l2]) (rest := []) (cut_n mi28.1 rfl rfl) (rm8_n mi28.2.1 (Nat.le_of_ble_eq_true rfl) (Nat.le_of_ble_eq_true rfl)) mi28.2.2 (fun x7 h6 => E_ri r105_33 (mq105)))))))))) (E_ic r105_17 (v := (-1)) (by decide) (E_ri r105_18 (mq105)))))))))))
-- 106 SecondNearest.files(II)I
theorem mq106 : mRet 106 = (some .int) := by decide +kernel
theorem r106_0 : rowAt 106 0 = some (.aload_n 0, 1, 0, 0) := by decide +kernel
theorem r106_1 : rowAt 106 1 = some (.iload_n 1, 1, 0, 0) := by decide +kernel
theorem r106_2 : rowAt 106 2 = some (.invokevirtual 166, 3, 119, 0) := by decide +kernel
theorem r106_5 : rowAt 106 5 = some (.ifCond .eq 12, 3, 0, 0) := by decide +kernel
theorem r106_8 : rowAt 106 8 = some (.iload_n 2, 1, 0, 0) := by decide +kernel
theorem r106_9 : rowAt 106 9 = some (.ifCond .lt 8, 3, 0, 0) := by decide +kernel
theorem r106_12 : rowAt 106 12 = some (.iload_n 2, 1, 0, 0) := by decide +kernel
theorem r106_13 : rowAt 106 13 = some (.iconst 2, 1, 0, 0) := by decide +kernel
theorem r106_14 : rowAt 106 14 = some (.if_icmp .le 5, 3, 0, 0) := by decide +kernel
theorem r106_17 : rowAt 106 17 = some (.iconst (-1), 1, 0, 0) := by decide +kernel
theorem r106_18 : rowAt 106 18 = some (.ireturn, 1, 0, 0) := by decide +kernel
theorem r106_19 : rowAt 106 19 = some (.aload_n 0, 1, 0, 0) := by decide +kernel
theorem r106_20 : rowAt 106 20 = some (.getfield 67, 3, 8, 8) := by decide +kernel
theorem r106_23 : rowAt 106 23 = some (.aload_n 0, 1, 0, 0) := by decide +kernel
theorem r106_24 : rowAt 106 24 = some (.getfield 19, 3, 8, 1) := by decide +kernel
theorem r106_27 : rowAt 106 27 = some (.aload_n 0, 1, 0, 0) := by decide +kernel
theorem r106_28 : rowAt 106 28 = some (.getfield 46, 3, 8, 5) := by decide +kernel
theorem r106_31 : rowAt 106 31 = some (.iload_n 1, 1, 0, 0) := by decide +kernel
theorem r106_32 : rowAt 106 32 = some (.aaload, 1, 0, 0) := by decide +kernel
theorem r106_33 : rowAt 106 33 = some (.invokevirtual 176, 3, 80, 0) := by decide +kernel
theorem r106_36 : rowAt 106 36 = some (.iload_n 2, 1, 0, 0) := by decide +kernel
theorem r106_37 : rowAt 106 37 = some (.ifCond .ne 11, 3, 0, 0) := by decide +kernel
theorem r106_40 : rowAt 106 40 = some (.aload_n 0, 1, 0, 0) := by decide +kernel
theorem r106_41 : rowAt 106 41 = some (.getfield 76, 3, 8, 9) := by decide +kernel
theorem r106_44 : rowAt 106 44 = some (.invokevirtual 191, 3, 31, 0) := by decide +kernel
theorem r106_47 : rowAt 106 47 = some (.ireturn, 1, 0, 0) := by decide +kernel
theorem r106_48 : rowAt 106 48 = some (.aload_n 0, 1, 0, 0) := by decide +kernel
theorem r106_49 : rowAt 106 49 = some (.getfield 76, 3, 8, 9) := by decide +kernel
theorem r106_52 : rowAt 106 52 = some (.iload_n 2, 1, 0, 0) := by decide +kernel
theorem r106_53 : rowAt 106 53 = some (.iconst 2, 1, 0, 0) := by decide +kernel
theorem r106_54 : rowAt 106 54 = some (.if_icmp .ne 7, 3, 0, 0) := by decide +kernel
theorem r106_57 : rowAt 106 57 = some (.iconst 1, 1, 0, 0) := by decide +kernel
theorem r106_58 : rowAt 106 58 = some (.goto 4, 3, 0, 0) := by decide +kernel
theorem r106_61 : rowAt 106 61 = some (.iconst 0, 1, 0, 0) := by decide +kernel
theorem r106_62 : rowAt 106 62 = some (.invokevirtual 194, 3, 32, 0) := by decide +kernel
theorem r106_65 : rowAt 106 65 = some (.ireturn, 1, 0, 0) := by decide +kernel
theorem en106 (a0 : Nat) (a1 : Int32) (a2 : Int32) : iniL 106 [.ref a0, .int a1, .int a2] = [.ref a0, .int a1, .int a2] := ini_n mi106 rfl
theorem b106_0 (d : Nat) (l0 : Nat) (l1 : Int32) (l2 : Int32) (h : aH) (K : Option Value → aH → Prop) : E scr false (d + 1) 106 0 [.ref l0, .int l1, .int l2] [] h K = vI scr d 119 [.ref l0, .int l1] h (fun (x2 : Int32) (h1 : aH) => (if x2 = 0 then K (some (.int (-1))) h1 else (if l2 < 0 then K (some (.int (-1))) h1 else (if l2 ≤ 2 then gR scr h1 l0 8 8 (fun x3 : Nat => gR scr h1 l0 8 1 (fun x4 : Nat => gR scr h1 l0 8 5 (fun x5 : Nat => aR h1 x5 l1 (fun x6 : Nat => vV scr d 80 [.ref x3, .ref x4, .ref x6] h1 (fun h7 : aH => (if l2 = 0 then gR scr h7 l0 8 9 (fun x10 : Nat => vI scr d 31 [.ref x10] h7 (fun (x12 : Int32) (h11 : aH) => K (some (.int x12)) h11)) else gR scr h7 l0 8 9 (fun x9 : Nat => (if l2 = 2 then E scr false (d + 1) 106 62 [.ref l0, .int l1, .int l2] [.int 1, .ref x9] h7 K else E scr false (d + 1) 106 62 [.ref l0, .int l1, .int l2] [.int 0, .ref x9] h7 K)))))))) else K (some (.int (-1))) h1)))) := go (w := (1, [.ref l0, .int l1, .int l2], [.ref l0], h)) r106_0 rfl rfl (go (w := (2, [.ref l0, .int l1, .int l2], [.int l1, .ref l0], h)) r106_1 rfl rfl (E_vI r106_2 (As := [.ref l0, .int l1]) (rest := []) (cut_n mi119.1 rfl rfl) (rm8_n mi119.2.1 (Nat.le_of_ble_eq_true rfl) (Nat.le_of_ble_eq_true rfl)) mi119.2.2 (fun x2 h1 => E_i1_eq r106_5 rfl (E_ic r106_17 (v := (-1)) (by decide) (E_ri r106_18 (mq106))) (go (w := (9, [.ref l0, .int l1, .int l2], [.int l2], h1)) r106_8 rfl rfl (E_i1_lt r106_9 rfl (E_ic r106_17 (v := (-1)) (by decide) (E_ri r106_18 (mq106))) (go (w := (13, [.ref l0, .int l1, .int l2], [.int l2], h1)) r106_12 rfl rfl (E_ic r106_13 (v := 2) (by decide) (E_i2_le r106_14 rfl (go (w := (20, [.ref l0, .int l1, .int l2], [.ref l0], h1)) r106_19 rfl rfl (E_gR r106_20 rfl (fun x3 => go (w := (24, [.ref l0, .int l1, .int l2], [.ref l0, .ref x3], h1)) r106_23 rfl rfl (E_gR r106_24 rfl (fun x4 => go (w := (28, [.ref l0, .int l1, .int l2], [.ref l0, .ref x4, .ref x3], h1)) r106_27 rfl rfl (E_gR r106_28 rfl (fun x5 => go (w := (32, [.ref l0, .int l1, .int l2], [.int l1, .ref x5, .ref x4, .ref x3], h1)) r106_31 rfl rfl (E_aR r106_32 (fun x6 => E_vV r106_33 (As := [.ref x3, .ref x4, .ref x6]) (rest := []) (cut_n mi80.1 rfl rfl) (rm8_n mi80.2.1 (Nat.le_of_ble_eq_true rfl) (Nat.le_of_ble_eq_true rfl)) mi80.2.2 (fun h7 => go (w := (37, [.ref l0, .int l1, .int l2], [.int l2], h7)) r106_36 rfl rfl (E_i1_ne r106_37 rfl (go (w := (49, [.ref l0, .int l1, .int l2], [.ref l0], h7)) r106_48 rfl rfl (E_gR r106_49 rfl (fun x9 => go (w := (53, [.ref l0, .int l1, .int l2], [.int l2, .ref x9], h7)) r106_52 rfl rfl (E_ic r106_53 (v := 2) (by decide) (E_i2_ne r106_54 rfl (E_ic r106_61 (v := 0) (by decide) (rfl)) (E_ic r106_57 (v := 1) (by decide) (E_gt r106_58 rfl (rfl)))))))) (go (w := (41, [.ref l0, .int l1, .int l2], [.ref l0], h7)) r106_40 rfl rfl (E_gR r106_41 rfl (fun x10 => E_vI r106_44 (As := [.ref x10]) (rest := []) (cut_n mi31.1 rfl rfl) (rm8_n mi31.2.1 (Nat.le_of_ble_eq_true rfl) (Nat.le_of_ble_eq_true rfl)) mi31.2.2 (fun x12 h11 => E_ri r106_47 (mq106)))))))))))))))) (E_ic r106_17 (v := (-1)) (by decide) (E_ri r106_18 (mq106)))))))))))
theorem b106_62 (d : Nat) (l0 : Nat) (l1 : Int32) (l2 : Int32) (s0 : Int32) (s1 : Nat) (h : aH) (K : Option Value → aH → Prop) : E scr false (d + 1) 106 62 [.ref l0, .int l1, .int l2] [.int s0, .ref s1] h K = vI scr d 32 [.ref s1, .int s0] h (fun (x2 : Int32) (h1 : aH) => K (some (.int x2)) h1) := E_vI r106_62 (As := [.ref s1, .int s0]) (rest := []) (cut_n mi32.1 rfl rfl) (rm8_n mi32.2.1 (Nat.le_of_ble_eq_true rfl) (Nat.le_of_ble_eq_true rfl)) mi32.2.2 (fun x2 h1 => E_ri r106_65 (mq106))
-- 107 SecondNearest.without(III)I
theorem mq107 : mRet 107 = (some .int) := by decide +kernel
theorem r107_0 : rowAt 107 0 = some (.aload_n 0, 1, 0, 0) := by decide +kernel
theorem r107_1 : rowAt 107 1 = some (.iload_n 1, 1, 0, 0) := by decide +kernel
theorem r107_2 : rowAt 107 2 = some (.invokevirtual 166, 3, 119, 0) := by decide +kernel
theorem r107_5 : rowAt 107 5 = some (.ifCond .eq 14, 3, 0, 0) := by decide +kernel
theorem r107_8 : rowAt 107 8 = some (.iload_n 3, 1, 0, 0) := by decide +kernel
theorem r107_9 : rowAt 107 9 = some (.ifCond .lt 10, 3, 0, 0) := by decide +kernel
theorem r107_12 : rowAt 107 12 = some (.iload_n 3, 1, 0, 0) := by decide +kernel
theorem r107_13 : rowAt 107 13 = some (.sipush 200, 3, 0, 0) := by decide +kernel
theorem r107_16 : rowAt 107 16 = some (.if_icmp .le 5, 3, 0, 0) := by decide +kernel
theorem r107_19 : rowAt 107 19 = some (.iconst (-1), 1, 0, 0) := by decide +kernel
theorem r107_20 : rowAt 107 20 = some (.ireturn, 1, 0, 0) := by decide +kernel
theorem r107_21 : rowAt 107 21 = some (.aload_n 0, 1, 0, 0) := by decide +kernel
theorem r107_22 : rowAt 107 22 = some (.getfield 19, 3, 8, 1) := by decide +kernel
theorem r107_25 : rowAt 107 25 = some (.iload_n 2, 1, 0, 0) := by decide +kernel
theorem r107_26 : rowAt 107 26 = some (.invokevirtual 149, 3, 55, 0) := by decide +kernel
theorem r107_29 : rowAt 107 29 = some (.ifCond .eq 15, 3, 0, 0) := by decide +kernel
theorem r107_32 : rowAt 107 32 = some (.aload_n 0, 1, 0, 0) := by decide +kernel
theorem r107_33 : rowAt 107 33 = some (.getfield 19, 3, 8, 1) := by decide +kernel
theorem r107_36 : rowAt 107 36 = some (.getfield 119, 3, 5, 10) := by decide +kernel
theorem r107_39 : rowAt 107 39 = some (.iload_n 2, 1, 0, 0) := by decide +kernel
theorem r107_40 : rowAt 107 40 = some (.iaload, 1, 0, 0) := by decide +kernel
theorem r107_41 : rowAt 107 41 = some (.ifCond .ge 5, 3, 0, 0) := by decide +kernel
theorem r107_44 : rowAt 107 44 = some (.iconst (-1), 1, 0, 0) := by decide +kernel
theorem r107_45 : rowAt 107 45 = some (.ireturn, 1, 0, 0) := by decide +kernel
theorem r107_46 : rowAt 107 46 = some (.aload_n 0, 1, 0, 0) := by decide +kernel
theorem r107_47 : rowAt 107 47 = some (.getfield 76, 3, 8, 9) := by decide +kernel
theorem r107_50 : rowAt 107 50 = some (.aload_n 0, 1, 0, 0) := by decide +kernel
theorem r107_51 : rowAt 107 51 = some (.getfield 46, 3, 8, 5) := by decide +kernel
theorem r107_54 : rowAt 107 54 = some (.iload_n 1, 1, 0, 0) := by decide +kernel
theorem r107_55 : rowAt 107 55 = some (.aaload, 1, 0, 0) := by decide +kernel
theorem r107_56 : rowAt 107 56 = some (.iload_n 2, 1, 0, 0) := by decide +kernel
theorem r107_57 : rowAt 107 57 = some (.iload_n 3, 1, 0, 0) := by decide +kernel
theorem r107_58 : rowAt 107 58 = some (.invokevirtual 198, 3, 34, 0) := by decide +kernel
theorem r107_61 : rowAt 107 61 = some (.ireturn, 1, 0, 0) := by decide +kernel
theorem en107 (a0 : Nat) (a1 : Int32) (a2 : Int32) (a3 : Int32) : iniL 107 [.ref a0, .int a1, .int a2, .int a3] = [.ref a0, .int a1, .int a2, .int a3] := ini_n mi107 rfl
theorem b107_0 (d : Nat) (l0 : Nat) (l1 : Int32) (l2 : Int32) (l3 : Int32) (h : aH) (K : Option Value → aH → Prop) : E scr false (d + 1) 107 0 [.ref l0, .int l1, .int l2, .int l3] [] h K = vI scr d 119 [.ref l0, .int l1] h (fun (x2 : Int32) (h1 : aH) => (if x2 = 0 then K (some (.int (-1))) h1 else (if l3 < 0 then K (some (.int (-1))) h1 else (if l3 ≤ 200 then gR scr h1 l0 8 1 (fun x3 : Nat => vI scr d 55 [.ref x3, .int l2] h1 (fun (x5 : Int32) (h4 : aH) => (if x5 = 0 then K (some (.int (-1))) h4 else gR scr h4 l0 8 1 (fun x6 : Nat => gR scr h4 x6 5 10 (fun x7 : Nat => aI scr h4 x7 l2 (fun x8 : Int32 => (if 0 ≤ x8 then gR scr h4 l0 8 9 (fun x9 : Nat => gR scr h4 l0 8 5 (fun x10 : Nat => aR h4 x10 l1 (fun x11 : Nat => vI scr d 34 [.ref x9, .ref x11, .int l2, .int l3] h4 (fun (x13 : Int32) (h12 : aH) => K (some (.int x13)) h12)))) else K (some (.int (-1))) h4))))))) else K (some (.int (-1))) h1)))) := go (w := (1, [.ref l0, .int l1, .int l2, .int l3], [.ref l0], h)) r107_0 rfl rfl (go (w := (2, [.ref l0, .int l1, .int l2, .int l3], [.int l1, .ref l0], h)) r107_1 rfl rfl (E_vI r107_2 (As := [.ref l0, .int l1]) (rest := []) (cut_n mi119.1 rfl rfl) (rm8_n mi119.2.1 (Nat.le_of_ble_eq_true rfl) (Nat.le_of_ble_eq_true rfl)) mi119.2.2 (fun x2 h1 => E_i1_eq r107_5 rfl (E_ic r107_19 (v := (-1)) (by decide) (E_ri r107_20 (mq107))) (go (w := (9, [.ref l0, .int l1, .int l2, .int l3], [.int l3], h1)) r107_8 rfl rfl (E_i1_lt r107_9 rfl (E_ic r107_19 (v := (-1)) (by decide) (E_ri r107_20 (mq107))) (go (w := (13, [.ref l0, .int l1, .int l2, .int l3], [.int l3], h1)) r107_12 rfl rfl (E_sip r107_13 (v := 200) (by decide) (E_i2_le r107_16 rfl (go (w := (22, [.ref l0, .int l1, .int l2, .int l3], [.ref l0], h1)) r107_21 rfl rfl (E_gR r107_22 rfl (fun x3 => go (w := (26, [.ref l0, .int l1, .int l2, .int l3], [.int l2, .ref x3], h1)) r107_25 rfl rfl (E_vI r107_26 (As := [.ref x3, .int l2]) (rest := []) (cut_n mi55.1 rfl rfl) (rm8_n mi55.2.1 (Nat.le_of_ble_eq_true rfl) (Nat.le_of_ble_eq_true rfl)) mi55.2.2 (fun x5 h4 => E_i1_eq r107_29 rfl (E_ic r107_44 (v := (-1)) (by decide) (E_ri r107_45 (mq107))) (go (w := (33, [.ref l0, .int l1, .int l2, .int l3], [.ref l0], h4)) r107_32 rfl rfl (E_gR r107_33 rfl (fun x6 => E_gR r107_36 rfl (fun x7 => go (w := (40, [.ref l0, .int l1, .int l2, .int l3], [.int l2, .ref x7], h4)) r107_39 rfl rfl (E_aI r107_40 (fun x8 => E_i1_ge r107_41 rfl (go (w := (47, [.ref l0, .int l1, .int l2, .int l3], [.ref l0], h4)) r107_46 rfl rfl (E_gR r107_47 rfl (fun x9 => go (w := (51, [.ref l0, .int l1, .int l2, .int l3], [.ref l0, .ref x9], h4)) r107_50 rfl rfl (E_gR r107_51 rfl (fun x10 => go (w := (55, [.ref l0, .int l1, .int l2, .int l3], [.int l1, .ref x10, .ref x9], h4)) r107_54 rfl rfl (E_aR r107_55 (fun x11 => go (w := (57, [.ref l0, .int l1, .int l2, .int l3], [.int l2, .ref x11, .ref x9], h4)) r107_56 rfl rfl (go (w := (58, [.ref l0, .int l1, .int l2, .int l3], [.int l3, .int l2, .ref x11, .ref x9], h4)) r107_57 rfl rfl (E_vI r107_58 (As := [.ref x9, .ref x11, .int l2, .int l3]) (rest := []) (cut_n mi34.1 rfl rfl) (rm8_n mi34.2.1 (Nat.le_of_ble_eq_true rfl) (Nat.le_of_ble_eq_true rfl)) mi34.2.2 (fun x13 h12 => E_ri r107_61 (mq107))))))))))) (E_ic r107_44 (v := (-1)) (by decide) (E_ri r107_45 (mq107)))))))))))))) (E_ic r107_19 (v := (-1)) (by decide) (E_ri r107_20 (mq107)))))))))))
-- 108 SecondNearest.leader(III)I
theorem mq108 : mRet 108 = (some .int) := by decide +kernel
theorem r108_0 : rowAt 108 0 = some (.aload_n 0, 1, 0, 0) := by decide +kernel
theorem r108_1 : rowAt 108 1 = some (.iload_n 1, 1, 0, 0) := by decide +kernel
theorem r108_2 : rowAt 108 2 = some (.invokevirtual 166, 3, 119, 0) := by decide +kernel
theorem r108_5 : rowAt 108 5 = some (.ifCond .eq 23, 3, 0, 0) := by decide +kernel
theorem r108_8 : rowAt 108 8 = some (.iload_n 2, 1, 0, 0) := by decide +kernel
theorem r108_9 : rowAt 108 9 = some (.ifCond .lt 19, 3, 0, 0) := by decide +kernel
theorem r108_12 : rowAt 108 12 = some (.iload_n 2, 1, 0, 0) := by decide +kernel
theorem r108_13 : rowAt 108 13 = some (.sipush 200, 3, 0, 0) := by decide +kernel
theorem r108_16 : rowAt 108 16 = some (.if_icmp .gt 12, 3, 0, 0) := by decide +kernel
theorem r108_19 : rowAt 108 19 = some (.iload_n 3, 1, 0, 0) := by decide +kernel
theorem r108_20 : rowAt 108 20 = some (.ifCond .lt 8, 3, 0, 0) := by decide +kernel
theorem r108_23 : rowAt 108 23 = some (.iload_n 3, 1, 0, 0) := by decide +kernel
theorem r108_24 : rowAt 108 24 = some (.iconst 1, 1, 0, 0) := by decide +kernel
theorem r108_25 : rowAt 108 25 = some (.if_icmp .le 5, 3, 0, 0) := by decide +kernel
theorem r108_28 : rowAt 108 28 = some (.iconst (-1), 1, 0, 0) := by decide +kernel
theorem r108_29 : rowAt 108 29 = some (.ireturn, 1, 0, 0) := by decide +kernel
theorem r108_30 : rowAt 108 30 = some (.aload_n 0, 1, 0, 0) := by decide +kernel
theorem r108_31 : rowAt 108 31 = some (.getfield 76, 3, 8, 9) := by decide +kernel
theorem r108_34 : rowAt 108 34 = some (.aload_n 0, 1, 0, 0) := by decide +kernel
theorem r108_35 : rowAt 108 35 = some (.getfield 46, 3, 8, 5) := by decide +kernel
theorem r108_38 : rowAt 108 38 = some (.iload_n 1, 1, 0, 0) := by decide +kernel
theorem r108_39 : rowAt 108 39 = some (.aaload, 1, 0, 0) := by decide +kernel
theorem r108_40 : rowAt 108 40 = some (.iload_n 2, 1, 0, 0) := by decide +kernel
theorem r108_41 : rowAt 108 41 = some (.iload_n 3, 1, 0, 0) := by decide +kernel
theorem r108_42 : rowAt 108 42 = some (.invokevirtual 201, 3, 35, 0) := by decide +kernel
theorem r108_45 : rowAt 108 45 = some (.ireturn, 1, 0, 0) := by decide +kernel
theorem en108 (a0 : Nat) (a1 : Int32) (a2 : Int32) (a3 : Int32) : iniL 108 [.ref a0, .int a1, .int a2, .int a3] = [.ref a0, .int a1, .int a2, .int a3] := ini_n mi108 rfl
theorem b108_0 (d : Nat) (l0 : Nat) (l1 : Int32) (l2 : Int32) (l3 : Int32) (h : aH) (K : Option Value → aH → Prop) : E scr false (d + 1) 108 0 [.ref l0, .int l1, .int l2, .int l3] [] h K = vI scr d 119 [.ref l0, .int l1] h (fun (x2 : Int32) (h1 : aH) => (if x2 = 0 then K (some (.int (-1))) h1 else (if l2 < 0 then K (some (.int (-1))) h1 else (if 200 < l2 then K (some (.int (-1))) h1 else (if l3 < 0 then K (some (.int (-1))) h1 else (if l3 ≤ 1 then gR scr h1 l0 8 9 (fun x3 : Nat => gR scr h1 l0 8 5 (fun x4 : Nat => aR h1 x4 l1 (fun x5 : Nat => vI scr d 35 [.ref x3, .ref x5, .int l2, .int l3] h1 (fun (x7 : Int32) (h6 : aH) => K (some (.int x7)) h6)))) else K (some (.int (-1))) h1)))))) := go (w := (1, [.ref l0, .int l1, .int l2, .int l3], [.ref l0], h)) r108_0 rfl rfl (go (w := (2, [.ref l0, .int l1, .int l2, .int l3], [.int l1, .ref l0], h)) r108_1 rfl rfl (E_vI r108_2 (As := [.ref l0, .int l1]) (rest := []) (cut_n mi119.1 rfl rfl) (rm8_n mi119.2.1 (Nat.le_of_ble_eq_true rfl) (Nat.le_of_ble_eq_true rfl)) mi119.2.2 (fun x2 h1 => E_i1_eq r108_5 rfl (E_ic r108_28 (v := (-1)) (by decide) (E_ri r108_29 (mq108))) (go (w := (9, [.ref l0, .int l1, .int l2, .int l3], [.int l2], h1)) r108_8 rfl rfl (E_i1_lt r108_9 rfl (E_ic r108_28 (v := (-1)) (by decide) (E_ri r108_29 (mq108))) (go (w := (13, [.ref l0, .int l1, .int l2, .int l3], [.int l2], h1)) r108_12 rfl rfl (E_sip r108_13 (v := 200) (by decide) (E_i2_gt r108_16 rfl (E_ic r108_28 (v := (-1)) (by decide) (E_ri r108_29 (mq108))) (go (w := (20, [.ref l0, .int l1, .int l2, .int l3], [.int l3], h1)) r108_19 rfl rfl (E_i1_lt r108_20 rfl (E_ic r108_28 (v := (-1)) (by decide) (E_ri r108_29 (mq108))) (go (w := (24, [.ref l0, .int l1, .int l2, .int l3], [.int l3], h1)) r108_23 rfl rfl (E_ic r108_24 (v := 1) (by decide) (E_i2_le r108_25 rfl (go (w := (31, [.ref l0, .int l1, .int l2, .int l3], [.ref l0], h1)) r108_30 rfl rfl (E_gR r108_31 rfl (fun x3 => go (w := (35, [.ref l0, .int l1, .int l2, .int l3], [.ref l0, .ref x3], h1)) r108_34 rfl rfl (E_gR r108_35 rfl (fun x4 => go (w := (39, [.ref l0, .int l1, .int l2, .int l3], [.int l1, .ref x4, .ref x3], h1)) r108_38 rfl rfl (E_aR r108_39 (fun x5 => go (w := (41, [.ref l0, .int l1, .int l2, .int l3], [.int l2, .ref x5, .ref x3], h1)) r108_40 rfl rfl (go (w := (42, [.ref l0, .int l1, .int l2, .int l3], [.int l3, .int l2, .ref x5, .ref x3], h1)) r108_41 rfl rfl (E_vI r108_42 (As := [.ref x3, .ref x5, .int l2, .int l3]) (rest := []) (cut_n mi35.1 rfl rfl) (rm8_n mi35.2.1 (Nat.le_of_ble_eq_true rfl) (Nat.le_of_ble_eq_true rfl)) mi35.2.2 (fun x7 h6 => E_ri r108_45 (mq108))))))))))) (E_ic r108_28 (v := (-1)) (by decide) (E_ri r108_29 (mq108))))))))))))))))
-- 109 SecondNearest.post(III)I
theorem mq109 : mRet 109 = (some .int) := by decide +kernel
theorem r109_0 : rowAt 109 0 = some (.aload_n 0, 1, 0, 0) := by decide +kernel
theorem r109_1 : rowAt 109 1 = some (.iload_n 1, 1, 0, 0) := by decide +kernel
theorem r109_2 : rowAt 109 2 = some (.invokevirtual 166, 3, 119, 0) := by decide +kernel
theorem r109_5 : rowAt 109 5 = some (.ifCond .eq 22, 3, 0, 0) := by decide +kernel
theorem r109_8 : rowAt 109 8 = some (.iload_n 2, 1, 0, 0) := by decide +kernel
theorem r109_9 : rowAt 109 9 = some (.ifCond .lt 18, 3, 0, 0) := by decide +kernel
theorem r109_12 : rowAt 109 12 = some (.iload_n 2, 1, 0, 0) := by decide +kernel
theorem r109_13 : rowAt 109 13 = some (.bipush 60, 2, 0, 0) := by decide +kernel
theorem r109_15 : rowAt 109 15 = some (.if_icmp .gt 12, 3, 0, 0) := by decide +kernel
theorem r109_18 : rowAt 109 18 = some (.iload_n 3, 1, 0, 0) := by decide +kernel
theorem r109_19 : rowAt 109 19 = some (.ifCond .lt 8, 3, 0, 0) := by decide +kernel
theorem r109_22 : rowAt 109 22 = some (.iload_n 3, 1, 0, 0) := by decide +kernel
theorem r109_23 : rowAt 109 23 = some (.iconst 1, 1, 0, 0) := by decide +kernel
theorem r109_24 : rowAt 109 24 = some (.if_icmp .le 5, 3, 0, 0) := by decide +kernel
theorem r109_27 : rowAt 109 27 = some (.iconst (-1), 1, 0, 0) := by decide +kernel
theorem r109_28 : rowAt 109 28 = some (.ireturn, 1, 0, 0) := by decide +kernel
theorem r109_29 : rowAt 109 29 = some (.aload_n 0, 1, 0, 0) := by decide +kernel
theorem r109_30 : rowAt 109 30 = some (.getfield 19, 3, 8, 1) := by decide +kernel
theorem r109_33 : rowAt 109 33 = some (.getfield 204, 3, 5, 4) := by decide +kernel
theorem r109_36 : rowAt 109 36 = some (.ifCond .ne 7, 3, 0, 0) := by decide +kernel
theorem r109_39 : rowAt 109 39 = some (.iconst (-1), 1, 0, 0) := by decide +kernel
theorem r109_40 : rowAt 109 40 = some (.goto 18, 3, 0, 0) := by decide +kernel
theorem r109_43 : rowAt 109 43 = some (.aload_n 0, 1, 0, 0) := by decide +kernel
theorem r109_44 : rowAt 109 44 = some (.getfield 76, 3, 8, 9) := by decide +kernel
theorem r109_47 : rowAt 109 47 = some (.aload_n 0, 1, 0, 0) := by decide +kernel
theorem r109_48 : rowAt 109 48 = some (.getfield 46, 3, 8, 5) := by decide +kernel
theorem r109_51 : rowAt 109 51 = some (.iload_n 1, 1, 0, 0) := by decide +kernel
theorem r109_52 : rowAt 109 52 = some (.aaload, 1, 0, 0) := by decide +kernel
theorem r109_53 : rowAt 109 53 = some (.iload_n 2, 1, 0, 0) := by decide +kernel
theorem r109_54 : rowAt 109 54 = some (.iload_n 3, 1, 0, 0) := by decide +kernel
theorem r109_55 : rowAt 109 55 = some (.invokevirtual 207, 3, 39, 0) := by decide +kernel
theorem r109_58 : rowAt 109 58 = some (.ireturn, 1, 0, 0) := by decide +kernel
theorem en109 (a0 : Nat) (a1 : Int32) (a2 : Int32) (a3 : Int32) : iniL 109 [.ref a0, .int a1, .int a2, .int a3] = [.ref a0, .int a1, .int a2, .int a3] := ini_n mi109 rfl
theorem b109_0 (d : Nat) (l0 : Nat) (l1 : Int32) (l2 : Int32) (l3 : Int32) (h : aH) (K : Option Value → aH → Prop) : E scr false (d + 1) 109 0 [.ref l0, .int l1, .int l2, .int l3] [] h K = vI scr d 119 [.ref l0, .int l1] h (fun (x2 : Int32) (h1 : aH) => (if x2 = 0 then K (some (.int (-1))) h1 else (if l2 < 0 then K (some (.int (-1))) h1 else (if 60 < l2 then K (some (.int (-1))) h1 else (if l3 < 0 then K (some (.int (-1))) h1 else (if l3 ≤ 1 then gR scr h1 l0 8 1 (fun x3 : Nat => gI scr h1 x3 5 4 (fun x4 : Int32 => (if x4 = 0 then K (some (.int (-1))) h1 else gR scr h1 l0 8 9 (fun x5 : Nat => gR scr h1 l0 8 5 (fun x6 : Nat => aR h1 x6 l1 (fun x7 : Nat => vI scr d 39 [.ref x5, .ref x7, .int l2, .int l3] h1 (fun (x9 : Int32) (h8 : aH) => K (some (.int x9)) h8))))))) else K (some (.int (-1))) h1)))))) := go (w := (1, [.ref l0, .int l1, .int l2, .int l3], [.ref l0], h)) r109_0 rfl rfl (go (w := (2, [.ref l0, .int l1, .int l2, .int l3], [.int l1, .ref l0], h)) r109_1 rfl rfl (E_vI r109_2 (As := [.ref l0, .int l1]) (rest := []) (cut_n mi119.1 rfl rfl) (rm8_n mi119.2.1 (Nat.le_of_ble_eq_true rfl) (Nat.le_of_ble_eq_true rfl)) mi119.2.2 (fun x2 h1 => E_i1_eq r109_5 rfl (E_ic r109_27 (v := (-1)) (by decide) (E_ri r109_28 (mq109))) (go (w := (9, [.ref l0, .int l1, .int l2, .int l3], [.int l2], h1)) r109_8 rfl rfl (E_i1_lt r109_9 rfl (E_ic r109_27 (v := (-1)) (by decide) (E_ri r109_28 (mq109))) (go (w := (13, [.ref l0, .int l1, .int l2, .int l3], [.int l2], h1)) r109_12 rfl rfl (E_bip r109_13 (v := 60) (by decide) (E_i2_gt r109_15 rfl (E_ic r109_27 (v := (-1)) (by decide) (E_ri r109_28 (mq109))) (go (w := (19, [.ref l0, .int l1, .int l2, .int l3], [.int l3], h1)) r109_18 rfl rfl (E_i1_lt r109_19 rfl (E_ic r109_27 (v := (-1)) (by decide) (E_ri r109_28 (mq109))) (go (w := (23, [.ref l0, .int l1, .int l2, .int l3], [.int l3], h1)) r109_22 rfl rfl (E_ic r109_23 (v := 1) (by decide) (E_i2_le r109_24 rfl (go (w := (30, [.ref l0, .int l1, .int l2, .int l3], [.ref l0], h1)) r109_29 rfl rfl (E_gR r109_30 rfl (fun x3 => E_gI r109_33 rfl (fun x4 => E_i1_ne r109_36 rfl (go (w := (44, [.ref l0, .int l1, .int l2, .int l3], [.ref l0], h1)) r109_43 rfl rfl (E_gR r109_44 rfl (fun x5 => go (w := (48, [.ref l0, .int l1, .int l2, .int l3], [.ref l0, .ref x5], h1)) r109_47 rfl rfl (E_gR r109_48 rfl (fun x6 => go (w := (52, [.ref l0, .int l1, .int l2, .int l3], [.int l1, .ref x6, .ref x5], h1)) r109_51 rfl rfl (E_aR r109_52 (fun x7 => go (w := (54, [.ref l0, .int l1, .int l2, .int l3], [.int l2, .ref x7, .ref x5], h1)) r109_53 rfl rfl (go (w := (55, [.ref l0, .int l1, .int l2, .int l3], [.int l3, .int l2, .ref x7, .ref x5], h1)) r109_54 rfl rfl (E_vI r109_55 (As := [.ref x5, .ref x7, .int l2, .int l3]) (rest := []) (cut_n mi39.1 rfl rfl) (rm8_n mi39.2.1 (Nat.le_of_ble_eq_true rfl) (Nat.le_of_ble_eq_true rfl)) mi39.2.2 (fun x9 h8 => E_ri r109_58 (mq109))))))))))) (E_ic r109_39 (v := (-1)) (by decide) (E_gt r109_40 rfl (E_ri r109_58 (mq109)))))))) (E_ic r109_27 (v := (-1)) (by decide) (E_ri r109_28 (mq109))))))))))))))))
-- 110 SecondNearest.lead(IIII)I
theorem mq110 : mRet 110 = (some .int) := by decide +kernel
theorem r110_0 : rowAt 110 0 = some (.aload_n 0, 1, 0, 0) := by decide +kernel
theorem r110_1 : rowAt 110 1 = some (.iload_n 1, 1, 0, 0) := by decide +kernel
theorem r110_2 : rowAt 110 2 = some (.invokevirtual 166, 3, 119, 0) := by decide +kernel
theorem r110_5 : rowAt 110 5 = some (.ifCond .eq 22, 3, 0, 0) := by decide +kernel
theorem r110_8 : rowAt 110 8 = some (.iload_n 2, 1, 0, 0) := by decide +kernel
theorem r110_9 : rowAt 110 9 = some (.ifCond .lt 18, 3, 0, 0) := by decide +kernel
theorem r110_12 : rowAt 110 12 = some (.iload_n 2, 1, 0, 0) := by decide +kernel
theorem r110_13 : rowAt 110 13 = some (.iconst 3, 1, 0, 0) := by decide +kernel
theorem r110_14 : rowAt 110 14 = some (.if_icmp .gt 13, 3, 0, 0) := by decide +kernel
theorem r110_17 : rowAt 110 17 = some (.iload_n 3, 1, 0, 0) := by decide +kernel
theorem r110_18 : rowAt 110 18 = some (.ifCond .lt 9, 3, 0, 0) := by decide +kernel
theorem r110_21 : rowAt 110 21 = some (.iload_n 3, 1, 0, 0) := by decide +kernel
theorem r110_22 : rowAt 110 22 = some (.bipush 12, 2, 0, 0) := by decide +kernel
theorem r110_24 : rowAt 110 24 = some (.if_icmp .le 5, 3, 0, 0) := by decide +kernel
theorem r110_27 : rowAt 110 27 = some (.iconst (-1), 1, 0, 0) := by decide +kernel
theorem r110_28 : rowAt 110 28 = some (.ireturn, 1, 0, 0) := by decide +kernel
theorem r110_29 : rowAt 110 29 = some (.iload 4, 2, 0, 0) := by decide +kernel
theorem r110_31 : rowAt 110 31 = some (.ifCond .lt 19, 3, 0, 0) := by decide +kernel
theorem r110_34 : rowAt 110 34 = some (.iload 4, 2, 0, 0) := by decide +kernel
theorem r110_36 : rowAt 110 36 = some (.iconst 3, 1, 0, 0) := by decide +kernel
theorem r110_37 : rowAt 110 37 = some (.if_icmp .gt 13, 3, 0, 0) := by decide +kernel
theorem r110_40 : rowAt 110 40 = some (.aload_n 0, 1, 0, 0) := by decide +kernel
theorem r110_41 : rowAt 110 41 = some (.getfield 19, 3, 8, 1) := by decide +kernel
theorem r110_44 : rowAt 110 44 = some (.getfield 204, 3, 5, 4) := by decide +kernel
theorem r110_47 : rowAt 110 47 = some (.ifCond .ne 5, 3, 0, 0) := by decide +kernel
theorem r110_50 : rowAt 110 50 = some (.iconst (-1), 1, 0, 0) := by decide +kernel
theorem r110_51 : rowAt 110 51 = some (.ireturn, 1, 0, 0) := by decide +kernel
theorem r110_52 : rowAt 110 52 = some (.iload 4, 2, 0, 0) := by decide +kernel
theorem r110_54 : rowAt 110 54 = some (.iload_n 2, 1, 0, 0) := by decide +kernel
theorem r110_55 : rowAt 110 55 = some (.if_icmp .le 8, 3, 0, 0) := by decide +kernel
theorem r110_58 : rowAt 110 58 = some (.bipush (-2), 2, 0, 0) := by decide +kernel
theorem r110_60 : rowAt 110 60 = some (.goto 20, 3, 0, 0) := by decide +kernel
theorem r110_63 : rowAt 110 63 = some (.aload_n 0, 1, 0, 0) := by decide +kernel
theorem r110_64 : rowAt 110 64 = some (.getfield 76, 3, 8, 9) := by decide +kernel
theorem r110_67 : rowAt 110 67 = some (.aload_n 0, 1, 0, 0) := by decide +kernel
theorem r110_68 : rowAt 110 68 = some (.getfield 46, 3, 8, 5) := by decide +kernel
theorem r110_71 : rowAt 110 71 = some (.iload_n 1, 1, 0, 0) := by decide +kernel
theorem r110_72 : rowAt 110 72 = some (.aaload, 1, 0, 0) := by decide +kernel
theorem r110_73 : rowAt 110 73 = some (.iload_n 2, 1, 0, 0) := by decide +kernel
theorem r110_74 : rowAt 110 74 = some (.iload_n 3, 1, 0, 0) := by decide +kernel
theorem r110_75 : rowAt 110 75 = some (.iload 4, 2, 0, 0) := by decide +kernel
theorem r110_77 : rowAt 110 77 = some (.invokevirtual 210, 3, 40, 0) := by decide +kernel
theorem r110_80 : rowAt 110 80 = some (.ireturn, 1, 0, 0) := by decide +kernel
theorem en110 (a0 : Nat) (a1 : Int32) (a2 : Int32) (a3 : Int32) (a4 : Int32) : iniL 110 [.ref a0, .int a1, .int a2, .int a3, .int a4] = [.ref a0, .int a1, .int a2, .int a3, .int a4] := ini_n mi110 rfl
theorem b110_0 (d : Nat) (l0 : Nat) (l1 : Int32) (l2 : Int32) (l3 : Int32) (l4 : Int32) (h : aH) (K : Option Value → aH → Prop) : E scr false (d + 1) 110 0 [.ref l0, .int l1, .int l2, .int l3, .int l4] [] h K = vI scr d 119 [.ref l0, .int l1] h (fun (x2 : Int32) (h1 : aH) => (if x2 = 0 then K (some (.int (-1))) h1 else (if l2 < 0 then K (some (.int (-1))) h1 else (if 3 < l2 then K (some (.int (-1))) h1 else (if l3 < 0 then K (some (.int (-1))) h1 else (if l3 ≤ 12 then (if l4 < 0 then K (some (.int (-1))) h1 else (if 3 < l4 then K (some (.int (-1))) h1 else gR scr h1 l0 8 1 (fun x3 : Nat => gI scr h1 x3 5 4 (fun x4 : Int32 => (if x4 = 0 then K (some (.int (-1))) h1 else (if l4 ≤ l2 then gR scr h1 l0 8 9 (fun x5 : Nat => gR scr h1 l0 8 5 (fun x6 : Nat => aR h1 x6 l1 (fun x7 : Nat => vI scr d 40 [.ref x5, .ref x7, .int l2, .int l3, .int l4] h1 (fun (x9 : Int32) (h8 : aH) => K (some (.int x9)) h8)))) else K (some (.int (-2))) h1)))))) else K (some (.int (-1))) h1)))))) := go (w := (1, [.ref l0, .int l1, .int l2, .int l3, .int l4], [.ref l0], h)) r110_0 rfl rfl (go (w := (2, [.ref l0, .int l1, .int l2, .int l3, .int l4], [.int l1, .ref l0], h)) r110_1 rfl rfl (E_vI r110_2 (As := [.ref l0, .int l1]) (rest := []) (cut_n mi119.1 rfl rfl) (rm8_n mi119.2.1 (Nat.le_of_ble_eq_true rfl) (Nat.le_of_ble_eq_true rfl)) mi119.2.2 (fun x2 h1 => E_i1_eq r110_5 rfl (E_ic r110_27 (v := (-1)) (by decide) (E_ri r110_28 (mq110))) (go (w := (9, [.ref l0, .int l1, .int l2, .int l3, .int l4], [.int l2], h1)) r110_8 rfl rfl (E_i1_lt r110_9 rfl (E_ic r110_27 (v := (-1)) (by decide) (E_ri r110_28 (mq110))) (go (w := (13, [.ref l0, .int l1, .int l2, .int l3, .int l4], [.int l2], h1)) r110_12 rfl rfl (E_ic r110_13 (v := 3) (by decide) (E_i2_gt r110_14 rfl (E_ic r110_27 (v := (-1)) (by decide) (E_ri r110_28 (mq110))) (go (w := (18, [.ref l0, .int l1, .int l2, .int l3, .int l4], [.int l3], h1)) r110_17 rfl rfl (E_i1_lt r110_18 rfl (E_ic r110_27 (v := (-1)) (by decide) (E_ri r110_28 (mq110))) (go (w := (22, [.ref l0, .int l1, .int l2, .int l3, .int l4], [.int l3], h1)) r110_21 rfl rfl (E_bip r110_22 (v := 12) (by decide) (E_i2_le r110_24 rfl (go (w := (31, [.ref l0, .int l1, .int l2, .int l3, .int l4], [.int l4], h1)) r110_29 rfl rfl (E_i1_lt r110_31 rfl (E_ic r110_50 (v := (-1)) (by decide) (E_ri r110_51 (mq110))) (go (w := (36, [.ref l0, .int l1, .int l2, .int l3, .int l4], [.int l4], h1)) r110_34 rfl rfl (E_ic r110_36 (v := 3) (by decide) (E_i2_gt r110_37 rfl (E_ic r110_50 (v := (-1)) (by decide) (E_ri r110_51 (mq110))) (go (w := (41, [.ref l0, .int l1, .int l2, .int l3, .int l4], [.ref l0], h1)) r110_40 rfl rfl (E_gR r110_41 rfl (fun x3 => E_gI r110_44 rfl (fun x4 => E_i1_ne r110_47 rfl (go (w := (54, [.ref l0, .int l1, .int l2, .int l3, .int l4], [.int l4], h1)) r110_52 rfl rfl (go (w := (55, [.ref l0, .int l1, .int l2, .int l3, .int l4], [.int l2, .int l4], h1)) r110_54 rfl rfl (E_i2_le r110_55 rfl (go (w := (64, [.ref l0, .int l1, .int l2, .int l3, .int l4], [.ref l0], h1)) r110_63 rfl rfl (E_gR r110_64 rfl (fun x5 => go (w := (68, [.ref l0, .int l1, .int l2, .int l3, .int l4], [.ref l0, .ref x5], h1)) r110_67 rfl rfl (E_gR r110_68 rfl (fun x6 => go (w := (72, [.ref l0, .int l1, .int l2, .int l3, .int l4], [.int l1, .ref x6, .ref x5], h1)) r110_71 rfl rfl (E_aR r110_72 (fun x7 => go (w := (74, [.ref l0, .int l1, .int l2, .int l3, .int l4], [.int l2, .ref x7, .ref x5], h1)) r110_73 rfl rfl (go (w := (75, [.ref l0, .int l1, .int l2, .int l3, .int l4], [.int l3, .int l2, .ref x7, .ref x5], h1)) r110_74 rfl rfl (go (w := (77, [.ref l0, .int l1, .int l2, .int l3, .int l4], [.int l4, .int l3, .int l2, .ref x7, .ref x5], h1)) r110_75 rfl rfl (E_vI r110_77 (As := [.ref x5, .ref x7, .int l2, .int l3, .int l4]) (rest := []) (cut_n mi40.1 rfl rfl) (rm8_n mi40.2.1 (Nat.le_of_ble_eq_true rfl) (Nat.le_of_ble_eq_true rfl)) mi40.2.2 (fun x9 h8 => E_ri r110_80 (mq110)))))))))))) (E_bip r110_58 (v := (-2)) (by decide) (E_gt r110_60 rfl (E_ri r110_80 (mq110))))))) (E_ic r110_50 (v := (-1)) (by decide) (E_ri r110_51 (mq110)))))))))))) (E_ic r110_27 (v := (-1)) (by decide) (E_ri r110_28 (mq110))))))))))))))))
-- 111 SecondNearest.wall(II)I
theorem mq111 : mRet 111 = (some .int) := by decide +kernel
theorem r111_0 : rowAt 111 0 = some (.aload_n 0, 1, 0, 0) := by decide +kernel
theorem r111_1 : rowAt 111 1 = some (.iload_n 1, 1, 0, 0) := by decide +kernel
theorem r111_2 : rowAt 111 2 = some (.invokevirtual 166, 3, 119, 0) := by decide +kernel
theorem r111_5 : rowAt 111 5 = some (.ifCond .eq 13, 3, 0, 0) := by decide +kernel
theorem r111_8 : rowAt 111 8 = some (.iload_n 2, 1, 0, 0) := by decide +kernel
theorem r111_9 : rowAt 111 9 = some (.ifCond .lt 9, 3, 0, 0) := by decide +kernel
theorem r111_12 : rowAt 111 12 = some (.iload_n 2, 1, 0, 0) := by decide +kernel
theorem r111_13 : rowAt 111 13 = some (.bipush 60, 2, 0, 0) := by decide +kernel
theorem r111_15 : rowAt 111 15 = some (.if_icmp .le 5, 3, 0, 0) := by decide +kernel
theorem r111_18 : rowAt 111 18 = some (.iconst (-1), 1, 0, 0) := by decide +kernel
theorem r111_19 : rowAt 111 19 = some (.ireturn, 1, 0, 0) := by decide +kernel
theorem r111_20 : rowAt 111 20 = some (.aload_n 0, 1, 0, 0) := by decide +kernel
theorem r111_21 : rowAt 111 21 = some (.getfield 76, 3, 8, 9) := by decide +kernel
theorem r111_24 : rowAt 111 24 = some (.aload_n 0, 1, 0, 0) := by decide +kernel
theorem r111_25 : rowAt 111 25 = some (.getfield 46, 3, 8, 5) := by decide +kernel
theorem r111_28 : rowAt 111 28 = some (.iload_n 1, 1, 0, 0) := by decide +kernel
theorem r111_29 : rowAt 111 29 = some (.aaload, 1, 0, 0) := by decide +kernel
theorem r111_30 : rowAt 111 30 = some (.iload_n 2, 1, 0, 0) := by decide +kernel
theorem r111_31 : rowAt 111 31 = some (.invokevirtual 214, 3, 43, 0) := by decide +kernel
theorem r111_34 : rowAt 111 34 = some (.ireturn, 1, 0, 0) := by decide +kernel
theorem en111 (a0 : Nat) (a1 : Int32) (a2 : Int32) : iniL 111 [.ref a0, .int a1, .int a2] = [.ref a0, .int a1, .int a2] := ini_n mi111 rfl
theorem b111_0 (d : Nat) (l0 : Nat) (l1 : Int32) (l2 : Int32) (h : aH) (K : Option Value → aH → Prop) : E scr false (d + 1) 111 0 [.ref l0, .int l1, .int l2] [] h K = vI scr d 119 [.ref l0, .int l1] h (fun (x2 : Int32) (h1 : aH) => (if x2 = 0 then K (some (.int (-1))) h1 else (if l2 < 0 then K (some (.int (-1))) h1 else (if l2 ≤ 60 then gR scr h1 l0 8 9 (fun x3 : Nat => gR scr h1 l0 8 5 (fun x4 : Nat => aR h1 x4 l1 (fun x5 : Nat => vI scr d 43 [.ref x3, .ref x5, .int l2] h1 (fun (x7 : Int32) (h6 : aH) => K (some (.int x7)) h6)))) else K (some (.int (-1))) h1)))) := go (w := (1, [.ref l0, .int l1, .int l2], [.ref l0], h)) r111_0 rfl rfl (go (w := (2, [.ref l0, .int l1, .int l2], [.int l1, .ref l0], h)) r111_1 rfl rfl (E_vI r111_2 (As := [.ref l0, .int l1]) (rest := []) (cut_n mi119.1 rfl rfl) (rm8_n mi119.2.1 (Nat.le_of_ble_eq_true rfl) (Nat.le_of_ble_eq_true rfl)) mi119.2.2 (fun x2 h1 => E_i1_eq r111_5 rfl (E_ic r111_18 (v := (-1)) (by decide) (E_ri r111_19 (mq111))) (go (w := (9, [.ref l0, .int l1, .int l2], [.int l2], h1)) r111_8 rfl rfl (E_i1_lt r111_9 rfl (E_ic r111_18 (v := (-1)) (by decide) (E_ri r111_19 (mq111))) (go (w := (13, [.ref l0, .int l1, .int l2], [.int l2], h1)) r111_12 rfl rfl (E_bip r111_13 (v := 60) (by decide) (E_i2_le r111_15 rfl (go (w := (21, [.ref l0, .int l1, .int l2], [.ref l0], h1)) r111_20 rfl rfl (E_gR r111_21 rfl (fun x3 => go (w := (25, [.ref l0, .int l1, .int l2], [.ref l0, .ref x3], h1)) r111_24 rfl rfl (E_gR r111_25 rfl (fun x4 => go (w := (29, [.ref l0, .int l1, .int l2], [.int l1, .ref x4, .ref x3], h1)) r111_28 rfl rfl (E_aR r111_29 (fun x5 => go (w := (31, [.ref l0, .int l1, .int l2], [.int l2, .ref x5, .ref x3], h1)) r111_30 rfl rfl (E_vI r111_31 (As := [.ref x3, .ref x5, .int l2]) (rest := []) (cut_n mi43.1 rfl rfl) (rm8_n mi43.2.1 (Nat.le_of_ble_eq_true rfl) (Nat.le_of_ble_eq_true rfl)) mi43.2.2 (fun x7 h6 => E_ri r111_34 (mq111)))))))))) (E_ic r111_18 (v := (-1)) (by decide) (E_ri r111_19 (mq111)))))))))))
-- 112 SecondNearest.ago(I)I
theorem mq112 : mRet 112 = (some .int) := by decide +kernel
theorem r112_0 : rowAt 112 0 = some (.aload_n 0, 1, 0, 0) := by decide +kernel
theorem r112_1 : rowAt 112 1 = some (.iload_n 1, 1, 0, 0) := by decide +kernel
theorem r112_2 : rowAt 112 2 = some (.invokevirtual 166, 3, 119, 0) := by decide +kernel
theorem r112_5 : rowAt 112 5 = some (.ifCond .eq 19, 3, 0, 0) := by decide +kernel
theorem r112_8 : rowAt 112 8 = some (.aload_n 0, 1, 0, 0) := by decide +kernel
theorem r112_9 : rowAt 112 9 = some (.getfield 76, 3, 8, 9) := by decide +kernel
theorem r112_12 : rowAt 112 12 = some (.aload_n 0, 1, 0, 0) := by decide +kernel
theorem r112_13 : rowAt 112 13 = some (.getfield 46, 3, 8, 5) := by decide +kernel
theorem r112_16 : rowAt 112 16 = some (.iload_n 1, 1, 0, 0) := by decide +kernel
theorem r112_17 : rowAt 112 17 = some (.aaload, 1, 0, 0) := by decide +kernel
theorem r112_18 : rowAt 112 18 = some (.invokevirtual 217, 3, 44, 0) := by decide +kernel
theorem r112_21 : rowAt 112 21 = some (.goto 4, 3, 0, 0) := by decide +kernel
theorem r112_24 : rowAt 112 24 = some (.iconst (-1), 1, 0, 0) := by decide +kernel
theorem r112_25 : rowAt 112 25 = some (.ireturn, 1, 0, 0) := by decide +kernel
theorem en112 (a0 : Nat) (a1 : Int32) : iniL 112 [.ref a0, .int a1] = [.ref a0, .int a1] := ini_n mi112 rfl
theorem b112_0 (d : Nat) (l0 : Nat) (l1 : Int32) (h : aH) (K : Option Value → aH → Prop) : E scr false (d + 1) 112 0 [.ref l0, .int l1] [] h K = vI scr d 119 [.ref l0, .int l1] h (fun (x2 : Int32) (h1 : aH) => (if x2 = 0 then K (some (.int (-1))) h1 else gR scr h1 l0 8 9 (fun x3 : Nat => gR scr h1 l0 8 5 (fun x4 : Nat => aR h1 x4 l1 (fun x5 : Nat => vI scr d 44 [.ref x3, .ref x5] h1 (fun (x7 : Int32) (h6 : aH) => K (some (.int x7)) h6)))))) := go (w := (1, [.ref l0, .int l1], [.ref l0], h)) r112_0 rfl rfl (go (w := (2, [.ref l0, .int l1], [.int l1, .ref l0], h)) r112_1 rfl rfl (E_vI r112_2 (As := [.ref l0, .int l1]) (rest := []) (cut_n mi119.1 rfl rfl) (rm8_n mi119.2.1 (Nat.le_of_ble_eq_true rfl) (Nat.le_of_ble_eq_true rfl)) mi119.2.2 (fun x2 h1 => E_i1_eq r112_5 rfl (E_ic r112_24 (v := (-1)) (by decide) (E_ri r112_25 (mq112))) (go (w := (9, [.ref l0, .int l1], [.ref l0], h1)) r112_8 rfl rfl (E_gR r112_9 rfl (fun x3 => go (w := (13, [.ref l0, .int l1], [.ref l0, .ref x3], h1)) r112_12 rfl rfl (E_gR r112_13 rfl (fun x4 => go (w := (17, [.ref l0, .int l1], [.int l1, .ref x4, .ref x3], h1)) r112_16 rfl rfl (E_aR r112_17 (fun x5 => E_vI r112_18 (As := [.ref x3, .ref x5]) (rest := []) (cut_n mi44.1 rfl rfl) (rm8_n mi44.2.1 (Nat.le_of_ble_eq_true rfl) (Nat.le_of_ble_eq_true rfl)) mi44.2.2 (fun x7 h6 => E_gt r112_21 rfl (E_ri r112_25 (mq112)))))))))))))
-- 113 SecondNearest.spoor(III)I
theorem mq113 : mRet 113 = (some .int) := by decide +kernel
theorem r113_0 : rowAt 113 0 = some (.iload_n 2, 1, 0, 0) := by decide +kernel
theorem r113_1 : rowAt 113 1 = some (.iconst (-1), 1, 0, 0) := by decide +kernel
theorem r113_2 : rowAt 113 2 = some (.if_icmp .ne 13, 3, 0, 0) := by decide +kernel
theorem r113_5 : rowAt 113 5 = some (.aload_n 0, 1, 0, 0) := by decide +kernel
theorem r113_6 : rowAt 113 6 = some (.getfield 19, 3, 8, 1) := by decide +kernel
theorem r113_9 : rowAt 113 9 = some (.iconst 0, 1, 0, 0) := by decide +kernel
theorem r113_10 : rowAt 113 10 = some (.putfield 220, 3, 5, 7) := by decide +kernel
theorem r113_13 : rowAt 113 13 = some (.iconst 0, 1, 0, 0) := by decide +kernel
theorem r113_14 : rowAt 113 14 = some (.ireturn, 1, 0, 0) := by decide +kernel
theorem r113_15 : rowAt 113 15 = some (.iload_n 1, 1, 0, 0) := by decide +kernel
theorem r113_16 : rowAt 113 16 = some (.iconst 1, 1, 0, 0) := by decide +kernel
theorem r113_17 : rowAt 113 17 = some (.if_icmp .lt 21, 3, 0, 0) := by decide +kernel
theorem r113_20 : rowAt 113 20 = some (.iload_n 1, 1, 0, 0) := by decide +kernel
theorem r113_21 : rowAt 113 21 = some (.sipush 200, 3, 0, 0) := by decide +kernel
theorem r113_24 : rowAt 113 24 = some (.if_icmp .gt 14, 3, 0, 0) := by decide +kernel
theorem r113_27 : rowAt 113 27 = some (.aload_n 0, 1, 0, 0) := by decide +kernel
theorem r113_28 : rowAt 113 28 = some (.getfield 19, 3, 8, 1) := by decide +kernel
theorem r113_31 : rowAt 113 31 = some (.iload_n 2, 1, 0, 0) := by decide +kernel
theorem r113_32 : rowAt 113 32 = some (.invokevirtual 116, 3, 53, 0) := by decide +kernel
theorem r113_35 : rowAt 113 35 = some (.ifCond .ne 6, 3, 0, 0) := by decide +kernel
theorem r113_38 : rowAt 113 38 = some (.bipush (-2), 2, 0, 0) := by decide +kernel
theorem r113_40 : rowAt 113 40 = some (.ireturn, 1, 0, 0) := by decide +kernel
theorem r113_41 : rowAt 113 41 = some (.aload_n 0, 1, 0, 0) := by decide +kernel
theorem r113_42 : rowAt 113 42 = some (.getfield 19, 3, 8, 1) := by decide +kernel
theorem r113_45 : rowAt 113 45 = some (.iload_n 3, 1, 0, 0) := by decide +kernel
theorem r113_46 : rowAt 113 46 = some (.invokevirtual 149, 3, 55, 0) := by decide +kernel
theorem r113_49 : rowAt 113 49 = some (.ifCond .eq 20, 3, 0, 0) := by decide +kernel
theorem r113_52 : rowAt 113 52 = some (.iload_n 3, 1, 0, 0) := by decide +kernel
theorem r113_53 : rowAt 113 53 = some (.iload_n 2, 1, 0, 0) := by decide +kernel
theorem r113_54 : rowAt 113 54 = some (.if_icmp .eq 15, 3, 0, 0) := by decide +kernel
theorem r113_57 : rowAt 113 57 = some (.aload_n 0, 1, 0, 0) := by decide +kernel
theorem r113_58 : rowAt 113 58 = some (.getfield 19, 3, 8, 1) := by decide +kernel
theorem r113_61 : rowAt 113 61 = some (.getfield 220, 3, 5, 7) := by decide +kernel
theorem r113_64 : rowAt 113 64 = some (.bipush 40, 2, 0, 0) := by decide +kernel
theorem r113_66 : rowAt 113 66 = some (.if_icmp .lt 6, 3, 0, 0) := by decide +kernel
theorem r113_69 : rowAt 113 69 = some (.bipush (-2), 2, 0, 0) := by decide +kernel
theorem r113_71 : rowAt 113 71 = some (.ireturn, 1, 0, 0) := by decide +kernel
theorem r113_72 : rowAt 113 72 = some (.aload_n 0, 1, 0, 0) := by decide +kernel
theorem r113_73 : rowAt 113 73 = some (.getfield 19, 3, 8, 1) := by decide +kernel
theorem r113_76 : rowAt 113 76 = some (.iload_n 1, 1, 0, 0) := by decide +kernel
theorem r113_77 : rowAt 113 77 = some (.iload_n 2, 1, 0, 0) := by decide +kernel
theorem r113_78 : rowAt 113 78 = some (.iload_n 3, 1, 0, 0) := by decide +kernel
theorem r113_79 : rowAt 113 79 = some (.invokevirtual 223, 3, 62, 0) := by decide +kernel
theorem r113_82 : rowAt 113 82 = some (.aload_n 0, 1, 0, 0) := by decide +kernel
theorem r113_83 : rowAt 113 83 = some (.getfield 19, 3, 8, 1) := by decide +kernel
theorem r113_86 : rowAt 113 86 = some (.getfield 220, 3, 5, 7) := by decide +kernel
theorem r113_89 : rowAt 113 89 = some (.ireturn, 1, 0, 0) := by decide +kernel
theorem en113 (a0 : Nat) (a1 : Int32) (a2 : Int32) (a3 : Int32) : iniL 113 [.ref a0, .int a1, .int a2, .int a3] = [.ref a0, .int a1, .int a2, .int a3] := ini_n mi113 rfl
theorem b113_0 (d : Nat) (l0 : Nat) (l1 : Int32) (l2 : Int32) (l3 : Int32) (h : aH) (K : Option Value → aH → Prop) : E scr false (d + 1) 113 0 [.ref l0, .int l1, .int l2, .int l3] [] h K = (if l2 = (-1) then gR scr h l0 8 1 (fun x14 : Nat => pF h x14 5 7 (.int 0) (fun h15 : aH => K (some (.int 0)) h15)) else (if l1 < 1 then K (some (.int (-2))) h else (if 200 < l1 then K (some (.int (-2))) h else gR scr h l0 8 1 (fun x1 : Nat => vI scr d 53 [.ref x1, .int l2] h (fun (x3 : Int32) (h2 : aH) => (if x3 = 0 then K (some (.int (-2))) h2 else gR scr h2 l0 8 1 (fun x4 : Nat => vI scr d 55 [.ref x4, .int l3] h2 (fun (x6 : Int32) (h5 : aH) => (if x6 = 0 then K (some (.int (-2))) h5 else (if l3 = l2 then K (some (.int (-2))) h5 else gR scr h5 l0 8 1 (fun x7 : Nat => gI scr h5 x7 5 7 (fun x8 : Int32 => (if x8 < 40 then gR scr h5 l0 8 1 (fun x9 : Nat => vV scr d 62 [.ref x9, .int l1, .int l2, .int l3] h5 (fun h10 : aH => gR scr h10 l0 8 1 (fun x12 : Nat => gI scr h10 x12 5 7 (fun x13 : Int32 => K (some (.int x13)) h10)))) else K (some (.int (-2))) h5))))))))))))) := go (w := (1, [.ref l0, .int l1, .int l2, .int l3], [.int l2], h)) r113_0 rfl rfl (E_ic r113_1 (v := (-1)) (by decide) (E_i2_ne r113_2 rfl (go (w := (16, [.ref l0, .int l1, .int l2, .int l3], [.int l1], h)) r113_15 rfl rfl (E_ic r113_16 (v := 1) (by decide) (E_i2_lt r113_17 rfl (E_bip r113_38 (v := (-2)) (by decide) (E_ri r113_40 (mq113))) (go (w := (21, [.ref l0, .int l1, .int l2, .int l3], [.int l1], h)) r113_20 rfl rfl (E_sip r113_21 (v := 200) (by decide) (E_i2_gt r113_24 rfl (E_bip r113_38 (v := (-2)) (by decide) (E_ri r113_40 (mq113))) (go (w := (28, [.ref l0, .int l1, .int l2, .int l3], [.ref l0], h)) r113_27 rfl rfl (E_gR r113_28 rfl (fun x1 => go (w := (32, [.ref l0, .int l1, .int l2, .int l3], [.int l2, .ref x1], h)) r113_31 rfl rfl (E_vI r113_32 (As := [.ref x1, .int l2]) (rest := []) (cut_n mi53.1 rfl rfl) (rm8_n mi53.2.1 (Nat.le_of_ble_eq_true rfl) (Nat.le_of_ble_eq_true rfl)) mi53.2.2 (fun x3 h2 => E_i1_ne r113_35 rfl (go (w := (42, [.ref l0, .int l1, .int l2, .int l3], [.ref l0], h2)) r113_41 rfl rfl (E_gR r113_42 rfl (fun x4 => go (w := (46, [.ref l0, .int l1, .int l2, .int l3], [.int l3, .ref x4], h2)) r113_45 rfl rfl (E_vI r113_46 (As := [.ref x4, .int l3]) (rest := []) (cut_n mi55.1 rfl rfl) (rm8_n mi55.2.1 (Nat.le_of_ble_eq_true rfl) (Nat.le_of_ble_eq_true rfl)) mi55.2.2 (fun x6 h5 => E_i1_eq r113_49 rfl (E_bip r113_69 (v := (-2)) (by decide) (E_ri r113_71 (mq113))) (go (w := (53, [.ref l0, .int l1, .int l2, .int l3], [.int l3], h5)) r113_52 rfl rfl (go (w := (54, [.ref l0, .int l1, .int l2, .int l3], [.int l2, .int l3], h5)) r113_53 rfl rfl (E_i2_eq r113_54 rfl (E_bip r113_69 (v := (-2)) (by decide) (E_ri r113_71 (mq113))) (go (w := (58, [.ref l0, .int l1, .int l2, .int l3], [.ref l0], h5)) r113_57 rfl rfl (E_gR r113_58 rfl (fun x7 => E_gI r113_61 rfl (fun x8 => E_bip r113_64 (v := 40) (by decide) (E_i2_lt r113_66 rfl (go (w := (73, [.ref l0, .int l1, .int l2, .int l3], [.ref l0], h5)) r113_72 rfl rfl (E_gR r113_73 rfl (fun x9 => go (w := (77, [.ref l0, .int l1, .int l2, .int l3], [.int l1, .ref x9], h5)) r113_76 rfl rfl (go (w := (78, [.ref l0, .int l1, .int l2, .int l3], [.int l2, .int l1, .ref x9], h5)) r113_77 rfl rfl (go (w := (79, [.ref l0, .int l1, .int l2, .int l3], [.int l3, .int l2, .int l1, .ref x9], h5)) r113_78 rfl rfl (E_vV r113_79 (As := [.ref x9, .int l1, .int l2, .int l3]) (rest := []) (cut_n mi62.1 rfl rfl) (rm8_n mi62.2.1 (Nat.le_of_ble_eq_true rfl) (Nat.le_of_ble_eq_true rfl)) mi62.2.2 (fun h10 => go (w := (83, [.ref l0, .int l1, .int l2, .int l3], [.ref l0], h10)) r113_82 rfl rfl (E_gR r113_83 rfl (fun x12 => E_gI r113_86 rfl (fun x13 => E_ri r113_89 (mq113))))))))))) (E_bip r113_69 (v := (-2)) (by decide) (E_ri r113_71 (mq113)))))))))))))))) (E_bip r113_38 (v := (-2)) (by decide) (E_ri r113_40 (mq113)))))))))))))) (go (w := (6, [.ref l0, .int l1, .int l2, .int l3], [.ref l0], h)) r113_5 rfl rfl (E_gR r113_6 rfl (fun x14 => E_ic r113_9 (v := 0) (by decide) (E_pI r113_10 ⟨rfl, rfl⟩ (fun h15 => E_ic r113_13 (v := 0) (by decide) (E_ri r113_14 (mq113)))))))))
-- 114 SecondNearest.judged(I)I
theorem mq114 : mRet 114 = (some .int) := by decide +kernel
theorem r114_0 : rowAt 114 0 = some (.aload_n 0, 1, 0, 0) := by decide +kernel
theorem r114_1 : rowAt 114 1 = some (.iload_n 1, 1, 0, 0) := by decide +kernel
theorem r114_2 : rowAt 114 2 = some (.invokevirtual 166, 3, 119, 0) := by decide +kernel
theorem r114_5 : rowAt 114 5 = some (.ifCond .eq 19, 3, 0, 0) := by decide +kernel
theorem r114_8 : rowAt 114 8 = some (.aload_n 0, 1, 0, 0) := by decide +kernel
theorem r114_9 : rowAt 114 9 = some (.getfield 76, 3, 8, 9) := by decide +kernel
theorem r114_12 : rowAt 114 12 = some (.aload_n 0, 1, 0, 0) := by decide +kernel
theorem r114_13 : rowAt 114 13 = some (.getfield 46, 3, 8, 5) := by decide +kernel
theorem r114_16 : rowAt 114 16 = some (.iload_n 1, 1, 0, 0) := by decide +kernel
theorem r114_17 : rowAt 114 17 = some (.aaload, 1, 0, 0) := by decide +kernel
theorem r114_18 : rowAt 114 18 = some (.invokevirtual 227, 3, 47, 0) := by decide +kernel
theorem r114_21 : rowAt 114 21 = some (.goto 4, 3, 0, 0) := by decide +kernel
theorem r114_24 : rowAt 114 24 = some (.iconst (-1), 1, 0, 0) := by decide +kernel
theorem r114_25 : rowAt 114 25 = some (.ireturn, 1, 0, 0) := by decide +kernel
theorem en114 (a0 : Nat) (a1 : Int32) : iniL 114 [.ref a0, .int a1] = [.ref a0, .int a1] := ini_n mi114 rfl
theorem b114_0 (d : Nat) (l0 : Nat) (l1 : Int32) (h : aH) (K : Option Value → aH → Prop) : E scr false (d + 1) 114 0 [.ref l0, .int l1] [] h K = vI scr d 119 [.ref l0, .int l1] h (fun (x2 : Int32) (h1 : aH) => (if x2 = 0 then K (some (.int (-1))) h1 else gR scr h1 l0 8 9 (fun x3 : Nat => gR scr h1 l0 8 5 (fun x4 : Nat => aR h1 x4 l1 (fun x5 : Nat => vI scr d 47 [.ref x3, .ref x5] h1 (fun (x7 : Int32) (h6 : aH) => K (some (.int x7)) h6)))))) := go (w := (1, [.ref l0, .int l1], [.ref l0], h)) r114_0 rfl rfl (go (w := (2, [.ref l0, .int l1], [.int l1, .ref l0], h)) r114_1 rfl rfl (E_vI r114_2 (As := [.ref l0, .int l1]) (rest := []) (cut_n mi119.1 rfl rfl) (rm8_n mi119.2.1 (Nat.le_of_ble_eq_true rfl) (Nat.le_of_ble_eq_true rfl)) mi119.2.2 (fun x2 h1 => E_i1_eq r114_5 rfl (E_ic r114_24 (v := (-1)) (by decide) (E_ri r114_25 (mq114))) (go (w := (9, [.ref l0, .int l1], [.ref l0], h1)) r114_8 rfl rfl (E_gR r114_9 rfl (fun x3 => go (w := (13, [.ref l0, .int l1], [.ref l0, .ref x3], h1)) r114_12 rfl rfl (E_gR r114_13 rfl (fun x4 => go (w := (17, [.ref l0, .int l1], [.int l1, .ref x4, .ref x3], h1)) r114_16 rfl rfl (E_aR r114_17 (fun x5 => E_vI r114_18 (As := [.ref x3, .ref x5]) (rest := []) (cut_n mi47.1 rfl rfl) (rm8_n mi47.2.1 (Nat.le_of_ble_eq_true rfl) (Nat.le_of_ble_eq_true rfl)) mi47.2.2 (fun x7 h6 => E_gt r114_21 rfl (E_ri r114_25 (mq114)))))))))))))
-- 115 SecondNearest.bestLaw(I)I
theorem mq115 : mRet 115 = (some .int) := by decide +kernel
theorem r115_0 : rowAt 115 0 = some (.aload_n 0, 1, 0, 0) := by decide +kernel
theorem r115_1 : rowAt 115 1 = some (.getfield 19, 3, 8, 1) := by decide +kernel
theorem r115_4 : rowAt 115 4 = some (.getfield 230, 3, 5, 1) := by decide +kernel
theorem r115_7 : rowAt 115 7 = some (.ifCond .eq 14, 3, 0, 0) := by decide +kernel
theorem r115_10 : rowAt 115 10 = some (.iload_n 1, 1, 0, 0) := by decide +kernel
theorem r115_11 : rowAt 115 11 = some (.ifCond .lt 10, 3, 0, 0) := by decide +kernel
theorem r115_14 : rowAt 115 14 = some (.iload_n 1, 1, 0, 0) := by decide +kernel
theorem r115_15 : rowAt 115 15 = some (.sipush 200, 3, 0, 0) := by decide +kernel
theorem r115_18 : rowAt 115 18 = some (.if_icmp .le 5, 3, 0, 0) := by decide +kernel
theorem r115_21 : rowAt 115 21 = some (.iconst (-1), 1, 0, 0) := by decide +kernel
theorem r115_22 : rowAt 115 22 = some (.ireturn, 1, 0, 0) := by decide +kernel
theorem r115_23 : rowAt 115 23 = some (.bipush (-2), 2, 0, 0) := by decide +kernel
theorem r115_25 : rowAt 115 25 = some (.istore_n 2, 1, 0, 0) := by decide +kernel
theorem r115_26 : rowAt 115 26 = some (.iconst (-1), 1, 0, 0) := by decide +kernel
theorem r115_27 : rowAt 115 27 = some (.istore_n 3, 1, 0, 0) := by decide +kernel
theorem r115_28 : rowAt 115 28 = some (.iconst 0, 1, 0, 0) := by decide +kernel
theorem r115_29 : rowAt 115 29 = some (.istore 4, 2, 0, 0) := by decide +kernel
theorem r115_31 : rowAt 115 31 = some (.iload 4, 2, 0, 0) := by decide +kernel
theorem r115_33 : rowAt 115 33 = some (.aload_n 0, 1, 0, 0) := by decide +kernel
theorem r115_34 : rowAt 115 34 = some (.getfield 51, 3, 8, 6) := by decide +kernel
theorem r115_37 : rowAt 115 37 = some (.if_icmp .ge 46, 3, 0, 0) := by decide +kernel
theorem r115_40 : rowAt 115 40 = some (.iload 4, 2, 0, 0) := by decide +kernel
theorem r115_42 : rowAt 115 42 = some (.bipush 6, 2, 0, 0) := by decide +kernel
theorem r115_44 : rowAt 115 44 = some (.if_icmp .ge 39, 3, 0, 0) := by decide +kernel
theorem r115_47 : rowAt 115 47 = some (.aload_n 0, 1, 0, 0) := by decide +kernel
theorem r115_48 : rowAt 115 48 = some (.getfield 76, 3, 8, 9) := by decide +kernel
theorem r115_51 : rowAt 115 51 = some (.aload_n 0, 1, 0, 0) := by decide +kernel
theorem r115_52 : rowAt 115 52 = some (.getfield 46, 3, 8, 5) := by decide +kernel
theorem r115_55 : rowAt 115 55 = some (.iload 4, 2, 0, 0) := by decide +kernel
theorem r115_57 : rowAt 115 57 = some (.aaload, 1, 0, 0) := by decide +kernel
theorem r115_58 : rowAt 115 58 = some (.iload_n 1, 1, 0, 0) := by decide +kernel
theorem r115_59 : rowAt 115 59 = some (.iconst 0, 1, 0, 0) := by decide +kernel
theorem r115_60 : rowAt 115 60 = some (.invokevirtual 183, 3, 27, 0) := by decide +kernel
theorem r115_63 : rowAt 115 63 = some (.istore 5, 2, 0, 0) := by decide +kernel
theorem r115_65 : rowAt 115 65 = some (.iload 5, 2, 0, 0) := by decide +kernel
theorem r115_67 : rowAt 115 67 = some (.iload_n 3, 1, 0, 0) := by decide +kernel
theorem r115_68 : rowAt 115 68 = some (.if_icmp .le 9, 3, 0, 0) := by decide +kernel
theorem r115_71 : rowAt 115 71 = some (.iload 5, 2, 0, 0) := by decide +kernel
theorem r115_73 : rowAt 115 73 = some (.istore_n 3, 1, 0, 0) := by decide +kernel
theorem r115_74 : rowAt 115 74 = some (.iload 4, 2, 0, 0) := by decide +kernel
theorem r115_76 : rowAt 115 76 = some (.istore_n 2, 1, 0, 0) := by decide +kernel
theorem r115_77 : rowAt 115 77 = some (.iinc 4 1, 3, 0, 0) := by decide +kernel
theorem r115_80 : rowAt 115 80 = some (.goto (-49), 3, 0, 0) := by decide +kernel
theorem r115_83 : rowAt 115 83 = some (.iload_n 2, 1, 0, 0) := by decide +kernel
theorem r115_84 : rowAt 115 84 = some (.ireturn, 1, 0, 0) := by decide +kernel
theorem en115 (a0 : Nat) (a1 : Int32) : iniL 115 [.ref a0, .int a1] = [.ref a0, .int a1, .null, .null, .null, .null] := ini_n mi115 rfl
theorem b115_0 (d : Nat) (l0 : Nat) (l1 : Int32) (h : aH) (K : Option Value → aH → Prop) : E scr false d 115 0 [.ref l0, .int l1, .null, .null, .null, .null] [] h K = gR scr h l0 8 1 (fun x1 : Nat => gI scr h x1 5 1 (fun x2 : Int32 => (if x2 = 0 then K (some (.int (-1))) h else (if l1 < 0 then K (some (.int (-1))) h else (if l1 ≤ 200 then E scr false d 115 31 [.ref l0, .int l1, .int (-2), .int (-1), .int 0, .null] [] h K else K (some (.int (-1))) h))))) := go (w := (1, [.ref l0, .int l1, .null, .null, .null, .null], [.ref l0], h)) r115_0 rfl rfl (E_gR r115_1 rfl (fun x1 => E_gI r115_4 rfl (fun x2 => E_i1_eq r115_7 rfl (E_ic r115_21 (v := (-1)) (by decide) (E_ri r115_22 (mq115))) (go (w := (11, [.ref l0, .int l1, .null, .null, .null, .null], [.int l1], h)) r115_10 rfl rfl (E_i1_lt r115_11 rfl (E_ic r115_21 (v := (-1)) (by decide) (E_ri r115_22 (mq115))) (go (w := (15, [.ref l0, .int l1, .null, .null, .null, .null], [.int l1], h)) r115_14 rfl rfl (E_sip r115_15 (v := 200) (by decide) (E_i2_le r115_18 rfl (E_bip r115_23 (v := (-2)) (by decide) (go (w := (26, [.ref l0, .int l1, .int (-2), .null, .null, .null], [], h)) r115_25 rfl rfl (E_ic r115_26 (v := (-1)) (by decide) (go (w := (28, [.ref l0, .int l1, .int (-2), .int (-1), .null, .null], [], h)) r115_27 rfl rfl (E_ic r115_28 (v := 0) (by decide) (go (w := (31, [.ref l0, .int l1, .int (-2), .int (-1), .int 0, .null], [], h)) r115_29 rfl rfl (rfl))))))) (E_ic r115_21 (v := (-1)) (by decide) (E_ri r115_22 (mq115)))))))))))
theorem b115_31 (d : Nat) (l0 : Nat) (l1 : Int32) (l2 : Int32) (l3 : Int32) (l4 : Int32) (l5 : Value) (h : aH) (K : Option Value → aH → Prop) : E scr false (d + 1) 115 31 [.ref l0, .int l1, .int l2, .int l3, .int l4, l5] [] h K = gI scr h l0 8 6 (fun x1 : Int32 => (if x1 ≤ l4 then K (some (.int l2)) h else (if 6 ≤ l4 then K (some (.int l2)) h else gR scr h l0 8 9 (fun x2 : Nat => gR scr h l0 8 5 (fun x3 : Nat => aR h x3 l4 (fun x4 : Nat => vI scr d 27 [.ref x2, .ref x4, .int l1, .int 0] h (fun (x6 : Int32) (h5 : aH) => (if x6 ≤ l3 then E scr false (d + 1) 115 77 [.ref l0, .int l1, .int l2, .int l3, .int l4, .int x6] [] h5 K else E scr false (d + 1) 115 77 [.ref l0, .int l1, .int l4, .int x6, .int l4, .int x6] [] h5 K)))))))) := go (w := (33, [.ref l0, .int l1, .int l2, .int l3, .int l4, l5], [.int l4], h)) r115_31 rfl rfl (go (w := (34, [.ref l0, .int l1, .int l2, .int l3, .int l4, l5], [.ref l0, .int l4], h)) r115_33 rfl rfl (E_gI r115_34 rfl (fun x1 => E_i2_ge r115_37 rfl (go (w := (84, [.ref l0, .int l1, .int l2, .int l3, .int l4, l5], [.int l2], h)) r115_83 rfl rfl (E_ri r115_84 (mq115))) (go (w := (42, [.ref l0, .int l1, .int l2, .int l3, .int l4, l5], [.int l4], h)) r115_40 rfl rfl (E_bip r115_42 (v := 6) (by decide) (E_i2_ge r115_44 rfl (go (w := (84, [.ref l0, .int l1, .int l2, .int l3, .int l4, l5], [.int l2], h)) r115_83 rfl rfl (E_ri r115_84 (mq115))) (go (w := (48, [.ref l0, .int l1, .int l2, .int l3, .int l4, l5], [.ref l0], h)) r115_47 rfl rfl (E_gR r115_48 rfl (fun x2 => go (w := (52, [.ref l0, .int l1, .int l2, .int l3, .int l4, l5], [.ref l0, .ref x2], h)) r115_51 rfl rfl (E_gR r115_52 rfl (fun x3 => go (w := (57, [.ref l0, .int l1, .int l2, .int l3, .int l4, l5], [.int l4, .ref x3, .ref x2], h)) r115_55 rfl rfl (E_aR r115_57 (fun x4 => go (w := (59, [.ref l0, .int l1, .int l2, .int l3, .int l4, l5], [.int l1, .ref x4, .ref x2], h)) r115_58 rfl rfl (E_ic r115_59 (v := 0) (by decide) (E_vI r115_60 (As := [.ref x2, .ref x4, .int l1, .int 0]) (rest := []) (cut_n mi27.1 rfl rfl) (rm8_n mi27.2.1 (Nat.le_of_ble_eq_true rfl) (Nat.le_of_ble_eq_true rfl)) mi27.2.2 (fun x6 h5 => go (w := (65, [.ref l0, .int l1, .int l2, .int l3, .int l4, .int x6], [], h5)) r115_63 rfl rfl (go (w := (67, [.ref l0, .int l1, .int l2, .int l3, .int l4, .int x6], [.int x6], h5)) r115_65 rfl rfl (go (w := (68, [.ref l0, .int l1, .int l2, .int l3, .int l4, .int x6], [.int l3, .int x6], h5)) r115_67 rfl rfl (E_i2_le r115_68 rfl (rfl) (go (w := (73, [.ref l0, .int l1, .int l2, .int l3, .int l4, .int x6], [.int x6], h5)) r115_71 rfl rfl (go (w := (74, [.ref l0, .int l1, .int l2, .int x6, .int l4, .int x6], [], h5)) r115_73 rfl rfl (go (w := (76, [.ref l0, .int l1, .int l2, .int x6, .int l4, .int x6], [.int l4], h5)) r115_74 rfl rfl (go (w := (77, [.ref l0, .int l1, .int l4, .int x6, .int l4, .int x6], [], h5)) r115_76 rfl rfl (rfl))))))))))))))))))))))))
theorem b115_77 (d : Nat) (l0 : Nat) (l1 : Int32) (l2 : Int32) (l3 : Int32) (l4 : Int32) (l5 : Int32) (h : aH) (K : Option Value → aH → Prop) : E scr false d 115 77 [.ref l0, .int l1, .int l2, .int l3, .int l4, .int l5] [] h K = E scr false d 115 31 [.ref l0, .int l1, .int l2, .int l3, .int (l4 + 1), .int l5] [] h K := E_inc r115_77 (c := 1) rfl (by decide) (L' := [.ref l0, .int l1, .int l2, .int l3, .int (l4 + 1), .int l5]) rfl (E_gt r115_80 rfl (rfl))
-- 116 SecondNearest.count(I)I
theorem mq116 : mRet 116 = (some .int) := by decide +kernel
theorem r116_0 : rowAt 116 0 = some (.iload_n 1, 1, 0, 0) := by decide +kernel
theorem r116_1 : rowAt 116 1 = some (.tableswitch 132 0 9 #[55, 63, 71, 79, 87, 95, 103, 111, 116, 124], 55, 0, 0) := by decide +kernel
theorem r116_56 : rowAt 116 56 = some (.aload_n 0, 1, 0, 0) := by decide +kernel
theorem r116_57 : rowAt 116 57 = some (.getfield 19, 3, 8, 1) := by decide +kernel
theorem r116_60 : rowAt 116 60 = some (.getfield 233, 3, 5, 0) := by decide +kernel
theorem r116_63 : rowAt 116 63 = some (.ireturn, 1, 0, 0) := by decide +kernel
theorem r116_64 : rowAt 116 64 = some (.aload_n 0, 1, 0, 0) := by decide +kernel
theorem r116_65 : rowAt 116 65 = some (.getfield 19, 3, 8, 1) := by decide +kernel
theorem r116_68 : rowAt 116 68 = some (.getfield 230, 3, 5, 1) := by decide +kernel
theorem r116_71 : rowAt 116 71 = some (.ireturn, 1, 0, 0) := by decide +kernel
theorem r116_72 : rowAt 116 72 = some (.aload_n 0, 1, 0, 0) := by decide +kernel
theorem r116_73 : rowAt 116 73 = some (.getfield 19, 3, 8, 1) := by decide +kernel
theorem r116_76 : rowAt 116 76 = some (.getfield 110, 3, 5, 3) := by decide +kernel
theorem r116_79 : rowAt 116 79 = some (.ireturn, 1, 0, 0) := by decide +kernel
theorem r116_80 : rowAt 116 80 = some (.aload_n 0, 1, 0, 0) := by decide +kernel
theorem r116_81 : rowAt 116 81 = some (.getfield 19, 3, 8, 1) := by decide +kernel
theorem r116_84 : rowAt 116 84 = some (.getfield 204, 3, 5, 4) := by decide +kernel
theorem r116_87 : rowAt 116 87 = some (.ireturn, 1, 0, 0) := by decide +kernel
theorem r116_88 : rowAt 116 88 = some (.aload_n 0, 1, 0, 0) := by decide +kernel
theorem r116_89 : rowAt 116 89 = some (.getfield 19, 3, 8, 1) := by decide +kernel
theorem r116_92 : rowAt 116 92 = some (.getfield 173, 3, 5, 5) := by decide +kernel
theorem r116_95 : rowAt 116 95 = some (.ireturn, 1, 0, 0) := by decide +kernel
theorem r116_96 : rowAt 116 96 = some (.aload_n 0, 1, 0, 0) := by decide +kernel
theorem r116_97 : rowAt 116 97 = some (.getfield 19, 3, 8, 1) := by decide +kernel
theorem r116_100 : rowAt 116 100 = some (.getfield 236, 3, 5, 6) := by decide +kernel
theorem r116_103 : rowAt 116 103 = some (.ireturn, 1, 0, 0) := by decide +kernel
theorem r116_104 : rowAt 116 104 = some (.aload_n 0, 1, 0, 0) := by decide +kernel
theorem r116_105 : rowAt 116 105 = some (.getfield 19, 3, 8, 1) := by decide +kernel
theorem r116_108 : rowAt 116 108 = some (.getfield 220, 3, 5, 7) := by decide +kernel
theorem r116_111 : rowAt 116 111 = some (.ireturn, 1, 0, 0) := by decide +kernel
theorem r116_112 : rowAt 116 112 = some (.aload_n 0, 1, 0, 0) := by decide +kernel
theorem r116_113 : rowAt 116 113 = some (.getfield 51, 3, 8, 6) := by decide +kernel
theorem r116_116 : rowAt 116 116 = some (.ireturn, 1, 0, 0) := by decide +kernel
theorem r116_117 : rowAt 116 117 = some (.aload_n 0, 1, 0, 0) := by decide +kernel
theorem r116_118 : rowAt 116 118 = some (.getfield 10, 3, 8, 0) := by decide +kernel
theorem r116_121 : rowAt 116 121 = some (.getfield 96, 3, 6, 1) := by decide +kernel
theorem r116_124 : rowAt 116 124 = some (.ireturn, 1, 0, 0) := by decide +kernel
theorem r116_125 : rowAt 116 125 = some (.aload_n 0, 1, 0, 0) := by decide +kernel
theorem r116_126 : rowAt 116 126 = some (.getfield 19, 3, 8, 1) := by decide +kernel
theorem r116_129 : rowAt 116 129 = some (.getfield 239, 3, 5, 2) := by decide +kernel
theorem r116_132 : rowAt 116 132 = some (.ireturn, 1, 0, 0) := by decide +kernel
theorem r116_133 : rowAt 116 133 = some (.iconst (-1), 1, 0, 0) := by decide +kernel
theorem r116_134 : rowAt 116 134 = some (.ireturn, 1, 0, 0) := by decide +kernel
theorem en116 (a0 : Nat) (a1 : Int32) : iniL 116 [.ref a0, .int a1] = [.ref a0, .int a1] := ini_n mi116 rfl
theorem b116_0 (d : Nat) (l0 : Nat) (l1 : Int32) (h : aH) (K : Option Value → aH → Prop) : E scr false d 116 0 [.ref l0, .int l1] [] h K = (if l1 = 0 then E scr false d 116 56 [.ref l0, .int l1] [] h K else (if l1 = 1 then E scr false d 116 64 [.ref l0, .int l1] [] h K else (if l1 = 2 then E scr false d 116 72 [.ref l0, .int l1] [] h K else (if l1 = 3 then E scr false d 116 80 [.ref l0, .int l1] [] h K else (if l1 = 4 then E scr false d 116 88 [.ref l0, .int l1] [] h K else (if l1 = 5 then E scr false d 116 96 [.ref l0, .int l1] [] h K else (if l1 = 6 then E scr false d 116 104 [.ref l0, .int l1] [] h K else (if l1 = 7 then E scr false d 116 112 [.ref l0, .int l1] [] h K else (if l1 = 8 then E scr false d 116 117 [.ref l0, .int l1] [] h K else (if l1 = 9 then E scr false d 116 125 [.ref l0, .int l1] [] h K else E scr false d 116 133 [.ref l0, .int l1] [] h K)))))))))) := go (w := (1, [.ref l0, .int l1], [.int l1], h)) r116_0 rfl rfl (E_tab (pc := 1) [(0, 56), (1, 64), (2, 72), (3, 80), (4, 88), (5, 96), (6, 104), (7, 112), (8, 117), (9, 125)] 133 r116_1 (by decide +kernel) (by decide +kernel) (by decide +kernel))
theorem b116_56 (d : Nat) (l0 : Nat) (l1 : Int32) (h : aH) (K : Option Value → aH → Prop) : E scr false d 116 56 [.ref l0, .int l1] [] h K = gR scr h l0 8 1 (fun x1 : Nat => gI scr h x1 5 0 (fun x2 : Int32 => K (some (.int x2)) h)) := go (w := (57, [.ref l0, .int l1], [.ref l0], h)) r116_56 rfl rfl (E_gR r116_57 rfl (fun x1 => E_gI r116_60 rfl (fun x2 => E_ri r116_63 (mq116))))
theorem b116_64 (d : Nat) (l0 : Nat) (l1 : Int32) (h : aH) (K : Option Value → aH → Prop) : E scr false d 116 64 [.ref l0, .int l1] [] h K = gR scr h l0 8 1 (fun x1 : Nat => gI scr h x1 5 1 (fun x2 : Int32 => K (some (.int x2)) h)) := go (w := (65, [.ref l0, .int l1], [.ref l0], h)) r116_64 rfl rfl (E_gR r116_65 rfl (fun x1 => E_gI r116_68 rfl (fun x2 => E_ri r116_71 (mq116))))
theorem b116_72 (d : Nat) (l0 : Nat) (l1 : Int32) (h : aH) (K : Option Value → aH → Prop) : E scr false d 116 72 [.ref l0, .int l1] [] h K = gR scr h l0 8 1 (fun x1 : Nat => gI scr h x1 5 3 (fun x2 : Int32 => K (some (.int x2)) h)) := go (w := (73, [.ref l0, .int l1], [.ref l0], h)) r116_72 rfl rfl (E_gR r116_73 rfl (fun x1 => E_gI r116_76 rfl (fun x2 => E_ri r116_79 (mq116))))
theorem b116_80 (d : Nat) (l0 : Nat) (l1 : Int32) (h : aH) (K : Option Value → aH → Prop) : E scr false d 116 80 [.ref l0, .int l1] [] h K = gR scr h l0 8 1 (fun x1 : Nat => gI scr h x1 5 4 (fun x2 : Int32 => K (some (.int x2)) h)) := go (w := (81, [.ref l0, .int l1], [.ref l0], h)) r116_80 rfl rfl (E_gR r116_81 rfl (fun x1 => E_gI r116_84 rfl (fun x2 => E_ri r116_87 (mq116))))
theorem b116_88 (d : Nat) (l0 : Nat) (l1 : Int32) (h : aH) (K : Option Value → aH → Prop) : E scr false d 116 88 [.ref l0, .int l1] [] h K = gR scr h l0 8 1 (fun x1 : Nat => gI scr h x1 5 5 (fun x2 : Int32 => K (some (.int x2)) h)) := go (w := (89, [.ref l0, .int l1], [.ref l0], h)) r116_88 rfl rfl (E_gR r116_89 rfl (fun x1 => E_gI r116_92 rfl (fun x2 => E_ri r116_95 (mq116))))
theorem b116_96 (d : Nat) (l0 : Nat) (l1 : Int32) (h : aH) (K : Option Value → aH → Prop) : E scr false d 116 96 [.ref l0, .int l1] [] h K = gR scr h l0 8 1 (fun x1 : Nat => gI scr h x1 5 6 (fun x2 : Int32 => K (some (.int x2)) h)) := go (w := (97, [.ref l0, .int l1], [.ref l0], h)) r116_96 rfl rfl (E_gR r116_97 rfl (fun x1 => E_gI r116_100 rfl (fun x2 => E_ri r116_103 (mq116))))
theorem b116_104 (d : Nat) (l0 : Nat) (l1 : Int32) (h : aH) (K : Option Value → aH → Prop) : E scr false d 116 104 [.ref l0, .int l1] [] h K = gR scr h l0 8 1 (fun x1 : Nat => gI scr h x1 5 7 (fun x2 : Int32 => K (some (.int x2)) h)) := go (w := (105, [.ref l0, .int l1], [.ref l0], h)) r116_104 rfl rfl (E_gR r116_105 rfl (fun x1 => E_gI r116_108 rfl (fun x2 => E_ri r116_111 (mq116))))
theorem b116_112 (d : Nat) (l0 : Nat) (l1 : Int32) (h : aH) (K : Option Value → aH → Prop) : E scr false d 116 112 [.ref l0, .int l1] [] h K = gI scr h l0 8 6 (fun x1 : Int32 => K (some (.int x1)) h) := go (w := (113, [.ref l0, .int l1], [.ref l0], h)) r116_112 rfl rfl (E_gI r116_113 rfl (fun x1 => E_ri r116_116 (mq116)))
theorem b116_117 (d : Nat) (l0 : Nat) (l1 : Int32) (h : aH) (K : Option Value → aH → Prop) : E scr false d 116 117 [.ref l0, .int l1] [] h K = gR scr h l0 8 0 (fun x1 : Nat => gI scr h x1 6 1 (fun x2 : Int32 => K (some (.int x2)) h)) := go (w := (118, [.ref l0, .int l1], [.ref l0], h)) r116_117 rfl rfl (E_gR r116_118 rfl (fun x1 => E_gI r116_121 rfl (fun x2 => E_ri r116_124 (mq116))))
theorem b116_125 (d : Nat) (l0 : Nat) (l1 : Int32) (h : aH) (K : Option Value → aH → Prop) : E scr false d 116 125 [.ref l0, .int l1] [] h K = gR scr h l0 8 1 (fun x1 : Nat => gI scr h x1 5 2 (fun x2 : Int32 => K (some (.int x2)) h)) := go (w := (126, [.ref l0, .int l1], [.ref l0], h)) r116_125 rfl rfl (E_gR r116_126 rfl (fun x1 => E_gI r116_129 rfl (fun x2 => E_ri r116_132 (mq116))))
theorem b116_133 (d : Nat) (l0 : Nat) (l1 : Int32) (h : aH) (K : Option Value → aH → Prop) : E scr false d 116 133 [.ref l0, .int l1] [] h K = K (some (.int (-1))) h := E_ic r116_133 (v := (-1)) (by decide) (E_ri r116_134 (mq116))
-- 117 SecondNearest.image(I)I
theorem mq117 : mRet 117 = (some .int) := by decide +kernel
theorem r117_0 : rowAt 117 0 = some (.iload_n 1, 1, 0, 0) := by decide +kernel
theorem r117_1 : rowAt 117 1 = some (.ifCond .lt 8, 3, 0, 0) := by decide +kernel
theorem r117_4 : rowAt 117 4 = some (.iload_n 1, 1, 0, 0) := by decide +kernel
theorem r117_5 : rowAt 117 5 = some (.iconst 4, 1, 0, 0) := by decide +kernel
theorem r117_6 : rowAt 117 6 = some (.if_icmp .lt 5, 3, 0, 0) := by decide +kernel
theorem r117_9 : rowAt 117 9 = some (.iconst (-1), 1, 0, 0) := by decide +kernel
theorem r117_10 : rowAt 117 10 = some (.ireturn, 1, 0, 0) := by decide +kernel
theorem r117_11 : rowAt 117 11 = some (.aload_n 0, 1, 0, 0) := by decide +kernel
theorem r117_12 : rowAt 117 12 = some (.getfield 80, 3, 8, 10) := by decide +kernel
theorem r117_15 : rowAt 117 15 = some (.iload_n 1, 1, 0, 0) := by decide +kernel
theorem r117_16 : rowAt 117 16 = some (.aaload, 1, 0, 0) := by decide +kernel
theorem r117_17 : rowAt 117 17 = some (.aload_n 0, 1, 0, 0) := by decide +kernel
theorem r117_18 : rowAt 117 18 = some (.getfield 19, 3, 8, 1) := by decide +kernel
theorem r117_21 : rowAt 117 21 = some (.invokevirtual 103, 3, 51, 0) := by decide +kernel
theorem r117_24 : rowAt 117 24 = some (.aload_n 0, 1, 0, 0) := by decide +kernel
theorem r117_25 : rowAt 117 25 = some (.getfield 84, 3, 8, 11) := by decide +kernel
theorem r117_28 : rowAt 117 28 = some (.iload_n 1, 1, 0, 0) := by decide +kernel
theorem r117_29 : rowAt 117 29 = some (.iconst 1, 1, 0, 0) := by decide +kernel
theorem r117_30 : rowAt 117 30 = some (.bastore, 1, 0, 0) := by decide +kernel
theorem r117_31 : rowAt 117 31 = some (.aload_n 0, 1, 0, 0) := by decide +kernel
theorem r117_32 : rowAt 117 32 = some (.getfield 19, 3, 8, 1) := by decide +kernel
theorem r117_35 : rowAt 117 35 = some (.getfield 173, 3, 5, 5) := by decide +kernel
theorem r117_38 : rowAt 117 38 = some (.ireturn, 1, 0, 0) := by decide +kernel
theorem en117 (a0 : Nat) (a1 : Int32) : iniL 117 [.ref a0, .int a1] = [.ref a0, .int a1] := ini_n mi117 rfl
theorem b117_0 (d : Nat) (l0 : Nat) (l1 : Int32) (h : aH) (K : Option Value → aH → Prop) : E scr false (d + 1) 117 0 [.ref l0, .int l1] [] h K = (if l1 < 0 then K (some (.int (-1))) h else (if l1 < 4 then gR scr h l0 8 10 (fun x1 : Nat => aR h x1 l1 (fun x2 : Nat => gR scr h l0 8 1 (fun x3 : Nat => vV scr d 51 [.ref x2, .ref x3] h (fun h4 : aH => gR scr h4 l0 8 11 (fun x6 : Nat => wB h4 x6 l1 1 (fun h7 : aH => gR scr h7 l0 8 1 (fun x8 : Nat => gI scr h7 x8 5 5 (fun x9 : Int32 => K (some (.int x9)) h7)))))))) else K (some (.int (-1))) h)) := go (w := (1, [.ref l0, .int l1], [.int l1], h)) r117_0 rfl rfl (E_i1_lt r117_1 rfl (E_ic r117_9 (v := (-1)) (by decide) (E_ri r117_10 (mq117))) (go (w := (5, [.ref l0, .int l1], [.int l1], h)) r117_4 rfl rfl (E_ic r117_5 (v := 4) (by decide) (E_i2_lt r117_6 rfl (go (w := (12, [.ref l0, .int l1], [.ref l0], h)) r117_11 rfl rfl (E_gR r117_12 rfl (fun x1 => go (w := (16, [.ref l0, .int l1], [.int l1, .ref x1], h)) r117_15 rfl rfl (E_aR r117_16 (fun x2 => go (w := (18, [.ref l0, .int l1], [.ref l0, .ref x2], h)) r117_17 rfl rfl (E_gR r117_18 rfl (fun x3 => E_vV r117_21 (As := [.ref x2, .ref x3]) (rest := []) (cut_n mi51.1 rfl rfl) (rm8_n mi51.2.1 (Nat.le_of_ble_eq_true rfl) (Nat.le_of_ble_eq_true rfl)) mi51.2.2 (fun h4 => go (w := (25, [.ref l0, .int l1], [.ref l0], h4)) r117_24 rfl rfl (E_gR r117_25 rfl (fun x6 => go (w := (29, [.ref l0, .int l1], [.int l1, .ref x6], h4)) r117_28 rfl rfl (E_ic r117_29 (v := 1) (by decide) (E_wB r117_30 (fun h7 => go (w := (32, [.ref l0, .int l1], [.ref l0], h7)) r117_31 rfl rfl (E_gR r117_32 rfl (fun x8 => E_gI r117_35 rfl (fun x9 => E_ri r117_38 (mq117))))))))))))))))) (E_ic r117_9 (v := (-1)) (by decide) (E_ri r117_10 (mq117)))))))
-- 118 SecondNearest.back(I)I
theorem mq118 : mRet 118 = (some .int) := by decide +kernel
theorem r118_0 : rowAt 118 0 = some (.iload_n 1, 1, 0, 0) := by decide +kernel
theorem r118_1 : rowAt 118 1 = some (.ifCond .lt 17, 3, 0, 0) := by decide +kernel
theorem r118_4 : rowAt 118 4 = some (.iload_n 1, 1, 0, 0) := by decide +kernel
theorem r118_5 : rowAt 118 5 = some (.iconst 4, 1, 0, 0) := by decide +kernel
theorem r118_6 : rowAt 118 6 = some (.if_icmp .ge 12, 3, 0, 0) := by decide +kernel
theorem r118_9 : rowAt 118 9 = some (.aload_n 0, 1, 0, 0) := by decide +kernel
theorem r118_10 : rowAt 118 10 = some (.getfield 84, 3, 8, 11) := by decide +kernel
theorem r118_13 : rowAt 118 13 = some (.iload_n 1, 1, 0, 0) := by decide +kernel
theorem r118_14 : rowAt 118 14 = some (.baload, 1, 0, 0) := by decide +kernel
theorem r118_15 : rowAt 118 15 = some (.ifCond .ne 5, 3, 0, 0) := by decide +kernel
theorem r118_18 : rowAt 118 18 = some (.iconst (-1), 1, 0, 0) := by decide +kernel
theorem r118_19 : rowAt 118 19 = some (.ireturn, 1, 0, 0) := by decide +kernel
theorem r118_20 : rowAt 118 20 = some (.aload_n 0, 1, 0, 0) := by decide +kernel
theorem r118_21 : rowAt 118 21 = some (.getfield 19, 3, 8, 1) := by decide +kernel
theorem r118_24 : rowAt 118 24 = some (.aload_n 0, 1, 0, 0) := by decide +kernel
theorem r118_25 : rowAt 118 25 = some (.getfield 80, 3, 8, 10) := by decide +kernel
theorem r118_28 : rowAt 118 28 = some (.iload_n 1, 1, 0, 0) := by decide +kernel
theorem r118_29 : rowAt 118 29 = some (.aaload, 1, 0, 0) := by decide +kernel
theorem r118_30 : rowAt 118 30 = some (.invokevirtual 103, 3, 51, 0) := by decide +kernel
theorem r118_33 : rowAt 118 33 = some (.aload_n 0, 1, 0, 0) := by decide +kernel
theorem r118_34 : rowAt 118 34 = some (.getfield 58, 3, 8, 7) := by decide +kernel
theorem r118_37 : rowAt 118 37 = some (.aload_n 0, 1, 0, 0) := by decide +kernel
theorem r118_38 : rowAt 118 38 = some (.getfield 19, 3, 8, 1) := by decide +kernel
theorem r118_41 : rowAt 118 41 = some (.invokevirtual 107, 3, 1, 0) := by decide +kernel
theorem r118_44 : rowAt 118 44 = some (.aload_n 0, 1, 0, 0) := by decide +kernel
theorem r118_45 : rowAt 118 45 = some (.getfield 19, 3, 8, 1) := by decide +kernel
theorem r118_48 : rowAt 118 48 = some (.getfield 173, 3, 5, 5) := by decide +kernel
theorem r118_51 : rowAt 118 51 = some (.ireturn, 1, 0, 0) := by decide +kernel
theorem en118 (a0 : Nat) (a1 : Int32) : iniL 118 [.ref a0, .int a1] = [.ref a0, .int a1] := ini_n mi118 rfl
theorem b118_0 (d : Nat) (l0 : Nat) (l1 : Int32) (h : aH) (K : Option Value → aH → Prop) : E scr false (d + 1) 118 0 [.ref l0, .int l1] [] h K = (if l1 < 0 then K (some (.int (-1))) h else (if 4 ≤ l1 then K (some (.int (-1))) h else gR scr h l0 8 11 (fun x1 : Nat => aB scr h x1 l1 (fun x2 : Int32 => (if x2 = 0 then K (some (.int (-1))) h else gR scr h l0 8 1 (fun x3 : Nat => gR scr h l0 8 10 (fun x4 : Nat => aR h x4 l1 (fun x5 : Nat => vV scr d 51 [.ref x3, .ref x5] h (fun h6 : aH => gR scr h6 l0 8 7 (fun x8 : Nat => gR scr h6 l0 8 1 (fun x9 : Nat => vV scr d 1 [.ref x8, .ref x9] h6 (fun h10 : aH => gR scr h10 l0 8 1 (fun x12 : Nat => gI scr h10 x12 5 5 (fun x13 : Int32 => K (some (.int x13)) h10)))))))))))))) := go (w := (1, [.ref l0, .int l1], [.int l1], h)) r118_0 rfl rfl (E_i1_lt r118_1 rfl (E_ic r118_18 (v := (-1)) (by decide) (E_ri r118_19 (mq118))) (go (w := (5, [.ref l0, .int l1], [.int l1], h)) r118_4 rfl rfl (E_ic r118_5 (v := 4) (by decide) (E_i2_ge r118_6 rfl (E_ic r118_18 (v := (-1)) (by decide) (E_ri r118_19 (mq118))) (go (w := (10, [.ref l0, .int l1], [.ref l0], h)) r118_9 rfl rfl (E_gR r118_10 rfl (fun x1 => go (w := (14, [.ref l0, .int l1], [.int l1, .ref x1], h)) r118_13 rfl rfl (E_aB r118_14 (fun x2 => E_i1_ne r118_15 rfl (go (w := (21, [.ref l0, .int l1], [.ref l0], h)) r118_20 rfl rfl (E_gR r118_21 rfl (fun x3 => go (w := (25, [.ref l0, .int l1], [.ref l0, .ref x3], h)) r118_24 rfl rfl (E_gR r118_25 rfl (fun x4 => go (w := (29, [.ref l0, .int l1], [.int l1, .ref x4, .ref x3], h)) r118_28 rfl rfl (E_aR r118_29 (fun x5 => E_vV r118_30 (As := [.ref x3, .ref x5]) (rest := []) (cut_n mi51.1 rfl rfl) (rm8_n mi51.2.1 (Nat.le_of_ble_eq_true rfl) (Nat.le_of_ble_eq_true rfl)) mi51.2.2 (fun h6 => go (w := (34, [.ref l0, .int l1], [.ref l0], h6)) r118_33 rfl rfl (E_gR r118_34 rfl (fun x8 => go (w := (38, [.ref l0, .int l1], [.ref l0, .ref x8], h6)) r118_37 rfl rfl (E_gR r118_38 rfl (fun x9 => E_vV r118_41 (As := [.ref x8, .ref x9]) (rest := []) (cut_n mi1.1 rfl rfl) (rm8_n mi1.2.1 (Nat.le_of_ble_eq_true rfl) (Nat.le_of_ble_eq_true rfl)) mi1.2.2 (fun h10 => go (w := (45, [.ref l0, .int l1], [.ref l0], h10)) r118_44 rfl rfl (E_gR r118_45 rfl (fun x12 => E_gI r118_48 rfl (fun x13 => E_ri r118_51 (mq118))))))))))))))))) (E_ic r118_18 (v := (-1)) (by decide) (E_ri r118_19 (mq118))))))))))))
-- 119 SecondNearest.canWalk(I)Z
theorem mq119 : mRet 119 = (some .boolean) := by decide +kernel
theorem r119_0 : rowAt 119 0 = some (.aload_n 0, 1, 0, 0) := by decide +kernel
theorem r119_1 : rowAt 119 1 = some (.getfield 19, 3, 8, 1) := by decide +kernel
theorem r119_4 : rowAt 119 4 = some (.getfield 230, 3, 5, 1) := by decide +kernel
theorem r119_7 : rowAt 119 7 = some (.ifCond .le 25, 3, 0, 0) := by decide +kernel
theorem r119_10 : rowAt 119 10 = some (.iload_n 1, 1, 0, 0) := by decide +kernel
theorem r119_11 : rowAt 119 11 = some (.ifCond .lt 21, 3, 0, 0) := by decide +kernel
theorem r119_14 : rowAt 119 14 = some (.iload_n 1, 1, 0, 0) := by decide +kernel
theorem r119_15 : rowAt 119 15 = some (.aload_n 0, 1, 0, 0) := by decide +kernel
theorem r119_16 : rowAt 119 16 = some (.getfield 51, 3, 8, 6) := by decide +kernel
theorem r119_19 : rowAt 119 19 = some (.if_icmp .ge 13, 3, 0, 0) := by decide +kernel
theorem r119_22 : rowAt 119 22 = some (.iload_n 1, 1, 0, 0) := by decide +kernel
theorem r119_23 : rowAt 119 23 = some (.bipush 6, 2, 0, 0) := by decide +kernel
theorem r119_25 : rowAt 119 25 = some (.if_icmp .ge 7, 3, 0, 0) := by decide +kernel
theorem r119_28 : rowAt 119 28 = some (.iconst 1, 1, 0, 0) := by decide +kernel
theorem r119_29 : rowAt 119 29 = some (.goto 4, 3, 0, 0) := by decide +kernel
theorem r119_32 : rowAt 119 32 = some (.iconst 0, 1, 0, 0) := by decide +kernel
theorem r119_33 : rowAt 119 33 = some (.ireturn, 1, 0, 0) := by decide +kernel
theorem en119 (a0 : Nat) (a1 : Int32) : iniL 119 [.ref a0, .int a1] = [.ref a0, .int a1] := ini_n mi119 rfl
theorem b119_0 (d : Nat) (l0 : Nat) (l1 : Int32) (h : aH) (K : Option Value → aH → Prop) : E scr false d 119 0 [.ref l0, .int l1] [] h K = gR scr h l0 8 1 (fun x1 : Nat => gI scr h x1 5 1 (fun x2 : Int32 => (if x2 ≤ 0 then K (some (.int 0)) h else (if l1 < 0 then K (some (.int 0)) h else gI scr h l0 8 6 (fun x3 : Int32 => (if x3 ≤ l1 then K (some (.int 0)) h else (if 6 ≤ l1 then K (some (.int 0)) h else K (some (.int 1)) h))))))) := go (w := (1, [.ref l0, .int l1], [.ref l0], h)) r119_0 rfl rfl (E_gR r119_1 rfl (fun x1 => E_gI r119_4 rfl (fun x2 => E_i1_le r119_7 rfl (E_ic r119_32 (v := 0) (by decide) (E_rz r119_33 (mq119) (by decide))) (go (w := (11, [.ref l0, .int l1], [.int l1], h)) r119_10 rfl rfl (E_i1_lt r119_11 rfl (E_ic r119_32 (v := 0) (by decide) (E_rz r119_33 (mq119) (by decide))) (go (w := (15, [.ref l0, .int l1], [.int l1], h)) r119_14 rfl rfl (go (w := (16, [.ref l0, .int l1], [.ref l0, .int l1], h)) r119_15 rfl rfl (E_gI r119_16 rfl (fun x3 => E_i2_ge r119_19 rfl (E_ic r119_32 (v := 0) (by decide) (E_rz r119_33 (mq119) (by decide))) (go (w := (23, [.ref l0, .int l1], [.int l1], h)) r119_22 rfl rfl (E_bip r119_23 (v := 6) (by decide) (E_i2_ge r119_25 rfl (E_ic r119_32 (v := 0) (by decide) (E_rz r119_33 (mq119) (by decide))) (E_ic r119_28 (v := 1) (by decide) (E_gt r119_29 rfl (E_rz r119_33 (mq119) (by decide))))))))))))))))
-- 121 SecondNearestModel.in(JJJ)Z
theorem mq121 : mRet 121 = (some .boolean) := by decide +kernel
theorem r121_0 : rowAt 121 0 = some (.lload_n 0, 1, 0, 0) := by decide +kernel
theorem r121_1 : rowAt 121 1 = some (.lload_n 2, 1, 0, 0) := by decide +kernel
theorem r121_2 : rowAt 121 2 = some (.lcmp, 1, 0, 0) := by decide +kernel
theorem r121_3 : rowAt 121 3 = some (.ifCond .lt 14, 3, 0, 0) := by decide +kernel
theorem r121_6 : rowAt 121 6 = some (.lload_n 0, 1, 0, 0) := by decide +kernel
theorem r121_7 : rowAt 121 7 = some (.lload 4, 2, 0, 0) := by decide +kernel
theorem r121_9 : rowAt 121 9 = some (.lcmp, 1, 0, 0) := by decide +kernel
theorem r121_10 : rowAt 121 10 = some (.ifCond .gt 7, 3, 0, 0) := by decide +kernel
theorem r121_13 : rowAt 121 13 = some (.iconst 1, 1, 0, 0) := by decide +kernel
theorem r121_14 : rowAt 121 14 = some (.goto 4, 3, 0, 0) := by decide +kernel
theorem r121_17 : rowAt 121 17 = some (.iconst 0, 1, 0, 0) := by decide +kernel
theorem r121_18 : rowAt 121 18 = some (.ireturn, 1, 0, 0) := by decide +kernel
theorem en121 (a0 : Int64) (a1 : Int64) (a2 : Int64) : iniL 121 [.long a0, .long a1, .long a2] = [.long a0, .null, .long a1, .null, .long a2, .null] := ini_n mi121 rfl
theorem b121_0 (d : Nat) (l0 : Int64) (l2 : Int64) (l4 : Int64) (h : aH) (K : Option Value → aH → Prop) : E scr false d 121 0 [.long l0, .null, .long l2, .null, .long l4, .null] [] h K = (if (lg_cmp l0 l2) < 0 then K (some (.int 0)) h else (if 0 < (lg_cmp l0 l4) then K (some (.int 0)) h else K (some (.int 1)) h)) := go (w := (1, [.long l0, .null, .long l2, .null, .long l4, .null], [.long l0], h)) r121_0 rfl rfl (go (w := (2, [.long l0, .null, .long l2, .null, .long l4, .null], [.long l2, .long l0], h)) r121_1 rfl rfl (go (w := (3, [.long l0, .null, .long l2, .null, .long l4, .null], [.int (lg_cmp l0 l2)], h)) r121_2 rfl rfl (E_i1_lt r121_3 rfl (E_ic r121_17 (v := 0) (by decide) (E_rz r121_18 (mq121) (by decide))) (go (w := (7, [.long l0, .null, .long l2, .null, .long l4, .null], [.long l0], h)) r121_6 rfl rfl (go (w := (9, [.long l0, .null, .long l2, .null, .long l4, .null], [.long l4, .long l0], h)) r121_7 rfl rfl (go (w := (10, [.long l0, .null, .long l2, .null, .long l4, .null], [.int (lg_cmp l0 l4)], h)) r121_9 rfl rfl (E_i1_gt r121_10 rfl (E_ic r121_17 (v := 0) (by decide) (E_rz r121_18 (mq121) (by decide))) (E_ic r121_13 (v := 1) (by decide) (E_gt r121_14 rfl (E_rz r121_18 (mq121) (by decide)))))))))))
-- 122 SecondNearestModel.without0(I)I
theorem mq122 : mRet 122 = (some .int) := by decide +kernel
theorem r122_0 : rowAt 122 0 = some (.iload_n 0, 1, 0, 0) := by decide +kernel
theorem r122_1 : rowAt 122 1 = some (.ifCond .ge 8, 3, 0, 0) := by decide +kernel
theorem r122_4 : rowAt 122 4 = some (.iload_n 0, 1, 0, 0) := by decide +kernel
theorem r122_5 : rowAt 122 5 = some (.ineg, 1, 0, 0) := by decide +kernel
theorem r122_6 : rowAt 122 6 = some (.goto 4, 3, 0, 0) := by decide +kernel
theorem r122_9 : rowAt 122 9 = some (.iload_n 0, 1, 0, 0) := by decide +kernel
theorem r122_10 : rowAt 122 10 = some (.ireturn, 1, 0, 0) := by decide +kernel
theorem en122 (a0 : Int32) : iniL 122 [.int a0] = [.int a0] := ini_n mi122 rfl
theorem b122_0 (d : Nat) (l0 : Int32) (h : aH) (K : Option Value → aH → Prop) : E scr false d 122 0 [.int l0] [] h K = (if 0 ≤ l0 then K (some (.int l0)) h else K (some (.int (-l0))) h) := go (w := (1, [.int l0], [.int l0], h)) r122_0 rfl rfl (E_i1_ge r122_1 rfl (go (w := (10, [.int l0], [.int l0], h)) r122_9 rfl rfl (E_ri r122_10 (mq122))) (go (w := (5, [.int l0], [.int l0], h)) r122_4 rfl rfl (go (w := (6, [.int l0], [.int (-l0)], h)) r122_5 rfl rfl (E_gt r122_6 rfl (E_ri r122_10 (mq122))))))
-- 123 SecondNearestModel.floor(II)I
theorem mq123 : mRet 123 = (some .int) := by decide +kernel
theorem r123_0 : rowAt 123 0 = some (.iload_n 0, 1, 0, 0) := by decide +kernel
theorem r123_1 : rowAt 123 1 = some (.iload_n 1, 1, 0, 0) := by decide +kernel
theorem r123_2 : rowAt 123 2 = some (.irem, 1, 0, 0) := by decide +kernel
theorem r123_3 : rowAt 123 3 = some (.ifCond .ge 11, 3, 0, 0) := by decide +kernel
theorem r123_6 : rowAt 123 6 = some (.iload_n 0, 1, 0, 0) := by decide +kernel
theorem r123_7 : rowAt 123 7 = some (.iload_n 1, 1, 0, 0) := by decide +kernel
theorem r123_8 : rowAt 123 8 = some (.idiv, 1, 0, 0) := by decide +kernel
theorem r123_9 : rowAt 123 9 = some (.iconst 1, 1, 0, 0) := by decide +kernel
theorem r123_10 : rowAt 123 10 = some (.isub, 1, 0, 0) := by decide +kernel
theorem r123_11 : rowAt 123 11 = some (.goto 6, 3, 0, 0) := by decide +kernel
theorem r123_14 : rowAt 123 14 = some (.iload_n 0, 1, 0, 0) := by decide +kernel
theorem r123_15 : rowAt 123 15 = some (.iload_n 1, 1, 0, 0) := by decide +kernel
theorem r123_16 : rowAt 123 16 = some (.idiv, 1, 0, 0) := by decide +kernel
theorem r123_17 : rowAt 123 17 = some (.ireturn, 1, 0, 0) := by decide +kernel
theorem en123 (a0 : Int32) (a1 : Int32) : iniL 123 [.int a0, .int a1] = [.int a0, .int a1] := ini_n mi123 rfl
theorem b123_0 (d : Nat) (l0 : Int32) (l1 : Int32) (h : aH) (K : Option Value → aH → Prop) : E scr false d 123 0 [.int l0, .int l1] [] h K = (¬ l1 = 0 ∧ (if 0 ≤ (irm l0 l1) then (¬ l1 = 0 ∧ K (some (.int (l0 / l1))) h) else (¬ l1 = 0 ∧ K (some (.int ((l0 / l1) - 1))) h))) := go (w := (1, [.int l0, .int l1], [.int l0], h)) r123_0 rfl rfl (go (w := (2, [.int l0, .int l1], [.int l1, .int l0], h)) r123_1 rfl rfl (E_rem r123_2 (E_i1_ge r123_3 rfl (go (w := (15, [.int l0, .int l1], [.int l0], h)) r123_14 rfl rfl (go (w := (16, [.int l0, .int l1], [.int l1, .int l0], h)) r123_15 rfl rfl (E_idiv r123_16 (E_ri r123_17 (mq123))))) (go (w := (7, [.int l0, .int l1], [.int l0], h)) r123_6 rfl rfl (go (w := (8, [.int l0, .int l1], [.int l1, .int l0], h)) r123_7 rfl rfl (E_idiv r123_8 (E_ic r123_9 (v := 1) (by decide) (go (w := (11, [.int l0, .int l1], [.int ((l0 / l1) - 1)], h)) r123_10 rfl rfl (E_gt r123_11 rfl (E_ri r123_17 (mq123)))))))))))
-- 124 SecondNearestModel.isPlain()Z
theorem mq124 : mRet 124 = (some .boolean) := by decide +kernel
theorem r124_0 : rowAt 124 0 = some (.aload_n 0, 1, 0, 0) := by decide +kernel
theorem r124_1 : rowAt 124 1 = some (.getfield 7, 3, 9, 1) := by decide +kernel
theorem r124_4 : rowAt 124 4 = some (.iconst 0, 1, 0, 0) := by decide +kernel
theorem r124_5 : rowAt 124 5 = some (.iaload, 1, 0, 0) := by decide +kernel
theorem r124_6 : rowAt 124 6 = some (.ifCond .le 7, 3, 0, 0) := by decide +kernel
theorem r124_9 : rowAt 124 9 = some (.iconst 1, 1, 0, 0) := by decide +kernel
theorem r124_10 : rowAt 124 10 = some (.goto 4, 3, 0, 0) := by decide +kernel
theorem r124_13 : rowAt 124 13 = some (.iconst 0, 1, 0, 0) := by decide +kernel
theorem r124_14 : rowAt 124 14 = some (.ireturn, 1, 0, 0) := by decide +kernel
theorem en124 (a0 : Nat) : iniL 124 [.ref a0] = [.ref a0] := ini_n mi124 rfl
theorem b124_0 (d : Nat) (l0 : Nat) (h : aH) (K : Option Value → aH → Prop) : E scr false d 124 0 [.ref l0] [] h K = gR scr h l0 9 1 (fun x1 : Nat => aI scr h x1 0 (fun x2 : Int32 => (if x2 ≤ 0 then K (some (.int 0)) h else K (some (.int 1)) h))) := go (w := (1, [.ref l0], [.ref l0], h)) r124_0 rfl rfl (E_gR r124_1 rfl (fun x1 => E_ic r124_4 (v := 0) (by decide) (E_aI r124_5 (fun x2 => E_i1_le r124_6 rfl (E_ic r124_13 (v := 0) (by decide) (E_rz r124_14 (mq124) (by decide))) (E_ic r124_9 (v := 1) (by decide) (E_gt r124_10 rfl (E_rz r124_14 (mq124) (by decide))))))))
-- 125 SecondNearestModel.isCell(II)Z
theorem mq125 : mRet 125 = (some .boolean) := by decide +kernel
theorem r125_0 : rowAt 125 0 = some (.iload_n 1, 1, 0, 0) := by decide +kernel
theorem r125_1 : rowAt 125 1 = some (.i2l, 1, 0, 0) := by decide +kernel
theorem r125_2 : rowAt 125 2 = some (.lconst 0, 1, 0, 0) := by decide +kernel
theorem r125_3 : rowAt 125 3 = some (.aload_n 0, 1, 0, 0) := by decide +kernel
theorem r125_4 : rowAt 125 4 = some (.getfield 7, 3, 9, 1) := by decide +kernel
theorem r125_7 : rowAt 125 7 = some (.iconst 0, 1, 0, 0) := by decide +kernel
theorem r125_8 : rowAt 125 8 = some (.iaload, 1, 0, 0) := by decide +kernel
theorem r125_9 : rowAt 125 9 = some (.iconst 1, 1, 0, 0) := by decide +kernel
theorem r125_10 : rowAt 125 10 = some (.isub, 1, 0, 0) := by decide +kernel
theorem r125_11 : rowAt 125 11 = some (.i2l, 1, 0, 0) := by decide +kernel
theorem r125_12 : rowAt 125 12 = some (.invokestatic 143, 3, 121, 1) := by decide +kernel
theorem r125_15 : rowAt 125 15 = some (.ifCond .eq 25, 3, 0, 0) := by decide +kernel
theorem r125_18 : rowAt 125 18 = some (.iload_n 2, 1, 0, 0) := by decide +kernel
theorem r125_19 : rowAt 125 19 = some (.i2l, 1, 0, 0) := by decide +kernel
theorem r125_20 : rowAt 125 20 = some (.lconst 0, 1, 0, 0) := by decide +kernel
theorem r125_21 : rowAt 125 21 = some (.aload_n 0, 1, 0, 0) := by decide +kernel
theorem r125_22 : rowAt 125 22 = some (.getfield 7, 3, 9, 1) := by decide +kernel
theorem r125_25 : rowAt 125 25 = some (.iconst 1, 1, 0, 0) := by decide +kernel
theorem r125_26 : rowAt 125 26 = some (.iaload, 1, 0, 0) := by decide +kernel
theorem r125_27 : rowAt 125 27 = some (.iconst 1, 1, 0, 0) := by decide +kernel
theorem r125_28 : rowAt 125 28 = some (.isub, 1, 0, 0) := by decide +kernel
theorem r125_29 : rowAt 125 29 = some (.i2l, 1, 0, 0) := by decide +kernel
theorem r125_30 : rowAt 125 30 = some (.invokestatic 143, 3, 121, 1) := by decide +kernel
theorem r125_33 : rowAt 125 33 = some (.ifCond .eq 7, 3, 0, 0) := by decide +kernel
theorem r125_36 : rowAt 125 36 = some (.iconst 1, 1, 0, 0) := by decide +kernel
theorem r125_37 : rowAt 125 37 = some (.goto 4, 3, 0, 0) := by decide +kernel
theorem r125_40 : rowAt 125 40 = some (.iconst 0, 1, 0, 0) := by decide +kernel
theorem r125_41 : rowAt 125 41 = some (.ireturn, 1, 0, 0) := by decide +kernel
theorem en125 (a0 : Nat) (a1 : Int32) (a2 : Int32) : iniL 125 [.ref a0, .int a1, .int a2] = [.ref a0, .int a1, .int a2] := ini_n mi125 rfl
theorem b125_0 (d : Nat) (l0 : Nat) (l1 : Int32) (l2 : Int32) (h : aH) (K : Option Value → aH → Prop) : E scr false (d + 1) 125 0 [.ref l0, .int l1, .int l2] [] h K = gR scr h l0 9 1 (fun x1 : Nat => aI scr h x1 0 (fun x2 : Int32 => sI scr d 121 [.long (Int32.toInt64 l1), .long 0, .long (Int32.toInt64 (x2 - 1))] h (fun (x4 : Int32) (h3 : aH) => (if x4 = 0 then K (some (.int 0)) h3 else gR scr h3 l0 9 1 (fun x5 : Nat => aI scr h3 x5 1 (fun x6 : Int32 => sI scr d 121 [.long (Int32.toInt64 l2), .long 0, .long (Int32.toInt64 (x6 - 1))] h3 (fun (x8 : Int32) (h7 : aH) => (if x8 = 0 then K (some (.int 0)) h7 else K (some (.int 1)) h7)))))))) := go (w := (1, [.ref l0, .int l1, .int l2], [.int l1], h)) r125_0 rfl rfl (go (w := (2, [.ref l0, .int l1, .int l2], [.long (Int32.toInt64 l1)], h)) r125_1 rfl rfl (E_lc r125_2 (v := 0) (by decide) (go (w := (4, [.ref l0, .int l1, .int l2], [.ref l0, .long 0, .long (Int32.toInt64 l1)], h)) r125_3 rfl rfl (E_gR r125_4 rfl (fun x1 => E_ic r125_7 (v := 0) (by decide) (E_aI r125_8 (fun x2 => E_ic r125_9 (v := 1) (by decide) (go (w := (11, [.ref l0, .int l1, .int l2], [.int (x2 - 1), .long 0, .long (Int32.toInt64 l1)], h)) r125_10 rfl rfl (go (w := (12, [.ref l0, .int l1, .int l2], [.long (Int32.toInt64 (x2 - 1)), .long 0, .long (Int32.toInt64 l1)], h)) r125_11 rfl rfl (E_sI r125_12 (As := [.long (Int32.toInt64 l1), .long 0, .long (Int32.toInt64 (x2 - 1))]) (rest := []) (cut_n mi121.1 rfl rfl) (rm8_n mi121.2.1 (Nat.le_of_ble_eq_true rfl) (Nat.le_of_ble_eq_true rfl)) mi121.2.2 (fun x4 h3 => E_i1_eq r125_15 rfl (E_ic r125_40 (v := 0) (by decide) (E_rz r125_41 (mq125) (by decide))) (go (w := (19, [.ref l0, .int l1, .int l2], [.int l2], h3)) r125_18 rfl rfl (go (w := (20, [.ref l0, .int l1, .int l2], [.long (Int32.toInt64 l2)], h3)) r125_19 rfl rfl (E_lc r125_20 (v := 0) (by decide) (go (w := (22, [.ref l0, .int l1, .int l2], [.ref l0, .long 0, .long (Int32.toInt64 l2)], h3)) r125_21 rfl rfl (E_gR r125_22 rfl (fun x5 => E_ic r125_25 (v := 1) (by decide) (E_aI r125_26 (fun x6 => E_ic r125_27 (v := 1) (by decide) (go (w := (29, [.ref l0, .int l1, .int l2], [.int (x6 - 1), .long 0, .long (Int32.toInt64 l2)], h3)) r125_28 rfl rfl (go (w := (30, [.ref l0, .int l1, .int l2], [.long (Int32.toInt64 (x6 - 1)), .long 0, .long (Int32.toInt64 l2)], h3)) r125_29 rfl rfl (E_sI r125_30 (As := [.long (Int32.toInt64 l2), .long 0, .long (Int32.toInt64 (x6 - 1))]) (rest := []) (cut_n mi121.1 rfl rfl) (rm8_n mi121.2.1 (Nat.le_of_ble_eq_true rfl) (Nat.le_of_ble_eq_true rfl)) mi121.2.2 (fun x8 h7 => E_i1_eq r125_33 rfl (E_ic r125_40 (v := 0) (by decide) (E_rz r125_41 (mq125) (by decide))) (E_ic r125_36 (v := 1) (by decide) (E_gt r125_37 rfl (E_rz r125_41 (mq125) (by decide)))))))))))))))))))))))))))
-- 126 SecondNearestModel.isThere(I)Z
theorem mq126 : mRet 126 = (some .boolean) := by decide +kernel
theorem r126_0 : rowAt 126 0 = some (.aload_n 0, 1, 0, 0) := by decide +kernel
theorem r126_1 : rowAt 126 1 = some (.iload_n 1, 1, 0, 0) := by decide +kernel
theorem r126_2 : rowAt 126 2 = some (.bipush 12, 2, 0, 0) := by decide +kernel
theorem r126_4 : rowAt 126 4 = some (.irem, 1, 0, 0) := by decide +kernel
theorem r126_5 : rowAt 126 5 = some (.iload_n 1, 1, 0, 0) := by decide +kernel
theorem r126_6 : rowAt 126 6 = some (.bipush 12, 2, 0, 0) := by decide +kernel
theorem r126_8 : rowAt 126 8 = some (.idiv, 1, 0, 0) := by decide +kernel
theorem r126_9 : rowAt 126 9 = some (.invokevirtual 147, 3, 125, 0) := by decide +kernel
theorem r126_12 : rowAt 126 12 = some (.ireturn, 1, 0, 0) := by decide +kernel
theorem en126 (a0 : Nat) (a1 : Int32) : iniL 126 [.ref a0, .int a1] = [.ref a0, .int a1] := ini_n mi126 rfl
theorem b126_0 (d : Nat) (l0 : Nat) (l1 : Int32) (h : aH) (K : Option Value → aH → Prop) : E scr false (d + 1) 126 0 [.ref l0, .int l1] [] h K = vI scr d 125 [.ref l0, .int (irm l1 12), .int (l1 / 12)] h (fun (x2 : Int32) (h1 : aH) => (x2 &&& 1 = x2 ∧ K (some (.int x2)) h1)) := go (w := (1, [.ref l0, .int l1], [.ref l0], h)) r126_0 rfl rfl (go (w := (2, [.ref l0, .int l1], [.int l1, .ref l0], h)) r126_1 rfl rfl (E_bip r126_2 (v := 12) (by decide) (E_remc r126_4 (by decide) (go (w := (6, [.ref l0, .int l1], [.int l1, .int (irm l1 12), .ref l0], h)) r126_5 rfl rfl (E_bip r126_6 (v := 12) (by decide) (E_divc r126_8 (by decide) (E_vI r126_9 (As := [.ref l0, .int (irm l1 12), .int (l1 / 12)]) (rest := []) (cut_n mi125.1 rfl rfl) (rm8_n mi125.2.1 (Nat.le_of_ble_eq_true rfl) (Nat.le_of_ble_eq_true rfl)) mi125.2.2 (fun x2 h1 => E_zret r126_12 (mq126)))))))))
-- 127 SecondNearestModel.isPerson(I)Z
theorem mq127 : mRet 127 = (some .boolean) := by decide +kernel
theorem r127_0 : rowAt 127 0 = some (.iload_n 1, 1, 0, 0) := by decide +kernel
theorem r127_1 : rowAt 127 1 = some (.i2l, 1, 0, 0) := by decide +kernel
theorem r127_2 : rowAt 127 2 = some (.lconst 0, 1, 0, 0) := by decide +kernel
theorem r127_3 : rowAt 127 3 = some (.aload_n 0, 1, 0, 0) := by decide +kernel
theorem r127_4 : rowAt 127 4 = some (.getfield 7, 3, 9, 1) := by decide +kernel
theorem r127_7 : rowAt 127 7 = some (.iconst 2, 1, 0, 0) := by decide +kernel
theorem r127_8 : rowAt 127 8 = some (.iaload, 1, 0, 0) := by decide +kernel
theorem r127_9 : rowAt 127 9 = some (.iconst 1, 1, 0, 0) := by decide +kernel
theorem r127_10 : rowAt 127 10 = some (.isub, 1, 0, 0) := by decide +kernel
theorem r127_11 : rowAt 127 11 = some (.i2l, 1, 0, 0) := by decide +kernel
theorem r127_12 : rowAt 127 12 = some (.invokestatic 143, 3, 121, 1) := by decide +kernel
theorem r127_15 : rowAt 127 15 = some (.ireturn, 1, 0, 0) := by decide +kernel
theorem en127 (a0 : Nat) (a1 : Int32) : iniL 127 [.ref a0, .int a1] = [.ref a0, .int a1] := ini_n mi127 rfl
theorem b127_0 (d : Nat) (l0 : Nat) (l1 : Int32) (h : aH) (K : Option Value → aH → Prop) : E scr false (d + 1) 127 0 [.ref l0, .int l1] [] h K = gR scr h l0 9 1 (fun x1 : Nat => aI scr h x1 2 (fun x2 : Int32 => sI scr d 121 [.long (Int32.toInt64 l1), .long 0, .long (Int32.toInt64 (x2 - 1))] h (fun (x4 : Int32) (h3 : aH) => (x4 &&& 1 = x4 ∧ K (some (.int x4)) h3)))) := go (w := (1, [.ref l0, .int l1], [.int l1], h)) r127_0 rfl rfl (go (w := (2, [.ref l0, .int l1], [.long (Int32.toInt64 l1)], h)) r127_1 rfl rfl (E_lc r127_2 (v := 0) (by decide) (go (w := (4, [.ref l0, .int l1], [.ref l0, .long 0, .long (Int32.toInt64 l1)], h)) r127_3 rfl rfl (E_gR r127_4 rfl (fun x1 => E_ic r127_7 (v := 2) (by decide) (E_aI r127_8 (fun x2 => E_ic r127_9 (v := 1) (by decide) (go (w := (11, [.ref l0, .int l1], [.int (x2 - 1), .long 0, .long (Int32.toInt64 l1)], h)) r127_10 rfl rfl (go (w := (12, [.ref l0, .int l1], [.long (Int32.toInt64 (x2 - 1)), .long 0, .long (Int32.toInt64 l1)], h)) r127_11 rfl rfl (E_sI r127_12 (As := [.long (Int32.toInt64 l1), .long 0, .long (Int32.toInt64 (x2 - 1))]) (rest := []) (cut_n mi121.1 rfl rfl) (rm8_n mi121.2.1 (Nat.le_of_ble_eq_true rfl) (Nat.le_of_ble_eq_true rfl)) mi121.2.2 (fun x4 h3 => E_zret r127_15 (mq127))))))))))))
-- 128 SecondNearestModel.isWho(I)Z
theorem mq128 : mRet 128 = (some .boolean) := by decide +kernel
theorem r128_0 : rowAt 128 0 = some (.aload_n 0, 1, 0, 0) := by decide +kernel
theorem r128_1 : rowAt 128 1 = some (.iload_n 1, 1, 0, 0) := by decide +kernel
theorem r128_2 : rowAt 128 2 = some (.invokevirtual 151, 3, 127, 0) := by decide +kernel
theorem r128_5 : rowAt 128 5 = some (.ifCond .ne 26, 3, 0, 0) := by decide +kernel
theorem r128_8 : rowAt 128 8 = some (.iload_n 1, 1, 0, 0) := by decide +kernel
theorem r128_9 : rowAt 128 9 = some (.i2l, 1, 0, 0) := by decide +kernel
theorem r128_10 : rowAt 128 10 = some (.ldc2_w 155, 3, 12, 0) := by decide +kernel
theorem r128_13 : rowAt 128 13 = some (.bipush 12, 2, 0, 0) := by decide +kernel
theorem r128_15 : rowAt 128 15 = some (.aload_n 0, 1, 0, 0) := by decide +kernel
theorem r128_16 : rowAt 128 16 = some (.getfield 7, 3, 9, 1) := by decide +kernel
theorem r128_19 : rowAt 128 19 = some (.iconst 3, 1, 0, 0) := by decide +kernel
theorem r128_20 : rowAt 128 20 = some (.iaload, 1, 0, 0) := by decide +kernel
theorem r128_21 : rowAt 128 21 = some (.iadd, 1, 0, 0) := by decide +kernel
theorem r128_22 : rowAt 128 22 = some (.iconst 1, 1, 0, 0) := by decide +kernel
theorem r128_23 : rowAt 128 23 = some (.isub, 1, 0, 0) := by decide +kernel
theorem r128_24 : rowAt 128 24 = some (.i2l, 1, 0, 0) := by decide +kernel
theorem r128_25 : rowAt 128 25 = some (.invokestatic 143, 3, 121, 1) := by decide +kernel
theorem r128_28 : rowAt 128 28 = some (.ifCond .eq 7, 3, 0, 0) := by decide +kernel
theorem r128_31 : rowAt 128 31 = some (.iconst 1, 1, 0, 0) := by decide +kernel
theorem r128_32 : rowAt 128 32 = some (.goto 4, 3, 0, 0) := by decide +kernel
theorem r128_35 : rowAt 128 35 = some (.iconst 0, 1, 0, 0) := by decide +kernel
theorem r128_36 : rowAt 128 36 = some (.ireturn, 1, 0, 0) := by decide +kernel
theorem en128 (a0 : Nat) (a1 : Int32) : iniL 128 [.ref a0, .int a1] = [.ref a0, .int a1] := ini_n mi128 rfl
theorem b128_0 (d : Nat) (l0 : Nat) (l1 : Int32) (h : aH) (K : Option Value → aH → Prop) : E scr false (d + 1) 128 0 [.ref l0, .int l1] [] h K = vI scr d 127 [.ref l0, .int l1] h (fun (x2 : Int32) (h1 : aH) => (if x2 = 0 then gR scr h1 l0 9 1 (fun x3 : Nat => aI scr h1 x3 3 (fun x4 : Int32 => sI scr d 121 [.long (Int32.toInt64 l1), .long 12, .long (Int32.toInt64 ((12 + x4) - 1))] h1 (fun (x6 : Int32) (h5 : aH) => (if x6 = 0 then K (some (.int 0)) h5 else E scr false (d + 1) 128 31 [.ref l0, .int l1] [] h5 K)))) else E scr false (d + 1) 128 31 [.ref l0, .int l1] [] h1 K)) := go (w := (1, [.ref l0, .int l1], [.ref l0], h)) r128_0 rfl rfl (go (w := (2, [.ref l0, .int l1], [.int l1, .ref l0], h)) r128_1 rfl rfl (E_vI r128_2 (As := [.ref l0, .int l1]) (rest := []) (cut_n mi127.1 rfl rfl) (rm8_n mi127.2.1 (Nat.le_of_ble_eq_true rfl) (Nat.le_of_ble_eq_true rfl)) mi127.2.2 (fun x2 h1 => E_i1_ne r128_5 rfl (rfl) (go (w := (9, [.ref l0, .int l1], [.int l1], h1)) r128_8 rfl rfl (go (w := (10, [.ref l0, .int l1], [.long (Int32.toInt64 l1)], h1)) r128_9 rfl rfl (E_ld2 r128_10 (v := 12) (by decide) (E_bip r128_13 (v := 12) (by decide) (go (w := (16, [.ref l0, .int l1], [.ref l0, .int 12, .long 12, .long (Int32.toInt64 l1)], h1)) r128_15 rfl rfl (E_gR r128_16 rfl (fun x3 => E_ic r128_19 (v := 3) (by decide) (E_aI r128_20 (fun x4 => go (w := (22, [.ref l0, .int l1], [.int (12 + x4), .long 12, .long (Int32.toInt64 l1)], h1)) r128_21 rfl rfl (E_ic r128_22 (v := 1) (by decide) (go (w := (24, [.ref l0, .int l1], [.int ((12 + x4) - 1), .long 12, .long (Int32.toInt64 l1)], h1)) r128_23 rfl rfl (go (w := (25, [.ref l0, .int l1], [.long (Int32.toInt64 ((12 + x4) - 1)), .long 12, .long (Int32.toInt64 l1)], h1)) r128_24 rfl rfl (E_sI r128_25 (As := [.long (Int32.toInt64 l1), .long 12, .long (Int32.toInt64 ((12 + x4) - 1))]) (rest := []) (cut_n mi121.1 rfl rfl) (rm8_n mi121.2.1 (Nat.le_of_ble_eq_true rfl) (Nat.le_of_ble_eq_true rfl)) mi121.2.2 (fun x6 h5 => E_i1_eq r128_28 rfl (E_ic r128_35 (v := 0) (by decide) (E_rz r128_36 (mq128) (by decide))) (rfl))))))))))))))))))
theorem b128_31 (d : Nat) (l0 : Nat) (l1 : Int32) (h : aH) (K : Option Value → aH → Prop) : E scr false d 128 31 [.ref l0, .int l1] [] h K = K (some (.int 1)) h := E_ic r128_31 (v := 1) (by decide) (E_gt r128_32 rfl (E_rz r128_36 (mq128) (by decide)))
-- 129 SecondNearestModel.isFloor(I)Z
theorem mq129 : mRet 129 = (some .boolean) := by decide +kernel
theorem r129_0 : rowAt 129 0 = some (.iload_n 0, 1, 0, 0) := by decide +kernel
theorem r129_1 : rowAt 129 1 = some (.ifCond .eq 8, 3, 0, 0) := by decide +kernel
theorem r129_4 : rowAt 129 4 = some (.iload_n 0, 1, 0, 0) := by decide +kernel
theorem r129_5 : rowAt 129 5 = some (.iconst 3, 1, 0, 0) := by decide +kernel
theorem r129_6 : rowAt 129 6 = some (.if_icmp .ne 7, 3, 0, 0) := by decide +kernel
theorem r129_9 : rowAt 129 9 = some (.iconst 1, 1, 0, 0) := by decide +kernel
theorem r129_10 : rowAt 129 10 = some (.goto 4, 3, 0, 0) := by decide +kernel
theorem r129_13 : rowAt 129 13 = some (.iconst 0, 1, 0, 0) := by decide +kernel
theorem r129_14 : rowAt 129 14 = some (.ireturn, 1, 0, 0) := by decide +kernel
theorem en129 (a0 : Int32) : iniL 129 [.int a0] = [.int a0] := ini_n mi129 rfl
theorem b129_0 (d : Nat) (l0 : Int32) (h : aH) (K : Option Value → aH → Prop) : E scr false d 129 0 [.int l0] [] h K = (if l0 = 0 then E scr false d 129 9 [.int l0] [] h K else (if l0 = 3 then E scr false d 129 9 [.int l0] [] h K else K (some (.int 0)) h)) := go (w := (1, [.int l0], [.int l0], h)) r129_0 rfl rfl (E_i1_eq r129_1 rfl (rfl) (go (w := (5, [.int l0], [.int l0], h)) r129_4 rfl rfl (E_ic r129_5 (v := 3) (by decide) (E_i2_ne r129_6 rfl (E_ic r129_13 (v := 0) (by decide) (E_rz r129_14 (mq129) (by decide))) (rfl)))))
theorem b129_9 (d : Nat) (l0 : Int32) (h : aH) (K : Option Value → aH → Prop) : E scr false d 129 9 [.int l0] [] h K = K (some (.int 1)) h := E_ic r129_9 (v := 1) (by decide) (E_gt r129_10 rfl (E_rz r129_14 (mq129) (by decide)))
-- 130 SecondNearestModel.whoAt(I)I
theorem mq130 : mRet 130 = (some .int) := by decide +kernel
theorem r130_0 : rowAt 130 0 = some (.iconst 0, 1, 0, 0) := by decide +kernel
theorem r130_1 : rowAt 130 1 = some (.istore_n 2, 1, 0, 0) := by decide +kernel
theorem r130_2 : rowAt 130 2 = some (.iload_n 2, 1, 0, 0) := by decide +kernel
theorem r130_3 : rowAt 130 3 = some (.bipush 14, 2, 0, 0) := by decide +kernel
theorem r130_5 : rowAt 130 5 = some (.if_icmp .ge 29, 3, 0, 0) := by decide +kernel
theorem r130_8 : rowAt 130 8 = some (.aload_n 0, 1, 0, 0) := by decide +kernel
theorem r130_9 : rowAt 130 9 = some (.iload_n 2, 1, 0, 0) := by decide +kernel
theorem r130_10 : rowAt 130 10 = some (.invokevirtual 157, 3, 128, 0) := by decide +kernel
theorem r130_13 : rowAt 130 13 = some (.ifCond .eq 15, 3, 0, 0) := by decide +kernel
theorem r130_16 : rowAt 130 16 = some (.aload_n 0, 1, 0, 0) := by decide +kernel
theorem r130_17 : rowAt 130 17 = some (.getfield 37, 3, 9, 10) := by decide +kernel
theorem r130_20 : rowAt 130 20 = some (.iload_n 2, 1, 0, 0) := by decide +kernel
theorem r130_21 : rowAt 130 21 = some (.iaload, 1, 0, 0) := by decide +kernel
theorem r130_22 : rowAt 130 22 = some (.iload_n 1, 1, 0, 0) := by decide +kernel
theorem r130_23 : rowAt 130 23 = some (.if_icmp .ne 5, 3, 0, 0) := by decide +kernel
theorem r130_26 : rowAt 130 26 = some (.iload_n 2, 1, 0, 0) := by decide +kernel
theorem r130_27 : rowAt 130 27 = some (.ireturn, 1, 0, 0) := by decide +kernel
theorem r130_28 : rowAt 130 28 = some (.iinc 2 1, 3, 0, 0) := by decide +kernel
theorem r130_31 : rowAt 130 31 = some (.goto (-29), 3, 0, 0) := by decide +kernel
theorem r130_34 : rowAt 130 34 = some (.iconst (-1), 1, 0, 0) := by decide +kernel
theorem r130_35 : rowAt 130 35 = some (.ireturn, 1, 0, 0) := by decide +kernel
theorem en130 (a0 : Nat) (a1 : Int32) : iniL 130 [.ref a0, .int a1] = [.ref a0, .int a1, .null] := ini_n mi130 rfl
theorem b130_0 (d : Nat) (l0 : Nat) (l1 : Int32) (h : aH) (K : Option Value → aH → Prop) : E scr false d 130 0 [.ref l0, .int l1, .null] [] h K = E scr false d 130 2 [.ref l0, .int l1, .int 0] [] h K := E_ic r130_0 (v := 0) (by decide) (go (w := (2, [.ref l0, .int l1, .int 0], [], h)) r130_1 rfl rfl (rfl))
theorem b130_2 (d : Nat) (l0 : Nat) (l1 : Int32) (l2 : Int32) (h : aH) (K : Option Value → aH → Prop) : E scr false (d + 1) 130 2 [.ref l0, .int l1, .int l2] [] h K = (if 14 ≤ l2 then K (some (.int (-1))) h else vI scr d 128 [.ref l0, .int l2] h (fun (x2 : Int32) (h1 : aH) => (if x2 = 0 then E scr false (d + 1) 130 28 [.ref l0, .int l1, .int l2] [] h1 K else gR scr h1 l0 9 10 (fun x3 : Nat => aI scr h1 x3 l2 (fun x4 : Int32 => (if x4 = l1 then K (some (.int l2)) h1 else E scr false (d + 1) 130 28 [.ref l0, .int l1, .int l2] [] h1 K)))))) := go (w := (3, [.ref l0, .int l1, .int l2], [.int l2], h)) r130_2 rfl rfl (E_bip r130_3 (v := 14) (by decide) (E_i2_ge r130_5 rfl (E_ic r130_34 (v := (-1)) (by decide) (E_ri r130_35 (mq130))) (go (w := (9, [.ref l0, .int l1, .int l2], [.ref l0], h)) r130_8 rfl rfl (go (w := (10, [.ref l0, .int l1, .int l2], [.int l2, .ref l0], h)) r130_9 rfl rfl (E_vI r130_10 (As := [.ref l0, .int l2]) (rest := []) (cut_n mi128.1 rfl rfl) (rm8_n mi128.2.1 (Nat.le_of_ble_eq_true rfl) (Nat.le_of_ble_eq_true rfl)) mi128.2.2 (fun x2 h1 => E_i1_eq r130_13 rfl (rfl) (go (w := (17, [.ref l0, .int l1, .int l2], [.ref l0], h1)) r130_16 rfl rfl (E_gR r130_17 rfl (fun x3 => go (w := (21, [.ref l0, .int l1, .int l2], [.int l2, .ref x3], h1)) r130_20 rfl rfl (E_aI r130_21 (fun x4 => go (w := (23, [.ref l0, .int l1, .int l2], [.int l1, .int x4], h1)) r130_22 rfl rfl (E_i2_ne r130_23 rfl (rfl) (go (w := (27, [.ref l0, .int l1, .int l2], [.int l2], h1)) r130_26 rfl rfl (E_ri r130_27 (mq130)))))))))))))))
theorem b130_28 (d : Nat) (l0 : Nat) (l1 : Int32) (l2 : Int32) (h : aH) (K : Option Value → aH → Prop) : E scr false d 130 28 [.ref l0, .int l1, .int l2] [] h K = E scr false d 130 2 [.ref l0, .int l1, .int (l2 + 1)] [] h K := E_inc r130_28 (c := 1) rfl (by decide) (L' := [.ref l0, .int l1, .int (l2 + 1)]) rfl (E_gt r130_31 rfl (rfl))
-- 131 SecondNearestModel.isFree(I)Z
theorem mq131 : mRet 131 = (some .boolean) := by decide +kernel
theorem r131_0 : rowAt 131 0 = some (.aload_n 0, 1, 0, 0) := by decide +kernel
theorem r131_1 : rowAt 131 1 = some (.iload_n 1, 1, 0, 0) := by decide +kernel
theorem r131_2 : rowAt 131 2 = some (.invokevirtual 160, 3, 126, 0) := by decide +kernel
theorem r131_5 : rowAt 131 5 = some (.ifCond .eq 28, 3, 0, 0) := by decide +kernel
theorem r131_8 : rowAt 131 8 = some (.aload_n 0, 1, 0, 0) := by decide +kernel
theorem r131_9 : rowAt 131 9 = some (.getfield 13, 3, 9, 2) := by decide +kernel
theorem r131_12 : rowAt 131 12 = some (.iload_n 1, 1, 0, 0) := by decide +kernel
theorem r131_13 : rowAt 131 13 = some (.iaload, 1, 0, 0) := by decide +kernel
theorem r131_14 : rowAt 131 14 = some (.invokestatic 163, 3, 129, 1) := by decide +kernel
theorem r131_17 : rowAt 131 17 = some (.ifCond .eq 16, 3, 0, 0) := by decide +kernel
theorem r131_20 : rowAt 131 20 = some (.aload_n 0, 1, 0, 0) := by decide +kernel
theorem r131_21 : rowAt 131 21 = some (.iload_n 1, 1, 0, 0) := by decide +kernel
theorem r131_22 : rowAt 131 22 = some (.invokevirtual 166, 3, 130, 0) := by decide +kernel
theorem r131_25 : rowAt 131 25 = some (.iconst (-1), 1, 0, 0) := by decide +kernel
theorem r131_26 : rowAt 131 26 = some (.if_icmp .ne 7, 3, 0, 0) := by decide +kernel
theorem r131_29 : rowAt 131 29 = some (.iconst 1, 1, 0, 0) := by decide +kernel
theorem r131_30 : rowAt 131 30 = some (.goto 4, 3, 0, 0) := by decide +kernel
theorem r131_33 : rowAt 131 33 = some (.iconst 0, 1, 0, 0) := by decide +kernel
theorem r131_34 : rowAt 131 34 = some (.ireturn, 1, 0, 0) := by decide +kernel
theorem en131 (a0 : Nat) (a1 : Int32) : iniL 131 [.ref a0, .int a1] = [.ref a0, .int a1] := ini_n mi131 rfl
theorem b131_0 (d : Nat) (l0 : Nat) (l1 : Int32) (h : aH) (K : Option Value → aH → Prop) : E scr false (d + 1) 131 0 [.ref l0, .int l1] [] h K = vI scr d 126 [.ref l0, .int l1] h (fun (x2 : Int32) (h1 : aH) => (if x2 = 0 then K (some (.int 0)) h1 else gR scr h1 l0 9 2 (fun x3 : Nat => aI scr h1 x3 l1 (fun x4 : Int32 => sI scr d 129 [.int x4] h1 (fun (x6 : Int32) (h5 : aH) => (if x6 = 0 then K (some (.int 0)) h5 else vI scr d 130 [.ref l0, .int l1] h5 (fun (x8 : Int32) (h7 : aH) => (if x8 = (-1) then K (some (.int 1)) h7 else K (some (.int 0)) h7)))))))) := go (w := (1, [.ref l0, .int l1], [.ref l0], h)) r131_0 rfl rfl (go (w := (2, [.ref l0, .int l1], [.int l1, .ref l0], h)) r131_1 rfl rfl (E_vI r131_2 (As := [.ref l0, .int l1]) (rest := []) (cut_n mi126.1 rfl rfl) (rm8_n mi126.2.1 (Nat.le_of_ble_eq_true rfl) (Nat.le_of_ble_eq_true rfl)) mi126.2.2 (fun x2 h1 => E_i1_eq r131_5 rfl (E_ic r131_33 (v := 0) (by decide) (E_rz r131_34 (mq131) (by decide))) (go (w := (9, [.ref l0, .int l1], [.ref l0], h1)) r131_8 rfl rfl (E_gR r131_9 rfl (fun x3 => go (w := (13, [.ref l0, .int l1], [.int l1, .ref x3], h1)) r131_12 rfl rfl (E_aI r131_13 (fun x4 => E_sI r131_14 (As := [.int x4]) (rest := []) (cut_n mi129.1 rfl rfl) (rm8_n mi129.2.1 (Nat.le_of_ble_eq_true rfl) (Nat.le_of_ble_eq_true rfl)) mi129.2.2 (fun x6 h5 => E_i1_eq r131_17 rfl (E_ic r131_33 (v := 0) (by decide) (E_rz r131_34 (mq131) (by decide))) (go (w := (21, [.ref l0, .int l1], [.ref l0], h5)) r131_20 rfl rfl (go (w := (22, [.ref l0, .int l1], [.int l1, .ref l0], h5)) r131_21 rfl rfl (E_vI r131_22 (As := [.ref l0, .int l1]) (rest := []) (cut_n mi130.1 rfl rfl) (rm8_n mi130.2.1 (Nat.le_of_ble_eq_true rfl) (Nat.le_of_ble_eq_true rfl)) mi130.2.2 (fun x8 h7 => E_ic r131_25 (v := (-1)) (by decide) (E_i2_ne r131_26 rfl (E_ic r131_33 (v := 0) (by decide) (E_rz r131_34 (mq131) (by decide))) (E_ic r131_29 (v := 1) (by decide) (E_gt r131_30 rfl (E_rz r131_34 (mq131) (by decide))))))))))))))))))
-- 132 SecondNearestModel.beside(II)I
theorem mq132 : mRet 132 = (some .int) := by decide +kernel
theorem r132_0 : rowAt 132 0 = some (.iload_n 1, 1, 0, 0) := by decide +kernel
theorem r132_1 : rowAt 132 1 = some (.bipush 12, 2, 0, 0) := by decide +kernel
theorem r132_3 : rowAt 132 3 = some (.irem, 1, 0, 0) := by decide +kernel
theorem r132_4 : rowAt 132 4 = some (.iload_n 2, 1, 0, 0) := by decide +kernel
theorem r132_5 : rowAt 132 5 = some (.i2l, 1, 0, 0) := by decide +kernel
theorem r132_6 : rowAt 132 6 = some (.lconst 1, 1, 0, 0) := by decide +kernel
theorem r132_7 : rowAt 132 7 = some (.ldc2_w 170, 3, 3, 0) := by decide +kernel
theorem r132_10 : rowAt 132 10 = some (.invokestatic 143, 3, 121, 1) := by decide +kernel
theorem r132_13 : rowAt 132 13 = some (.ifCond .eq 7, 3, 0, 0) := by decide +kernel
theorem r132_16 : rowAt 132 16 = some (.iconst 1, 1, 0, 0) := by decide +kernel
theorem r132_17 : rowAt 132 17 = some (.goto 22, 3, 0, 0) := by decide +kernel
theorem r132_20 : rowAt 132 20 = some (.iload_n 2, 1, 0, 0) := by decide +kernel
theorem r132_21 : rowAt 132 21 = some (.i2l, 1, 0, 0) := by decide +kernel
theorem r132_22 : rowAt 132 22 = some (.ldc2_w 172, 3, 5, 0) := by decide +kernel
theorem r132_25 : rowAt 132 25 = some (.ldc2_w 174, 3, 7, 0) := by decide +kernel
theorem r132_28 : rowAt 132 28 = some (.invokestatic 143, 3, 121, 1) := by decide +kernel
theorem r132_31 : rowAt 132 31 = some (.ifCond .eq 7, 3, 0, 0) := by decide +kernel
theorem r132_34 : rowAt 132 34 = some (.iconst (-1), 1, 0, 0) := by decide +kernel
theorem r132_35 : rowAt 132 35 = some (.goto 4, 3, 0, 0) := by decide +kernel
theorem r132_38 : rowAt 132 38 = some (.iconst 0, 1, 0, 0) := by decide +kernel
theorem r132_39 : rowAt 132 39 = some (.iadd, 1, 0, 0) := by decide +kernel
theorem r132_40 : rowAt 132 40 = some (.istore_n 3, 1, 0, 0) := by decide +kernel
theorem r132_41 : rowAt 132 41 = some (.iload_n 1, 1, 0, 0) := by decide +kernel
theorem r132_42 : rowAt 132 42 = some (.bipush 12, 2, 0, 0) := by decide +kernel
theorem r132_44 : rowAt 132 44 = some (.idiv, 1, 0, 0) := by decide +kernel
theorem r132_45 : rowAt 132 45 = some (.iload_n 2, 1, 0, 0) := by decide +kernel
theorem r132_46 : rowAt 132 46 = some (.i2l, 1, 0, 0) := by decide +kernel
theorem r132_47 : rowAt 132 47 = some (.ldc2_w 170, 3, 3, 0) := by decide +kernel
theorem r132_50 : rowAt 132 50 = some (.ldc2_w 172, 3, 5, 0) := by decide +kernel
theorem r132_53 : rowAt 132 53 = some (.invokestatic 143, 3, 121, 1) := by decide +kernel
theorem r132_56 : rowAt 132 56 = some (.ifCond .eq 7, 3, 0, 0) := by decide +kernel
theorem r132_59 : rowAt 132 59 = some (.iconst 1, 1, 0, 0) := by decide +kernel
theorem r132_60 : rowAt 132 60 = some (.goto 23, 3, 0, 0) := by decide +kernel
theorem r132_63 : rowAt 132 63 = some (.iload_n 2, 1, 0, 0) := by decide +kernel
theorem r132_64 : rowAt 132 64 = some (.ifCond .eq 14, 3, 0, 0) := by decide +kernel
theorem r132_67 : rowAt 132 67 = some (.iload_n 2, 1, 0, 0) := by decide +kernel
theorem r132_68 : rowAt 132 68 = some (.iconst 1, 1, 0, 0) := by decide +kernel
theorem r132_69 : rowAt 132 69 = some (.if_icmp .eq 9, 3, 0, 0) := by decide +kernel
theorem r132_72 : rowAt 132 72 = some (.iload_n 2, 1, 0, 0) := by decide +kernel
theorem r132_73 : rowAt 132 73 = some (.bipush 7, 2, 0, 0) := by decide +kernel
theorem r132_75 : rowAt 132 75 = some (.if_icmp .ne 7, 3, 0, 0) := by decide +kernel
theorem r132_78 : rowAt 132 78 = some (.iconst (-1), 1, 0, 0) := by decide +kernel
theorem r132_79 : rowAt 132 79 = some (.goto 4, 3, 0, 0) := by decide +kernel
theorem r132_82 : rowAt 132 82 = some (.iconst 0, 1, 0, 0) := by decide +kernel
theorem r132_83 : rowAt 132 83 = some (.iadd, 1, 0, 0) := by decide +kernel
theorem r132_84 : rowAt 132 84 = some (.istore 4, 2, 0, 0) := by decide +kernel
theorem r132_86 : rowAt 132 86 = some (.aload_n 0, 1, 0, 0) := by decide +kernel
theorem r132_87 : rowAt 132 87 = some (.iload_n 3, 1, 0, 0) := by decide +kernel
theorem r132_88 : rowAt 132 88 = some (.iload 4, 2, 0, 0) := by decide +kernel
theorem r132_90 : rowAt 132 90 = some (.invokevirtual 147, 3, 125, 0) := by decide +kernel
theorem r132_93 : rowAt 132 93 = some (.ifCond .eq 13, 3, 0, 0) := by decide +kernel
theorem r132_96 : rowAt 132 96 = some (.bipush 12, 2, 0, 0) := by decide +kernel
theorem r132_98 : rowAt 132 98 = some (.iload 4, 2, 0, 0) := by decide +kernel
theorem r132_100 : rowAt 132 100 = some (.imul, 1, 0, 0) := by decide +kernel
theorem r132_101 : rowAt 132 101 = some (.iload_n 3, 1, 0, 0) := by decide +kernel
theorem r132_102 : rowAt 132 102 = some (.iadd, 1, 0, 0) := by decide +kernel
theorem r132_103 : rowAt 132 103 = some (.goto 4, 3, 0, 0) := by decide +kernel
theorem r132_106 : rowAt 132 106 = some (.iconst (-1), 1, 0, 0) := by decide +kernel
theorem r132_107 : rowAt 132 107 = some (.ireturn, 1, 0, 0) := by decide +kernel
theorem en132 (a0 : Nat) (a1 : Int32) (a2 : Int32) : iniL 132 [.ref a0, .int a1, .int a2] = [.ref a0, .int a1, .int a2, .null, .null] := ini_n mi132 rfl
theorem b132_0 (d : Nat) (l0 : Nat) (l1 : Int32) (l2 : Int32) (h : aH) (K : Option Value → aH → Prop) : E scr false (d + 1) 132 0 [.ref l0, .int l1, .int l2, .null, .null] [] h K = sI scr d 121 [.long (Int32.toInt64 l2), .long 1, .long 3] h (fun (x2 : Int32) (h1 : aH) => (if x2 = 0 then sI scr d 121 [.long (Int32.toInt64 l2), .long 5, .long 7] h1 (fun (x4 : Int32) (h3 : aH) => (if x4 = 0 then E scr false (d + 1) 132 39 [.ref l0, .int l1, .int l2, .null, .null] [.int 0, .int (irm l1 12)] h3 K else E scr false (d + 1) 132 39 [.ref l0, .int l1, .int l2, .null, .null] [.int (-1), .int (irm l1 12)] h3 K)) else E scr false (d + 1) 132 39 [.ref l0, .int l1, .int l2, .null, .null] [.int 1, .int (irm l1 12)] h1 K)) := go (w := (1, [.ref l0, .int l1, .int l2, .null, .null], [.int l1], h)) r132_0 rfl rfl (E_bip r132_1 (v := 12) (by decide) (E_remc r132_3 (by decide) (go (w := (5, [.ref l0, .int l1, .int l2, .null, .null], [.int l2, .int (irm l1 12)], h)) r132_4 rfl rfl (go (w := (6, [.ref l0, .int l1, .int l2, .null, .null], [.long (Int32.toInt64 l2), .int (irm l1 12)], h)) r132_5 rfl rfl (E_lc r132_6 (v := 1) (by decide) (E_ld2 r132_7 (v := 3) (by decide) (E_sI r132_10 (As := [.long (Int32.toInt64 l2), .long 1, .long 3]) (rest := [.int (irm l1 12)]) (cut_n mi121.1 rfl rfl) (rm8_n mi121.2.1 (Nat.le_of_ble_eq_true rfl) (Nat.le_of_ble_eq_true rfl)) mi121.2.2 (fun x2 h1 => E_i1_eq r132_13 rfl (go (w := (21, [.ref l0, .int l1, .int l2, .null, .null], [.int l2, .int (irm l1 12)], h1)) r132_20 rfl rfl (go (w := (22, [.ref l0, .int l1, .int l2, .null, .null], [.long (Int32.toInt64 l2), .int (irm l1 12)], h1)) r132_21 rfl rfl (E_ld2 r132_22 (v := 5) (by decide) (E_ld2 r132_25 (v := 7) (by decide) (E_sI r132_28 (As := [.long (Int32.toInt64 l2), .long 5, .long 7]) (rest := [.int (irm l1 12)]) (cut_n mi121.1 rfl rfl) (rm8_n mi121.2.1 (Nat.le_of_ble_eq_true rfl) (Nat.le_of_ble_eq_true rfl)) mi121.2.2 (fun x4 h3 => E_i1_eq r132_31 rfl (E_ic r132_38 (v := 0) (by decide) (rfl)) (E_ic r132_34 (v := (-1)) (by decide) (E_gt r132_35 rfl (rfl))))))))) (E_ic r132_16 (v := 1) (by decide) (E_gt r132_17 rfl (rfl)))))))))))
theorem b132_39 (d : Nat) (l0 : Nat) (l1 : Int32) (l2 : Int32) (s0 : Int32) (s1 : Int32) (h : aH) (K : Option Value → aH → Prop) : E scr false (d + 1) 132 39 [.ref l0, .int l1, .int l2, .null, .null] [.int s0, .int s1] h K = sI scr d 121 [.long (Int32.toInt64 l2), .long 3, .long 5] h (fun (x2 : Int32) (h1 : aH) => (if x2 = 0 then (if l2 = 0 then E scr false (d + 1) 132 78 [.ref l0, .int l1, .int l2, .int (s1 + s0), .null] [.int (l1 / 12)] h1 K else (if l2 = 1 then E scr false (d + 1) 132 78 [.ref l0, .int l1, .int l2, .int (s1 + s0), .null] [.int (l1 / 12)] h1 K else (if l2 = 7 then E scr false (d + 1) 132 78 [.ref l0, .int l1, .int l2, .int (s1 + s0), .null] [.int (l1 / 12)] h1 K else E scr false (d + 1) 132 83 [.ref l0, .int l1, .int l2, .int (s1 + s0), .null] [.int 0, .int (l1 / 12)] h1 K))) else E scr false (d + 1) 132 83 [.ref l0, .int l1, .int l2, .int (s1 + s0), .null] [.int 1, .int (l1 / 12)] h1 K)) := go (w := (40, [.ref l0, .int l1, .int l2, .null, .null], [.int (s1 + s0)], h)) r132_39 rfl rfl (go (w := (41, [.ref l0, .int l1, .int l2, .int (s1 + s0), .null], [], h)) r132_40 rfl rfl (go (w := (42, [.ref l0, .int l1, .int l2, .int (s1 + s0), .null], [.int l1], h)) r132_41 rfl rfl (E_bip r132_42 (v := 12) (by decide) (E_divc r132_44 (by decide) (go (w := (46, [.ref l0, .int l1, .int l2, .int (s1 + s0), .null], [.int l2, .int (l1 / 12)], h)) r132_45 rfl rfl (go (w := (47, [.ref l0, .int l1, .int l2, .int (s1 + s0), .null], [.long (Int32.toInt64 l2), .int (l1 / 12)], h)) r132_46 rfl rfl (E_ld2 r132_47 (v := 3) (by decide) (E_ld2 r132_50 (v := 5) (by decide) (E_sI r132_53 (As := [.long (Int32.toInt64 l2), .long 3, .long 5]) (rest := [.int (l1 / 12)]) (cut_n mi121.1 rfl rfl) (rm8_n mi121.2.1 (Nat.le_of_ble_eq_true rfl) (Nat.le_of_ble_eq_true rfl)) mi121.2.2 (fun x2 h1 => E_i1_eq r132_56 rfl (go (w := (64, [.ref l0, .int l1, .int l2, .int (s1 + s0), .null], [.int l2, .int (l1 / 12)], h1)) r132_63 rfl rfl (E_i1_eq r132_64 rfl (rfl) (go (w := (68, [.ref l0, .int l1, .int l2, .int (s1 + s0), .null], [.int l2, .int (l1 / 12)], h1)) r132_67 rfl rfl (E_ic r132_68 (v := 1) (by decide) (E_i2_eq r132_69 rfl (rfl) (go (w := (73, [.ref l0, .int l1, .int l2, .int (s1 + s0), .null], [.int l2, .int (l1 / 12)], h1)) r132_72 rfl rfl (E_bip r132_73 (v := 7) (by decide) (E_i2_ne r132_75 rfl (E_ic r132_82 (v := 0) (by decide) (rfl)) (rfl))))))))) (E_ic r132_59 (v := 1) (by decide) (E_gt r132_60 rfl (rfl)))))))))))))
theorem b132_78 (d : Nat) (l0 : Nat) (l1 : Int32) (l2 : Int32) (l3 : Int32) (s0 : Int32) (h : aH) (K : Option Value → aH → Prop) : E scr false d 132 78 [.ref l0, .int l1, .int l2, .int l3, .null] [.int s0] h K = E scr false d 132 83 [.ref l0, .int l1, .int l2, .int l3, .null] [.int (-1), .int s0] h K := E_ic r132_78 (v := (-1)) (by decide) (E_gt r132_79 rfl (rfl))
theorem b132_83 (d : Nat) (l0 : Nat) (l1 : Int32) (l2 : Int32) (l3 : Int32) (s0 : Int32) (s1 : Int32) (h : aH) (K : Option Value → aH → Prop) : E scr false (d + 1) 132 83 [.ref l0, .int l1, .int l2, .int l3, .null] [.int s0, .int s1] h K = vI scr d 125 [.ref l0, .int l3, .int (s1 + s0)] h (fun (x2 : Int32) (h1 : aH) => (if x2 = 0 then K (some (.int (-1))) h1 else K (some (.int ((12 * (s1 + s0)) + l3))) h1)) := go (w := (84, [.ref l0, .int l1, .int l2, .int l3, .null], [.int (s1 + s0)], h)) r132_83 rfl rfl (go (w := (86, [.ref l0, .int l1, .int l2, .int l3, .int (s1 + s0)], [], h)) r132_84 rfl rfl (go (w := (87, [.ref l0, .int l1, .int l2, .int l3, .int (s1 + s0)], [.ref l0], h)) r132_86 rfl rfl (go (w := (88, [.ref l0, .int l1, .int l2, .int l3, .int (s1 + s0)], [.int l3, .ref l0], h)) r132_87 rfl rfl (go (w := (90, [.ref l0, .int l1, .int l2, .int l3, .int (s1 + s0)], [.int (s1 + s0), .int l3, .ref l0], h)) r132_88 rfl rfl (E_vI r132_90 (As := [.ref l0, .int l3, .int (s1 + s0)]) (rest := []) (cut_n mi125.1 rfl rfl) (rm8_n mi125.2.1 (Nat.le_of_ble_eq_true rfl) (Nat.le_of_ble_eq_true rfl)) mi125.2.2 (fun x2 h1 => E_i1_eq r132_93 rfl (E_ic r132_106 (v := (-1)) (by decide) (E_ri r132_107 (mq132))) (E_bip r132_96 (v := 12) (by decide) (go (w := (100, [.ref l0, .int l1, .int l2, .int l3, .int (s1 + s0)], [.int (s1 + s0), .int 12], h1)) r132_98 rfl rfl (go (w := (101, [.ref l0, .int l1, .int l2, .int l3, .int (s1 + s0)], [.int (12 * (s1 + s0))], h1)) r132_100 rfl rfl (go (w := (102, [.ref l0, .int l1, .int l2, .int l3, .int (s1 + s0)], [.int l3, .int (12 * (s1 + s0))], h1)) r132_101 rfl rfl (go (w := (103, [.ref l0, .int l1, .int l2, .int l3, .int (s1 + s0)], [.int ((12 * (s1 + s0)) + l3)], h1)) r132_102 rfl rfl (E_gt r132_103 rfl (E_ri r132_107 (mq132))))))))))))))
-- 133 SecondNearestModel.apart(II)I
theorem mq133 : mRet 133 = (some .int) := by decide +kernel
theorem r133_0 : rowAt 133 0 = some (.iload_n 0, 1, 0, 0) := by decide +kernel
theorem r133_1 : rowAt 133 1 = some (.bipush 12, 2, 0, 0) := by decide +kernel
theorem r133_3 : rowAt 133 3 = some (.irem, 1, 0, 0) := by decide +kernel
theorem r133_4 : rowAt 133 4 = some (.iload_n 1, 1, 0, 0) := by decide +kernel
theorem r133_5 : rowAt 133 5 = some (.bipush 12, 2, 0, 0) := by decide +kernel
theorem r133_7 : rowAt 133 7 = some (.irem, 1, 0, 0) := by decide +kernel
theorem r133_8 : rowAt 133 8 = some (.isub, 1, 0, 0) := by decide +kernel
theorem r133_9 : rowAt 133 9 = some (.istore_n 2, 1, 0, 0) := by decide +kernel
theorem r133_10 : rowAt 133 10 = some (.iload_n 0, 1, 0, 0) := by decide +kernel
theorem r133_11 : rowAt 133 11 = some (.bipush 12, 2, 0, 0) := by decide +kernel
theorem r133_13 : rowAt 133 13 = some (.idiv, 1, 0, 0) := by decide +kernel
theorem r133_14 : rowAt 133 14 = some (.iload_n 1, 1, 0, 0) := by decide +kernel
theorem r133_15 : rowAt 133 15 = some (.bipush 12, 2, 0, 0) := by decide +kernel
theorem r133_17 : rowAt 133 17 = some (.idiv, 1, 0, 0) := by decide +kernel
theorem r133_18 : rowAt 133 18 = some (.isub, 1, 0, 0) := by decide +kernel
theorem r133_19 : rowAt 133 19 = some (.istore_n 3, 1, 0, 0) := by decide +kernel
theorem r133_20 : rowAt 133 20 = some (.iload_n 2, 1, 0, 0) := by decide +kernel
theorem r133_21 : rowAt 133 21 = some (.iload_n 2, 1, 0, 0) := by decide +kernel
theorem r133_22 : rowAt 133 22 = some (.imul, 1, 0, 0) := by decide +kernel
theorem r133_23 : rowAt 133 23 = some (.iload_n 3, 1, 0, 0) := by decide +kernel
theorem r133_24 : rowAt 133 24 = some (.iload_n 3, 1, 0, 0) := by decide +kernel
theorem r133_25 : rowAt 133 25 = some (.imul, 1, 0, 0) := by decide +kernel
theorem r133_26 : rowAt 133 26 = some (.iadd, 1, 0, 0) := by decide +kernel
theorem r133_27 : rowAt 133 27 = some (.ireturn, 1, 0, 0) := by decide +kernel
theorem en133 (a0 : Int32) (a1 : Int32) : iniL 133 [.int a0, .int a1] = [.int a0, .int a1, .null, .null] := ini_n mi133 rfl
theorem b133_0 (d : Nat) (l0 : Int32) (l1 : Int32) (h : aH) (K : Option Value → aH → Prop) : E scr false d 133 0 [.int l0, .int l1, .null, .null] [] h K = K (some (.int ((((irm l0 12) - (irm l1 12)) * ((irm l0 12) - (irm l1 12))) + (((l0 / 12) - (l1 / 12)) * ((l0 / 12) - (l1 / 12)))))) h := go (w := (1, [.int l0, .int l1, .null, .null], [.int l0], h)) r133_0 rfl rfl (E_bip r133_1 (v := 12) (by decide) (E_remc r133_3 (by decide) (go (w := (5, [.int l0, .int l1, .null, .null], [.int l1, .int (irm l0 12)], h)) r133_4 rfl rfl (E_bip r133_5 (v := 12) (by decide) (E_remc r133_7 (by decide) (go (w := (9, [.int l0, .int l1, .null, .null], [.int ((irm l0 12) - (irm l1 12))], h)) r133_8 rfl rfl (go (w := (10, [.int l0, .int l1, .int ((irm l0 12) - (irm l1 12)), .null], [], h)) r133_9 rfl rfl (go (w := (11, [.int l0, .int l1, .int ((irm l0 12) - (irm l1 12)), .null], [.int l0], h)) r133_10 rfl rfl (E_bip r133_11 (v := 12) (by decide) (E_divc r133_13 (by decide) (go (w := (15, [.int l0, .int l1, .int ((irm l0 12) - (irm l1 12)), .null], [.int l1, .int (l0 / 12)], h)) r133_14 rfl rfl (E_bip r133_15 (v := 12) (by decide) (E_divc r133_17 (by decide) (go (w := (19, [.int l0, .int l1, .int ((irm l0 12) - (irm l1 12)), .null], [.int ((l0 / 12) - (l1 / 12))], h)) r133_18 rfl rfl (go (w := (20, [.int l0, .int l1, .int ((irm l0 12) - (irm l1 12)), .int ((l0 / 12) - (l1 / 12))], [], h)) r133_19 rfl rfl (go (w := (21, [.int l0, .int l1, .int ((irm l0 12) - (irm l1 12)), .int ((l0 / 12) - (l1 / 12))], [.int ((irm l0 12) - (irm l1 12))], h)) r133_20 rfl rfl (go (w := (22, [.int l0, .int l1, .int ((irm l0 12) - (irm l1 12)), .int ((l0 / 12) - (l1 / 12))], [.int ((irm l0 12) - (irm l1 12)), .int ((irm l0 12) - (irm l1 12))], h)) r133_21 rfl rfl (go (w := (23, [.int l0, .int l1, .int ((irm l0 12) - (irm l1 12)), .int ((l0 / 12) - (l1 / 12))], [.int (((irm l0 12) - (irm l1 12)) * ((irm l0 12) - (irm l1 12)))], h)) r133_22 rfl rfl (go (w := (24, [.int l0, .int l1, .int ((irm l0 12) - (irm l1 12)), .int ((l0 / 12) - (l1 / 12))], [.int ((l0 / 12) - (l1 / 12)), .int (((irm l0 12) - (irm l1 12)) * ((irm l0 12) - (irm l1 12)))], h)) r133_23 rfl rfl (go (w := (25, [.int l0, .int l1, .int ((irm l0 12) - (irm l1 12)), .int ((l0 / 12) - (l1 / 12))], [.int ((l0 / 12) - (l1 / 12)), .int ((l0 / 12) - (l1 / 12)), .int (((irm l0 12) - (irm l1 12)) * ((irm l0 12) - (irm l1 12)))], h)) r133_24 rfl rfl (go (w := (26, [.int l0, .int l1, .int ((irm l0 12) - (irm l1 12)), .int ((l0 / 12) - (l1 / 12))], [.int (((l0 / 12) - (l1 / 12)) * ((l0 / 12) - (l1 / 12))), .int (((irm l0 12) - (irm l1 12)) * ((irm l0 12) - (irm l1 12)))], h)) r133_25 rfl rfl (go (w := (27, [.int l0, .int l1, .int ((irm l0 12) - (irm l1 12)), .int ((l0 / 12) - (l1 / 12))], [.int ((((irm l0 12) - (irm l1 12)) * ((irm l0 12) - (irm l1 12))) + (((l0 / 12) - (l1 / 12)) * ((l0 / 12) - (l1 / 12))))], h)) r133_26 rfl rfl (E_ri r133_27 (mq133))))))))))))))))))))))))
-- 134 SecondNearestModel.isClear(II)Z
theorem mq134 : mRet 134 = (some .boolean) := by decide +kernel
theorem r134_0 : rowAt 134 0 = some (.iload_n 1, 1, 0, 0) := by decide +kernel
theorem r134_1 : rowAt 134 1 = some (.iload_n 2, 1, 0, 0) := by decide +kernel
theorem r134_2 : rowAt 134 2 = some (.if_icmp .ge 7, 3, 0, 0) := by decide +kernel
theorem r134_5 : rowAt 134 5 = some (.iload_n 1, 1, 0, 0) := by decide +kernel
theorem r134_6 : rowAt 134 6 = some (.goto 4, 3, 0, 0) := by decide +kernel
theorem r134_9 : rowAt 134 9 = some (.iload_n 2, 1, 0, 0) := by decide +kernel
theorem r134_10 : rowAt 134 10 = some (.istore_n 3, 1, 0, 0) := by decide +kernel
theorem r134_11 : rowAt 134 11 = some (.iload_n 1, 1, 0, 0) := by decide +kernel
theorem r134_12 : rowAt 134 12 = some (.iload_n 2, 1, 0, 0) := by decide +kernel
theorem r134_13 : rowAt 134 13 = some (.if_icmp .ge 7, 3, 0, 0) := by decide +kernel
theorem r134_16 : rowAt 134 16 = some (.iload_n 2, 1, 0, 0) := by decide +kernel
theorem r134_17 : rowAt 134 17 = some (.goto 4, 3, 0, 0) := by decide +kernel
theorem r134_20 : rowAt 134 20 = some (.iload_n 1, 1, 0, 0) := by decide +kernel
theorem r134_21 : rowAt 134 21 = some (.istore 4, 2, 0, 0) := by decide +kernel
theorem r134_23 : rowAt 134 23 = some (.iload 4, 2, 0, 0) := by decide +kernel
theorem r134_25 : rowAt 134 25 = some (.bipush 12, 2, 0, 0) := by decide +kernel
theorem r134_27 : rowAt 134 27 = some (.irem, 1, 0, 0) := by decide +kernel
theorem r134_28 : rowAt 134 28 = some (.iload_n 3, 1, 0, 0) := by decide +kernel
theorem r134_29 : rowAt 134 29 = some (.bipush 12, 2, 0, 0) := by decide +kernel
theorem r134_31 : rowAt 134 31 = some (.irem, 1, 0, 0) := by decide +kernel
theorem r134_32 : rowAt 134 32 = some (.isub, 1, 0, 0) := by decide +kernel
theorem r134_33 : rowAt 134 33 = some (.istore 5, 2, 0, 0) := by decide +kernel
theorem r134_35 : rowAt 134 35 = some (.iload 4, 2, 0, 0) := by decide +kernel
theorem r134_37 : rowAt 134 37 = some (.bipush 12, 2, 0, 0) := by decide +kernel
theorem r134_39 : rowAt 134 39 = some (.idiv, 1, 0, 0) := by decide +kernel
theorem r134_40 : rowAt 134 40 = some (.iload_n 3, 1, 0, 0) := by decide +kernel
theorem r134_41 : rowAt 134 41 = some (.bipush 12, 2, 0, 0) := by decide +kernel
theorem r134_43 : rowAt 134 43 = some (.idiv, 1, 0, 0) := by decide +kernel
theorem r134_44 : rowAt 134 44 = some (.isub, 1, 0, 0) := by decide +kernel
theorem r134_45 : rowAt 134 45 = some (.istore 6, 2, 0, 0) := by decide +kernel
theorem r134_47 : rowAt 134 47 = some (.iload 5, 2, 0, 0) := by decide +kernel
theorem r134_49 : rowAt 134 49 = some (.invokestatic 176, 3, 122, 1) := by decide +kernel
theorem r134_52 : rowAt 134 52 = some (.iload 6, 2, 0, 0) := by decide +kernel
theorem r134_54 : rowAt 134 54 = some (.invokestatic 176, 3, 122, 1) := by decide +kernel
theorem r134_57 : rowAt 134 57 = some (.if_icmp .le 11, 3, 0, 0) := by decide +kernel
theorem r134_60 : rowAt 134 60 = some (.iload 5, 2, 0, 0) := by decide +kernel
theorem r134_62 : rowAt 134 62 = some (.invokestatic 176, 3, 122, 1) := by decide +kernel
theorem r134_65 : rowAt 134 65 = some (.goto 8, 3, 0, 0) := by decide +kernel
theorem r134_68 : rowAt 134 68 = some (.iload 6, 2, 0, 0) := by decide +kernel
theorem r134_70 : rowAt 134 70 = some (.invokestatic 176, 3, 122, 1) := by decide +kernel
theorem r134_73 : rowAt 134 73 = some (.istore 7, 2, 0, 0) := by decide +kernel
theorem r134_75 : rowAt 134 75 = some (.iconst 1, 1, 0, 0) := by decide +kernel
theorem r134_76 : rowAt 134 76 = some (.istore 8, 2, 0, 0) := by decide +kernel
theorem r134_78 : rowAt 134 78 = some (.iconst 1, 1, 0, 0) := by decide +kernel
theorem r134_79 : rowAt 134 79 = some (.istore 9, 2, 0, 0) := by decide +kernel
theorem r134_81 : rowAt 134 81 = some (.iload 9, 2, 0, 0) := by decide +kernel
theorem r134_83 : rowAt 134 83 = some (.iload 7, 2, 0, 0) := by decide +kernel
theorem r134_85 : rowAt 134 85 = some (.if_icmp .ge 86, 3, 0, 0) := by decide +kernel
theorem r134_88 : rowAt 134 88 = some (.iload 8, 2, 0, 0) := by decide +kernel
theorem r134_90 : rowAt 134 90 = some (.ifCond .eq 81, 3, 0, 0) := by decide +kernel
theorem r134_93 : rowAt 134 93 = some (.iload_n 3, 1, 0, 0) := by decide +kernel
theorem r134_94 : rowAt 134 94 = some (.bipush 12, 2, 0, 0) := by decide +kernel
theorem r134_96 : rowAt 134 96 = some (.irem, 1, 0, 0) := by decide +kernel
theorem r134_97 : rowAt 134 97 = some (.iconst 2, 1, 0, 0) := by decide +kernel
theorem r134_98 : rowAt 134 98 = some (.iload 9, 2, 0, 0) := by decide +kernel
theorem r134_100 : rowAt 134 100 = some (.imul, 1, 0, 0) := by decide +kernel
theorem r134_101 : rowAt 134 101 = some (.iload 5, 2, 0, 0) := by decide +kernel
theorem r134_103 : rowAt 134 103 = some (.imul, 1, 0, 0) := by decide +kernel
theorem r134_104 : rowAt 134 104 = some (.iload 7, 2, 0, 0) := by decide +kernel
theorem r134_106 : rowAt 134 106 = some (.iadd, 1, 0, 0) := by decide +kernel
theorem r134_107 : rowAt 134 107 = some (.iconst 2, 1, 0, 0) := by decide +kernel
theorem r134_108 : rowAt 134 108 = some (.iload 7, 2, 0, 0) := by decide +kernel
theorem r134_110 : rowAt 134 110 = some (.imul, 1, 0, 0) := by decide +kernel
theorem r134_111 : rowAt 134 111 = some (.invokestatic 179, 3, 123, 1) := by decide +kernel
theorem r134_114 : rowAt 134 114 = some (.iadd, 1, 0, 0) := by decide +kernel
theorem r134_115 : rowAt 134 115 = some (.istore 10, 2, 0, 0) := by decide +kernel
theorem r134_117 : rowAt 134 117 = some (.iload_n 3, 1, 0, 0) := by decide +kernel
theorem r134_118 : rowAt 134 118 = some (.bipush 12, 2, 0, 0) := by decide +kernel
theorem r134_120 : rowAt 134 120 = some (.idiv, 1, 0, 0) := by decide +kernel
theorem r134_121 : rowAt 134 121 = some (.iconst 2, 1, 0, 0) := by decide +kernel
theorem r134_122 : rowAt 134 122 = some (.iload 9, 2, 0, 0) := by decide +kernel
theorem r134_124 : rowAt 134 124 = some (.imul, 1, 0, 0) := by decide +kernel
theorem r134_125 : rowAt 134 125 = some (.iload 6, 2, 0, 0) := by decide +kernel
theorem r134_127 : rowAt 134 127 = some (.imul, 1, 0, 0) := by decide +kernel
theorem r134_128 : rowAt 134 128 = some (.iload 7, 2, 0, 0) := by decide +kernel
theorem r134_130 : rowAt 134 130 = some (.iadd, 1, 0, 0) := by decide +kernel
theorem r134_131 : rowAt 134 131 = some (.iconst 2, 1, 0, 0) := by decide +kernel
theorem r134_132 : rowAt 134 132 = some (.iload 7, 2, 0, 0) := by decide +kernel
theorem r134_134 : rowAt 134 134 = some (.imul, 1, 0, 0) := by decide +kernel
theorem r134_135 : rowAt 134 135 = some (.invokestatic 179, 3, 123, 1) := by decide +kernel
theorem r134_138 : rowAt 134 138 = some (.iadd, 1, 0, 0) := by decide +kernel
theorem r134_139 : rowAt 134 139 = some (.istore 11, 2, 0, 0) := by decide +kernel
theorem r134_141 : rowAt 134 141 = some (.aload_n 0, 1, 0, 0) := by decide +kernel
theorem r134_142 : rowAt 134 142 = some (.getfield 13, 3, 9, 2) := by decide +kernel
theorem r134_145 : rowAt 134 145 = some (.bipush 12, 2, 0, 0) := by decide +kernel
theorem r134_147 : rowAt 134 147 = some (.iload 11, 2, 0, 0) := by decide +kernel
theorem r134_149 : rowAt 134 149 = some (.imul, 1, 0, 0) := by decide +kernel
theorem r134_150 : rowAt 134 150 = some (.iload 10, 2, 0, 0) := by decide +kernel
theorem r134_152 : rowAt 134 152 = some (.iadd, 1, 0, 0) := by decide +kernel
theorem r134_153 : rowAt 134 153 = some (.iaload, 1, 0, 0) := by decide +kernel
theorem r134_154 : rowAt 134 154 = some (.iconst 1, 1, 0, 0) := by decide +kernel
theorem r134_155 : rowAt 134 155 = some (.if_icmp .eq 7, 3, 0, 0) := by decide +kernel
theorem r134_158 : rowAt 134 158 = some (.iconst 1, 1, 0, 0) := by decide +kernel
theorem r134_159 : rowAt 134 159 = some (.goto 4, 3, 0, 0) := by decide +kernel
theorem r134_162 : rowAt 134 162 = some (.iconst 0, 1, 0, 0) := by decide +kernel
theorem r134_163 : rowAt 134 163 = some (.istore 8, 2, 0, 0) := by decide +kernel
theorem r134_165 : rowAt 134 165 = some (.iinc 9 1, 3, 0, 0) := by decide +kernel
theorem r134_168 : rowAt 134 168 = some (.goto (-87), 3, 0, 0) := by decide +kernel
theorem r134_171 : rowAt 134 171 = some (.iload 8, 2, 0, 0) := by decide +kernel
theorem r134_173 : rowAt 134 173 = some (.ireturn, 1, 0, 0) := by decide +kernel
theorem en134 (a0 : Nat) (a1 : Int32) (a2 : Int32) : iniL 134 [.ref a0, .int a1, .int a2] = [.ref a0, .int a1, .int a2, .null, .null, .null, .null, .null, .null, .null, .null, .null] := ini_n mi134 rfl
theorem b134_0 (d : Nat) (l0 : Nat) (l1 : Int32) (l2 : Int32) (h : aH) (K : Option Value → aH → Prop) : E scr false d 134 0 [.ref l0, .int l1, .int l2, .null, .null, .null, .null, .null, .null, .null, .null, .null] [] h K = (if l2 ≤ l1 then E scr false d 134 10 [.ref l0, .int l1, .int l2, .null, .null, .null, .null, .null, .null, .null, .null, .null] [.int l2] h K else E scr false d 134 10 [.ref l0, .int l1, .int l2, .null, .null, .null, .null, .null, .null, .null, .null, .null] [.int l1] h K) := go (w := (1, [.ref l0, .int l1, .int l2, .null, .null, .null, .null, .null, .null, .null, .null, .null], [.int l1], h)) r134_0 rfl rfl (go (w := (2, [.ref l0, .int l1, .int l2, .null, .null, .null, .null, .null, .null, .null, .null, .null], [.int l2, .int l1], h)) r134_1 rfl rfl (E_i2_ge r134_2 rfl (go (w := (10, [.ref l0, .int l1, .int l2, .null, .null, .null, .null, .null, .null, .null, .null, .null], [.int l2], h)) r134_9 rfl rfl (rfl)) (go (w := (6, [.ref l0, .int l1, .int l2, .null, .null, .null, .null, .null, .null, .null, .null, .null], [.int l1], h)) r134_5 rfl rfl (E_gt r134_6 rfl (rfl)))))
theorem b134_10 (d : Nat) (l0 : Nat) (l1 : Int32) (l2 : Int32) (s0 : Int32) (h : aH) (K : Option Value → aH → Prop) : E scr false d 134 10 [.ref l0, .int l1, .int l2, .null, .null, .null, .null, .null, .null, .null, .null, .null] [.int s0] h K = (if l2 ≤ l1 then E scr false d 134 21 [.ref l0, .int l1, .int l2, .int s0, .null, .null, .null, .null, .null, .null, .null, .null] [.int l1] h K else E scr false d 134 21 [.ref l0, .int l1, .int l2, .int s0, .null, .null, .null, .null, .null, .null, .null, .null] [.int l2] h K) := go (w := (11, [.ref l0, .int l1, .int l2, .int s0, .null, .null, .null, .null, .null, .null, .null, .null], [], h)) r134_10 rfl rfl (go (w := (12, [.ref l0, .int l1, .int l2, .int s0, .null, .null, .null, .null, .null, .null, .null, .null], [.int l1], h)) r134_11 rfl rfl (go (w := (13, [.ref l0, .int l1, .int l2, .int s0, .null, .null, .null, .null, .null, .null, .null, .null], [.int l2, .int l1], h)) r134_12 rfl rfl (E_i2_ge r134_13 rfl (go (w := (21, [.ref l0, .int l1, .int l2, .int s0, .null, .null, .null, .null, .null, .null, .null, .null], [.int l1], h)) r134_20 rfl rfl (rfl)) (go (w := (17, [.ref l0, .int l1, .int l2, .int s0, .null, .null, .null, .null, .null, .null, .null, .null], [.int l2], h)) r134_16 rfl rfl (E_gt r134_17 rfl (rfl))))))
theorem b134_21 (d : Nat) (l0 : Nat) (l1 : Int32) (l2 : Int32) (l3 : Int32) (s0 : Int32) (h : aH) (K : Option Value → aH → Prop) : E scr false (d + 1) 134 21 [.ref l0, .int l1, .int l2, .int l3, .null, .null, .null, .null, .null, .null, .null, .null] [.int s0] h K = sI scr d 122 [.int ((irm s0 12) - (irm l3 12))] h (fun (x2 : Int32) (h1 : aH) => sI scr d 122 [.int ((s0 / 12) - (l3 / 12))] h1 (fun (x4 : Int32) (h3 : aH) => (if x2 ≤ x4 then sI scr d 122 [.int ((s0 / 12) - (l3 / 12))] h3 (fun (x6 : Int32) (h5 : aH) => E scr false (d + 1) 134 73 [.ref l0, .int l1, .int l2, .int l3, .int s0, .int ((irm s0 12) - (irm l3 12)), .int ((s0 / 12) - (l3 / 12)), .null, .null, .null, .null, .null] [.int x6] h5 K) else sI scr d 122 [.int ((irm s0 12) - (irm l3 12))] h3 (fun (x8 : Int32) (h7 : aH) => E scr false (d + 1) 134 73 [.ref l0, .int l1, .int l2, .int l3, .int s0, .int ((irm s0 12) - (irm l3 12)), .int ((s0 / 12) - (l3 / 12)), .null, .null, .null, .null, .null] [.int x8] h7 K)))) := go (w := (23, [.ref l0, .int l1, .int l2, .int l3, .int s0, .null, .null, .null, .null, .null, .null, .null], [], h)) r134_21 rfl rfl (go (w := (25, [.ref l0, .int l1, .int l2, .int l3, .int s0, .null, .null, .null, .null, .null, .null, .null], [.int s0], h)) r134_23 rfl rfl (E_bip r134_25 (v := 12) (by decide) (E_remc r134_27 (by decide) (go (w := (29, [.ref l0, .int l1, .int l2, .int l3, .int s0, .null, .null, .null, .null, .null, .null, .null], [.int l3, .int (irm s0 12)], h)) r134_28 rfl rfl (E_bip r134_29 (v := 12) (by decide) (E_remc r134_31 (by decide) (go (w := (33, [.ref l0, .int l1, .int l2, .int l3, .int s0, .null, .null, .null, .null, .null, .null, .null], [.int ((irm s0 12) - (irm l3 12))], h)) r134_32 rfl rfl (go (w := (35, [.ref l0, .int l1, .int l2, .int l3, .int s0, .int ((irm s0 12) - (irm l3 12)), .null, .null, .null, .null, .null, .null], [], h)) r134_33 rfl rfl (go (w := (37, [.ref l0, .int l1, .int l2, .int l3, .int s0, .int ((irm s0 12) - (irm l3 12)), .null, .null, .null, .null, .null, .null], [.int s0], h)) r134_35 rfl rfl (E_bip r134_37 (v := 12) (by decide) (E_divc r134_39 (by decide) (go (w := (41, [.ref l0, .int l1, .int l2, .int l3, .int s0, .int ((irm s0 12) - (irm l3 12)), .null, .null, .null, .null, .null, .null], [.int l3, .int (s0 / 12)], h)) r134_40 rfl rfl (E_bip r134_41 (v := 12) (by decide) (E_divc r134_43 (by decide) (go (w := (45, [.ref l0, .int l1, .int l2, .int l3, .int s0, .int ((irm s0 12) - (irm l3 12)), .null, .null, .null, .null, .null, .null], [.int ((s0 / 12) - (l3 / 12))], h)) r134_44 rfl rfl (go (w := (47, [.ref l0, .int l1, .int l2, .int l3, .int s0, .int ((irm s0 12) - (irm l3 12)), .int ((s0 / 12) - (l3 / 12)), .null, .null, .null, .null, .null], [], h)) r134_45 rfl rfl (go (w := (49, [.ref l0, .int l1, .int l2, .int l3, .int s0, .int ((irm s0 12) - (irm l3 12)), .int ((s0 / 12) - (l3 / 12)), .null, .null, .null, .null, .null], [.int ((irm s0 12) - (irm l3 12))], h)) r134_47 rfl rfl (E_sI r134_49 (As := [.int ((irm s0 12) - (irm l3 12))]) (rest := []) (cut_n mi122.1 rfl rfl) (rm8_n mi122.2.1 (Nat.le_of_ble_eq_true rfl) (Nat.le_of_ble_eq_true rfl)) mi122.2.2 (fun x2 h1 => go (w := (54, [.ref l0, .int l1, .int l2, .int l3, .int s0, .int ((irm s0 12) - (irm l3 12)), .int ((s0 / 12) - (l3 / 12)), .null, .null, .null, .null, .null], [.int ((s0 / 12) - (l3 / 12)), .int x2], h1)) r134_52 rfl rfl (E_sI r134_54 (As := [.int ((s0 / 12) - (l3 / 12))]) (rest := [.int x2]) (cut_n mi122.1 rfl rfl) (rm8_n mi122.2.1 (Nat.le_of_ble_eq_true rfl) (Nat.le_of_ble_eq_true rfl)) mi122.2.2 (fun x4 h3 => E_i2_le r134_57 rfl (go (w := (70, [.ref l0, .int l1, .int l2, .int l3, .int s0, .int ((irm s0 12) - (irm l3 12)), .int ((s0 / 12) - (l3 / 12)), .null, .null, .null, .null, .null], [.int ((s0 / 12) - (l3 / 12))], h3)) r134_68 rfl rfl (E_sI r134_70 (As := [.int ((s0 / 12) - (l3 / 12))]) (rest := []) (cut_n mi122.1 rfl rfl) (rm8_n mi122.2.1 (Nat.le_of_ble_eq_true rfl) (Nat.le_of_ble_eq_true rfl)) mi122.2.2 (fun x6 h5 => rfl))) (go (w := (62, [.ref l0, .int l1, .int l2, .int l3, .int s0, .int ((irm s0 12) - (irm l3 12)), .int ((s0 / 12) - (l3 / 12)), .null, .null, .null, .null, .null], [.int ((irm s0 12) - (irm l3 12))], h3)) r134_60 rfl rfl (E_sI r134_62 (As := [.int ((irm s0 12) - (irm l3 12))]) (rest := []) (cut_n mi122.1 rfl rfl) (rm8_n mi122.2.1 (Nat.le_of_ble_eq_true rfl) (Nat.le_of_ble_eq_true rfl)) mi122.2.2 (fun x8 h7 => E_gt r134_65 rfl (rfl)))))))))))))))))))))))))
theorem b134_73 (d : Nat) (l0 : Nat) (l1 : Int32) (l2 : Int32) (l3 : Int32) (l4 : Int32) (l5 : Int32) (l6 : Int32) (s0 : Int32) (h : aH) (K : Option Value → aH → Prop) : E scr false d 134 73 [.ref l0, .int l1, .int l2, .int l3, .int l4, .int l5, .int l6, .null, .null, .null, .null, .null] [.int s0] h K = E scr false d 134 81 [.ref l0, .int l1, .int l2, .int l3, .int l4, .int l5, .int l6, .int s0, .int 1, .int 1, .null, .null] [] h K := go (w := (75, [.ref l0, .int l1, .int l2, .int l3, .int l4, .int l5, .int l6, .int s0, .null, .null, .null, .null], [], h)) r134_73 rfl rfl (E_ic r134_75 (v := 1) (by decide) (go (w := (78, [.ref l0, .int l1, .int l2, .int l3, .int l4, .int l5, .int l6, .int s0, .int 1, .null, .null, .null], [], h)) r134_76 rfl rfl (E_ic r134_78 (v := 1) (by decide) (go (w := (81, [.ref l0, .int l1, .int l2, .int l3, .int l4, .int l5, .int l6, .int s0, .int 1, .int 1, .null, .null], [], h)) r134_79 rfl rfl (rfl)))))
theorem b134_81 (d : Nat) (l0 : Nat) (l1 : Int32) (l2 : Int32) (l3 : Int32) (l4 : Int32) (l5 : Int32) (l6 : Int32) (l7 : Int32) (l8 : Int32) (l9 : Int32) (l10 : Value) (l11 : Value) (h : aH) (K : Option Value → aH → Prop) : E scr false (d + 1) 134 81 [.ref l0, .int l1, .int l2, .int l3, .int l4, .int l5, .int l6, .int l7, .int l8, .int l9, l10, l11] [] h K = (if l7 ≤ l9 then (l8 &&& 1 = l8 ∧ K (some (.int l8)) h) else (if l8 = 0 then (l8 &&& 1 = l8 ∧ K (some (.int l8)) h) else sI scr d 123 [.int (((2 * l9) * l5) + l7), .int (2 * l7)] h (fun (x2 : Int32) (h1 : aH) => sI scr d 123 [.int (((2 * l9) * l6) + l7), .int (2 * l7)] h1 (fun (x4 : Int32) (h3 : aH) => gR scr h3 l0 9 2 (fun x5 : Nat => aI scr h3 x5 (((12 * ((l3 / 12) + x4)) + ((irm l3 12) + x2))) (fun x6 : Int32 => (if x6 = 1 then E scr false (d + 1) 134 163 [.ref l0, .int l1, .int l2, .int l3, .int l4, .int l5, .int l6, .int l7, .int l8, .int l9, .int ((irm l3 12) + x2), .int ((l3 / 12) + x4)] [.int 0] h3 K else E scr false (d + 1) 134 163 [.ref l0, .int l1, .int l2, .int l3, .int l4, .int l5, .int l6, .int l7, .int l8, .int l9, .int ((irm l3 12) + x2), .int ((l3 / 12) + x4)] [.int 1] h3 K))))))) := go (w := (83, [.ref l0, .int l1, .int l2, .int l3, .int l4, .int l5, .int l6, .int l7, .int l8, .int l9, l10, l11], [.int l9], h)) r134_81 rfl rfl (go (w := (85, [.ref l0, .int l1, .int l2, .int l3, .int l4, .int l5, .int l6, .int l7, .int l8, .int l9, l10, l11], [.int l7, .int l9], h)) r134_83 rfl rfl (E_i2_ge r134_85 rfl (go (w := (173, [.ref l0, .int l1, .int l2, .int l3, .int l4, .int l5, .int l6, .int l7, .int l8, .int l9, l10, l11], [.int l8], h)) r134_171 rfl rfl (E_zret r134_173 (mq134))) (go (w := (90, [.ref l0, .int l1, .int l2, .int l3, .int l4, .int l5, .int l6, .int l7, .int l8, .int l9, l10, l11], [.int l8], h)) r134_88 rfl rfl (E_i1_eq r134_90 rfl (go (w := (173, [.ref l0, .int l1, .int l2, .int l3, .int l4, .int l5, .int l6, .int l7, .int l8, .int l9, l10, l11], [.int l8], h)) r134_171 rfl rfl (E_zret r134_173 (mq134))) (go (w := (94, [.ref l0, .int l1, .int l2, .int l3, .int l4, .int l5, .int l6, .int l7, .int l8, .int l9, l10, l11], [.int l3], h)) r134_93 rfl rfl (E_bip r134_94 (v := 12) (by decide) (E_remc r134_96 (by decide) (E_ic r134_97 (v := 2) (by decide) (go (w := (100, [.ref l0, .int l1, .int l2, .int l3, .int l4, .int l5, .int l6, .int l7, .int l8, .int l9, l10, l11], [.int l9, .int 2, .int (irm l3 12)], h)) r134_98 rfl rfl (go (w := (101, [.ref l0, .int l1, .int l2, .int l3, .int l4, .int l5, .int l6, .int l7, .int l8, .int l9, l10, l11], [.int (2 * l9), .int (irm l3 12)], h)) r134_100 rfl rfl (go (w := (103, [.ref l0, .int l1, .int l2, .int l3, .int l4, .int l5, .int l6, .int l7, .int l8, .int l9, l10, l11], [.int l5, .int (2 * l9), .int (irm l3 12)], h)) r134_101 rfl rfl (go (w := (104, [.ref l0, .int l1, .int l2, .int l3, .int l4, .int l5, .int l6, .int l7, .int l8, .int l9, l10, l11], [.int ((2 * l9) * l5), .int (irm l3 12)], h)) r134_103 rfl rfl (go (w := (106, [.ref l0, .int l1, .int l2, .int l3, .int l4, .int l5, .int l6, .int l7, .int l8, .int l9, l10, l11], [.int l7, .int ((2 * l9) * l5), .int (irm l3 12)], h)) r134_104 rfl rfl (go (w := (107, [.ref l0, .int l1, .int l2, .int l3, .int l4, .int l5, .int l6, .int l7, .int l8, .int l9, l10, l11], [.int (((2 * l9) * l5) + l7), .int (irm l3 12)], h)) r134_106 rfl rfl (E_ic r134_107 (v := 2) (by decide) (go (w := (110, [.ref l0, .int l1, .int l2, .int l3, .int l4, .int l5, .int l6, .int l7, .int l8, .int l9, l10, l11], [.int l7, .int 2, .int (((2 * l9) * l5) + l7), .int (irm l3 12)], h)) r134_108 rfl rfl (go (w := (111, [.ref l0, .int l1, .int l2, .int l3, .int l4, .int l5, .int l6, .int l7, .int l8, .int l9, l10, l11], [.int (2 * l7), .int (((2 * l9) * l5) + l7), .int (irm l3 12)], h)) r134_110 rfl rfl (E_sI r134_111 (As := [.int (((2 * l9) * l5) + l7), .int (2 * l7)]) (rest := [.int (irm l3 12)]) (cut_n mi123.1 rfl rfl) (rm8_n mi123.2.1 (Nat.le_of_ble_eq_true rfl) (Nat.le_of_ble_eq_true rfl)) mi123.2.2 (fun x2 h1 => go (w := (115, [.ref l0, .int l1, .int l2, .int l3, .int l4, .int l5, .int l6, .int l7, .int l8, .int l9, l10, l11], [.int ((irm l3 12) + x2)], h1)) r134_114 rfl rfl (go (w := (117, [.ref l0, .int l1, .int l2, .int l3, .int l4, .int l5, .int l6, .int l7, .int l8, .int l9, .int ((irm l3 12) + x2), l11], [], h1)) r134_115 rfl rfl (go (w := (118, [.ref l0, .int l1, .int l2, .int l3, .int l4, .int l5, .int l6, .int l7, .int l8, .int l9, .int ((irm l3 12) + x2), l11], [.int l3], h1)) r134_117 rfl rfl (E_bip r134_118 (v := 12) (by decide) (E_divc r134_120 (by decide) (E_ic r134_121 (v := 2) (by decide) (go (w := (124, [.ref l0, .int l1, .int l2, .int l3, .int l4, .int l5, .int l6, .int l7, .int l8, .int l9, .int ((irm l3 12) + x2), l11], [.int l9, .int 2, .int (l3 / 12)], h1)) r134_122 rfl rfl (go (w := (125, [.ref l0, .int l1, .int l2, .int l3, .int l4, .int l5, .int l6, .int l7, .int l8, .int l9, .int ((irm l3 12) + x2), l11], [.int (2 * l9), .int (l3 / 12)], h1)) r134_124 rfl rfl (go (w := (127, [.ref l0, .int l1, .int l2, .int l3, .int l4, .int l5, .int l6, .int l7, .int l8, .int l9, .int ((irm l3 12) + x2), l11], [.int l6, .int (2 * l9), .int (l3 / 12)], h1)) r134_125 rfl rfl (go (w := (128, [.ref l0, .int l1, .int l2, .int l3, .int l4, .int l5, .int l6, .int l7, .int l8, .int l9, .int ((irm l3 12) + x2), l11], [.int ((2 * l9) * l6), .int (l3 / 12)], h1)) r134_127 rfl rfl (go (w := (130, [.ref l0, .int l1, .int l2, .int l3, .int l4, .int l5, .int l6, .int l7, .int l8, .int l9, .int ((irm l3 12) + x2), l11], [.int l7, .int ((2 * l9) * l6), .int (l3 / 12)], h1)) r134_128 rfl rfl (go (w := (131, [.ref l0, .int l1, .int l2, .int l3, .int l4, .int l5, .int l6, .int l7, .int l8, .int l9, .int ((irm l3 12) + x2), l11], [.int (((2 * l9) * l6) + l7), .int (l3 / 12)], h1)) r134_130 rfl rfl (E_ic r134_131 (v := 2) (by decide) (go (w := (134, [.ref l0, .int l1, .int l2, .int l3, .int l4, .int l5, .int l6, .int l7, .int l8, .int l9, .int ((irm l3 12) + x2), l11], [.int l7, .int 2, .int (((2 * l9) * l6) + l7), .int (l3 / 12)], h1)) r134_132 rfl rfl (go (w := (135, [.ref l0, .int l1, .int l2, .int l3, .int l4, .int l5, .int l6, .int l7, .int l8, .int l9, .int ((irm l3 12) + x2), l11], [.int (2 * l7), .int (((2 * l9) * l6) + l7), .int (l3 / 12)], h1)) r134_134 rfl rfl (E_sI r134_135 (As := [.int (((2 * l9) * l6) + l7), .int (2 * l7)]) (rest := [.int (l3 / 12)]) (cut_n mi123.1 rfl rfl) (rm8_n mi123.2.1 (Nat.le_of_ble_eq_true rfl) (Nat.le_of_ble_eq_true rfl)) mi123.2.2 (fun x4 h3 => go (w := (139, [.ref l0, .int l1, .int l2, .int l3, .int l4, .int l5, .int l6, .int l7, .int l8, .int l9, .int ((irm l3 12) + x2), l11], [.int ((l3 / 12) + x4)], h3)) r134_138 rfl rfl (go (w := (141, [.ref l0, .int l1, .int l2, .int l3, .int l4, .int l5, .int l6, .int l7, .int l8, .int l9, .int ((irm l3 12) + x2), .int ((l3 / 12) + x4)], [], h3)) r134_139 rfl rfl (go (w := (142, [.ref l0, .int l1, .int l2, .int l3, .int l4, .int l5, .int l6, .int l7, .int l8, .int l9, .int ((irm l3 12) + x2), .int ((l3 / 12) + x4)], [.ref l0], h3)) r134_141 rfl rfl (E_gR r134_142 rfl (fun x5 => E_bip r134_145 (v := 12) (by decide) (go (w := (149, [.ref l0, .int l1, .int l2, .int l3, .int l4, .int l5, .int l6, .int l7, .int l8, .int l9, .int ((irm l3 12) + x2), .int ((l3 / 12) + x4)], [.int ((l3 / 12) + x4), .int 12, .ref x5], h3)) r134_147 rfl rfl (go (w := (150, [.ref l0, .int l1, .int l2, .int l3, .int l4, .int l5, .int l6, .int l7, .int l8, .int l9, .int ((irm l3 12) + x2), .int ((l3 / 12) + x4)], [.int (12 * ((l3 / 12) + x4)), .ref x5], h3)) r134_149 rfl rfl (go (w := (152, [.ref l0, .int l1, .int l2, .int l3, .int l4, .int l5, .int l6, .int l7, .int l8, .int l9, .int ((irm l3 12) + x2), .int ((l3 / 12) + x4)], [.int ((irm l3 12) + x2), .int (12 * ((l3 / 12) + x4)), .ref x5], h3)) r134_150 rfl rfl (go (w := (153, [.ref l0, .int l1, .int l2, .int l3, .int l4, .int l5, .int l6, .int l7, .int l8, .int l9, .int ((irm l3 12) + x2), .int ((l3 / 12) + x4)], [.int ((12 * ((l3 / 12) + x4)) + ((irm l3 12) + x2)), .ref x5], h3)) r134_152 rfl rfl (E_aI r134_153 (fun x6 => E_ic r134_154 (v := 1) (by decide) (E_i2_eq r134_155 rfl (E_ic r134_162 (v := 0) (by decide) (rfl)) (E_ic r134_158 (v := 1) (by decide) (E_gt r134_159 rfl (rfl)))))))))))))))))))))))))))))))))))))))))))))))))
theorem b134_163 (d : Nat) (l0 : Nat) (l1 : Int32) (l2 : Int32) (l3 : Int32) (l4 : Int32) (l5 : Int32) (l6 : Int32) (l7 : Int32) (l8 : Int32) (l9 : Int32) (l10 : Int32) (l11 : Int32) (s0 : Int32) (h : aH) (K : Option Value → aH → Prop) : E scr false d 134 163 [.ref l0, .int l1, .int l2, .int l3, .int l4, .int l5, .int l6, .int l7, .int l8, .int l9, .int l10, .int l11] [.int s0] h K = E scr false d 134 81 [.ref l0, .int l1, .int l2, .int l3, .int l4, .int l5, .int l6, .int l7, .int s0, .int (l9 + 1), .int l10, .int l11] [] h K := go (w := (165, [.ref l0, .int l1, .int l2, .int l3, .int l4, .int l5, .int l6, .int l7, .int s0, .int l9, .int l10, .int l11], [], h)) r134_163 rfl rfl (E_inc r134_165 (c := 1) rfl (by decide) (L' := [.ref l0, .int l1, .int l2, .int l3, .int l4, .int l5, .int l6, .int l7, .int s0, .int (l9 + 1), .int l10, .int l11]) rfl (E_gt r134_168 rfl (rfl)))
