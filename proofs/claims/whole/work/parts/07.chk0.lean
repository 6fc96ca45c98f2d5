theorem ck0_0 : mr0.all (chkR (yX0_init, cX0_init, 1, none, 1, 0, mr0)) = true := by decide +kernel
theorem ck0 : mr0.all (chkR (yX0_init, cX0_init, 1, none, 1, 0, mr0)) = true := ck0_0
theorem ck1_0 : (mr1.take 40).all (chkR (yX0_survey, cX0_survey, 6, none, 2, 0, mr1)) = true := by decide +kernel
theorem ck1_1 : ((mr1.drop 40).take 40).all (chkR (yX0_survey, cX0_survey, 6, none, 2, 0, mr1)) = true := by decide +kernel
theorem ck1_2 : (mr1.drop 80).all (chkR (yX0_survey, cX0_survey, 6, none, 2, 0, mr1)) = true := by decide +kernel
theorem ck1 : mr1.all (chkR (yX0_survey, cX0_survey, 6, none, 2, 0, mr1)) = true := all_cut 40 ck1_0 (all_cut 40 ck1_1 (by rw [List.drop_drop]; exact ck1_2))
theorem ck2_0 : (mr2.take 40).all (chkR (yX0_isClear, cX0_isClear, 16, (some .boolean), 4, 0, mr2)) = true := by decide +kernel
theorem ck2_1 : ((mr2.drop 40).take 40).all (chkR (yX0_isClear, cX0_isClear, 16, (some .boolean), 4, 0, mr2)) = true := by decide +kernel
theorem ck2_2 : ((mr2.drop 80).take 40).all (chkR (yX0_isClear, cX0_isClear, 16, (some .boolean), 4, 0, mr2)) = true := by decide +kernel
theorem ck2_3 : (mr2.drop 120).all (chkR (yX0_isClear, cX0_isClear, 16, (some .boolean), 4, 0, mr2)) = true := by decide +kernel
theorem ck2 : mr2.all (chkR (yX0_isClear, cX0_isClear, 16, (some .boolean), 4, 0, mr2)) = true := all_cut 40 ck2_0 (all_cut 40 ck2_1 (by rw [List.drop_drop]; exact all_cut 40 ck2_2 (by rw [List.drop_drop]; exact ck2_3)))
theorem ck3_0 : mr3.all (chkR (yX1_init, cX1_init, 1, none, 1, 1, mr3)) = true := by decide +kernel
theorem ck3 : mr3.all (chkR (yX1_init, cX1_init, 1, none, 1, 1, mr3)) = true := ck3_0
theorem ck4_0 : mr4.all (chkR (yX1_wipe, cX1_wipe, 1, none, 1, 1, mr4)) = true := by decide +kernel
theorem ck4 : mr4.all (chkR (yX1_wipe, cX1_wipe, 1, none, 1, 1, mr4)) = true := ck4_0
theorem ck5_0 : mr5.all (chkR (yX1_emit, cX1_emit, 2, none, 2, 1, mr5)) = true := by decide +kernel
theorem ck5 : mr5.all (chkR (yX1_emit, cX1_emit, 2, none, 2, 1, mr5)) = true := ck5_0
theorem ck6_0 : mr6.all (chkR (yX1_closeClause, cX1_closeClause, 2, none, 2, 1, mr6)) = true := by decide +kernel
theorem ck6 : mr6.all (chkR (yX1_closeClause, cX1_closeClause, 2, none, 2, 1, mr6)) = true := ck6_0
theorem ck7_0 : mr7.all (chkR (yX2_init, cX2_init, 2, none, 2, 2, mr7)) = true := by decide +kernel
theorem ck7 : mr7.all (chkR (yX2_init, cX2_init, 2, none, 2, 2, mr7)) = true := ck7_0
theorem ck8_0 : (mr8.take 40).all (chkR (yX2_read, cX2_read, 4, (some .int), 2, 2, mr8)) = true := by decide +kernel
theorem ck8_1 : (mr8.drop 40).all (chkR (yX2_read, cX2_read, 4, (some .int), 2, 2, mr8)) = true := by decide +kernel
theorem ck8 : mr8.all (chkR (yX2_read, cX2_read, 4, (some .int), 2, 2, mr8)) = true := all_cut 40 ck8_0 (ck8_1)
theorem ck9_0 : (mr9.take 40).all (chkR (yX2_takeClause, cX2_takeClause, 4, (some .boolean), 1, 2, mr9)) = true := by decide +kernel
theorem ck9_1 : (mr9.drop 40).all (chkR (yX2_takeClause, cX2_takeClause, 4, (some .boolean), 1, 2, mr9)) = true := by decide +kernel
theorem ck9 : mr9.all (chkR (yX2_takeClause, cX2_takeClause, 4, (some .boolean), 1, 2, mr9)) = true := all_cut 40 ck9_0 (ck9_1)
theorem ck10_0 : (mr10.take 40).all (chkR (yX2_takeTest, cX2_takeTest, 6, (some .boolean), 2, 2, mr10)) = true := by decide +kernel
theorem ck10_1 : (mr10.drop 40).all (chkR (yX2_takeTest, cX2_takeTest, 6, (some .boolean), 2, 2, mr10)) = true := by decide +kernel
theorem ck10 : mr10.all (chkR (yX2_takeTest, cX2_takeTest, 6, (some .boolean), 2, 2, mr10)) = true := all_cut 40 ck10_0 (ck10_1)
theorem ck11_0 : (mr11.take 40).all (chkR (yX2_takeFact, cX2_takeFact, 6, (some .boolean), 2, 2, mr11)) = true := by decide +kernel
theorem ck11_1 : ((mr11.drop 40).take 40).all (chkR (yX2_takeFact, cX2_takeFact, 6, (some .boolean), 2, 2, mr11)) = true := by decide +kernel
theorem ck11_2 : (mr11.drop 80).all (chkR (yX2_takeFact, cX2_takeFact, 6, (some .boolean), 2, 2, mr11)) = true := by decide +kernel
theorem ck11 : mr11.all (chkR (yX2_takeFact, cX2_takeFact, 6, (some .boolean), 2, 2, mr11)) = true := all_cut 40 ck11_0 (all_cut 40 ck11_1 (by rw [List.drop_drop]; exact ck11_2))
theorem ck12_0 : (mr12.take 40).all (chkR (yX2_takeComparing, cX2_takeComparing, 5, (some .int), 1, 2, mr12)) = true := by decide +kernel
theorem ck12_1 : (mr12.drop 40).all (chkR (yX2_takeComparing, cX2_takeComparing, 5, (some .int), 1, 2, mr12)) = true := by decide +kernel
theorem ck12 : mr12.all (chkR (yX2_takeComparing, cX2_takeComparing, 5, (some .int), 1, 2, mr12)) = true := all_cut 40 ck12_0 (ck12_1)
theorem ck13_0 : (mr13.take 40).all (chkR (yX2_takeSum, cX2_takeSum, 6, (some .boolean), 1, 2, mr13)) = true := by decide +kernel
theorem ck13_1 : (mr13.drop 40).all (chkR (yX2_takeSum, cX2_takeSum, 6, (some .boolean), 1, 2, mr13)) = true := by decide +kernel
theorem ck13 : mr13.all (chkR (yX2_takeSum, cX2_takeSum, 6, (some .boolean), 1, 2, mr13)) = true := all_cut 40 ck13_0 (ck13_1)
theorem ck14_0 : mr14.all (chkR (yX2_takeWorking, cX2_takeWorking, 2, (some .int), 1, 2, mr14)) = true := by decide +kernel
theorem ck14 : mr14.all (chkR (yX2_takeWorking, cX2_takeWorking, 2, (some .int), 1, 2, mr14)) = true := ck14_0
theorem ck15_0 : mr15.all (chkR (yX2_workingOf, cX2_workingOf, 1, (some .int), 1, 2, mr15)) = true := by decide +kernel
theorem ck15 : mr15.all (chkR (yX2_workingOf, cX2_workingOf, 1, (some .int), 1, 2, mr15)) = true := ck15_0
theorem ck16_0 : (mr16.take 40).all (chkR (yX2_takeValue, cX2_takeValue, 4, (some .boolean), 1, 2, mr16)) = true := by decide +kernel
theorem ck16_1 : (mr16.drop 40).all (chkR (yX2_takeValue, cX2_takeValue, 4, (some .boolean), 1, 2, mr16)) = true := by decide +kernel
theorem ck16 : mr16.all (chkR (yX2_takeValue, cX2_takeValue, 4, (some .boolean), 1, 2, mr16)) = true := all_cut 40 ck16_0 (ck16_1)
theorem ck17_0 : mr17.all (chkR (yX2_grow, cX2_grow, 2, (some .boolean), 2, 2, mr17)) = true := by decide +kernel
theorem ck17 : mr17.all (chkR (yX2_grow, cX2_grow, 2, (some .boolean), 2, 2, mr17)) = true := ck17_0
theorem ck18_0 : mr18.all (chkR (yX3_init, cX3_init, 3, none, 3, 3, mr18)) = true := by decide +kernel
theorem ck18 : mr18.all (chkR (yX3_init, cX3_init, 3, none, 3, 3, mr18)) = true := ck18_0
theorem ck19_0 : mr19.all (chkR (yX3_read, cX3_read, 3, (some .int), 1, 3, mr19)) = true := by decide +kernel
theorem ck19 : mr19.all (chkR (yX3_read, cX3_read, 3, (some .int), 1, 3, mr19)) = true := ck19_0
theorem ck20_0 : mr20.all (chkR (yX3_takeClause, cX3_takeClause, 2, (some .boolean), 1, 3, mr20)) = true := by decide +kernel
theorem ck20 : mr20.all (chkR (yX3_takeClause, cX3_takeClause, 2, (some .boolean), 1, 3, mr20)) = true := ck20_0
theorem ck21_0 : (mr21.take 40).all (chkR (yX3_takeRow, cX3_takeRow, 5, (some .boolean), 2, 3, mr21)) = true := by decide +kernel
theorem ck21_1 : ((mr21.drop 40).take 40).all (chkR (yX3_takeRow, cX3_takeRow, 5, (some .boolean), 2, 3, mr21)) = true := by decide +kernel
theorem ck21_2 : ((mr21.drop 80).take 40).all (chkR (yX3_takeRow, cX3_takeRow, 5, (some .boolean), 2, 3, mr21)) = true := by decide +kernel
theorem ck21_3 : (mr21.drop 120).all (chkR (yX3_takeRow, cX3_takeRow, 5, (some .boolean), 2, 3, mr21)) = true := by decide +kernel
theorem ck21 : mr21.all (chkR (yX3_takeRow, cX3_takeRow, 5, (some .boolean), 2, 3, mr21)) = true := all_cut 40 ck21_0 (all_cut 40 ck21_1 (by rw [List.drop_drop]; exact all_cut 40 ck21_2 (by rw [List.drop_drop]; exact ck21_3)))
theorem ck22_0 : (mr22.take 40).all (chkR (yX3_takePerson, cX3_takePerson, 5, (some .boolean), 2, 3, mr22)) = true := by decide +kernel
theorem ck22_1 : (mr22.drop 40).all (chkR (yX3_takePerson, cX3_takePerson, 5, (some .boolean), 2, 3, mr22)) = true := by decide +kernel
theorem ck22 : mr22.all (chkR (yX3_takePerson, cX3_takePerson, 5, (some .boolean), 2, 3, mr22)) = true := all_cut 40 ck22_0 (ck22_1)
theorem ck23_0 : mr23.all (chkR (yX3_takeHerald, cX3_takeHerald, 3, (some .boolean), 2, 3, mr23)) = true := by decide +kernel
theorem ck23 : mr23.all (chkR (yX3_takeHerald, cX3_takeHerald, 3, (some .boolean), 2, 3, mr23)) = true := ck23_0
theorem ck24_0 : (mr24.take 40).all (chkR (yX3_takePlace, cX3_takePlace, 4, (some .int), 1, 3, mr24)) = true := by decide +kernel
theorem ck24_1 : (mr24.drop 40).all (chkR (yX3_takePlace, cX3_takePlace, 4, (some .int), 1, 3, mr24)) = true := by decide +kernel
theorem ck24 : mr24.all (chkR (yX3_takePlace, cX3_takePlace, 4, (some .int), 1, 3, mr24)) = true := all_cut 40 ck24_0 (ck24_1)
theorem ck25_0 : mr25.all (chkR (yX3_kindOf, cX3_kindOf, 1, (some .int), 1, 3, mr25)) = true := by decide +kernel
theorem ck25 : mr25.all (chkR (yX3_kindOf, cX3_kindOf, 1, (some .int), 1, 3, mr25)) = true := ck25_0
theorem ck26_0 : mr26.all (chkR (yX4_init, cX4_init, 4, none, 4, 4, mr26)) = true := by decide +kernel
theorem ck26 : mr26.all (chkR (yX4_init, cX4_init, 4, none, 4, 4, mr26)) = true := ck26_0
theorem ck27_0 : (mr27.take 40).all (chkR (yX4_foresee, cX4_foresee, 5, (some .int), 4, 4, mr27)) = true := by decide +kernel
theorem ck27_1 : (mr27.drop 40).all (chkR (yX4_foresee, cX4_foresee, 5, (some .int), 4, 4, mr27)) = true := by decide +kernel
theorem ck27 : mr27.all (chkR (yX4_foresee, cX4_foresee, 5, (some .int), 4, 4, mr27)) = true := all_cut 40 ck27_0 (ck27_1)
theorem ck28_0 : (mr28.take 40).all (chkR (yX4_findRound, cX4_findRound, 5, (some .int), 3, 4, mr28)) = true := by decide +kernel
theorem ck28_1 : (mr28.drop 40).all (chkR (yX4_findRound, cX4_findRound, 5, (some .int), 3, 4, mr28)) = true := by decide +kernel
theorem ck28 : mr28.all (chkR (yX4_findRound, cX4_findRound, 5, (some .int), 3, 4, mr28)) = true := all_cut 40 ck28_0 (ck28_1)
theorem ck29_0 : (mr29.take 40).all (chkR (yX4_keepSituation, cX4_keepSituation, 9, none, 2, 4, mr29)) = true := by decide +kernel
theorem ck29_1 : (mr29.drop 40).all (chkR (yX4_keepSituation, cX4_keepSituation, 9, none, 2, 4, mr29)) = true := by decide +kernel
theorem ck29 : mr29.all (chkR (yX4_keepSituation, cX4_keepSituation, 9, none, 2, 4, mr29)) = true := all_cut 40 ck29_0 (ck29_1)
theorem ck30_0 : mr30.all (chkR (yX4_findBefore, cX4_findBefore, 3, (some .int), 2, 4, mr30)) = true := by decide +kernel
theorem ck30 : mr30.all (chkR (yX4_findBefore, cX4_findBefore, 3, (some .int), 2, 4, mr30)) = true := ck30_0
theorem ck31_0 : (mr31.take 40).all (chkR (yX4_longestFile, cX4_longestFile, 6, (some .int), 1, 4, mr31)) = true := by decide +kernel
theorem ck31_1 : (mr31.drop 40).all (chkR (yX4_longestFile, cX4_longestFile, 6, (some .int), 1, 4, mr31)) = true := by decide +kernel
theorem ck31 : mr31.all (chkR (yX4_longestFile, cX4_longestFile, 6, (some .int), 1, 4, mr31)) = true := all_cut 40 ck31_0 (ck31_1)
