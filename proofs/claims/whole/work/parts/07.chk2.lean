theorem ck75_0 : (mr75.take 40).all (chkR (yX6_takeNumber, cX6_takeNumber, 5, (some .int), 3, 6, mr75)) = true := by decide +kernel
theorem ck75_1 : (mr75.drop 40).all (chkR (yX6_takeNumber, cX6_takeNumber, 5, (some .int), 3, 6, mr75)) = true := by decide +kernel
theorem ck75 : mr75.all (chkR (yX6_takeNumber, cX6_takeNumber, 5, (some .int), 3, 6, mr75)) = true := all_cut 40 ck75_0 (ck75_1)
theorem ck76_0 : mr76.all (chkR (yX6_isRead, cX6_isRead, 1, (some .boolean), 1, 6, mr76)) = true := by decide +kernel
theorem ck76 : mr76.all (chkR (yX6_isRead, cX6_isRead, 1, (some .boolean), 1, 6, mr76)) = true := ck76_0
theorem ck77_0 : mr77.all (chkR (yX7_init, cX7_init, 2, none, 2, 7, mr77)) = true := by decide +kernel
theorem ck77 : mr77.all (chkR (yX7_init, cX7_init, 2, none, 2, 7, mr77)) = true := ck77_0
theorem ck78_0 : mr78.all (chkR (yX7_walk, cX7_walk, 5, none, 4, 7, mr78)) = true := by decide +kernel
theorem ck78 : mr78.all (chkR (yX7_walk, cX7_walk, 5, none, 4, 7, mr78)) = true := ck78_0
theorem ck79_0 : (mr79.take 40).all (chkR (yX7_step, cX7_step, 5, (some .boolean), 3, 7, mr79)) = true := by decide +kernel
theorem ck79_1 : (mr79.drop 40).all (chkR (yX7_step, cX7_step, 5, (some .boolean), 3, 7, mr79)) = true := by decide +kernel
theorem ck79 : mr79.all (chkR (yX7_step, cX7_step, 5, (some .boolean), 3, 7, mr79)) = true := all_cut 40 ck79_0 (ck79_1)
theorem ck80_0 : mr80.all (chkR (yX7_askAll, cX7_askAll, 4, none, 3, 7, mr80)) = true := by decide +kernel
theorem ck80 : mr80.all (chkR (yX7_askAll, cX7_askAll, 4, none, 3, 7, mr80)) = true := ck80_0
theorem ck81_0 : (mr81.take 40).all (chkR (yX7_look, cX7_look, 9, none, 3, 7, mr81)) = true := by decide +kernel
theorem ck81_1 : ((mr81.drop 40).take 40).all (chkR (yX7_look, cX7_look, 9, none, 3, 7, mr81)) = true := by decide +kernel
theorem ck81_2 : (mr81.drop 80).all (chkR (yX7_look, cX7_look, 9, none, 3, 7, mr81)) = true := by decide +kernel
theorem ck81 : mr81.all (chkR (yX7_look, cX7_look, 9, none, 3, 7, mr81)) = true := all_cut 40 ck81_0 (all_cut 40 ck81_1 (by rw [List.drop_drop]; exact ck81_2))
theorem ck82_0 : mr82.all (chkR (yX7_insert, cX7_insert, 3, none, 2, 7, mr82)) = true := by decide +kernel
theorem ck82 : mr82.all (chkR (yX7_insert, cX7_insert, 3, none, 2, 7, mr82)) = true := ck82_0
theorem ck83_0 : mr83.all (chkR (yX7_sightedAt, cX7_sightedAt, 2, (some .int), 2, 7, mr83)) = true := by decide +kernel
theorem ck83 : mr83.all (chkR (yX7_sightedAt, cX7_sightedAt, 2, (some .int), 2, 7, mr83)) = true := ck83_0
theorem ck84_0 : (mr84.take 40).all (chkR (yX7_choose, cX7_choose, 7, (some .int), 4, 7, mr84)) = true := by decide +kernel
theorem ck84_1 : (mr84.drop 40).all (chkR (yX7_choose, cX7_choose, 7, (some .int), 4, 7, mr84)) = true := by decide +kernel
theorem ck84 : mr84.all (chkR (yX7_choose, cX7_choose, 7, (some .int), 4, 7, mr84)) = true := all_cut 40 ck84_0 (ck84_1)
theorem ck85_0 : (mr85.take 40).all (chkR (yX7_holds, cX7_holds, 9, (some .boolean), 6, 7, mr85)) = true := by decide +kernel
theorem ck85_1 : ((mr85.drop 40).take 40).all (chkR (yX7_holds, cX7_holds, 9, (some .boolean), 6, 7, mr85)) = true := by decide +kernel
theorem ck85_2 : (mr85.drop 80).all (chkR (yX7_holds, cX7_holds, 9, (some .boolean), 6, 7, mr85)) = true := by decide +kernel
theorem ck85 : mr85.all (chkR (yX7_holds, cX7_holds, 9, (some .boolean), 6, 7, mr85)) = true := all_cut 40 ck85_0 (all_cut 40 ck85_1 (by rw [List.drop_drop]; exact ck85_2))
theorem ck86_0 : (mr86.take 40).all (chkR (yX7_work, cX7_work, 5, (some .long), 3, 7, mr86)) = true := by decide +kernel
theorem ck86_1 : ((mr86.drop 40).take 40).all (chkR (yX7_work, cX7_work, 5, (some .long), 3, 7, mr86)) = true := by decide +kernel
theorem ck86_2 : (mr86.drop 80).all (chkR (yX7_work, cX7_work, 5, (some .long), 3, 7, mr86)) = true := by decide +kernel
theorem ck86 : mr86.all (chkR (yX7_work, cX7_work, 5, (some .long), 3, 7, mr86)) = true := all_cut 40 ck86_0 (all_cut 40 ck86_1 (by rw [List.drop_drop]; exact ck86_2))
theorem ck87_0 : (mr87.take 40).all (chkR (yX7_valueOf, cX7_valueOf, 5, (some .long), 4, 7, mr87)) = true := by decide +kernel
theorem ck87_1 : (mr87.drop 40).all (chkR (yX7_valueOf, cX7_valueOf, 5, (some .long), 4, 7, mr87)) = true := by decide +kernel
theorem ck87 : mr87.all (chkR (yX7_valueOf, cX7_valueOf, 5, (some .long), 4, 7, mr87)) = true := all_cut 40 ck87_0 (ck87_1)
theorem ck88_0 : (mr88.take 40).all (chkR (yX7_approach, cX7_approach, 9, (some .boolean), 3, 7, mr88)) = true := by decide +kernel
theorem ck88_1 : (mr88.drop 40).all (chkR (yX7_approach, cX7_approach, 9, (some .boolean), 3, 7, mr88)) = true := by decide +kernel
theorem ck88 : mr88.all (chkR (yX7_approach, cX7_approach, 9, (some .boolean), 3, 7, mr88)) = true := all_cut 40 ck88_0 (ck88_1)
theorem ck89_0 : mr89.all (chkR (yX7_leaveByGate, cX7_leaveByGate, 3, none, 2, 7, mr89)) = true := by decide +kernel
theorem ck89 : mr89.all (chkR (yX7_leaveByGate, cX7_leaveByGate, 3, none, 2, 7, mr89)) = true := ck89_0
theorem ck90_0 : mr90.all (chkR (yX7_distance, cX7_distance, 4, (some .int), 2, 7, mr90)) = true := by decide +kernel
theorem ck90 : mr90.all (chkR (yX7_distance, cX7_distance, 4, (some .int), 2, 7, mr90)) = true := ck90_0
theorem ck91_0 : (mr91.take 40).all (chkR (yX8_init, cX8_init, 2, none, 1, 8, mr91)) = true := by decide +kernel
theorem ck91_1 : ((mr91.drop 40).take 40).all (chkR (yX8_init, cX8_init, 2, none, 1, 8, mr91)) = true := by decide +kernel
theorem ck91_2 : (mr91.drop 80).all (chkR (yX8_init, cX8_init, 2, none, 1, 8, mr91)) = true := by decide +kernel
theorem ck91 : mr91.all (chkR (yX8_init, cX8_init, 2, none, 1, 8, mr91)) = true := all_cut 40 ck91_0 (all_cut 40 ck91_1 (by rw [List.drop_drop]; exact ck91_2))
theorem ck92_0 : mr92.all (chkR (yX8_feed, cX8_feed, 6, (some .int), 6, 8, mr92)) = true := by decide +kernel
theorem ck92 : mr92.all (chkR (yX8_feed, cX8_feed, 6, (some .int), 6, 8, mr92)) = true := ck92_0
theorem ck93_0 : mr93.all (chkR (yX8_end, cX8_end, 2, (some .int), 2, 8, mr93)) = true := by decide +kernel
theorem ck93 : mr93.all (chkR (yX8_end, cX8_end, 2, (some .int), 2, 8, mr93)) = true := ck93_0
theorem ck94_0 : mr94.all (chkR (yX8_plain, cX8_plain, 2, (some .int), 1, 8, mr94)) = true := by decide +kernel
theorem ck94 : mr94.all (chkR (yX8_plain, cX8_plain, 2, (some .int), 1, 8, mr94)) = true := ck94_0
theorem ck95_0 : mr95.all (chkR (yX8_law, cX8_law, 2, (some .int), 1, 8, mr95)) = true := by decide +kernel
theorem ck95 : mr95.all (chkR (yX8_law, cX8_law, 2, (some .int), 1, 8, mr95)) = true := ck95_0
theorem ck96_0 : (mr96.take 40).all (chkR (yX8_person, cX8_person, 4, (some .int), 3, 8, mr96)) = true := by decide +kernel
theorem ck96_1 : (mr96.drop 40).all (chkR (yX8_person, cX8_person, 4, (some .int), 3, 8, mr96)) = true := by decide +kernel
theorem ck96 : mr96.all (chkR (yX8_person, cX8_person, 4, (some .int), 3, 8, mr96)) = true := all_cut 40 ck96_0 (ck96_1)
theorem ck97_0 : mr97.all (chkR (yX8_herald, cX8_herald, 4, (some .int), 3, 8, mr97)) = true := by decide +kernel
theorem ck97 : mr97.all (chkR (yX8_herald, cX8_herald, 4, (some .int), 3, 8, mr97)) = true := ck97_0
theorem ck98_0 : mr98.all (chkR (yX8_cell, cX8_cell, 5, (some .int), 4, 8, mr98)) = true := by decide +kernel
theorem ck98 : mr98.all (chkR (yX8_cell, cX8_cell, 5, (some .int), 4, 8, mr98)) = true := ck98_0
theorem ck99_0 : mr99.all (chkR (yX8_sees, cX8_sees, 2, (some .int), 2, 8, mr99)) = true := by decide +kernel
theorem ck99 : mr99.all (chkR (yX8_sees, cX8_sees, 2, (some .int), 2, 8, mr99)) = true := ck99_0
theorem ck100_0 : mr100.all (chkR (yX8_seen, cX8_seen, 4, (some .int), 3, 8, mr100)) = true := by decide +kernel
theorem ck100 : mr100.all (chkR (yX8_seen, cX8_seen, 4, (some .int), 3, 8, mr100)) = true := ck100_0
theorem ck101_0 : mr101.all (chkR (yX8_goes, cX8_goes, 3, (some .boolean), 3, 8, mr101)) = true := by decide +kernel
theorem ck101 : mr101.all (chkR (yX8_goes, cX8_goes, 3, (some .boolean), 3, 8, mr101)) = true := ck101_0
theorem ck102_0 : mr102.all (chkR (yX8_tick, cX8_tick, 3, (some .int), 3, 8, mr102)) = true := by decide +kernel
theorem ck102 : mr102.all (chkR (yX8_tick, cX8_tick, 3, (some .int), 3, 8, mr102)) = true := ck102_0
theorem ck103_0 : mr103.all (chkR (yX8_follows, cX8_follows, 4, (some .int), 3, 8, mr103)) = true := by decide +kernel
theorem ck103 : mr103.all (chkR (yX8_follows, cX8_follows, 4, (some .int), 3, 8, mr103)) = true := ck103_0
theorem ck104_0 : mr104.all (chkR (yX8_ahead, cX8_ahead, 4, (some .int), 4, 8, mr104)) = true := by decide +kernel
theorem ck104 : mr104.all (chkR (yX8_ahead, cX8_ahead, 4, (some .int), 4, 8, mr104)) = true := ck104_0
theorem ck105_0 : mr105.all (chkR (yX8_round, cX8_round, 3, (some .int), 3, 8, mr105)) = true := by decide +kernel
theorem ck105 : mr105.all (chkR (yX8_round, cX8_round, 3, (some .int), 3, 8, mr105)) = true := ck105_0
theorem ck106_0 : mr106.all (chkR (yX8_files, cX8_files, 3, (some .int), 3, 8, mr106)) = true := by decide +kernel
theorem ck106 : mr106.all (chkR (yX8_files, cX8_files, 3, (some .int), 3, 8, mr106)) = true := ck106_0
theorem ck107_0 : mr107.all (chkR (yX8_without, cX8_without, 4, (some .int), 4, 8, mr107)) = true := by decide +kernel
theorem ck107 : mr107.all (chkR (yX8_without, cX8_without, 4, (some .int), 4, 8, mr107)) = true := ck107_0
theorem ck108_0 : mr108.all (chkR (yX8_leader, cX8_leader, 4, (some .int), 4, 8, mr108)) = true := by decide +kernel
theorem ck108 : mr108.all (chkR (yX8_leader, cX8_leader, 4, (some .int), 4, 8, mr108)) = true := ck108_0
theorem ck109_0 : mr109.all (chkR (yX8_post, cX8_post, 4, (some .int), 4, 8, mr109)) = true := by decide +kernel
theorem ck109 : mr109.all (chkR (yX8_post, cX8_post, 4, (some .int), 4, 8, mr109)) = true := ck109_0
theorem ck110_0 : (mr110.take 40).all (chkR (yX8_lead, cX8_lead, 5, (some .int), 5, 8, mr110)) = true := by decide +kernel
theorem ck110_1 : (mr110.drop 40).all (chkR (yX8_lead, cX8_lead, 5, (some .int), 5, 8, mr110)) = true := by decide +kernel
theorem ck110 : mr110.all (chkR (yX8_lead, cX8_lead, 5, (some .int), 5, 8, mr110)) = true := all_cut 40 ck110_0 (ck110_1)
