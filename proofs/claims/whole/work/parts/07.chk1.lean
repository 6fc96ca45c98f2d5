theorem ck32_0 : (mr32.take 40).all (chkR (yX4_findRings, cX4_findRings, 6, (some .int), 2, 4, mr32)) = true := by decide +kernel
theorem ck32_1 : (mr32.drop 40).all (chkR (yX4_findRings, cX4_findRings, 6, (some .int), 2, 4, mr32)) = true := by decide +kernel
theorem ck32 : mr32.all (chkR (yX4_findRings, cX4_findRings, 6, (some .int), 2, 4, mr32)) = true := all_cut 40 ck32_0 (ck32_1)
theorem ck33_0 : mr33.all (chkR (yX4_ringFrom, cX4_ringFrom, 5, (some .int), 2, 4, mr33)) = true := by decide +kernel
theorem ck33 : mr33.all (chkR (yX4_ringFrom, cX4_ringFrom, 5, (some .int), 2, 4, mr33)) = true := ck33_0
theorem ck34_0 : mr34.all (chkR (yX4_missedBy, cX4_missedBy, 4, (some .int), 4, 4, mr34)) = true := by decide +kernel
theorem ck34 : mr34.all (chkR (yX4_missedBy, cX4_missedBy, 4, (some .int), 4, 4, mr34)) = true := ck34_0
theorem ck35_0 : (mr35.take 40).all (chkR (yX4_findLeader, cX4_findLeader, 8, (some .int), 4, 4, mr35)) = true := by decide +kernel
theorem ck35_1 : (mr35.drop 40).all (chkR (yX4_findLeader, cX4_findLeader, 8, (some .int), 4, 4, mr35)) = true := by decide +kernel
theorem ck35 : mr35.all (chkR (yX4_findLeader, cX4_findLeader, 8, (some .int), 4, 4, mr35)) = true := all_cut 40 ck35_0 (ck35_1)
theorem ck36_0 : mr36.all (chkR (yX4_walkUsually, cX4_walkUsually, 3, none, 3, 4, mr36)) = true := by decide +kernel
theorem ck36 : mr36.all (chkR (yX4_walkUsually, cX4_walkUsually, 3, none, 3, 4, mr36)) = true := ck36_0
theorem ck37_0 : (mr37.take 40).all (chkR (yX4_countElsewhere, cX4_countElsewhere, 6, (some .int), 4, 4, mr37)) = true := by decide +kernel
theorem ck37_1 : (mr37.drop 40).all (chkR (yX4_countElsewhere, cX4_countElsewhere, 6, (some .int), 4, 4, mr37)) = true := by decide +kernel
theorem ck37 : mr37.all (chkR (yX4_countElsewhere, cX4_countElsewhere, 6, (some .int), 4, 4, mr37)) = true := all_cut 40 ck37_0 (ck37_1)
theorem ck38_0 : mr38.all (chkR (yX4_boundOfOut, cX4_boundOfOut, 5, (some .int), 2, 4, mr38)) = true := by decide +kernel
theorem ck38 : mr38.all (chkR (yX4_boundOfOut, cX4_boundOfOut, 5, (some .int), 2, 4, mr38)) = true := ck38_0
theorem ck39_0 : (mr39.take 40).all (chkR (yX4_findPost, cX4_findPost, 9, (some .int), 4, 4, mr39)) = true := by decide +kernel
theorem ck39_1 : (mr39.drop 40).all (chkR (yX4_findPost, cX4_findPost, 9, (some .int), 4, 4, mr39)) = true := by decide +kernel
theorem ck39 : mr39.all (chkR (yX4_findPost, cX4_findPost, 9, (some .int), 4, 4, mr39)) = true := all_cut 40 ck39_0 (ck39_1)
theorem ck40_0 : (mr40.take 40).all (chkR (yX4_findCourse, cX4_findCourse, 10, (some .int), 5, 4, mr40)) = true := by decide +kernel
theorem ck40_1 : (mr40.drop 40).all (chkR (yX4_findCourse, cX4_findCourse, 10, (some .int), 5, 4, mr40)) = true := by decide +kernel
theorem ck40 : mr40.all (chkR (yX4_findCourse, cX4_findCourse, 10, (some .int), 5, 4, mr40)) = true := all_cut 40 ck40_0 (ck40_1)
theorem ck41_0 : (mr41.take 40).all (chkR (yX4_tryCourse, cX4_tryCourse, 7, (some .int), 5, 4, mr41)) = true := by decide +kernel
theorem ck41_1 : (mr41.drop 40).all (chkR (yX4_tryCourse, cX4_tryCourse, 7, (some .int), 5, 4, mr41)) = true := by decide +kernel
theorem ck41 : mr41.all (chkR (yX4_tryCourse, cX4_tryCourse, 7, (some .int), 5, 4, mr41)) = true := all_cut 40 ck41_0 (ck41_1)
theorem ck42_0 : mr42.all (chkR (yX4_choiceOf, cX4_choiceOf, 4, (some .int), 3, 4, mr42)) = true := by decide +kernel
theorem ck42 : mr42.all (chkR (yX4_choiceOf, cX4_choiceOf, 4, (some .int), 3, 4, mr42)) = true := ck42_0
theorem ck43_0 : (mr43.take 40).all (chkR (yX4_findWall, cX4_findWall, 5, (some .int), 3, 4, mr43)) = true := by decide +kernel
theorem ck43_1 : ((mr43.drop 40).take 40).all (chkR (yX4_findWall, cX4_findWall, 5, (some .int), 3, 4, mr43)) = true := by decide +kernel
theorem ck43_2 : (mr43.drop 80).all (chkR (yX4_findWall, cX4_findWall, 5, (some .int), 3, 4, mr43)) = true := by decide +kernel
theorem ck43 : mr43.all (chkR (yX4_findWall, cX4_findWall, 5, (some .int), 3, 4, mr43)) = true := all_cut 40 ck43_0 (all_cut 40 ck43_1 (by rw [List.drop_drop]; exact ck43_2))
theorem ck44_0 : (mr44.take 40).all (chkR (yX4_countAgo, cX4_countAgo, 5, (some .int), 2, 4, mr44)) = true := by decide +kernel
theorem ck44_1 : (mr44.drop 40).all (chkR (yX4_countAgo, cX4_countAgo, 5, (some .int), 2, 4, mr44)) = true := by decide +kernel
theorem ck44 : mr44.all (chkR (yX4_countAgo, cX4_countAgo, 5, (some .int), 2, 4, mr44)) = true := all_cut 40 ck44_0 (ck44_1)
theorem ck45_0 : (mr45.take 40).all (chkR (yX4_arrange, cX4_arrange, 7, (some .boolean), 3, 4, mr45)) = true := by decide +kernel
theorem ck45_1 : (mr45.drop 40).all (chkR (yX4_arrange, cX4_arrange, 7, (some .boolean), 3, 4, mr45)) = true := by decide +kernel
theorem ck45 : mr45.all (chkR (yX4_arrange, cX4_arrange, 7, (some .boolean), 3, 4, mr45)) = true := all_cut 40 ck45_0 (ck45_1)
theorem ck46_0 : mr46.all (chkR (yX4_leadsHere, cX4_leadsHere, 4, (some .boolean), 3, 4, mr46)) = true := by decide +kernel
theorem ck46 : mr46.all (chkR (yX4_leadsHere, cX4_leadsHere, 4, (some .boolean), 3, 4, mr46)) = true := ck46_0
theorem ck47_0 : (mr47.take 40).all (chkR (yX4_judge, cX4_judge, 6, (some .int), 2, 4, mr47)) = true := by decide +kernel
theorem ck47_1 : ((mr47.drop 40).take 40).all (chkR (yX4_judge, cX4_judge, 6, (some .int), 2, 4, mr47)) = true := by decide +kernel
theorem ck47_2 : (mr47.drop 80).all (chkR (yX4_judge, cX4_judge, 6, (some .int), 2, 4, mr47)) = true := by decide +kernel
theorem ck47 : mr47.all (chkR (yX4_judge, cX4_judge, 6, (some .int), 2, 4, mr47)) = true := all_cut 40 ck47_0 (all_cut 40 ck47_1 (by rw [List.drop_drop]; exact ck47_2))
theorem ck48_0 : mr48.all (chkR (yX4_isFollowing, cX4_isFollowing, 3, (some .boolean), 3, 4, mr48)) = true := by decide +kernel
theorem ck48 : mr48.all (chkR (yX4_isFollowing, cX4_isFollowing, 3, (some .boolean), 3, 4, mr48)) = true := ck48_0
theorem ck49_0 : (mr49.take 40).all (chkR (yX5_init, cX5_init, 1, none, 1, 5, mr49)) = true := by decide +kernel
theorem ck49_1 : (mr49.drop 40).all (chkR (yX5_init, cX5_init, 1, none, 1, 5, mr49)) = true := by decide +kernel
theorem ck49 : mr49.all (chkR (yX5_init, cX5_init, 1, none, 1, 5, mr49)) = true := all_cut 40 ck49_0 (ck49_1)
theorem ck50_0 : mr50.all (chkR (yX5_wipe, cX5_wipe, 1, none, 1, 5, mr50)) = true := by decide +kernel
theorem ck50 : mr50.all (chkR (yX5_wipe, cX5_wipe, 1, none, 1, 5, mr50)) = true := ck50_0
theorem ck51_0 : (mr51.take 40).all (chkR (yX5_copyAll, cX5_copyAll, 2, none, 2, 5, mr51)) = true := by decide +kernel
theorem ck51_1 : (mr51.drop 40).all (chkR (yX5_copyAll, cX5_copyAll, 2, none, 2, 5, mr51)) = true := by decide +kernel
theorem ck51 : mr51.all (chkR (yX5_copyAll, cX5_copyAll, 2, none, 2, 5, mr51)) = true := all_cut 40 ck51_0 (ck51_1)
theorem ck52_0 : mr52.all (chkR (yX5_copyPlaces, cX5_copyPlaces, 2, none, 2, 5, mr52)) = true := by decide +kernel
theorem ck52 : mr52.all (chkR (yX5_copyPlaces, cX5_copyPlaces, 2, none, 2, 5, mr52)) = true := ck52_0
theorem ck53_0 : mr53.all (chkR (yX5_isPerson, cX5_isPerson, 2, (some .boolean), 2, 5, mr53)) = true := by decide +kernel
theorem ck53 : mr53.all (chkR (yX5_isPerson, cX5_isPerson, 2, (some .boolean), 2, 5, mr53)) = true := ck53_0
theorem ck54_0 : mr54.all (chkR (yX5_isHerald, cX5_isHerald, 2, (some .boolean), 2, 5, mr54)) = true := by decide +kernel
theorem ck54 : mr54.all (chkR (yX5_isHerald, cX5_isHerald, 2, (some .boolean), 2, 5, mr54)) = true := ck54_0
theorem ck55_0 : mr55.all (chkR (yX5_isAnybody, cX5_isAnybody, 2, (some .boolean), 2, 5, mr55)) = true := by decide +kernel
theorem ck55 : mr55.all (chkR (yX5_isAnybody, cX5_isAnybody, 2, (some .boolean), 2, 5, mr55)) = true := ck55_0
theorem ck56_0 : mr56.all (chkR (yX5_isCell, cX5_isCell, 3, (some .boolean), 3, 5, mr56)) = true := by decide +kernel
theorem ck56 : mr56.all (chkR (yX5_isCell, cX5_isCell, 3, (some .boolean), 3, 5, mr56)) = true := ck56_0
theorem ck57_0 : mr57.all (chkR (yX5_isFree, cX5_isFree, 4, (some .boolean), 3, 5, mr57)) = true := by decide +kernel
theorem ck57 : mr57.all (chkR (yX5_isFree, cX5_isFree, 4, (some .boolean), 3, 5, mr57)) = true := ck57_0
theorem ck58_0 : (mr58.take 40).all (chkR (yX5_beside, cX5_beside, 5, (some .int), 3, 5, mr58)) = true := by decide +kernel
theorem ck58_1 : (mr58.drop 40).all (chkR (yX5_beside, cX5_beside, 5, (some .int), 3, 5, mr58)) = true := by decide +kernel
theorem ck58 : mr58.all (chkR (yX5_beside, cX5_beside, 5, (some .int), 3, 5, mr58)) = true := all_cut 40 ck58_0 (ck58_1)
theorem ck59_0 : mr59.all (chkR (yX5_lift, cX5_lift, 2, none, 2, 5, mr59)) = true := by decide +kernel
theorem ck59 : mr59.all (chkR (yX5_lift, cX5_lift, 2, none, 2, 5, mr59)) = true := ck59_0
theorem ck60_0 : mr60.all (chkR (yX5_put, cX5_put, 3, none, 3, 5, mr60)) = true := by decide +kernel
theorem ck60 : mr60.all (chkR (yX5_put, cX5_put, 3, none, 3, 5, mr60)) = true := ck60_0
theorem ck61_0 : mr61.all (chkR (yX5_goBy, cX5_goBy, 4, (some .boolean), 3, 5, mr61)) = true := by decide +kernel
theorem ck61 : mr61.all (chkR (yX5_goBy, cX5_goBy, 4, (some .boolean), 3, 5, mr61)) = true := ck61_0
theorem ck62_0 : mr62.all (chkR (yX5_addSpoor, cX5_addSpoor, 4, none, 4, 5, mr62)) = true := by decide +kernel
theorem ck62 : mr62.all (chkR (yX5_addSpoor, cX5_addSpoor, 4, none, 4, 5, mr62)) = true := ck62_0
theorem ck63_0 : mr63.all (chkR (yX5_isGround, cX5_isGround, 1, (some .boolean), 1, 5, mr63)) = true := by decide +kernel
theorem ck63 : mr63.all (chkR (yX5_isGround, cX5_isGround, 1, (some .boolean), 1, 5, mr63)) = true := ck63_0
theorem ck64_0 : mr64.all (chkR (yX6_init, cX6_init, 1, none, 1, 6, mr64)) = true := by decide +kernel
theorem ck64 : mr64.all (chkR (yX6_init, cX6_init, 1, none, 1, 6, mr64)) = true := ck64_0
theorem ck65_0 : mr65.all (chkR (yX6_hasRoom, cX6_hasRoom, 2, (some .boolean), 2, 6, mr65)) = true := by decide +kernel
theorem ck65 : mr65.all (chkR (yX6_hasRoom, cX6_hasRoom, 2, (some .boolean), 2, 6, mr65)) = true := ck65_0
theorem ck66_0 : mr66.all (chkR (yX6_add, cX6_add, 3, none, 2, 6, mr66)) = true := by decide +kernel
theorem ck66 : mr66.all (chkR (yX6_add, cX6_add, 3, none, 2, 6, mr66)) = true := ck66_0
theorem ck67_0 : mr67.all (chkR (yX6_rewind, cX6_rewind, 1, none, 1, 6, mr67)) = true := by decide +kernel
theorem ck67 : mr67.all (chkR (yX6_rewind, cX6_rewind, 1, none, 1, 6, mr67)) = true := ck67_0
theorem ck68_0 : mr68.all (chkR (yX6_here, cX6_here, 1, (some .int), 1, 6, mr68)) = true := by decide +kernel
theorem ck68 : mr68.all (chkR (yX6_here, cX6_here, 1, (some .int), 1, 6, mr68)) = true := ck68_0
theorem ck69_0 : mr69.all (chkR (yX6_skip, cX6_skip, 1, (some .int), 1, 6, mr69)) = true := by decide +kernel
theorem ck69 : mr69.all (chkR (yX6_skip, cX6_skip, 1, (some .int), 1, 6, mr69)) = true := ck69_0
theorem ck70_0 : mr70.all (chkR (yX6_blame, cX6_blame, 3, (some .boolean), 3, 6, mr70)) = true := by decide +kernel
theorem ck70 : mr70.all (chkR (yX6_blame, cX6_blame, 3, (some .boolean), 3, 6, mr70)) = true := ck70_0
theorem ck71_0 : mr71.all (chkR (yX6_take, cX6_take, 2, (some .boolean), 2, 6, mr71)) = true := by decide +kernel
theorem ck71 : mr71.all (chkR (yX6_take, cX6_take, 2, (some .boolean), 2, 6, mr71)) = true := ck71_0
theorem ck72_0 : (mr72.take 40).all (chkR (yX6_takeWord, cX6_takeWord, 8, (some .int), 2, 6, mr72)) = true := by decide +kernel
theorem ck72_1 : ((mr72.drop 40).take 40).all (chkR (yX6_takeWord, cX6_takeWord, 8, (some .int), 2, 6, mr72)) = true := by decide +kernel
theorem ck72_2 : (mr72.drop 80).all (chkR (yX6_takeWord, cX6_takeWord, 8, (some .int), 2, 6, mr72)) = true := by decide +kernel
theorem ck72 : mr72.all (chkR (yX6_takeWord, cX6_takeWord, 8, (some .int), 2, 6, mr72)) = true := all_cut 40 ck72_0 (all_cut 40 ck72_1 (by rw [List.drop_drop]; exact ck72_2))
theorem ck73_0 : mr73.all (chkR (yX6_onDigit, cX6_onDigit, 1, (some .boolean), 1, 6, mr73)) = true := by decide +kernel
theorem ck73 : mr73.all (chkR (yX6_onDigit, cX6_onDigit, 1, (some .boolean), 1, 6, mr73)) = true := ck73_0
theorem ck74_0 : mr74.all (chkR (yX6_onDigit, cX6_onDigit, 1, (some .boolean), 1, 6, mr74)) = true := by decide +kernel
theorem ck74 : mr74.all (chkR (yX6_onDigit, cX6_onDigit, 1, (some .boolean), 1, 6, mr74)) = true := ck74_0
