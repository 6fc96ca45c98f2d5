theorem ck111_0 : mr111.all (chkR (yX8_wall, cX8_wall, 3, (some .int), 3, 8, mr111)) = true := by decide +kernel
theorem ck111 : mr111.all (chkR (yX8_wall, cX8_wall, 3, (some .int), 3, 8, mr111)) = true := ck111_0
theorem ck112_0 : mr112.all (chkR (yX8_ago, cX8_ago, 2, (some .int), 2, 8, mr112)) = true := by decide +kernel
theorem ck112 : mr112.all (chkR (yX8_ago, cX8_ago, 2, (some .int), 2, 8, mr112)) = true := ck112_0
theorem ck113_0 : (mr113.take 40).all (chkR (yX8_spoor, cX8_spoor, 4, (some .int), 4, 8, mr113)) = true := by decide +kernel
theorem ck113_1 : (mr113.drop 40).all (chkR (yX8_spoor, cX8_spoor, 4, (some .int), 4, 8, mr113)) = true := by decide +kernel
theorem ck113 : mr113.all (chkR (yX8_spoor, cX8_spoor, 4, (some .int), 4, 8, mr113)) = true := all_cut 40 ck113_0 (ck113_1)
theorem ck114_0 : mr114.all (chkR (yX8_judged, cX8_judged, 2, (some .int), 2, 8, mr114)) = true := by decide +kernel
theorem ck114 : mr114.all (chkR (yX8_judged, cX8_judged, 2, (some .int), 2, 8, mr114)) = true := ck114_0
theorem ck115_0 : (mr115.take 40).all (chkR (yX8_bestLaw, cX8_bestLaw, 6, (some .int), 2, 8, mr115)) = true := by decide +kernel
theorem ck115_1 : (mr115.drop 40).all (chkR (yX8_bestLaw, cX8_bestLaw, 6, (some .int), 2, 8, mr115)) = true := by decide +kernel
theorem ck115 : mr115.all (chkR (yX8_bestLaw, cX8_bestLaw, 6, (some .int), 2, 8, mr115)) = true := all_cut 40 ck115_0 (ck115_1)
theorem ck116_0 : (mr116.take 40).all (chkR (yX8_count, cX8_count, 2, (some .int), 2, 8, mr116)) = true := by decide +kernel
theorem ck116_1 : (mr116.drop 40).all (chkR (yX8_count, cX8_count, 2, (some .int), 2, 8, mr116)) = true := by decide +kernel
theorem ck116 : mr116.all (chkR (yX8_count, cX8_count, 2, (some .int), 2, 8, mr116)) = true := all_cut 40 ck116_0 (ck116_1)
theorem ck117_0 : mr117.all (chkR (yX8_image, cX8_image, 2, (some .int), 2, 8, mr117)) = true := by decide +kernel
theorem ck117 : mr117.all (chkR (yX8_image, cX8_image, 2, (some .int), 2, 8, mr117)) = true := ck117_0
theorem ck118_0 : mr118.all (chkR (yX8_back, cX8_back, 2, (some .int), 2, 8, mr118)) = true := by decide +kernel
theorem ck118 : mr118.all (chkR (yX8_back, cX8_back, 2, (some .int), 2, 8, mr118)) = true := ck118_0
theorem ck119_0 : mr119.all (chkR (yX8_canWalk, cX8_canWalk, 2, (some .boolean), 2, 8, mr119)) = true := by decide +kernel
theorem ck119 : mr119.all (chkR (yX8_canWalk, cX8_canWalk, 2, (some .boolean), 2, 8, mr119)) = true := ck119_0
theorem ck120_0 : (mr120.take 40).all (chkR (yX9_init, cX9_init, 1, none, 1, 9, mr120)) = true := by decide +kernel
theorem ck120_1 : ((mr120.drop 40).take 40).all (chkR (yX9_init, cX9_init, 1, none, 1, 9, mr120)) = true := by decide +kernel
theorem ck120_2 : ((mr120.drop 80).take 40).all (chkR (yX9_init, cX9_init, 1, none, 1, 9, mr120)) = true := by decide +kernel
theorem ck120_3 : ((mr120.drop 120).take 40).all (chkR (yX9_init, cX9_init, 1, none, 1, 9, mr120)) = true := by decide +kernel
theorem ck120_4 : (mr120.drop 160).all (chkR (yX9_init, cX9_init, 1, none, 1, 9, mr120)) = true := by decide +kernel
theorem ck120 : mr120.all (chkR (yX9_init, cX9_init, 1, none, 1, 9, mr120)) = true := all_cut 40 ck120_0 (all_cut 40 ck120_1 (by rw [List.drop_drop]; exact all_cut 40 ck120_2 (by rw [List.drop_drop]; exact all_cut 40 ck120_3 (by rw [List.drop_drop]; exact ck120_4))))
theorem ck121_0 : mr121.all (chkR (yX9_in, cX9_in, 6, (some .boolean), 3, 9, mr121)) = true := by decide +kernel
theorem ck121 : mr121.all (chkR (yX9_in, cX9_in, 6, (some .boolean), 3, 9, mr121)) = true := ck121_0
theorem ck122_0 : mr122.all (chkR (yX9_without0, cX9_without0, 1, (some .int), 1, 9, mr122)) = true := by decide +kernel
theorem ck122 : mr122.all (chkR (yX9_without0, cX9_without0, 1, (some .int), 1, 9, mr122)) = true := ck122_0
theorem ck123_0 : mr123.all (chkR (yX9_floor, cX9_floor, 2, (some .int), 2, 9, mr123)) = true := by decide +kernel
theorem ck123 : mr123.all (chkR (yX9_floor, cX9_floor, 2, (some .int), 2, 9, mr123)) = true := ck123_0
theorem ck124_0 : mr124.all (chkR (yX9_isPlain, cX9_isPlain, 1, (some .boolean), 1, 9, mr124)) = true := by decide +kernel
theorem ck124 : mr124.all (chkR (yX9_isPlain, cX9_isPlain, 1, (some .boolean), 1, 9, mr124)) = true := ck124_0
theorem ck125_0 : mr125.all (chkR (yX9_isCell, cX9_isCell, 3, (some .boolean), 3, 9, mr125)) = true := by decide +kernel
theorem ck125 : mr125.all (chkR (yX9_isCell, cX9_isCell, 3, (some .boolean), 3, 9, mr125)) = true := ck125_0
theorem ck126_0 : mr126.all (chkR (yX9_isThere, cX9_isThere, 2, (some .boolean), 2, 9, mr126)) = true := by decide +kernel
theorem ck126 : mr126.all (chkR (yX9_isThere, cX9_isThere, 2, (some .boolean), 2, 9, mr126)) = true := ck126_0
theorem ck127_0 : mr127.all (chkR (yX9_isPerson, cX9_isPerson, 2, (some .boolean), 2, 9, mr127)) = true := by decide +kernel
theorem ck127 : mr127.all (chkR (yX9_isPerson, cX9_isPerson, 2, (some .boolean), 2, 9, mr127)) = true := ck127_0
theorem ck128_0 : mr128.all (chkR (yX9_isWho, cX9_isWho, 2, (some .boolean), 2, 9, mr128)) = true := by decide +kernel
theorem ck128 : mr128.all (chkR (yX9_isWho, cX9_isWho, 2, (some .boolean), 2, 9, mr128)) = true := ck128_0
theorem ck129_0 : mr129.all (chkR (yX9_isFloor, cX9_isFloor, 1, (some .boolean), 1, 9, mr129)) = true := by decide +kernel
theorem ck129 : mr129.all (chkR (yX9_isFloor, cX9_isFloor, 1, (some .boolean), 1, 9, mr129)) = true := ck129_0
theorem ck130_0 : mr130.all (chkR (yX9_whoAt, cX9_whoAt, 3, (some .int), 2, 9, mr130)) = true := by decide +kernel
theorem ck130 : mr130.all (chkR (yX9_whoAt, cX9_whoAt, 3, (some .int), 2, 9, mr130)) = true := ck130_0
theorem ck131_0 : mr131.all (chkR (yX9_isFree, cX9_isFree, 2, (some .boolean), 2, 9, mr131)) = true := by decide +kernel
theorem ck131 : mr131.all (chkR (yX9_isFree, cX9_isFree, 2, (some .boolean), 2, 9, mr131)) = true := ck131_0
theorem ck132_0 : (mr132.take 40).all (chkR (yX9_beside, cX9_beside, 5, (some .int), 3, 9, mr132)) = true := by decide +kernel
theorem ck132_1 : (mr132.drop 40).all (chkR (yX9_beside, cX9_beside, 5, (some .int), 3, 9, mr132)) = true := by decide +kernel
theorem ck132 : mr132.all (chkR (yX9_beside, cX9_beside, 5, (some .int), 3, 9, mr132)) = true := all_cut 40 ck132_0 (ck132_1)
theorem ck133_0 : mr133.all (chkR (yX9_apart, cX9_apart, 4, (some .int), 2, 9, mr133)) = true := by decide +kernel
theorem ck133 : mr133.all (chkR (yX9_apart, cX9_apart, 4, (some .int), 2, 9, mr133)) = true := ck133_0
theorem ck134_0 : (mr134.take 40).all (chkR (yX9_isClear, cX9_isClear, 12, (some .boolean), 3, 9, mr134)) = true := by decide +kernel
theorem ck134_1 : ((mr134.drop 40).take 40).all (chkR (yX9_isClear, cX9_isClear, 12, (some .boolean), 3, 9, mr134)) = true := by decide +kernel
theorem ck134_2 : (mr134.drop 80).all (chkR (yX9_isClear, cX9_isClear, 12, (some .boolean), 3, 9, mr134)) = true := by decide +kernel
theorem ck134 : mr134.all (chkR (yX9_isClear, cX9_isClear, 12, (some .boolean), 3, 9, mr134)) = true := all_cut 40 ck134_0 (all_cut 40 ck134_1 (by rw [List.drop_drop]; exact ck134_2))
theorem ck135_0 : (mr135.take 40).all (chkR (yX9_fillsGates, cX9_fillsGates, 5, none, 1, 9, mr135)) = true := by decide +kernel
theorem ck135_1 : ((mr135.drop 40).take 40).all (chkR (yX9_fillsGates, cX9_fillsGates, 5, none, 1, 9, mr135)) = true := by decide +kernel
theorem ck135_2 : (mr135.drop 80).all (chkR (yX9_fillsGates, cX9_fillsGates, 5, none, 1, 9, mr135)) = true := by decide +kernel
theorem ck135 : mr135.all (chkR (yX9_fillsGates, cX9_fillsGates, 5, none, 1, 9, mr135)) = true := all_cut 40 ck135_0 (all_cut 40 ck135_1 (by rw [List.drop_drop]; exact ck135_2))
theorem ck136_0 : (mr136.take 40).all (chkR (yX9_isAhead, cX9_isAhead, 6, (some .boolean), 4, 9, mr136)) = true := by decide +kernel
theorem ck136_1 : (mr136.drop 40).all (chkR (yX9_isAhead, cX9_isAhead, 6, (some .boolean), 4, 9, mr136)) = true := by decide +kernel
theorem ck136 : mr136.all (chkR (yX9_isAhead, cX9_isAhead, 6, (some .boolean), 4, 9, mr136)) = true := all_cut 40 ck136_0 (ck136_1)
theorem ck137_0 : (mr137.take 40).all (chkR (yX9_looks, cX9_looks, 4, none, 2, 9, mr137)) = true := by decide +kernel
theorem ck137_1 : (mr137.drop 40).all (chkR (yX9_looks, cX9_looks, 4, none, 2, 9, mr137)) = true := by decide +kernel
theorem ck137 : mr137.all (chkR (yX9_looks, cX9_looks, 4, none, 2, 9, mr137)) = true := all_cut 40 ck137_0 (ck137_1)
theorem ck138_0 : mr138.all (chkR (yX9_feed, cX9_feed, 6, (some .int), 6, 9, mr138)) = true := by decide +kernel
theorem ck138 : mr138.all (chkR (yX9_feed, cX9_feed, 6, (some .int), 6, 9, mr138)) = true := ck138_0
theorem ck139_0 : mr139.all (chkR (yX9_put, cX9_put, 3, none, 2, 9, mr139)) = true := by decide +kernel
theorem ck139 : mr139.all (chkR (yX9_put, cX9_put, 3, none, 2, 9, mr139)) = true := ck139_0
theorem ck140_0 : mr140.all (chkR (yX9_end, cX9_end, 2, (some .int), 2, 9, mr140)) = true := by decide +kernel
theorem ck140 : mr140.all (chkR (yX9_end, cX9_end, 2, (some .int), 2, 9, mr140)) = true := ck140_0
theorem ck141_0 : mr141.all (chkR (yX9_wordOf, cX9_wordOf, 1, (some (.object "java/lang/String")), 1, 9, mr141)) = true := by decide +kernel
theorem ck141 : mr141.all (chkR (yX9_wordOf, cX9_wordOf, 1, (some (.object "java/lang/String")), 1, 9, mr141)) = true := ck141_0
theorem ck142_0 : mr142.all (chkR (yX9_fails, cX9_fails, 3, none, 3, 9, mr142)) = true := by decide +kernel
theorem ck142 : mr142.all (chkR (yX9_fails, cX9_fails, 3, none, 3, 9, mr142)) = true := ck142_0
theorem ck143_0 : mr143.all (chkR (yX9_sign, cX9_sign, 1, (some .int), 1, 9, mr143)) = true := by decide +kernel
theorem ck143 : mr143.all (chkR (yX9_sign, cX9_sign, 1, (some .int), 1, 9, mr143)) = true := ck143_0
theorem ck144_0 : mr144.all (chkR (yX9_blanks, cX9_blanks, 1, none, 1, 9, mr144)) = true := by decide +kernel
theorem ck144 : mr144.all (chkR (yX9_blanks, cX9_blanks, 1, none, 1, 9, mr144)) = true := ck144_0
theorem ck145_0 : mr145.all (chkR (yX9_isDigit, cX9_isDigit, 1, (some .boolean), 1, 9, mr145)) = true := by decide +kernel
theorem ck145 : mr145.all (chkR (yX9_isDigit, cX9_isDigit, 1, (some .boolean), 1, 9, mr145)) = true := ck145_0
theorem ck146_0 : (mr146.take 40).all (chkR (yX9_stood, cX9_stood, 5, (some .boolean), 2, 9, mr146)) = true := by decide +kernel
theorem ck146_1 : (mr146.drop 40).all (chkR (yX9_stood, cX9_stood, 5, (some .boolean), 2, 9, mr146)) = true := by decide +kernel
theorem ck146 : mr146.all (chkR (yX9_stood, cX9_stood, 5, (some .boolean), 2, 9, mr146)) = true := all_cut 40 ck146_0 (ck146_1)
theorem ck147_0 : mr147.all (chkR (yX9_takes, cX9_takes, 3, (some .boolean), 2, 9, mr147)) = true := by decide +kernel
theorem ck147 : mr147.all (chkR (yX9_takes, cX9_takes, 3, (some .boolean), 2, 9, mr147)) = true := ck147_0
theorem ck148_0 : mr148.all (chkR (yX9_entry, cX9_entry, 3, none, 3, 9, mr148)) = true := by decide +kernel
theorem ck148 : mr148.all (chkR (yX9_entry, cX9_entry, 3, none, 3, 9, mr148)) = true := ck148_0
theorem ck149_0 : mr149.all (chkR (yX9_isCounted, cX9_isCounted, 2, none, 2, 9, mr149)) = true := by decide +kernel
theorem ck149 : mr149.all (chkR (yX9_isCounted, cX9_isCounted, 2, none, 2, 9, mr149)) = true := ck149_0
theorem ck150_0 : (mr150.take 40).all (chkR (yX9_digits, cX9_digits, 4, (some .int), 2, 9, mr150)) = true := by decide +kernel
theorem ck150_1 : (mr150.drop 40).all (chkR (yX9_digits, cX9_digits, 4, (some .int), 2, 9, mr150)) = true := by decide +kernel
theorem ck150 : mr150.all (chkR (yX9_digits, cX9_digits, 4, (some .int), 2, 9, mr150)) = true := all_cut 40 ck150_0 (ck150_1)
theorem ck151_0 : (mr151.take 40).all (chkR (yX9_value, cX9_value, 3, none, 1, 9, mr151)) = true := by decide +kernel
theorem ck151_1 : (mr151.drop 40).all (chkR (yX9_value, cX9_value, 3, none, 1, 9, mr151)) = true := by decide +kernel
theorem ck151 : mr151.all (chkR (yX9_value, cX9_value, 3, none, 1, 9, mr151)) = true := all_cut 40 ck151_0 (ck151_1)
theorem ck152_0 : (mr152.take 40).all (chkR (yX9_term, cX9_term, 2, none, 1, 9, mr152)) = true := by decide +kernel
theorem ck152_1 : (mr152.drop 40).all (chkR (yX9_term, cX9_term, 2, none, 1, 9, mr152)) = true := by decide +kernel
theorem ck152 : mr152.all (chkR (yX9_term, cX9_term, 2, none, 1, 9, mr152)) = true := all_cut 40 ck152_0 (ck152_1)
theorem ck153_0 : mr153.all (chkR (yX9_sum, cX9_sum, 2, none, 1, 9, mr153)) = true := by decide +kernel
theorem ck153 : mr153.all (chkR (yX9_sum, cX9_sum, 2, none, 1, 9, mr153)) = true := ck153_0
theorem ck154_0 : (mr154.take 40).all (chkR (yX9_compared, cX9_compared, 3, none, 1, 9, mr154)) = true := by decide +kernel
theorem ck154_1 : (mr154.drop 40).all (chkR (yX9_compared, cX9_compared, 3, none, 1, 9, mr154)) = true := by decide +kernel
theorem ck154 : mr154.all (chkR (yX9_compared, cX9_compared, 3, none, 1, 9, mr154)) = true := all_cut 40 ck154_0 (ck154_1)
