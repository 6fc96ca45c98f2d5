theorem ck214_0 : (mr214.take 40).all (chkR (yX9_spoor, cX9_spoor, 5, (some .int), 4, 9, mr214)) = true := by decide +kernel
theorem ck214_1 : (mr214.drop 40).all (chkR (yX9_spoor, cX9_spoor, 5, (some .int), 4, 9, mr214)) = true := by decide +kernel
theorem ck214 : mr214.all (chkR (yX9_spoor, cX9_spoor, 5, (some .int), 4, 9, mr214)) = true := all_cut 40 ck214_0 (ck214_1)
theorem ck215_0 : (mr215.take 40).all (chkR (yX9_judged, cX9_judged, 7, (some .int), 2, 9, mr215)) = true := by decide +kernel
theorem ck215_1 : ((mr215.drop 40).take 40).all (chkR (yX9_judged, cX9_judged, 7, (some .int), 2, 9, mr215)) = true := by decide +kernel
theorem ck215_2 : (mr215.drop 80).all (chkR (yX9_judged, cX9_judged, 7, (some .int), 2, 9, mr215)) = true := by decide +kernel
theorem ck215 : mr215.all (chkR (yX9_judged, cX9_judged, 7, (some .int), 2, 9, mr215)) = true := all_cut 40 ck215_0 (all_cut 40 ck215_1 (by rw [List.drop_drop]; exact ck215_2))
theorem ck216_0 : mr216.all (chkR (yX9_bestLaw, cX9_bestLaw, 6, (some .int), 2, 9, mr216)) = true := by decide +kernel
theorem ck216 : mr216.all (chkR (yX9_bestLaw, cX9_bestLaw, 6, (some .int), 2, 9, mr216)) = true := ck216_0
theorem ck217_0 : (mr217.take 40).all (chkR (yX9_count, cX9_count, 4, (some .int), 2, 9, mr217)) = true := by decide +kernel
theorem ck217_1 : (mr217.drop 40).all (chkR (yX9_count, cX9_count, 4, (some .int), 2, 9, mr217)) = true := by decide +kernel
theorem ck217 : mr217.all (chkR (yX9_count, cX9_count, 4, (some .int), 2, 9, mr217)) = true := all_cut 40 ck217_0 (ck217_1)
theorem ck218_0 : mr218.all (chkR (yX9_carry, cX9_carry, 3, none, 2, 9, mr218)) = true := by decide +kernel
theorem ck218 : mr218.all (chkR (yX9_carry, cX9_carry, 3, none, 2, 9, mr218)) = true := ck218_0
theorem ck219_0 : (mr219.take 40).all (chkR (yX9_carriesAll, cX9_carriesAll, 3, none, 3, 9, mr219)) = true := by decide +kernel
theorem ck219_1 : (mr219.drop 40).all (chkR (yX9_carriesAll, cX9_carriesAll, 3, none, 3, 9, mr219)) = true := by decide +kernel
theorem ck219 : mr219.all (chkR (yX9_carriesAll, cX9_carriesAll, 3, none, 3, 9, mr219)) = true := all_cut 40 ck219_0 (ck219_1)
theorem ck220_0 : mr220.all (chkR (yX9_image, cX9_image, 2, (some .int), 2, 9, mr220)) = true := by decide +kernel
theorem ck220 : mr220.all (chkR (yX9_image, cX9_image, 2, (some .int), 2, 9, mr220)) = true := ck220_0
theorem ck221_0 : mr221.all (chkR (yX9_back, cX9_back, 2, (some .int), 2, 9, mr221)) = true := by decide +kernel
theorem ck221 : mr221.all (chkR (yX9_back, cX9_back, 2, (some .int), 2, 9, mr221)) = true := ck221_0
theorem ck222_0 : (mr222.take 40).all (chkR (yJ6_bitCount_0f7a4, cJ6_bitCount_0f7a4, 1, (some .int), 1, 11, mr222)) = true := by decide +kernel
theorem ck222_1 : (mr222.drop 40).all (chkR (yJ6_bitCount_0f7a4, cJ6_bitCount_0f7a4, 1, (some .int), 1, 11, mr222)) = true := by decide +kernel
theorem ck222 : mr222.all (chkR (yJ6_bitCount_0f7a4, cJ6_bitCount_0f7a4, 1, (some .int), 1, 11, mr222)) = true := all_cut 40 ck222_0 (ck222_1)
theorem ck223_0 : mr223.all (chkR (yJ9_floorDiv_7cf53, cJ9_floorDiv_7cf53, 3, (some .int), 2, 12, mr223)) = true := by decide +kernel
theorem ck223 : mr223.all (chkR (yJ9_floorDiv_7cf53, cJ9_floorDiv_7cf53, 3, (some .int), 2, 12, mr223)) = true := ck223_0
theorem ck224_0 : mr224.all (chkR (yJ9_abs_0f7a4, cJ9_abs_0f7a4, 1, (some .int), 1, 12, mr224)) = true := by decide +kernel
theorem ck224 : mr224.all (chkR (yJ9_abs_0f7a4, cJ9_abs_0f7a4, 1, (some .int), 1, 12, mr224)) = true := ck224_0
theorem ck225_0 : mr225.all (chkR (yJ9_max_7cf53, cJ9_max_7cf53, 2, (some .int), 2, 12, mr225)) = true := by decide +kernel
theorem ck225 : mr225.all (chkR (yJ9_max_7cf53, cJ9_max_7cf53, 2, (some .int), 2, 12, mr225)) = true := ck225_0
theorem ck226_0 : mr226.all (chkR (yJ9_min_7cf53, cJ9_min_7cf53, 2, (some .int), 2, 12, mr226)) = true := by decide +kernel
theorem ck226 : mr226.all (chkR (yJ9_min_7cf53, cJ9_min_7cf53, 2, (some .int), 2, 12, mr226)) = true := ck226_0
theorem ck227_0 : mr227.all (chkR (yJ0_length_8abf5, cJ0_length_8abf5, 1, (some .int), 1, 10, mr227)) = true := by decide +kernel
theorem ck227 : mr227.all (chkR (yJ0_length_8abf5, cJ0_length_8abf5, 1, (some .int), 1, 10, mr227)) = true := ck227_0
theorem ck228_0 : mr228.all (chkR (yJ0_charAt_5068e, cJ0_charAt_5068e, 2, (some .char), 2, 10, mr228)) = true := by decide +kernel
theorem ck228 : mr228.all (chkR (yJ0_charAt_5068e, cJ0_charAt_5068e, 2, (some .char), 2, 10, mr228)) = true := ck228_0
theorem ck229_0 : mr229.all (chkR (yJ0_coder_7d493, cJ0_coder_7d493, 1, (some .byte), 1, 10, mr229)) = true := by decide +kernel
theorem ck229 : mr229.all (chkR (yJ0_coder_7d493, cJ0_coder_7d493, 1, (some .byte), 1, 10, mr229)) = true := ck229_0
theorem ck230_0 : mr230.all (chkR (yJ0_isLatin1_aae02, cJ0_isLatin1_aae02, 1, (some .boolean), 1, 10, mr230)) = true := by decide +kernel
theorem ck230 : mr230.all (chkR (yJ0_isLatin1_aae02, cJ0_isLatin1_aae02, 1, (some .boolean), 1, 10, mr230)) = true := ck230_0
theorem ck231_0 : mr231.all (chkR (yJ0_checkIndex_df160, cJ0_checkIndex_df160, 2, none, 2, 10, mr231)) = true := by decide +kernel
theorem ck231 : mr231.all (chkR (yJ0_checkIndex_df160, cJ0_checkIndex_df160, 2, none, 2, 10, mr231)) = true := ck231_0
theorem ck232_0 : mr232.all (chkR (yJ1_charAt_3b067, cJ1_charAt_3b067, 2, (some .char), 2, 13, mr232)) = true := by decide +kernel
theorem ck232 : mr232.all (chkR (yJ1_charAt_3b067, cJ1_charAt_3b067, 2, (some .char), 2, 13, mr232)) = true := ck232_0
theorem ck233_0 : mr233.all (chkR (yJ7_fill_d0a16, cJ7_fill_d0a16, 5, none, 2, 16, mr233)) = true := by decide +kernel
theorem ck233 : mr233.all (chkR (yJ7_fill_d0a16, cJ7_fill_d0a16, 5, none, 2, 16, mr233)) = true := ck233_0
theorem ck234_0 : mr234.all (chkR (yJ7_fill_53178, cJ7_fill_53178, 4, none, 2, 16, mr234)) = true := by decide +kernel
theorem ck234 : mr234.all (chkR (yJ7_fill_53178, cJ7_fill_53178, 4, none, 2, 16, mr234)) = true := ck234_0
theorem ck235_0 : mr235.all (chkR (yJ7_fill_031fb, cJ7_fill_031fb, 4, none, 2, 16, mr235)) = true := by decide +kernel
theorem ck235 : mr235.all (chkR (yJ7_fill_031fb, cJ7_fill_031fb, 4, none, 2, 16, mr235)) = true := ck235_0
theorem ck236_0 : mr236.all (chkR (yJ3_checkIndex_8e157, cJ3_checkIndex_8e157, 3, (some .int), 3, 17, mr236)) = true := by decide +kernel
theorem ck236 : mr236.all (chkR (yJ3_checkIndex_8e157, cJ3_checkIndex_8e157, 3, (some .int), 3, 17, mr236)) = true := ck236_0
theorem ck237_0 : (mr237.take 40).all (chkR (yL_law, cL_law, 4, (some .boolean), 1, 18, mr237)) = true := by decide +kernel
theorem ck237_1 : ((mr237.drop 40).take 40).all (chkR (yL_law, cL_law, 4, (some .boolean), 1, 18, mr237)) = true := by decide +kernel
theorem ck237_2 : ((mr237.drop 80).take 40).all (chkR (yL_law, cL_law, 4, (some .boolean), 1, 18, mr237)) = true := by decide +kernel
theorem ck237_3 : ((mr237.drop 120).take 40).all (chkR (yL_law, cL_law, 4, (some .boolean), 1, 18, mr237)) = true := by decide +kernel
theorem ck237_4 : ((mr237.drop 160).take 40).all (chkR (yL_law, cL_law, 4, (some .boolean), 1, 18, mr237)) = true := by decide +kernel
theorem ck237_5 : ((mr237.drop 200).take 40).all (chkR (yL_law, cL_law, 4, (some .boolean), 1, 18, mr237)) = true := by decide +kernel
theorem ck237_6 : ((mr237.drop 240).take 40).all (chkR (yL_law, cL_law, 4, (some .boolean), 1, 18, mr237)) = true := by decide +kernel
theorem ck237_7 : ((mr237.drop 280).take 40).all (chkR (yL_law, cL_law, 4, (some .boolean), 1, 18, mr237)) = true := by decide +kernel
theorem ck237_8 : ((mr237.drop 320).take 40).all (chkR (yL_law, cL_law, 4, (some .boolean), 1, 18, mr237)) = true := by decide +kernel
theorem ck237_9 : ((mr237.drop 360).take 40).all (chkR (yL_law, cL_law, 4, (some .boolean), 1, 18, mr237)) = true := by decide +kernel
theorem ck237_10 : ((mr237.drop 400).take 40).all (chkR (yL_law, cL_law, 4, (some .boolean), 1, 18, mr237)) = true := by decide +kernel
theorem ck237_11 : ((mr237.drop 440).take 40).all (chkR (yL_law, cL_law, 4, (some .boolean), 1, 18, mr237)) = true := by decide +kernel
theorem ck237_12 : ((mr237.drop 480).take 40).all (chkR (yL_law, cL_law, 4, (some .boolean), 1, 18, mr237)) = true := by decide +kernel
theorem ck237_13 : ((mr237.drop 520).take 40).all (chkR (yL_law, cL_law, 4, (some .boolean), 1, 18, mr237)) = true := by decide +kernel
theorem ck237_14 : ((mr237.drop 560).take 40).all (chkR (yL_law, cL_law, 4, (some .boolean), 1, 18, mr237)) = true := by decide +kernel
theorem ck237_15 : ((mr237.drop 600).take 40).all (chkR (yL_law, cL_law, 4, (some .boolean), 1, 18, mr237)) = true := by decide +kernel
theorem ck237_16 : ((mr237.drop 640).take 40).all (chkR (yL_law, cL_law, 4, (some .boolean), 1, 18, mr237)) = true := by decide +kernel
theorem ck237_17 : ((mr237.drop 680).take 40).all (chkR (yL_law, cL_law, 4, (some .boolean), 1, 18, mr237)) = true := by decide +kernel
theorem ck237_18 : (mr237.drop 720).all (chkR (yL_law, cL_law, 4, (some .boolean), 1, 18, mr237)) = true := by decide +kernel
theorem ck237 : mr237.all (chkR (yL_law, cL_law, 4, (some .boolean), 1, 18, mr237)) = true := all_cut 40 ck237_0 (all_cut 40 ck237_1 (by rw [List.drop_drop]; exact all_cut 40 ck237_2 (by rw [List.drop_drop]; exact all_cut 40 ck237_3 (by rw [List.drop_drop]; exact all_cut 40 ck237_4 (by rw [List.drop_drop]; exact all_cut 40 ck237_5 (by rw [List.drop_drop]; exact all_cut 40 ck237_6 (by rw [List.drop_drop]; exact all_cut 40 ck237_7 (by rw [List.drop_drop]; exact all_cut 40 ck237_8 (by rw [List.drop_drop]; exact all_cut 40 ck237_9 (by rw [List.drop_drop]; exact all_cut 40 ck237_10 (by rw [List.drop_drop]; exact all_cut 40 ck237_11 (by rw [List.drop_drop]; exact all_cut 40 ck237_12 (by rw [List.drop_drop]; exact all_cut 40 ck237_13 (by rw [List.drop_drop]; exact all_cut 40 ck237_14 (by rw [List.drop_drop]; exact all_cut 40 ck237_15 (by rw [List.drop_drop]; exact all_cut 40 ck237_16 (by rw [List.drop_drop]; exact all_cut 40 ck237_17 (by rw [List.drop_drop]; exact ck237_18))))))))))))))))))
