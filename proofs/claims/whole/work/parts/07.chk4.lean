theorem ck155_0 : mr155.all (chkR (yX9_top, cX9_top, 1, (some .int), 1, 9, mr155)) = true := by decide +kernel
theorem ck155 : mr155.all (chkR (yX9_top, cX9_top, 1, (some .int), 1, 9, mr155)) = true := ck155_0
theorem ck156_0 : mr156.all (chkR (yX9_opens, cX9_opens, 2, none, 2, 9, mr156)) = true := by decide +kernel
theorem ck156 : mr156.all (chkR (yX9_opens, cX9_opens, 2, none, 2, 9, mr156)) = true := ck156_0
theorem ck157_0 : mr157.all (chkR (yX9_answers, cX9_answers, 2, none, 2, 9, mr157)) = true := by decide +kernel
theorem ck157 : mr157.all (chkR (yX9_answers, cX9_answers, 2, none, 2, 9, mr157)) = true := ck157_0
theorem ck158_0 : mr158.all (chkR (yX9_fact, cX9_fact, 1, (some .boolean), 1, 9, mr158)) = true := by decide +kernel
theorem ck158 : mr158.all (chkR (yX9_fact, cX9_fact, 1, (some .boolean), 1, 9, mr158)) = true := ck158_0
theorem ck159_0 : (mr159.take 40).all (chkR (yX9_test, cX9_test, 5, none, 1, 9, mr159)) = true := by decide +kernel
theorem ck159_1 : ((mr159.drop 40).take 40).all (chkR (yX9_test, cX9_test, 5, none, 1, 9, mr159)) = true := by decide +kernel
theorem ck159_2 : (mr159.drop 80).all (chkR (yX9_test, cX9_test, 5, none, 1, 9, mr159)) = true := by decide +kernel
theorem ck159 : mr159.all (chkR (yX9_test, cX9_test, 5, none, 1, 9, mr159)) = true := all_cut 40 ck159_0 (all_cut 40 ck159_1 (by rw [List.drop_drop]; exact ck159_2))
theorem ck160_0 : mr160.all (chkR (yX9_amount, cX9_amount, 5, (some .int), 3, 9, mr160)) = true := by decide +kernel
theorem ck160 : mr160.all (chkR (yX9_amount, cX9_amount, 5, (some .int), 3, 9, mr160)) = true := ck160_0
theorem ck161_0 : mr161.all (chkR (yX9_signKind, cX9_signKind, 1, (some .int), 1, 9, mr161)) = true := by decide +kernel
theorem ck161 : mr161.all (chkR (yX9_signKind, cX9_signKind, 1, (some .int), 1, 9, mr161)) = true := ck161_0
theorem ck162_0 : (mr162.take 40).all (chkR (yX9_signs, cX9_signs, 2, none, 1, 9, mr162)) = true := by decide +kernel
theorem ck162_1 : ((mr162.drop 40).take 40).all (chkR (yX9_signs, cX9_signs, 2, none, 1, 9, mr162)) = true := by decide +kernel
theorem ck162_2 : (mr162.drop 80).all (chkR (yX9_signs, cX9_signs, 2, none, 1, 9, mr162)) = true := by decide +kernel
theorem ck162 : mr162.all (chkR (yX9_signs, cX9_signs, 2, none, 1, 9, mr162)) = true := all_cut 40 ck162_0 (all_cut 40 ck162_1 (by rw [List.drop_drop]; exact ck162_2))
theorem ck163_0 : (mr163.take 40).all (chkR (yX9_spot, cX9_spot, 8, (some .int), 1, 9, mr163)) = true := by decide +kernel
theorem ck163_1 : ((mr163.drop 40).take 40).all (chkR (yX9_spot, cX9_spot, 8, (some .int), 1, 9, mr163)) = true := by decide +kernel
theorem ck163_2 : (mr163.drop 80).all (chkR (yX9_spot, cX9_spot, 8, (some .int), 1, 9, mr163)) = true := by decide +kernel
theorem ck163 : mr163.all (chkR (yX9_spot, cX9_spot, 8, (some .int), 1, 9, mr163)) = true := all_cut 40 ck163_0 (all_cut 40 ck163_1 (by rw [List.drop_drop]; exact ck163_2))
theorem ck164_0 : (mr164.take 40).all (chkR (yX9_isFull, cX9_isFull, 4, (some .boolean), 3, 9, mr164)) = true := by decide +kernel
theorem ck164_1 : (mr164.drop 40).all (chkR (yX9_isFull, cX9_isFull, 4, (some .boolean), 3, 9, mr164)) = true := by decide +kernel
theorem ck164 : mr164.all (chkR (yX9_isFull, cX9_isFull, 4, (some .boolean), 3, 9, mr164)) = true := all_cut 40 ck164_0 (ck164_1)
theorem ck165_0 : (mr165.take 40).all (chkR (yX9_plainClause, cX9_plainClause, 6, none, 2, 9, mr165)) = true := by decide +kernel
theorem ck165_1 : ((mr165.drop 40).take 40).all (chkR (yX9_plainClause, cX9_plainClause, 6, none, 2, 9, mr165)) = true := by decide +kernel
theorem ck165_2 : (mr165.drop 80).all (chkR (yX9_plainClause, cX9_plainClause, 6, none, 2, 9, mr165)) = true := by decide +kernel
theorem ck165 : mr165.all (chkR (yX9_plainClause, cX9_plainClause, 6, none, 2, 9, mr165)) = true := all_cut 40 ck165_0 (all_cut 40 ck165_1 (by rw [List.drop_drop]; exact ck165_2))
theorem ck166_0 : mr166.all (chkR (yX9_lay, cX9_lay, 3, none, 2, 9, mr166)) = true := by decide +kernel
theorem ck166 : mr166.all (chkR (yX9_lay, cX9_lay, 3, none, 2, 9, mr166)) = true := ck166_0
theorem ck167_0 : mr167.all (chkR (yX9_goesOn, cX9_goesOn, 2, (some .boolean), 1, 9, mr167)) = true := by decide +kernel
theorem ck167 : mr167.all (chkR (yX9_goesOn, cX9_goesOn, 2, (some .boolean), 1, 9, mr167)) = true := ck167_0
theorem ck168_0 : mr168.all (chkR (yX9_starts, cX9_starts, 1, none, 1, 9, mr168)) = true := by decide +kernel
theorem ck168 : mr168.all (chkR (yX9_starts, cX9_starts, 1, none, 1, 9, mr168)) = true := ck168_0
theorem ck169_0 : (mr169.take 40).all (chkR (yX9_plain, cX9_plain, 4, (some .int), 1, 9, mr169)) = true := by decide +kernel
theorem ck169_1 : ((mr169.drop 40).take 40).all (chkR (yX9_plain, cX9_plain, 4, (some .int), 1, 9, mr169)) = true := by decide +kernel
theorem ck169_2 : (mr169.drop 80).all (chkR (yX9_plain, cX9_plain, 4, (some .int), 1, 9, mr169)) = true := by decide +kernel
theorem ck169 : mr169.all (chkR (yX9_plain, cX9_plain, 4, (some .int), 1, 9, mr169)) = true := all_cut 40 ck169_0 (all_cut 40 ck169_1 (by rw [List.drop_drop]; exact ck169_2))
theorem ck170_0 : (mr170.take 40).all (chkR (yX9_lawClause, cX9_lawClause, 5, none, 2, 9, mr170)) = true := by decide +kernel
theorem ck170_1 : (mr170.drop 40).all (chkR (yX9_lawClause, cX9_lawClause, 5, none, 2, 9, mr170)) = true := by decide +kernel
theorem ck170 : mr170.all (chkR (yX9_lawClause, cX9_lawClause, 5, none, 2, 9, mr170)) = true := all_cut 40 ck170_0 (ck170_1)
theorem ck171_0 : (mr171.take 40).all (chkR (yX9_law, cX9_law, 3, (some .int), 1, 9, mr171)) = true := by decide +kernel
theorem ck171_1 : (mr171.drop 40).all (chkR (yX9_law, cX9_law, 3, (some .int), 1, 9, mr171)) = true := by decide +kernel
theorem ck171 : mr171.all (chkR (yX9_law, cX9_law, 3, (some .int), 1, 9, mr171)) = true := all_cut 40 ck171_0 (ck171_1)
theorem ck172_0 : mr172.all (chkR (yX9_isLaw, cX9_isLaw, 2, (some .boolean), 2, 9, mr172)) = true := by decide +kernel
theorem ck172 : mr172.all (chkR (yX9_isLaw, cX9_isLaw, 2, (some .boolean), 2, 9, mr172)) = true := ck172_0
theorem ck173_0 : mr173.all (chkR (yX9_truth, cX9_truth, 1, (some .long), 1, 9, mr173)) = true := by decide +kernel
theorem ck173 : mr173.all (chkR (yX9_truth, cX9_truth, 1, (some .long), 1, 9, mr173)) = true := ck173_0
theorem ck174_0 : (mr174.take 40).all (chkR (yX9_both, cX9_both, 5, (some .long), 3, 9, mr174)) = true := by decide +kernel
theorem ck174_1 : ((mr174.drop 40).take 40).all (chkR (yX9_both, cX9_both, 5, (some .long), 3, 9, mr174)) = true := by decide +kernel
theorem ck174_2 : (mr174.drop 80).all (chkR (yX9_both, cX9_both, 5, (some .long), 3, 9, mr174)) = true := by decide +kernel
theorem ck174 : mr174.all (chkR (yX9_both, cX9_both, 5, (some .long), 3, 9, mr174)) = true := all_cut 40 ck174_0 (all_cut 40 ck174_1 (by rw [List.drop_drop]; exact ck174_2))
theorem ck175_0 : (mr175.take 40).all (chkR (yX9_answer, cX9_answer, 8, (some .long), 4, 9, mr175)) = true := by decide +kernel
theorem ck175_1 : ((mr175.drop 40).take 40).all (chkR (yX9_answer, cX9_answer, 8, (some .long), 4, 9, mr175)) = true := by decide +kernel
theorem ck175_2 : (mr175.drop 80).all (chkR (yX9_answer, cX9_answer, 8, (some .long), 4, 9, mr175)) = true := by decide +kernel
theorem ck175 : mr175.all (chkR (yX9_answer, cX9_answer, 8, (some .long), 4, 9, mr175)) = true := all_cut 40 ck175_0 (all_cut 40 ck175_1 (by rw [List.drop_drop]; exact ck175_2))
theorem ck176_0 : mr176.all (chkR (yX9_besides, cX9_besides, 5, (some .int), 2, 9, mr176)) = true := by decide +kernel
theorem ck176 : mr176.all (chkR (yX9_besides, cX9_besides, 5, (some .int), 2, 9, mr176)) = true := ck176_0
theorem ck177_0 : (mr177.take 40).all (chkR (yX9_followedBy, cX9_followedBy, 4, (some .int), 3, 9, mr177)) = true := by decide +kernel
theorem ck177_1 : ((mr177.drop 40).take 40).all (chkR (yX9_followedBy, cX9_followedBy, 4, (some .int), 3, 9, mr177)) = true := by decide +kernel
theorem ck177_2 : ((mr177.drop 80).take 40).all (chkR (yX9_followedBy, cX9_followedBy, 4, (some .int), 3, 9, mr177)) = true := by decide +kernel
theorem ck177_3 : ((mr177.drop 120).take 40).all (chkR (yX9_followedBy, cX9_followedBy, 4, (some .int), 3, 9, mr177)) = true := by decide +kernel
theorem ck177_4 : (mr177.drop 160).all (chkR (yX9_followedBy, cX9_followedBy, 4, (some .int), 3, 9, mr177)) = true := by decide +kernel
theorem ck177 : mr177.all (chkR (yX9_followedBy, cX9_followedBy, 4, (some .int), 3, 9, mr177)) = true := all_cut 40 ck177_0 (all_cut 40 ck177_1 (by rw [List.drop_drop]; exact all_cut 40 ck177_2 (by rw [List.drop_drop]; exact all_cut 40 ck177_3 (by rw [List.drop_drop]; exact ck177_4))))
theorem ck178_0 : (mr178.take 40).all (chkR (yX9_wayTo, cX9_wayTo, 7, (some .int), 3, 9, mr178)) = true := by decide +kernel
theorem ck178_1 : (mr178.drop 40).all (chkR (yX9_wayTo, cX9_wayTo, 7, (some .int), 3, 9, mr178)) = true := by decide +kernel
theorem ck178 : mr178.all (chkR (yX9_wayTo, cX9_wayTo, 7, (some .int), 3, 9, mr178)) = true := all_cut 40 ck178_0 (ck178_1)
theorem ck179_0 : (mr179.take 40).all (chkR (yX9_turn, cX9_turn, 5, none, 3, 9, mr179)) = true := by decide +kernel
theorem ck179_1 : (mr179.drop 40).all (chkR (yX9_turn, cX9_turn, 5, none, 3, 9, mr179)) = true := by decide +kernel
theorem ck179 : mr179.all (chkR (yX9_turn, cX9_turn, 5, none, 3, 9, mr179)) = true := all_cut 40 ck179_0 (ck179_1)
theorem ck180_0 : mr180.all (chkR (yX9_step, cX9_step, 3, none, 2, 9, mr180)) = true := by decide +kernel
theorem ck180 : mr180.all (chkR (yX9_step, cX9_step, 3, none, 2, 9, mr180)) = true := ck180_0
