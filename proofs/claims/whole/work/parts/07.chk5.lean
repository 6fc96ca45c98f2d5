theorem ck181_0 : mr181.all (chkR (yX9_steps, cX9_steps, 4, none, 3, 9, mr181)) = true := by decide +kernel
theorem ck181 : mr181.all (chkR (yX9_steps, cX9_steps, 4, none, 3, 9, mr181)) = true := ck181_0
theorem ck182_0 : mr182.all (chkR (yX9_outs, cX9_outs, 3, (some .int), 1, 9, mr182)) = true := by decide +kernel
theorem ck182 : mr182.all (chkR (yX9_outs, cX9_outs, 3, (some .int), 1, 9, mr182)) = true := ck182_0
theorem ck183_0 : mr183.all (chkR (yX9_tick, cX9_tick, 3, (some .int), 3, 9, mr183)) = true := by decide +kernel
theorem ck183 : mr183.all (chkR (yX9_tick, cX9_tick, 3, (some .int), 3, 9, mr183)) = true := ck183_0
theorem ck184_0 : (mr184.take 40).all (chkR (yX9_person, cX9_person, 3, (some .int), 3, 9, mr184)) = true := by decide +kernel
theorem ck184_1 : (mr184.drop 40).all (chkR (yX9_person, cX9_person, 3, (some .int), 3, 9, mr184)) = true := by decide +kernel
theorem ck184 : mr184.all (chkR (yX9_person, cX9_person, 3, (some .int), 3, 9, mr184)) = true := all_cut 40 ck184_0 (ck184_1)
theorem ck185_0 : mr185.all (chkR (yX9_isHerald, cX9_isHerald, 2, (some .boolean), 2, 9, mr185)) = true := by decide +kernel
theorem ck185 : mr185.all (chkR (yX9_isHerald, cX9_isHerald, 2, (some .boolean), 2, 9, mr185)) = true := ck185_0
theorem ck186_0 : mr186.all (chkR (yX9_herald, cX9_herald, 3, (some .int), 3, 9, mr186)) = true := by decide +kernel
theorem ck186 : mr186.all (chkR (yX9_herald, cX9_herald, 3, (some .int), 3, 9, mr186)) = true := ck186_0
theorem ck187_0 : mr187.all (chkR (yX9_cell, cX9_cell, 5, (some .int), 4, 9, mr187)) = true := by decide +kernel
theorem ck187 : mr187.all (chkR (yX9_cell, cX9_cell, 5, (some .int), 4, 9, mr187)) = true := ck187_0
theorem ck188_0 : mr188.all (chkR (yX9_sees, cX9_sees, 2, (some .int), 2, 9, mr188)) = true := by decide +kernel
theorem ck188 : mr188.all (chkR (yX9_sees, cX9_sees, 2, (some .int), 2, 9, mr188)) = true := ck188_0
theorem ck189_0 : mr189.all (chkR (yX9_seen, cX9_seen, 3, (some .int), 3, 9, mr189)) = true := by decide +kernel
theorem ck189 : mr189.all (chkR (yX9_seen, cX9_seen, 3, (some .int), 3, 9, mr189)) = true := ck189_0
theorem ck190_0 : mr190.all (chkR (yX9_heraldGoes, cX9_heraldGoes, 5, (some .boolean), 3, 9, mr190)) = true := by decide +kernel
theorem ck190 : mr190.all (chkR (yX9_heraldGoes, cX9_heraldGoes, 5, (some .boolean), 3, 9, mr190)) = true := ck190_0
theorem ck191_0 : mr191.all (chkR (yX9_goes, cX9_goes, 3, (some .boolean), 3, 9, mr191)) = true := by decide +kernel
theorem ck191 : mr191.all (chkR (yX9_goes, cX9_goes, 3, (some .boolean), 3, 9, mr191)) = true := ck191_0
theorem ck192_0 : mr192.all (chkR (yX9_follows, cX9_follows, 4, (some .int), 3, 9, mr192)) = true := by decide +kernel
theorem ck192 : mr192.all (chkR (yX9_follows, cX9_follows, 4, (some .int), 3, 9, mr192)) = true := ck192_0
theorem ck193_0 : mr193.all (chkR (yX9_keeps, cX9_keeps, 1, none, 1, 9, mr193)) = true := by decide +kernel
theorem ck193 : mr193.all (chkR (yX9_keeps, cX9_keeps, 1, none, 1, 9, mr193)) = true := ck193_0
theorem ck194_0 : mr194.all (chkR (yX9_laysBack, cX9_laysBack, 1, none, 1, 9, mr194)) = true := by decide +kernel
theorem ck194 : mr194.all (chkR (yX9_laysBack, cX9_laysBack, 1, none, 1, 9, mr194)) = true := ck194_0
theorem ck195_0 : mr195.all (chkR (yX9_isAsked, cX9_isAsked, 3, (some .boolean), 3, 9, mr195)) = true := by decide +kernel
theorem ck195 : mr195.all (chkR (yX9_isAsked, cX9_isAsked, 3, (some .boolean), 3, 9, mr195)) = true := ck195_0
theorem ck196_0 : (mr196.take 40).all (chkR (yX9_ahead, cX9_ahead, 6, (some .int), 4, 9, mr196)) = true := by decide +kernel
theorem ck196_1 : (mr196.drop 40).all (chkR (yX9_ahead, cX9_ahead, 6, (some .int), 4, 9, mr196)) = true := by decide +kernel
theorem ck196 : mr196.all (chkR (yX9_ahead, cX9_ahead, 6, (some .int), 4, 9, mr196)) = true := all_cut 40 ck196_0 (ck196_1)
theorem ck197_0 : mr197.all (chkR (yX9_areSame, cX9_areSame, 5, (some .boolean), 3, 9, mr197)) = true := by decide +kernel
theorem ck197 : mr197.all (chkR (yX9_areSame, cX9_areSame, 5, (some .boolean), 3, 9, mr197)) = true := ck197_0
theorem ck198_0 : (mr198.take 40).all (chkR (yX9_round, cX9_round, 7, (some .int), 3, 9, mr198)) = true := by decide +kernel
theorem ck198_1 : ((mr198.drop 40).take 40).all (chkR (yX9_round, cX9_round, 7, (some .int), 3, 9, mr198)) = true := by decide +kernel
theorem ck198_2 : (mr198.drop 80).all (chkR (yX9_round, cX9_round, 7, (some .int), 3, 9, mr198)) = true := by decide +kernel
theorem ck198 : mr198.all (chkR (yX9_round, cX9_round, 7, (some .int), 3, 9, mr198)) = true := all_cut 40 ck198_0 (all_cut 40 ck198_1 (by rw [List.drop_drop]; exact ck198_2))
theorem ck199_0 : mr199.all (chkR (yX9_file, cX9_file, 5, (some .int), 2, 9, mr199)) = true := by decide +kernel
theorem ck199 : mr199.all (chkR (yX9_file, cX9_file, 5, (some .int), 2, 9, mr199)) = true := ck199_0
theorem ck200_0 : mr200.all (chkR (yX9_isInRing, cX9_isInRing, 4, (some .boolean), 2, 9, mr200)) = true := by decide +kernel
theorem ck200 : mr200.all (chkR (yX9_isInRing, cX9_isInRing, 4, (some .boolean), 2, 9, mr200)) = true := ck200_0
theorem ck201_0 : (mr201.take 40).all (chkR (yX9_files, cX9_files, 9, (some .int), 3, 9, mr201)) = true := by decide +kernel
theorem ck201_1 : ((mr201.drop 40).take 40).all (chkR (yX9_files, cX9_files, 9, (some .int), 3, 9, mr201)) = true := by decide +kernel
theorem ck201_2 : ((mr201.drop 80).take 40).all (chkR (yX9_files, cX9_files, 9, (some .int), 3, 9, mr201)) = true := by decide +kernel
theorem ck201_3 : (mr201.drop 120).all (chkR (yX9_files, cX9_files, 9, (some .int), 3, 9, mr201)) = true := by decide +kernel
theorem ck201 : mr201.all (chkR (yX9_files, cX9_files, 9, (some .int), 3, 9, mr201)) = true := all_cut 40 ck201_0 (all_cut 40 ck201_1 (by rw [List.drop_drop]; exact all_cut 40 ck201_2 (by rw [List.drop_drop]; exact ck201_3)))
theorem ck202_0 : (mr202.take 40).all (chkR (yX9_unlike, cX9_unlike, 6, (some .int), 4, 9, mr202)) = true := by decide +kernel
theorem ck202_1 : (mr202.drop 40).all (chkR (yX9_unlike, cX9_unlike, 6, (some .int), 4, 9, mr202)) = true := by decide +kernel
theorem ck202 : mr202.all (chkR (yX9_unlike, cX9_unlike, 6, (some .int), 4, 9, mr202)) = true := all_cut 40 ck202_0 (ck202_1)
theorem ck203_0 : mr203.all (chkR (yX9_without, cX9_without, 4, (some .int), 4, 9, mr203)) = true := by decide +kernel
theorem ck203 : mr203.all (chkR (yX9_without, cX9_without, 4, (some .int), 4, 9, mr203)) = true := ck203_0
theorem ck204_0 : (mr204.take 40).all (chkR (yX9_leader, cX9_leader, 8, (some .int), 4, 9, mr204)) = true := by decide +kernel
theorem ck204_1 : (mr204.drop 40).all (chkR (yX9_leader, cX9_leader, 8, (some .int), 4, 9, mr204)) = true := by decide +kernel
theorem ck204 : mr204.all (chkR (yX9_leader, cX9_leader, 8, (some .int), 4, 9, mr204)) = true := all_cut 40 ck204_0 (ck204_1)
theorem ck205_0 : mr205.all (chkR (yX9_outsIn, cX9_outsIn, 4, (some .int), 3, 9, mr205)) = true := by decide +kernel
theorem ck205 : mr205.all (chkR (yX9_outsIn, cX9_outsIn, 4, (some .int), 3, 9, mr205)) = true := ck205_0
theorem ck206_0 : (mr206.take 40).all (chkR (yX9_post, cX9_post, 9, (some .int), 4, 9, mr206)) = true := by decide +kernel
theorem ck206_1 : (mr206.drop 40).all (chkR (yX9_post, cX9_post, 9, (some .int), 4, 9, mr206)) = true := by decide +kernel
theorem ck206 : mr206.all (chkR (yX9_post, cX9_post, 9, (some .int), 4, 9, mr206)) = true := all_cut 40 ck206_0 (ck206_1)
theorem ck207_0 : mr207.all (chkR (yX9_choice, cX9_choice, 5, (some .int), 3, 9, mr207)) = true := by decide +kernel
theorem ck207 : mr207.all (chkR (yX9_choice, cX9_choice, 5, (some .int), 3, 9, mr207)) = true := ck207_0
theorem ck208_0 : (mr208.take 40).all (chkR (yX9_outsBy, cX9_outsBy, 8, (some .int), 5, 9, mr208)) = true := by decide +kernel
theorem ck208_1 : (mr208.drop 40).all (chkR (yX9_outsBy, cX9_outsBy, 8, (some .int), 5, 9, mr208)) = true := by decide +kernel
theorem ck208 : mr208.all (chkR (yX9_outsBy, cX9_outsBy, 8, (some .int), 5, 9, mr208)) = true := all_cut 40 ck208_0 (ck208_1)
theorem ck209_0 : (mr209.take 40).all (chkR (yX9_lead, cX9_lead, 10, (some .int), 5, 9, mr209)) = true := by decide +kernel
theorem ck209_1 : ((mr209.drop 40).take 40).all (chkR (yX9_lead, cX9_lead, 10, (some .int), 5, 9, mr209)) = true := by decide +kernel
theorem ck209_2 : (mr209.drop 80).all (chkR (yX9_lead, cX9_lead, 10, (some .int), 5, 9, mr209)) = true := by decide +kernel
theorem ck209 : mr209.all (chkR (yX9_lead, cX9_lead, 10, (some .int), 5, 9, mr209)) = true := all_cut 40 ck209_0 (all_cut 40 ck209_1 (by rw [List.drop_drop]; exact ck209_2))
theorem ck210_0 : (mr210.take 40).all (chkR (yX9_wall, cX9_wall, 5, (some .int), 3, 9, mr210)) = true := by decide +kernel
theorem ck210_1 : (mr210.drop 40).all (chkR (yX9_wall, cX9_wall, 5, (some .int), 3, 9, mr210)) = true := by decide +kernel
theorem ck210 : mr210.all (chkR (yX9_wall, cX9_wall, 5, (some .int), 3, 9, mr210)) = true := all_cut 40 ck210_0 (ck210_1)
theorem ck211_0 : (mr211.take 40).all (chkR (yX9_mayStand, cX9_mayStand, 6, (some .boolean), 2, 9, mr211)) = true := by decide +kernel
theorem ck211_1 : ((mr211.drop 40).take 40).all (chkR (yX9_mayStand, cX9_mayStand, 6, (some .boolean), 2, 9, mr211)) = true := by decide +kernel
theorem ck211_2 : (mr211.drop 80).all (chkR (yX9_mayStand, cX9_mayStand, 6, (some .boolean), 2, 9, mr211)) = true := by decide +kernel
theorem ck211 : mr211.all (chkR (yX9_mayStand, cX9_mayStand, 6, (some .boolean), 2, 9, mr211)) = true := all_cut 40 ck211_0 (all_cut 40 ck211_1 (by rw [List.drop_drop]; exact ck211_2))
theorem ck212_0 : (mr212.take 40).all (chkR (yX9_leadsHere, cX9_leadsHere, 5, (some .boolean), 3, 9, mr212)) = true := by decide +kernel
theorem ck212_1 : (mr212.drop 40).all (chkR (yX9_leadsHere, cX9_leadsHere, 5, (some .boolean), 3, 9, mr212)) = true := by decide +kernel
theorem ck212 : mr212.all (chkR (yX9_leadsHere, cX9_leadsHere, 5, (some .boolean), 3, 9, mr212)) = true := all_cut 40 ck212_0 (ck212_1)
theorem ck213_0 : (mr213.take 40).all (chkR (yX9_ago, cX9_ago, 11, (some .int), 2, 9, mr213)) = true := by decide +kernel
theorem ck213_1 : ((mr213.drop 40).take 40).all (chkR (yX9_ago, cX9_ago, 11, (some .int), 2, 9, mr213)) = true := by decide +kernel
theorem ck213_2 : ((mr213.drop 80).take 40).all (chkR (yX9_ago, cX9_ago, 11, (some .int), 2, 9, mr213)) = true := by decide +kernel
theorem ck213_3 : (mr213.drop 120).all (chkR (yX9_ago, cX9_ago, 11, (some .int), 2, 9, mr213)) = true := by decide +kernel
theorem ck213 : mr213.all (chkR (yX9_ago, cX9_ago, 11, (some .int), 2, 9, mr213)) = true := all_cut 40 ck213_0 (all_cut 40 ck213_1 (by rw [List.drop_drop]; exact all_cut 40 ck213_2 (by rw [List.drop_drop]; exact ck213_3)))
