theorem chkA : ∀ q ∈ mtab, q.2.2.2.2.2.2.all (chkR q) = true := by
  intro q hq
  unfold mtab at hq
  simp only [List.mem_append] at hq
  rcases hq with hq | hq | hq | hq | hq | hq
  · unfold mtab0 at hq
    simp only [List.mem_cons, List.not_mem_nil, or_false] at hq
    rcases hq with rfl | rfl | rfl | rfl | rfl | rfl | rfl | rfl | rfl | rfl | rfl | rfl | rfl | rfl | rfl | rfl | rfl | rfl | rfl | rfl | rfl | rfl | rfl | rfl | rfl | rfl | rfl | rfl | rfl | rfl | rfl | rfl | rfl | rfl | rfl | rfl | rfl | rfl | rfl | rfl
    · exact ck0
    · exact ck1
    · exact ck2
    · exact ck3
    · exact ck4
    · exact ck5
    · exact ck6
    · exact ck7
    · exact ck8
    · exact ck9
    · exact ck10
    · exact ck11
    · exact ck12
    · exact ck13
    · exact ck14
    · exact ck15
    · exact ck16
    · exact ck17
    · exact ck18
    · exact ck19
    · exact ck20
    · exact ck21
    · exact ck22
    · exact ck23
    · exact ck24
    · exact ck25
    · exact ck26
    · exact ck27
    · exact ck28
    · exact ck29
    · exact ck30
    · exact ck31
    · exact ck32
    · exact ck33
    · exact ck34
    · exact ck35
    · exact ck36
    · exact ck37
    · exact ck38
    · exact ck39
  · unfold mtab1 at hq
    simp only [List.mem_cons, List.not_mem_nil, or_false] at hq
    rcases hq with rfl | rfl | rfl | rfl | rfl | rfl | rfl | rfl | rfl | rfl | rfl | rfl | rfl | rfl | rfl | rfl | rfl | rfl | rfl | rfl | rfl | rfl | rfl | rfl | rfl | rfl | rfl | rfl | rfl | rfl | rfl | rfl | rfl | rfl | rfl | rfl | rfl | rfl | rfl | rfl
    · exact ck40
    · exact ck41
    · exact ck42
    · exact ck43
    · exact ck44
    · exact ck45
    · exact ck46
    · exact ck47
    · exact ck48
    · exact ck49
    · exact ck50
    · exact ck51
    · exact ck52
    · exact ck53
    · exact ck54
    · exact ck55
    · exact ck56
    · exact ck57
    · exact ck58
    · exact ck59
    · exact ck60
    · exact ck61
    · exact ck62
    · exact ck63
    · exact ck64
    · exact ck65
    · exact ck66
    · exact ck67
    · exact ck68
    · exact ck69
    · exact ck70
    · exact ck71
    · exact ck72
    · exact ck73
    · exact ck74
    · exact ck75
    · exact ck76
    · exact ck77
    · exact ck78
    · exact ck79
  · unfold mtab2 at hq
    simp only [List.mem_cons, List.not_mem_nil, or_false] at hq
    rcases hq with rfl | rfl | rfl | rfl | rfl | rfl | rfl | rfl | rfl | rfl | rfl | rfl | rfl | rfl | rfl | rfl | rfl | rfl | rfl | rfl | rfl | rfl | rfl | rfl | rfl | rfl | rfl | rfl | rfl | rfl | rfl | rfl | rfl | rfl | rfl | rfl | rfl | rfl | rfl | rfl
    · exact ck80
    · exact ck81
    · exact ck82
    · exact ck83
    · exact ck84
    · exact ck85
    · exact ck86
    · exact ck87
    · exact ck88
    · exact ck89
    · exact ck90
    · exact ck91
    · exact ck92
    · exact ck93
    · exact ck94
    · exact ck95
    · exact ck96
    · exact ck97
    · exact ck98
    · exact ck99
    · exact ck100
    · exact ck101
    · exact ck102
    · exact ck103
    · exact ck104
    · exact ck105
    · exact ck106
    · exact ck107
    · exact ck108
    · exact ck109
    · exact ck110
    · exact ck111
    · exact ck112
    · exact ck113
    · exact ck114
    · exact ck115
    · exact ck116
    · exact ck117
    · exact ck118
    · exact ck119
  · unfold mtab3 at hq
    simp only [List.mem_cons, List.not_mem_nil, or_false] at hq
    rcases hq with rfl | rfl | rfl | rfl | rfl | rfl | rfl | rfl | rfl | rfl | rfl | rfl | rfl | rfl | rfl | rfl | rfl | rfl | rfl | rfl | rfl | rfl | rfl | rfl | rfl | rfl | rfl | rfl | rfl | rfl | rfl | rfl | rfl | rfl | rfl | rfl | rfl | rfl | rfl | rfl
    · exact ck120
    · exact ck121
    · exact ck122
    · exact ck123
    · exact ck124
    · exact ck125
    · exact ck126
    · exact ck127
    · exact ck128
    · exact ck129
    · exact ck130
    · exact ck131
    · exact ck132
    · exact ck133
    · exact ck134
    · exact ck135
    · exact ck136
    · exact ck137
    · exact ck138
    · exact ck139
    · exact ck140
    · exact ck141
    · exact ck142
    · exact ck143
    · exact ck144
    · exact ck145
    · exact ck146
    · exact ck147
    · exact ck148
    · exact ck149
    · exact ck150
    · exact ck151
    · exact ck152
    · exact ck153
    · exact ck154
    · exact ck155
    · exact ck156
    · exact ck157
    · exact ck158
    · exact ck159
  · unfold mtab4 at hq
    simp only [List.mem_cons, List.not_mem_nil, or_false] at hq
    rcases hq with rfl | rfl | rfl | rfl | rfl | rfl | rfl | rfl | rfl | rfl | rfl | rfl | rfl | rfl | rfl | rfl | rfl | rfl | rfl | rfl | rfl | rfl | rfl | rfl | rfl | rfl | rfl | rfl | rfl | rfl | rfl | rfl | rfl | rfl | rfl | rfl | rfl | rfl | rfl | rfl
    · exact ck160
    · exact ck161
    · exact ck162
    · exact ck163
    · exact ck164
    · exact ck165
    · exact ck166
    · exact ck167
    · exact ck168
    · exact ck169
    · exact ck170
    · exact ck171
    · exact ck172
    · exact ck173
    · exact ck174
    · exact ck175
    · exact ck176
    · exact ck177
    · exact ck178
    · exact ck179
    · exact ck180
    · exact ck181
    · exact ck182
    · exact ck183
    · exact ck184
    · exact ck185
    · exact ck186
    · exact ck187
    · exact ck188
    · exact ck189
    · exact ck190
    · exact ck191
    · exact ck192
    · exact ck193
    · exact ck194
    · exact ck195
    · exact ck196
    · exact ck197
    · exact ck198
    · exact ck199
  · unfold mtab5 at hq
    simp only [List.mem_cons, List.not_mem_nil, or_false] at hq
    rcases hq with rfl | rfl | rfl | rfl | rfl | rfl | rfl | rfl | rfl | rfl | rfl | rfl | rfl | rfl | rfl | rfl | rfl | rfl | rfl | rfl | rfl | rfl | rfl | rfl | rfl | rfl | rfl | rfl | rfl | rfl | rfl | rfl | rfl | rfl | rfl | rfl | rfl | rfl
    · exact ck200
    · exact ck201
    · exact ck202
    · exact ck203
    · exact ck204
    · exact ck205
    · exact ck206
    · exact ck207
    · exact ck208
    · exact ck209
    · exact ck210
    · exact ck211
    · exact ck212
    · exact ck213
    · exact ck214
    · exact ck215
    · exact ck216
    · exact ck217
    · exact ck218
    · exact ck219
    · exact ck220
    · exact ck221
    · exact ck222
    · exact ck223
    · exact ck224
    · exact ck225
    · exact ck226
    · exact ck227
    · exact ck228
    · exact ck229
    · exact ck230
    · exact ck231
    · exact ck232
    · exact ck233
    · exact ck234
    · exact ck235
    · exact ck236
    · exact ck237
theorem rowIn_mem : ∀ {l : List aRow} {pc : Nat} {z : Instr × Nat × Nat × Nat}, rowIn l pc = some z → (pc, z) ∈ l
  | [], _, _, h => by simp [rowIn] at h
  | r :: l, pc, z, h => by
    unfold rowIn at h
    split at h
    · rename_i e
      cases h
      rw [← e]
      exact List.mem_cons_self
    · exact List.mem_cons_of_mem _ (rowIn_mem h)
theorem row_ok {y pc : Nat} {z : Instr × Nat × Nat × Nat} (h : rowAt y pc = some z) : decode (mAt y).2.1 pc = .ok (z.1, z.2.1) ∧ okRb (mCi y) z.1 z.2.2.1 z.2.2.2 = true := by
  have hm := rowIn_mem h
  by_cases hy : y < mtab.length
  · have e : mAt y = mtab[y] := by simp [mAt, hy]
    have h1 := chkA (mAt y) (by rw [e]; exact List.getElem_mem hy)
    have h2 := List.all_eq_true.mp h1 _ hm
    simp only [chkR, Bool.and_eq_true, decide_eq_true_eq] at h2
    exact h2
  · have e : mAt y = (yL_law, cL_law, 0, none, 0, 0, []) := by simp [mAt, hy]
    rw [e] at hm
    cases hm
