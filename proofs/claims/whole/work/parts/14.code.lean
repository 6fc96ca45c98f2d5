theorem cdA : ∀ q ∈ mtab, q.1 = yL_law ∨ Cond.code q.1 q.2.1 q.2.2.1 q.2.2.2.1 ∈ lw_tbl := by
  intro q hq
  unfold mtab at hq
  simp only [List.mem_append] at hq
  rcases hq with hq | hq | hq | hq | hq | hq
  · unfold mtab0 at hq
    simp only [List.mem_cons, List.not_mem_nil, or_false] at hq
    rcases hq with rfl | rfl | rfl | rfl | rfl | rfl | rfl | rfl | rfl | rfl | rfl | rfl | rfl | rfl | rfl | rfl | rfl | rfl | rfl | rfl | rfl | rfl | rfl | rfl | rfl | rfl | rfl | rfl | rfl | rfl | rfl | rfl | rfl | rfl | rfl | rfl | rfl | rfl | rfl | rfl
    · exact Or.inr cd0
    · exact Or.inr cd1
    · exact Or.inr cd2
    · exact Or.inr cd3
    · exact Or.inr cd4
    · exact Or.inr cd5
    · exact Or.inr cd6
    · exact Or.inr cd7
    · exact Or.inr cd8
    · exact Or.inr cd9
    · exact Or.inr cd10
    · exact Or.inr cd11
    · exact Or.inr cd12
    · exact Or.inr cd13
    · exact Or.inr cd14
    · exact Or.inr cd15
    · exact Or.inr cd16
    · exact Or.inr cd17
    · exact Or.inr cd18
    · exact Or.inr cd19
    · exact Or.inr cd20
    · exact Or.inr cd21
    · exact Or.inr cd22
    · exact Or.inr cd23
    · exact Or.inr cd24
    · exact Or.inr cd25
    · exact Or.inr cd26
    · exact Or.inr cd27
    · exact Or.inr cd28
    · exact Or.inr cd29
    · exact Or.inr cd30
    · exact Or.inr cd31
    · exact Or.inr cd32
    · exact Or.inr cd33
    · exact Or.inr cd34
    · exact Or.inr cd35
    · exact Or.inr cd36
    · exact Or.inr cd37
    · exact Or.inr cd38
    · exact Or.inr cd39
  · unfold mtab1 at hq
    simp only [List.mem_cons, List.not_mem_nil, or_false] at hq
    rcases hq with rfl | rfl | rfl | rfl | rfl | rfl | rfl | rfl | rfl | rfl | rfl | rfl | rfl | rfl | rfl | rfl | rfl | rfl | rfl | rfl | rfl | rfl | rfl | rfl | rfl | rfl | rfl | rfl | rfl | rfl | rfl | rfl | rfl | rfl | rfl | rfl | rfl | rfl | rfl | rfl
    · exact Or.inr cd40
    · exact Or.inr cd41
    · exact Or.inr cd42
    · exact Or.inr cd43
    · exact Or.inr cd44
    · exact Or.inr cd45
    · exact Or.inr cd46
    · exact Or.inr cd47
    · exact Or.inr cd48
    · exact Or.inr cd49
    · exact Or.inr cd50
    · exact Or.inr cd51
    · exact Or.inr cd52
    · exact Or.inr cd53
    · exact Or.inr cd54
    · exact Or.inr cd55
    · exact Or.inr cd56
    · exact Or.inr cd57
    · exact Or.inr cd58
    · exact Or.inr cd59
    · exact Or.inr cd60
    · exact Or.inr cd61
    · exact Or.inr cd62
    · exact Or.inr cd63
    · exact Or.inr cd64
    · exact Or.inr cd65
    · exact Or.inr cd66
    · exact Or.inr cd67
    · exact Or.inr cd68
    · exact Or.inr cd69
    · exact Or.inr cd70
    · exact Or.inr cd71
    · exact Or.inr cd72
    · exact Or.inr cd73
    · exact Or.inr cd74
    · exact Or.inr cd75
    · exact Or.inr cd76
    · exact Or.inr cd77
    · exact Or.inr cd78
    · exact Or.inr cd79
  · unfold mtab2 at hq
    simp only [List.mem_cons, List.not_mem_nil, or_false] at hq
    rcases hq with rfl | rfl | rfl | rfl | rfl | rfl | rfl | rfl | rfl | rfl | rfl | rfl | rfl | rfl | rfl | rfl | rfl | rfl | rfl | rfl | rfl | rfl | rfl | rfl | rfl | rfl | rfl | rfl | rfl | rfl | rfl | rfl | rfl | rfl | rfl | rfl | rfl | rfl | rfl | rfl
    · exact Or.inr cd80
    · exact Or.inr cd81
    · exact Or.inr cd82
    · exact Or.inr cd83
    · exact Or.inr cd84
    · exact Or.inr cd85
    · exact Or.inr cd86
    · exact Or.inr cd87
    · exact Or.inr cd88
    · exact Or.inr cd89
    · exact Or.inr cd90
    · exact Or.inr cd91
    · exact Or.inr cd92
    · exact Or.inr cd93
    · exact Or.inr cd94
    · exact Or.inr cd95
    · exact Or.inr cd96
    · exact Or.inr cd97
    · exact Or.inr cd98
    · exact Or.inr cd99
    · exact Or.inr cd100
    · exact Or.inr cd101
    · exact Or.inr cd102
    · exact Or.inr cd103
    · exact Or.inr cd104
    · exact Or.inr cd105
    · exact Or.inr cd106
    · exact Or.inr cd107
    · exact Or.inr cd108
    · exact Or.inr cd109
    · exact Or.inr cd110
    · exact Or.inr cd111
    · exact Or.inr cd112
    · exact Or.inr cd113
    · exact Or.inr cd114
    · exact Or.inr cd115
    · exact Or.inr cd116
    · exact Or.inr cd117
    · exact Or.inr cd118
    · exact Or.inr cd119
  · unfold mtab3 at hq
    simp only [List.mem_cons, List.not_mem_nil, or_false] at hq
    rcases hq with rfl | rfl | rfl | rfl | rfl | rfl | rfl | rfl | rfl | rfl | rfl | rfl | rfl | rfl | rfl | rfl | rfl | rfl | rfl | rfl | rfl | rfl | rfl | rfl | rfl | rfl | rfl | rfl | rfl | rfl | rfl | rfl | rfl | rfl | rfl | rfl | rfl | rfl | rfl | rfl
    · exact Or.inr cd120
    · exact Or.inr cd121
    · exact Or.inr cd122
    · exact Or.inr cd123
    · exact Or.inr cd124
    · exact Or.inr cd125
    · exact Or.inr cd126
    · exact Or.inr cd127
    · exact Or.inr cd128
    · exact Or.inr cd129
    · exact Or.inr cd130
    · exact Or.inr cd131
    · exact Or.inr cd132
    · exact Or.inr cd133
    · exact Or.inr cd134
    · exact Or.inr cd135
    · exact Or.inr cd136
    · exact Or.inr cd137
    · exact Or.inr cd138
    · exact Or.inr cd139
    · exact Or.inr cd140
    · exact Or.inr cd141
    · exact Or.inr cd142
    · exact Or.inr cd143
    · exact Or.inr cd144
    · exact Or.inr cd145
    · exact Or.inr cd146
    · exact Or.inr cd147
    · exact Or.inr cd148
    · exact Or.inr cd149
    · exact Or.inr cd150
    · exact Or.inr cd151
    · exact Or.inr cd152
    · exact Or.inr cd153
    · exact Or.inr cd154
    · exact Or.inr cd155
    · exact Or.inr cd156
    · exact Or.inr cd157
    · exact Or.inr cd158
    · exact Or.inr cd159
  · unfold mtab4 at hq
    simp only [List.mem_cons, List.not_mem_nil, or_false] at hq
    rcases hq with rfl | rfl | rfl | rfl | rfl | rfl | rfl | rfl | rfl | rfl | rfl | rfl | rfl | rfl | rfl | rfl | rfl | rfl | rfl | rfl | rfl | rfl | rfl | rfl | rfl | rfl | rfl | rfl | rfl | rfl | rfl | rfl | rfl | rfl | rfl | rfl | rfl | rfl | rfl | rfl
    · exact Or.inr cd160
    · exact Or.inr cd161
    · exact Or.inr cd162
    · exact Or.inr cd163
    · exact Or.inr cd164
    · exact Or.inr cd165
    · exact Or.inr cd166
    · exact Or.inr cd167
    · exact Or.inr cd168
    · exact Or.inr cd169
    · exact Or.inr cd170
    · exact Or.inr cd171
    · exact Or.inr cd172
    · exact Or.inr cd173
    · exact Or.inr cd174
    · exact Or.inr cd175
    · exact Or.inr cd176
    · exact Or.inr cd177
    · exact Or.inr cd178
    · exact Or.inr cd179
    · exact Or.inr cd180
    · exact Or.inr cd181
    · exact Or.inr cd182
    · exact Or.inr cd183
    · exact Or.inr cd184
    · exact Or.inr cd185
    · exact Or.inr cd186
    · exact Or.inr cd187
    · exact Or.inr cd188
    · exact Or.inr cd189
    · exact Or.inr cd190
    · exact Or.inr cd191
    · exact Or.inr cd192
    · exact Or.inr cd193
    · exact Or.inr cd194
    · exact Or.inr cd195
    · exact Or.inr cd196
    · exact Or.inr cd197
    · exact Or.inr cd198
    · exact Or.inr cd199
  · unfold mtab5 at hq
    simp only [List.mem_cons, List.not_mem_nil, or_false] at hq
    rcases hq with rfl | rfl | rfl | rfl | rfl | rfl | rfl | rfl | rfl | rfl | rfl | rfl | rfl | rfl | rfl | rfl | rfl | rfl | rfl | rfl | rfl | rfl | rfl | rfl | rfl | rfl | rfl | rfl | rfl | rfl | rfl | rfl | rfl | rfl | rfl | rfl | rfl | rfl
    · exact Or.inr cd200
    · exact Or.inr cd201
    · exact Or.inr cd202
    · exact Or.inr cd203
    · exact Or.inr cd204
    · exact Or.inr cd205
    · exact Or.inr cd206
    · exact Or.inr cd207
    · exact Or.inr cd208
    · exact Or.inr cd209
    · exact Or.inr cd210
    · exact Or.inr cd211
    · exact Or.inr cd212
    · exact Or.inr cd213
    · exact Or.inr cd214
    · exact Or.inr cd215
    · exact Or.inr cd216
    · exact Or.inr cd217
    · exact Or.inr cd218
    · exact Or.inr cd219
    · exact Or.inr cd220
    · exact Or.inr cd221
    · exact Or.inr cd222
    · exact Or.inr cd223
    · exact Or.inr cd224
    · exact Or.inr cd225
    · exact Or.inr cd226
    · exact Or.inr cd227
    · exact Or.inr cd228
    · exact Or.inr cd229
    · exact Or.inr cd230
    · exact Or.inr cd231
    · exact Or.inr cd232
    · exact Or.inr cd233
    · exact Or.inr cd234
    · exact Or.inr cd235
    · exact Or.inr cd236
    · exact Or.inl rfl
theorem noLaw : ∀ y, y < 237 → (mAt y).1.cls ≠ "SecondNearestLaw" := by decide +kernel
theorem mtab_len : mtab.length = 238 := by decide +kernel
theorem cd_at {y : Nat} (h : y < 237) : Cond.code (mAt y).1 (mAt y).2.1 (mMax y) (mRet y) ∈ lw_tbl := by
  have hy : y < mtab.length := by rw [mtab_len]; omega
  have e : mAt y = mtab[y] := by simp [mAt, hy]
  rcases cdA (mAt y) (by rw [e]; exact List.getElem_mem hy) with h1 | h1
  · exact absurd (by rw [h1]; rfl) (noLaw y h)
  · exact h1
theorem mp_key : ∀ y, y < 237 → (((mpT.take 237)[y]?).map (fun q => q.1)) = some y := by decide +kernel
theorem mp_at {y : Nat} (h : y < 237) : ∃ q ∈ mpT.take 237, q.1 = y := by
  have h1 := mp_key y h
  cases hq : (mpT.take 237)[y]? with
  | none => rw [hq] at h1; cases h1
  | some q => rw [hq] at h1; exact ⟨q, List.mem_of_getElem? hq, Option.some.inj h1⟩
theorem mlK_ok : ∀ q ∈ mlT, (q.2.2.2.1 = 0 → msT.contains q.2.2.1 = false ∧ miT.contains q.2.2.1 = false) ∧ (q.2.2.2.1 = 1 → msT.contains q.2.2.1 = true) ∧ (q.2.2.2.1 = 2 ∨ q.2.2.2.1 = 5 → miT.contains q.2.2.1 = true ∧ msT.contains q.2.2.1 = false ∧ mRet q.2.2.1 = none) := by decide +kernel
