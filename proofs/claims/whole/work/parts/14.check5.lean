/-! printed by program: the methods checked against their bytes and words (part 5) -/
set_option maxRecDepth 100000 in
theorem pm_k240 : pm_chk 240 = true := by decide +kernel
set_option maxRecDepth 100000 in
theorem pm_k241 : pm_chk 241 = true := by decide +kernel
set_option maxRecDepth 100000 in
theorem pm_k242 : pm_chk 242 = true := by decide +kernel
set_option maxRecDepth 100000 in
theorem pm_k243 : pm_chk 243 = true := by decide +kernel
set_option maxRecDepth 100000 in
theorem pm_k244 : pm_chk 244 = true := by decide +kernel
set_option maxRecDepth 100000 in
theorem pm_k245 : pm_chk 245 = true := by decide +kernel
theorem pm_k_no {m : Nat} (h : 246 ≤ m) : pm_chk m = true := by
  have e : pm_mi m = none := by
    unfold pm_mi
    by_cases h2 : m / 16 < 16
    · have e1 : m / 16 = 15 := by omega
      rw [e1]
      have e2 : 6 ≤ m % 16 := by omega
      exact List.getElem?_eq_none (by show pm_mi15.length ≤ _; exact e2)
    · have e1 : pm_mis[m / 16]? = none := List.getElem?_eq_none (by show 16 ≤ _; omega)
      rw [List.getD_eq_getElem?_getD, e1]
      rfl
  unfold pm_chk
  rw [e]
theorem pm_kc0 : ∀ i, i < 16 → pm_chk (0 + i) = true
  | 0, _ => pm_k0
  | 1, _ => pm_k1
  | 2, _ => pm_k2
  | 3, _ => pm_k3
  | 4, _ => pm_k4
  | 5, _ => pm_k5
  | 6, _ => pm_k6
  | 7, _ => pm_k7
  | 8, _ => pm_k8
  | 9, _ => pm_k9
  | 10, _ => pm_k10
  | 11, _ => pm_k11
  | 12, _ => pm_k12
  | 13, _ => pm_k13
  | 14, _ => pm_k14
  | 15, _ => pm_k15
  | n + 16, h => absurd h (by omega)
theorem pm_kc1 : ∀ i, i < 16 → pm_chk (16 + i) = true
  | 0, _ => pm_k16
  | 1, _ => pm_k17
  | 2, _ => pm_k18
  | 3, _ => pm_k19
  | 4, _ => pm_k20
  | 5, _ => pm_k21
  | 6, _ => pm_k22
  | 7, _ => pm_k23
  | 8, _ => pm_k24
  | 9, _ => pm_k25
  | 10, _ => pm_k26
  | 11, _ => pm_k27
  | 12, _ => pm_k28
  | 13, _ => pm_k29
  | 14, _ => pm_k30
  | 15, _ => pm_k31
  | n + 16, h => absurd h (by omega)
theorem pm_kc2 : ∀ i, i < 16 → pm_chk (32 + i) = true
  | 0, _ => pm_k32
  | 1, _ => pm_k33
  | 2, _ => pm_k34
  | 3, _ => pm_k35
  | 4, _ => pm_k36
  | 5, _ => pm_k37
  | 6, _ => pm_k38
  | 7, _ => pm_k39
  | 8, _ => pm_k40
  | 9, _ => pm_k41
  | 10, _ => pm_k42
  | 11, _ => pm_k43
  | 12, _ => pm_k44
  | 13, _ => pm_k45
  | 14, _ => pm_k46
  | 15, _ => pm_k47
  | n + 16, h => absurd h (by omega)
theorem pm_kc3 : ∀ i, i < 16 → pm_chk (48 + i) = true
  | 0, _ => pm_k48
  | 1, _ => pm_k49
  | 2, _ => pm_k50
  | 3, _ => pm_k51
  | 4, _ => pm_k52
  | 5, _ => pm_k53
  | 6, _ => pm_k54
  | 7, _ => pm_k55
  | 8, _ => pm_k56
  | 9, _ => pm_k57
  | 10, _ => pm_k58
  | 11, _ => pm_k59
  | 12, _ => pm_k60
  | 13, _ => pm_k61
  | 14, _ => pm_k62
  | 15, _ => pm_k63
  | n + 16, h => absurd h (by omega)
theorem pm_kc4 : ∀ i, i < 16 → pm_chk (64 + i) = true
  | 0, _ => pm_k64
  | 1, _ => pm_k65
  | 2, _ => pm_k66
  | 3, _ => pm_k67
  | 4, _ => pm_k68
  | 5, _ => pm_k69
  | 6, _ => pm_k70
  | 7, _ => pm_k71
  | 8, _ => pm_k72
  | 9, _ => pm_k73
  | 10, _ => pm_k74
  | 11, _ => pm_k75
  | 12, _ => pm_k76
  | 13, _ => pm_k77
  | 14, _ => pm_k78
  | 15, _ => pm_k79
  | n + 16, h => absurd h (by omega)
theorem pm_kc5 : ∀ i, i < 16 → pm_chk (80 + i) = true
  | 0, _ => pm_k80
  | 1, _ => pm_k81
  | 2, _ => pm_k82
  | 3, _ => pm_k83
  | 4, _ => pm_k84
  | 5, _ => pm_k85
  | 6, _ => pm_k86
  | 7, _ => pm_k87
  | 8, _ => pm_k88
  | 9, _ => pm_k89
  | 10, _ => pm_k90
  | 11, _ => pm_k91
  | 12, _ => pm_k92
  | 13, _ => pm_k93
  | 14, _ => pm_k94
  | 15, _ => pm_k95
  | n + 16, h => absurd h (by omega)
theorem pm_kc6 : ∀ i, i < 16 → pm_chk (96 + i) = true
  | 0, _ => pm_k96
  | 1, _ => pm_k97
  | 2, _ => pm_k98
  | 3, _ => pm_k99
  | 4, _ => pm_k100
  | 5, _ => pm_k101
  | 6, _ => pm_k102
  | 7, _ => pm_k103
  | 8, _ => pm_k104
  | 9, _ => pm_k105
  | 10, _ => pm_k106
  | 11, _ => pm_k107
  | 12, _ => pm_k108
  | 13, _ => pm_k109
  | 14, _ => pm_k110
  | 15, _ => pm_k111
  | n + 16, h => absurd h (by omega)
theorem pm_kc7 : ∀ i, i < 16 → pm_chk (112 + i) = true
  | 0, _ => pm_k112
  | 1, _ => pm_k113
  | 2, _ => pm_k114
  | 3, _ => pm_k115
  | 4, _ => pm_k116
  | 5, _ => pm_k117
  | 6, _ => pm_k118
  | 7, _ => pm_k119
  | 8, _ => pm_k120
  | 9, _ => pm_k121
  | 10, _ => pm_k122
  | 11, _ => pm_k123
  | 12, _ => pm_k124
  | 13, _ => pm_k125
  | 14, _ => pm_k126
  | 15, _ => pm_k127
  | n + 16, h => absurd h (by omega)
theorem pm_kc8 : ∀ i, i < 16 → pm_chk (128 + i) = true
  | 0, _ => pm_k128
  | 1, _ => pm_k129
  | 2, _ => pm_k130
  | 3, _ => pm_k131
  | 4, _ => pm_k132
  | 5, _ => pm_k133
  | 6, _ => pm_k134
  | 7, _ => pm_k135
  | 8, _ => pm_k136
  | 9, _ => pm_k137
  | 10, _ => pm_k138
  | 11, _ => pm_k139
  | 12, _ => pm_k140
  | 13, _ => pm_k141
  | 14, _ => pm_k142
  | 15, _ => pm_k143
  | n + 16, h => absurd h (by omega)
theorem pm_kc9 : ∀ i, i < 16 → pm_chk (144 + i) = true
  | 0, _ => pm_k144
  | 1, _ => pm_k145
  | 2, _ => pm_k146
  | 3, _ => pm_k147
  | 4, _ => pm_k148
  | 5, _ => pm_k149
  | 6, _ => pm_k150
  | 7, _ => pm_k151
  | 8, _ => pm_k152
  | 9, _ => pm_k153
  | 10, _ => pm_k154
  | 11, _ => pm_k155
  | 12, _ => pm_k156
  | 13, _ => pm_k157
  | 14, _ => pm_k158
  | 15, _ => pm_k159
  | n + 16, h => absurd h (by omega)
theorem pm_kc10 : ∀ i, i < 16 → pm_chk (160 + i) = true
  | 0, _ => pm_k160
  | 1, _ => pm_k161
  | 2, _ => pm_k162
  | 3, _ => pm_k163
  | 4, _ => pm_k164
  | 5, _ => pm_k165
  | 6, _ => pm_k166
  | 7, _ => pm_k167
  | 8, _ => pm_k168
  | 9, _ => pm_k169
  | 10, _ => pm_k170
  | 11, _ => pm_k171
  | 12, _ => pm_k172
  | 13, _ => pm_k173
  | 14, _ => pm_k174
  | 15, _ => pm_k175
  | n + 16, h => absurd h (by omega)
theorem pm_kc11 : ∀ i, i < 16 → pm_chk (176 + i) = true
  | 0, _ => pm_k176
  | 1, _ => pm_k177
  | 2, _ => pm_k178
  | 3, _ => pm_k179
  | 4, _ => pm_k180
  | 5, _ => pm_k181
  | 6, _ => pm_k182
  | 7, _ => pm_k183
  | 8, _ => pm_k184
  | 9, _ => pm_k185
  | 10, _ => pm_k186
  | 11, _ => pm_k187
  | 12, _ => pm_k188
  | 13, _ => pm_k189
  | 14, _ => pm_k190
  | 15, _ => pm_k191
  | n + 16, h => absurd h (by omega)
theorem pm_kc12 : ∀ i, i < 16 → pm_chk (192 + i) = true
  | 0, _ => pm_k192
  | 1, _ => pm_k193
  | 2, _ => pm_k194
  | 3, _ => pm_k195
  | 4, _ => pm_k196
  | 5, _ => pm_k197
  | 6, _ => pm_k198
  | 7, _ => pm_k199
  | 8, _ => pm_k200
  | 9, _ => pm_k201
  | 10, _ => pm_k202
  | 11, _ => pm_k203
  | 12, _ => pm_k204
  | 13, _ => pm_k205
  | 14, _ => pm_k206
  | 15, _ => pm_k207
  | n + 16, h => absurd h (by omega)
theorem pm_kc13 : ∀ i, i < 16 → pm_chk (208 + i) = true
  | 0, _ => pm_k208
  | 1, _ => pm_k209
  | 2, _ => pm_k210
  | 3, _ => pm_k211
  | 4, _ => pm_k212
  | 5, _ => pm_k213
  | 6, _ => pm_k214
  | 7, _ => pm_k215
  | 8, _ => pm_k216
  | 9, _ => pm_k217
  | 10, _ => pm_k218
  | 11, _ => pm_k219
  | 12, _ => pm_k220
  | 13, _ => pm_k221
  | 14, _ => pm_k222
  | 15, _ => pm_k223
  | n + 16, h => absurd h (by omega)
theorem pm_kc14 : ∀ i, i < 16 → pm_chk (224 + i) = true
  | 0, _ => pm_k224
  | 1, _ => pm_k225
  | 2, _ => pm_k226
  | 3, _ => pm_k227
  | 4, _ => pm_k228
  | 5, _ => pm_k229
  | 6, _ => pm_k230
  | 7, _ => pm_k231
  | 8, _ => pm_k232
  | 9, _ => pm_k233
  | 10, _ => pm_k234
  | 11, _ => pm_k235
  | 12, _ => pm_k236
  | 13, _ => pm_k237
  | 14, _ => pm_k238
  | 15, _ => pm_k239
  | n + 16, h => absurd h (by omega)
theorem pm_kc15 : ∀ i, i < 6 → pm_chk (240 + i) = true
  | 0, _ => pm_k240
  | 1, _ => pm_k241
  | 2, _ => pm_k242
  | 3, _ => pm_k243
  | 4, _ => pm_k244
  | 5, _ => pm_k245
  | n + 6, h => absurd h (by omega)
theorem pm_chk_all : ∀ m, pm_chk m = true := by
  intro m
  by_cases h : 246 ≤ m
  · exact pm_k_no h
  by_cases h0 : m < 16
  · rw [show m = 0 + (m - 0) by omega]
    exact pm_kc0 _ (by omega)
  by_cases h1 : m < 32
  · rw [show m = 16 + (m - 16) by omega]
    exact pm_kc1 _ (by omega)
  by_cases h2 : m < 48
  · rw [show m = 32 + (m - 32) by omega]
    exact pm_kc2 _ (by omega)
  by_cases h3 : m < 64
  · rw [show m = 48 + (m - 48) by omega]
    exact pm_kc3 _ (by omega)
  by_cases h4 : m < 80
  · rw [show m = 64 + (m - 64) by omega]
    exact pm_kc4 _ (by omega)
  by_cases h5 : m < 96
  · rw [show m = 80 + (m - 80) by omega]
    exact pm_kc5 _ (by omega)
  by_cases h6 : m < 112
  · rw [show m = 96 + (m - 96) by omega]
    exact pm_kc6 _ (by omega)
  by_cases h7 : m < 128
  · rw [show m = 112 + (m - 112) by omega]
    exact pm_kc7 _ (by omega)
  by_cases h8 : m < 144
  · rw [show m = 128 + (m - 128) by omega]
    exact pm_kc8 _ (by omega)
  by_cases h9 : m < 160
  · rw [show m = 144 + (m - 144) by omega]
    exact pm_kc9 _ (by omega)
  by_cases h10 : m < 176
  · rw [show m = 160 + (m - 160) by omega]
    exact pm_kc10 _ (by omega)
  by_cases h11 : m < 192
  · rw [show m = 176 + (m - 176) by omega]
    exact pm_kc11 _ (by omega)
  by_cases h12 : m < 208
  · rw [show m = 192 + (m - 192) by omega]
    exact pm_kc12 _ (by omega)
  by_cases h13 : m < 224
  · rw [show m = 208 + (m - 208) by omega]
    exact pm_kc13 _ (by omega)
  by_cases h14 : m < 240
  · rw [show m = 224 + (m - 224) by omega]
    exact pm_kc14 _ (by omega)
  by_cases h15 : m < 246
  · rw [show m = 240 + (m - 240) by omega]
    exact pm_kc15 _ (by omega)
  omega
theorem pm_goodG : pm_good_G pm_g pm_mi := pm_good_of pm_chk_all
