section
theorem at16 {n : Nat} {P : Nat → Bool} {k i m : Nat} (h : (List.range n).all (fun j => P (k + j)) = true) (hk : k ≤ i) (hi : i < k + n) (he : m = i) : P m = true := by
  subst he
  have := List.all_eq_true.mp h (m - k) (List.mem_range.mpr (by omega))
  rwa [show k + (m - k) = m by omega] at this
theorem chkM_at {a : Nat} (ha : a < 312) : chkM a = true := by
  by_cases h0 : a < 16
  · exact at16 (P := chkM) cm_0 (by omega : 0 ≤ a) (by omega) rfl
  by_cases h16 : a < 32
  · exact at16 (P := chkM) cm_1 (by omega : 16 ≤ a) (by omega) rfl
  by_cases h32 : a < 48
  · exact at16 (P := chkM) cm_2 (by omega : 32 ≤ a) (by omega) rfl
  by_cases h48 : a < 64
  · exact at16 (P := chkM) cm_3 (by omega : 48 ≤ a) (by omega) rfl
  by_cases h64 : a < 80
  · exact at16 (P := chkM) cm_4 (by omega : 64 ≤ a) (by omega) rfl
  by_cases h80 : a < 96
  · exact at16 (P := chkM) cm_5 (by omega : 80 ≤ a) (by omega) rfl
  by_cases h96 : a < 112
  · exact at16 (P := chkM) cm_6 (by omega : 96 ≤ a) (by omega) rfl
  by_cases h112 : a < 128
  · exact at16 (P := chkM) cm_7 (by omega : 112 ≤ a) (by omega) rfl
  by_cases h128 : a < 144
  · exact at16 (P := chkM) cm_8 (by omega : 128 ≤ a) (by omega) rfl
  by_cases h144 : a < 160
  · exact at16 (P := chkM) cm_9 (by omega : 144 ≤ a) (by omega) rfl
  by_cases h160 : a < 176
  · exact at16 (P := chkM) cm_10 (by omega : 160 ≤ a) (by omega) rfl
  by_cases h176 : a < 192
  · exact at16 (P := chkM) cm_11 (by omega : 176 ≤ a) (by omega) rfl
  by_cases h192 : a < 208
  · exact at16 (P := chkM) cm_12 (by omega : 192 ≤ a) (by omega) rfl
  by_cases h208 : a < 224
  · exact at16 (P := chkM) cm_13 (by omega : 208 ≤ a) (by omega) rfl
  by_cases h224 : a < 240
  · exact at16 (P := chkM) cm_14 (by omega : 224 ≤ a) (by omega) rfl
  by_cases h240 : a < 256
  · exact at16 (P := chkM) cm_15 (by omega : 240 ≤ a) (by omega) rfl
  by_cases h256 : a < 272
  · exact at16 (P := chkM) cm_16 (by omega : 256 ≤ a) (by omega) rfl
  by_cases h272 : a < 288
  · exact at16 (P := chkM) cm_17 (by omega : 272 ≤ a) (by omega) rfl
  by_cases h288 : a < 304
  · exact at16 (P := chkM) cm_18 (by omega : 288 ≤ a) (by omega) rfl
  by_cases h304 : a < 312
  · exact at16 (P := chkM) cm_19 (by omega : 304 ≤ a) (by omega) rfl
  omega
theorem chkC_at {a : Nat} (ha : a < 312) : chkC a = true := by
  by_cases h0 : a < 4
  · exact at16 (P := chkC) cc_0 (by omega : 0 ≤ a) (by omega) rfl
  by_cases h4 : a < 8
  · exact at16 (P := chkC) cc_1 (by omega : 4 ≤ a) (by omega) rfl
  by_cases h8 : a < 12
  · exact at16 (P := chkC) cc_2 (by omega : 8 ≤ a) (by omega) rfl
  by_cases h12 : a < 16
  · exact at16 (P := chkC) cc_3 (by omega : 12 ≤ a) (by omega) rfl
  by_cases h16 : a < 20
  · exact at16 (P := chkC) cc_4 (by omega : 16 ≤ a) (by omega) rfl
  by_cases h20 : a < 24
  · exact at16 (P := chkC) cc_5 (by omega : 20 ≤ a) (by omega) rfl
  by_cases h24 : a < 28
  · exact at16 (P := chkC) cc_6 (by omega : 24 ≤ a) (by omega) rfl
  by_cases h28 : a < 32
  · exact at16 (P := chkC) cc_7 (by omega : 28 ≤ a) (by omega) rfl
  by_cases h32 : a < 36
  · exact at16 (P := chkC) cc_8 (by omega : 32 ≤ a) (by omega) rfl
  by_cases h36 : a < 40
  · exact at16 (P := chkC) cc_9 (by omega : 36 ≤ a) (by omega) rfl
  by_cases h40 : a < 44
  · exact at16 (P := chkC) cc_10 (by omega : 40 ≤ a) (by omega) rfl
  by_cases h44 : a < 48
  · exact at16 (P := chkC) cc_11 (by omega : 44 ≤ a) (by omega) rfl
  by_cases h48 : a < 52
  · exact at16 (P := chkC) cc_12 (by omega : 48 ≤ a) (by omega) rfl
  by_cases h52 : a < 56
  · exact at16 (P := chkC) cc_13 (by omega : 52 ≤ a) (by omega) rfl
  by_cases h56 : a < 60
  · exact at16 (P := chkC) cc_14 (by omega : 56 ≤ a) (by omega) rfl
  by_cases h60 : a < 64
  · exact at16 (P := chkC) cc_15 (by omega : 60 ≤ a) (by omega) rfl
  by_cases h64 : a < 68
  · exact at16 (P := chkC) cc_16 (by omega : 64 ≤ a) (by omega) rfl
  by_cases h68 : a < 72
  · exact at16 (P := chkC) cc_17 (by omega : 68 ≤ a) (by omega) rfl
  by_cases h72 : a < 76
  · exact at16 (P := chkC) cc_18 (by omega : 72 ≤ a) (by omega) rfl
  by_cases h76 : a < 80
  · exact at16 (P := chkC) cc_19 (by omega : 76 ≤ a) (by omega) rfl
  by_cases h80 : a < 84
  · exact at16 (P := chkC) cc_20 (by omega : 80 ≤ a) (by omega) rfl
  by_cases h84 : a < 88
  · exact at16 (P := chkC) cc_21 (by omega : 84 ≤ a) (by omega) rfl
  by_cases h88 : a < 92
  · exact at16 (P := chkC) cc_22 (by omega : 88 ≤ a) (by omega) rfl
  by_cases h92 : a < 96
  · exact at16 (P := chkC) cc_23 (by omega : 92 ≤ a) (by omega) rfl
  by_cases h96 : a < 100
  · exact at16 (P := chkC) cc_24 (by omega : 96 ≤ a) (by omega) rfl
  by_cases h100 : a < 104
  · exact at16 (P := chkC) cc_25 (by omega : 100 ≤ a) (by omega) rfl
  by_cases h104 : a < 108
  · exact at16 (P := chkC) cc_26 (by omega : 104 ≤ a) (by omega) rfl
  by_cases h108 : a < 112
  · exact at16 (P := chkC) cc_27 (by omega : 108 ≤ a) (by omega) rfl
  by_cases h112 : a < 116
  · exact at16 (P := chkC) cc_28 (by omega : 112 ≤ a) (by omega) rfl
  by_cases h116 : a < 120
  · exact at16 (P := chkC) cc_29 (by omega : 116 ≤ a) (by omega) rfl
  by_cases h120 : a < 124
  · exact at16 (P := chkC) cc_30 (by omega : 120 ≤ a) (by omega) rfl
  by_cases h124 : a < 128
  · exact at16 (P := chkC) cc_31 (by omega : 124 ≤ a) (by omega) rfl
  by_cases h128 : a < 132
  · exact at16 (P := chkC) cc_32 (by omega : 128 ≤ a) (by omega) rfl
  by_cases h132 : a < 136
  · exact at16 (P := chkC) cc_33 (by omega : 132 ≤ a) (by omega) rfl
  by_cases h136 : a < 140
  · exact at16 (P := chkC) cc_34 (by omega : 136 ≤ a) (by omega) rfl
  by_cases h140 : a < 144
  · exact at16 (P := chkC) cc_35 (by omega : 140 ≤ a) (by omega) rfl
  by_cases h144 : a < 148
  · exact at16 (P := chkC) cc_36 (by omega : 144 ≤ a) (by omega) rfl
  by_cases h148 : a < 152
  · exact at16 (P := chkC) cc_37 (by omega : 148 ≤ a) (by omega) rfl
  by_cases h152 : a < 156
  · exact at16 (P := chkC) cc_38 (by omega : 152 ≤ a) (by omega) rfl
  by_cases h156 : a < 160
  · exact at16 (P := chkC) cc_39 (by omega : 156 ≤ a) (by omega) rfl
  by_cases h160 : a < 164
  · exact at16 (P := chkC) cc_40 (by omega : 160 ≤ a) (by omega) rfl
  by_cases h164 : a < 168
  · exact at16 (P := chkC) cc_41 (by omega : 164 ≤ a) (by omega) rfl
  by_cases h168 : a < 172
  · exact at16 (P := chkC) cc_42 (by omega : 168 ≤ a) (by omega) rfl
  by_cases h172 : a < 176
  · exact at16 (P := chkC) cc_43 (by omega : 172 ≤ a) (by omega) rfl
  by_cases h176 : a < 180
  · exact at16 (P := chkC) cc_44 (by omega : 176 ≤ a) (by omega) rfl
  by_cases h180 : a < 184
  · exact at16 (P := chkC) cc_45 (by omega : 180 ≤ a) (by omega) rfl
  by_cases h184 : a < 188
  · exact at16 (P := chkC) cc_46 (by omega : 184 ≤ a) (by omega) rfl
  by_cases h188 : a < 192
  · exact at16 (P := chkC) cc_47 (by omega : 188 ≤ a) (by omega) rfl
  by_cases h192 : a < 196
  · exact at16 (P := chkC) cc_48 (by omega : 192 ≤ a) (by omega) rfl
  by_cases h196 : a < 200
  · exact at16 (P := chkC) cc_49 (by omega : 196 ≤ a) (by omega) rfl
  by_cases h200 : a < 204
  · exact at16 (P := chkC) cc_50 (by omega : 200 ≤ a) (by omega) rfl
  by_cases h204 : a < 208
  · exact at16 (P := chkC) cc_51 (by omega : 204 ≤ a) (by omega) rfl
  by_cases h208 : a < 212
  · exact at16 (P := chkC) cc_52 (by omega : 208 ≤ a) (by omega) rfl
  by_cases h212 : a < 216
  · exact at16 (P := chkC) cc_53 (by omega : 212 ≤ a) (by omega) rfl
  by_cases h216 : a < 220
  · exact at16 (P := chkC) cc_54 (by omega : 216 ≤ a) (by omega) rfl
  by_cases h220 : a < 224
  · exact at16 (P := chkC) cc_55 (by omega : 220 ≤ a) (by omega) rfl
  by_cases h224 : a < 228
  · exact at16 (P := chkC) cc_56 (by omega : 224 ≤ a) (by omega) rfl
  by_cases h228 : a < 232
  · exact at16 (P := chkC) cc_57 (by omega : 228 ≤ a) (by omega) rfl
  by_cases h232 : a < 236
  · exact at16 (P := chkC) cc_58 (by omega : 232 ≤ a) (by omega) rfl
  by_cases h236 : a < 240
  · exact at16 (P := chkC) cc_59 (by omega : 236 ≤ a) (by omega) rfl
  by_cases h240 : a < 244
  · exact at16 (P := chkC) cc_60 (by omega : 240 ≤ a) (by omega) rfl
  by_cases h244 : a < 248
  · exact at16 (P := chkC) cc_61 (by omega : 244 ≤ a) (by omega) rfl
  by_cases h248 : a < 252
  · exact at16 (P := chkC) cc_62 (by omega : 248 ≤ a) (by omega) rfl
  by_cases h252 : a < 256
  · exact at16 (P := chkC) cc_63 (by omega : 252 ≤ a) (by omega) rfl
  by_cases h256 : a < 260
  · exact at16 (P := chkC) cc_64 (by omega : 256 ≤ a) (by omega) rfl
  by_cases h260 : a < 264
  · exact at16 (P := chkC) cc_65 (by omega : 260 ≤ a) (by omega) rfl
  by_cases h264 : a < 268
  · exact at16 (P := chkC) cc_66 (by omega : 264 ≤ a) (by omega) rfl
  by_cases h268 : a < 272
  · exact at16 (P := chkC) cc_67 (by omega : 268 ≤ a) (by omega) rfl
  by_cases h272 : a < 276
  · exact at16 (P := chkC) cc_68 (by omega : 272 ≤ a) (by omega) rfl
  by_cases h276 : a < 280
  · exact at16 (P := chkC) cc_69 (by omega : 276 ≤ a) (by omega) rfl
  by_cases h280 : a < 284
  · exact at16 (P := chkC) cc_70 (by omega : 280 ≤ a) (by omega) rfl
  by_cases h284 : a < 288
  · exact at16 (P := chkC) cc_71 (by omega : 284 ≤ a) (by omega) rfl
  by_cases h288 : a < 292
  · exact at16 (P := chkC) cc_72 (by omega : 288 ≤ a) (by omega) rfl
  by_cases h292 : a < 296
  · exact at16 (P := chkC) cc_73 (by omega : 292 ≤ a) (by omega) rfl
  by_cases h296 : a < 300
  · exact at16 (P := chkC) cc_74 (by omega : 296 ≤ a) (by omega) rfl
  by_cases h300 : a < 304
  · exact at16 (P := chkC) cc_75 (by omega : 300 ≤ a) (by omega) rfl
  by_cases h304 : a < 308
  · exact at16 (P := chkC) cc_76 (by omega : 304 ≤ a) (by omega) rfl
  by_cases h308 : a < 312
  · exact at16 (P := chkC) cc_77 (by omega : 308 ≤ a) (by omega) rfl
  omega
theorem cb_at {a : Nat} (ha : a < 312) : wdw ((mhw a).getD 0 (99, 99)) = some (.code (ymw a) (bmw a) (mlw a) (rtw a)) := by
  match a, ha with
  | 0, _ => exact cb_0
  | 1, _ => exact cb_1
  | 2, _ => exact cb_2
  | 3, _ => exact cb_3
  | 4, _ => exact cb_4
  | 5, _ => exact cb_5
  | 6, _ => exact cb_6
  | 7, _ => exact cb_7
  | 8, _ => exact cb_8
  | 9, _ => exact cb_9
  | 10, _ => exact cb_10
  | 11, _ => exact cb_11
  | 12, _ => exact cb_12
  | 13, _ => exact cb_13
  | 14, _ => exact cb_14
  | 15, _ => exact cb_15
  | 16, _ => exact cb_16
  | 17, _ => exact cb_17
  | 18, _ => exact cb_18
  | 19, _ => exact cb_19
  | 20, _ => exact cb_20
  | 21, _ => exact cb_21
  | 22, _ => exact cb_22
  | 23, _ => exact cb_23
  | 24, _ => exact cb_24
  | 25, _ => exact cb_25
  | 26, _ => exact cb_26
  | 27, _ => exact cb_27
  | 28, _ => exact cb_28
  | 29, _ => exact cb_29
  | 30, _ => exact cb_30
  | 31, _ => exact cb_31
  | 32, _ => exact cb_32
  | 33, _ => exact cb_33
  | 34, _ => exact cb_34
  | 35, _ => exact cb_35
  | 36, _ => exact cb_36
  | 37, _ => exact cb_37
  | 38, _ => exact cb_38
  | 39, _ => exact cb_39
  | 40, _ => exact cb_40
  | 41, _ => exact cb_41
  | 42, _ => exact cb_42
  | 43, _ => exact cb_43
  | 44, _ => exact cb_44
  | 45, _ => exact cb_45
  | 46, _ => exact cb_46
  | 47, _ => exact cb_47
  | 48, _ => exact cb_48
  | 49, _ => exact cb_49
  | 50, _ => exact cb_50
  | 51, _ => exact cb_51
  | 52, _ => exact cb_52
  | 53, _ => exact cb_53
  | 54, _ => exact cb_54
  | 55, _ => exact cb_55
  | 56, _ => exact cb_56
  | 57, _ => exact cb_57
  | 58, _ => exact cb_58
  | 59, _ => exact cb_59
  | 60, _ => exact cb_60
  | 61, _ => exact cb_61
  | 62, _ => exact cb_62
  | 63, _ => exact cb_63
  | 64, _ => exact cb_64
  | 65, _ => exact cb_65
  | 66, _ => exact cb_66
  | 67, _ => exact cb_67
  | 68, _ => exact cb_68
  | 69, _ => exact cb_69
  | 70, _ => exact cb_70
  | 71, _ => exact cb_71
  | 72, _ => exact cb_72
  | 73, _ => exact cb_73
  | 74, _ => exact cb_74
  | 75, _ => exact cb_75
  | 76, _ => exact cb_76
  | 77, _ => exact cb_77
  | 78, _ => exact cb_78
  | 79, _ => exact cb_79
  | 80, _ => exact cb_80
  | 81, _ => exact cb_81
  | 82, _ => exact cb_82
  | 83, _ => exact cb_83
  | 84, _ => exact cb_84
  | 85, _ => exact cb_85
  | 86, _ => exact cb_86
  | 87, _ => exact cb_87
  | 88, _ => exact cb_88
  | 89, _ => exact cb_89
  | 90, _ => exact cb_90
  | 91, _ => exact cb_91
  | 92, _ => exact cb_92
  | 93, _ => exact cb_93
  | 94, _ => exact cb_94
  | 95, _ => exact cb_95
  | 96, _ => exact cb_96
  | 97, _ => exact cb_97
  | 98, _ => exact cb_98
  | 99, _ => exact cb_99
  | 100, _ => exact cb_100
  | 101, _ => exact cb_101
  | 102, _ => exact cb_102
  | 103, _ => exact cb_103
  | 104, _ => exact cb_104
  | 105, _ => exact cb_105
  | 106, _ => exact cb_106
  | 107, _ => exact cb_107
  | 108, _ => exact cb_108
  | 109, _ => exact cb_109
  | 110, _ => exact cb_110
  | 111, _ => exact cb_111
  | 112, _ => exact cb_112
  | 113, _ => exact cb_113
  | 114, _ => exact cb_114
  | 115, _ => exact cb_115
  | 116, _ => exact cb_116
  | 117, _ => exact cb_117
  | 118, _ => exact cb_118
  | 119, _ => exact cb_119
  | 120, _ => exact cb_120
  | 121, _ => exact cb_121
  | 122, _ => exact cb_122
  | 123, _ => exact cb_123
  | 124, _ => exact cb_124
  | 125, _ => exact cb_125
  | 126, _ => exact cb_126
  | 127, _ => exact cb_127
  | 128, _ => exact cb_128
  | 129, _ => exact cb_129
  | 130, _ => exact cb_130
  | 131, _ => exact cb_131
  | 132, _ => exact cb_132
  | 133, _ => exact cb_133
  | 134, _ => exact cb_134
  | 135, _ => exact cb_135
  | 136, _ => exact cb_136
  | 137, _ => exact cb_137
  | 138, _ => exact cb_138
  | 139, _ => exact cb_139
  | 140, _ => exact cb_140
  | 141, _ => exact cb_141
  | 142, _ => exact cb_142
  | 143, _ => exact cb_143
  | 144, _ => exact cb_144
  | 145, _ => exact cb_145
  | 146, _ => exact cb_146
  | 147, _ => exact cb_147
  | 148, _ => exact cb_148
  | 149, _ => exact cb_149
  | 150, _ => exact cb_150
  | 151, _ => exact cb_151
  | 152, _ => exact cb_152
  | 153, _ => exact cb_153
  | 154, _ => exact cb_154
  | 155, _ => exact cb_155
  | 156, _ => exact cb_156
  | 157, _ => exact cb_157
  | 158, _ => exact cb_158
  | 159, _ => exact cb_159
  | 160, _ => exact cb_160
  | 161, _ => exact cb_161
  | 162, _ => exact cb_162
  | 163, _ => exact cb_163
  | 164, _ => exact cb_164
  | 165, _ => exact cb_165
  | 166, _ => exact cb_166
  | 167, _ => exact cb_167
  | 168, _ => exact cb_168
  | 169, _ => exact cb_169
  | 170, _ => exact cb_170
  | 171, _ => exact cb_171
  | 172, _ => exact cb_172
  | 173, _ => exact cb_173
  | 174, _ => exact cb_174
  | 175, _ => exact cb_175
  | 176, _ => exact cb_176
  | 177, _ => exact cb_177
  | 178, _ => exact cb_178
  | 179, _ => exact cb_179
  | 180, _ => exact cb_180
  | 181, _ => exact cb_181
  | 182, _ => exact cb_182
  | 183, _ => exact cb_183
  | 184, _ => exact cb_184
  | 185, _ => exact cb_185
  | 186, _ => exact cb_186
  | 187, _ => exact cb_187
  | 188, _ => exact cb_188
  | 189, _ => exact cb_189
  | 190, _ => exact cb_190
  | 191, _ => exact cb_191
  | 192, _ => exact cb_192
  | 193, _ => exact cb_193
  | 194, _ => exact cb_194
  | 195, _ => exact cb_195
  | 196, _ => exact cb_196
  | 197, _ => exact cb_197
  | 198, _ => exact cb_198
  | 199, _ => exact cb_199
  | 200, _ => exact cb_200
  | 201, _ => exact cb_201
  | 202, _ => exact cb_202
  | 203, _ => exact cb_203
  | 204, _ => exact cb_204
  | 205, _ => exact cb_205
  | 206, _ => exact cb_206
  | 207, _ => exact cb_207
  | 208, _ => exact cb_208
  | 209, _ => exact cb_209
  | 210, _ => exact cb_210
  | 211, _ => exact cb_211
  | 212, _ => exact cb_212
  | 213, _ => exact cb_213
  | 214, _ => exact cb_214
  | 215, _ => exact cb_215
  | 216, _ => exact cb_216
  | 217, _ => exact cb_217
  | 218, _ => exact cb_218
  | 219, _ => exact cb_219
  | 220, _ => exact cb_220
  | 221, _ => exact cb_221
  | 222, _ => exact cb_222
  | 223, _ => exact cb_223
  | 224, _ => exact cb_224
  | 225, _ => exact cb_225
  | 226, _ => exact cb_226
  | 227, _ => exact cb_227
  | 228, _ => exact cb_228
  | 229, _ => exact cb_229
  | 230, _ => exact cb_230
  | 231, _ => exact cb_231
  | 232, _ => exact cb_232
  | 233, _ => exact cb_233
  | 234, _ => exact cb_234
  | 235, _ => exact cb_235
  | 236, _ => exact cb_236
  | 237, _ => exact cb_237
  | 238, _ => exact cb_238
  | 239, _ => exact cb_239
  | 240, _ => exact cb_240
  | 241, _ => exact cb_241
  | 242, _ => exact cb_242
  | 243, _ => exact cb_243
  | 244, _ => exact cb_244
  | 245, _ => exact cb_245
  | 246, _ => exact cb_246
  | 247, _ => exact cb_247
  | 248, _ => exact cb_248
  | 249, _ => exact cb_249
  | 250, _ => exact cb_250
  | 251, _ => exact cb_251
  | 252, _ => exact cb_252
  | 253, _ => exact cb_253
  | 254, _ => exact cb_254
  | 255, _ => exact cb_255
  | 256, _ => exact cb_256
  | 257, _ => exact cb_257
  | 258, _ => exact cb_258
  | 259, _ => exact cb_259
  | 260, _ => exact cb_260
  | 261, _ => exact cb_261
  | 262, _ => exact cb_262
  | 263, _ => exact cb_263
  | 264, _ => exact cb_264
  | 265, _ => exact cb_265
  | 266, _ => exact cb_266
  | 267, _ => exact cb_267
  | 268, _ => exact cb_268
  | 269, _ => exact cb_269
  | 270, _ => exact cb_270
  | 271, _ => exact cb_271
  | 272, _ => exact cb_272
  | 273, _ => exact cb_273
  | 274, _ => exact cb_274
  | 275, _ => exact cb_275
  | 276, _ => exact cb_276
  | 277, _ => exact cb_277
  | 278, _ => exact cb_278
  | 279, _ => exact cb_279
  | 280, _ => exact cb_280
  | 281, _ => exact cb_281
  | 282, _ => exact cb_282
  | 283, _ => exact cb_283
  | 284, _ => exact cb_284
  | 285, _ => exact cb_285
  | 286, _ => exact cb_286
  | 287, _ => exact cb_287
  | 288, _ => exact cb_288
  | 289, _ => exact cb_289
  | 290, _ => exact cb_290
  | 291, _ => exact cb_291
  | 292, _ => exact cb_292
  | 293, _ => exact cb_293
  | 294, _ => exact cb_294
  | 295, _ => exact cb_295
  | 296, _ => exact cb_296
  | 297, _ => exact cb_297
  | 298, _ => exact cb_298
  | 299, _ => exact cb_299
  | 300, _ => exact cb_300
  | 301, _ => exact cb_301
  | 302, _ => exact cb_302
  | 303, _ => exact cb_303
  | 304, _ => exact cb_304
  | 305, _ => exact cb_305
  | 306, _ => exact cb_306
  | 307, _ => exact cb_307
  | 308, _ => exact cb_308
  | 309, _ => exact cb_309
  | 310, _ => exact cb_310
  | 311, _ => exact cb_311
  | k + 312, h => omega
theorem chkC_law : chkC 312 = true := by
  have e : codeOf 312 = ((codeOf 312).drop 0).take 2 ++ (((codeOf 312).drop 2).take 2 ++ (((codeOf 312).drop 4).take 2 ++ (((codeOf 312).drop 6).take 2 ++ (((codeOf 312).drop 8).take 2 ++ (((codeOf 312).drop 10).take 2 ++ (((codeOf 312).drop 12).take 2 ++ (((codeOf 312).drop 14).take 2 ++ (((codeOf 312).drop 16).take 2 ++ (((codeOf 312).drop 18).take 2 ++ (((codeOf 312).drop 20).take 2 ++ (((codeOf 312).drop 22).take 2 ++ (((codeOf 312).drop 24).take 2 ++ (((codeOf 312).drop 26).take 2 ++ (((codeOf 312).drop 28).take 2 ++ (((codeOf 312).drop 30).take 2 ++ (((codeOf 312).drop 32).take 2 ++ (((codeOf 312).drop 34).take 2 ++ (((codeOf 312).drop 36).take 2 ++ (((codeOf 312).drop 38).take 2 ++ (((codeOf 312).drop 40).take 2 ++ (((codeOf 312).drop 42).take 2 ++ (((codeOf 312).drop 44).take 2 ++ (((codeOf 312).drop 46).take 2 ++ (((codeOf 312).drop 48).take 2 ++ (((codeOf 312).drop 50).take 2 ++ (((codeOf 312).drop 52).take 2 ++ (((codeOf 312).drop 54).take 2 ++ (((codeOf 312).drop 56).take 2 ++ (((codeOf 312).drop 58).take 2 ++ (((codeOf 312).drop 60).take 2 ++ (((codeOf 312).drop 62).take 2 ++ (((codeOf 312).drop 64).take 2 ++ (((codeOf 312).drop 66).take 2 ++ (((codeOf 312).drop 68).take 2 ++ (((codeOf 312).drop 70).take 2 ++ (((codeOf 312).drop 72).take 2 ++ (((codeOf 312).drop 74).take 2 ++ (((codeOf 312).drop 76).take 2)))))))))))))))))))))))))))))))))))))) := rfl
  unfold chkC
  rw [e]
  simp only [List.all_append, Bool.and_eq_true]
  exact ⟨cl_0, cl_1, cl_2, cl_3, cl_4, cl_5, cl_6, cl_7, cl_8, cl_9, cl_10, cl_11, cl_12, cl_13, cl_14, cl_15, cl_16, cl_17, cl_18, cl_19, cl_20, cl_21, cl_22, cl_23, cl_24, cl_25, cl_26, cl_27, cl_28, cl_29, cl_30, cl_31, cl_32, cl_33, cl_34, cl_35, cl_36, cl_37, cl_38⟩
def isL : List (Nat × Nat) := [(1, 37), (1, 164), (2, 156), (2, 10), (2, 230), (1, 104), (2, 202), (2, 99), (1, 214), (2, 169), (1, 31), (1, 23), (6, 75)]
def inL : List (Nat × Nat) := [(1, 3), (1, 5), (1, 9), (1, 7), (1, 12), (1, 4), (1, 11), (1, 8), (1, 6), (1, 10), (1, 2), (1, 1), (1, 13)]
theorem lw_okC {mid : Nat} (h : chkC mid = true) {pc : Nat} {x : EEw} (hf : fetch mid pc = some x) : chkE mid x = true ∧ x.1 = pc := by
  unfold fetch at hf
  unfold chkC codeOf at h
  cases h1 : codeT[mid / 16]? with
  | none => rw [h1] at hf; cases hf
  | some l =>
    rw [h1] at hf h
    dsimp only at hf h
    cases h2 : l[mid % 16]? with
    | none => rw [h2] at hf; cases hf
    | some t =>
      rw [h2] at hf h
      dsimp only at hf h
      unfold lk at hf
      cases h3 : t[pc / 16]? with
      | none => rw [h3] at hf; cases hf
      | some y =>
        rw [h3] at hf
        dsimp only at hf
        have hm := List.mem_of_find?_eq_some hf
        have hp := List.find?_some hf
        refine ⟨List.all_eq_true.mp (List.all_eq_true.mp h y (List.mem_of_getElem? h3)) x hm, ?_⟩
        simpa using hp
theorem nfw_lt {a b : Nat} (h : b < nfw a) : a < 13 := by
  unfold nfw at h
  cases hv : vwCl[a]? with
  | none => rw [hv] at h; cases h
  | some r => exact (List.getElem?_eq_some_iff.mp hv).1
theorem vwCl_get {a : Nat} (h : a < 13) : ∃ r, vwCl[a]? = some r ∧ nfw a = r.2.2 ∧ (∀ b, fTw a b = r.2.1 b) ∧ clsw a = r.1 := by
  have hl : a < vwCl.length := h
  refine ⟨vwCl[a], List.getElem?_eq_getElem hl, ?_, fun b => ?_, ?_⟩
  · unfold nfw; rw [List.getElem?_eq_getElem hl]
  · unfold fTw; rw [List.getElem?_eq_getElem hl]
  · unfold clsw; rw [if_neg (by omega), List.getElem?_eq_getElem hl]
theorem cl_cases {P : vw_C → Prop} (h0 : P (RX0, TX0, 11)) (h1 : P (RX1, TX1, 9)) (h2 : P (RX2, TX2, 2)) (h3 : P (RX3, TX3, 7)) (h4 : P (RX4, TX4, 4)) (h5 : P (RX5, TX5, 10)) (h6 : P (RX6, TX6, 7)) (h7 : P (RX7, TX7, 13)) (h8 : P (RX8, TX8, 6)) (h9 : P (RX9, TX9, 7)) (h10 : P (RX10, TX10, 7)) (h11 : P (RX11, TX11, 12)) (h12 : P (RX12, TX12, 39)) {a : Nat} {r : vw_C} (hr : vwCl[a]? = some r) : P r := by
  have := List.mem_of_getElem? hr
  simp only [vwCl, List.mem_cons, List.not_mem_nil, or_false] at this
  rcases this with rfl | rfl | rfl | rfl | rfl | rfl | rfl | rfl | rfl | rfl | rfl | rfl | rfl <;> assumption
theorem uws_all (C : String) (T : u_T) (N : Nat) (h : (u_ws C T N).all (fun w => decide (w ∈ lw_tbl) && goodWord w) = true) : ∀ w ∈ u_ws C T N, w ∈ gw_tbl := fun w hw => by
  have := List.all_eq_true.mp h w hw
  rw [Bool.and_eq_true, decide_eq_true_eq] at this
  exact gw_mem this.1 this.2
theorem uws_ok {a : Nat} {r : vw_C} (hr : vwCl[a]? = some r) : ∀ w ∈ u_ws r.1 r.2.1 r.2.2, w ∈ gw_tbl :=
  cl_cases (P := fun r => ∀ w ∈ u_ws r.1 r.2.1 r.2.2, w ∈ gw_tbl) (uws_all _ _ _ (by decide +kernel)) (uws_all _ _ _ (by decide +kernel)) (uws_all _ _ _ (by decide +kernel)) (uws_all _ _ _ (by decide +kernel)) (uws_all _ _ _ (by decide +kernel)) (uws_all _ _ _ (by decide +kernel)) (uws_all _ _ _ (by decide +kernel)) (uws_all _ _ _ (by decide +kernel)) (uws_all _ _ _ (by decide +kernel)) (uws_all _ _ _ (by decide +kernel)) (uws_all _ _ _ (by decide +kernel)) (uws_all _ _ _ (by decide +kernel)) (uws_all _ _ _ (by decide +kernel)) hr
theorem nms_ok {a : Nat} {r : vw_C} (hr : vwCl[a]? = some r) : ∀ a, a < r.2.2 → ∀ b, b < r.2.2 → a ≠ b → (r.2.1 a).2.1 ≠ (r.2.1 b).2.1 :=
  cl_cases (P := fun r => ∀ a, a < r.2.2 → ∀ b, b < r.2.2 → a ≠ b → (r.2.1 a).2.1 ≠ (r.2.1 b).2.1) nmX0 nmX1 nmX2 nmX3 nmX4 nmX5 nmX6 nmX7 nmX8 nmX9 nmX10 nmX11 nmX12 hr
theorem tys_ok {a : Nat} {r : vw_C} (hr : vwCl[a]? = some r) : ∃ ty : Nat → FieldType, ∀ k, k < r.2.2 → parseFieldDescriptor (r.2.1 k).2.2.1 = some (ty k) :=
  cl_cases (P := fun r => ∃ ty : Nat → FieldType, ∀ k, k < r.2.2 → parseFieldDescriptor (r.2.1 k).2.2.1 = some (ty k)) ⟨tyX0, tyX0_ok⟩ ⟨tyX1, tyX1_ok⟩ ⟨tyX2, tyX2_ok⟩ ⟨tyX3, tyX3_ok⟩ ⟨tyX4, tyX4_ok⟩ ⟨tyX5, tyX5_ok⟩ ⟨tyX6, tyX6_ok⟩ ⟨tyX7, tyX7_ok⟩ ⟨tyX8, tyX8_ok⟩ ⟨tyX9, tyX9_ok⟩ ⟨tyX10, tyX10_ok⟩ ⟨tyX11, tyX11_ok⟩ ⟨tyX12, tyX12_ok⟩ hr
def rfOk (t : Option FieldType) : Bool := match t with
  | some (.object _) => true
  | some (.array _) => true
  | _ => false
theorem rf_ok : ∀ a, a < 13 → ∀ b, b < nfw a → (if isRf a b then rfOk (parseFieldDescriptor (fTw a b).2.2.1) else (fTw a b).2.2.1 == "I" || (fTw a b).2.2.1 == "Z") = true := by decide +kernel
theorem ins_ok : ∀ a, a < 13 → wdw (isL.getD a (99, 99)) = some (.instantiable (clsw a) (nfw a)) ∧ wdw (inL.getD a (99, 99)) = some (.initialized (clsw a)) := by decide +kernel
theorem len_ok : ∀ i, i < 28 → lenJ.getD i 0 = (bytJ.getD i []).length := by decide +kernel
theorem arr_ok : Cond.arrayClass .int ∈ gw_tbl ∧ Cond.arrayClass .boolean ∈ gw_tbl := ⟨gw_mem (by decide +kernel) rfl, gw_mem (by decide +kernel) rfl⟩
theorem acp_ok : Cond.native arraycopyName ∈ gw_tbl ∧ Cond.static arraycopyName ∈ gw_tbl ∧ Cond.initialized "java/lang/System" ∈ gw_tbl := ⟨gw_mem (by decide +kernel) rfl, gw_mem (by decide +kernel) rfl, gw_mem (by decide +kernel) rfl⟩
theorem obj_ok : Cond.instanceMethod objectInit ∈ gw_tbl ∧ Cond.code objectInit ⟨#[0xb1]⟩ 1 none ∈ gw_tbl := ⟨gw_mem (by decide +kernel) rfl, gw_mem (by decide +kernel) rfl⟩
theorem mdw_ok {a : Nat} (ha : a < 312) : Cond.code (ymw a) (bmw a) (mlw a) (rtw a) ∈ gw_tbl ∧ Cond.initialized (ymw a).cls ∈ gw_tbl ∧ onw a = (ymw a).cls ∧ plainFor (ymw a) = true ∧ (ymw a).cls ≠ "java/lang/invoke/MethodHandle" ∧ (ymw a).cls ≠ "java/lang/invoke/VarHandle" ∧ (if scw a then Cond.static (ymw a) ∈ gw_tbl else Cond.instanceMethod (ymw a) ∈ gw_tbl ∧ ((ymw a).name = "<init>" ∨ Cond.selects (ymw a).cls (ymw a) (ymw a) ∈ gw_tbl)) := by
  have h := chkM_at ha
  have h0 := cb_at ha
  unfold chkM at h
  simp only [Bool.and_eq_true, decide_eq_true_eq] at h
  obtain ⟨⟨⟨⟨⟨h1, h2⟩, h3⟩, h4⟩, h5⟩, h6⟩ := h
  refine ⟨gw_mem (wdw_mem h0) rfl, gw_mem (wdw_mem h1) rfl, h2, h3, h4, h5, ?_⟩
  split at h6
  · rename_i hs
    rw [if_pos hs]
    exact gw_mem (wdw_mem (of_decide_eq_true h6)) rfl
  · rename_i hs
    rw [if_neg hs]
    rw [Bool.and_eq_true, decide_eq_true_eq, Bool.or_eq_true, decide_eq_true_eq, beq_iff_eq] at h6
    exact ⟨gw_mem (wdw_mem h6.1) rfl, h6.2.elim Or.inl (fun z => Or.inr (gw_mem (wdw_mem z) rfl))⟩
end
