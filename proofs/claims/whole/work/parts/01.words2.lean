theorem inB0 : ∀ w ∈ u_ws RX0 TX0 2, w ∈ BIG := by
  intro w h
  obtain ⟨k, hk, e⟩ := List.mem_map.mp h
  have hk := List.mem_range.mp hk
  subst e
  rcases (show k = 0 ∨ k = 1 by omega) with rfl | rfl
  · exact bw2_94
  · exact bw2_96
theorem inB1 : ∀ w ∈ u_ws RX1 TX1 4, w ∈ BIG := by
  intro w h
  obtain ⟨k, hk, e⟩ := List.mem_map.mp h
  have hk := List.mem_range.mp hk
  subst e
  rcases (show k = 0 ∨ k = 1 ∨ k = 2 ∨ k = 3 by omega) with rfl | rfl | rfl | rfl
  · exact bw2_107
  · exact bw2_109
  · exact bw2_111
  · exact bw2_113
theorem inB2 : ∀ w ∈ u_ws RX2 TX2 3, w ∈ BIG := by
  intro w h
  obtain ⟨k, hk, e⟩ := List.mem_map.mp h
  have hk := List.mem_range.mp hk
  subst e
  rcases (show k = 0 ∨ k = 1 ∨ k = 2 by omega) with rfl | rfl | rfl
  · exact bw1_31
  · exact bw1_33
  · exact bw1_35
theorem inB3 : ∀ w ∈ u_ws RX3 TX3 13, w ∈ BIG := by
  intro w h
  obtain ⟨k, hk, e⟩ := List.mem_map.mp h
  have hk := List.mem_range.mp hk
  subst e
  rcases (show k = 0 ∨ k = 1 ∨ k = 2 ∨ k = 3 ∨ k = 4 ∨ k = 5 ∨ k = 6 ∨ k = 7 ∨ k = 8 ∨ k = 9 ∨ k = 10 ∨ k = 11 ∨ k = 12 by omega) with rfl | rfl | rfl | rfl | rfl | rfl | rfl | rfl | rfl | rfl | rfl | rfl | rfl
  · exact bw1_237
  · exact bw1_239
  · exact bw2_1
  · exact bw2_3
  · exact bw2_5
  · exact bw2_7
  · exact bw2_9
  · exact bw2_11
  · exact bw2_13
  · exact bw2_15
  · exact bw2_17
  · exact bw2_19
  · exact bw2_21
theorem inB4 : ∀ w ∈ u_ws RX4 TX4 15, w ∈ BIG := by
  intro w h
  obtain ⟨k, hk, e⟩ := List.mem_map.mp h
  have hk := List.mem_range.mp hk
  subst e
  rcases (show k = 0 ∨ k = 1 ∨ k = 2 ∨ k = 3 ∨ k = 4 ∨ k = 5 ∨ k = 6 ∨ k = 7 ∨ k = 8 ∨ k = 9 ∨ k = 10 ∨ k = 11 ∨ k = 12 ∨ k = 13 ∨ k = 14 by omega) with rfl | rfl | rfl | rfl | rfl | rfl | rfl | rfl | rfl | rfl | rfl | rfl | rfl | rfl | rfl
  · exact bw1_81
  · exact bw1_83
  · exact bw1_85
  · exact bw1_87
  · exact bw1_89
  · exact bw1_91
  · exact bw1_93
  · exact bw1_95
  · exact bw1_97
  · exact bw1_99
  · exact bw1_101
  · exact bw1_103
  · exact bw1_105
  · exact bw1_107
  · exact bw1_109
theorem inB5 : ∀ w ∈ u_ws RX5 TX5 6, w ∈ BIG := by
  intro w h
  obtain ⟨k, hk, e⟩ := List.mem_map.mp h
  have hk := List.mem_range.mp hk
  subst e
  rcases (show k = 0 ∨ k = 1 ∨ k = 2 ∨ k = 3 ∨ k = 4 ∨ k = 5 by omega) with rfl | rfl | rfl | rfl | rfl | rfl
  · exact bw1_132
  · exact bw1_134
  · exact bw1_136
  · exact bw1_138
  · exact bw1_140
  · exact bw1_142
theorem inB6 : ∀ w ∈ u_ws RX6 TX6 13, w ∈ BIG := by
  intro w h
  obtain ⟨k, hk, e⟩ := List.mem_map.mp h
  have hk := List.mem_range.mp hk
  subst e
  rcases (show k = 0 ∨ k = 1 ∨ k = 2 ∨ k = 3 ∨ k = 4 ∨ k = 5 ∨ k = 6 ∨ k = 7 ∨ k = 8 ∨ k = 9 ∨ k = 10 ∨ k = 11 ∨ k = 12 by omega) with rfl | rfl | rfl | rfl | rfl | rfl | rfl | rfl | rfl | rfl | rfl | rfl | rfl
  · exact bw2_50
  · exact bw2_52
  · exact bw2_54
  · exact bw2_56
  · exact bw2_58
  · exact bw2_60
  · exact bw2_62
  · exact bw2_64
  · exact bw2_66
  · exact bw2_68
  · exact bw2_70
  · exact bw2_72
  · exact bw2_74
theorem inB7 : ∀ w ∈ u_ws RX7 TX7 15, w ∈ BIG := by
  intro w h
  obtain ⟨k, hk, e⟩ := List.mem_map.mp h
  have hk := List.mem_range.mp hk
  subst e
  rcases (show k = 0 ∨ k = 1 ∨ k = 2 ∨ k = 3 ∨ k = 4 ∨ k = 5 ∨ k = 6 ∨ k = 7 ∨ k = 8 ∨ k = 9 ∨ k = 10 ∨ k = 11 ∨ k = 12 ∨ k = 13 ∨ k = 14 by omega) with rfl | rfl | rfl | rfl | rfl | rfl | rfl | rfl | rfl | rfl | rfl | rfl | rfl | rfl | rfl
  · exact bw1_171
  · exact bw1_173
  · exact bw1_175
  · exact bw1_177
  · exact bw1_179
  · exact bw1_181
  · exact bw1_183
  · exact bw1_185
  · exact bw1_187
  · exact bw1_189
  · exact bw1_191
  · exact bw1_193
  · exact bw1_195
  · exact bw1_197
  · exact bw1_199
theorem inB8 : ∀ w ∈ u_ws RX8 TX8 16, w ∈ BIG := by
  intro w h
  obtain ⟨k, hk, e⟩ := List.mem_map.mp h
  have hk := List.mem_range.mp hk
  subst e
  rcases (show k = 0 ∨ k = 1 ∨ k = 2 ∨ k = 3 ∨ k = 4 ∨ k = 5 ∨ k = 6 ∨ k = 7 ∨ k = 8 ∨ k = 9 ∨ k = 10 ∨ k = 11 ∨ k = 12 ∨ k = 13 ∨ k = 14 ∨ k = 15 by omega) with rfl | rfl | rfl | rfl | rfl | rfl | rfl | rfl | rfl | rfl | rfl | rfl | rfl | rfl | rfl | rfl
  · exact bw2_132
  · exact bw2_134
  · exact bw2_136
  · exact bw2_138
  · exact bw2_140
  · exact bw2_142
  · exact bw2_144
  · exact bw2_146
  · exact bw2_148
  · exact bw2_150
  · exact bw2_152
  · exact bw2_154
  · exact bw2_156
  · exact bw2_158
  · exact bw2_160
  · exact bw2_162
theorem inB9 : ∀ w ∈ u_ws RX9 TX9 82, w ∈ BIG := by
  intro w h
  obtain ⟨k, hk, e⟩ := List.mem_map.mp h
  have hk := List.mem_range.mp hk
  subst e
  rcases (show k = 0 ∨ k = 1 ∨ k = 2 ∨ k = 3 ∨ k = 4 ∨ k = 5 ∨ k = 6 ∨ k = 7 ∨ k = 8 ∨ k = 9 ∨ k = 10 ∨ k = 11 ∨ k = 12 ∨ k = 13 ∨ k = 14 ∨ k = 15 ∨ k = 16 ∨ k = 17 ∨ k = 18 ∨ k = 19 ∨ k = 20 ∨ k = 21 ∨ k = 22 ∨ k = 23 ∨ k = 24 ∨ k = 25 ∨ k = 26 ∨ k = 27 ∨ k = 28 ∨ k = 29 ∨ k = 30 ∨ k = 31 ∨ k = 32 ∨ k = 33 ∨ k = 34 ∨ k = 35 ∨ k = 36 ∨ k = 37 ∨ k = 38 ∨ k = 39 ∨ k = 40 ∨ k = 41 ∨ k = 42 ∨ k = 43 ∨ k = 44 ∨ k = 45 ∨ k = 46 ∨ k = 47 ∨ k = 48 ∨ k = 49 ∨ k = 50 ∨ k = 51 ∨ k = 52 ∨ k = 53 ∨ k = 54 ∨ k = 55 ∨ k = 56 ∨ k = 57 ∨ k = 58 ∨ k = 59 ∨ k = 60 ∨ k = 61 ∨ k = 62 ∨ k = 63 ∨ k = 64 ∨ k = 65 ∨ k = 66 ∨ k = 67 ∨ k = 68 ∨ k = 69 ∨ k = 70 ∨ k = 71 ∨ k = 72 ∨ k = 73 ∨ k = 74 ∨ k = 75 ∨ k = 76 ∨ k = 77 ∨ k = 78 ∨ k = 79 ∨ k = 80 ∨ k = 81 by omega) with rfl | rfl | rfl | rfl | rfl | rfl | rfl | rfl | rfl | rfl | rfl | rfl | rfl | rfl | rfl | rfl | rfl | rfl | rfl | rfl | rfl | rfl | rfl | rfl | rfl | rfl | rfl | rfl | rfl | rfl | rfl | rfl | rfl | rfl | rfl | rfl | rfl | rfl | rfl | rfl | rfl | rfl | rfl | rfl | rfl | rfl | rfl | rfl | rfl | rfl | rfl | rfl | rfl | rfl | rfl | rfl | rfl | rfl | rfl | rfl | rfl | rfl | rfl | rfl | rfl | rfl | rfl | rfl | rfl | rfl | rfl | rfl | rfl | rfl | rfl | rfl | rfl | rfl | rfl | rfl | rfl | rfl
  · exact bw4_192
  · exact bw4_194
  · exact bw4_196
  · exact bw4_198
  · exact bw4_200
  · exact bw4_202
  · exact bw4_204
  · exact bw4_206
  · exact bw4_208
  · exact bw4_210
  · exact bw4_212
  · exact bw4_214
  · exact bw4_216
  · exact bw4_218
  · exact bw4_220
  · exact bw4_222
  · exact bw4_224
  · exact bw4_226
  · exact bw4_228
  · exact bw4_230
  · exact bw4_232
  · exact bw4_234
  · exact bw4_236
  · exact bw4_238
  · exact bw5_0
  · exact bw5_2
  · exact bw5_4
  · exact bw5_6
  · exact bw5_8
  · exact bw5_10
  · exact bw5_12
  · exact bw5_14
  · exact bw5_16
  · exact bw5_18
  · exact bw5_20
  · exact bw5_22
  · exact bw5_24
  · exact bw5_26
  · exact bw5_28
  · exact bw5_30
  · exact bw5_32
  · exact bw5_34
  · exact bw5_36
  · exact bw5_38
  · exact bw5_40
  · exact bw5_42
  · exact bw5_44
  · exact bw5_46
  · exact bw5_48
  · exact bw5_50
  · exact bw5_52
  · exact bw5_54
  · exact bw5_56
  · exact bw5_58
  · exact bw5_60
  · exact bw5_62
  · exact bw5_64
  · exact bw5_66
  · exact bw5_68
  · exact bw5_70
  · exact bw5_72
  · exact bw5_74
  · exact bw5_76
  · exact bw5_78
  · exact bw5_80
  · exact bw5_82
  · exact bw5_84
  · exact bw5_86
  · exact bw5_88
  · exact bw5_90
  · exact bw5_92
  · exact bw5_94
  · exact bw5_96
  · exact bw5_98
  · exact bw5_100
  · exact bw5_102
  · exact bw5_104
  · exact bw5_106
  · exact bw5_108
  · exact bw5_110
  · exact bw5_112
  · exact bw5_114
theorem good_big {w : Cond} (h : w ∈ BIG) : (w.onTables && w.keeps) = true ∨ ∃ ty, w = .arrayClass ty := good_of_word (List.mem_filter.mp h).2
theorem goodB {y : MethodName} {c : ByteArray} {n : Nat} {r : Option FieldType} (h5 : Cond.code y c n r ∈ BIG) : GoodIn BIG (wB y c n r) := fun w h => (List.mem_cons.mp h).elim (fun e => by rw [e]; exact ⟨h5, good_big h5⟩) (fun h => ⟨h, good_big h⟩)
theorem gIapp {big a b : List Cond} (ha : GoodIn big a) (hb : GoodIn big b) : GoodIn big (a ++ b) := fun w h => (List.mem_append.mp h).elim (ha w) (hb w)
theorem goodV {own : String} {idx : Nat} {C : String} {y : MethodName} {c : ByteArray} {n : Nat} {r : Option FieldType} (h1 : Cond.methodLink own idx y ∈ BIG) (h2 : Cond.instanceMethod y ∈ BIG) (h3 : Cond.selects C y y ∈ BIG) (h4 : Cond.initialized C ∈ BIG) (h5 : Cond.code y c n r ∈ BIG) : GoodIn BIG (wsV own idx C y (wB y c n r)) := by
  refine gIapp (fun w h => ?_) (goodB h5)
  simp only [List.mem_cons, List.not_mem_nil, or_false] at h
  rcases h with rfl | rfl | rfl | rfl
  · exact ⟨h1, good_big h1⟩
  · exact ⟨h2, good_big h2⟩
  · exact ⟨h3, good_big h3⟩
  · exact ⟨h4, good_big h4⟩
theorem goodS {own : String} {idx : Nat} {y : MethodName} {c : ByteArray} {n : Nat} {r : Option FieldType} (h1 : Cond.methodLink own idx y ∈ BIG) (h2 : Cond.static y ∈ BIG) (h4 : Cond.initialized y.cls ∈ BIG) (h5 : Cond.code y c n r ∈ BIG) : GoodIn BIG (va_wsS own idx y (wB y c n r)) := by
  refine gIapp (fun w h => ?_) (goodB h5)
  simp only [List.mem_cons, List.not_mem_nil, or_false] at h
  rcases h with rfl | rfl | rfl
  · exact ⟨h1, good_big h1⟩
  · exact ⟨h2, good_big h2⟩
  · exact ⟨h4, good_big h4⟩
theorem gVX8_30 : GoodIn BIG (wsV RX8 30 RX2 yX2_setKey (wB yX2_setKey prog_4_method_2_code 8 none)) := goodV bw1_39 bw1_40 bw1_41 bw1_2 bw1_42
theorem gVL_21 : GoodIn BIG (wsV RL 21 RX8 yX8_feed (wB yX8_feed prog_1_method_2_code 6 (Option.some FieldType.int))) := goodV bw2_165 bw2_166 bw2_167 bw1_1 bw2_168
theorem gVX8_60 : GoodIn BIG (wsV RX8 60 RX8 yX8_feedWord (wB yX8_feedWord prog_1_method_3_code 3 none)) := goodV bw2_169 bw2_171 bw0_0 bw1_1 bw2_172
theorem gVL_26 : GoodIn BIG (wsV RL 26 RX8 yX8_end (wB yX8_end prog_1_method_4_code 2 (Option.some FieldType.int))) := goodV bw2_173 bw2_174 bw2_175 bw1_1 bw2_176
theorem gVL_31 : GoodIn BIG (wsV RL 31 RX8 yX8_send (wB yX8_send prog_1_method_5_code 4 (Option.some FieldType.int))) := goodV bw2_177 bw2_178 bw2_179 bw1_1 bw2_180
theorem gVX8_63 : GoodIn BIG (wsV RX8 63 RX8 yX8_isPlace (wB yX8_isPlace prog_1_method_16_code 3 (Option.some FieldType.boolean))) := goodV bw2_181 bw2_183 bw0_1 bw1_1 bw2_184
theorem gVX8_67 : GoodIn BIG (wsV RX8 67 RX8 yX8_placeOf (wB yX8_placeOf prog_1_method_17_code 3 (Option.some FieldType.int))) := goodV bw2_185 bw2_187 bw0_2 bw1_1 bw2_188
theorem gVX8_75 : GoodIn BIG (wsV RX8 75 RX4 yX4_takeUnit (wB yX4_takeUnit prog_6_method_2_code 4 (Option.some FieldType.int))) := goodV bw2_189 bw2_190 bw2_191 bw1_4 bw2_192
theorem gVX4_53 : GoodIn BIG (wsV RX4 53 RX4 yX4_addWaiting (wB yX4_addWaiting prog_6_method_3_code 2 none)) := goodV bw2_196 bw2_198 bw0_3 bw1_4 bw2_199
theorem gVL_36 : GoodIn BIG (wsV RL 36 RX8 yX8_rate (wB yX8_rate prog_1_method_6_code 3 (Option.some FieldType.boolean))) := goodV bw2_200 bw2_201 bw2_202 bw1_1 bw2_203
theorem gVL_41 : GoodIn BIG (wsV RL 41 RX8 yX8_tick (wB yX8_tick prog_1_method_7_code 8 (Option.some FieldType.int))) := goodV bw2_204 bw2_205 bw2_206 bw1_1 bw2_207
theorem gVX8_87 : GoodIn BIG (wsV RX8 87 RX7 yX7_countDown (wB yX7_countDown prog_9_method_4_code 2 none)) := goodV bw2_208 bw2_209 bw2_210 bw1_3 bw2_211
theorem gVX7_59 : GoodIn BIG (wsV RX7 59 RX7 yX7_pieceAt (wB yX7_pieceAt prog_9_method_2_code 2 (Option.some (FieldType.object "BearerHouse$Piece")))) := goodV bw2_212 bw2_214 bw0_4 bw1_3 bw2_215
theorem gVX7_63 : GoodIn BIG (wsV RX7 63 RX7 yX7_bringAgain (wB yX7_bringAgain prog_9_method_6_code 6 none)) := goodV bw2_216 bw2_218 bw0_5 bw1_3 bw2_219
theorem gVX7_85 : GoodIn BIG (wsV RX7 85 RX5 yX5_markCell (wB yX5_markCell prog_7_method_6_code 2 none)) := goodV bw2_220 bw2_221 bw2_222 bw1_5 bw2_223
theorem gVX8_90 : GoodIn BIG (wsV RX8 90 RX6 yX6_countDown (wB yX6_countDown prog_8_method_6_code 1 none)) := goodV bw2_224 bw2_225 bw2_226 bw1_6 bw2_227
theorem gVX6_66 : GoodIn BIG (wsV RX6 66 RX6 yX6_giveUpAwaiting (wB yX6_giveUpAwaiting prog_8_method_7_code 1 none)) := goodV bw2_228 bw2_230 bw0_6 bw1_6 bw2_231
theorem gVX6_75 : GoodIn BIG (wsV RX6 75 RX6 yX6_raiseTold (wB yX6_raiseTold prog_8_method_11_code 2 none)) := goodV bw2_235 bw2_236 bw2_237 bw1_6 bw2_238
theorem gVX6_109 : GoodIn BIG (wsV RX6 109 RX6 yX6_isWhole (wB yX6_isWhole prog_8_method_4_code 3 (Option.some FieldType.boolean))) := goodV bw2_239 bw3_0 bw3_1 bw1_6 bw3_2
theorem gVX6_40 : GoodIn BIG (wsV RX6 40 RX6 yX6_pieceAt (wB yX6_pieceAt prog_8_method_2_code 2 (Option.some (FieldType.object "BearerHouse$Piece")))) := goodV bw3_3 bw3_4 bw3_5 bw1_6 bw3_6
theorem gVX6_78 : GoodIn BIG (wsV RX6 78 RX6 yX6_answerPolls (wB yX6_answerPolls prog_8_method_14_code 1 none)) := goodV bw3_7 bw3_9 bw0_7 bw1_6 bw3_10
theorem gVX8_91 : GoodIn BIG (wsV RX8 91 RX7 yX7_prepare (wB yX7_prepare prog_9_method_5_code 1 none)) := goodV bw3_11 bw3_12 bw3_13 bw1_3 bw3_14
theorem gVX8_97 : GoodIn BIG (wsV RX8 97 RX8 yX8_fillBlock (wB yX8_fillBlock prog_1_method_18_code 13 none)) := goodV bw3_18 bw3_20 bw0_8 bw1_1 bw3_21
theorem gVX8_262 : GoodIn BIG (wsV RX8 262 RX8 yX8_makePart (wB yX8_makePart prog_1_method_20_code 9 (Option.some FieldType.boolean))) := goodV bw3_23 bw3_25 bw0_9 bw1_1 bw3_26
theorem gVX8_270 : GoodIn BIG (wsV RX8 270 RX0 yX0_put (wB yX0_put prog_2_method_2_code 2 none)) := goodV bw3_27 bw3_28 bw3_29 bw1_9 bw3_30
theorem gVX8_273 : GoodIn BIG (wsV RX8 273 RX6 yX6_makeStatus (wB yX6_makeStatus prog_8_method_15_code 10 none)) := goodV bw3_31 bw3_32 bw3_33 bw1_6 bw3_34
theorem gVX6_113 : GoodIn BIG (wsV RX6 113 RX0 yX0_put (wB yX0_put prog_2_method_2_code 2 none)) := goodV bw3_35 bw3_28 bw3_29 bw1_9 bw3_30
theorem gVX6_116 : GoodIn BIG (wsV RX6 116 RX5 yX5_missingRuns (wB yX5_missingRuns prog_7_method_13_code 4 (Option.some FieldType.int))) := goodV bw3_36 bw3_37 bw3_38 bw1_5 bw3_39
theorem gVX5_48 : GoodIn BIG (wsV RX5 48 RX5 yX5_reach (wB yX5_reach prog_7_method_12_code 1 (Option.some FieldType.int))) := goodV bw3_40 bw3_41 bw3_42 bw1_5 bw3_43
theorem gVX5_52 : GoodIn BIG (wsV RX5 52 RX5 yX5_nextMark (wB yX5_nextMark prog_7_method_9_code 5 (Option.some FieldType.int))) := goodV bw3_44 bw3_45 bw3_46 bw1_5 bw3_47
theorem gVX6_120 : GoodIn BIG (wsV RX6 120 RX5 yX5_writeMissing (wB yX5_writeMissing prog_7_method_14_code 6 none)) := goodV bw3_49 bw3_50 bw3_51 bw1_5 bw3_52
theorem gVX5_56 : GoodIn BIG (wsV RX5 56 RX0 yX0_put (wB yX0_put prog_2_method_2_code 2 none)) := goodV bw3_53 bw3_28 bw3_29 bw1_9 bw3_30
theorem gVX6_124 : GoodIn BIG (wsV RX6 124 RX0 yX0_set (wB yX0_set prog_2_method_3_code 3 none)) := goodV bw3_54 bw3_55 bw3_56 bw1_9 bw3_57
theorem gVX8_276 : GoodIn BIG (wsV RX8 276 RX7 yX7_makeAgain (wB yX7_makeAgain prog_9_method_7_code 9 none)) := goodV bw3_58 bw3_59 bw3_60 bw1_3 bw3_61
theorem gVX7_88 : GoodIn BIG (wsV RX7 88 RX5 yX5_nextMark (wB yX5_nextMark prog_7_method_9_code 5 (Option.some FieldType.int))) := goodV bw3_62 bw3_45 bw3_46 bw1_5 bw3_47
theorem gVX7_92 : GoodIn BIG (wsV RX7 92 RX5 yX5_innerEnds (wB yX5_innerEnds prog_7_method_10_code 5 (Option.some FieldType.int))) := goodV bw3_63 bw3_64 bw3_65 bw1_5 bw3_66
theorem gVX5_44 : GoodIn BIG (wsV RX5 44 RX5 yX5_has (wB yX5_has prog_7_method_4_code 3 (Option.some FieldType.boolean))) := goodV bw3_67 bw3_68 bw3_69 bw1_5 bw3_70
theorem gVX7_95 : GoodIn BIG (wsV RX7 95 RX5 yX5_fitting (wB yX5_fitting prog_7_method_11_code 6 (Option.some FieldType.int))) := goodV bw3_71 bw3_72 bw3_73 bw1_5 bw3_74
theorem gVX7_99 : GoodIn BIG (wsV RX7 99 RX5 yX5_unmarkCell (wB yX5_unmarkCell prog_7_method_7_code 2 none)) := goodV bw3_75 bw3_76 bw3_77 bw1_5 bw3_78
theorem gVX7_105 : GoodIn BIG (wsV RX7 105 RX7 yX7_countData (wB yX7_countData prog_9_method_9_code 3 (Option.some FieldType.boolean))) := goodV bw3_79 bw3_81 bw0_10 bw1_3 bw3_82
theorem gVX7_109 : GoodIn BIG (wsV RX7 109 RX5 yX5_writeData (wB yX5_writeData prog_7_method_15_code 9 none)) := goodV bw3_83 bw3_84 bw3_85 bw1_5 bw3_86
theorem gVX5_62 : GoodIn BIG (wsV RX5 62 RX5 yX5_innerEnds (wB yX5_innerEnds prog_7_method_10_code 5 (Option.some FieldType.int))) := goodV bw3_87 bw3_64 bw3_65 bw1_5 bw3_66
theorem gVX5_65 : GoodIn BIG (wsV RX5 65 RX5 yX5_writeLengths (wB yX5_writeLengths prog_7_method_16_code 8 none)) := goodV bw3_88 bw3_90 bw0_11 bw1_5 bw3_91
theorem gVX5_69 : GoodIn BIG (wsV RX5 69 RX5 yX5_cell (wB yX5_cell prog_7_method_3_code 2 (Option.some FieldType.int))) := goodV bw3_92 bw3_93 bw3_94 bw1_5 bw3_95
theorem gVX8_279 : GoodIn BIG (wsV RX8 279 RX7 yX7_makeNew (wB yX7_makeNew prog_9_method_8_code 7 none)) := goodV bw3_96 bw3_97 bw3_98 bw1_3 bw3_99
theorem gVX7_113 : GoodIn BIG (wsV RX7 113 RX5 yX5_clear (wB yX5_clear prog_7_method_2_code 2 none)) := goodV bw3_100 bw3_101 bw3_102 bw1_5 bw3_103
theorem gSX5_15 : GoodIn BIG (va_wsS RX5 15 yJ7_fill_53178 (wB yJ7_fill_53178 prog_14_method_103_code 4 none)) := goodS bw3_104 bw3_105 bw1_13 bw3_106
theorem gVX7_116 : GoodIn BIG (wsV RX7 116 RX5 yX5_has (wB yX5_has prog_7_method_4_code 3 (Option.some FieldType.boolean))) := goodV bw3_107 bw3_68 bw3_69 bw1_5 bw3_70
theorem gVX7_123 : GoodIn BIG (wsV RX7 123 RX4 yX4_openFront (wB yX4_openFront prog_6_method_7_code 4 none)) := goodV bw3_108 bw3_109 bw3_110 bw1_4 bw3_111
theorem gVX4_75 : GoodIn BIG (wsV RX4 75 RX4 yX4_packetSize (wB yX4_packetSize prog_6_method_5_code 2 (Option.some FieldType.int))) := goodV bw3_112 bw3_114 bw0_12 bw1_4 bw3_115
theorem gVX4_79 : GoodIn BIG (wsV RX4 79 RX2 yX2_mask (wB yX2_mask prog_4_method_3_code 7 none)) := goodV bw3_116 bw3_117 bw3_118 bw1_2 bw3_119
theorem gVX2_24 : GoodIn BIG (wsV RX2 24 RX2 yX2_setCounter (wB yX2_setCounter prog_4_method_4_code 5 none)) := goodV bw3_120 bw3_122 bw0_13 bw1_2 bw3_123
theorem gSX2_31 : GoodIn BIG (va_wsS RX2 31 yJ7_fill_53178 (wB yJ7_fill_53178 prog_14_method_103_code 4 none)) := goodS bw3_124 bw3_105 bw1_13 bw3_106
theorem gVX2_28 : GoodIn BIG (wsV RX2 28 RX2 yX2_encrypt (wB yX2_encrypt prog_4_method_5_code 7 none)) := goodV bw3_125 bw3_127 bw0_14 bw1_2 bw3_128
theorem gVX7_127 : GoodIn BIG (wsV RX7 127 RX4 yX4_takeCell (wB yX4_takeCell prog_6_method_8_code 2 (Option.some FieldType.int))) := goodV bw3_129 bw3_130 bw3_131 bw1_4 bw3_132
theorem gVX4_85 : GoodIn BIG (wsV RX4 85 RX4 yX4_dropFront (wB yX4_dropFront prog_6_method_4_code 2 none)) := goodV bw3_133 bw3_135 bw0_15 bw1_4 bw3_136
theorem gVX7_131 : GoodIn BIG (wsV RX7 131 RX5 yX5_append (wB yX5_append prog_7_method_5_code 2 none)) := goodV bw3_138 bw3_139 bw3_140 bw1_5 bw3_141
theorem gVX8_283 : GoodIn BIG (wsV RX8 283 RX0 yX0_set (wB yX0_set prog_2_method_3_code 3 none)) := goodV bw3_142 bw3_55 bw3_56 bw1_9 bw3_57
theorem gSX8_266 : GoodIn BIG (va_wsS RX8 266 yX8_fillUp (wB yX8_fillUp prog_1_method_19_code 3 none)) := goodS bw3_143 bw3_144 bw1_1 bw3_145
theorem gVX8_104 : GoodIn BIG (wsV RX8 104 RX8 yX8_countSending (wB yX8_countSending prog_1_method_21_code 4 (Option.some FieldType.boolean))) := goodV bw3_146 bw3_148 bw0_16 bw1_1 bw3_149
theorem gVX8_112 : GoodIn BIG (wsV RX8 112 RX8 yX8_workOn (wB yX8_workOn prog_1_method_23_code 7 none)) := goodV bw3_150 bw3_152 bw0_17 bw1_1 bw3_153
theorem gVX8_141 : GoodIn BIG (wsV RX8 141 RX0 yX0_at (wB yX0_at prog_2_method_4_code 2 (Option.some FieldType.int))) := goodV bw3_154 bw3_155 bw3_156 bw1_9 bw3_157
theorem gVX8_286 : GoodIn BIG (wsV RX8 286 RX8 yX8_takeData (wB yX8_takeData prog_1_method_24_code 8 none)) := goodV bw3_158 bw3_160 bw0_18 bw1_1 bw3_161
theorem gVX8_293 : GoodIn BIG (wsV RX8 293 RX6 yX6_takeBytes (wB yX6_takeBytes prog_8_method_8_code 12 (Option.some FieldType.int))) := goodV bw3_162 bw3_163 bw3_164 bw1_6 bw3_165
theorem gVX6_84 : GoodIn BIG (wsV RX6 84 RX0 yX0_at (wB yX0_at prog_2_method_4_code 2 (Option.some FieldType.int))) := goodV bw3_166 bw3_155 bw3_156 bw1_9 bw3_157
theorem gVX6_93 : GoodIn BIG (wsV RX6 93 RX6 yX6_takeCells (wB yX6_takeCells prog_8_method_9_code 14 (Option.some FieldType.int))) := goodV bw3_167 bw3_169 bw0_19 bw1_6 bw3_170
theorem gSX6_100 : GoodIn BIG (va_wsS RX6 100 yX6_countLengths (wB yX6_countLengths prog_8_method_10_code 4 (Option.some FieldType.int))) := goodS bw3_171 bw3_172 bw1_6 bw3_173
theorem gVX6_104 : GoodIn BIG (wsV RX6 104 RX5 yX5_putArrived (wB yX5_putArrived prog_7_method_8_code 3 none)) := goodV bw3_174 bw3_175 bw3_176 bw1_5 bw3_177
theorem gVX8_297 : GoodIn BIG (wsV RX8 297 RX6 yX6_raiseTold (wB yX6_raiseTold prog_8_method_11_code 2 none)) := goodV bw3_179 bw2_236 bw2_237 bw1_6 bw2_238
theorem gVX8_300 : GoodIn BIG (wsV RX8 300 RX6 yX6_isWhole (wB yX6_isWhole prog_8_method_4_code 3 (Option.some FieldType.boolean))) := goodV bw3_180 bw3_0 bw3_1 bw1_6 bw3_2
theorem gVX8_304 : GoodIn BIG (wsV RX8 304 RX6 yX6_pieceAt (wB yX6_pieceAt prog_8_method_2_code 2 (Option.some (FieldType.object "BearerHouse$Piece")))) := goodV bw3_181 bw3_4 bw3_5 bw1_6 bw3_6
theorem gVX8_308 : GoodIn BIG (wsV RX8 308 RX8 yX8_hand (wB yX8_hand prog_1_method_26_code 5 none)) := goodV bw3_182 bw3_184 bw0_20 bw1_1 bw3_185
theorem gVX8_325 : GoodIn BIG (wsV RX8 325 RX5 yX5_cell (wB yX5_cell prog_7_method_3_code 2 (Option.some FieldType.int))) := goodV bw3_186 bw3_93 bw3_94 bw1_5 bw3_95
theorem gVX8_328 : GoodIn BIG (wsV RX8 328 RX3 yX3_completes (wB yX3_completes prog_5_method_2_code 2 (Option.some FieldType.boolean))) := goodV bw3_187 bw3_188 bw3_189 bw1_7 bw3_190
theorem gVX8_331 : GoodIn BIG (wsV RX8 331 RX8 yX8_takePacket (wB yX8_takePacket prog_1_method_27_code 4 none)) := goodV bw3_191 bw3_193 bw0_21 bw1_1 bw3_194
theorem gVX8_341 : GoodIn BIG (wsV RX8 341 RX4 yX4_confirmReported (wB yX4_confirmReported prog_6_method_12_code 9 none)) := goodV bw3_195 bw3_196 bw3_197 bw1_4 bw3_198
theorem gVX4_88 : GoodIn BIG (wsV RX4 88 RX4 yX4_keeps (wB yX4_keeps prog_6_method_9_code 2 (Option.some FieldType.boolean))) := goodV bw3_199 bw3_201 bw0_22 bw1_4 bw3_202
theorem gVX4_92 : GoodIn BIG (wsV RX4 92 RX4 yX4_confirmUnit (wB yX4_confirmUnit prog_6_method_11_code 4 none)) := goodV bw3_203 bw3_205 bw0_23 bw1_4 bw3_206
theorem gVX8_345 : GoodIn BIG (wsV RX8 345 RX3 yX3_meantCount (wB yX3_meantCount prog_5_method_3_code 2 (Option.some FieldType.int))) := goodV bw3_207 bw3_208 bw3_209 bw1_7 bw3_210
theorem gVX8_348 : GoodIn BIG (wsV RX8 348 RX3 yX3_isDouble (wB yX3_isDouble prog_5_method_4_code 2 (Option.some FieldType.boolean))) := goodV bw3_211 bw3_212 bw3_213 bw1_7 bw3_214
theorem gVX8_354 : GoodIn BIG (wsV RX8 354 RX2 yX2_mask (wB yX2_mask prog_4_method_3_code 7 none)) := goodV bw3_215 bw3_117 bw3_118 bw1_2 bw3_119
theorem gVX8_358 : GoodIn BIG (wsV RX8 358 RX3 yX3_store (wB yX3_store prog_5_method_5_code 4 none)) := goodV bw3_216 bw3_217 bw3_218 bw1_7 bw3_219
theorem gVX8_361 : GoodIn BIG (wsV RX8 361 RX3 yX3_deliverStored (wB yX3_deliverStored prog_5_method_6_code 4 none)) := goodV bw3_221 bw3_222 bw3_223 bw1_7 bw3_224
theorem gVX8_312 : GoodIn BIG (wsV RX8 312 RX6 yX6_passLow (wB yX6_passLow prog_8_method_12_code 1 none)) := goodV bw3_226 bw3_227 bw3_228 bw1_6 bw3_229
theorem gVX6_44 : GoodIn BIG (wsV RX6 44 RX5 yX5_clear (wB yX5_clear prog_7_method_2_code 2 none)) := goodV bw3_230 bw3_101 bw3_102 bw1_5 bw3_103
theorem gVX8_315 : GoodIn BIG (wsV RX8 315 RX6 yX6_settle (wB yX6_settle prog_8_method_13_code 3 none)) := goodV bw3_231 bw3_232 bw3_233 bw1_6 bw3_234
theorem gVX8_290 : GoodIn BIG (wsV RX8 290 RX7 yX7_takeStatus (wB yX7_takeStatus prog_9_method_11_code 6 none)) := goodV bw3_235 bw3_236 bw3_237 bw1_3 bw3_238
theorem gVX7_140 : GoodIn BIG (wsV RX7 140 RX0 yX0_at (wB yX0_at prog_2_method_4_code 2 (Option.some FieldType.int))) := goodV bw3_239 bw3_155 bw3_156 bw1_9 bw3_157
theorem gVX7_146 : GoodIn BIG (wsV RX7 146 RX7 yX7_meant (wB yX7_meant prog_9_method_10_code 2 (Option.some FieldType.int))) := goodV bw4_0 bw4_2 bw0_24 bw1_3 bw4_3
theorem gVX7_149 : GoodIn BIG (wsV RX7 149 RX7 yX7_nameEntries (wB yX7_nameEntries prog_9_method_12_code 6 none)) := goodV bw4_4 bw4_6 bw0_25 bw1_3 bw4_7
theorem gVX7_159 : GoodIn BIG (wsV RX7 159 RX7 yX7_confirm (wB yX7_confirm prog_9_method_14_code 3 none)) := goodV bw4_8 bw4_10 bw0_26 bw1_3 bw4_11
theorem gVX7_166 : GoodIn BIG (wsV RX7 166 RX5 yX5_cell (wB yX5_cell prog_7_method_3_code 2 (Option.some FieldType.int))) := goodV bw4_12 bw3_93 bw3_94 bw1_5 bw3_95
theorem gVX7_169 : GoodIn BIG (wsV RX7 169 RX4 yX4_confirmByte (wB yX4_confirmByte prog_6_method_10_code 4 none)) := goodV bw4_13 bw4_14 bw4_15 bw1_4 bw4_16
theorem gVX7_163 : GoodIn BIG (wsV RX7 163 RX7 yX7_takeEntries (wB yX7_takeEntries prog_9_method_13_code 9 none)) := goodV bw4_17 bw4_19 bw0_27 bw1_3 bw4_20
theorem gVX8_116 : GoodIn BIG (wsV RX8 116 RX8 yX8_takeAnswer (wB yX8_takeAnswer prog_1_method_22_code 3 none)) := goodV bw4_21 bw4_23 bw0_28 bw1_1 bw4_24
theorem gVX8_127 : GoodIn BIG (wsV RX8 127 RX1 yX1_makeEmpty (wB yX1_makeEmpty prog_3_method_2_code 1 none)) := goodV bw4_25 bw4_26 bw4_27 bw1_8 bw4_28
theorem gVL_46 : GoodIn BIG (wsV RL 46 RX8 yX8_renew (wB yX8_renew prog_1_method_8_code 2 (Option.some FieldType.int))) := goodV bw4_29 bw4_30 bw4_31 bw1_1 bw4_32
theorem gVX8_120 : GoodIn BIG (wsV RX8 120 RX8 yX8_handAllWhole (wB yX8_handAllWhole prog_1_method_25_code 4 none)) := goodV bw4_33 bw4_35 bw0_29 bw1_1 bw4_36
theorem gVX8_123 : GoodIn BIG (wsV RX8 123 RX6 yX6_startAnew (wB yX6_startAnew prog_8_method_3_code 2 none)) := goodV bw4_37 bw4_38 bw4_39 bw1_6 bw4_40
theorem gVX8_126 : GoodIn BIG (wsV RX8 126 RX7 yX7_startAnew (wB yX7_startAnew prog_9_method_3_code 1 none)) := goodV bw4_41 bw4_42 bw4_43 bw1_3 bw4_44
theorem gVX8_137 : GoodIn BIG (wsV RX8 137 RX4 yX4_waitAnew (wB yX4_waitAnew prog_6_method_13_code 4 none)) := goodV bw4_45 bw4_46 bw4_47 bw1_4 bw4_48
theorem gVX4_95 : GoodIn BIG (wsV RX4 95 RX3 yX3_writeReport (wB yX3_writeReport prog_5_method_7_code 5 (Option.some FieldType.int))) := goodV bw4_49 bw4_50 bw4_51 bw1_7 bw4_52
theorem gSX3_62 : GoodIn BIG (va_wsS RX3 62 yJ7_fill_53178 (wB yJ7_fill_53178 prog_14_method_103_code 4 none)) := goodS bw4_53 bw3_105 bw1_13 bw3_106
theorem gVL_51 : GoodIn BIG (wsV RL 51 RX8 yX8_block (wB yX8_block prog_1_method_9_code 3 (Option.some FieldType.int))) := goodV bw4_54 bw4_55 bw4_56 bw1_1 bw4_57
theorem gVL_55 : GoodIn BIG (wsV RL 55 RX8 yX8_sender (wB yX8_sender prog_1_method_10_code 5 (Option.some FieldType.int))) := goodV bw4_58 bw4_59 bw4_60 bw1_1 bw4_61
theorem gVX8_156 : GoodIn BIG (wsV RX8 156 RX4 yX4_waitingBytes (wB yX4_waitingBytes prog_6_method_6_code 3 (Option.some FieldType.int))) := goodV bw4_62 bw4_63 bw4_64 bw1_4 bw4_65
theorem gVL_59 : GoodIn BIG (wsV RL 59 RX8 yX8_receiver (wB yX8_receiver prog_1_method_11_code 5 (Option.some FieldType.int))) := goodV bw4_66 bw4_67 bw4_68 bw1_1 bw4_69
theorem gVX8_204 : GoodIn BIG (wsV RX8 204 RX6 yX6_heldBytes (wB yX6_heldBytes prog_8_method_5_code 3 (Option.some FieldType.int))) := goodV bw4_70 bw4_71 bw4_72 bw1_6 bw4_73
theorem gVL_63 : GoodIn BIG (wsV RL 63 RX8 yX8_delivered (wB yX8_delivered prog_1_method_12_code 5 (Option.some FieldType.int))) := goodV bw4_74 bw4_75 bw4_76 bw1_1 bw4_77
theorem gVL_67 : GoodIn BIG (wsV RL 67 RX8 yX8_unit (wB yX8_unit prog_1_method_13_code 5 (Option.some FieldType.int))) := goodV bw4_78 bw4_79 bw4_80 bw1_1 bw4_81
theorem gVL_71 : GoodIn BIG (wsV RL 71 RX8 yX8_process (wB yX8_process prog_1_method_14_code 5 (Option.some FieldType.int))) := goodV bw4_82 bw4_83 bw4_84 bw1_1 bw4_85
theorem gVL_75 : GoodIn BIG (wsV RL 75 RX8 yX8_world (wB yX8_world prog_1_method_15_code 2 (Option.some FieldType.int))) := goodV bw4_86 bw4_87 bw4_88 bw1_1 bw4_89
theorem gVX9_235 : GoodIn BIG (wsV RX9 235 RX9 yX9_makeBox (wB yX9_makeBox prog_11_method_6_code 5 none)) := goodV bw4_100 bw4_102 bw0_30 bw1_10 bw4_103
theorem gSX9_242 : GoodIn BIG (va_wsS RX9 242 yX9_times (wB yX9_times prog_11_method_5_code 5 (Option.some FieldType.int))) := goodS bw4_104 bw4_105 bw1_10 bw4_106
theorem gSX9_238 : GoodIn BIG (va_wsS RX9 238 yX9_doubled (wB yX9_doubled prog_11_method_4_code 1 (Option.some FieldType.int))) := goodS bw4_107 bw4_108 bw1_10 bw4_109
theorem gVL_25 : GoodIn BIG (wsV RL 25 RX9 yX9_feed (wB yX9_feed prog_11_method_10_code 8 (Option.some FieldType.int))) := goodV bw5_117 bw5_118 bw5_119 bw1_10 bw5_120
theorem gVL_30 : GoodIn BIG (wsV RL 30 RX9 yX9_end (wB yX9_end prog_11_method_11_code 2 (Option.some FieldType.int))) := goodV bw5_121 bw5_122 bw5_123 bw1_10 bw5_124
theorem gVL_35 : GoodIn BIG (wsV RL 35 RX9 yX9_send (wB yX9_send prog_11_method_15_code 7 (Option.some FieldType.int))) := goodV bw5_125 bw5_126 bw5_127 bw1_10 bw5_128
theorem gVX9_269 : GoodIn BIG (wsV RX9 269 RX9 yX9_isThere (wB yX9_isThere prog_11_method_2_code 3 (Option.some FieldType.boolean))) := goodV bw5_129 bw5_131 bw0_31 bw1_10 bw5_132
theorem gSX9_258 : GoodIn BIG (va_wsS RX9 258 yX9_at (wB yX9_at prog_11_method_3_code 2 (Option.some FieldType.int))) := goodS bw5_133 bw5_134 bw1_10 bw5_135
theorem gVX9_273 : GoodIn BIG (wsV RX9 273 RX9 yX9_lowest (wB yX9_lowest prog_11_method_12_code 3 (Option.some FieldType.int))) := goodV bw5_136 bw5_138 bw0_32 bw1_10 bw5_139
theorem gVX9_276 : GoodIn BIG (wsV RX9 276 RX9 yX9_awaitUnit (wB yX9_awaitUnit prog_11_method_14_code 8 none)) := goodV bw5_140 bw5_142 bw0_33 bw1_10 bw5_143
theorem gVX9_261 : GoodIn BIG (wsV RX9 261 RX9 yX9_makeStream (wB yX9_makeStream prog_11_method_9_code 7 none)) := goodV bw5_144 bw5_146 bw0_34 bw1_10 bw5_147
theorem gVX9_249 : GoodIn BIG (wsV RX9 249 RX9 yX9_makeKey (wB yX9_makeKey prog_11_method_7_code 5 none)) := goodV bw5_148 bw5_150 bw0_35 bw1_10 bw5_151
theorem gVX9_252 : GoodIn BIG (wsV RX9 252 RX9 yX9_encipher (wB yX9_encipher prog_11_method_8_code 6 none)) := goodV bw5_152 bw5_154 bw0_36 bw1_10 bw5_155
theorem gVX9_265 : GoodIn BIG (wsV RX9 265 RX9 yX9_await (wB yX9_await prog_11_method_13_code 7 none)) := goodV bw5_156 bw5_158 bw0_37 bw1_10 bw5_159
theorem gVL_45 : GoodIn BIG (wsV RL 45 RX9 yX9_tick (wB yX9_tick prog_11_method_48_code 8 (Option.some FieldType.int))) := goodV bw5_160 bw5_161 bw5_162 bw1_10 bw5_163
theorem gVX9_395 : GoodIn BIG (wsV RX9 395 RX9 yX9_timers (wB yX9_timers prog_11_method_44_code 3 none)) := goodV bw5_164 bw5_166 bw0_38 bw1_10 bw5_167
theorem gVX9_289 : GoodIn BIG (wsV RX9 289 RX9 yX9_allAgain (wB yX9_allAgain prog_11_method_19_code 4 (Option.some FieldType.int))) := goodV bw5_168 bw5_170 bw0_39 bw1_10 bw5_171
theorem gVX9_283 : GoodIn BIG (wsV RX9 283 RX9 yX9_isAgain (wB yX9_isAgain prog_11_method_18_code 6 (Option.some FieldType.int))) := goodV bw5_172 bw5_174 bw0_40 bw1_10 bw5_175
theorem gVX9_327 : GoodIn BIG (wsV RX9 327 RX9 yX9_comesAgain (wB yX9_comesAgain prog_11_method_29_code 7 none)) := goodV bw5_176 bw5_178 bw0_41 bw1_10 bw5_179
theorem gVX9_337 : GoodIn BIG (wsV RX9 337 RX9 yX9_goOn (wB yX9_goOn prog_11_method_35_code 2 none)) := goodV bw5_180 bw5_182 bw0_42 bw1_10 bw5_183
theorem gVX9_306 : GoodIn BIG (wsV RX9 306 RX9 yX9_isWhole (wB yX9_isWhole prog_11_method_33_code 6 (Option.some FieldType.boolean))) := goodV bw5_184 bw5_186 bw0_43 bw1_10 bw5_187
theorem gVX9_347 : GoodIn BIG (wsV RX9 347 RX9 yX9_asksStatus (wB yX9_asksStatus prog_11_method_34_code 2 none)) := goodV bw5_188 bw5_190 bw0_44 bw1_10 bw5_191
theorem gVX9_398 : GoodIn BIG (wsV RX9 398 RX9 yX9_sends (wB yX9_sends prog_11_method_46_code 8 (Option.some FieldType.int))) := goodV bw5_192 bw5_194 bw0_45 bw1_10 bw5_195
theorem gVX9_366 : GoodIn BIG (wsV RX9 366 RX9 yX9_lay (wB yX9_lay prog_11_method_45_code 11 (Option.some FieldType.boolean))) := goodV bw5_196 bw5_198 bw0_46 bw1_10 bw5_199
theorem gVX9_359 : GoodIn BIG (wsV RX9 359 RX9 yX9_make (wB yX9_make prog_11_method_21_code 9 (Option.some FieldType.int))) := goodV bw5_200 bw5_202 bw0_47 bw1_10 bw5_203
theorem gVX9_286 : GoodIn BIG (wsV RX9 286 RX9 yX9_makeStatus (wB yX9_makeStatus prog_11_method_27_code 9 (Option.some FieldType.int))) := goodV bw5_204 bw5_206 bw0_48 bw1_10 bw5_207
theorem gVX9_309 : GoodIn BIG (wsV RX9 309 RX9 yX9_entries (wB yX9_entries prog_11_method_24_code 13 (Option.some FieldType.int))) := goodV bw5_208 bw5_210 bw0_49 bw1_10 bw5_211
theorem gVX9_303 : GoodIn BIG (wsV RX9 303 RX9 yX9_putRun (wB yX9_putRun prog_11_method_25_code 5 none)) := goodV bw5_212 bw5_214 bw0_50 bw1_10 bw5_215
theorem gVX9_313 : GoodIn BIG (wsV RX9 313 RX9 yX9_isEmpty (wB yX9_isEmpty prog_11_method_26_code 6 (Option.some FieldType.boolean))) := goodV bw5_216 bw5_218 bw0_51 bw1_10 bw5_219
theorem gVX9_292 : GoodIn BIG (wsV RX9 292 RX9 yX9_makeAgain (wB yX9_makeAgain prog_11_method_22_code 9 (Option.some FieldType.int))) := goodV bw5_220 bw5_222 bw0_52 bw1_10 bw5_223
theorem gVX9_295 : GoodIn BIG (wsV RX9 295 RX9 yX9_fitting (wB yX9_fitting prog_11_method_20_code 10 (Option.some FieldType.int))) := goodV bw5_224 bw5_226 bw0_53 bw1_10 bw5_227
theorem gVX9_299 : GoodIn BIG (wsV RX9 299 RX9 yX9_data (wB yX9_data prog_11_method_23_code 13 (Option.some FieldType.int))) := goodV bw5_228 bw5_230 bw0_54 bw1_10 bw5_231
theorem gVX9_280 : GoodIn BIG (wsV RX9 280 RX9 yX9_cutWaiting (wB yX9_cutWaiting prog_11_method_17_code 7 none)) := goodV bw5_232 bw5_234 bw0_55 bw1_10 bw5_235
theorem gVX9_378 : GoodIn BIG (wsV RX9 378 RX9 yX9_work (wB yX9_work prog_11_method_47_code 7 none)) := goodV bw5_236 bw5_238 bw0_56 bw1_10 bw5_239
theorem gVX9_387 : GoodIn BIG (wsV RX9 387 RX9 yX9_dataComes (wB yX9_dataComes prog_11_method_36_code 10 none)) := goodV bw6_0 bw6_2 bw0_57 bw1_10 bw6_3
theorem gSX9_316 : GoodIn BIG (va_wsS RX9 316 yX9_meant (wB yX9_meant prog_11_method_28_code 2 (Option.some FieldType.int))) := goodS bw6_4 bw6_5 bw1_10 bw6_6
theorem gVX9_333 : GoodIn BIG (wsV RX9 333 RX9 yX9_lays (wB yX9_lays prog_11_method_37_code 17 (Option.some FieldType.boolean))) := goodV bw6_7 bw6_9 bw0_58 bw1_10 bw6_10
theorem gVX9_341 : GoodIn BIG (wsV RX9 341 RX9 yX9_hand (wB yX9_hand prog_11_method_39_code 9 none)) := goodV bw6_11 bw6_13 bw0_59 bw1_10 bw6_14
theorem gVX9_350 : GoodIn BIG (wsV RX9 350 RX9 yX9_unitComes (wB yX9_unitComes prog_11_method_40_code 9 none)) := goodV bw6_15 bw6_17 bw0_60 bw1_10 bw6_18
theorem gVX9_356 : GoodIn BIG (wsV RX9 356 RX9 yX9_deliver (wB yX9_deliver prog_11_method_41_code 5 none)) := goodV bw6_19 bw6_21 bw0_61 bw1_10 bw6_22
theorem gVX9_353 : GoodIn BIG (wsV RX9 353 RX9 yX9_report (wB yX9_report prog_11_method_42_code 7 none)) := goodV bw6_23 bw6_25 bw0_62 bw1_10 bw6_26
theorem gVX9_330 : GoodIn BIG (wsV RX9 330 RX9 yX9_confirm (wB yX9_confirm prog_11_method_16_code 5 none)) := goodV bw6_27 bw6_29 bw0_63 bw1_10 bw6_30
theorem gVX9_344 : GoodIn BIG (wsV RX9 344 RX9 yX9_clear (wB yX9_clear prog_11_method_38_code 5 none)) := goodV bw6_31 bw6_33 bw0_64 bw1_10 bw6_34
theorem gVX9_391 : GoodIn BIG (wsV RX9 391 RX9 yX9_status (wB yX9_status prog_11_method_30_code 11 none)) := goodV bw6_35 bw6_37 bw0_65 bw1_10 bw6_38
theorem gSX9_319 : GoodIn BIG (va_wsS RX9 319 yX9_isNamed (wB yX9_isNamed prog_11_method_31_code 7 (Option.some FieldType.boolean))) := goodS bw6_39 bw6_40 bw1_10 bw6_41
theorem gVX9_323 : GoodIn BIG (wsV RX9 323 RX9 yX9_confirmPiece (wB yX9_confirmPiece prog_11_method_32_code 7 none)) := goodV bw6_42 bw6_44 bw0_66 bw1_10 bw6_45
theorem gVL_50 : GoodIn BIG (wsV RL 50 RX9 yX9_renew (wB yX9_renew prog_11_method_49_code 5 (Option.some FieldType.int))) := goodV bw6_46 bw6_47 bw6_48 bw1_10 bw6_49
theorem gVX9_402 : GoodIn BIG (wsV RX9 402 RX9 yX9_renewReceiver (wB yX9_renewReceiver prog_11_method_50_code 5 none)) := goodV bw6_50 bw6_52 bw0_67 bw1_10 bw6_53
theorem gVX9_405 : GoodIn BIG (wsV RX9 405 RX9 yX9_awaitReport (wB yX9_awaitReport prog_11_method_43_code 9 none)) := goodV bw6_54 bw6_56 bw0_68 bw1_10 bw6_57
theorem gVL_40 : GoodIn BIG (wsV RL 40 RX9 yX9_rate (wB yX9_rate prog_11_method_51_code 3 (Option.some FieldType.boolean))) := goodV bw6_58 bw6_59 bw6_60 bw1_10 bw6_61
theorem gVL_54 : GoodIn BIG (wsV RL 54 RX9 yX9_block (wB yX9_block prog_11_method_52_code 3 (Option.some FieldType.int))) := goodV bw6_62 bw6_63 bw6_64 bw1_10 bw6_65
theorem gVL_58 : GoodIn BIG (wsV RL 58 RX9 yX9_sender (wB yX9_sender prog_11_method_53_code 7 (Option.some FieldType.int))) := goodV bw6_66 bw6_67 bw6_68 bw1_10 bw6_69
theorem gVL_62 : GoodIn BIG (wsV RL 62 RX9 yX9_receiver (wB yX9_receiver prog_11_method_54_code 7 (Option.some FieldType.int))) := goodV bw6_70 bw6_71 bw6_72 bw1_10 bw6_73
theorem gVL_66 : GoodIn BIG (wsV RL 66 RX9 yX9_delivered (wB yX9_delivered prog_11_method_55_code 7 (Option.some FieldType.int))) := goodV bw6_74 bw6_75 bw6_76 bw1_10 bw6_77
theorem gVL_70 : GoodIn BIG (wsV RL 70 RX9 yX9_unit (wB yX9_unit prog_11_method_56_code 4 (Option.some FieldType.int))) := goodV bw6_78 bw6_79 bw6_80 bw1_10 bw6_81
theorem gVL_74 : GoodIn BIG (wsV RL 74 RX9 yX9_process (wB yX9_process prog_11_method_57_code 6 (Option.some FieldType.int))) := goodV bw6_82 bw6_83 bw6_84 bw1_10 bw6_85
theorem gVL_78 : GoodIn BIG (wsV RL 78 RX9 yX9_world (wB yX9_world prog_11_method_58_code 2 (Option.some FieldType.int))) := goodV bw6_86 bw6_87 bw6_88 bw1_10 bw6_89
