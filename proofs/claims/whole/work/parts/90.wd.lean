/-! the checks put together (printed by wip/whole/gen_wd.py) -/
theorem all_ap {α : Type} {f : α → Bool} {l m : List α} (h : l.all f = true) (g : m.all f = true) : (l ++ m).all f = true := by rw [List.all_append, h, g]; rfl
theorem am_tab232 : am_tab 232 = am_t232 := rfl
theorem am_ok_232 : am_okt 232 = true := by
  unfold am_okt
  rw [am_tab232]
  unfold am_t232
  exact all_ap am_okc_0 (all_ap am_okc_1 (all_ap am_okc_2 (all_ap am_okc_3 (all_ap am_okc_4 (all_ap am_okc_5 (all_ap am_okc_6 (all_ap am_okc_7 (all_ap am_okc_8 (all_ap am_okc_9 (all_ap am_okc_10 (all_ap am_okc_11 (all_ap am_okc_12 (am_okc_13)))))))))))))
theorem am_okx_g0 : ∀ i, i < 20 → am_okt (0 + i) = true
  | 0, _ => am_ok_0
  | 1, _ => am_ok_1
  | 2, _ => am_ok_2
  | 3, _ => am_ok_3
  | 4, _ => am_ok_4
  | 5, _ => am_ok_5
  | 6, _ => am_ok_6
  | 7, _ => am_ok_7
  | 8, _ => am_ok_8
  | 9, _ => am_ok_9
  | 10, _ => am_ok_10
  | 11, _ => am_ok_11
  | 12, _ => am_ok_12
  | 13, _ => am_ok_13
  | 14, _ => am_ok_14
  | 15, _ => am_ok_15
  | 16, _ => am_ok_16
  | 17, _ => am_ok_17
  | 18, _ => am_ok_18
  | 19, _ => am_ok_19
  | _ + 20, h => absurd h (by omega)
theorem am_okx_g20 : ∀ i, i < 20 → am_okt (20 + i) = true
  | 0, _ => am_ok_20
  | 1, _ => am_ok_21
  | 2, _ => am_ok_22
  | 3, _ => am_ok_23
  | 4, _ => am_ok_24
  | 5, _ => am_ok_25
  | 6, _ => am_ok_26
  | 7, _ => am_ok_27
  | 8, _ => am_ok_28
  | 9, _ => am_ok_29
  | 10, _ => am_ok_30
  | 11, _ => am_ok_31
  | 12, _ => am_ok_32
  | 13, _ => am_ok_33
  | 14, _ => am_ok_34
  | 15, _ => am_ok_35
  | 16, _ => am_ok_36
  | 17, _ => am_ok_37
  | 18, _ => am_ok_38
  | 19, _ => am_ok_39
  | _ + 20, h => absurd h (by omega)
theorem am_okx_g40 : ∀ i, i < 20 → am_okt (40 + i) = true
  | 0, _ => am_ok_40
  | 1, _ => am_ok_41
  | 2, _ => am_ok_42
  | 3, _ => am_ok_43
  | 4, _ => am_ok_44
  | 5, _ => am_ok_45
  | 6, _ => am_ok_46
  | 7, _ => am_ok_47
  | 8, _ => am_ok_48
  | 9, _ => am_ok_49
  | 10, _ => am_ok_50
  | 11, _ => am_ok_51
  | 12, _ => am_ok_52
  | 13, _ => am_ok_53
  | 14, _ => am_ok_54
  | 15, _ => am_ok_55
  | 16, _ => am_ok_56
  | 17, _ => am_ok_57
  | 18, _ => am_ok_58
  | 19, _ => am_ok_59
  | _ + 20, h => absurd h (by omega)
theorem am_okx_g60 : ∀ i, i < 20 → am_okt (60 + i) = true
  | 0, _ => am_ok_60
  | 1, _ => am_ok_61
  | 2, _ => am_ok_62
  | 3, _ => am_ok_63
  | 4, _ => am_ok_64
  | 5, _ => am_ok_65
  | 6, _ => am_ok_66
  | 7, _ => am_ok_67
  | 8, _ => am_ok_68
  | 9, _ => am_ok_69
  | 10, _ => am_ok_70
  | 11, _ => am_ok_71
  | 12, _ => am_ok_72
  | 13, _ => am_ok_73
  | 14, _ => am_ok_74
  | 15, _ => am_ok_75
  | 16, _ => am_ok_76
  | 17, _ => am_ok_77
  | 18, _ => am_ok_78
  | 19, _ => am_ok_79
  | _ + 20, h => absurd h (by omega)
theorem am_okx_g80 : ∀ i, i < 20 → am_okt (80 + i) = true
  | 0, _ => am_ok_80
  | 1, _ => am_ok_81
  | 2, _ => am_ok_82
  | 3, _ => am_ok_83
  | 4, _ => am_ok_84
  | 5, _ => am_ok_85
  | 6, _ => am_ok_86
  | 7, _ => am_ok_87
  | 8, _ => am_ok_88
  | 9, _ => am_ok_89
  | 10, _ => am_ok_90
  | 11, _ => am_ok_91
  | 12, _ => am_ok_92
  | 13, _ => am_ok_93
  | 14, _ => am_ok_94
  | 15, _ => am_ok_95
  | 16, _ => am_ok_96
  | 17, _ => am_ok_97
  | 18, _ => am_ok_98
  | 19, _ => am_ok_99
  | _ + 20, h => absurd h (by omega)
theorem am_okx_g100 : ∀ i, i < 20 → am_okt (100 + i) = true
  | 0, _ => am_ok_100
  | 1, _ => am_ok_101
  | 2, _ => am_ok_102
  | 3, _ => am_ok_103
  | 4, _ => am_ok_104
  | 5, _ => am_ok_105
  | 6, _ => am_ok_106
  | 7, _ => am_ok_107
  | 8, _ => am_ok_108
  | 9, _ => am_ok_109
  | 10, _ => am_ok_110
  | 11, _ => am_ok_111
  | 12, _ => am_ok_112
  | 13, _ => am_ok_113
  | 14, _ => am_ok_114
  | 15, _ => am_ok_115
  | 16, _ => am_ok_116
  | 17, _ => am_ok_117
  | 18, _ => am_ok_118
  | 19, _ => am_ok_119
  | _ + 20, h => absurd h (by omega)
theorem am_okx_g120 : ∀ i, i < 20 → am_okt (120 + i) = true
  | 0, _ => am_ok_120
  | 1, _ => am_ok_121
  | 2, _ => am_ok_122
  | 3, _ => am_ok_123
  | 4, _ => am_ok_124
  | 5, _ => am_ok_125
  | 6, _ => am_ok_126
  | 7, _ => am_ok_127
  | 8, _ => am_ok_128
  | 9, _ => am_ok_129
  | 10, _ => am_ok_130
  | 11, _ => am_ok_131
  | 12, _ => am_ok_132
  | 13, _ => am_ok_133
  | 14, _ => am_ok_134
  | 15, _ => am_ok_135
  | 16, _ => am_ok_136
  | 17, _ => am_ok_137
  | 18, _ => am_ok_138
  | 19, _ => am_ok_139
  | _ + 20, h => absurd h (by omega)
theorem am_okx_g140 : ∀ i, i < 20 → am_okt (140 + i) = true
  | 0, _ => am_ok_140
  | 1, _ => am_ok_141
  | 2, _ => am_ok_142
  | 3, _ => am_ok_143
  | 4, _ => am_ok_144
  | 5, _ => am_ok_145
  | 6, _ => am_ok_146
  | 7, _ => am_ok_147
  | 8, _ => am_ok_148
  | 9, _ => am_ok_149
  | 10, _ => am_ok_150
  | 11, _ => am_ok_151
  | 12, _ => am_ok_152
  | 13, _ => am_ok_153
  | 14, _ => am_ok_154
  | 15, _ => am_ok_155
  | 16, _ => am_ok_156
  | 17, _ => am_ok_157
  | 18, _ => am_ok_158
  | 19, _ => am_ok_159
  | _ + 20, h => absurd h (by omega)
theorem am_okx_g160 : ∀ i, i < 20 → am_okt (160 + i) = true
  | 0, _ => am_ok_160
  | 1, _ => am_ok_161
  | 2, _ => am_ok_162
  | 3, _ => am_ok_163
  | 4, _ => am_ok_164
  | 5, _ => am_ok_165
  | 6, _ => am_ok_166
  | 7, _ => am_ok_167
  | 8, _ => am_ok_168
  | 9, _ => am_ok_169
  | 10, _ => am_ok_170
  | 11, _ => am_ok_171
  | 12, _ => am_ok_172
  | 13, _ => am_ok_173
  | 14, _ => am_ok_174
  | 15, _ => am_ok_175
  | 16, _ => am_ok_176
  | 17, _ => am_ok_177
  | 18, _ => am_ok_178
  | 19, _ => am_ok_179
  | _ + 20, h => absurd h (by omega)
theorem am_okx_g180 : ∀ i, i < 20 → am_okt (180 + i) = true
  | 0, _ => am_ok_180
  | 1, _ => am_ok_181
  | 2, _ => am_ok_182
  | 3, _ => am_ok_183
  | 4, _ => am_ok_184
  | 5, _ => am_ok_185
  | 6, _ => am_ok_186
  | 7, _ => am_ok_187
  | 8, _ => am_ok_188
  | 9, _ => am_ok_189
  | 10, _ => am_ok_190
  | 11, _ => am_ok_191
  | 12, _ => am_ok_192
  | 13, _ => am_ok_193
  | 14, _ => am_ok_194
  | 15, _ => am_ok_195
  | 16, _ => am_ok_196
  | 17, _ => am_ok_197
  | 18, _ => am_ok_198
  | 19, _ => am_ok_199
  | _ + 20, h => absurd h (by omega)
theorem am_okx_g200 : ∀ i, i < 20 → am_okt (200 + i) = true
  | 0, _ => am_ok_200
  | 1, _ => am_ok_201
  | 2, _ => am_ok_202
  | 3, _ => am_ok_203
  | 4, _ => am_ok_204
  | 5, _ => am_ok_205
  | 6, _ => am_ok_206
  | 7, _ => am_ok_207
  | 8, _ => am_ok_208
  | 9, _ => am_ok_209
  | 10, _ => am_ok_210
  | 11, _ => am_ok_211
  | 12, _ => am_ok_212
  | 13, _ => am_ok_213
  | 14, _ => am_ok_214
  | 15, _ => am_ok_215
  | 16, _ => am_ok_216
  | 17, _ => am_ok_217
  | 18, _ => am_ok_218
  | 19, _ => am_ok_219
  | _ + 20, h => absurd h (by omega)
theorem am_okx_g220 : ∀ i, i < 13 → am_okt (220 + i) = true
  | 0, _ => am_ok_220
  | 1, _ => am_ok_221
  | 2, _ => am_ok_222
  | 3, _ => am_ok_223
  | 4, _ => am_ok_224
  | 5, _ => am_ok_225
  | 6, _ => am_ok_226
  | 7, _ => am_ok_227
  | 8, _ => am_ok_228
  | 9, _ => am_ok_229
  | 10, _ => am_ok_230
  | 11, _ => am_ok_231
  | 12, _ => am_ok_232
  | _ + 13, h => absurd h (by omega)
theorem am_okx_all : ∀ M, M < 233 → am_okt M = true := by
  intro M h
  rcases Nat.lt_or_ge M 20 with q | q
  · obtain ⟨i, rfl⟩ : ∃ i, M = 0 + i := ⟨M - 0, by omega⟩
    exact am_okx_g0 i (by omega)
  rcases Nat.lt_or_ge M 40 with q | q
  · obtain ⟨i, rfl⟩ : ∃ i, M = 20 + i := ⟨M - 20, by omega⟩
    exact am_okx_g20 i (by omega)
  rcases Nat.lt_or_ge M 60 with q | q
  · obtain ⟨i, rfl⟩ : ∃ i, M = 40 + i := ⟨M - 40, by omega⟩
    exact am_okx_g40 i (by omega)
  rcases Nat.lt_or_ge M 80 with q | q
  · obtain ⟨i, rfl⟩ : ∃ i, M = 60 + i := ⟨M - 60, by omega⟩
    exact am_okx_g60 i (by omega)
  rcases Nat.lt_or_ge M 100 with q | q
  · obtain ⟨i, rfl⟩ : ∃ i, M = 80 + i := ⟨M - 80, by omega⟩
    exact am_okx_g80 i (by omega)
  rcases Nat.lt_or_ge M 120 with q | q
  · obtain ⟨i, rfl⟩ : ∃ i, M = 100 + i := ⟨M - 100, by omega⟩
    exact am_okx_g100 i (by omega)
  rcases Nat.lt_or_ge M 140 with q | q
  · obtain ⟨i, rfl⟩ : ∃ i, M = 120 + i := ⟨M - 120, by omega⟩
    exact am_okx_g120 i (by omega)
  rcases Nat.lt_or_ge M 160 with q | q
  · obtain ⟨i, rfl⟩ : ∃ i, M = 140 + i := ⟨M - 140, by omega⟩
    exact am_okx_g140 i (by omega)
  rcases Nat.lt_or_ge M 180 with q | q
  · obtain ⟨i, rfl⟩ : ∃ i, M = 160 + i := ⟨M - 160, by omega⟩
    exact am_okx_g160 i (by omega)
  rcases Nat.lt_or_ge M 200 with q | q
  · obtain ⟨i, rfl⟩ : ∃ i, M = 180 + i := ⟨M - 180, by omega⟩
    exact am_okx_g180 i (by omega)
  rcases Nat.lt_or_ge M 220 with q | q
  · obtain ⟨i, rfl⟩ : ∃ i, M = 200 + i := ⟨M - 200, by omega⟩
    exact am_okx_g200 i (by omega)
  obtain ⟨i, rfl⟩ : ∃ i, M = 220 + i := ⟨M - 220, by omega⟩
  exact am_okx_g220 i (by omega)
theorem am_mwx_g0 : ∀ i, i < 20 → ∃ q, am_mw (0 + i) q = true
  | 0, _ => ⟨_, am_mw_0⟩
  | 1, _ => ⟨_, am_mw_1⟩
  | 2, _ => ⟨_, am_mw_2⟩
  | 3, _ => ⟨_, am_mw_3⟩
  | 4, _ => ⟨_, am_mw_4⟩
  | 5, _ => ⟨_, am_mw_5⟩
  | 6, _ => ⟨_, am_mw_6⟩
  | 7, _ => ⟨_, am_mw_7⟩
  | 8, _ => ⟨_, am_mw_8⟩
  | 9, _ => ⟨_, am_mw_9⟩
  | 10, _ => ⟨_, am_mw_10⟩
  | 11, _ => ⟨_, am_mw_11⟩
  | 12, _ => ⟨_, am_mw_12⟩
  | 13, _ => ⟨_, am_mw_13⟩
  | 14, _ => ⟨_, am_mw_14⟩
  | 15, _ => ⟨_, am_mw_15⟩
  | 16, _ => ⟨_, am_mw_16⟩
  | 17, _ => ⟨_, am_mw_17⟩
  | 18, _ => ⟨_, am_mw_18⟩
  | 19, _ => ⟨_, am_mw_19⟩
  | _ + 20, h => absurd h (by omega)
theorem am_mwx_g20 : ∀ i, i < 20 → ∃ q, am_mw (20 + i) q = true
  | 0, _ => ⟨_, am_mw_20⟩
  | 1, _ => ⟨_, am_mw_21⟩
  | 2, _ => ⟨_, am_mw_22⟩
  | 3, _ => ⟨_, am_mw_23⟩
  | 4, _ => ⟨_, am_mw_24⟩
  | 5, _ => ⟨_, am_mw_25⟩
  | 6, _ => ⟨_, am_mw_26⟩
  | 7, _ => ⟨_, am_mw_27⟩
  | 8, _ => ⟨_, am_mw_28⟩
  | 9, _ => ⟨_, am_mw_29⟩
  | 10, _ => ⟨_, am_mw_30⟩
  | 11, _ => ⟨_, am_mw_31⟩
  | 12, _ => ⟨_, am_mw_32⟩
  | 13, _ => ⟨_, am_mw_33⟩
  | 14, _ => ⟨_, am_mw_34⟩
  | 15, _ => ⟨_, am_mw_35⟩
  | 16, _ => ⟨_, am_mw_36⟩
  | 17, _ => ⟨_, am_mw_37⟩
  | 18, _ => ⟨_, am_mw_38⟩
  | 19, _ => ⟨_, am_mw_39⟩
  | _ + 20, h => absurd h (by omega)
theorem am_mwx_g40 : ∀ i, i < 20 → ∃ q, am_mw (40 + i) q = true
  | 0, _ => ⟨_, am_mw_40⟩
  | 1, _ => ⟨_, am_mw_41⟩
  | 2, _ => ⟨_, am_mw_42⟩
  | 3, _ => ⟨_, am_mw_43⟩
  | 4, _ => ⟨_, am_mw_44⟩
  | 5, _ => ⟨_, am_mw_45⟩
  | 6, _ => ⟨_, am_mw_46⟩
  | 7, _ => ⟨_, am_mw_47⟩
  | 8, _ => ⟨_, am_mw_48⟩
  | 9, _ => ⟨_, am_mw_49⟩
  | 10, _ => ⟨_, am_mw_50⟩
  | 11, _ => ⟨_, am_mw_51⟩
  | 12, _ => ⟨_, am_mw_52⟩
  | 13, _ => ⟨_, am_mw_53⟩
  | 14, _ => ⟨_, am_mw_54⟩
  | 15, _ => ⟨_, am_mw_55⟩
  | 16, _ => ⟨_, am_mw_56⟩
  | 17, _ => ⟨_, am_mw_57⟩
  | 18, _ => ⟨_, am_mw_58⟩
  | 19, _ => ⟨_, am_mw_59⟩
  | _ + 20, h => absurd h (by omega)
theorem am_mwx_g60 : ∀ i, i < 20 → ∃ q, am_mw (60 + i) q = true
  | 0, _ => ⟨_, am_mw_60⟩
  | 1, _ => ⟨_, am_mw_61⟩
  | 2, _ => ⟨_, am_mw_62⟩
  | 3, _ => ⟨_, am_mw_63⟩
  | 4, _ => ⟨_, am_mw_64⟩
  | 5, _ => ⟨_, am_mw_65⟩
  | 6, _ => ⟨_, am_mw_66⟩
  | 7, _ => ⟨_, am_mw_67⟩
  | 8, _ => ⟨_, am_mw_68⟩
  | 9, _ => ⟨_, am_mw_69⟩
  | 10, _ => ⟨_, am_mw_70⟩
  | 11, _ => ⟨_, am_mw_71⟩
  | 12, _ => ⟨_, am_mw_72⟩
  | 13, _ => ⟨_, am_mw_73⟩
  | 14, _ => ⟨_, am_mw_74⟩
  | 15, _ => ⟨_, am_mw_75⟩
  | 16, _ => ⟨_, am_mw_76⟩
  | 17, _ => ⟨_, am_mw_77⟩
  | 18, _ => ⟨_, am_mw_78⟩
  | 19, _ => ⟨_, am_mw_79⟩
  | _ + 20, h => absurd h (by omega)
theorem am_mwx_g80 : ∀ i, i < 20 → ∃ q, am_mw (80 + i) q = true
  | 0, _ => ⟨_, am_mw_80⟩
  | 1, _ => ⟨_, am_mw_81⟩
  | 2, _ => ⟨_, am_mw_82⟩
  | 3, _ => ⟨_, am_mw_83⟩
  | 4, _ => ⟨_, am_mw_84⟩
  | 5, _ => ⟨_, am_mw_85⟩
  | 6, _ => ⟨_, am_mw_86⟩
  | 7, _ => ⟨_, am_mw_87⟩
  | 8, _ => ⟨_, am_mw_88⟩
  | 9, _ => ⟨_, am_mw_89⟩
  | 10, _ => ⟨_, am_mw_90⟩
  | 11, _ => ⟨_, am_mw_91⟩
  | 12, _ => ⟨_, am_mw_92⟩
  | 13, _ => ⟨_, am_mw_93⟩
  | 14, _ => ⟨_, am_mw_94⟩
  | 15, _ => ⟨_, am_mw_95⟩
  | 16, _ => ⟨_, am_mw_96⟩
  | 17, _ => ⟨_, am_mw_97⟩
  | 18, _ => ⟨_, am_mw_98⟩
  | 19, _ => ⟨_, am_mw_99⟩
  | _ + 20, h => absurd h (by omega)
theorem am_mwx_g100 : ∀ i, i < 20 → ∃ q, am_mw (100 + i) q = true
  | 0, _ => ⟨_, am_mw_100⟩
  | 1, _ => ⟨_, am_mw_101⟩
  | 2, _ => ⟨_, am_mw_102⟩
  | 3, _ => ⟨_, am_mw_103⟩
  | 4, _ => ⟨_, am_mw_104⟩
  | 5, _ => ⟨_, am_mw_105⟩
  | 6, _ => ⟨_, am_mw_106⟩
  | 7, _ => ⟨_, am_mw_107⟩
  | 8, _ => ⟨_, am_mw_108⟩
  | 9, _ => ⟨_, am_mw_109⟩
  | 10, _ => ⟨_, am_mw_110⟩
  | 11, _ => ⟨_, am_mw_111⟩
  | 12, _ => ⟨_, am_mw_112⟩
  | 13, _ => ⟨_, am_mw_113⟩
  | 14, _ => ⟨_, am_mw_114⟩
  | 15, _ => ⟨_, am_mw_115⟩
  | 16, _ => ⟨_, am_mw_116⟩
  | 17, _ => ⟨_, am_mw_117⟩
  | 18, _ => ⟨_, am_mw_118⟩
  | 19, _ => ⟨_, am_mw_119⟩
  | _ + 20, h => absurd h (by omega)
theorem am_mwx_g120 : ∀ i, i < 20 → ∃ q, am_mw (120 + i) q = true
  | 0, _ => ⟨_, am_mw_120⟩
  | 1, _ => ⟨_, am_mw_121⟩
  | 2, _ => ⟨_, am_mw_122⟩
  | 3, _ => ⟨_, am_mw_123⟩
  | 4, _ => ⟨_, am_mw_124⟩
  | 5, _ => ⟨_, am_mw_125⟩
  | 6, _ => ⟨_, am_mw_126⟩
  | 7, _ => ⟨_, am_mw_127⟩
  | 8, _ => ⟨_, am_mw_128⟩
  | 9, _ => ⟨_, am_mw_129⟩
  | 10, _ => ⟨_, am_mw_130⟩
  | 11, _ => ⟨_, am_mw_131⟩
  | 12, _ => ⟨_, am_mw_132⟩
  | 13, _ => ⟨_, am_mw_133⟩
  | 14, _ => ⟨_, am_mw_134⟩
  | 15, _ => ⟨_, am_mw_135⟩
  | 16, _ => ⟨_, am_mw_136⟩
  | 17, _ => ⟨_, am_mw_137⟩
  | 18, _ => ⟨_, am_mw_138⟩
  | 19, _ => ⟨_, am_mw_139⟩
  | _ + 20, h => absurd h (by omega)
theorem am_mwx_g140 : ∀ i, i < 20 → ∃ q, am_mw (140 + i) q = true
  | 0, _ => ⟨_, am_mw_140⟩
  | 1, _ => ⟨_, am_mw_141⟩
  | 2, _ => ⟨_, am_mw_142⟩
  | 3, _ => ⟨_, am_mw_143⟩
  | 4, _ => ⟨_, am_mw_144⟩
  | 5, _ => ⟨_, am_mw_145⟩
  | 6, _ => ⟨_, am_mw_146⟩
  | 7, _ => ⟨_, am_mw_147⟩
  | 8, _ => ⟨_, am_mw_148⟩
  | 9, _ => ⟨_, am_mw_149⟩
  | 10, _ => ⟨_, am_mw_150⟩
  | 11, _ => ⟨_, am_mw_151⟩
  | 12, _ => ⟨_, am_mw_152⟩
  | 13, _ => ⟨_, am_mw_153⟩
  | 14, _ => ⟨_, am_mw_154⟩
  | 15, _ => ⟨_, am_mw_155⟩
  | 16, _ => ⟨_, am_mw_156⟩
  | 17, _ => ⟨_, am_mw_157⟩
  | 18, _ => ⟨_, am_mw_158⟩
  | 19, _ => ⟨_, am_mw_159⟩
  | _ + 20, h => absurd h (by omega)
theorem am_mwx_g160 : ∀ i, i < 20 → ∃ q, am_mw (160 + i) q = true
  | 0, _ => ⟨_, am_mw_160⟩
  | 1, _ => ⟨_, am_mw_161⟩
  | 2, _ => ⟨_, am_mw_162⟩
  | 3, _ => ⟨_, am_mw_163⟩
  | 4, _ => ⟨_, am_mw_164⟩
  | 5, _ => ⟨_, am_mw_165⟩
  | 6, _ => ⟨_, am_mw_166⟩
  | 7, _ => ⟨_, am_mw_167⟩
  | 8, _ => ⟨_, am_mw_168⟩
  | 9, _ => ⟨_, am_mw_169⟩
  | 10, _ => ⟨_, am_mw_170⟩
  | 11, _ => ⟨_, am_mw_171⟩
  | 12, _ => ⟨_, am_mw_172⟩
  | 13, _ => ⟨_, am_mw_173⟩
  | 14, _ => ⟨_, am_mw_174⟩
  | 15, _ => ⟨_, am_mw_175⟩
  | 16, _ => ⟨_, am_mw_176⟩
  | 17, _ => ⟨_, am_mw_177⟩
  | 18, _ => ⟨_, am_mw_178⟩
  | 19, _ => ⟨_, am_mw_179⟩
  | _ + 20, h => absurd h (by omega)
theorem am_mwx_g180 : ∀ i, i < 20 → ∃ q, am_mw (180 + i) q = true
  | 0, _ => ⟨_, am_mw_180⟩
  | 1, _ => ⟨_, am_mw_181⟩
  | 2, _ => ⟨_, am_mw_182⟩
  | 3, _ => ⟨_, am_mw_183⟩
  | 4, _ => ⟨_, am_mw_184⟩
  | 5, _ => ⟨_, am_mw_185⟩
  | 6, _ => ⟨_, am_mw_186⟩
  | 7, _ => ⟨_, am_mw_187⟩
  | 8, _ => ⟨_, am_mw_188⟩
  | 9, _ => ⟨_, am_mw_189⟩
  | 10, _ => ⟨_, am_mw_190⟩
  | 11, _ => ⟨_, am_mw_191⟩
  | 12, _ => ⟨_, am_mw_192⟩
  | 13, _ => ⟨_, am_mw_193⟩
  | 14, _ => ⟨_, am_mw_194⟩
  | 15, _ => ⟨_, am_mw_195⟩
  | 16, _ => ⟨_, am_mw_196⟩
  | 17, _ => ⟨_, am_mw_197⟩
  | 18, _ => ⟨_, am_mw_198⟩
  | 19, _ => ⟨_, am_mw_199⟩
  | _ + 20, h => absurd h (by omega)
theorem am_mwx_g200 : ∀ i, i < 20 → ∃ q, am_mw (200 + i) q = true
  | 0, _ => ⟨_, am_mw_200⟩
  | 1, _ => ⟨_, am_mw_201⟩
  | 2, _ => ⟨_, am_mw_202⟩
  | 3, _ => ⟨_, am_mw_203⟩
  | 4, _ => ⟨_, am_mw_204⟩
  | 5, _ => ⟨_, am_mw_205⟩
  | 6, _ => ⟨_, am_mw_206⟩
  | 7, _ => ⟨_, am_mw_207⟩
  | 8, _ => ⟨_, am_mw_208⟩
  | 9, _ => ⟨_, am_mw_209⟩
  | 10, _ => ⟨_, am_mw_210⟩
  | 11, _ => ⟨_, am_mw_211⟩
  | 12, _ => ⟨_, am_mw_212⟩
  | 13, _ => ⟨_, am_mw_213⟩
  | 14, _ => ⟨_, am_mw_214⟩
  | 15, _ => ⟨_, am_mw_215⟩
  | 16, _ => ⟨_, am_mw_216⟩
  | 17, _ => ⟨_, am_mw_217⟩
  | 18, _ => ⟨_, am_mw_218⟩
  | 19, _ => ⟨_, am_mw_219⟩
  | _ + 20, h => absurd h (by omega)
theorem am_mwx_g220 : ∀ i, i < 12 → ∃ q, am_mw (220 + i) q = true
  | 0, _ => ⟨_, am_mw_220⟩
  | 1, _ => ⟨_, am_mw_221⟩
  | 2, _ => ⟨_, am_mw_222⟩
  | 3, _ => ⟨_, am_mw_223⟩
  | 4, _ => ⟨_, am_mw_224⟩
  | 5, _ => ⟨_, am_mw_225⟩
  | 6, _ => ⟨_, am_mw_226⟩
  | 7, _ => ⟨_, am_mw_227⟩
  | 8, _ => ⟨_, am_mw_228⟩
  | 9, _ => ⟨_, am_mw_229⟩
  | 10, _ => ⟨_, am_mw_230⟩
  | 11, _ => ⟨_, am_mw_231⟩
  | _ + 12, h => absurd h (by omega)
theorem am_mwx_all : ∀ M, M < 232 → ∃ q, am_mw M q = true := by
  intro M h
  rcases Nat.lt_or_ge M 20 with q | q
  · obtain ⟨i, rfl⟩ : ∃ i, M = 0 + i := ⟨M - 0, by omega⟩
    exact am_mwx_g0 i (by omega)
  rcases Nat.lt_or_ge M 40 with q | q
  · obtain ⟨i, rfl⟩ : ∃ i, M = 20 + i := ⟨M - 20, by omega⟩
    exact am_mwx_g20 i (by omega)
  rcases Nat.lt_or_ge M 60 with q | q
  · obtain ⟨i, rfl⟩ : ∃ i, M = 40 + i := ⟨M - 40, by omega⟩
    exact am_mwx_g40 i (by omega)
  rcases Nat.lt_or_ge M 80 with q | q
  · obtain ⟨i, rfl⟩ : ∃ i, M = 60 + i := ⟨M - 60, by omega⟩
    exact am_mwx_g60 i (by omega)
  rcases Nat.lt_or_ge M 100 with q | q
  · obtain ⟨i, rfl⟩ : ∃ i, M = 80 + i := ⟨M - 80, by omega⟩
    exact am_mwx_g80 i (by omega)
  rcases Nat.lt_or_ge M 120 with q | q
  · obtain ⟨i, rfl⟩ : ∃ i, M = 100 + i := ⟨M - 100, by omega⟩
    exact am_mwx_g100 i (by omega)
  rcases Nat.lt_or_ge M 140 with q | q
  · obtain ⟨i, rfl⟩ : ∃ i, M = 120 + i := ⟨M - 120, by omega⟩
    exact am_mwx_g120 i (by omega)
  rcases Nat.lt_or_ge M 160 with q | q
  · obtain ⟨i, rfl⟩ : ∃ i, M = 140 + i := ⟨M - 140, by omega⟩
    exact am_mwx_g140 i (by omega)
  rcases Nat.lt_or_ge M 180 with q | q
  · obtain ⟨i, rfl⟩ : ∃ i, M = 160 + i := ⟨M - 160, by omega⟩
    exact am_mwx_g160 i (by omega)
  rcases Nat.lt_or_ge M 200 with q | q
  · obtain ⟨i, rfl⟩ : ∃ i, M = 180 + i := ⟨M - 180, by omega⟩
    exact am_mwx_g180 i (by omega)
  rcases Nat.lt_or_ge M 220 with q | q
  · obtain ⟨i, rfl⟩ : ∃ i, M = 200 + i := ⟨M - 200, by omega⟩
    exact am_mwx_g200 i (by omega)
  obtain ⟨i, rfl⟩ : ∃ i, M = 220 + i := ⟨M - 220, by omega⟩
  exact am_mwx_g220 i (by omega)
theorem am_Wd_ok : am_Wd := by
  refine ⟨fun M pc e hM hf => ?_, am_mwx_all, fun c hc => ?_⟩
  · have h := List.all_eq_true.mp (am_okx_all M hM) _ (am_look_mem _ _ _ hf)
    rw [Bool.and_eq_true] at h
    exact ⟨h.2, h.1⟩
  · obtain ⟨q, hq⟩ := am_zip_mem (List.range 11) (am_ii.zip am_li) (by decide +kernel) c (List.mem_range.mpr hc)
    exact ⟨q.1, q.2, List.all_eq_true.mp am_cw_ok _ hq⟩
