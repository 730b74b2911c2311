/-! block lemmas (printed by wip/whole/gen_blocks.py): methods 170 to 199 -/
theorem fi_170_0 : am_find 170 0 = some (.iconst 0, 1, 0, 0, 0) := by decide +kernel
theorem fi_170_1 : am_find 170 1 = some (.istore_n 3, 1, 0, 0, 0) := by decide +kernel
theorem fi_170_2 : am_find 170 2 = some (.iconst 0, 1, 0, 0, 0) := by decide +kernel
theorem fi_170_3 : am_find 170 3 = some (.istore 4, 2, 0, 0, 0) := by decide +kernel
theorem fi_170_5 : am_find 170 5 = some (.sipush 529, 3, 0, 529, 0) := by decide +kernel
theorem fi_170_8 : am_find 170 8 = some (.sipush 140, 3, 0, 140, 0) := by decide +kernel
theorem fi_170_11 : am_find 170 11 = some (.iload_n 1, 1, 0, 0, 0) := by decide +kernel
theorem fi_170_12 : am_find 170 12 = some (.imul, 1, 0, 0, 0) := by decide +kernel
theorem fi_170_13 : am_find 170 13 = some (.iadd, 1, 0, 0, 0) := by decide +kernel
theorem fi_170_14 : am_find 170 14 = some (.istore 5, 2, 0, 0, 0) := by decide +kernel
theorem fi_170_16 : am_find 170 16 = some (.iload 5, 2, 0, 0, 0) := by decide +kernel
theorem fi_170_18 : am_find 170 18 = some (.sipush 529, 3, 0, 529, 0) := by decide +kernel
theorem fi_170_21 : am_find 170 21 = some (.sipush 140, 3, 0, 140, 0) := by decide +kernel
theorem fi_170_24 : am_find 170 24 = some (.iload_n 1, 1, 0, 0, 0) := by decide +kernel
theorem fi_170_25 : am_find 170 25 = some (.imul, 1, 0, 0, 0) := by decide +kernel
theorem fi_170_26 : am_find 170 26 = some (.iadd, 1, 0, 0, 0) := by decide +kernel
theorem fi_170_27 : am_find 170 27 = some (.aload_n 0, 1, 0, 0, 0) := by decide +kernel
theorem fi_170_28 : am_find 170 28 = some (.getfield 7, 3, 10, 1, 101) := by decide +kernel
theorem fi_170_31 : am_find 170 31 = some (.sipush 523, 3, 0, 523, 0) := by decide +kernel
theorem fi_170_34 : am_find 170 34 = some (.iload_n 1, 1, 0, 0, 0) := by decide +kernel
theorem fi_170_35 : am_find 170 35 = some (.iadd, 1, 0, 0, 0) := by decide +kernel
theorem fi_170_36 : am_find 170 36 = some (.iaload, 1, 0, 0, 0) := by decide +kernel
theorem fi_170_37 : am_find 170 37 = some (.iadd, 1, 0, 0, 0) := by decide +kernel
theorem fi_170_38 : am_find 170 38 = some (.if_icmp .ge 333, 3, 0, 0, 0) := by decide +kernel
theorem fi_170_41 : am_find 170 41 = some (.aload_n 0, 1, 0, 0, 0) := by decide +kernel
theorem fi_170_42 : am_find 170 42 = some (.getfield 7, 3, 10, 1, 101) := by decide +kernel
theorem fi_170_45 : am_find 170 45 = some (.iload 5, 2, 0, 0, 0) := by decide +kernel
theorem fi_170_47 : am_find 170 47 = some (.iaload, 1, 0, 0, 0) := by decide +kernel
theorem fi_170_48 : am_find 170 48 = some (.istore 6, 2, 0, 0, 0) := by decide +kernel
theorem fi_170_50 : am_find 170 50 = some (.iload 6, 2, 0, 0, 0) := by decide +kernel
theorem fi_170_52 : am_find 170 52 = some (.ifCond .lt 168, 3, 0, 0, 0) := by decide +kernel
theorem fi_170_55 : am_find 170 55 = some (.iload 6, 2, 0, 0, 0) := by decide +kernel
theorem fi_170_57 : am_find 170 57 = some (.iconst 4, 1, 0, 4, 0) := by decide +kernel
theorem fi_170_58 : am_find 170 58 = some (.irem, 1, 0, 0, 0) := by decide +kernel
theorem fi_170_59 : am_find 170 59 = some (.istore 7, 2, 0, 0, 0) := by decide +kernel
theorem fi_170_61 : am_find 170 61 = some (.iload 7, 2, 0, 0, 0) := by decide +kernel
theorem fi_170_63 : am_find 170 63 = some (.ifCond .ne 16, 3, 0, 0, 0) := by decide +kernel
theorem fi_170_66 : am_find 170 66 = some (.aload_n 0, 1, 0, 0, 0) := by decide +kernel
theorem fi_170_67 : am_find 170 67 = some (.getfield 7, 3, 10, 1, 101) := by decide +kernel
theorem fi_170_70 : am_find 170 70 = some (.sipush 130, 3, 0, 130, 0) := by decide +kernel
theorem fi_170_73 : am_find 170 73 = some (.iload_n 2, 1, 0, 0, 0) := by decide +kernel
theorem fi_170_74 : am_find 170 74 = some (.iadd, 1, 0, 0, 0) := by decide +kernel
theorem fi_170_75 : am_find 170 75 = some (.iaload, 1, 0, 0, 0) := by decide +kernel
theorem fi_170_76 : am_find 170 76 = some (.goto 61, 3, 0, 0, 0) := by decide +kernel
theorem fi_170_79 : am_find 170 79 = some (.iload 7, 2, 0, 0, 0) := by decide +kernel
theorem fi_170_81 : am_find 170 81 = some (.iconst 1, 1, 0, 1, 0) := by decide +kernel
theorem fi_170_82 : am_find 170 82 = some (.if_icmp .ne 16, 3, 0, 0, 0) := by decide +kernel
theorem fi_170_85 : am_find 170 85 = some (.aload_n 0, 1, 0, 0, 0) := by decide +kernel
theorem fi_170_86 : am_find 170 86 = some (.getfield 7, 3, 10, 1, 101) := by decide +kernel
theorem fi_170_89 : am_find 170 89 = some (.sipush 138, 3, 0, 138, 0) := by decide +kernel
theorem fi_170_92 : am_find 170 92 = some (.iload_n 2, 1, 0, 0, 0) := by decide +kernel
theorem fi_170_93 : am_find 170 93 = some (.iadd, 1, 0, 0, 0) := by decide +kernel
theorem fi_170_94 : am_find 170 94 = some (.iaload, 1, 0, 0, 0) := by decide +kernel
theorem fi_170_95 : am_find 170 95 = some (.goto 42, 3, 0, 0, 0) := by decide +kernel
theorem fi_170_98 : am_find 170 98 = some (.iload 7, 2, 0, 0, 0) := by decide +kernel
theorem fi_170_100 : am_find 170 100 = some (.iconst 2, 1, 0, 2, 0) := by decide +kernel
theorem fi_170_101 : am_find 170 101 = some (.if_icmp .ne 35, 3, 0, 0, 0) := by decide +kernel
theorem fi_170_104 : am_find 170 104 = some (.aload_n 0, 1, 0, 0, 0) := by decide +kernel
theorem fi_170_105 : am_find 170 105 = some (.getfield 7, 3, 10, 1, 101) := by decide +kernel
theorem fi_170_108 : am_find 170 108 = some (.sipush 146, 3, 0, 146, 0) := by decide +kernel
theorem fi_170_111 : am_find 170 111 = some (.iload_n 2, 1, 0, 0, 0) := by decide +kernel
theorem fi_170_112 : am_find 170 112 = some (.iadd, 1, 0, 0, 0) := by decide +kernel
theorem fi_170_113 : am_find 170 113 = some (.iaload, 1, 0, 0, 0) := by decide +kernel
theorem fi_170_114 : am_find 170 114 = some (.iconst (-1), 1, 0, (-1), 0) := by decide +kernel
theorem fi_170_115 : am_find 170 115 = some (.if_icmp .ne 8, 3, 0, 0, 0) := by decide +kernel
theorem fi_170_118 : am_find 170 118 = some (.bipush 9, 2, 0, 9, 0) := by decide +kernel
theorem fi_170_120 : am_find 170 120 = some (.goto 17, 3, 0, 0, 0) := by decide +kernel
theorem fi_170_123 : am_find 170 123 = some (.aload_n 0, 1, 0, 0, 0) := by decide +kernel
theorem fi_170_124 : am_find 170 124 = some (.getfield 7, 3, 10, 1, 101) := by decide +kernel
theorem fi_170_127 : am_find 170 127 = some (.sipush 146, 3, 0, 146, 0) := by decide +kernel
theorem fi_170_130 : am_find 170 130 = some (.iload_n 2, 1, 0, 0, 0) := by decide +kernel
theorem fi_170_131 : am_find 170 131 = some (.iadd, 1, 0, 0, 0) := by decide +kernel
theorem fi_170_132 : am_find 170 132 = some (.iaload, 1, 0, 0, 0) := by decide +kernel
theorem fi_170_133 : am_find 170 133 = some (.goto 4, 3, 0, 0, 0) := by decide +kernel
theorem fi_170_136 : am_find 170 136 = some (.iload_n 2, 1, 0, 0, 0) := by decide +kernel
theorem fi_170_137 : am_find 170 137 = some (.istore 8, 2, 0, 0, 0) := by decide +kernel
theorem fi_170_139 : am_find 170 139 = some (.iload 6, 2, 0, 0, 0) := by decide +kernel
theorem fi_170_141 : am_find 170 141 = some (.iconst 4, 1, 0, 4, 0) := by decide +kernel
theorem fi_170_142 : am_find 170 142 = some (.idiv, 1, 0, 0, 0) := by decide +kernel
theorem fi_170_143 : am_find 170 143 = some (.iconst 4, 1, 0, 4, 0) := by decide +kernel
theorem fi_170_144 : am_find 170 144 = some (.irem, 1, 0, 0, 0) := by decide +kernel
theorem fi_170_145 : am_find 170 145 = some (.istore 9, 2, 0, 0, 0) := by decide +kernel
theorem fi_170_147 : am_find 170 147 = some (.iload 6, 2, 0, 0, 0) := by decide +kernel
theorem fi_170_149 : am_find 170 149 = some (.bipush 16, 2, 0, 16, 0) := by decide +kernel
theorem fi_170_151 : am_find 170 151 = some (.idiv, 1, 0, 0, 0) := by decide +kernel
theorem fi_170_152 : am_find 170 152 = some (.istore 10, 2, 0, 0, 0) := by decide +kernel
theorem fi_170_154 : am_find 170 154 = some (.aload_n 0, 1, 0, 0, 0) := by decide +kernel
theorem fi_170_155 : am_find 170 155 = some (.getfield 16, 3, 10, 9, 103) := by decide +kernel
theorem fi_170_158 : am_find 170 158 = some (.iload 4, 2, 0, 0, 0) := by decide +kernel
theorem fi_170_160 : am_find 170 160 = some (.iload 9, 2, 0, 0, 0) := by decide +kernel
theorem fi_170_162 : am_find 170 162 = some (.ifCond .ne 18, 3, 0, 0, 0) := by decide +kernel
theorem fi_170_165 : am_find 170 165 = some (.iload 8, 2, 0, 0, 0) := by decide +kernel
theorem fi_170_167 : am_find 170 167 = some (.iload 10, 2, 0, 0, 0) := by decide +kernel
theorem fi_170_169 : am_find 170 169 = some (.if_icmp .ge 7, 3, 0, 0, 0) := by decide +kernel
theorem fi_170_172 : am_find 170 172 = some (.iconst 1, 1, 0, 1, 0) := by decide +kernel
theorem fi_170_173 : am_find 170 173 = some (.goto 40, 3, 0, 0, 0) := by decide +kernel
theorem fi_170_176 : am_find 170 176 = some (.iconst 0, 1, 0, 0, 0) := by decide +kernel
theorem fi_170_177 : am_find 170 177 = some (.goto 36, 3, 0, 0, 0) := by decide +kernel
theorem fi_170_180 : am_find 170 180 = some (.iload 9, 2, 0, 0, 0) := by decide +kernel
theorem fi_170_182 : am_find 170 182 = some (.iconst 1, 1, 0, 1, 0) := by decide +kernel
theorem fi_170_183 : am_find 170 183 = some (.if_icmp .ne 18, 3, 0, 0, 0) := by decide +kernel
theorem fi_170_186 : am_find 170 186 = some (.iload 8, 2, 0, 0, 0) := by decide +kernel
theorem fi_170_188 : am_find 170 188 = some (.iload 10, 2, 0, 0, 0) := by decide +kernel
theorem fi_170_190 : am_find 170 190 = some (.if_icmp .ne 7, 3, 0, 0, 0) := by decide +kernel
theorem fi_170_193 : am_find 170 193 = some (.iconst 1, 1, 0, 1, 0) := by decide +kernel
theorem fi_170_194 : am_find 170 194 = some (.goto 19, 3, 0, 0, 0) := by decide +kernel
theorem fi_170_197 : am_find 170 197 = some (.iconst 0, 1, 0, 0, 0) := by decide +kernel
theorem fi_170_198 : am_find 170 198 = some (.goto 15, 3, 0, 0, 0) := by decide +kernel
theorem fi_170_201 : am_find 170 201 = some (.iload 8, 2, 0, 0, 0) := by decide +kernel
theorem fi_170_203 : am_find 170 203 = some (.iload 10, 2, 0, 0, 0) := by decide +kernel
theorem fi_170_205 : am_find 170 205 = some (.if_icmp .le 7, 3, 0, 0, 0) := by decide +kernel
theorem fi_170_208 : am_find 170 208 = some (.iconst 1, 1, 0, 1, 0) := by decide +kernel
theorem fi_170_209 : am_find 170 209 = some (.goto 4, 3, 0, 0, 0) := by decide +kernel
theorem fi_170_212 : am_find 170 212 = some (.iconst 0, 1, 0, 0, 0) := by decide +kernel
theorem fi_170_213 : am_find 170 213 = some (.bastore, 1, 0, 0, 0) := by decide +kernel
theorem fi_170_214 : am_find 170 214 = some (.iinc 4 1, 3, 0, 0, 0) := by decide +kernel
theorem fi_170_217 : am_find 170 217 = some (.goto 148, 3, 0, 0, 0) := by decide +kernel
theorem fi_170_220 : am_find 170 220 = some (.iload 6, 2, 0, 0, 0) := by decide +kernel
theorem fi_170_222 : am_find 170 222 = some (.iconst (-1), 1, 0, (-1), 0) := by decide +kernel
theorem fi_170_223 : am_find 170 223 = some (.if_icmp .ne 32, 3, 0, 0, 0) := by decide +kernel
theorem fi_170_226 : am_find 170 226 = some (.aload_n 0, 1, 0, 0, 0) := by decide +kernel
theorem fi_170_227 : am_find 170 227 = some (.getfield 16, 3, 10, 9, 103) := by decide +kernel
theorem fi_170_230 : am_find 170 230 = some (.iload 4, 2, 0, 0, 0) := by decide +kernel
theorem fi_170_232 : am_find 170 232 = some (.iconst 1, 1, 0, 1, 0) := by decide +kernel
theorem fi_170_233 : am_find 170 233 = some (.isub, 1, 0, 0, 0) := by decide +kernel
theorem fi_170_234 : am_find 170 234 = some (.aload_n 0, 1, 0, 0, 0) := by decide +kernel
theorem fi_170_235 : am_find 170 235 = some (.getfield 16, 3, 10, 9, 103) := by decide +kernel
theorem fi_170_238 : am_find 170 238 = some (.iload 4, 2, 0, 0, 0) := by decide +kernel
theorem fi_170_240 : am_find 170 240 = some (.iconst 1, 1, 0, 1, 0) := by decide +kernel
theorem fi_170_241 : am_find 170 241 = some (.isub, 1, 0, 0, 0) := by decide +kernel
theorem fi_170_242 : am_find 170 242 = some (.baload, 1, 0, 0, 0) := by decide +kernel
theorem fi_170_243 : am_find 170 243 = some (.ifCond .ne 7, 3, 0, 0, 0) := by decide +kernel
theorem fi_170_246 : am_find 170 246 = some (.iconst 1, 1, 0, 1, 0) := by decide +kernel
theorem fi_170_247 : am_find 170 247 = some (.goto 4, 3, 0, 0, 0) := by decide +kernel
theorem fi_170_250 : am_find 170 250 = some (.iconst 0, 1, 0, 0, 0) := by decide +kernel
theorem fi_170_251 : am_find 170 251 = some (.bastore, 1, 0, 0, 0) := by decide +kernel
theorem fi_170_252 : am_find 170 252 = some (.goto 113, 3, 0, 0, 0) := by decide +kernel
theorem fi_170_255 : am_find 170 255 = some (.iload 6, 2, 0, 0, 0) := by decide +kernel
theorem fi_170_257 : am_find 170 257 = some (.bipush (-10), 2, 0, (-10), 0) := by decide +kernel
theorem fi_170_259 : am_find 170 259 = some (.if_icmp .le 82, 3, 0, 0, 0) := by decide +kernel
theorem fi_170_262 : am_find 170 262 = some (.iinc 4 (-1), 3, 0, 0, 0) := by decide +kernel
theorem fi_170_265 : am_find 170 265 = some (.aload_n 0, 1, 0, 0, 0) := by decide +kernel
theorem fi_170_266 : am_find 170 266 = some (.getfield 16, 3, 10, 9, 103) := by decide +kernel
theorem fi_170_269 : am_find 170 269 = some (.iload 4, 2, 0, 0, 0) := by decide +kernel
theorem fi_170_271 : am_find 170 271 = some (.iconst 1, 1, 0, 1, 0) := by decide +kernel
theorem fi_170_272 : am_find 170 272 = some (.isub, 1, 0, 0, 0) := by decide +kernel
theorem fi_170_273 : am_find 170 273 = some (.iload 6, 2, 0, 0, 0) := by decide +kernel
theorem fi_170_275 : am_find 170 275 = some (.bipush (-2), 2, 0, (-2), 0) := by decide +kernel
theorem fi_170_277 : am_find 170 277 = some (.if_icmp .ne 33, 3, 0, 0, 0) := by decide +kernel
theorem fi_170_280 : am_find 170 280 = some (.aload_n 0, 1, 0, 0, 0) := by decide +kernel
theorem fi_170_281 : am_find 170 281 = some (.getfield 16, 3, 10, 9, 103) := by decide +kernel
theorem fi_170_284 : am_find 170 284 = some (.iload 4, 2, 0, 0, 0) := by decide +kernel
theorem fi_170_286 : am_find 170 286 = some (.iconst 1, 1, 0, 1, 0) := by decide +kernel
theorem fi_170_287 : am_find 170 287 = some (.isub, 1, 0, 0, 0) := by decide +kernel
theorem fi_170_288 : am_find 170 288 = some (.baload, 1, 0, 0, 0) := by decide +kernel
theorem fi_170_289 : am_find 170 289 = some (.ifCond .eq 17, 3, 0, 0, 0) := by decide +kernel
theorem fi_170_292 : am_find 170 292 = some (.aload_n 0, 1, 0, 0, 0) := by decide +kernel
theorem fi_170_293 : am_find 170 293 = some (.getfield 16, 3, 10, 9, 103) := by decide +kernel
theorem fi_170_296 : am_find 170 296 = some (.iload 4, 2, 0, 0, 0) := by decide +kernel
theorem fi_170_298 : am_find 170 298 = some (.baload, 1, 0, 0, 0) := by decide +kernel
theorem fi_170_299 : am_find 170 299 = some (.ifCond .eq 7, 3, 0, 0, 0) := by decide +kernel
theorem fi_170_302 : am_find 170 302 = some (.iconst 1, 1, 0, 1, 0) := by decide +kernel
theorem fi_170_303 : am_find 170 303 = some (.goto 34, 3, 0, 0, 0) := by decide +kernel
theorem fi_170_306 : am_find 170 306 = some (.iconst 0, 1, 0, 0, 0) := by decide +kernel
theorem fi_170_307 : am_find 170 307 = some (.goto 30, 3, 0, 0, 0) := by decide +kernel
theorem fi_170_310 : am_find 170 310 = some (.aload_n 0, 1, 0, 0, 0) := by decide +kernel
theorem fi_170_311 : am_find 170 311 = some (.getfield 16, 3, 10, 9, 103) := by decide +kernel
theorem fi_170_314 : am_find 170 314 = some (.iload 4, 2, 0, 0, 0) := by decide +kernel
theorem fi_170_316 : am_find 170 316 = some (.iconst 1, 1, 0, 1, 0) := by decide +kernel
theorem fi_170_317 : am_find 170 317 = some (.isub, 1, 0, 0, 0) := by decide +kernel
theorem fi_170_318 : am_find 170 318 = some (.baload, 1, 0, 0, 0) := by decide +kernel
theorem fi_170_319 : am_find 170 319 = some (.ifCond .ne 13, 3, 0, 0, 0) := by decide +kernel
theorem fi_170_322 : am_find 170 322 = some (.aload_n 0, 1, 0, 0, 0) := by decide +kernel
theorem fi_170_323 : am_find 170 323 = some (.getfield 16, 3, 10, 9, 103) := by decide +kernel
theorem fi_170_326 : am_find 170 326 = some (.iload 4, 2, 0, 0, 0) := by decide +kernel
theorem fi_170_328 : am_find 170 328 = some (.baload, 1, 0, 0, 0) := by decide +kernel
theorem fi_170_329 : am_find 170 329 = some (.ifCond .eq 7, 3, 0, 0, 0) := by decide +kernel
theorem fi_170_332 : am_find 170 332 = some (.iconst 1, 1, 0, 1, 0) := by decide +kernel
theorem fi_170_333 : am_find 170 333 = some (.goto 4, 3, 0, 0, 0) := by decide +kernel
theorem fi_170_336 : am_find 170 336 = some (.iconst 0, 1, 0, 0, 0) := by decide +kernel
theorem fi_170_337 : am_find 170 337 = some (.bastore, 1, 0, 0, 0) := by decide +kernel
theorem fi_170_338 : am_find 170 338 = some (.goto 27, 3, 0, 0, 0) := by decide +kernel
theorem fi_170_341 : am_find 170 341 = some (.iconst 0, 1, 0, 0, 0) := by decide +kernel
theorem fi_170_342 : am_find 170 342 = some (.istore 4, 2, 0, 0, 0) := by decide +kernel
theorem fi_170_344 : am_find 170 344 = some (.iload_n 3, 1, 0, 0, 0) := by decide +kernel
theorem fi_170_345 : am_find 170 345 = some (.aload_n 0, 1, 0, 0, 0) := by decide +kernel
theorem fi_170_346 : am_find 170 346 = some (.getfield 16, 3, 10, 9, 103) := by decide +kernel
theorem fi_170_349 : am_find 170 349 = some (.iconst 0, 1, 0, 0, 0) := by decide +kernel
theorem fi_170_350 : am_find 170 350 = some (.baload, 1, 0, 0, 0) := by decide +kernel
theorem fi_170_351 : am_find 170 351 = some (.ifCond .eq 11, 3, 0, 0, 0) := by decide +kernel
theorem fi_170_354 : am_find 170 354 = some (.bipush (-10), 2, 0, (-10), 0) := by decide +kernel
theorem fi_170_356 : am_find 170 356 = some (.iload 6, 2, 0, 0, 0) := by decide +kernel
theorem fi_170_358 : am_find 170 358 = some (.isub, 1, 0, 0, 0) := by decide +kernel
theorem fi_170_359 : am_find 170 359 = some (.goto 4, 3, 0, 0, 0) := by decide +kernel
theorem fi_170_362 : am_find 170 362 = some (.iconst 0, 1, 0, 0, 0) := by decide +kernel
theorem fi_170_363 : am_find 170 363 = some (.iadd, 1, 0, 0, 0) := by decide +kernel
theorem fi_170_364 : am_find 170 364 = some (.istore_n 3, 1, 0, 0, 0) := by decide +kernel
theorem fi_170_365 : am_find 170 365 = some (.iinc 5 1, 3, 0, 0, 0) := by decide +kernel
theorem fi_170_368 : am_find 170 368 = some (.goto (-352), 3, 0, 0, 0) := by decide +kernel
theorem fi_170_371 : am_find 170 371 = some (.iload_n 3, 1, 0, 0, 0) := by decide +kernel
theorem fi_170_372 : am_find 170 372 = some (.ireturn, 1, 0, 0, 0) := by decide +kernel
theorem b170_0 {d L : Nat} {σ : St} {Q : Option AV → AW → Prop} {x1 : Int} {u0 u2 u3 u4 u5 u6 u7 u8 u9 u10 : AV} (h1 : -2147483648 ≤ 140 * x1 ∧ 140 * x1 ≤ 2147483647) (h2 : -2147483648 ≤ 529 + (140 * x1) ∧ 529 + (140 * x1) ≤ 2147483647) : R d 170 0 [u0, vI x1, u2, u3, u4, u5, u6, u7, u8, u9, u10] [] (WS L σ) Q = R d 170 16 [u0, vI x1, u2, vI 0, vI 0, vI (529 + (140 * x1)), u6, u7, u8, u9, u10] [] (WS L σ) Q := K_iconst fi_170_0 <| K_istore_n fi_170_1 (Nat.le_of_ble_eq_true rfl) rfl rfl <| K_iconst fi_170_2 <| K_istore fi_170_3 (Nat.le_of_ble_eq_true rfl) rfl rfl <| K_sipush fi_170_5 <| K_sipush fi_170_8 <| K_iload_n fi_170_11 rfl <| K_imulx fi_170_12 h1 <| K_iaddx fi_170_13 h2 <| K_istore fi_170_14 (Nat.le_of_ble_eq_true rfl) rfl rfl <| rfl
theorem b170_16 {d L : Nat} {σ : St} {Q : Option AV → AW → Prop} {x5 x1 : Int} {u2 u3 u4 u6 u7 u8 u9 u10 : AV} (h1 : -2147483648 ≤ 140 * x1 ∧ 140 * x1 ≤ 2147483647) (h2 : -2147483648 ≤ 529 + (140 * x1) ∧ 529 + (140 * x1) ≤ 2147483647) (h3 : -2147483648 ≤ 523 + x1 ∧ 523 + x1 ≤ 2147483647) (h4 : 0 ≤ 523 + x1) (h5 : (523 + x1) < 1580) (h6 : -2147483648 ≤ (529 + (140 * x1)) + (σ 154 (523 + x1)) ∧ (529 + (140 * x1)) + (σ 154 (523 + x1)) ≤ 2147483647) : R d 170 16 [vR 153, vI x1, u2, u3, u4, vI x5, u6, u7, u8, u9, u10] [] (WS L σ) Q = if ((529 + (140 * x1)) + (σ 154 (523 + x1))) ≤ x5 then R d 170 371 [vR 153, vI x1, u2, u3, u4, vI x5, u6, u7, u8, u9, u10] [] (WS L σ) Q else R d 170 41 [vR 153, vI x1, u2, u3, u4, vI x5, u6, u7, u8, u9, u10] [] (WS L σ) Q := K_iload fi_170_16 rfl <| K_sipush fi_170_18 <| K_sipush fi_170_21 <| K_iload_n fi_170_24 rfl <| K_imulx fi_170_25 h1 <| K_iaddx fi_170_26 h2 <| K_aload_n fi_170_27 rfl <| K_gf fi_170_28 kd_153 mk_153_1 <| K_sipush fi_170_31 <| K_iload_n fi_170_34 rfl <| K_iaddx fi_170_35 h3 <| K_ia fi_170_36 kd_154 h4 h5 <| K_iaddx fi_170_37 h6 <| R_icmp_ge fi_170_38 rfl
theorem b170_41 {d L : Nat} {σ : St} {Q : Option AV → AW → Prop} {x5 : Int} {u1 u2 u3 u4 u6 u7 u8 u9 u10 : AV} (h1 : 0 ≤ x5) (h2 : x5 < 1580) : R d 170 41 [vR 153, u1, u2, u3, u4, vI x5, u6, u7, u8, u9, u10] [] (WS L σ) Q = if (σ 154 x5) < 0 then R d 170 220 [vR 153, u1, u2, u3, u4, vI x5, vI (σ 154 x5), u7, u8, u9, u10] [] (WS L σ) Q else R d 170 55 [vR 153, u1, u2, u3, u4, vI x5, vI (σ 154 x5), u7, u8, u9, u10] [] (WS L σ) Q := K_aload_n fi_170_41 rfl <| K_gf fi_170_42 kd_153 mk_153_1 <| K_iload fi_170_45 rfl <| K_ia fi_170_47 kd_154 h1 h2 <| K_istore fi_170_48 (Nat.le_of_ble_eq_true rfl) rfl rfl <| K_iload fi_170_50 rfl <| R_if_lt fi_170_52 rfl
theorem b170_55 {d L : Nat} {σ : St} {Q : Option AV → AW → Prop} {x6 : Int} {u0 u1 u2 u3 u4 u5 u7 u8 u9 u10 : AV} : R d 170 55 [u0, u1, u2, u3, u4, u5, vI x6, u7, u8, u9, u10] [] (WS L σ) Q = if ¬ (i_rem x6 4) = 0 then R d 170 79 [u0, u1, u2, u3, u4, u5, vI x6, vI (i_rem x6 4), u8, u9, u10] [] (WS L σ) Q else R d 170 66 [u0, u1, u2, u3, u4, u5, vI x6, vI (i_rem x6 4), u8, u9, u10] [] (WS L σ) Q := K_iload fi_170_55 rfl <| K_iconst fi_170_57 <| K_irem fi_170_58 (by decide) <| K_istore fi_170_59 (Nat.le_of_ble_eq_true rfl) rfl rfl <| K_iload fi_170_61 rfl <| R_if_ne fi_170_63 rfl
theorem b170_66 {d L : Nat} {σ : St} {Q : Option AV → AW → Prop} {x2 : Int} {u1 u3 u4 u5 u6 u7 u8 u9 u10 : AV} (h1 : -2147483648 ≤ 130 + x2 ∧ 130 + x2 ≤ 2147483647) (h2 : 0 ≤ 130 + x2) (h3 : (130 + x2) < 1580) : R d 170 66 [vR 153, u1, vI x2, u3, u4, u5, u6, u7, u8, u9, u10] [] (WS L σ) Q = R d 170 137 [vR 153, u1, vI x2, u3, u4, u5, u6, u7, u8, u9, u10] [vI (σ 154 (130 + x2))] (WS L σ) Q := K_aload_n fi_170_66 rfl <| K_gf fi_170_67 kd_153 mk_153_1 <| K_sipush fi_170_70 <| K_iload_n fi_170_73 rfl <| K_iaddx fi_170_74 h1 <| K_ia fi_170_75 kd_154 h2 h3 <| R_goto fi_170_76 rfl
theorem b170_79 {d L : Nat} {σ : St} {Q : Option AV → AW → Prop} {x7 : Int} {u0 u1 u2 u3 u4 u5 u6 u8 u9 u10 : AV} : R d 170 79 [u0, u1, u2, u3, u4, u5, u6, vI x7, u8, u9, u10] [] (WS L σ) Q = if ¬ x7 = 1 then R d 170 98 [u0, u1, u2, u3, u4, u5, u6, vI x7, u8, u9, u10] [] (WS L σ) Q else R d 170 85 [u0, u1, u2, u3, u4, u5, u6, vI x7, u8, u9, u10] [] (WS L σ) Q := K_iload fi_170_79 rfl <| K_iconst fi_170_81 <| R_icmp_ne fi_170_82 rfl
theorem b170_85 {d L : Nat} {σ : St} {Q : Option AV → AW → Prop} {x2 : Int} {u1 u3 u4 u5 u6 u7 u8 u9 u10 : AV} (h1 : -2147483648 ≤ 138 + x2 ∧ 138 + x2 ≤ 2147483647) (h2 : 0 ≤ 138 + x2) (h3 : (138 + x2) < 1580) : R d 170 85 [vR 153, u1, vI x2, u3, u4, u5, u6, u7, u8, u9, u10] [] (WS L σ) Q = R d 170 137 [vR 153, u1, vI x2, u3, u4, u5, u6, u7, u8, u9, u10] [vI (σ 154 (138 + x2))] (WS L σ) Q := K_aload_n fi_170_85 rfl <| K_gf fi_170_86 kd_153 mk_153_1 <| K_sipush fi_170_89 <| K_iload_n fi_170_92 rfl <| K_iaddx fi_170_93 h1 <| K_ia fi_170_94 kd_154 h2 h3 <| R_goto fi_170_95 rfl
theorem b170_98 {d L : Nat} {σ : St} {Q : Option AV → AW → Prop} {x7 : Int} {u0 u1 u2 u3 u4 u5 u6 u8 u9 u10 : AV} : R d 170 98 [u0, u1, u2, u3, u4, u5, u6, vI x7, u8, u9, u10] [] (WS L σ) Q = if ¬ x7 = 2 then R d 170 136 [u0, u1, u2, u3, u4, u5, u6, vI x7, u8, u9, u10] [] (WS L σ) Q else R d 170 104 [u0, u1, u2, u3, u4, u5, u6, vI x7, u8, u9, u10] [] (WS L σ) Q := K_iload fi_170_98 rfl <| K_iconst fi_170_100 <| R_icmp_ne fi_170_101 rfl
theorem b170_104 {d L : Nat} {σ : St} {Q : Option AV → AW → Prop} {x2 : Int} {u1 u3 u4 u5 u6 u7 u8 u9 u10 : AV} (h1 : -2147483648 ≤ 146 + x2 ∧ 146 + x2 ≤ 2147483647) (h2 : 0 ≤ 146 + x2) (h3 : (146 + x2) < 1580) : R d 170 104 [vR 153, u1, vI x2, u3, u4, u5, u6, u7, u8, u9, u10] [] (WS L σ) Q = if ¬ (σ 154 (146 + x2)) = (-1) then R d 170 123 [vR 153, u1, vI x2, u3, u4, u5, u6, u7, u8, u9, u10] [] (WS L σ) Q else R d 170 118 [vR 153, u1, vI x2, u3, u4, u5, u6, u7, u8, u9, u10] [] (WS L σ) Q := K_aload_n fi_170_104 rfl <| K_gf fi_170_105 kd_153 mk_153_1 <| K_sipush fi_170_108 <| K_iload_n fi_170_111 rfl <| K_iaddx fi_170_112 h1 <| K_ia fi_170_113 kd_154 h2 h3 <| K_iconst fi_170_114 <| R_icmp_ne fi_170_115 rfl
theorem b170_118 {d L : Nat} {σ : St} {Q : Option AV → AW → Prop} {u0 u1 u2 u3 u4 u5 u6 u7 u8 u9 u10 : AV} : R d 170 118 [u0, u1, u2, u3, u4, u5, u6, u7, u8, u9, u10] [] (WS L σ) Q = R d 170 137 [u0, u1, u2, u3, u4, u5, u6, u7, u8, u9, u10] [vI 9] (WS L σ) Q := K_bipush fi_170_118 <| R_goto fi_170_120 rfl
theorem b170_123 {d L : Nat} {σ : St} {Q : Option AV → AW → Prop} {x2 : Int} {u1 u3 u4 u5 u6 u7 u8 u9 u10 : AV} (h1 : -2147483648 ≤ 146 + x2 ∧ 146 + x2 ≤ 2147483647) (h2 : 0 ≤ 146 + x2) (h3 : (146 + x2) < 1580) : R d 170 123 [vR 153, u1, vI x2, u3, u4, u5, u6, u7, u8, u9, u10] [] (WS L σ) Q = R d 170 137 [vR 153, u1, vI x2, u3, u4, u5, u6, u7, u8, u9, u10] [vI (σ 154 (146 + x2))] (WS L σ) Q := K_aload_n fi_170_123 rfl <| K_gf fi_170_124 kd_153 mk_153_1 <| K_sipush fi_170_127 <| K_iload_n fi_170_130 rfl <| K_iaddx fi_170_131 h1 <| K_ia fi_170_132 kd_154 h2 h3 <| R_goto fi_170_133 rfl
theorem b170_136 {d L : Nat} {σ : St} {Q : Option AV → AW → Prop} {x2 : Int} {u0 u1 u3 u4 u5 u6 u7 u8 u9 u10 : AV} : R d 170 136 [u0, u1, vI x2, u3, u4, u5, u6, u7, u8, u9, u10] [] (WS L σ) Q = R d 170 137 [u0, u1, vI x2, u3, u4, u5, u6, u7, u8, u9, u10] [vI x2] (WS L σ) Q := K_iload_n fi_170_136 rfl <| rfl
theorem b170_137 {d L : Nat} {σ : St} {Q : Option AV → AW → Prop} {y0 x6 x4 : Int} {u1 u2 u3 u5 u7 u8 u9 u10 : AV} : R d 170 137 [vR 153, u1, u2, u3, vI x4, u5, vI x6, u7, u8, u9, u10] [vI y0] (WS L σ) Q = if ¬ (i_rem (i_div x6 4) 4) = 0 then R d 170 180 [vR 153, u1, u2, u3, vI x4, u5, vI x6, u7, vI y0, vI (i_rem (i_div x6 4) 4), vI (i_div x6 16)] [vI x4, vR 156] (WS L σ) Q else R d 170 165 [vR 153, u1, u2, u3, vI x4, u5, vI x6, u7, vI y0, vI (i_rem (i_div x6 4) 4), vI (i_div x6 16)] [vI x4, vR 156] (WS L σ) Q := K_istore fi_170_137 (Nat.le_of_ble_eq_true rfl) rfl rfl <| K_iload fi_170_139 rfl <| K_iconst fi_170_141 <| K_idiv fi_170_142 (by decide) <| K_iconst fi_170_143 <| K_irem fi_170_144 (by decide) <| K_istore fi_170_145 (Nat.le_of_ble_eq_true rfl) rfl rfl <| K_iload fi_170_147 rfl <| K_bipush fi_170_149 <| K_idiv fi_170_151 (by decide) <| K_istore fi_170_152 (Nat.le_of_ble_eq_true rfl) rfl rfl <| K_aload_n fi_170_154 rfl <| K_gf fi_170_155 kd_153 mk_153_9 <| K_iload fi_170_158 rfl <| K_iload fi_170_160 rfl <| R_if_ne fi_170_162 rfl
theorem b170_165 {d L : Nat} {σ : St} {Q : Option AV → AW → Prop} {y0 x8 x10 : Int} {u0 u1 u2 u3 u4 u5 u6 u7 u9 : AV} : R d 170 165 [u0, u1, u2, u3, u4, u5, u6, u7, vI x8, u9, vI x10] [vI y0, vR 156] (WS L σ) Q = if x10 ≤ x8 then R d 170 176 [u0, u1, u2, u3, u4, u5, u6, u7, vI x8, u9, vI x10] [vI y0, vR 156] (WS L σ) Q else R d 170 172 [u0, u1, u2, u3, u4, u5, u6, u7, vI x8, u9, vI x10] [vI y0, vR 156] (WS L σ) Q := K_iload fi_170_165 rfl <| K_iload fi_170_167 rfl <| R_icmp_ge fi_170_169 rfl
theorem b170_172 {d L : Nat} {σ : St} {Q : Option AV → AW → Prop} {y0 : Int} {u0 u1 u2 u3 u4 u5 u6 u7 u8 u9 u10 : AV} : R d 170 172 [u0, u1, u2, u3, u4, u5, u6, u7, u8, u9, u10] [vI y0, vR 156] (WS L σ) Q = R d 170 213 [u0, u1, u2, u3, u4, u5, u6, u7, u8, u9, u10] [vI 1, vI y0, vR 156] (WS L σ) Q := K_iconst fi_170_172 <| R_goto fi_170_173 rfl
theorem b170_176 {d L : Nat} {σ : St} {Q : Option AV → AW → Prop} {y0 : Int} {u0 u1 u2 u3 u4 u5 u6 u7 u8 u9 u10 : AV} : R d 170 176 [u0, u1, u2, u3, u4, u5, u6, u7, u8, u9, u10] [vI y0, vR 156] (WS L σ) Q = R d 170 213 [u0, u1, u2, u3, u4, u5, u6, u7, u8, u9, u10] [vI 0, vI y0, vR 156] (WS L σ) Q := K_iconst fi_170_176 <| R_goto fi_170_177 rfl
theorem b170_180 {d L : Nat} {σ : St} {Q : Option AV → AW → Prop} {y0 x9 : Int} {u0 u1 u2 u3 u4 u5 u6 u7 u8 u10 : AV} : R d 170 180 [u0, u1, u2, u3, u4, u5, u6, u7, u8, vI x9, u10] [vI y0, vR 156] (WS L σ) Q = if ¬ x9 = 1 then R d 170 201 [u0, u1, u2, u3, u4, u5, u6, u7, u8, vI x9, u10] [vI y0, vR 156] (WS L σ) Q else R d 170 186 [u0, u1, u2, u3, u4, u5, u6, u7, u8, vI x9, u10] [vI y0, vR 156] (WS L σ) Q := K_iload fi_170_180 rfl <| K_iconst fi_170_182 <| R_icmp_ne fi_170_183 rfl
theorem b170_186 {d L : Nat} {σ : St} {Q : Option AV → AW → Prop} {y0 x8 x10 : Int} {u0 u1 u2 u3 u4 u5 u6 u7 u9 : AV} : R d 170 186 [u0, u1, u2, u3, u4, u5, u6, u7, vI x8, u9, vI x10] [vI y0, vR 156] (WS L σ) Q = if ¬ x8 = x10 then R d 170 197 [u0, u1, u2, u3, u4, u5, u6, u7, vI x8, u9, vI x10] [vI y0, vR 156] (WS L σ) Q else R d 170 193 [u0, u1, u2, u3, u4, u5, u6, u7, vI x8, u9, vI x10] [vI y0, vR 156] (WS L σ) Q := K_iload fi_170_186 rfl <| K_iload fi_170_188 rfl <| R_icmp_ne fi_170_190 rfl
theorem b170_193 {d L : Nat} {σ : St} {Q : Option AV → AW → Prop} {y0 : Int} {u0 u1 u2 u3 u4 u5 u6 u7 u8 u9 u10 : AV} : R d 170 193 [u0, u1, u2, u3, u4, u5, u6, u7, u8, u9, u10] [vI y0, vR 156] (WS L σ) Q = R d 170 213 [u0, u1, u2, u3, u4, u5, u6, u7, u8, u9, u10] [vI 1, vI y0, vR 156] (WS L σ) Q := K_iconst fi_170_193 <| R_goto fi_170_194 rfl
theorem b170_197 {d L : Nat} {σ : St} {Q : Option AV → AW → Prop} {y0 : Int} {u0 u1 u2 u3 u4 u5 u6 u7 u8 u9 u10 : AV} : R d 170 197 [u0, u1, u2, u3, u4, u5, u6, u7, u8, u9, u10] [vI y0, vR 156] (WS L σ) Q = R d 170 213 [u0, u1, u2, u3, u4, u5, u6, u7, u8, u9, u10] [vI 0, vI y0, vR 156] (WS L σ) Q := K_iconst fi_170_197 <| R_goto fi_170_198 rfl
theorem b170_201 {d L : Nat} {σ : St} {Q : Option AV → AW → Prop} {y0 x8 x10 : Int} {u0 u1 u2 u3 u4 u5 u6 u7 u9 : AV} : R d 170 201 [u0, u1, u2, u3, u4, u5, u6, u7, vI x8, u9, vI x10] [vI y0, vR 156] (WS L σ) Q = if x8 ≤ x10 then R d 170 212 [u0, u1, u2, u3, u4, u5, u6, u7, vI x8, u9, vI x10] [vI y0, vR 156] (WS L σ) Q else R d 170 208 [u0, u1, u2, u3, u4, u5, u6, u7, vI x8, u9, vI x10] [vI y0, vR 156] (WS L σ) Q := K_iload fi_170_201 rfl <| K_iload fi_170_203 rfl <| R_icmp_le fi_170_205 rfl
theorem b170_208 {d L : Nat} {σ : St} {Q : Option AV → AW → Prop} {y0 : Int} {u0 u1 u2 u3 u4 u5 u6 u7 u8 u9 u10 : AV} : R d 170 208 [u0, u1, u2, u3, u4, u5, u6, u7, u8, u9, u10] [vI y0, vR 156] (WS L σ) Q = R d 170 213 [u0, u1, u2, u3, u4, u5, u6, u7, u8, u9, u10] [vI 1, vI y0, vR 156] (WS L σ) Q := K_iconst fi_170_208 <| R_goto fi_170_209 rfl
theorem b170_212 {d L : Nat} {σ : St} {Q : Option AV → AW → Prop} {y0 : Int} {u0 u1 u2 u3 u4 u5 u6 u7 u8 u9 u10 : AV} : R d 170 212 [u0, u1, u2, u3, u4, u5, u6, u7, u8, u9, u10] [vI y0, vR 156] (WS L σ) Q = R d 170 213 [u0, u1, u2, u3, u4, u5, u6, u7, u8, u9, u10] [vI 0, vI y0, vR 156] (WS L σ) Q := K_iconst fi_170_212 <| rfl
theorem b170_213 {d L : Nat} {σ : St} {Q : Option AV → AW → Prop} {y0 y1 : Int} {u0 u1 u2 u3 u4 u5 u6 u7 u8 u9 u10 : AV} (h1 : 0 ≤ y1) (h2 : y1 < 64) (h3 : am_bit y0 = true) : R d 170 213 [u0, u1, u2, u3, u4, u5, u6, u7, u8, u9, u10] [vI y0, vI y1, vR 156] (WS L σ) Q = R d 170 214 [u0, u1, u2, u3, u4, u5, u6, u7, u8, u9, u10] [] (WS L (st2 σ 156 y1 y0)) Q := K_zs fi_170_213 kd_156 h1 h2 h3 <| rfl
theorem b170_214 {d L : Nat} {σ : St} {Q : Option AV → AW → Prop} {x4 : Int} {u0 u1 u2 u3 u5 u6 u7 u8 u9 u10 : AV} (h1 : -2147483648 ≤ x4 + 1 ∧ x4 + 1 ≤ 2147483647) : R d 170 214 [u0, u1, u2, u3, vI x4, u5, u6, u7, u8, u9, u10] [] (WS L σ) Q = R d 170 365 [u0, u1, u2, u3, vI (x4 + 1), u5, u6, u7, u8, u9, u10] [] (WS L σ) Q := K_iincx fi_170_214 rfl (Nat.le_of_ble_eq_true rfl) rfl h1 rfl <| R_goto fi_170_217 rfl
theorem b170_220 {d L : Nat} {σ : St} {Q : Option AV → AW → Prop} {x6 : Int} {u0 u1 u2 u3 u4 u5 u7 u8 u9 u10 : AV} : R d 170 220 [u0, u1, u2, u3, u4, u5, vI x6, u7, u8, u9, u10] [] (WS L σ) Q = if ¬ x6 = (-1) then R d 170 255 [u0, u1, u2, u3, u4, u5, vI x6, u7, u8, u9, u10] [] (WS L σ) Q else R d 170 226 [u0, u1, u2, u3, u4, u5, vI x6, u7, u8, u9, u10] [] (WS L σ) Q := K_iload fi_170_220 rfl <| K_iconst fi_170_222 <| R_icmp_ne fi_170_223 rfl
theorem b170_226 {d L : Nat} {σ : St} {Q : Option AV → AW → Prop} {x4 : Int} {u1 u2 u3 u5 u6 u7 u8 u9 u10 : AV} (h1 : -2147483648 ≤ x4 - 1 ∧ x4 - 1 ≤ 2147483647) (h2 : 0 ≤ x4 - 1) (h3 : (x4 - 1) < 64) : R d 170 226 [vR 153, u1, u2, u3, vI x4, u5, u6, u7, u8, u9, u10] [] (WS L σ) Q = if ¬ (σ 156 (x4 - 1)) = 0 then R d 170 250 [vR 153, u1, u2, u3, vI x4, u5, u6, u7, u8, u9, u10] [vI (x4 - 1), vR 156] (WS L σ) Q else R d 170 246 [vR 153, u1, u2, u3, vI x4, u5, u6, u7, u8, u9, u10] [vI (x4 - 1), vR 156] (WS L σ) Q := K_aload_n fi_170_226 rfl <| K_gf fi_170_227 kd_153 mk_153_9 <| K_iload fi_170_230 rfl <| K_iconst fi_170_232 <| K_isubx fi_170_233 h1 <| K_aload_n fi_170_234 rfl <| K_gf fi_170_235 kd_153 mk_153_9 <| K_iload fi_170_238 rfl <| K_iconst fi_170_240 <| K_isubx fi_170_241 h1 <| K_za fi_170_242 kd_156 h2 h3 <| R_if_ne fi_170_243 rfl
theorem b170_246 {d L : Nat} {σ : St} {Q : Option AV → AW → Prop} {y0 : Int} {u0 u1 u2 u3 u4 u5 u6 u7 u8 u9 u10 : AV} : R d 170 246 [u0, u1, u2, u3, u4, u5, u6, u7, u8, u9, u10] [vI y0, vR 156] (WS L σ) Q = R d 170 251 [u0, u1, u2, u3, u4, u5, u6, u7, u8, u9, u10] [vI 1, vI y0, vR 156] (WS L σ) Q := K_iconst fi_170_246 <| R_goto fi_170_247 rfl
theorem b170_250 {d L : Nat} {σ : St} {Q : Option AV → AW → Prop} {y0 : Int} {u0 u1 u2 u3 u4 u5 u6 u7 u8 u9 u10 : AV} : R d 170 250 [u0, u1, u2, u3, u4, u5, u6, u7, u8, u9, u10] [vI y0, vR 156] (WS L σ) Q = R d 170 251 [u0, u1, u2, u3, u4, u5, u6, u7, u8, u9, u10] [vI 0, vI y0, vR 156] (WS L σ) Q := K_iconst fi_170_250 <| rfl
theorem b170_251 {d L : Nat} {σ : St} {Q : Option AV → AW → Prop} {y0 y1 : Int} {u0 u1 u2 u3 u4 u5 u6 u7 u8 u9 u10 : AV} (h1 : 0 ≤ y1) (h2 : y1 < 64) (h3 : am_bit y0 = true) : R d 170 251 [u0, u1, u2, u3, u4, u5, u6, u7, u8, u9, u10] [vI y0, vI y1, vR 156] (WS L σ) Q = R d 170 252 [u0, u1, u2, u3, u4, u5, u6, u7, u8, u9, u10] [] (WS L (st2 σ 156 y1 y0)) Q := K_zs fi_170_251 kd_156 h1 h2 h3 <| rfl
theorem b170_252 {d L : Nat} {σ : St} {Q : Option AV → AW → Prop} {u0 u1 u2 u3 u4 u5 u6 u7 u8 u9 u10 : AV} : R d 170 252 [u0, u1, u2, u3, u4, u5, u6, u7, u8, u9, u10] [] (WS L σ) Q = R d 170 365 [u0, u1, u2, u3, u4, u5, u6, u7, u8, u9, u10] [] (WS L σ) Q := R_goto fi_170_252 rfl
theorem b170_255 {d L : Nat} {σ : St} {Q : Option AV → AW → Prop} {x6 : Int} {u0 u1 u2 u3 u4 u5 u7 u8 u9 u10 : AV} : R d 170 255 [u0, u1, u2, u3, u4, u5, vI x6, u7, u8, u9, u10] [] (WS L σ) Q = if x6 ≤ (-10) then R d 170 341 [u0, u1, u2, u3, u4, u5, vI x6, u7, u8, u9, u10] [] (WS L σ) Q else R d 170 262 [u0, u1, u2, u3, u4, u5, vI x6, u7, u8, u9, u10] [] (WS L σ) Q := K_iload fi_170_255 rfl <| K_bipush fi_170_257 <| R_icmp_le fi_170_259 rfl
theorem b170_262 {d L : Nat} {σ : St} {Q : Option AV → AW → Prop} {x4 x6 : Int} {u1 u2 u3 u5 u7 u8 u9 u10 : AV} (h1 : -2147483648 ≤ x4 + (-1) ∧ x4 + (-1) ≤ 2147483647) (h2 : -2147483648 ≤ (x4 + (-1)) - 1 ∧ (x4 + (-1)) - 1 ≤ 2147483647) : R d 170 262 [vR 153, u1, u2, u3, vI x4, u5, vI x6, u7, u8, u9, u10] [] (WS L σ) Q = if ¬ x6 = (-2) then R d 170 310 [vR 153, u1, u2, u3, vI (x4 + (-1)), u5, vI x6, u7, u8, u9, u10] [vI ((x4 + (-1)) - 1), vR 156] (WS L σ) Q else R d 170 280 [vR 153, u1, u2, u3, vI (x4 + (-1)), u5, vI x6, u7, u8, u9, u10] [vI ((x4 + (-1)) - 1), vR 156] (WS L σ) Q := K_iincx fi_170_262 rfl (Nat.le_of_ble_eq_true rfl) rfl h1 rfl <| K_aload_n fi_170_265 rfl <| K_gf fi_170_266 kd_153 mk_153_9 <| K_iload fi_170_269 rfl <| K_iconst fi_170_271 <| K_isubx fi_170_272 h2 <| K_iload fi_170_273 rfl <| K_bipush fi_170_275 <| R_icmp_ne fi_170_277 rfl
theorem b170_280 {d L : Nat} {σ : St} {Q : Option AV → AW → Prop} {y0 x4 : Int} {u1 u2 u3 u5 u6 u7 u8 u9 u10 : AV} (h1 : -2147483648 ≤ x4 - 1 ∧ x4 - 1 ≤ 2147483647) (h2 : 0 ≤ x4 - 1) (h3 : (x4 - 1) < 64) : R d 170 280 [vR 153, u1, u2, u3, vI x4, u5, u6, u7, u8, u9, u10] [vI y0, vR 156] (WS L σ) Q = if (σ 156 (x4 - 1)) = 0 then R d 170 306 [vR 153, u1, u2, u3, vI x4, u5, u6, u7, u8, u9, u10] [vI y0, vR 156] (WS L σ) Q else R d 170 292 [vR 153, u1, u2, u3, vI x4, u5, u6, u7, u8, u9, u10] [vI y0, vR 156] (WS L σ) Q := K_aload_n fi_170_280 rfl <| K_gf fi_170_281 kd_153 mk_153_9 <| K_iload fi_170_284 rfl <| K_iconst fi_170_286 <| K_isubx fi_170_287 h1 <| K_za fi_170_288 kd_156 h2 h3 <| R_if_eq fi_170_289 rfl
theorem b170_292 {d L : Nat} {σ : St} {Q : Option AV → AW → Prop} {y0 x4 : Int} {u1 u2 u3 u5 u6 u7 u8 u9 u10 : AV} (h1 : 0 ≤ x4) (h2 : x4 < 64) : R d 170 292 [vR 153, u1, u2, u3, vI x4, u5, u6, u7, u8, u9, u10] [vI y0, vR 156] (WS L σ) Q = if (σ 156 x4) = 0 then R d 170 306 [vR 153, u1, u2, u3, vI x4, u5, u6, u7, u8, u9, u10] [vI y0, vR 156] (WS L σ) Q else R d 170 302 [vR 153, u1, u2, u3, vI x4, u5, u6, u7, u8, u9, u10] [vI y0, vR 156] (WS L σ) Q := K_aload_n fi_170_292 rfl <| K_gf fi_170_293 kd_153 mk_153_9 <| K_iload fi_170_296 rfl <| K_za fi_170_298 kd_156 h1 h2 <| R_if_eq fi_170_299 rfl
theorem b170_302 {d L : Nat} {σ : St} {Q : Option AV → AW → Prop} {y0 : Int} {u0 u1 u2 u3 u4 u5 u6 u7 u8 u9 u10 : AV} : R d 170 302 [u0, u1, u2, u3, u4, u5, u6, u7, u8, u9, u10] [vI y0, vR 156] (WS L σ) Q = R d 170 337 [u0, u1, u2, u3, u4, u5, u6, u7, u8, u9, u10] [vI 1, vI y0, vR 156] (WS L σ) Q := K_iconst fi_170_302 <| R_goto fi_170_303 rfl
theorem b170_306 {d L : Nat} {σ : St} {Q : Option AV → AW → Prop} {y0 : Int} {u0 u1 u2 u3 u4 u5 u6 u7 u8 u9 u10 : AV} : R d 170 306 [u0, u1, u2, u3, u4, u5, u6, u7, u8, u9, u10] [vI y0, vR 156] (WS L σ) Q = R d 170 337 [u0, u1, u2, u3, u4, u5, u6, u7, u8, u9, u10] [vI 0, vI y0, vR 156] (WS L σ) Q := K_iconst fi_170_306 <| R_goto fi_170_307 rfl
theorem b170_310 {d L : Nat} {σ : St} {Q : Option AV → AW → Prop} {y0 x4 : Int} {u1 u2 u3 u5 u6 u7 u8 u9 u10 : AV} (h1 : -2147483648 ≤ x4 - 1 ∧ x4 - 1 ≤ 2147483647) (h2 : 0 ≤ x4 - 1) (h3 : (x4 - 1) < 64) : R d 170 310 [vR 153, u1, u2, u3, vI x4, u5, u6, u7, u8, u9, u10] [vI y0, vR 156] (WS L σ) Q = if ¬ (σ 156 (x4 - 1)) = 0 then R d 170 332 [vR 153, u1, u2, u3, vI x4, u5, u6, u7, u8, u9, u10] [vI y0, vR 156] (WS L σ) Q else R d 170 322 [vR 153, u1, u2, u3, vI x4, u5, u6, u7, u8, u9, u10] [vI y0, vR 156] (WS L σ) Q := K_aload_n fi_170_310 rfl <| K_gf fi_170_311 kd_153 mk_153_9 <| K_iload fi_170_314 rfl <| K_iconst fi_170_316 <| K_isubx fi_170_317 h1 <| K_za fi_170_318 kd_156 h2 h3 <| R_if_ne fi_170_319 rfl
theorem b170_322 {d L : Nat} {σ : St} {Q : Option AV → AW → Prop} {y0 x4 : Int} {u1 u2 u3 u5 u6 u7 u8 u9 u10 : AV} (h1 : 0 ≤ x4) (h2 : x4 < 64) : R d 170 322 [vR 153, u1, u2, u3, vI x4, u5, u6, u7, u8, u9, u10] [vI y0, vR 156] (WS L σ) Q = if (σ 156 x4) = 0 then R d 170 336 [vR 153, u1, u2, u3, vI x4, u5, u6, u7, u8, u9, u10] [vI y0, vR 156] (WS L σ) Q else R d 170 332 [vR 153, u1, u2, u3, vI x4, u5, u6, u7, u8, u9, u10] [vI y0, vR 156] (WS L σ) Q := K_aload_n fi_170_322 rfl <| K_gf fi_170_323 kd_153 mk_153_9 <| K_iload fi_170_326 rfl <| K_za fi_170_328 kd_156 h1 h2 <| R_if_eq fi_170_329 rfl
theorem b170_332 {d L : Nat} {σ : St} {Q : Option AV → AW → Prop} {y0 : Int} {u0 u1 u2 u3 u4 u5 u6 u7 u8 u9 u10 : AV} : R d 170 332 [u0, u1, u2, u3, u4, u5, u6, u7, u8, u9, u10] [vI y0, vR 156] (WS L σ) Q = R d 170 337 [u0, u1, u2, u3, u4, u5, u6, u7, u8, u9, u10] [vI 1, vI y0, vR 156] (WS L σ) Q := K_iconst fi_170_332 <| R_goto fi_170_333 rfl
theorem b170_336 {d L : Nat} {σ : St} {Q : Option AV → AW → Prop} {y0 : Int} {u0 u1 u2 u3 u4 u5 u6 u7 u8 u9 u10 : AV} : R d 170 336 [u0, u1, u2, u3, u4, u5, u6, u7, u8, u9, u10] [vI y0, vR 156] (WS L σ) Q = R d 170 337 [u0, u1, u2, u3, u4, u5, u6, u7, u8, u9, u10] [vI 0, vI y0, vR 156] (WS L σ) Q := K_iconst fi_170_336 <| rfl
theorem b170_337 {d L : Nat} {σ : St} {Q : Option AV → AW → Prop} {y0 y1 : Int} {u0 u1 u2 u3 u4 u5 u6 u7 u8 u9 u10 : AV} (h1 : 0 ≤ y1) (h2 : y1 < 64) (h3 : am_bit y0 = true) : R d 170 337 [u0, u1, u2, u3, u4, u5, u6, u7, u8, u9, u10] [vI y0, vI y1, vR 156] (WS L σ) Q = R d 170 338 [u0, u1, u2, u3, u4, u5, u6, u7, u8, u9, u10] [] (WS L (st2 σ 156 y1 y0)) Q := K_zs fi_170_337 kd_156 h1 h2 h3 <| rfl
theorem b170_338 {d L : Nat} {σ : St} {Q : Option AV → AW → Prop} {u0 u1 u2 u3 u4 u5 u6 u7 u8 u9 u10 : AV} : R d 170 338 [u0, u1, u2, u3, u4, u5, u6, u7, u8, u9, u10] [] (WS L σ) Q = R d 170 365 [u0, u1, u2, u3, u4, u5, u6, u7, u8, u9, u10] [] (WS L σ) Q := R_goto fi_170_338 rfl
theorem b170_341 {d L : Nat} {σ : St} {Q : Option AV → AW → Prop} {x3 : Int} {u1 u2 u4 u5 u6 u7 u8 u9 u10 : AV} : R d 170 341 [vR 153, u1, u2, vI x3, u4, u5, u6, u7, u8, u9, u10] [] (WS L σ) Q = if (σ 156 0) = 0 then R d 170 362 [vR 153, u1, u2, vI x3, vI 0, u5, u6, u7, u8, u9, u10] [vI x3] (WS L σ) Q else R d 170 354 [vR 153, u1, u2, vI x3, vI 0, u5, u6, u7, u8, u9, u10] [vI x3] (WS L σ) Q := K_iconst fi_170_341 <| K_istore fi_170_342 (Nat.le_of_ble_eq_true rfl) rfl rfl <| K_iload_n fi_170_344 rfl <| K_aload_n fi_170_345 rfl <| K_gf fi_170_346 kd_153 mk_153_9 <| K_iconst fi_170_349 <| K_za fi_170_350 kd_156 (by decide) (show (0 : Int) < 64 by decide) <| R_if_eq fi_170_351 rfl
theorem b170_354 {d L : Nat} {σ : St} {Q : Option AV → AW → Prop} {y0 x6 : Int} {u0 u1 u2 u3 u4 u5 u7 u8 u9 u10 : AV} (h1 : -2147483648 ≤ (-10) - x6 ∧ (-10) - x6 ≤ 2147483647) : R d 170 354 [u0, u1, u2, u3, u4, u5, vI x6, u7, u8, u9, u10] [vI y0] (WS L σ) Q = R d 170 363 [u0, u1, u2, u3, u4, u5, vI x6, u7, u8, u9, u10] [vI ((-10) - x6), vI y0] (WS L σ) Q := K_bipush fi_170_354 <| K_iload fi_170_356 rfl <| K_isubx fi_170_358 h1 <| R_goto fi_170_359 rfl
theorem b170_362 {d L : Nat} {σ : St} {Q : Option AV → AW → Prop} {y0 : Int} {u0 u1 u2 u3 u4 u5 u6 u7 u8 u9 u10 : AV} : R d 170 362 [u0, u1, u2, u3, u4, u5, u6, u7, u8, u9, u10] [vI y0] (WS L σ) Q = R d 170 363 [u0, u1, u2, u3, u4, u5, u6, u7, u8, u9, u10] [vI 0, vI y0] (WS L σ) Q := K_iconst fi_170_362 <| rfl
theorem b170_363 {d L : Nat} {σ : St} {Q : Option AV → AW → Prop} {y0 y1 : Int} {u0 u1 u2 u3 u4 u5 u6 u7 u8 u9 u10 : AV} (h1 : -2147483648 ≤ y1 + y0 ∧ y1 + y0 ≤ 2147483647) : R d 170 363 [u0, u1, u2, u3, u4, u5, u6, u7, u8, u9, u10] [vI y0, vI y1] (WS L σ) Q = R d 170 365 [u0, u1, u2, vI (y1 + y0), u4, u5, u6, u7, u8, u9, u10] [] (WS L σ) Q := K_iaddx fi_170_363 h1 <| K_istore_n fi_170_364 (Nat.le_of_ble_eq_true rfl) rfl rfl <| rfl
theorem b170_365 {d L : Nat} {σ : St} {Q : Option AV → AW → Prop} {x5 : Int} {u0 u1 u2 u3 u4 u6 u7 u8 u9 u10 : AV} (h1 : -2147483648 ≤ x5 + 1 ∧ x5 + 1 ≤ 2147483647) : R d 170 365 [u0, u1, u2, u3, u4, vI x5, u6, u7, u8, u9, u10] [] (WS L σ) Q = R d 170 16 [u0, u1, u2, u3, u4, vI (x5 + 1), u6, u7, u8, u9, u10] [] (WS L σ) Q := K_iincx fi_170_365 rfl (Nat.le_of_ble_eq_true rfl) rfl h1 rfl <| R_goto fi_170_368 rfl
theorem b170_371 {d L : Nat} {σ : St} {Q : Option AV → AW → Prop} {x3 : Int} {u0 u1 u2 u4 u5 u6 u7 u8 u9 u10 : AV} : R d 170 371 [u0, u1, u2, vI x3, u4, u5, u6, u7, u8, u9, u10] [] (WS L σ) Q = Q (some (vI x3)) (WS L σ) := K_iload_n fi_170_371 rfl <| R_ireti fi_170_372 rfl
theorem fi_171_0 : am_find 171 0 = some (.iconst 0, 1, 0, 0, 0) := by decide +kernel
theorem fi_171_1 : am_find 171 1 = some (.istore_n 3, 1, 0, 0, 0) := by decide +kernel
theorem fi_171_2 : am_find 171 2 = some (.iconst 0, 1, 0, 0, 0) := by decide +kernel
theorem fi_171_3 : am_find 171 3 = some (.istore 4, 2, 0, 0, 0) := by decide +kernel
theorem fi_171_5 : am_find 171 5 = some (.iload 4, 2, 0, 0, 0) := by decide +kernel
theorem fi_171_7 : am_find 171 7 = some (.aload_n 0, 1, 0, 0, 0) := by decide +kernel
theorem fi_171_8 : am_find 171 8 = some (.getfield 7, 3, 10, 1, 101) := by decide +kernel
theorem fi_171_11 : am_find 171 11 = some (.iconst 0, 1, 0, 0, 0) := by decide +kernel
theorem fi_171_12 : am_find 171 12 = some (.iaload, 1, 0, 0, 0) := by decide +kernel
theorem fi_171_13 : am_find 171 13 = some (.if_icmp .ge 44, 3, 0, 0, 0) := by decide +kernel
theorem fi_171_16 : am_find 171 16 = some (.iload_n 3, 1, 0, 0, 0) := by decide +kernel
theorem fi_171_17 : am_find 171 17 = some (.ifCond .ne 28, 3, 0, 0, 0) := by decide +kernel
theorem fi_171_20 : am_find 171 20 = some (.iload_n 1, 1, 0, 0, 0) := by decide +kernel
theorem fi_171_21 : am_find 171 21 = some (.iload 4, 2, 0, 0, 0) := by decide +kernel
theorem fi_171_23 : am_find 171 23 = some (.ishr, 1, 0, 0, 0) := by decide +kernel
theorem fi_171_24 : am_find 171 24 = some (.iconst 1, 1, 0, 1, 0) := by decide +kernel
theorem fi_171_25 : am_find 171 25 = some (.iand, 1, 0, 0, 0) := by decide +kernel
theorem fi_171_26 : am_find 171 26 = some (.iconst 1, 1, 0, 1, 0) := by decide +kernel
theorem fi_171_27 : am_find 171 27 = some (.if_icmp .ne 22, 3, 0, 0, 0) := by decide +kernel
theorem fi_171_30 : am_find 171 30 = some (.aload_n 0, 1, 0, 0, 0) := by decide +kernel
theorem fi_171_31 : am_find 171 31 = some (.getfield 7, 3, 10, 1, 101) := by decide +kernel
theorem fi_171_34 : am_find 171 34 = some (.sipush 130, 3, 0, 130, 0) := by decide +kernel
theorem fi_171_37 : am_find 171 37 = some (.iload 4, 2, 0, 0, 0) := by decide +kernel
theorem fi_171_39 : am_find 171 39 = some (.iadd, 1, 0, 0, 0) := by decide +kernel
theorem fi_171_40 : am_find 171 40 = some (.iaload, 1, 0, 0, 0) := by decide +kernel
theorem fi_171_41 : am_find 171 41 = some (.iload_n 2, 1, 0, 0, 0) := by decide +kernel
theorem fi_171_42 : am_find 171 42 = some (.if_icmp .ne 7, 3, 0, 0, 0) := by decide +kernel
theorem fi_171_45 : am_find 171 45 = some (.iconst 1, 1, 0, 1, 0) := by decide +kernel
theorem fi_171_46 : am_find 171 46 = some (.goto 4, 3, 0, 0, 0) := by decide +kernel
theorem fi_171_49 : am_find 171 49 = some (.iconst 0, 1, 0, 0, 0) := by decide +kernel
theorem fi_171_50 : am_find 171 50 = some (.istore_n 3, 1, 0, 0, 0) := by decide +kernel
theorem fi_171_51 : am_find 171 51 = some (.iinc 4 1, 3, 0, 0, 0) := by decide +kernel
theorem fi_171_54 : am_find 171 54 = some (.goto (-49), 3, 0, 0, 0) := by decide +kernel
theorem fi_171_57 : am_find 171 57 = some (.iload_n 3, 1, 0, 0, 0) := by decide +kernel
theorem fi_171_58 : am_find 171 58 = some (.ireturn, 1, 1, 0, 0) := by decide +kernel
theorem b171_0 {d L : Nat} {σ : St} {Q : Option AV → AW → Prop} {u0 u1 u2 u3 u4 : AV} : R d 171 0 [u0, u1, u2, u3, u4] [] (WS L σ) Q = R d 171 5 [u0, u1, u2, vI 0, vI 0] [] (WS L σ) Q := K_iconst fi_171_0 <| K_istore_n fi_171_1 (Nat.le_of_ble_eq_true rfl) rfl rfl <| K_iconst fi_171_2 <| K_istore fi_171_3 (Nat.le_of_ble_eq_true rfl) rfl rfl <| rfl
theorem b171_5 {d L : Nat} {σ : St} {Q : Option AV → AW → Prop} {x4 : Int} {u1 u2 u3 : AV} : R d 171 5 [vR 153, u1, u2, u3, vI x4] [] (WS L σ) Q = if (σ 154 0) ≤ x4 then R d 171 57 [vR 153, u1, u2, u3, vI x4] [] (WS L σ) Q else R d 171 16 [vR 153, u1, u2, u3, vI x4] [] (WS L σ) Q := K_iload fi_171_5 rfl <| K_aload_n fi_171_7 rfl <| K_gf fi_171_8 kd_153 mk_153_1 <| K_iconst fi_171_11 <| K_ia fi_171_12 kd_154 (by decide) (show (0 : Int) < 1580 by decide) <| R_icmp_ge fi_171_13 rfl
theorem b171_16 {d L : Nat} {σ : St} {Q : Option AV → AW → Prop} {x3 : Int} {u0 u1 u2 u4 : AV} : R d 171 16 [u0, u1, u2, vI x3, u4] [] (WS L σ) Q = if ¬ x3 = 0 then R d 171 45 [u0, u1, u2, vI x3, u4] [] (WS L σ) Q else R d 171 20 [u0, u1, u2, vI x3, u4] [] (WS L σ) Q := K_iload_n fi_171_16 rfl <| R_if_ne fi_171_17 rfl
theorem b171_20 {d L : Nat} {σ : St} {Q : Option AV → AW → Prop} {x1 x4 : Int} {u0 u2 u3 : AV} : R d 171 20 [u0, vI x1, u2, u3, vI x4] [] (WS L σ) Q = if ¬ (i_and (i_shr x1 x4) 1) = 1 then R d 171 49 [u0, vI x1, u2, u3, vI x4] [] (WS L σ) Q else R d 171 30 [u0, vI x1, u2, u3, vI x4] [] (WS L σ) Q := K_iload_n fi_171_20 rfl <| K_iload fi_171_21 rfl <| K_ishr fi_171_23 <| K_iconst fi_171_24 <| K_iand fi_171_25 <| K_iconst fi_171_26 <| R_icmp_ne fi_171_27 rfl
theorem b171_30 {d L : Nat} {σ : St} {Q : Option AV → AW → Prop} {x4 x2 : Int} {u1 u3 : AV} (h1 : -2147483648 ≤ 130 + x4 ∧ 130 + x4 ≤ 2147483647) (h2 : 0 ≤ 130 + x4) (h3 : (130 + x4) < 1580) : R d 171 30 [vR 153, u1, vI x2, u3, vI x4] [] (WS L σ) Q = if ¬ (σ 154 (130 + x4)) = x2 then R d 171 49 [vR 153, u1, vI x2, u3, vI x4] [] (WS L σ) Q else R d 171 45 [vR 153, u1, vI x2, u3, vI x4] [] (WS L σ) Q := K_aload_n fi_171_30 rfl <| K_gf fi_171_31 kd_153 mk_153_1 <| K_sipush fi_171_34 <| K_iload fi_171_37 rfl <| K_iaddx fi_171_39 h1 <| K_ia fi_171_40 kd_154 h2 h3 <| K_iload_n fi_171_41 rfl <| R_icmp_ne fi_171_42 rfl
theorem b171_45 {d L : Nat} {σ : St} {Q : Option AV → AW → Prop} {u0 u1 u2 u3 u4 : AV} : R d 171 45 [u0, u1, u2, u3, u4] [] (WS L σ) Q = R d 171 50 [u0, u1, u2, u3, u4] [vI 1] (WS L σ) Q := K_iconst fi_171_45 <| R_goto fi_171_46 rfl
theorem b171_49 {d L : Nat} {σ : St} {Q : Option AV → AW → Prop} {u0 u1 u2 u3 u4 : AV} : R d 171 49 [u0, u1, u2, u3, u4] [] (WS L σ) Q = R d 171 50 [u0, u1, u2, u3, u4] [vI 0] (WS L σ) Q := K_iconst fi_171_49 <| rfl
theorem b171_50 {d L : Nat} {σ : St} {Q : Option AV → AW → Prop} {y0 x4 : Int} {u0 u1 u2 u3 : AV} (h1 : -2147483648 ≤ x4 + 1 ∧ x4 + 1 ≤ 2147483647) : R d 171 50 [u0, u1, u2, u3, vI x4] [vI y0] (WS L σ) Q = R d 171 5 [u0, u1, u2, vI y0, vI (x4 + 1)] [] (WS L σ) Q := K_istore_n fi_171_50 (Nat.le_of_ble_eq_true rfl) rfl rfl <| K_iincx fi_171_51 rfl (Nat.le_of_ble_eq_true rfl) rfl h1 rfl <| R_goto fi_171_54 rfl
theorem b171_57 {d L : Nat} {σ : St} {Q : Option AV → AW → Prop} {x3 : Int} {u0 u1 u2 u4 : AV} (h1 : am_rfit 1 x3 = true) : R d 171 57 [u0, u1, u2, vI x3, u4] [] (WS L σ) Q = Q (some (vI x3)) (WS L σ) := K_iload_n fi_171_57 rfl <| R_ireti fi_171_58 h1
theorem fi_172_0 : am_find 172 0 = some (.iload_n 1, 1, 0, 0, 0) := by decide +kernel
theorem fi_172_1 : am_find 172 1 = some (.iconst 0, 1, 0, 0, 0) := by decide +kernel
theorem fi_172_2 : am_find 172 2 = some (.iconst 3, 1, 0, 3, 0) := by decide +kernel
theorem fi_172_3 : am_find 172 3 = some (.invokestatic 49, 3, 145, 3, 170) := by decide +kernel
theorem fi_172_6 : am_find 172 6 = some (.ifCond .ne 5, 3, 0, 0, 0) := by decide +kernel
theorem fi_172_9 : am_find 172 9 = some (.iconst (-1), 1, 0, (-1), 0) := by decide +kernel
theorem fi_172_10 : am_find 172 10 = some (.ireturn, 1, 0, 0, 0) := by decide +kernel
theorem fi_172_11 : am_find 172 11 = some (.aload_n 0, 1, 0, 0, 0) := by decide +kernel
theorem fi_172_12 : am_find 172 12 = some (.getfield 7, 3, 10, 1, 101) := by decide +kernel
theorem fi_172_15 : am_find 172 15 = some (.iconst 4, 1, 0, 4, 0) := by decide +kernel
theorem fi_172_16 : am_find 172 16 = some (.iaload, 1, 0, 0, 0) := by decide +kernel
theorem fi_172_17 : am_find 172 17 = some (.istore_n 2, 1, 0, 0, 0) := by decide +kernel
theorem fi_172_18 : am_find 172 18 = some (.aload_n 0, 1, 0, 0, 0) := by decide +kernel
theorem fi_172_19 : am_find 172 19 = some (.getfield 7, 3, 10, 1, 101) := by decide +kernel
theorem fi_172_22 : am_find 172 22 = some (.iconst 4, 1, 0, 4, 0) := by decide +kernel
theorem fi_172_23 : am_find 172 23 = some (.iload_n 1, 1, 0, 0, 0) := by decide +kernel
theorem fi_172_24 : am_find 172 24 = some (.iastore, 1, 0, 0, 0) := by decide +kernel
theorem fi_172_25 : am_find 172 25 = some (.iload_n 2, 1, 0, 0, 0) := by decide +kernel
theorem fi_172_26 : am_find 172 26 = some (.ireturn, 1, 0, 0, 0) := by decide +kernel
theorem b172_0 {d L : Nat} {σ : St} {Q : Option AV → AW → Prop} {x1 : Int} {u0 u2 : AV} : R (d + 1) 172 0 [u0, vI x1, u2] [] (WS L σ) Q = R d 145 0 [vI x1, vI 0, vI 3] [] (WS L σ) (fun r w => R (d + 1) 172 6 [u0, vI x1, u2] (am_push r []) w Q) := K_iload_n fi_172_0 rfl <| K_iconst fi_172_1 <| K_iconst fi_172_2 <| R_invS fi_172_3 (by decide) (am_invS_of (Nat.le_of_ble_eq_true rfl) rfl (Nat.le_of_ble_eq_true rfl) (Nat.le_of_ble_eq_true rfl) rfl rfl)
theorem b172_6 {d L : Nat} {σ : St} {Q : Option AV → AW → Prop} {y0 : Int} {u0 u1 u2 : AV} : R d 172 6 [u0, u1, u2] [vI y0] (WS L σ) Q = if ¬ y0 = 0 then R d 172 11 [u0, u1, u2] [] (WS L σ) Q else R d 172 9 [u0, u1, u2] [] (WS L σ) Q := R_if_ne fi_172_6 rfl
theorem b172_9 {d L : Nat} {σ : St} {Q : Option AV → AW → Prop} {u0 u1 u2 : AV} : R d 172 9 [u0, u1, u2] [] (WS L σ) Q = Q (some (vI (-1))) (WS L σ) := K_iconst fi_172_9 <| R_ireti fi_172_10 rfl
theorem b172_11 {d L : Nat} {σ : St} {Q : Option AV → AW → Prop} {x1 : Int} {u2 : AV} : R d 172 11 [vR 153, vI x1, u2] [] (WS L σ) Q = R d 172 25 [vR 153, vI x1, vI (σ 154 4)] [] (WS L (st2 σ 154 4 x1)) Q := K_aload_n fi_172_11 rfl <| K_gf fi_172_12 kd_153 mk_153_1 <| K_iconst fi_172_15 <| K_ia fi_172_16 kd_154 (by decide) (show (4 : Int) < 1580 by decide) <| K_istore_n fi_172_17 (Nat.le_of_ble_eq_true rfl) rfl rfl <| K_aload_n fi_172_18 rfl <| K_gf fi_172_19 kd_153 mk_153_1 <| K_iconst fi_172_22 <| K_iload_n fi_172_23 rfl <| K_is fi_172_24 kd_154 (by decide) (show (4 : Int) < 1580 by decide) <| rfl
theorem b172_25 {d L : Nat} {σ : St} {Q : Option AV → AW → Prop} {x2 : Int} {u0 u1 : AV} : R d 172 25 [u0, u1, vI x2] [] (WS L σ) Q = Q (some (vI x2)) (WS L σ) := K_iload_n fi_172_25 rfl <| R_ireti fi_172_26 rfl
theorem fi_173_0 : am_find 173 0 = some (.iload_n 1, 1, 0, 0, 0) := by decide +kernel
theorem fi_173_1 : am_find 173 1 = some (.iconst (-1), 1, 0, (-1), 0) := by decide +kernel
theorem fi_173_2 : am_find 173 2 = some (.if_icmp .ne 12, 3, 0, 0, 0) := by decide +kernel
theorem fi_173_5 : am_find 173 5 = some (.aload_n 0, 1, 0, 0, 0) := by decide +kernel
theorem fi_173_6 : am_find 173 6 = some (.getfield 7, 3, 10, 1, 101) := by decide +kernel
theorem fi_173_9 : am_find 173 9 = some (.iconst 5, 1, 0, 5, 0) := by decide +kernel
theorem fi_173_10 : am_find 173 10 = some (.iconst 0, 1, 0, 0, 0) := by decide +kernel
theorem fi_173_11 : am_find 173 11 = some (.iastore, 1, 0, 0, 0) := by decide +kernel
theorem fi_173_12 : am_find 173 12 = some (.iconst 0, 1, 0, 0, 0) := by decide +kernel
theorem fi_173_13 : am_find 173 13 = some (.ireturn, 1, 0, 0, 0) := by decide +kernel
theorem fi_173_14 : am_find 173 14 = some (.iload_n 1, 1, 0, 0, 0) := by decide +kernel
theorem fi_173_15 : am_find 173 15 = some (.invokestatic 144, 3, 167, 1, 189) := by decide +kernel
theorem fi_173_18 : am_find 173 18 = some (.ifCond .ne 5, 3, 0, 0, 0) := by decide +kernel
theorem fi_173_21 : am_find 173 21 = some (.iconst (-1), 1, 0, (-1), 0) := by decide +kernel
theorem fi_173_22 : am_find 173 22 = some (.ireturn, 1, 0, 0, 0) := by decide +kernel
theorem fi_173_23 : am_find 173 23 = some (.aload_n 0, 1, 0, 0, 0) := by decide +kernel
theorem fi_173_24 : am_find 173 24 = some (.getfield 7, 3, 10, 1, 101) := by decide +kernel
theorem fi_173_27 : am_find 173 27 = some (.iconst 5, 1, 0, 5, 0) := by decide +kernel
theorem fi_173_28 : am_find 173 28 = some (.iaload, 1, 0, 0, 0) := by decide +kernel
theorem fi_173_29 : am_find 173 29 = some (.bipush 8, 2, 0, 8, 0) := by decide +kernel
theorem fi_173_31 : am_find 173 31 = some (.if_icmp .ne 6, 3, 0, 0, 0) := by decide +kernel
theorem fi_173_34 : am_find 173 34 = some (.bipush (-4), 2, 0, (-4), 0) := by decide +kernel
theorem fi_173_36 : am_find 173 36 = some (.ireturn, 1, 0, 0, 0) := by decide +kernel
theorem fi_173_37 : am_find 173 37 = some (.aload_n 0, 1, 0, 0, 0) := by decide +kernel
theorem fi_173_38 : am_find 173 38 = some (.getfield 7, 3, 10, 1, 101) := by decide +kernel
theorem fi_173_41 : am_find 173 41 = some (.sipush 187, 3, 0, 187, 0) := by decide +kernel
theorem fi_173_44 : am_find 173 44 = some (.aload_n 0, 1, 0, 0, 0) := by decide +kernel
theorem fi_173_45 : am_find 173 45 = some (.getfield 7, 3, 10, 1, 101) := by decide +kernel
theorem fi_173_48 : am_find 173 48 = some (.iconst 5, 1, 0, 5, 0) := by decide +kernel
theorem fi_173_49 : am_find 173 49 = some (.iaload, 1, 0, 0, 0) := by decide +kernel
theorem fi_173_50 : am_find 173 50 = some (.iadd, 1, 0, 0, 0) := by decide +kernel
theorem fi_173_51 : am_find 173 51 = some (.iload_n 1, 1, 0, 0, 0) := by decide +kernel
theorem fi_173_52 : am_find 173 52 = some (.iastore, 1, 0, 0, 0) := by decide +kernel
theorem fi_173_53 : am_find 173 53 = some (.aload_n 0, 1, 0, 0, 0) := by decide +kernel
theorem fi_173_54 : am_find 173 54 = some (.getfield 7, 3, 10, 1, 101) := by decide +kernel
theorem fi_173_57 : am_find 173 57 = some (.iconst 5, 1, 0, 5, 0) := by decide +kernel
theorem fi_173_58 : am_find 173 58 = some (.dup2, 1, 0, 0, 0) := by decide +kernel
theorem fi_173_59 : am_find 173 59 = some (.iaload, 1, 0, 0, 0) := by decide +kernel
theorem fi_173_60 : am_find 173 60 = some (.iconst 1, 1, 0, 1, 0) := by decide +kernel
theorem fi_173_61 : am_find 173 61 = some (.iadd, 1, 0, 0, 0) := by decide +kernel
theorem fi_173_62 : am_find 173 62 = some (.iastore, 1, 0, 0, 0) := by decide +kernel
theorem fi_173_63 : am_find 173 63 = some (.aload_n 0, 1, 0, 0, 0) := by decide +kernel
theorem fi_173_64 : am_find 173 64 = some (.getfield 7, 3, 10, 1, 101) := by decide +kernel
theorem fi_173_67 : am_find 173 67 = some (.iconst 5, 1, 0, 5, 0) := by decide +kernel
theorem fi_173_68 : am_find 173 68 = some (.iaload, 1, 0, 0, 0) := by decide +kernel
theorem fi_173_69 : am_find 173 69 = some (.ireturn, 1, 0, 0, 0) := by decide +kernel
theorem b173_0 {d L : Nat} {σ : St} {Q : Option AV → AW → Prop} {x1 : Int} {u0 : AV} : R d 173 0 [u0, vI x1] [] (WS L σ) Q = if ¬ x1 = (-1) then R d 173 14 [u0, vI x1] [] (WS L σ) Q else R d 173 5 [u0, vI x1] [] (WS L σ) Q := K_iload_n fi_173_0 rfl <| K_iconst fi_173_1 <| R_icmp_ne fi_173_2 rfl
theorem b173_5 {d L : Nat} {σ : St} {Q : Option AV → AW → Prop} {u1 : AV} : R d 173 5 [vR 153, u1] [] (WS L σ) Q = R d 173 12 [vR 153, u1] [] (WS L (st2 σ 154 5 0)) Q := K_aload_n fi_173_5 rfl <| K_gf fi_173_6 kd_153 mk_153_1 <| K_iconst fi_173_9 <| K_iconst fi_173_10 <| K_is fi_173_11 kd_154 (by decide) (show (5 : Int) < 1580 by decide) <| rfl
theorem b173_12 {d L : Nat} {σ : St} {Q : Option AV → AW → Prop} {u0 u1 : AV} : R d 173 12 [u0, u1] [] (WS L σ) Q = Q (some (vI 0)) (WS L σ) := K_iconst fi_173_12 <| R_ireti fi_173_13 rfl
theorem b173_14 {d L : Nat} {σ : St} {Q : Option AV → AW → Prop} {x1 : Int} {u0 : AV} : R (d + 1) 173 14 [u0, vI x1] [] (WS L σ) Q = R d 167 0 [vI x1] [] (WS L σ) (fun r w => R (d + 1) 173 18 [u0, vI x1] (am_push r []) w Q) := K_iload_n fi_173_14 rfl <| R_invS fi_173_15 (by decide) (am_invS_of (Nat.le_of_ble_eq_true rfl) rfl (Nat.le_of_ble_eq_true rfl) (Nat.le_of_ble_eq_true rfl) rfl rfl)
theorem b173_18 {d L : Nat} {σ : St} {Q : Option AV → AW → Prop} {y0 : Int} {u0 u1 : AV} : R d 173 18 [u0, u1] [vI y0] (WS L σ) Q = if ¬ y0 = 0 then R d 173 23 [u0, u1] [] (WS L σ) Q else R d 173 21 [u0, u1] [] (WS L σ) Q := R_if_ne fi_173_18 rfl
theorem b173_21 {d L : Nat} {σ : St} {Q : Option AV → AW → Prop} {u0 u1 : AV} : R d 173 21 [u0, u1] [] (WS L σ) Q = Q (some (vI (-1))) (WS L σ) := K_iconst fi_173_21 <| R_ireti fi_173_22 rfl
theorem b173_23 {d L : Nat} {σ : St} {Q : Option AV → AW → Prop} {u1 : AV} : R d 173 23 [vR 153, u1] [] (WS L σ) Q = if ¬ (σ 154 5) = 8 then R d 173 37 [vR 153, u1] [] (WS L σ) Q else R d 173 34 [vR 153, u1] [] (WS L σ) Q := K_aload_n fi_173_23 rfl <| K_gf fi_173_24 kd_153 mk_153_1 <| K_iconst fi_173_27 <| K_ia fi_173_28 kd_154 (by decide) (show (5 : Int) < 1580 by decide) <| K_bipush fi_173_29 <| R_icmp_ne fi_173_31 rfl
theorem b173_34 {d L : Nat} {σ : St} {Q : Option AV → AW → Prop} {u0 u1 : AV} : R d 173 34 [u0, u1] [] (WS L σ) Q = Q (some (vI (-4))) (WS L σ) := K_bipush fi_173_34 <| R_ireti fi_173_36 rfl
theorem b173_37 {d L : Nat} {σ : St} {Q : Option AV → AW → Prop} {x1 : Int} (h1 : -2147483648 ≤ 187 + (σ 154 5) ∧ 187 + (σ 154 5) ≤ 2147483647) (h2 : 0 ≤ 187 + (σ 154 5)) (h3 : (187 + (σ 154 5)) < 1580) : R d 173 37 [vR 153, vI x1] [] (WS L σ) Q = R d 173 53 [vR 153, vI x1] [] (WS L (st2 σ 154 (187 + (σ 154 5)) x1)) Q := K_aload_n fi_173_37 rfl <| K_gf fi_173_38 kd_153 mk_153_1 <| K_sipush fi_173_41 <| K_aload_n fi_173_44 rfl <| K_gf fi_173_45 kd_153 mk_153_1 <| K_iconst fi_173_48 <| K_ia fi_173_49 kd_154 (by decide) (show (5 : Int) < 1580 by decide) <| K_iaddx fi_173_50 h1 <| K_iload_n fi_173_51 rfl <| K_is fi_173_52 kd_154 h2 h3 <| rfl
theorem b173_53 {d L : Nat} {σ : St} {Q : Option AV → AW → Prop} {u1 : AV} (h1 : -2147483648 ≤ (σ 154 5) + 1 ∧ (σ 154 5) + 1 ≤ 2147483647) : R d 173 53 [vR 153, u1] [] (WS L σ) Q = R d 173 63 [vR 153, u1] [] (WS L (st2 σ 154 5 ((σ 154 5) + 1))) Q := K_aload_n fi_173_53 rfl <| K_gf fi_173_54 kd_153 mk_153_1 <| K_iconst fi_173_57 <| K_dup2 fi_173_58 <| K_ia fi_173_59 kd_154 (by decide) (show (5 : Int) < 1580 by decide) <| K_iconst fi_173_60 <| K_iaddx fi_173_61 h1 <| K_is fi_173_62 kd_154 (by decide) (show (5 : Int) < 1580 by decide) <| rfl
theorem b173_63 {d L : Nat} {σ : St} {Q : Option AV → AW → Prop} {u1 : AV} : R d 173 63 [vR 153, u1] [] (WS L σ) Q = Q (some (vI (σ 154 5))) (WS L σ) := K_aload_n fi_173_63 rfl <| K_gf fi_173_64 kd_153 mk_153_1 <| K_iconst fi_173_67 <| K_ia fi_173_68 kd_154 (by decide) (show (5 : Int) < 1580 by decide) <| R_ireti fi_173_69 rfl
theorem fi_174_0 : am_find 174 0 = some (.iload_n 1, 1, 0, 0, 0) := by decide +kernel
theorem fi_174_1 : am_find 174 1 = some (.iconst 0, 1, 0, 0, 0) := by decide +kernel
theorem fi_174_2 : am_find 174 2 = some (.bipush 7, 2, 0, 7, 0) := by decide +kernel
theorem fi_174_4 : am_find 174 4 = some (.invokestatic 49, 3, 145, 3, 170) := by decide +kernel
theorem fi_174_7 : am_find 174 7 = some (.ifCond .eq 17, 3, 0, 0, 0) := by decide +kernel
theorem fi_174_10 : am_find 174 10 = some (.aload_n 0, 1, 0, 0, 0) := by decide +kernel
theorem fi_174_11 : am_find 174 11 = some (.aload_n 0, 1, 0, 0, 0) := by decide +kernel
theorem fi_174_12 : am_find 174 12 = some (.getfield 7, 3, 10, 1, 101) := by decide +kernel
theorem fi_174_15 : am_find 174 15 = some (.iconst 4, 1, 0, 4, 0) := by decide +kernel
theorem fi_174_16 : am_find 174 16 = some (.iaload, 1, 0, 0, 0) := by decide +kernel
theorem fi_174_17 : am_find 174 17 = some (.iload_n 1, 1, 0, 0, 0) := by decide +kernel
theorem fi_174_18 : am_find 174 18 = some (.invokevirtual 158, 3, 175, 2, 193) := by decide +kernel
theorem fi_174_21 : am_find 174 21 = some (.goto 4, 3, 0, 0, 0) := by decide +kernel
theorem fi_174_24 : am_find 174 24 = some (.iconst (-1), 1, 0, (-1), 0) := by decide +kernel
theorem fi_174_25 : am_find 174 25 = some (.ireturn, 1, 0, 0, 0) := by decide +kernel
theorem b174_0 {d L : Nat} {σ : St} {Q : Option AV → AW → Prop} {x1 : Int} {u0 : AV} : R (d + 1) 174 0 [u0, vI x1] [] (WS L σ) Q = R d 145 0 [vI x1, vI 0, vI 7] [] (WS L σ) (fun r w => R (d + 1) 174 7 [u0, vI x1] (am_push r []) w Q) := K_iload_n fi_174_0 rfl <| K_iconst fi_174_1 <| K_bipush fi_174_2 <| R_invS fi_174_4 (by decide) (am_invS_of (Nat.le_of_ble_eq_true rfl) rfl (Nat.le_of_ble_eq_true rfl) (Nat.le_of_ble_eq_true rfl) rfl rfl)
theorem b174_7 {d L : Nat} {σ : St} {Q : Option AV → AW → Prop} {y0 : Int} {u0 u1 : AV} : R d 174 7 [u0, u1] [vI y0] (WS L σ) Q = if y0 = 0 then R d 174 24 [u0, u1] [] (WS L σ) Q else R d 174 10 [u0, u1] [] (WS L σ) Q := R_if_eq fi_174_7 rfl
theorem b174_10 {d L : Nat} {σ : St} {Q : Option AV → AW → Prop} {x1 : Int} : R (d + 1) 174 10 [vR 153, vI x1] [] (WS L σ) Q = R d 175 0 [vR 153, vI (σ 154 4), vI x1, vX 9, vX 9, vX 9] [] (WS L σ) (fun r w => R (d + 1) 174 21 [vR 153, vI x1] (am_push r []) w Q) := K_aload_n fi_174_10 rfl <| K_aload_n fi_174_11 rfl <| K_gf fi_174_12 kd_153 mk_153_1 <| K_iconst fi_174_15 <| K_ia fi_174_16 kd_154 (by decide) (show (4 : Int) < 1580 by decide) <| K_iload_n fi_174_17 rfl <| R_invV fi_174_18 (am_invV_of rfl (kd_153) (Nat.le_of_ble_eq_true rfl) (Nat.le_of_ble_eq_true rfl) rfl rfl)
theorem b174_21 {d L : Nat} {σ : St} {Q : Option AV → AW → Prop} {y0 : Int} {u0 u1 : AV} : R d 174 21 [u0, u1] [vI y0] (WS L σ) Q = R d 174 25 [u0, u1] [vI y0] (WS L σ) Q := R_goto fi_174_21 rfl
theorem b174_24 {d L : Nat} {σ : St} {Q : Option AV → AW → Prop} {u0 u1 : AV} : R d 174 24 [u0, u1] [] (WS L σ) Q = R d 174 25 [u0, u1] [vI (-1)] (WS L σ) Q := K_iconst fi_174_24 <| rfl
theorem b174_25 {d L : Nat} {σ : St} {Q : Option AV → AW → Prop} {y0 : Int} {u0 u1 : AV} : R d 174 25 [u0, u1] [vI y0] (WS L σ) Q = Q (some (vI y0)) (WS L σ) := R_ireti fi_174_25 rfl
theorem fi_175_0 : am_find 175 0 = some (.aload_n 0, 1, 0, 0, 0) := by decide +kernel
theorem fi_175_1 : am_find 175 1 = some (.getfield 7, 3, 10, 1, 101) := by decide +kernel
theorem fi_175_4 : am_find 175 4 = some (.iconst 2, 1, 0, 2, 0) := by decide +kernel
theorem fi_175_5 : am_find 175 5 = some (.iaload, 1, 0, 0, 0) := by decide +kernel
theorem fi_175_6 : am_find 175 6 = some (.istore_n 3, 1, 0, 0, 0) := by decide +kernel
theorem fi_175_7 : am_find 175 7 = some (.iload_n 2, 1, 0, 0, 0) := by decide +kernel
theorem fi_175_8 : am_find 175 8 = some (.iload_n 3, 1, 0, 0, 0) := by decide +kernel
theorem fi_175_9 : am_find 175 9 = some (.irem, 1, 0, 0, 0) := by decide +kernel
theorem fi_175_10 : am_find 175 10 = some (.istore 4, 2, 0, 0, 0) := by decide +kernel
theorem fi_175_12 : am_find 175 12 = some (.iload_n 1, 1, 0, 0, 0) := by decide +kernel
theorem fi_175_13 : am_find 175 13 = some (.tableswitch 102 1 3 #[27, 54, 62], 27, 0, 0, 0) := by decide +kernel
theorem fi_175_40 : am_find 175 40 = some (.iload_n 2, 1, 0, 0, 0) := by decide +kernel
theorem fi_175_41 : am_find 175 41 = some (.iconst 2, 1, 0, 2, 0) := by decide +kernel
theorem fi_175_42 : am_find 175 42 = some (.iload_n 3, 1, 0, 0, 0) := by decide +kernel
theorem fi_175_43 : am_find 175 43 = some (.imul, 1, 0, 0, 0) := by decide +kernel
theorem fi_175_44 : am_find 175 44 = some (.irem, 1, 0, 0, 0) := by decide +kernel
theorem fi_175_45 : am_find 175 45 = some (.istore 5, 2, 0, 0, 0) := by decide +kernel
theorem fi_175_47 : am_find 175 47 = some (.iload 5, 2, 0, 0, 0) := by decide +kernel
theorem fi_175_49 : am_find 175 49 = some (.iload_n 3, 1, 0, 0, 0) := by decide +kernel
theorem fi_175_50 : am_find 175 50 = some (.if_icmp .ge 8, 3, 0, 0, 0) := by decide +kernel
theorem fi_175_53 : am_find 175 53 = some (.iload 5, 2, 0, 0, 0) := by decide +kernel
theorem fi_175_55 : am_find 175 55 = some (.goto 11, 3, 0, 0, 0) := by decide +kernel
theorem fi_175_58 : am_find 175 58 = some (.iconst 2, 1, 0, 2, 0) := by decide +kernel
theorem fi_175_59 : am_find 175 59 = some (.iload_n 3, 1, 0, 0, 0) := by decide +kernel
theorem fi_175_60 : am_find 175 60 = some (.imul, 1, 0, 0, 0) := by decide +kernel
theorem fi_175_61 : am_find 175 61 = some (.iconst 1, 1, 0, 1, 0) := by decide +kernel
theorem fi_175_62 : am_find 175 62 = some (.isub, 1, 0, 0, 0) := by decide +kernel
theorem fi_175_63 : am_find 175 63 = some (.iload 5, 2, 0, 0, 0) := by decide +kernel
theorem fi_175_65 : am_find 175 65 = some (.isub, 1, 0, 0, 0) := by decide +kernel
theorem fi_175_66 : am_find 175 66 = some (.ireturn, 1, 0, 0, 0) := by decide +kernel
theorem fi_175_67 : am_find 175 67 = some (.iload_n 2, 1, 0, 0, 0) := by decide +kernel
theorem fi_175_68 : am_find 175 68 = some (.iconst 1, 1, 0, 1, 0) := by decide +kernel
theorem fi_175_69 : am_find 175 69 = some (.iadd, 1, 0, 0, 0) := by decide +kernel
theorem fi_175_70 : am_find 175 70 = some (.iconst 2, 1, 0, 2, 0) := by decide +kernel
theorem fi_175_71 : am_find 175 71 = some (.idiv, 1, 0, 0, 0) := by decide +kernel
theorem fi_175_72 : am_find 175 72 = some (.iload_n 3, 1, 0, 0, 0) := by decide +kernel
theorem fi_175_73 : am_find 175 73 = some (.irem, 1, 0, 0, 0) := by decide +kernel
theorem fi_175_74 : am_find 175 74 = some (.ireturn, 1, 0, 0, 0) := by decide +kernel
theorem fi_175_75 : am_find 175 75 = some (.iload_n 2, 1, 0, 0, 0) := by decide +kernel
theorem fi_175_76 : am_find 175 76 = some (.aload_n 0, 1, 0, 0, 0) := by decide +kernel
theorem fi_175_77 : am_find 175 77 = some (.getfield 7, 3, 10, 1, 101) := by decide +kernel
theorem fi_175_80 : am_find 175 80 = some (.iconst 5, 1, 0, 5, 0) := by decide +kernel
theorem fi_175_81 : am_find 175 81 = some (.iaload, 1, 0, 0, 0) := by decide +kernel
theorem fi_175_82 : am_find 175 82 = some (.if_icmp .ge 30, 3, 0, 0, 0) := by decide +kernel
theorem fi_175_85 : am_find 175 85 = some (.aload_n 0, 1, 0, 0, 0) := by decide +kernel
theorem fi_175_86 : am_find 175 86 = some (.getfield 7, 3, 10, 1, 101) := by decide +kernel
theorem fi_175_89 : am_find 175 89 = some (.sipush 187, 3, 0, 187, 0) := by decide +kernel
theorem fi_175_92 : am_find 175 92 = some (.iload_n 2, 1, 0, 0, 0) := by decide +kernel
theorem fi_175_93 : am_find 175 93 = some (.iadd, 1, 0, 0, 0) := by decide +kernel
theorem fi_175_94 : am_find 175 94 = some (.iaload, 1, 0, 0, 0) := by decide +kernel
theorem fi_175_95 : am_find 175 95 = some (.iload_n 3, 1, 0, 0, 0) := by decide +kernel
theorem fi_175_96 : am_find 175 96 = some (.if_icmp .ge 16, 3, 0, 0, 0) := by decide +kernel
theorem fi_175_99 : am_find 175 99 = some (.aload_n 0, 1, 0, 0, 0) := by decide +kernel
theorem fi_175_100 : am_find 175 100 = some (.getfield 7, 3, 10, 1, 101) := by decide +kernel
theorem fi_175_103 : am_find 175 103 = some (.sipush 187, 3, 0, 187, 0) := by decide +kernel
theorem fi_175_106 : am_find 175 106 = some (.iload_n 2, 1, 0, 0, 0) := by decide +kernel
theorem fi_175_107 : am_find 175 107 = some (.iadd, 1, 0, 0, 0) := by decide +kernel
theorem fi_175_108 : am_find 175 108 = some (.iaload, 1, 0, 0, 0) := by decide +kernel
theorem fi_175_109 : am_find 175 109 = some (.goto 5, 3, 0, 0, 0) := by decide +kernel
theorem fi_175_112 : am_find 175 112 = some (.iload 4, 2, 0, 0, 0) := by decide +kernel
theorem fi_175_114 : am_find 175 114 = some (.ireturn, 1, 0, 0, 0) := by decide +kernel
theorem fi_175_115 : am_find 175 115 = some (.iload 4, 2, 0, 0, 0) := by decide +kernel
theorem fi_175_117 : am_find 175 117 = some (.ireturn, 1, 0, 0, 0) := by decide +kernel
theorem sw175_0 {d L : Nat} {σ : St} {Q : Option AV → AW → Prop} {x : Int} {ls st : List AV} : R d 175 13 ls (vI x :: st) (WS L σ) Q = if x = 1 then R d 175 40 ls st (WS L σ) Q else if x = 2 then R d 175 67 ls st (WS L σ) Q else if x = 3 then R d 175 75 ls st (WS L σ) Q else R d 175 115 ls st (WS L σ) Q := by
  by_cases h1 : x = 1
  · subst h1; exact (R_tsw (t := 40) fi_175_13 rfl).trans (by simp)
  by_cases h2 : x = 2
  · subst h2; exact (R_tsw (t := 67) fi_175_13 rfl).trans (by simp)
  by_cases h3 : x = 3
  · subst h3; exact (R_tsw (t := 75) fi_175_13 rfl).trans (by simp)
  rw [R_tsw (t := 115) fi_175_13 (by show (if x < 1 ∨ 3 < x then _ else _) = _; rw [if_pos (by omega)]; rfl)]
  rw [if_neg h1, if_neg h2, if_neg h3]
theorem b175_0 {d L : Nat} {σ : St} {Q : Option AV → AW → Prop} {x2 x1 : Int} {u3 u4 u5 : AV} (h1 : ¬ (σ 154 2) = 0) : R d 175 0 [vR 153, vI x1, vI x2, u3, u4, u5] [] (WS L σ) Q = if x1 = 1 then R d 175 40 [vR 153, vI x1, vI x2, vI (σ 154 2), vI (i_rem x2 (σ 154 2)), u5] [] (WS L σ) Q else if x1 = 2 then R d 175 67 [vR 153, vI x1, vI x2, vI (σ 154 2), vI (i_rem x2 (σ 154 2)), u5] [] (WS L σ) Q else if x1 = 3 then R d 175 75 [vR 153, vI x1, vI x2, vI (σ 154 2), vI (i_rem x2 (σ 154 2)), u5] [] (WS L σ) Q else R d 175 115 [vR 153, vI x1, vI x2, vI (σ 154 2), vI (i_rem x2 (σ 154 2)), u5] [] (WS L σ) Q := K_aload_n fi_175_0 rfl <| K_gf fi_175_1 kd_153 mk_153_1 <| K_iconst fi_175_4 <| K_ia fi_175_5 kd_154 (by decide) (show (2 : Int) < 1580 by decide) <| K_istore_n fi_175_6 (Nat.le_of_ble_eq_true rfl) rfl rfl <| K_iload_n fi_175_7 rfl <| K_iload_n fi_175_8 rfl <| K_irem fi_175_9 h1 <| K_istore fi_175_10 (Nat.le_of_ble_eq_true rfl) rfl rfl <| K_iload_n fi_175_12 rfl <| sw175_0
theorem b175_40 {d L : Nat} {σ : St} {Q : Option AV → AW → Prop} {x2 x3 : Int} {u0 u1 u4 u5 : AV} (h1 : -2147483648 ≤ 2 * x3 ∧ 2 * x3 ≤ 2147483647) (h2 : ¬ (2 * x3) = 0) : R d 175 40 [u0, u1, vI x2, vI x3, u4, u5] [] (WS L σ) Q = if x3 ≤ (i_rem x2 (2 * x3)) then R d 175 58 [u0, u1, vI x2, vI x3, u4, vI (i_rem x2 (2 * x3))] [] (WS L σ) Q else R d 175 53 [u0, u1, vI x2, vI x3, u4, vI (i_rem x2 (2 * x3))] [] (WS L σ) Q := K_iload_n fi_175_40 rfl <| K_iconst fi_175_41 <| K_iload_n fi_175_42 rfl <| K_imulx fi_175_43 h1 <| K_irem fi_175_44 h2 <| K_istore fi_175_45 (Nat.le_of_ble_eq_true rfl) rfl rfl <| K_iload fi_175_47 rfl <| K_iload_n fi_175_49 rfl <| R_icmp_ge fi_175_50 rfl
theorem b175_53 {d L : Nat} {σ : St} {Q : Option AV → AW → Prop} {x5 : Int} {u0 u1 u2 u3 u4 : AV} : R d 175 53 [u0, u1, u2, u3, u4, vI x5] [] (WS L σ) Q = R d 175 66 [u0, u1, u2, u3, u4, vI x5] [vI x5] (WS L σ) Q := K_iload fi_175_53 rfl <| R_goto fi_175_55 rfl
theorem b175_58 {d L : Nat} {σ : St} {Q : Option AV → AW → Prop} {x3 x5 : Int} {u0 u1 u2 u4 : AV} (h1 : -2147483648 ≤ 2 * x3 ∧ 2 * x3 ≤ 2147483647) (h2 : -2147483648 ≤ (2 * x3) - 1 ∧ (2 * x3) - 1 ≤ 2147483647) (h3 : -2147483648 ≤ ((2 * x3) - 1) - x5 ∧ ((2 * x3) - 1) - x5 ≤ 2147483647) : R d 175 58 [u0, u1, u2, vI x3, u4, vI x5] [] (WS L σ) Q = R d 175 66 [u0, u1, u2, vI x3, u4, vI x5] [vI (((2 * x3) - 1) - x5)] (WS L σ) Q := K_iconst fi_175_58 <| K_iload_n fi_175_59 rfl <| K_imulx fi_175_60 h1 <| K_iconst fi_175_61 <| K_isubx fi_175_62 h2 <| K_iload fi_175_63 rfl <| K_isubx fi_175_65 h3 <| rfl
theorem b175_66 {d L : Nat} {σ : St} {Q : Option AV → AW → Prop} {y0 : Int} {u0 u1 u2 u3 u4 u5 : AV} : R d 175 66 [u0, u1, u2, u3, u4, u5] [vI y0] (WS L σ) Q = Q (some (vI y0)) (WS L σ) := R_ireti fi_175_66 rfl
theorem b175_67 {d L : Nat} {σ : St} {Q : Option AV → AW → Prop} {x2 x3 : Int} {u0 u1 u4 u5 : AV} (h1 : -2147483648 ≤ x2 + 1 ∧ x2 + 1 ≤ 2147483647) (h2 : ¬ x3 = 0) : R d 175 67 [u0, u1, vI x2, vI x3, u4, u5] [] (WS L σ) Q = Q (some (vI (i_rem (i_div (x2 + 1) 2) x3))) (WS L σ) := K_iload_n fi_175_67 rfl <| K_iconst fi_175_68 <| K_iaddx fi_175_69 h1 <| K_iconst fi_175_70 <| K_idiv fi_175_71 (by decide) <| K_iload_n fi_175_72 rfl <| K_irem fi_175_73 h2 <| R_ireti fi_175_74 rfl
theorem b175_75 {d L : Nat} {σ : St} {Q : Option AV → AW → Prop} {x2 : Int} {u1 u3 u4 u5 : AV} : R d 175 75 [vR 153, u1, vI x2, u3, u4, u5] [] (WS L σ) Q = if (σ 154 5) ≤ x2 then R d 175 112 [vR 153, u1, vI x2, u3, u4, u5] [] (WS L σ) Q else R d 175 85 [vR 153, u1, vI x2, u3, u4, u5] [] (WS L σ) Q := K_iload_n fi_175_75 rfl <| K_aload_n fi_175_76 rfl <| K_gf fi_175_77 kd_153 mk_153_1 <| K_iconst fi_175_80 <| K_ia fi_175_81 kd_154 (by decide) (show (5 : Int) < 1580 by decide) <| R_icmp_ge fi_175_82 rfl
theorem b175_85 {d L : Nat} {σ : St} {Q : Option AV → AW → Prop} {x2 x3 : Int} {u1 u4 u5 : AV} (h1 : -2147483648 ≤ 187 + x2 ∧ 187 + x2 ≤ 2147483647) (h2 : 0 ≤ 187 + x2) (h3 : (187 + x2) < 1580) : R d 175 85 [vR 153, u1, vI x2, vI x3, u4, u5] [] (WS L σ) Q = if x3 ≤ (σ 154 (187 + x2)) then R d 175 112 [vR 153, u1, vI x2, vI x3, u4, u5] [] (WS L σ) Q else R d 175 99 [vR 153, u1, vI x2, vI x3, u4, u5] [] (WS L σ) Q := K_aload_n fi_175_85 rfl <| K_gf fi_175_86 kd_153 mk_153_1 <| K_sipush fi_175_89 <| K_iload_n fi_175_92 rfl <| K_iaddx fi_175_93 h1 <| K_ia fi_175_94 kd_154 h2 h3 <| K_iload_n fi_175_95 rfl <| R_icmp_ge fi_175_96 rfl
theorem b175_99 {d L : Nat} {σ : St} {Q : Option AV → AW → Prop} {x2 : Int} {u1 u3 u4 u5 : AV} (h1 : -2147483648 ≤ 187 + x2 ∧ 187 + x2 ≤ 2147483647) (h2 : 0 ≤ 187 + x2) (h3 : (187 + x2) < 1580) : R d 175 99 [vR 153, u1, vI x2, u3, u4, u5] [] (WS L σ) Q = R d 175 114 [vR 153, u1, vI x2, u3, u4, u5] [vI (σ 154 (187 + x2))] (WS L σ) Q := K_aload_n fi_175_99 rfl <| K_gf fi_175_100 kd_153 mk_153_1 <| K_sipush fi_175_103 <| K_iload_n fi_175_106 rfl <| K_iaddx fi_175_107 h1 <| K_ia fi_175_108 kd_154 h2 h3 <| R_goto fi_175_109 rfl
theorem b175_112 {d L : Nat} {σ : St} {Q : Option AV → AW → Prop} {x4 : Int} {u0 u1 u2 u3 u5 : AV} : R d 175 112 [u0, u1, u2, u3, vI x4, u5] [] (WS L σ) Q = R d 175 114 [u0, u1, u2, u3, vI x4, u5] [vI x4] (WS L σ) Q := K_iload fi_175_112 rfl <| rfl
theorem b175_114 {d L : Nat} {σ : St} {Q : Option AV → AW → Prop} {y0 : Int} {u0 u1 u2 u3 u4 u5 : AV} : R d 175 114 [u0, u1, u2, u3, u4, u5] [vI y0] (WS L σ) Q = Q (some (vI y0)) (WS L σ) := R_ireti fi_175_114 rfl
theorem b175_115 {d L : Nat} {σ : St} {Q : Option AV → AW → Prop} {x4 : Int} {u0 u1 u2 u3 u5 : AV} : R d 175 115 [u0, u1, u2, u3, vI x4, u5] [] (WS L σ) Q = Q (some (vI x4)) (WS L σ) := K_iload fi_175_115 rfl <| R_ireti fi_175_117 rfl
theorem fi_176_0 : am_find 176 0 = some (.iload_n 1, 1, 0, 0, 0) := by decide +kernel
theorem fi_176_1 : am_find 176 1 = some (.invokestatic 144, 3, 167, 1, 189) := by decide +kernel
theorem fi_176_4 : am_find 176 4 = some (.ifCond .eq 13, 3, 0, 0, 0) := by decide +kernel
theorem fi_176_7 : am_find 176 7 = some (.iload_n 2, 1, 0, 0, 0) := by decide +kernel
theorem fi_176_8 : am_find 176 8 = some (.iconst 0, 1, 0, 0, 0) := by decide +kernel
theorem fi_176_9 : am_find 176 9 = some (.bipush 6, 2, 0, 6, 0) := by decide +kernel
theorem fi_176_11 : am_find 176 11 = some (.invokestatic 49, 3, 145, 3, 170) := by decide +kernel
theorem fi_176_14 : am_find 176 14 = some (.ifCond .ne 5, 3, 0, 0, 0) := by decide +kernel
theorem fi_176_17 : am_find 176 17 = some (.iconst (-1), 1, 0, (-1), 0) := by decide +kernel
theorem fi_176_18 : am_find 176 18 = some (.ireturn, 1, 0, 0, 0) := by decide +kernel
theorem fi_176_19 : am_find 176 19 = some (.aload_n 0, 1, 0, 0, 0) := by decide +kernel
theorem fi_176_20 : am_find 176 20 = some (.getfield 7, 3, 10, 1, 101) := by decide +kernel
theorem fi_176_23 : am_find 176 23 = some (.sipush 157, 3, 0, 157, 0) := by decide +kernel
theorem fi_176_26 : am_find 176 26 = some (.iload_n 1, 1, 0, 0, 0) := by decide +kernel
theorem fi_176_27 : am_find 176 27 = some (.iadd, 1, 0, 0, 0) := by decide +kernel
theorem fi_176_28 : am_find 176 28 = some (.iaload, 1, 0, 0, 0) := by decide +kernel
theorem fi_176_29 : am_find 176 29 = some (.istore_n 3, 1, 0, 0, 0) := by decide +kernel
theorem fi_176_30 : am_find 176 30 = some (.aload_n 0, 1, 0, 0, 0) := by decide +kernel
theorem fi_176_31 : am_find 176 31 = some (.getfield 7, 3, 10, 1, 101) := by decide +kernel
theorem fi_176_34 : am_find 176 34 = some (.sipush 157, 3, 0, 157, 0) := by decide +kernel
theorem fi_176_37 : am_find 176 37 = some (.iload_n 1, 1, 0, 0, 0) := by decide +kernel
theorem fi_176_38 : am_find 176 38 = some (.iadd, 1, 0, 0, 0) := by decide +kernel
theorem fi_176_39 : am_find 176 39 = some (.iload_n 2, 1, 0, 0, 0) := by decide +kernel
theorem fi_176_40 : am_find 176 40 = some (.iastore, 1, 0, 0, 0) := by decide +kernel
theorem fi_176_41 : am_find 176 41 = some (.iload_n 3, 1, 0, 0, 0) := by decide +kernel
theorem fi_176_42 : am_find 176 42 = some (.ireturn, 1, 0, 0, 0) := by decide +kernel
theorem b176_0 {d L : Nat} {σ : St} {Q : Option AV → AW → Prop} {x1 : Int} {u0 u2 u3 : AV} : R (d + 1) 176 0 [u0, vI x1, u2, u3] [] (WS L σ) Q = R d 167 0 [vI x1] [] (WS L σ) (fun r w => R (d + 1) 176 4 [u0, vI x1, u2, u3] (am_push r []) w Q) := K_iload_n fi_176_0 rfl <| R_invS fi_176_1 (by decide) (am_invS_of (Nat.le_of_ble_eq_true rfl) rfl (Nat.le_of_ble_eq_true rfl) (Nat.le_of_ble_eq_true rfl) rfl rfl)
theorem b176_4 {d L : Nat} {σ : St} {Q : Option AV → AW → Prop} {y0 : Int} {u0 u1 u2 u3 : AV} : R d 176 4 [u0, u1, u2, u3] [vI y0] (WS L σ) Q = if y0 = 0 then R d 176 17 [u0, u1, u2, u3] [] (WS L σ) Q else R d 176 7 [u0, u1, u2, u3] [] (WS L σ) Q := R_if_eq fi_176_4 rfl
theorem b176_7 {d L : Nat} {σ : St} {Q : Option AV → AW → Prop} {x2 : Int} {u0 u1 u3 : AV} : R (d + 1) 176 7 [u0, u1, vI x2, u3] [] (WS L σ) Q = R d 145 0 [vI x2, vI 0, vI 6] [] (WS L σ) (fun r w => R (d + 1) 176 14 [u0, u1, vI x2, u3] (am_push r []) w Q) := K_iload_n fi_176_7 rfl <| K_iconst fi_176_8 <| K_bipush fi_176_9 <| R_invS fi_176_11 (by decide) (am_invS_of (Nat.le_of_ble_eq_true rfl) rfl (Nat.le_of_ble_eq_true rfl) (Nat.le_of_ble_eq_true rfl) rfl rfl)
theorem b176_14 {d L : Nat} {σ : St} {Q : Option AV → AW → Prop} {y0 : Int} {u0 u1 u2 u3 : AV} : R d 176 14 [u0, u1, u2, u3] [vI y0] (WS L σ) Q = if ¬ y0 = 0 then R d 176 19 [u0, u1, u2, u3] [] (WS L σ) Q else R d 176 17 [u0, u1, u2, u3] [] (WS L σ) Q := R_if_ne fi_176_14 rfl
theorem b176_17 {d L : Nat} {σ : St} {Q : Option AV → AW → Prop} {u0 u1 u2 u3 : AV} : R d 176 17 [u0, u1, u2, u3] [] (WS L σ) Q = Q (some (vI (-1))) (WS L σ) := K_iconst fi_176_17 <| R_ireti fi_176_18 rfl
theorem b176_19 {d L : Nat} {σ : St} {Q : Option AV → AW → Prop} {x1 x2 : Int} {u3 : AV} (h1 : -2147483648 ≤ 157 + x1 ∧ 157 + x1 ≤ 2147483647) (h2 : 0 ≤ 157 + x1) (h3 : (157 + x1) < 1580) : R d 176 19 [vR 153, vI x1, vI x2, u3] [] (WS L σ) Q = R d 176 41 [vR 153, vI x1, vI x2, vI (σ 154 (157 + x1))] [] (WS L (st2 σ 154 (157 + x1) x2)) Q := K_aload_n fi_176_19 rfl <| K_gf fi_176_20 kd_153 mk_153_1 <| K_sipush fi_176_23 <| K_iload_n fi_176_26 rfl <| K_iaddx fi_176_27 h1 <| K_ia fi_176_28 kd_154 h2 h3 <| K_istore_n fi_176_29 (Nat.le_of_ble_eq_true rfl) rfl rfl <| K_aload_n fi_176_30 rfl <| K_gf fi_176_31 kd_153 mk_153_1 <| K_sipush fi_176_34 <| K_iload_n fi_176_37 rfl <| K_iaddx fi_176_38 h1 <| K_iload_n fi_176_39 rfl <| K_is fi_176_40 kd_154 h2 h3 <| rfl
theorem b176_41 {d L : Nat} {σ : St} {Q : Option AV → AW → Prop} {x3 : Int} {u0 u1 u2 : AV} : R d 176 41 [u0, u1, u2, vI x3] [] (WS L σ) Q = Q (some (vI x3)) (WS L σ) := K_iload_n fi_176_41 rfl <| R_ireti fi_176_42 rfl
theorem fi_177_0 : am_find 177 0 = some (.iload_n 1, 1, 0, 0, 0) := by decide +kernel
theorem fi_177_1 : am_find 177 1 = some (.invokestatic 144, 3, 167, 1, 189) := by decide +kernel
theorem fi_177_4 : am_find 177 4 = some (.ifCond .eq 13, 3, 0, 0, 0) := by decide +kernel
theorem fi_177_7 : am_find 177 7 = some (.iload_n 2, 1, 0, 0, 0) := by decide +kernel
theorem fi_177_8 : am_find 177 8 = some (.iconst (-1), 1, 0, (-1), 0) := by decide +kernel
theorem fi_177_9 : am_find 177 9 = some (.bipush 7, 2, 0, 7, 0) := by decide +kernel
theorem fi_177_11 : am_find 177 11 = some (.invokestatic 49, 3, 145, 3, 170) := by decide +kernel
theorem fi_177_14 : am_find 177 14 = some (.ifCond .ne 5, 3, 0, 0, 0) := by decide +kernel
theorem fi_177_17 : am_find 177 17 = some (.iconst (-1), 1, 0, (-1), 0) := by decide +kernel
theorem fi_177_18 : am_find 177 18 = some (.ireturn, 1, 0, 0, 0) := by decide +kernel
theorem fi_177_19 : am_find 177 19 = some (.iload_n 2, 1, 0, 0, 0) := by decide +kernel
theorem fi_177_20 : am_find 177 20 = some (.iconst (-1), 1, 0, (-1), 0) := by decide +kernel
theorem fi_177_21 : am_find 177 21 = some (.if_icmp .ne 16, 3, 0, 0, 0) := by decide +kernel
theorem fi_177_24 : am_find 177 24 = some (.aload_n 0, 1, 0, 0, 0) := by decide +kernel
theorem fi_177_25 : am_find 177 25 = some (.getfield 7, 3, 10, 1, 101) := by decide +kernel
theorem fi_177_28 : am_find 177 28 = some (.sipush 160, 3, 0, 160, 0) := by decide +kernel
theorem fi_177_31 : am_find 177 31 = some (.iload_n 1, 1, 0, 0, 0) := by decide +kernel
theorem fi_177_32 : am_find 177 32 = some (.iadd, 1, 0, 0, 0) := by decide +kernel
theorem fi_177_33 : am_find 177 33 = some (.iconst 0, 1, 0, 0, 0) := by decide +kernel
theorem fi_177_34 : am_find 177 34 = some (.iastore, 1, 0, 0, 0) := by decide +kernel
theorem fi_177_35 : am_find 177 35 = some (.iconst 0, 1, 0, 0, 0) := by decide +kernel
theorem fi_177_36 : am_find 177 36 = some (.ireturn, 1, 0, 0, 0) := by decide +kernel
theorem fi_177_37 : am_find 177 37 = some (.aload_n 0, 1, 0, 0, 0) := by decide +kernel
theorem fi_177_38 : am_find 177 38 = some (.getfield 7, 3, 10, 1, 101) := by decide +kernel
theorem fi_177_41 : am_find 177 41 = some (.sipush 160, 3, 0, 160, 0) := by decide +kernel
theorem fi_177_44 : am_find 177 44 = some (.iload_n 1, 1, 0, 0, 0) := by decide +kernel
theorem fi_177_45 : am_find 177 45 = some (.iadd, 1, 0, 0, 0) := by decide +kernel
theorem fi_177_46 : am_find 177 46 = some (.iaload, 1, 0, 0, 0) := by decide +kernel
theorem fi_177_47 : am_find 177 47 = some (.bipush 8, 2, 0, 8, 0) := by decide +kernel
theorem fi_177_49 : am_find 177 49 = some (.if_icmp .ne 6, 3, 0, 0, 0) := by decide +kernel
theorem fi_177_52 : am_find 177 52 = some (.bipush (-4), 2, 0, (-4), 0) := by decide +kernel
theorem fi_177_54 : am_find 177 54 = some (.ireturn, 1, 0, 0, 0) := by decide +kernel
theorem fi_177_55 : am_find 177 55 = some (.aload_n 0, 1, 0, 0, 0) := by decide +kernel
theorem fi_177_56 : am_find 177 56 = some (.getfield 7, 3, 10, 1, 101) := by decide +kernel
theorem fi_177_59 : am_find 177 59 = some (.sipush 163, 3, 0, 163, 0) := by decide +kernel
theorem fi_177_62 : am_find 177 62 = some (.bipush 8, 2, 0, 8, 0) := by decide +kernel
theorem fi_177_64 : am_find 177 64 = some (.iload_n 1, 1, 0, 0, 0) := by decide +kernel
theorem fi_177_65 : am_find 177 65 = some (.imul, 1, 0, 0, 0) := by decide +kernel
theorem fi_177_66 : am_find 177 66 = some (.iadd, 1, 0, 0, 0) := by decide +kernel
theorem fi_177_67 : am_find 177 67 = some (.aload_n 0, 1, 0, 0, 0) := by decide +kernel
theorem fi_177_68 : am_find 177 68 = some (.getfield 7, 3, 10, 1, 101) := by decide +kernel
theorem fi_177_71 : am_find 177 71 = some (.sipush 160, 3, 0, 160, 0) := by decide +kernel
theorem fi_177_74 : am_find 177 74 = some (.iload_n 1, 1, 0, 0, 0) := by decide +kernel
theorem fi_177_75 : am_find 177 75 = some (.iadd, 1, 0, 0, 0) := by decide +kernel
theorem fi_177_76 : am_find 177 76 = some (.iaload, 1, 0, 0, 0) := by decide +kernel
theorem fi_177_77 : am_find 177 77 = some (.iadd, 1, 0, 0, 0) := by decide +kernel
theorem fi_177_78 : am_find 177 78 = some (.iload_n 2, 1, 0, 0, 0) := by decide +kernel
theorem fi_177_79 : am_find 177 79 = some (.iastore, 1, 0, 0, 0) := by decide +kernel
theorem fi_177_80 : am_find 177 80 = some (.aload_n 0, 1, 0, 0, 0) := by decide +kernel
theorem fi_177_81 : am_find 177 81 = some (.getfield 7, 3, 10, 1, 101) := by decide +kernel
theorem fi_177_84 : am_find 177 84 = some (.sipush 160, 3, 0, 160, 0) := by decide +kernel
theorem fi_177_87 : am_find 177 87 = some (.iload_n 1, 1, 0, 0, 0) := by decide +kernel
theorem fi_177_88 : am_find 177 88 = some (.iadd, 1, 0, 0, 0) := by decide +kernel
theorem fi_177_89 : am_find 177 89 = some (.dup2, 1, 0, 0, 0) := by decide +kernel
theorem fi_177_90 : am_find 177 90 = some (.iaload, 1, 0, 0, 0) := by decide +kernel
theorem fi_177_91 : am_find 177 91 = some (.iconst 1, 1, 0, 1, 0) := by decide +kernel
theorem fi_177_92 : am_find 177 92 = some (.iadd, 1, 0, 0, 0) := by decide +kernel
theorem fi_177_93 : am_find 177 93 = some (.iastore, 1, 0, 0, 0) := by decide +kernel
theorem fi_177_94 : am_find 177 94 = some (.aload_n 0, 1, 0, 0, 0) := by decide +kernel
theorem fi_177_95 : am_find 177 95 = some (.getfield 7, 3, 10, 1, 101) := by decide +kernel
theorem fi_177_98 : am_find 177 98 = some (.sipush 160, 3, 0, 160, 0) := by decide +kernel
theorem fi_177_101 : am_find 177 101 = some (.iload_n 1, 1, 0, 0, 0) := by decide +kernel
theorem fi_177_102 : am_find 177 102 = some (.iadd, 1, 0, 0, 0) := by decide +kernel
theorem fi_177_103 : am_find 177 103 = some (.iaload, 1, 0, 0, 0) := by decide +kernel
theorem fi_177_104 : am_find 177 104 = some (.ireturn, 1, 0, 0, 0) := by decide +kernel
theorem b177_0 {d L : Nat} {σ : St} {Q : Option AV → AW → Prop} {x1 : Int} {u0 u2 : AV} : R (d + 1) 177 0 [u0, vI x1, u2] [] (WS L σ) Q = R d 167 0 [vI x1] [] (WS L σ) (fun r w => R (d + 1) 177 4 [u0, vI x1, u2] (am_push r []) w Q) := K_iload_n fi_177_0 rfl <| R_invS fi_177_1 (by decide) (am_invS_of (Nat.le_of_ble_eq_true rfl) rfl (Nat.le_of_ble_eq_true rfl) (Nat.le_of_ble_eq_true rfl) rfl rfl)
theorem b177_4 {d L : Nat} {σ : St} {Q : Option AV → AW → Prop} {y0 : Int} {u0 u1 u2 : AV} : R d 177 4 [u0, u1, u2] [vI y0] (WS L σ) Q = if y0 = 0 then R d 177 17 [u0, u1, u2] [] (WS L σ) Q else R d 177 7 [u0, u1, u2] [] (WS L σ) Q := R_if_eq fi_177_4 rfl
theorem b177_7 {d L : Nat} {σ : St} {Q : Option AV → AW → Prop} {x2 : Int} {u0 u1 : AV} : R (d + 1) 177 7 [u0, u1, vI x2] [] (WS L σ) Q = R d 145 0 [vI x2, vI (-1), vI 7] [] (WS L σ) (fun r w => R (d + 1) 177 14 [u0, u1, vI x2] (am_push r []) w Q) := K_iload_n fi_177_7 rfl <| K_iconst fi_177_8 <| K_bipush fi_177_9 <| R_invS fi_177_11 (by decide) (am_invS_of (Nat.le_of_ble_eq_true rfl) rfl (Nat.le_of_ble_eq_true rfl) (Nat.le_of_ble_eq_true rfl) rfl rfl)
theorem b177_14 {d L : Nat} {σ : St} {Q : Option AV → AW → Prop} {y0 : Int} {u0 u1 u2 : AV} : R d 177 14 [u0, u1, u2] [vI y0] (WS L σ) Q = if ¬ y0 = 0 then R d 177 19 [u0, u1, u2] [] (WS L σ) Q else R d 177 17 [u0, u1, u2] [] (WS L σ) Q := R_if_ne fi_177_14 rfl
theorem b177_17 {d L : Nat} {σ : St} {Q : Option AV → AW → Prop} {u0 u1 u2 : AV} : R d 177 17 [u0, u1, u2] [] (WS L σ) Q = Q (some (vI (-1))) (WS L σ) := K_iconst fi_177_17 <| R_ireti fi_177_18 rfl
theorem b177_19 {d L : Nat} {σ : St} {Q : Option AV → AW → Prop} {x2 : Int} {u0 u1 : AV} : R d 177 19 [u0, u1, vI x2] [] (WS L σ) Q = if ¬ x2 = (-1) then R d 177 37 [u0, u1, vI x2] [] (WS L σ) Q else R d 177 24 [u0, u1, vI x2] [] (WS L σ) Q := K_iload_n fi_177_19 rfl <| K_iconst fi_177_20 <| R_icmp_ne fi_177_21 rfl
theorem b177_24 {d L : Nat} {σ : St} {Q : Option AV → AW → Prop} {x1 : Int} {u2 : AV} (h1 : -2147483648 ≤ 160 + x1 ∧ 160 + x1 ≤ 2147483647) (h2 : 0 ≤ 160 + x1) (h3 : (160 + x1) < 1580) : R d 177 24 [vR 153, vI x1, u2] [] (WS L σ) Q = R d 177 35 [vR 153, vI x1, u2] [] (WS L (st2 σ 154 (160 + x1) 0)) Q := K_aload_n fi_177_24 rfl <| K_gf fi_177_25 kd_153 mk_153_1 <| K_sipush fi_177_28 <| K_iload_n fi_177_31 rfl <| K_iaddx fi_177_32 h1 <| K_iconst fi_177_33 <| K_is fi_177_34 kd_154 h2 h3 <| rfl
theorem b177_35 {d L : Nat} {σ : St} {Q : Option AV → AW → Prop} {u0 u1 u2 : AV} : R d 177 35 [u0, u1, u2] [] (WS L σ) Q = Q (some (vI 0)) (WS L σ) := K_iconst fi_177_35 <| R_ireti fi_177_36 rfl
theorem b177_37 {d L : Nat} {σ : St} {Q : Option AV → AW → Prop} {x1 : Int} {u2 : AV} (h1 : -2147483648 ≤ 160 + x1 ∧ 160 + x1 ≤ 2147483647) (h2 : 0 ≤ 160 + x1) (h3 : (160 + x1) < 1580) : R d 177 37 [vR 153, vI x1, u2] [] (WS L σ) Q = if ¬ (σ 154 (160 + x1)) = 8 then R d 177 55 [vR 153, vI x1, u2] [] (WS L σ) Q else R d 177 52 [vR 153, vI x1, u2] [] (WS L σ) Q := K_aload_n fi_177_37 rfl <| K_gf fi_177_38 kd_153 mk_153_1 <| K_sipush fi_177_41 <| K_iload_n fi_177_44 rfl <| K_iaddx fi_177_45 h1 <| K_ia fi_177_46 kd_154 h2 h3 <| K_bipush fi_177_47 <| R_icmp_ne fi_177_49 rfl
theorem b177_52 {d L : Nat} {σ : St} {Q : Option AV → AW → Prop} {u0 u1 u2 : AV} : R d 177 52 [u0, u1, u2] [] (WS L σ) Q = Q (some (vI (-4))) (WS L σ) := K_bipush fi_177_52 <| R_ireti fi_177_54 rfl
theorem b177_55 {d L : Nat} {σ : St} {Q : Option AV → AW → Prop} {x1 x2 : Int} (h1 : -2147483648 ≤ 8 * x1 ∧ 8 * x1 ≤ 2147483647) (h2 : -2147483648 ≤ 163 + (8 * x1) ∧ 163 + (8 * x1) ≤ 2147483647) (h3 : -2147483648 ≤ 160 + x1 ∧ 160 + x1 ≤ 2147483647) (h4 : 0 ≤ 160 + x1) (h5 : (160 + x1) < 1580) (h6 : -2147483648 ≤ (163 + (8 * x1)) + (σ 154 (160 + x1)) ∧ (163 + (8 * x1)) + (σ 154 (160 + x1)) ≤ 2147483647) (h7 : 0 ≤ (163 + (8 * x1)) + (σ 154 (160 + x1))) (h8 : ((163 + (8 * x1)) + (σ 154 (160 + x1))) < 1580) : R d 177 55 [vR 153, vI x1, vI x2] [] (WS L σ) Q = R d 177 80 [vR 153, vI x1, vI x2] [] (WS L (st2 σ 154 ((163 + (8 * x1)) + (σ 154 (160 + x1))) x2)) Q := K_aload_n fi_177_55 rfl <| K_gf fi_177_56 kd_153 mk_153_1 <| K_sipush fi_177_59 <| K_bipush fi_177_62 <| K_iload_n fi_177_64 rfl <| K_imulx fi_177_65 h1 <| K_iaddx fi_177_66 h2 <| K_aload_n fi_177_67 rfl <| K_gf fi_177_68 kd_153 mk_153_1 <| K_sipush fi_177_71 <| K_iload_n fi_177_74 rfl <| K_iaddx fi_177_75 h3 <| K_ia fi_177_76 kd_154 h4 h5 <| K_iaddx fi_177_77 h6 <| K_iload_n fi_177_78 rfl <| K_is fi_177_79 kd_154 h7 h8 <| rfl
theorem b177_80 {d L : Nat} {σ : St} {Q : Option AV → AW → Prop} {x1 : Int} {u2 : AV} (h1 : -2147483648 ≤ 160 + x1 ∧ 160 + x1 ≤ 2147483647) (h2 : 0 ≤ 160 + x1) (h3 : (160 + x1) < 1580) (h4 : -2147483648 ≤ (σ 154 (160 + x1)) + 1 ∧ (σ 154 (160 + x1)) + 1 ≤ 2147483647) : R d 177 80 [vR 153, vI x1, u2] [] (WS L σ) Q = R d 177 94 [vR 153, vI x1, u2] [] (WS L (st2 σ 154 (160 + x1) ((σ 154 (160 + x1)) + 1))) Q := K_aload_n fi_177_80 rfl <| K_gf fi_177_81 kd_153 mk_153_1 <| K_sipush fi_177_84 <| K_iload_n fi_177_87 rfl <| K_iaddx fi_177_88 h1 <| K_dup2 fi_177_89 <| K_ia fi_177_90 kd_154 h2 h3 <| K_iconst fi_177_91 <| K_iaddx fi_177_92 h4 <| K_is fi_177_93 kd_154 h2 h3 <| rfl
theorem b177_94 {d L : Nat} {σ : St} {Q : Option AV → AW → Prop} {x1 : Int} {u2 : AV} (h1 : -2147483648 ≤ 160 + x1 ∧ 160 + x1 ≤ 2147483647) (h2 : 0 ≤ 160 + x1) (h3 : (160 + x1) < 1580) : R d 177 94 [vR 153, vI x1, u2] [] (WS L σ) Q = Q (some (vI (σ 154 (160 + x1)))) (WS L σ) := K_aload_n fi_177_94 rfl <| K_gf fi_177_95 kd_153 mk_153_1 <| K_sipush fi_177_98 <| K_iload_n fi_177_101 rfl <| K_iaddx fi_177_102 h1 <| K_ia fi_177_103 kd_154 h2 h3 <| R_ireti fi_177_104 rfl
theorem fi_178_0 : am_find 178 0 = some (.aload_n 0, 1, 0, 0, 0) := by decide +kernel
theorem fi_178_1 : am_find 178 1 = some (.iload_n 1, 1, 0, 0, 0) := by decide +kernel
theorem fi_178_2 : am_find 178 2 = some (.invokevirtual 53, 3, 147, 1, 171) := by decide +kernel
theorem fi_178_5 : am_find 178 5 = some (.ifCond .eq 16, 3, 0, 0, 0) := by decide +kernel
theorem fi_178_8 : am_find 178 8 = some (.iload_n 2, 1, 0, 0, 0) := by decide +kernel
theorem fi_178_9 : am_find 178 9 = some (.iconst (-1), 1, 0, (-1), 0) := by decide +kernel
theorem fi_178_10 : am_find 178 10 = some (.if_icmp .eq 13, 3, 0, 0, 0) := by decide +kernel
theorem fi_178_13 : am_find 178 13 = some (.aload_n 0, 1, 0, 0, 0) := by decide +kernel
theorem fi_178_14 : am_find 178 14 = some (.iload_n 2, 1, 0, 0, 0) := by decide +kernel
theorem fi_178_15 : am_find 178 15 = some (.invokevirtual 161, 3, 179, 1, 194) := by decide +kernel
theorem fi_178_18 : am_find 178 18 = some (.ifCond .ne 5, 3, 0, 0, 0) := by decide +kernel
theorem fi_178_21 : am_find 178 21 = some (.iconst (-1), 1, 0, (-1), 0) := by decide +kernel
theorem fi_178_22 : am_find 178 22 = some (.ireturn, 1, 0, 0, 0) := by decide +kernel
theorem fi_178_23 : am_find 178 23 = some (.aload_n 0, 1, 0, 0, 0) := by decide +kernel
theorem fi_178_24 : am_find 178 24 = some (.getfield 7, 3, 10, 1, 101) := by decide +kernel
theorem fi_178_27 : am_find 178 27 = some (.sipush 203, 3, 0, 203, 0) := by decide +kernel
theorem fi_178_30 : am_find 178 30 = some (.iload_n 1, 1, 0, 0, 0) := by decide +kernel
theorem fi_178_31 : am_find 178 31 = some (.iadd, 1, 0, 0, 0) := by decide +kernel
theorem fi_178_32 : am_find 178 32 = some (.iaload, 1, 0, 0, 0) := by decide +kernel
theorem fi_178_33 : am_find 178 33 = some (.istore_n 3, 1, 0, 0, 0) := by decide +kernel
theorem fi_178_34 : am_find 178 34 = some (.aload_n 0, 1, 0, 0, 0) := by decide +kernel
theorem fi_178_35 : am_find 178 35 = some (.getfield 7, 3, 10, 1, 101) := by decide +kernel
theorem fi_178_38 : am_find 178 38 = some (.sipush 203, 3, 0, 203, 0) := by decide +kernel
theorem fi_178_41 : am_find 178 41 = some (.iload_n 1, 1, 0, 0, 0) := by decide +kernel
theorem fi_178_42 : am_find 178 42 = some (.iadd, 1, 0, 0, 0) := by decide +kernel
theorem fi_178_43 : am_find 178 43 = some (.iload_n 2, 1, 0, 0, 0) := by decide +kernel
theorem fi_178_44 : am_find 178 44 = some (.iastore, 1, 0, 0, 0) := by decide +kernel
theorem fi_178_45 : am_find 178 45 = some (.iload_n 3, 1, 0, 0, 0) := by decide +kernel
theorem fi_178_46 : am_find 178 46 = some (.iconst (-1), 1, 0, (-1), 0) := by decide +kernel
theorem fi_178_47 : am_find 178 47 = some (.if_icmp .ne 8, 3, 0, 0, 0) := by decide +kernel
theorem fi_178_50 : am_find 178 50 = some (.bipush (-5), 2, 0, (-5), 0) := by decide +kernel
theorem fi_178_52 : am_find 178 52 = some (.goto 4, 3, 0, 0, 0) := by decide +kernel
theorem fi_178_55 : am_find 178 55 = some (.iload_n 3, 1, 0, 0, 0) := by decide +kernel
theorem fi_178_56 : am_find 178 56 = some (.ireturn, 1, 0, 0, 0) := by decide +kernel
theorem b178_0 {d L : Nat} {σ : St} {Q : Option AV → AW → Prop} {x1 : Int} {u2 u3 : AV} : R (d + 1) 178 0 [vR 153, vI x1, u2, u3] [] (WS L σ) Q = R d 147 0 [vR 153, vI x1] [] (WS L σ) (fun r w => R (d + 1) 178 5 [vR 153, vI x1, u2, u3] (am_push r []) w Q) := K_aload_n fi_178_0 rfl <| K_iload_n fi_178_1 rfl <| R_invV fi_178_2 (am_invV_of rfl (kd_153) (Nat.le_of_ble_eq_true rfl) (Nat.le_of_ble_eq_true rfl) rfl rfl)
theorem b178_5 {d L : Nat} {σ : St} {Q : Option AV → AW → Prop} {y0 : Int} {u0 u1 u2 u3 : AV} : R d 178 5 [u0, u1, u2, u3] [vI y0] (WS L σ) Q = if y0 = 0 then R d 178 21 [u0, u1, u2, u3] [] (WS L σ) Q else R d 178 8 [u0, u1, u2, u3] [] (WS L σ) Q := R_if_eq fi_178_5 rfl
theorem b178_8 {d L : Nat} {σ : St} {Q : Option AV → AW → Prop} {x2 : Int} {u0 u1 u3 : AV} : R d 178 8 [u0, u1, vI x2, u3] [] (WS L σ) Q = if x2 = (-1) then R d 178 23 [u0, u1, vI x2, u3] [] (WS L σ) Q else R d 178 13 [u0, u1, vI x2, u3] [] (WS L σ) Q := K_iload_n fi_178_8 rfl <| K_iconst fi_178_9 <| R_icmp_eq fi_178_10 rfl
theorem b178_13 {d L : Nat} {σ : St} {Q : Option AV → AW → Prop} {x2 : Int} {u1 u3 : AV} : R (d + 1) 178 13 [vR 153, u1, vI x2, u3] [] (WS L σ) Q = R d 179 0 [vR 153, vI x2] [] (WS L σ) (fun r w => R (d + 1) 178 18 [vR 153, u1, vI x2, u3] (am_push r []) w Q) := K_aload_n fi_178_13 rfl <| K_iload_n fi_178_14 rfl <| R_invV fi_178_15 (am_invV_of rfl (kd_153) (Nat.le_of_ble_eq_true rfl) (Nat.le_of_ble_eq_true rfl) rfl rfl)
theorem b178_18 {d L : Nat} {σ : St} {Q : Option AV → AW → Prop} {y0 : Int} {u0 u1 u2 u3 : AV} : R d 178 18 [u0, u1, u2, u3] [vI y0] (WS L σ) Q = if ¬ y0 = 0 then R d 178 23 [u0, u1, u2, u3] [] (WS L σ) Q else R d 178 21 [u0, u1, u2, u3] [] (WS L σ) Q := R_if_ne fi_178_18 rfl
theorem b178_21 {d L : Nat} {σ : St} {Q : Option AV → AW → Prop} {u0 u1 u2 u3 : AV} : R d 178 21 [u0, u1, u2, u3] [] (WS L σ) Q = Q (some (vI (-1))) (WS L σ) := K_iconst fi_178_21 <| R_ireti fi_178_22 rfl
theorem b178_23 {d L : Nat} {σ : St} {Q : Option AV → AW → Prop} {x1 x2 : Int} {u3 : AV} (h1 : -2147483648 ≤ 203 + x1 ∧ 203 + x1 ≤ 2147483647) (h2 : 0 ≤ 203 + x1) (h3 : (203 + x1) < 1580) : R d 178 23 [vR 153, vI x1, vI x2, u3] [] (WS L σ) Q = R d 178 45 [vR 153, vI x1, vI x2, vI (σ 154 (203 + x1))] [] (WS L (st2 σ 154 (203 + x1) x2)) Q := K_aload_n fi_178_23 rfl <| K_gf fi_178_24 kd_153 mk_153_1 <| K_sipush fi_178_27 <| K_iload_n fi_178_30 rfl <| K_iaddx fi_178_31 h1 <| K_ia fi_178_32 kd_154 h2 h3 <| K_istore_n fi_178_33 (Nat.le_of_ble_eq_true rfl) rfl rfl <| K_aload_n fi_178_34 rfl <| K_gf fi_178_35 kd_153 mk_153_1 <| K_sipush fi_178_38 <| K_iload_n fi_178_41 rfl <| K_iaddx fi_178_42 h1 <| K_iload_n fi_178_43 rfl <| K_is fi_178_44 kd_154 h2 h3 <| rfl
theorem b178_45 {d L : Nat} {σ : St} {Q : Option AV → AW → Prop} {x3 : Int} {u0 u1 u2 : AV} : R d 178 45 [u0, u1, u2, vI x3] [] (WS L σ) Q = if ¬ x3 = (-1) then R d 178 55 [u0, u1, u2, vI x3] [] (WS L σ) Q else R d 178 50 [u0, u1, u2, vI x3] [] (WS L σ) Q := K_iload_n fi_178_45 rfl <| K_iconst fi_178_46 <| R_icmp_ne fi_178_47 rfl
theorem b178_50 {d L : Nat} {σ : St} {Q : Option AV → AW → Prop} {u0 u1 u2 u3 : AV} : R d 178 50 [u0, u1, u2, u3] [] (WS L σ) Q = R d 178 56 [u0, u1, u2, u3] [vI (-5)] (WS L σ) Q := K_bipush fi_178_50 <| R_goto fi_178_52 rfl
theorem b178_55 {d L : Nat} {σ : St} {Q : Option AV → AW → Prop} {x3 : Int} {u0 u1 u2 : AV} : R d 178 55 [u0, u1, u2, vI x3] [] (WS L σ) Q = R d 178 56 [u0, u1, u2, vI x3] [vI x3] (WS L σ) Q := K_iload_n fi_178_55 rfl <| rfl
theorem b178_56 {d L : Nat} {σ : St} {Q : Option AV → AW → Prop} {y0 : Int} {u0 u1 u2 u3 : AV} : R d 178 56 [u0, u1, u2, u3] [vI y0] (WS L σ) Q = Q (some (vI y0)) (WS L σ) := R_ireti fi_178_56 rfl
theorem fi_179_0 : am_find 179 0 = some (.iload_n 1, 1, 0, 0, 0) := by decide +kernel
theorem fi_179_1 : am_find 179 1 = some (.iconst 0, 1, 0, 0, 0) := by decide +kernel
theorem fi_179_2 : am_find 179 2 = some (.aload_n 0, 1, 0, 0, 0) := by decide +kernel
theorem fi_179_3 : am_find 179 3 = some (.getfield 7, 3, 10, 1, 101) := by decide +kernel
theorem fi_179_6 : am_find 179 6 = some (.iconst 2, 1, 0, 2, 0) := by decide +kernel
theorem fi_179_7 : am_find 179 7 = some (.iaload, 1, 0, 0, 0) := by decide +kernel
theorem fi_179_8 : am_find 179 8 = some (.iconst 1, 1, 0, 1, 0) := by decide +kernel
theorem fi_179_9 : am_find 179 9 = some (.isub, 1, 0, 0, 0) := by decide +kernel
theorem fi_179_10 : am_find 179 10 = some (.invokestatic 49, 3, 145, 3, 170) := by decide +kernel
theorem fi_179_13 : am_find 179 13 = some (.ireturn, 1, 1, 0, 0) := by decide +kernel
theorem b179_0 {d L : Nat} {σ : St} {Q : Option AV → AW → Prop} {x1 : Int} (h1 : -2147483648 ≤ (σ 154 2) - 1 ∧ (σ 154 2) - 1 ≤ 2147483647) : R (d + 1) 179 0 [vR 153, vI x1] [] (WS L σ) Q = R d 145 0 [vI x1, vI 0, vI ((σ 154 2) - 1)] [] (WS L σ) (fun r w => R (d + 1) 179 13 [vR 153, vI x1] (am_push r []) w Q) := K_iload_n fi_179_0 rfl <| K_iconst fi_179_1 <| K_aload_n fi_179_2 rfl <| K_gf fi_179_3 kd_153 mk_153_1 <| K_iconst fi_179_6 <| K_ia fi_179_7 kd_154 (by decide) (show (2 : Int) < 1580 by decide) <| K_iconst fi_179_8 <| K_isubx fi_179_9 h1 <| R_invS fi_179_10 (by decide) (am_invS_of (Nat.le_of_ble_eq_true rfl) rfl (Nat.le_of_ble_eq_true rfl) (Nat.le_of_ble_eq_true rfl) rfl rfl)
theorem b179_13 {d L : Nat} {σ : St} {Q : Option AV → AW → Prop} {y0 : Int} {u0 u1 : AV} (h1 : am_rfit 1 y0 = true) : R d 179 13 [u0, u1] [vI y0] (WS L σ) Q = Q (some (vI y0)) (WS L σ) := R_ireti fi_179_13 h1
theorem fi_180_0 : am_find 180 0 = some (.aload_n 0, 1, 0, 0, 0) := by decide +kernel
theorem fi_180_1 : am_find 180 1 = some (.iload_n 1, 1, 0, 0, 0) := by decide +kernel
theorem fi_180_2 : am_find 180 2 = some (.invokevirtual 161, 3, 179, 1, 194) := by decide +kernel
theorem fi_180_5 : am_find 180 5 = some (.ifCond .eq 11, 3, 0, 0, 0) := by decide +kernel
theorem fi_180_8 : am_find 180 8 = some (.aload_n 0, 1, 0, 0, 0) := by decide +kernel
theorem fi_180_9 : am_find 180 9 = some (.iload_n 1, 1, 0, 0, 0) := by decide +kernel
theorem fi_180_10 : am_find 180 10 = some (.invokevirtual 164, 3, 181, 1, 195) := by decide +kernel
theorem fi_180_13 : am_find 180 13 = some (.goto 4, 3, 0, 0, 0) := by decide +kernel
theorem fi_180_16 : am_find 180 16 = some (.iconst (-1), 1, 0, (-1), 0) := by decide +kernel
theorem fi_180_17 : am_find 180 17 = some (.ireturn, 1, 0, 0, 0) := by decide +kernel
theorem b180_0 {d L : Nat} {σ : St} {Q : Option AV → AW → Prop} {x1 : Int} : R (d + 1) 180 0 [vR 153, vI x1] [] (WS L σ) Q = R d 179 0 [vR 153, vI x1] [] (WS L σ) (fun r w => R (d + 1) 180 5 [vR 153, vI x1] (am_push r []) w Q) := K_aload_n fi_180_0 rfl <| K_iload_n fi_180_1 rfl <| R_invV fi_180_2 (am_invV_of rfl (kd_153) (Nat.le_of_ble_eq_true rfl) (Nat.le_of_ble_eq_true rfl) rfl rfl)
theorem b180_5 {d L : Nat} {σ : St} {Q : Option AV → AW → Prop} {y0 : Int} {u0 u1 : AV} : R d 180 5 [u0, u1] [vI y0] (WS L σ) Q = if y0 = 0 then R d 180 16 [u0, u1] [] (WS L σ) Q else R d 180 8 [u0, u1] [] (WS L σ) Q := R_if_eq fi_180_5 rfl
theorem b180_8 {d L : Nat} {σ : St} {Q : Option AV → AW → Prop} {x1 : Int} : R (d + 1) 180 8 [vR 153, vI x1] [] (WS L σ) Q = R d 181 0 [vR 153, vI x1, vX 9, vX 9] [] (WS L σ) (fun r w => R (d + 1) 180 13 [vR 153, vI x1] (am_push r []) w Q) := K_aload_n fi_180_8 rfl <| K_iload_n fi_180_9 rfl <| R_invV fi_180_10 (am_invV_of rfl (kd_153) (Nat.le_of_ble_eq_true rfl) (Nat.le_of_ble_eq_true rfl) rfl rfl)
theorem b180_13 {d L : Nat} {σ : St} {Q : Option AV → AW → Prop} {y0 : Int} {u0 u1 : AV} : R d 180 13 [u0, u1] [vI y0] (WS L σ) Q = R d 180 17 [u0, u1] [vI y0] (WS L σ) Q := R_goto fi_180_13 rfl
theorem b180_16 {d L : Nat} {σ : St} {Q : Option AV → AW → Prop} {u0 u1 : AV} : R d 180 16 [u0, u1] [] (WS L σ) Q = R d 180 17 [u0, u1] [vI (-1)] (WS L σ) Q := K_iconst fi_180_16 <| rfl
theorem b180_17 {d L : Nat} {σ : St} {Q : Option AV → AW → Prop} {y0 : Int} {u0 u1 : AV} : R d 180 17 [u0, u1] [vI y0] (WS L σ) Q = Q (some (vI y0)) (WS L σ) := R_ireti fi_180_17 rfl
theorem fi_181_0 : am_find 181 0 = some (.iconst 0, 1, 0, 0, 0) := by decide +kernel
theorem fi_181_1 : am_find 181 1 = some (.istore_n 2, 1, 0, 0, 0) := by decide +kernel
theorem fi_181_2 : am_find 181 2 = some (.iconst 0, 1, 0, 0, 0) := by decide +kernel
theorem fi_181_3 : am_find 181 3 = some (.istore_n 3, 1, 0, 0, 0) := by decide +kernel
theorem fi_181_4 : am_find 181 4 = some (.iload_n 3, 1, 0, 0, 0) := by decide +kernel
theorem fi_181_5 : am_find 181 5 = some (.aload_n 0, 1, 0, 0, 0) := by decide +kernel
theorem fi_181_6 : am_find 181 6 = some (.getfield 7, 3, 10, 1, 101) := by decide +kernel
theorem fi_181_9 : am_find 181 9 = some (.iconst 0, 1, 0, 0, 0) := by decide +kernel
theorem fi_181_10 : am_find 181 10 = some (.iaload, 1, 0, 0, 0) := by decide +kernel
theorem fi_181_11 : am_find 181 11 = some (.if_icmp .ge 33, 3, 0, 0, 0) := by decide +kernel
theorem fi_181_14 : am_find 181 14 = some (.iload_n 2, 1, 0, 0, 0) := by decide +kernel
theorem fi_181_15 : am_find 181 15 = some (.aload_n 0, 1, 0, 0, 0) := by decide +kernel
theorem fi_181_16 : am_find 181 16 = some (.getfield 7, 3, 10, 1, 101) := by decide +kernel
theorem fi_181_19 : am_find 181 19 = some (.sipush 203, 3, 0, 203, 0) := by decide +kernel
theorem fi_181_22 : am_find 181 22 = some (.iload_n 3, 1, 0, 0, 0) := by decide +kernel
theorem fi_181_23 : am_find 181 23 = some (.iadd, 1, 0, 0, 0) := by decide +kernel
theorem fi_181_24 : am_find 181 24 = some (.iaload, 1, 0, 0, 0) := by decide +kernel
theorem fi_181_25 : am_find 181 25 = some (.iload_n 1, 1, 0, 0, 0) := by decide +kernel
theorem fi_181_26 : am_find 181 26 = some (.if_icmp .ne 9, 3, 0, 0, 0) := by decide +kernel
theorem fi_181_29 : am_find 181 29 = some (.iconst 1, 1, 0, 1, 0) := by decide +kernel
theorem fi_181_30 : am_find 181 30 = some (.iload_n 3, 1, 0, 0, 0) := by decide +kernel
theorem fi_181_31 : am_find 181 31 = some (.ishl, 1, 0, 0, 0) := by decide +kernel
theorem fi_181_32 : am_find 181 32 = some (.goto 4, 3, 0, 0, 0) := by decide +kernel
theorem fi_181_35 : am_find 181 35 = some (.iconst 0, 1, 0, 0, 0) := by decide +kernel
theorem fi_181_36 : am_find 181 36 = some (.ior, 1, 0, 0, 0) := by decide +kernel
theorem fi_181_37 : am_find 181 37 = some (.istore_n 2, 1, 0, 0, 0) := by decide +kernel
theorem fi_181_38 : am_find 181 38 = some (.iinc 3 1, 3, 0, 0, 0) := by decide +kernel
theorem fi_181_41 : am_find 181 41 = some (.goto (-37), 3, 0, 0, 0) := by decide +kernel
theorem fi_181_44 : am_find 181 44 = some (.iload_n 2, 1, 0, 0, 0) := by decide +kernel
theorem fi_181_45 : am_find 181 45 = some (.ireturn, 1, 0, 0, 0) := by decide +kernel
theorem b181_0 {d L : Nat} {σ : St} {Q : Option AV → AW → Prop} {x1 : Int} {u0 u2 u3 : AV} : R d 181 0 [u0, vI x1, u2, u3] [] (WS L σ) Q = R d 181 4 [u0, vI x1, vI 0, vI 0] [] (WS L σ) Q := K_iconst fi_181_0 <| K_istore_n fi_181_1 (Nat.le_of_ble_eq_true rfl) rfl rfl <| K_iconst fi_181_2 <| K_istore_n fi_181_3 (Nat.le_of_ble_eq_true rfl) rfl rfl <| rfl
theorem b181_4 {d L : Nat} {σ : St} {Q : Option AV → AW → Prop} {x3 : Int} {u1 u2 : AV} : R d 181 4 [vR 153, u1, u2, vI x3] [] (WS L σ) Q = if (σ 154 0) ≤ x3 then R d 181 44 [vR 153, u1, u2, vI x3] [] (WS L σ) Q else R d 181 14 [vR 153, u1, u2, vI x3] [] (WS L σ) Q := K_iload_n fi_181_4 rfl <| K_aload_n fi_181_5 rfl <| K_gf fi_181_6 kd_153 mk_153_1 <| K_iconst fi_181_9 <| K_ia fi_181_10 kd_154 (by decide) (show (0 : Int) < 1580 by decide) <| R_icmp_ge fi_181_11 rfl
theorem b181_14 {d L : Nat} {σ : St} {Q : Option AV → AW → Prop} {x2 x3 x1 : Int} (h1 : -2147483648 ≤ 203 + x3 ∧ 203 + x3 ≤ 2147483647) (h2 : 0 ≤ 203 + x3) (h3 : (203 + x3) < 1580) : R d 181 14 [vR 153, vI x1, vI x2, vI x3] [] (WS L σ) Q = if ¬ (σ 154 (203 + x3)) = x1 then R d 181 35 [vR 153, vI x1, vI x2, vI x3] [vI x2] (WS L σ) Q else R d 181 29 [vR 153, vI x1, vI x2, vI x3] [vI x2] (WS L σ) Q := K_iload_n fi_181_14 rfl <| K_aload_n fi_181_15 rfl <| K_gf fi_181_16 kd_153 mk_153_1 <| K_sipush fi_181_19 <| K_iload_n fi_181_22 rfl <| K_iaddx fi_181_23 h1 <| K_ia fi_181_24 kd_154 h2 h3 <| K_iload_n fi_181_25 rfl <| R_icmp_ne fi_181_26 rfl
theorem b181_29 {d L : Nat} {σ : St} {Q : Option AV → AW → Prop} {y0 x3 : Int} {u0 u1 u2 : AV} : R d 181 29 [u0, u1, u2, vI x3] [vI y0] (WS L σ) Q = R d 181 36 [u0, u1, u2, vI x3] [vI (i_shl 1 x3), vI y0] (WS L σ) Q := K_iconst fi_181_29 <| K_iload_n fi_181_30 rfl <| K_ishl fi_181_31 <| R_goto fi_181_32 rfl
theorem b181_35 {d L : Nat} {σ : St} {Q : Option AV → AW → Prop} {y0 : Int} {u0 u1 u2 u3 : AV} : R d 181 35 [u0, u1, u2, u3] [vI y0] (WS L σ) Q = R d 181 36 [u0, u1, u2, u3] [vI 0, vI y0] (WS L σ) Q := K_iconst fi_181_35 <| rfl
theorem b181_36 {d L : Nat} {σ : St} {Q : Option AV → AW → Prop} {y0 y1 x1 x3 : Int} {u0 u2 : AV} (h1 : -2147483648 ≤ x3 + 1 ∧ x3 + 1 ≤ 2147483647) : R d 181 36 [u0, vI x1, u2, vI x3] [vI y0, vI y1] (WS L σ) Q = R d 181 4 [u0, vI x1, vI (i_or y1 y0), vI (x3 + 1)] [] (WS L σ) Q := K_ior fi_181_36 <| K_istore_n fi_181_37 (Nat.le_of_ble_eq_true rfl) rfl rfl <| K_iincx fi_181_38 rfl (Nat.le_of_ble_eq_true rfl) rfl h1 rfl <| R_goto fi_181_41 rfl
theorem b181_44 {d L : Nat} {σ : St} {Q : Option AV → AW → Prop} {x2 : Int} {u0 u1 u3 : AV} : R d 181 44 [u0, u1, vI x2, u3] [] (WS L σ) Q = Q (some (vI x2)) (WS L σ) := K_iload_n fi_181_44 rfl <| R_ireti fi_181_45 rfl
theorem fi_182_0 : am_find 182 0 = some (.aload_n 0, 1, 0, 0, 0) := by decide +kernel
theorem fi_182_1 : am_find 182 1 = some (.invokevirtual 194, 3, 183, 0, 196) := by decide +kernel
theorem fi_182_4 : am_find 182 4 = some (.istore_n 1, 1, 0, 0, 0) := by decide +kernel
theorem fi_182_5 : am_find 182 5 = some (.iload_n 1, 1, 0, 0, 0) := by decide +kernel
theorem fi_182_6 : am_find 182 6 = some (.invokestatic 185, 3, 184, 1, 197) := by decide +kernel
theorem fi_182_9 : am_find 182 9 = some (.aload_n 0, 1, 0, 0, 0) := by decide +kernel
theorem fi_182_10 : am_find 182 10 = some (.getfield 7, 3, 10, 1, 101) := by decide +kernel
theorem fi_182_13 : am_find 182 13 = some (.iconst 0, 1, 0, 0, 0) := by decide +kernel
theorem fi_182_14 : am_find 182 14 = some (.iaload, 1, 0, 0, 0) := by decide +kernel
theorem fi_182_15 : am_find 182 15 = some (.if_icmp .ne 6, 3, 0, 0, 0) := by decide +kernel
theorem fi_182_18 : am_find 182 18 = some (.bipush (-5), 2, 0, (-5), 0) := by decide +kernel
theorem fi_182_20 : am_find 182 20 = some (.ireturn, 1, 0, 0, 0) := by decide +kernel
theorem fi_182_21 : am_find 182 21 = some (.aload_n 0, 1, 0, 0, 0) := by decide +kernel
theorem fi_182_22 : am_find 182 22 = some (.aload_n 0, 1, 0, 0, 0) := by decide +kernel
theorem fi_182_23 : am_find 182 23 = some (.getfield 7, 3, 10, 1, 101) := by decide +kernel
theorem fi_182_26 : am_find 182 26 = some (.iconst 4, 1, 0, 4, 0) := by decide +kernel
theorem fi_182_27 : am_find 182 27 = some (.iaload, 1, 0, 0, 0) := by decide +kernel
theorem fi_182_28 : am_find 182 28 = some (.iconst 0, 1, 0, 0, 0) := by decide +kernel
theorem fi_182_29 : am_find 182 29 = some (.invokevirtual 197, 3, 185, 2, 198) := by decide +kernel
theorem fi_182_32 : am_find 182 32 = some (.aload_n 0, 1, 0, 0, 0) := by decide +kernel
theorem fi_182_33 : am_find 182 33 = some (.iload_n 1, 1, 0, 0, 0) := by decide +kernel
theorem fi_182_34 : am_find 182 34 = some (.invokevirtual 176, 3, 186, 1, 199) := by decide +kernel
theorem fi_182_37 : am_find 182 37 = some (.istore_n 2, 1, 0, 0, 0) := by decide +kernel
theorem fi_182_38 : am_find 182 38 = some (.aload_n 0, 1, 0, 0, 0) := by decide +kernel
theorem fi_182_39 : am_find 182 39 = some (.getfield 30, 3, 10, 13, 107) := by decide +kernel
theorem fi_182_42 : am_find 182 42 = some (.iload_n 1, 1, 0, 0, 0) := by decide +kernel
theorem fi_182_43 : am_find 182 43 = some (.iaload, 1, 0, 0, 0) := by decide +kernel
theorem fi_182_44 : am_find 182 44 = some (.ireturn, 1, 0, 0, 0) := by decide +kernel
theorem b182_0 {d L : Nat} {σ : St} {Q : Option AV → AW → Prop} {u1 u2 : AV} : R (d + 1) 182 0 [vR 153, u1, u2] [] (WS L σ) Q = R d 183 0 [vR 153, vX 9, vX 9] [] (WS L σ) (fun r w => R (d + 1) 182 4 [vR 153, u1, u2] (am_push r []) w Q) := K_aload_n fi_182_0 rfl <| R_invV fi_182_1 (am_invV_of rfl (kd_153) (Nat.le_of_ble_eq_true rfl) (Nat.le_of_ble_eq_true rfl) rfl rfl)
theorem b182_4 {d L : Nat} {σ : St} {Q : Option AV → AW → Prop} {y0 : Int} {u0 u1 u2 : AV} : R (d + 1) 182 4 [u0, u1, u2] [vI y0] (WS L σ) Q = R d 184 0 [vI y0, vX 9, vX 9] [] (WS L σ) (fun r w => R (d + 1) 182 9 [u0, vI y0, u2] (am_push r []) w Q) := K_istore_n fi_182_4 (Nat.le_of_ble_eq_true rfl) rfl rfl <| K_iload_n fi_182_5 rfl <| R_invS fi_182_6 (by decide) (am_invS_of (Nat.le_of_ble_eq_true rfl) rfl (Nat.le_of_ble_eq_true rfl) (Nat.le_of_ble_eq_true rfl) rfl rfl)
theorem b182_9 {d L : Nat} {σ : St} {Q : Option AV → AW → Prop} {y0 : Int} {u1 u2 : AV} : R d 182 9 [vR 153, u1, u2] [vI y0] (WS L σ) Q = if ¬ y0 = (σ 154 0) then R d 182 21 [vR 153, u1, u2] [] (WS L σ) Q else R d 182 18 [vR 153, u1, u2] [] (WS L σ) Q := K_aload_n fi_182_9 rfl <| K_gf fi_182_10 kd_153 mk_153_1 <| K_iconst fi_182_13 <| K_ia fi_182_14 kd_154 (by decide) (show (0 : Int) < 1580 by decide) <| R_icmp_ne fi_182_15 rfl
theorem b182_18 {d L : Nat} {σ : St} {Q : Option AV → AW → Prop} {u0 u1 u2 : AV} : R d 182 18 [u0, u1, u2] [] (WS L σ) Q = Q (some (vI (-5))) (WS L σ) := K_bipush fi_182_18 <| R_ireti fi_182_20 rfl
theorem b182_21 {d L : Nat} {σ : St} {Q : Option AV → AW → Prop} {u1 u2 : AV} : R (d + 1) 182 21 [vR 153, u1, u2] [] (WS L σ) Q = R d 185 0 [vR 153, vI (σ 154 4), vI 0, vX 9, vX 9] [] (WS L σ) (fun r w => R (d + 1) 182 32 [vR 153, u1, u2] (am_push r []) w Q) := K_aload_n fi_182_21 rfl <| K_aload_n fi_182_22 rfl <| K_gf fi_182_23 kd_153 mk_153_1 <| K_iconst fi_182_26 <| K_ia fi_182_27 kd_154 (by decide) (show (4 : Int) < 1580 by decide) <| K_iconst fi_182_28 <| R_invV fi_182_29 (am_invV_of rfl (kd_153) (Nat.le_of_ble_eq_true rfl) (Nat.le_of_ble_eq_true rfl) rfl rfl)
theorem b182_32 {d L : Nat} {σ : St} {Q : Option AV → AW → Prop} {x1 : Int} {u2 : AV} : R (d + 1) 182 32 [vR 153, vI x1, u2] [] (WS L σ) Q = R d 186 0 [vR 153, vI x1, vX 9, vX 9] [] (WS L σ) (fun r w => R (d + 1) 182 37 [vR 153, vI x1, u2] (am_push r []) w Q) := K_aload_n fi_182_32 rfl <| K_iload_n fi_182_33 rfl <| R_invV fi_182_34 (am_invV_of rfl (kd_153) (Nat.le_of_ble_eq_true rfl) (Nat.le_of_ble_eq_true rfl) rfl rfl)
theorem b182_37 {d L : Nat} {σ : St} {Q : Option AV → AW → Prop} {y0 x1 : Int} {u2 : AV} (h1 : 0 ≤ x1) (h2 : x1 < 65536) : R d 182 37 [vR 153, vI x1, u2] [vI y0] (WS L σ) Q = Q (some (vI (σ 160 x1))) (WS L σ) := K_istore_n fi_182_37 (Nat.le_of_ble_eq_true rfl) rfl rfl <| K_aload_n fi_182_38 rfl <| K_gf fi_182_39 kd_153 mk_153_13 <| K_iload_n fi_182_42 rfl <| K_ia fi_182_43 kd_160 h1 h2 <| R_ireti fi_182_44 rfl
theorem fi_183_0 : am_find 183 0 = some (.iconst 0, 1, 0, 0, 0) := by decide +kernel
theorem fi_183_1 : am_find 183 1 = some (.istore_n 1, 1, 0, 0, 0) := by decide +kernel
theorem fi_183_2 : am_find 183 2 = some (.iconst 0, 1, 0, 0, 0) := by decide +kernel
theorem fi_183_3 : am_find 183 3 = some (.istore_n 2, 1, 0, 0, 0) := by decide +kernel
theorem fi_183_4 : am_find 183 4 = some (.iload_n 2, 1, 0, 0, 0) := by decide +kernel
theorem fi_183_5 : am_find 183 5 = some (.aload_n 0, 1, 0, 0, 0) := by decide +kernel
theorem fi_183_6 : am_find 183 6 = some (.getfield 7, 3, 10, 1, 101) := by decide +kernel
theorem fi_183_9 : am_find 183 9 = some (.iconst 0, 1, 0, 0, 0) := by decide +kernel
theorem fi_183_10 : am_find 183 10 = some (.iaload, 1, 0, 0, 0) := by decide +kernel
theorem fi_183_11 : am_find 183 11 = some (.if_icmp .ge 28, 3, 0, 0, 0) := by decide +kernel
theorem fi_183_14 : am_find 183 14 = some (.iload_n 1, 1, 0, 0, 0) := by decide +kernel
theorem fi_183_15 : am_find 183 15 = some (.aload_n 0, 1, 0, 0, 0) := by decide +kernel
theorem fi_183_16 : am_find 183 16 = some (.getfield 7, 3, 10, 1, 101) := by decide +kernel
theorem fi_183_19 : am_find 183 19 = some (.sipush 203, 3, 0, 203, 0) := by decide +kernel
theorem fi_183_22 : am_find 183 22 = some (.iload_n 2, 1, 0, 0, 0) := by decide +kernel
theorem fi_183_23 : am_find 183 23 = some (.iadd, 1, 0, 0, 0) := by decide +kernel
theorem fi_183_24 : am_find 183 24 = some (.iaload, 1, 0, 0, 0) := by decide +kernel
theorem fi_183_25 : am_find 183 25 = some (.iconst 1, 1, 0, 1, 0) := by decide +kernel
theorem fi_183_26 : am_find 183 26 = some (.iadd, 1, 0, 0, 0) := by decide +kernel
theorem fi_183_27 : am_find 183 27 = some (.iconst 2, 1, 0, 2, 0) := by decide +kernel
theorem fi_183_28 : am_find 183 28 = some (.iload_n 2, 1, 0, 0, 0) := by decide +kernel
theorem fi_183_29 : am_find 183 29 = some (.imul, 1, 0, 0, 0) := by decide +kernel
theorem fi_183_30 : am_find 183 30 = some (.ishl, 1, 0, 0, 0) := by decide +kernel
theorem fi_183_31 : am_find 183 31 = some (.ior, 1, 0, 0, 0) := by decide +kernel
theorem fi_183_32 : am_find 183 32 = some (.istore_n 1, 1, 0, 0, 0) := by decide +kernel
theorem fi_183_33 : am_find 183 33 = some (.iinc 2 1, 3, 0, 0, 0) := by decide +kernel
theorem fi_183_36 : am_find 183 36 = some (.goto (-32), 3, 0, 0, 0) := by decide +kernel
theorem fi_183_39 : am_find 183 39 = some (.iload_n 1, 1, 0, 0, 0) := by decide +kernel
theorem fi_183_40 : am_find 183 40 = some (.ireturn, 1, 0, 0, 0) := by decide +kernel
theorem b183_0 {d L : Nat} {σ : St} {Q : Option AV → AW → Prop} {u0 u1 u2 : AV} : R d 183 0 [u0, u1, u2] [] (WS L σ) Q = R d 183 4 [u0, vI 0, vI 0] [] (WS L σ) Q := K_iconst fi_183_0 <| K_istore_n fi_183_1 (Nat.le_of_ble_eq_true rfl) rfl rfl <| K_iconst fi_183_2 <| K_istore_n fi_183_3 (Nat.le_of_ble_eq_true rfl) rfl rfl <| rfl
theorem b183_4 {d L : Nat} {σ : St} {Q : Option AV → AW → Prop} {x2 : Int} {u1 : AV} : R d 183 4 [vR 153, u1, vI x2] [] (WS L σ) Q = if (σ 154 0) ≤ x2 then R d 183 39 [vR 153, u1, vI x2] [] (WS L σ) Q else R d 183 14 [vR 153, u1, vI x2] [] (WS L σ) Q := K_iload_n fi_183_4 rfl <| K_aload_n fi_183_5 rfl <| K_gf fi_183_6 kd_153 mk_153_1 <| K_iconst fi_183_9 <| K_ia fi_183_10 kd_154 (by decide) (show (0 : Int) < 1580 by decide) <| R_icmp_ge fi_183_11 rfl
theorem b183_14 {d L : Nat} {σ : St} {Q : Option AV → AW → Prop} {x1 x2 : Int} (h1 : -2147483648 ≤ 203 + x2 ∧ 203 + x2 ≤ 2147483647) (h2 : 0 ≤ 203 + x2) (h3 : (203 + x2) < 1580) (h4 : -2147483648 ≤ (σ 154 (203 + x2)) + 1 ∧ (σ 154 (203 + x2)) + 1 ≤ 2147483647) (h5 : -2147483648 ≤ 2 * x2 ∧ 2 * x2 ≤ 2147483647) (h6 : -2147483648 ≤ x2 + 1 ∧ x2 + 1 ≤ 2147483647) : R d 183 14 [vR 153, vI x1, vI x2] [] (WS L σ) Q = R d 183 4 [vR 153, vI (i_or x1 (i_shl ((σ 154 (203 + x2)) + 1) (2 * x2))), vI (x2 + 1)] [] (WS L σ) Q := K_iload_n fi_183_14 rfl <| K_aload_n fi_183_15 rfl <| K_gf fi_183_16 kd_153 mk_153_1 <| K_sipush fi_183_19 <| K_iload_n fi_183_22 rfl <| K_iaddx fi_183_23 h1 <| K_ia fi_183_24 kd_154 h2 h3 <| K_iconst fi_183_25 <| K_iaddx fi_183_26 h4 <| K_iconst fi_183_27 <| K_iload_n fi_183_28 rfl <| K_imulx fi_183_29 h5 <| K_ishl fi_183_30 <| K_ior fi_183_31 <| K_istore_n fi_183_32 (Nat.le_of_ble_eq_true rfl) rfl rfl <| K_iincx fi_183_33 rfl (Nat.le_of_ble_eq_true rfl) rfl h6 rfl <| R_goto fi_183_36 rfl
theorem b183_39 {d L : Nat} {σ : St} {Q : Option AV → AW → Prop} {x1 : Int} {u0 u2 : AV} : R d 183 39 [u0, vI x1, u2] [] (WS L σ) Q = Q (some (vI x1)) (WS L σ) := K_iload_n fi_183_39 rfl <| R_ireti fi_183_40 rfl
theorem fi_184_0 : am_find 184 0 = some (.iconst 0, 1, 0, 0, 0) := by decide +kernel
theorem fi_184_1 : am_find 184 1 = some (.istore_n 1, 1, 0, 0, 0) := by decide +kernel
theorem fi_184_2 : am_find 184 2 = some (.iconst 0, 1, 0, 0, 0) := by decide +kernel
theorem fi_184_3 : am_find 184 3 = some (.istore_n 2, 1, 0, 0, 0) := by decide +kernel
theorem fi_184_4 : am_find 184 4 = some (.iload_n 2, 1, 0, 0, 0) := by decide +kernel
theorem fi_184_5 : am_find 184 5 = some (.bipush 8, 2, 0, 8, 0) := by decide +kernel
theorem fi_184_7 : am_find 184 7 = some (.if_icmp .ge 27, 3, 0, 0, 0) := by decide +kernel
theorem fi_184_10 : am_find 184 10 = some (.iload_n 1, 1, 0, 0, 0) := by decide +kernel
theorem fi_184_11 : am_find 184 11 = some (.iload_n 0, 1, 0, 0, 0) := by decide +kernel
theorem fi_184_12 : am_find 184 12 = some (.iconst 2, 1, 0, 2, 0) := by decide +kernel
theorem fi_184_13 : am_find 184 13 = some (.iload_n 2, 1, 0, 0, 0) := by decide +kernel
theorem fi_184_14 : am_find 184 14 = some (.imul, 1, 0, 0, 0) := by decide +kernel
theorem fi_184_15 : am_find 184 15 = some (.ishr, 1, 0, 0, 0) := by decide +kernel
theorem fi_184_16 : am_find 184 16 = some (.iconst 3, 1, 0, 3, 0) := by decide +kernel
theorem fi_184_17 : am_find 184 17 = some (.iand, 1, 0, 0, 0) := by decide +kernel
theorem fi_184_18 : am_find 184 18 = some (.ifCond .eq 7, 3, 0, 0, 0) := by decide +kernel
theorem fi_184_21 : am_find 184 21 = some (.iconst 1, 1, 0, 1, 0) := by decide +kernel
theorem fi_184_22 : am_find 184 22 = some (.goto 4, 3, 0, 0, 0) := by decide +kernel
theorem fi_184_25 : am_find 184 25 = some (.iconst 0, 1, 0, 0, 0) := by decide +kernel
theorem fi_184_26 : am_find 184 26 = some (.iadd, 1, 0, 0, 0) := by decide +kernel
theorem fi_184_27 : am_find 184 27 = some (.istore_n 1, 1, 0, 0, 0) := by decide +kernel
theorem fi_184_28 : am_find 184 28 = some (.iinc 2 1, 3, 0, 0, 0) := by decide +kernel
theorem fi_184_31 : am_find 184 31 = some (.goto (-27), 3, 0, 0, 0) := by decide +kernel
theorem fi_184_34 : am_find 184 34 = some (.iload_n 1, 1, 0, 0, 0) := by decide +kernel
theorem fi_184_35 : am_find 184 35 = some (.ireturn, 1, 0, 0, 0) := by decide +kernel
theorem b184_0 {d L : Nat} {σ : St} {Q : Option AV → AW → Prop} {u0 u1 u2 : AV} : R d 184 0 [u0, u1, u2] [] (WS L σ) Q = R d 184 4 [u0, vI 0, vI 0] [] (WS L σ) Q := K_iconst fi_184_0 <| K_istore_n fi_184_1 (Nat.le_of_ble_eq_true rfl) rfl rfl <| K_iconst fi_184_2 <| K_istore_n fi_184_3 (Nat.le_of_ble_eq_true rfl) rfl rfl <| rfl
theorem b184_4 {d L : Nat} {σ : St} {Q : Option AV → AW → Prop} {x2 : Int} {u0 u1 : AV} : R d 184 4 [u0, u1, vI x2] [] (WS L σ) Q = if 8 ≤ x2 then R d 184 34 [u0, u1, vI x2] [] (WS L σ) Q else R d 184 10 [u0, u1, vI x2] [] (WS L σ) Q := K_iload_n fi_184_4 rfl <| K_bipush fi_184_5 <| R_icmp_ge fi_184_7 rfl
theorem b184_10 {d L : Nat} {σ : St} {Q : Option AV → AW → Prop} {x1 x0 x2 : Int} (h1 : -2147483648 ≤ 2 * x2 ∧ 2 * x2 ≤ 2147483647) : R d 184 10 [vI x0, vI x1, vI x2] [] (WS L σ) Q = if (i_and (i_shr x0 (2 * x2)) 3) = 0 then R d 184 25 [vI x0, vI x1, vI x2] [vI x1] (WS L σ) Q else R d 184 21 [vI x0, vI x1, vI x2] [vI x1] (WS L σ) Q := K_iload_n fi_184_10 rfl <| K_iload_n fi_184_11 rfl <| K_iconst fi_184_12 <| K_iload_n fi_184_13 rfl <| K_imulx fi_184_14 h1 <| K_ishr fi_184_15 <| K_iconst fi_184_16 <| K_iand fi_184_17 <| R_if_eq fi_184_18 rfl
theorem b184_21 {d L : Nat} {σ : St} {Q : Option AV → AW → Prop} {y0 : Int} {u0 u1 u2 : AV} : R d 184 21 [u0, u1, u2] [vI y0] (WS L σ) Q = R d 184 26 [u0, u1, u2] [vI 1, vI y0] (WS L σ) Q := K_iconst fi_184_21 <| R_goto fi_184_22 rfl
theorem b184_25 {d L : Nat} {σ : St} {Q : Option AV → AW → Prop} {y0 : Int} {u0 u1 u2 : AV} : R d 184 25 [u0, u1, u2] [vI y0] (WS L σ) Q = R d 184 26 [u0, u1, u2] [vI 0, vI y0] (WS L σ) Q := K_iconst fi_184_25 <| rfl
theorem b184_26 {d L : Nat} {σ : St} {Q : Option AV → AW → Prop} {y0 y1 x2 : Int} {u0 u1 : AV} (h1 : -2147483648 ≤ y1 + y0 ∧ y1 + y0 ≤ 2147483647) (h2 : -2147483648 ≤ x2 + 1 ∧ x2 + 1 ≤ 2147483647) : R d 184 26 [u0, u1, vI x2] [vI y0, vI y1] (WS L σ) Q = R d 184 4 [u0, vI (y1 + y0), vI (x2 + 1)] [] (WS L σ) Q := K_iaddx fi_184_26 h1 <| K_istore_n fi_184_27 (Nat.le_of_ble_eq_true rfl) rfl rfl <| K_iincx fi_184_28 rfl (Nat.le_of_ble_eq_true rfl) rfl h2 rfl <| R_goto fi_184_31 rfl
theorem b184_34 {d L : Nat} {σ : St} {Q : Option AV → AW → Prop} {x1 : Int} {u0 u2 : AV} : R d 184 34 [u0, vI x1, u2] [] (WS L σ) Q = Q (some (vI x1)) (WS L σ) := K_iload_n fi_184_34 rfl <| R_ireti fi_184_35 rfl
theorem fi_185_0 : am_find 185 0 = some (.aload_n 0, 1, 0, 0, 0) := by decide +kernel
theorem fi_185_1 : am_find 185 1 = some (.dup, 1, 0, 0, 0) := by decide +kernel
theorem fi_185_2 : am_find 185 2 = some (.getfield 167, 3, 10, 14, 117) := by decide +kernel
theorem fi_185_5 : am_find 185 5 = some (.iconst 1, 1, 0, 1, 0) := by decide +kernel
theorem fi_185_6 : am_find 185 6 = some (.iadd, 1, 0, 0, 0) := by decide +kernel
theorem fi_185_7 : am_find 185 7 = some (.putfield 167, 3, 10, 14, 117) := by decide +kernel
theorem fi_185_10 : am_find 185 10 = some (.aload_n 0, 1, 0, 0, 0) := by decide +kernel
theorem fi_185_11 : am_find 185 11 = some (.iload_n 1, 1, 0, 0, 0) := by decide +kernel
theorem fi_185_12 : am_find 185 12 = some (.putfield 170, 3, 10, 15, 118) := by decide +kernel
theorem fi_185_15 : am_find 185 15 = some (.aload_n 0, 1, 0, 0, 0) := by decide +kernel
theorem fi_185_16 : am_find 185 16 = some (.iload_n 2, 1, 0, 0, 0) := by decide +kernel
theorem fi_185_17 : am_find 185 17 = some (.putfield 173, 3, 10, 16, 119) := by decide +kernel
theorem fi_185_20 : am_find 185 20 = some (.iconst 0, 1, 0, 0, 0) := by decide +kernel
theorem fi_185_21 : am_find 185 21 = some (.istore_n 3, 1, 0, 0, 0) := by decide +kernel
theorem fi_185_22 : am_find 185 22 = some (.iload_n 3, 1, 0, 0, 0) := by decide +kernel
theorem fi_185_23 : am_find 185 23 = some (.iconst 3, 1, 0, 3, 0) := by decide +kernel
theorem fi_185_24 : am_find 185 24 = some (.if_icmp .ge 51, 3, 0, 0, 0) := by decide +kernel
theorem fi_185_27 : am_find 185 27 = some (.iconst 0, 1, 0, 0, 0) := by decide +kernel
theorem fi_185_28 : am_find 185 28 = some (.istore 4, 2, 0, 0, 0) := by decide +kernel
theorem fi_185_30 : am_find 185 30 = some (.iload 4, 2, 0, 0, 0) := by decide +kernel
theorem fi_185_32 : am_find 185 32 = some (.iconst 1, 1, 0, 1, 0) := by decide +kernel
theorem fi_185_33 : am_find 185 33 = some (.aload_n 0, 1, 0, 0, 0) := by decide +kernel
theorem fi_185_34 : am_find 185 34 = some (.getfield 7, 3, 10, 1, 101) := by decide +kernel
theorem fi_185_37 : am_find 185 37 = some (.iconst 0, 1, 0, 0, 0) := by decide +kernel
theorem fi_185_38 : am_find 185 38 = some (.iaload, 1, 0, 0, 0) := by decide +kernel
theorem fi_185_39 : am_find 185 39 = some (.ishl, 1, 0, 0, 0) := by decide +kernel
theorem fi_185_40 : am_find 185 40 = some (.if_icmp .ge 29, 3, 0, 0, 0) := by decide +kernel
theorem fi_185_43 : am_find 185 43 = some (.aload_n 0, 1, 0, 0, 0) := by decide +kernel
theorem fi_185_44 : am_find 185 44 = some (.getfield 20, 3, 10, 10, 104) := by decide +kernel
theorem fi_185_47 : am_find 185 47 = some (.sipush 256, 3, 0, 256, 0) := by decide +kernel
theorem fi_185_50 : am_find 185 50 = some (.iload_n 3, 1, 0, 0, 0) := by decide +kernel
theorem fi_185_51 : am_find 185 51 = some (.imul, 1, 0, 0, 0) := by decide +kernel
theorem fi_185_52 : am_find 185 52 = some (.iload 4, 2, 0, 0, 0) := by decide +kernel
theorem fi_185_54 : am_find 185 54 = some (.iadd, 1, 0, 0, 0) := by decide +kernel
theorem fi_185_55 : am_find 185 55 = some (.aload_n 0, 1, 0, 0, 0) := by decide +kernel
theorem fi_185_56 : am_find 185 56 = some (.iload_n 3, 1, 0, 0, 0) := by decide +kernel
theorem fi_185_57 : am_find 185 57 = some (.iload 4, 2, 0, 0, 0) := by decide +kernel
theorem fi_185_59 : am_find 185 59 = some (.invokevirtual 155, 3, 169, 2, 190) := by decide +kernel
theorem fi_185_62 : am_find 185 62 = some (.iastore, 1, 0, 0, 0) := by decide +kernel
theorem fi_185_63 : am_find 185 63 = some (.iinc 4 1, 3, 0, 0, 0) := by decide +kernel
theorem fi_185_66 : am_find 185 66 = some (.goto (-36), 3, 0, 0, 0) := by decide +kernel
theorem fi_185_69 : am_find 185 69 = some (.iinc 3 1, 3, 0, 0, 0) := by decide +kernel
theorem fi_185_72 : am_find 185 72 = some (.goto (-50), 3, 0, 0, 0) := by decide +kernel
theorem fi_185_75 : am_find 185 75 = some (.return_, 1, 0, 0, 0) := by decide +kernel
theorem b185_0 {d L : Nat} {σ : St} {Q : Option AV → AW → Prop} {u1 u2 u3 u4 : AV} (h1 : -2147483648 ≤ (σ 153 14) + 1 ∧ (σ 153 14) + 1 ≤ 2147483647) : R d 185 0 [vR 153, u1, u2, u3, u4] [] (WS L σ) Q = R d 185 10 [vR 153, u1, u2, u3, u4] [] (WS L (st2 σ 153 14 ((σ 153 14) + 1))) Q := K_aload_n fi_185_0 rfl <| K_dupr fi_185_1 <| K_gf fi_185_2 kd_153 mk_153_14 <| K_iconst fi_185_5 <| K_iaddx fi_185_6 h1 <| K_pf fi_185_7 kd_153 rfl rfl rfl rfl <| rfl
theorem b185_10 {d L : Nat} {σ : St} {Q : Option AV → AW → Prop} {x1 : Int} {u2 u3 u4 : AV} : R d 185 10 [vR 153, vI x1, u2, u3, u4] [] (WS L σ) Q = R d 185 15 [vR 153, vI x1, u2, u3, u4] [] (WS L (st2 σ 153 15 x1)) Q := K_aload_n fi_185_10 rfl <| K_iload_n fi_185_11 rfl <| K_pf fi_185_12 kd_153 rfl rfl rfl rfl <| rfl
theorem b185_15 {d L : Nat} {σ : St} {Q : Option AV → AW → Prop} {x2 : Int} {u1 u3 u4 : AV} (h1 : am_bit x2 = true) : R d 185 15 [vR 153, u1, vI x2, u3, u4] [] (WS L σ) Q = R d 185 20 [vR 153, u1, vI x2, u3, u4] [] (WS L (st2 σ 153 16 x2)) Q := K_aload_n fi_185_15 rfl <| K_iload_n fi_185_16 rfl <| K_pfz fi_185_17 kd_153 rfl rfl h1 rfl rfl <| rfl
theorem b185_20 {d L : Nat} {σ : St} {Q : Option AV → AW → Prop} {u0 u1 u2 u3 u4 : AV} : R d 185 20 [u0, u1, u2, u3, u4] [] (WS L σ) Q = R d 185 22 [u0, u1, u2, vI 0, u4] [] (WS L σ) Q := K_iconst fi_185_20 <| K_istore_n fi_185_21 (Nat.le_of_ble_eq_true rfl) rfl rfl <| rfl
theorem b185_22 {d L : Nat} {σ : St} {Q : Option AV → AW → Prop} {x3 : Int} {u0 u1 u2 u4 : AV} : R d 185 22 [u0, u1, u2, vI x3, u4] [] (WS L σ) Q = if 3 ≤ x3 then R d 185 75 [u0, u1, u2, vI x3, u4] [] (WS L σ) Q else R d 185 27 [u0, u1, u2, vI x3, u4] [] (WS L σ) Q := K_iload_n fi_185_22 rfl <| K_iconst fi_185_23 <| R_icmp_ge fi_185_24 rfl
theorem b185_27 {d L : Nat} {σ : St} {Q : Option AV → AW → Prop} {u0 u1 u2 u3 u4 : AV} : R d 185 27 [u0, u1, u2, u3, u4] [] (WS L σ) Q = R d 185 30 [u0, u1, u2, u3, vI 0] [] (WS L σ) Q := K_iconst fi_185_27 <| K_istore fi_185_28 (Nat.le_of_ble_eq_true rfl) rfl rfl <| rfl
theorem b185_30 {d L : Nat} {σ : St} {Q : Option AV → AW → Prop} {x4 : Int} {u1 u2 u3 : AV} : R d 185 30 [vR 153, u1, u2, u3, vI x4] [] (WS L σ) Q = if (i_shl 1 (σ 154 0)) ≤ x4 then R d 185 69 [vR 153, u1, u2, u3, vI x4] [] (WS L σ) Q else R d 185 43 [vR 153, u1, u2, u3, vI x4] [] (WS L σ) Q := K_iload fi_185_30 rfl <| K_iconst fi_185_32 <| K_aload_n fi_185_33 rfl <| K_gf fi_185_34 kd_153 mk_153_1 <| K_iconst fi_185_37 <| K_ia fi_185_38 kd_154 (by decide) (show (0 : Int) < 1580 by decide) <| K_ishl fi_185_39 <| R_icmp_ge fi_185_40 rfl
theorem b185_43 {d L : Nat} {σ : St} {Q : Option AV → AW → Prop} {x3 x4 : Int} {u1 u2 : AV} (h1 : -2147483648 ≤ 256 * x3 ∧ 256 * x3 ≤ 2147483647) (h2 : -2147483648 ≤ (256 * x3) + x4 ∧ (256 * x3) + x4 ≤ 2147483647) : R (d + 1) 185 43 [vR 153, u1, u2, vI x3, vI x4] [] (WS L σ) Q = R d 169 0 [vR 153, vI x3, vI x4, vX 9, vX 9, vX 9, vX 9] [] (WS L σ) (fun r w => R (d + 1) 185 62 [vR 153, u1, u2, vI x3, vI x4] (am_push r [vI ((256 * x3) + x4), vR 157]) w Q) := K_aload_n fi_185_43 rfl <| K_gf fi_185_44 kd_153 mk_153_10 <| K_sipush fi_185_47 <| K_iload_n fi_185_50 rfl <| K_imulx fi_185_51 h1 <| K_iload fi_185_52 rfl <| K_iaddx fi_185_54 h2 <| K_aload_n fi_185_55 rfl <| K_iload_n fi_185_56 rfl <| K_iload fi_185_57 rfl <| R_invV fi_185_59 (am_invV_of rfl (kd_153) (Nat.le_of_ble_eq_true rfl) (Nat.le_of_ble_eq_true rfl) rfl rfl)
theorem b185_62 {d L : Nat} {σ : St} {Q : Option AV → AW → Prop} {y0 y1 : Int} {u0 u1 u2 u3 u4 : AV} (h1 : 0 ≤ y1) (h2 : y1 < 768) : R d 185 62 [u0, u1, u2, u3, u4] [vI y0, vI y1, vR 157] (WS L σ) Q = R d 185 63 [u0, u1, u2, u3, u4] [] (WS L (st2 σ 157 y1 y0)) Q := K_is fi_185_62 kd_157 h1 h2 <| rfl
theorem b185_63 {d L : Nat} {σ : St} {Q : Option AV → AW → Prop} {x4 : Int} {u0 u1 u2 u3 : AV} (h1 : -2147483648 ≤ x4 + 1 ∧ x4 + 1 ≤ 2147483647) : R d 185 63 [u0, u1, u2, u3, vI x4] [] (WS L σ) Q = R d 185 30 [u0, u1, u2, u3, vI (x4 + 1)] [] (WS L σ) Q := K_iincx fi_185_63 rfl (Nat.le_of_ble_eq_true rfl) rfl h1 rfl <| R_goto fi_185_66 rfl
theorem b185_69 {d L : Nat} {σ : St} {Q : Option AV → AW → Prop} {x3 : Int} {u0 u1 u2 u4 : AV} (h1 : -2147483648 ≤ x3 + 1 ∧ x3 + 1 ≤ 2147483647) : R d 185 69 [u0, u1, u2, vI x3, u4] [] (WS L σ) Q = R d 185 22 [u0, u1, u2, vI (x3 + 1), u4] [] (WS L σ) Q := K_iincx fi_185_69 rfl (Nat.le_of_ble_eq_true rfl) rfl h1 rfl <| R_goto fi_185_72 rfl
theorem b185_75 {d L : Nat} {σ : St} {Q : Option AV → AW → Prop} {u0 u1 u2 u3 u4 : AV} : R d 185 75 [u0, u1, u2, u3, u4] [] (WS L σ) Q = Q none (WS L σ) := R_return fi_185_75
theorem fi_186_0 : am_find 186 0 = some (.aload_n 0, 1, 0, 0, 0) := by decide +kernel
theorem fi_186_1 : am_find 186 1 = some (.getfield 24, 3, 10, 11, 105) := by decide +kernel
theorem fi_186_4 : am_find 186 4 = some (.iload_n 1, 1, 0, 0, 0) := by decide +kernel
theorem fi_186_5 : am_find 186 5 = some (.iaload, 1, 0, 0, 0) := by decide +kernel
theorem fi_186_6 : am_find 186 6 = some (.aload_n 0, 1, 0, 0, 0) := by decide +kernel
theorem fi_186_7 : am_find 186 7 = some (.getfield 167, 3, 10, 14, 117) := by decide +kernel
theorem fi_186_10 : am_find 186 10 = some (.if_icmp .eq 74, 3, 0, 0, 0) := by decide +kernel
theorem fi_186_13 : am_find 186 13 = some (.iload_n 1, 1, 0, 0, 0) := by decide +kernel
theorem fi_186_14 : am_find 186 14 = some (.invokestatic 185, 3, 184, 1, 197) := by decide +kernel
theorem fi_186_17 : am_find 186 17 = some (.istore_n 2, 1, 0, 0, 0) := by decide +kernel
theorem fi_186_18 : am_find 186 18 = some (.iload_n 2, 1, 0, 0, 0) := by decide +kernel
theorem fi_186_19 : am_find 186 19 = some (.aload_n 0, 1, 0, 0, 0) := by decide +kernel
theorem fi_186_20 : am_find 186 20 = some (.getfield 7, 3, 10, 1, 101) := by decide +kernel
theorem fi_186_23 : am_find 186 23 = some (.iconst 0, 1, 0, 0, 0) := by decide +kernel
theorem fi_186_24 : am_find 186 24 = some (.iaload, 1, 0, 0, 0) := by decide +kernel
theorem fi_186_25 : am_find 186 25 = some (.if_icmp .ne 7, 3, 0, 0, 0) := by decide +kernel
theorem fi_186_28 : am_find 186 28 = some (.iconst (-1), 1, 0, (-1), 0) := by decide +kernel
theorem fi_186_29 : am_find 186 29 = some (.goto 13, 3, 0, 0, 0) := by decide +kernel
theorem fi_186_32 : am_find 186 32 = some (.aload_n 0, 1, 0, 0, 0) := by decide +kernel
theorem fi_186_33 : am_find 186 33 = some (.iload_n 1, 1, 0, 0, 0) := by decide +kernel
theorem fi_186_34 : am_find 186 34 = some (.aload_n 0, 1, 0, 0, 0) := by decide +kernel
theorem fi_186_35 : am_find 186 35 = some (.iload_n 2, 1, 0, 0, 0) := by decide +kernel
theorem fi_186_36 : am_find 186 36 = some (.invokevirtual 188, 3, 187, 1, 200) := by decide +kernel
theorem fi_186_39 : am_find 186 39 = some (.invokevirtual 191, 3, 188, 2, 201) := by decide +kernel
theorem fi_186_42 : am_find 186 42 = some (.istore_n 3, 1, 0, 0, 0) := by decide +kernel
theorem fi_186_43 : am_find 186 43 = some (.aload_n 0, 1, 0, 0, 0) := by decide +kernel
theorem fi_186_44 : am_find 186 44 = some (.getfield 27, 3, 10, 12, 106) := by decide +kernel
theorem fi_186_47 : am_find 186 47 = some (.iload_n 1, 1, 0, 0, 0) := by decide +kernel
theorem fi_186_48 : am_find 186 48 = some (.iload_n 2, 1, 0, 0, 0) := by decide +kernel
theorem fi_186_49 : am_find 186 49 = some (.aload_n 0, 1, 0, 0, 0) := by decide +kernel
theorem fi_186_50 : am_find 186 50 = some (.getfield 7, 3, 10, 1, 101) := by decide +kernel
theorem fi_186_53 : am_find 186 53 = some (.iconst 0, 1, 0, 0, 0) := by decide +kernel
theorem fi_186_54 : am_find 186 54 = some (.iaload, 1, 0, 0, 0) := by decide +kernel
theorem fi_186_55 : am_find 186 55 = some (.if_icmp .ne 7, 3, 0, 0, 0) := by decide +kernel
theorem fi_186_58 : am_find 186 58 = some (.iload_n 1, 1, 0, 0, 0) := by decide +kernel
theorem fi_186_59 : am_find 186 59 = some (.goto 7, 3, 0, 0, 0) := by decide +kernel
theorem fi_186_62 : am_find 186 62 = some (.aload_n 0, 1, 0, 0, 0) := by decide +kernel
theorem fi_186_63 : am_find 186 63 = some (.getfield 182, 3, 10, 17, 120) := by decide +kernel
theorem fi_186_66 : am_find 186 66 = some (.iastore, 1, 0, 0, 0) := by decide +kernel
theorem fi_186_67 : am_find 186 67 = some (.aload_n 0, 1, 0, 0, 0) := by decide +kernel
theorem fi_186_68 : am_find 186 68 = some (.getfield 30, 3, 10, 13, 107) := by decide +kernel
theorem fi_186_71 : am_find 186 71 = some (.iload_n 1, 1, 0, 0, 0) := by decide +kernel
theorem fi_186_72 : am_find 186 72 = some (.iload_n 3, 1, 0, 0, 0) := by decide +kernel
theorem fi_186_73 : am_find 186 73 = some (.iastore, 1, 0, 0, 0) := by decide +kernel
theorem fi_186_74 : am_find 186 74 = some (.aload_n 0, 1, 0, 0, 0) := by decide +kernel
theorem fi_186_75 : am_find 186 75 = some (.getfield 24, 3, 10, 11, 105) := by decide +kernel
theorem fi_186_78 : am_find 186 78 = some (.iload_n 1, 1, 0, 0, 0) := by decide +kernel
theorem fi_186_79 : am_find 186 79 = some (.aload_n 0, 1, 0, 0, 0) := by decide +kernel
theorem fi_186_80 : am_find 186 80 = some (.getfield 167, 3, 10, 14, 117) := by decide +kernel
theorem fi_186_83 : am_find 186 83 = some (.iastore, 1, 0, 0, 0) := by decide +kernel
theorem fi_186_84 : am_find 186 84 = some (.aload_n 0, 1, 0, 0, 0) := by decide +kernel
theorem fi_186_85 : am_find 186 85 = some (.getfield 27, 3, 10, 12, 106) := by decide +kernel
theorem fi_186_88 : am_find 186 88 = some (.iload_n 1, 1, 0, 0, 0) := by decide +kernel
theorem fi_186_89 : am_find 186 89 = some (.iaload, 1, 0, 0, 0) := by decide +kernel
theorem fi_186_90 : am_find 186 90 = some (.ireturn, 1, 0, 0, 0) := by decide +kernel
theorem b186_0 {d L : Nat} {σ : St} {Q : Option AV → AW → Prop} {x1 : Int} {u2 u3 : AV} (h1 : 0 ≤ x1) (h2 : x1 < 65536) : R d 186 0 [vR 153, vI x1, u2, u3] [] (WS L σ) Q = if (σ 158 x1) = (σ 153 14) then R d 186 84 [vR 153, vI x1, u2, u3] [] (WS L σ) Q else R d 186 13 [vR 153, vI x1, u2, u3] [] (WS L σ) Q := K_aload_n fi_186_0 rfl <| K_gf fi_186_1 kd_153 mk_153_11 <| K_iload_n fi_186_4 rfl <| K_ia fi_186_5 kd_158 h1 h2 <| K_aload_n fi_186_6 rfl <| K_gf fi_186_7 kd_153 mk_153_14 <| R_icmp_eq fi_186_10 rfl
theorem b186_13 {d L : Nat} {σ : St} {Q : Option AV → AW → Prop} {x1 : Int} {u0 u2 u3 : AV} : R (d + 1) 186 13 [u0, vI x1, u2, u3] [] (WS L σ) Q = R d 184 0 [vI x1, vX 9, vX 9] [] (WS L σ) (fun r w => R (d + 1) 186 17 [u0, vI x1, u2, u3] (am_push r []) w Q) := K_iload_n fi_186_13 rfl <| R_invS fi_186_14 (by decide) (am_invS_of (Nat.le_of_ble_eq_true rfl) rfl (Nat.le_of_ble_eq_true rfl) (Nat.le_of_ble_eq_true rfl) rfl rfl)
theorem b186_17 {d L : Nat} {σ : St} {Q : Option AV → AW → Prop} {y0 x1 : Int} {u2 u3 : AV} : R d 186 17 [vR 153, vI x1, u2, u3] [vI y0] (WS L σ) Q = if ¬ y0 = (σ 154 0) then R d 186 32 [vR 153, vI x1, vI y0, u3] [] (WS L σ) Q else R d 186 28 [vR 153, vI x1, vI y0, u3] [] (WS L σ) Q := K_istore_n fi_186_17 (Nat.le_of_ble_eq_true rfl) rfl rfl <| K_iload_n fi_186_18 rfl <| K_aload_n fi_186_19 rfl <| K_gf fi_186_20 kd_153 mk_153_1 <| K_iconst fi_186_23 <| K_ia fi_186_24 kd_154 (by decide) (show (0 : Int) < 1580 by decide) <| R_icmp_ne fi_186_25 rfl
theorem b186_28 {d L : Nat} {σ : St} {Q : Option AV → AW → Prop} {u0 u1 u2 u3 : AV} : R d 186 28 [u0, u1, u2, u3] [] (WS L σ) Q = R d 186 42 [u0, u1, u2, u3] [vI (-1)] (WS L σ) Q := K_iconst fi_186_28 <| R_goto fi_186_29 rfl
theorem b186_32 {d L : Nat} {σ : St} {Q : Option AV → AW → Prop} {x1 x2 : Int} {u3 : AV} : R (d + 1) 186 32 [vR 153, vI x1, vI x2, u3] [] (WS L σ) Q = R d 187 0 [vR 153, vI x2, vX 9] [] (WS L σ) (fun r w => R (d + 1) 186 39 [vR 153, vI x1, vI x2, u3] (am_push r [vI x1, vR 153]) w Q) := K_aload_n fi_186_32 rfl <| K_iload_n fi_186_33 rfl <| K_aload_n fi_186_34 rfl <| K_iload_n fi_186_35 rfl <| R_invV fi_186_36 (am_invV_of rfl (kd_153) (Nat.le_of_ble_eq_true rfl) (Nat.le_of_ble_eq_true rfl) rfl rfl)
theorem b186_39 {d L : Nat} {σ : St} {Q : Option AV → AW → Prop} {y0 y1 : Int} {u0 u1 u2 u3 : AV} : R (d + 1) 186 39 [u0, u1, u2, u3] [vI y0, vI y1, vR 153] (WS L σ) Q = R d 188 0 [vR 153, vI y1, vI y0, vX 9, vX 9, vX 9, vX 9, vX 9, vX 9, vX 9] [] (WS L σ) (fun r w => R (d + 1) 186 42 [u0, u1, u2, u3] (am_push r []) w Q) := R_invV fi_186_39 (am_invV_of rfl (kd_153) (Nat.le_of_ble_eq_true rfl) (Nat.le_of_ble_eq_true rfl) rfl rfl)
theorem b186_42 {d L : Nat} {σ : St} {Q : Option AV → AW → Prop} {y0 x1 x2 : Int} {u3 : AV} : R d 186 42 [vR 153, vI x1, vI x2, u3] [vI y0] (WS L σ) Q = if ¬ x2 = (σ 154 0) then R d 186 62 [vR 153, vI x1, vI x2, vI y0] [vI x1, vR 159] (WS L σ) Q else R d 186 58 [vR 153, vI x1, vI x2, vI y0] [vI x1, vR 159] (WS L σ) Q := K_istore_n fi_186_42 (Nat.le_of_ble_eq_true rfl) rfl rfl <| K_aload_n fi_186_43 rfl <| K_gf fi_186_44 kd_153 mk_153_12 <| K_iload_n fi_186_47 rfl <| K_iload_n fi_186_48 rfl <| K_aload_n fi_186_49 rfl <| K_gf fi_186_50 kd_153 mk_153_1 <| K_iconst fi_186_53 <| K_ia fi_186_54 kd_154 (by decide) (show (0 : Int) < 1580 by decide) <| R_icmp_ne fi_186_55 rfl
theorem b186_58 {d L : Nat} {σ : St} {Q : Option AV → AW → Prop} {y0 x1 : Int} {u0 u2 u3 : AV} : R d 186 58 [u0, vI x1, u2, u3] [vI y0, vR 159] (WS L σ) Q = R d 186 66 [u0, vI x1, u2, u3] [vI x1, vI y0, vR 159] (WS L σ) Q := K_iload_n fi_186_58 rfl <| R_goto fi_186_59 rfl
theorem b186_62 {d L : Nat} {σ : St} {Q : Option AV → AW → Prop} {y0 : Int} {u1 u2 u3 : AV} : R d 186 62 [vR 153, u1, u2, u3] [vI y0, vR 159] (WS L σ) Q = R d 186 66 [vR 153, u1, u2, u3] [vI (σ 153 17), vI y0, vR 159] (WS L σ) Q := K_aload_n fi_186_62 rfl <| K_gf fi_186_63 kd_153 mk_153_17 <| rfl
theorem b186_66 {d L : Nat} {σ : St} {Q : Option AV → AW → Prop} {y0 y1 : Int} {u0 u1 u2 u3 : AV} (h1 : 0 ≤ y1) (h2 : y1 < 65536) : R d 186 66 [u0, u1, u2, u3] [vI y0, vI y1, vR 159] (WS L σ) Q = R d 186 67 [u0, u1, u2, u3] [] (WS L (st2 σ 159 y1 y0)) Q := K_is fi_186_66 kd_159 h1 h2 <| rfl
theorem b186_67 {d L : Nat} {σ : St} {Q : Option AV → AW → Prop} {x1 x3 : Int} {u2 : AV} (h1 : 0 ≤ x1) (h2 : x1 < 65536) : R d 186 67 [vR 153, vI x1, u2, vI x3] [] (WS L σ) Q = R d 186 74 [vR 153, vI x1, u2, vI x3] [] (WS L (st2 σ 160 x1 x3)) Q := K_aload_n fi_186_67 rfl <| K_gf fi_186_68 kd_153 mk_153_13 <| K_iload_n fi_186_71 rfl <| K_iload_n fi_186_72 rfl <| K_is fi_186_73 kd_160 h1 h2 <| rfl
theorem b186_74 {d L : Nat} {σ : St} {Q : Option AV → AW → Prop} {x1 : Int} {u2 u3 : AV} (h1 : 0 ≤ x1) (h2 : x1 < 65536) : R d 186 74 [vR 153, vI x1, u2, u3] [] (WS L σ) Q = R d 186 84 [vR 153, vI x1, u2, u3] [] (WS L (st2 σ 158 x1 (σ 153 14))) Q := K_aload_n fi_186_74 rfl <| K_gf fi_186_75 kd_153 mk_153_11 <| K_iload_n fi_186_78 rfl <| K_aload_n fi_186_79 rfl <| K_gf fi_186_80 kd_153 mk_153_14 <| K_is fi_186_83 kd_158 h1 h2 <| rfl
theorem b186_84 {d L : Nat} {σ : St} {Q : Option AV → AW → Prop} {x1 : Int} {u2 u3 : AV} (h1 : 0 ≤ x1) (h2 : x1 < 65536) : R d 186 84 [vR 153, vI x1, u2, u3] [] (WS L σ) Q = Q (some (vI (σ 159 x1))) (WS L σ) := K_aload_n fi_186_84 rfl <| K_gf fi_186_85 kd_153 mk_153_12 <| K_iload_n fi_186_88 rfl <| K_ia fi_186_89 kd_159 h1 h2 <| R_ireti fi_186_90 rfl
theorem fi_187_0 : am_find 187 0 = some (.aload_n 0, 1, 0, 0, 0) := by decide +kernel
theorem fi_187_1 : am_find 187 1 = some (.aload_n 0, 1, 0, 0, 0) := by decide +kernel
theorem fi_187_2 : am_find 187 2 = some (.getfield 170, 3, 10, 15, 118) := by decide +kernel
theorem fi_187_5 : am_find 187 5 = some (.iload_n 1, 1, 0, 0, 0) := by decide +kernel
theorem fi_187_6 : am_find 187 6 = some (.invokevirtual 158, 3, 175, 2, 193) := by decide +kernel
theorem fi_187_9 : am_find 187 9 = some (.istore_n 2, 1, 0, 0, 0) := by decide +kernel
theorem fi_187_10 : am_find 187 10 = some (.aload_n 0, 1, 0, 0, 0) := by decide +kernel
theorem fi_187_11 : am_find 187 11 = some (.getfield 173, 3, 10, 16, 119) := by decide +kernel
theorem fi_187_14 : am_find 187 14 = some (.ifCond .eq 14, 3, 0, 0, 0) := by decide +kernel
theorem fi_187_17 : am_find 187 17 = some (.iload_n 2, 1, 0, 0, 0) := by decide +kernel
theorem fi_187_18 : am_find 187 18 = some (.iconst 2, 1, 0, 2, 0) := by decide +kernel
theorem fi_187_19 : am_find 187 19 = some (.if_icmp .ge 9, 3, 0, 0, 0) := by decide +kernel
theorem fi_187_22 : am_find 187 22 = some (.iconst 1, 1, 0, 1, 0) := by decide +kernel
theorem fi_187_23 : am_find 187 23 = some (.iload_n 2, 1, 0, 0, 0) := by decide +kernel
theorem fi_187_24 : am_find 187 24 = some (.isub, 1, 0, 0, 0) := by decide +kernel
theorem fi_187_25 : am_find 187 25 = some (.goto 4, 3, 0, 0, 0) := by decide +kernel
theorem fi_187_28 : am_find 187 28 = some (.iload_n 2, 1, 0, 0, 0) := by decide +kernel
theorem fi_187_29 : am_find 187 29 = some (.ireturn, 1, 0, 0, 0) := by decide +kernel
theorem b187_0 {d L : Nat} {σ : St} {Q : Option AV → AW → Prop} {x1 : Int} {u2 : AV} : R (d + 1) 187 0 [vR 153, vI x1, u2] [] (WS L σ) Q = R d 175 0 [vR 153, vI (σ 153 15), vI x1, vX 9, vX 9, vX 9] [] (WS L σ) (fun r w => R (d + 1) 187 9 [vR 153, vI x1, u2] (am_push r []) w Q) := K_aload_n fi_187_0 rfl <| K_aload_n fi_187_1 rfl <| K_gf fi_187_2 kd_153 mk_153_15 <| K_iload_n fi_187_5 rfl <| R_invV fi_187_6 (am_invV_of rfl (kd_153) (Nat.le_of_ble_eq_true rfl) (Nat.le_of_ble_eq_true rfl) rfl rfl)
theorem b187_9 {d L : Nat} {σ : St} {Q : Option AV → AW → Prop} {y0 x1 : Int} {u2 : AV} : R d 187 9 [vR 153, vI x1, u2] [vI y0] (WS L σ) Q = if (σ 153 16) = 0 then R d 187 28 [vR 153, vI x1, vI y0] [] (WS L σ) Q else R d 187 17 [vR 153, vI x1, vI y0] [] (WS L σ) Q := K_istore_n fi_187_9 (Nat.le_of_ble_eq_true rfl) rfl rfl <| K_aload_n fi_187_10 rfl <| K_gf fi_187_11 kd_153 mk_153_16 <| R_if_eq fi_187_14 rfl
theorem b187_17 {d L : Nat} {σ : St} {Q : Option AV → AW → Prop} {x2 : Int} {u0 u1 : AV} : R d 187 17 [u0, u1, vI x2] [] (WS L σ) Q = if 2 ≤ x2 then R d 187 28 [u0, u1, vI x2] [] (WS L σ) Q else R d 187 22 [u0, u1, vI x2] [] (WS L σ) Q := K_iload_n fi_187_17 rfl <| K_iconst fi_187_18 <| R_icmp_ge fi_187_19 rfl
theorem b187_22 {d L : Nat} {σ : St} {Q : Option AV → AW → Prop} {x2 : Int} {u0 u1 : AV} (h1 : -2147483648 ≤ 1 - x2 ∧ 1 - x2 ≤ 2147483647) : R d 187 22 [u0, u1, vI x2] [] (WS L σ) Q = R d 187 29 [u0, u1, vI x2] [vI (1 - x2)] (WS L σ) Q := K_iconst fi_187_22 <| K_iload_n fi_187_23 rfl <| K_isubx fi_187_24 h1 <| R_goto fi_187_25 rfl
theorem b187_28 {d L : Nat} {σ : St} {Q : Option AV → AW → Prop} {x2 : Int} {u0 u1 : AV} : R d 187 28 [u0, u1, vI x2] [] (WS L σ) Q = R d 187 29 [u0, u1, vI x2] [vI x2] (WS L σ) Q := K_iload_n fi_187_28 rfl <| rfl
theorem b187_29 {d L : Nat} {σ : St} {Q : Option AV → AW → Prop} {y0 : Int} {u0 u1 u2 : AV} : R d 187 29 [u0, u1, u2] [vI y0] (WS L σ) Q = Q (some (vI y0)) (WS L σ) := R_ireti fi_187_29 rfl
theorem fi_188_0 : am_find 188 0 = some (.iconst (-1), 1, 0, (-1), 0) := by decide +kernel
theorem fi_188_1 : am_find 188 1 = some (.istore_n 3, 1, 0, 0, 0) := by decide +kernel
theorem fi_188_2 : am_find 188 2 = some (.iconst 0, 1, 0, 0, 0) := by decide +kernel
theorem fi_188_3 : am_find 188 3 = some (.istore 4, 2, 0, 0, 0) := by decide +kernel
theorem fi_188_5 : am_find 188 5 = some (.iload_n 1, 1, 0, 0, 0) := by decide +kernel
theorem fi_188_6 : am_find 188 6 = some (.istore 5, 2, 0, 0, 0) := by decide +kernel
theorem fi_188_8 : am_find 188 8 = some (.iconst 0, 1, 0, 0, 0) := by decide +kernel
theorem fi_188_9 : am_find 188 9 = some (.istore 6, 2, 0, 0, 0) := by decide +kernel
theorem fi_188_11 : am_find 188 11 = some (.iload 6, 2, 0, 0, 0) := by decide +kernel
theorem fi_188_13 : am_find 188 13 = some (.aload_n 0, 1, 0, 0, 0) := by decide +kernel
theorem fi_188_14 : am_find 188 14 = some (.getfield 7, 3, 10, 1, 101) := by decide +kernel
theorem fi_188_17 : am_find 188 17 = some (.iconst 0, 1, 0, 0, 0) := by decide +kernel
theorem fi_188_18 : am_find 188 18 = some (.iaload, 1, 0, 0, 0) := by decide +kernel
theorem fi_188_19 : am_find 188 19 = some (.if_icmp .ge 114, 3, 0, 0, 0) := by decide +kernel
theorem fi_188_22 : am_find 188 22 = some (.iload_n 1, 1, 0, 0, 0) := by decide +kernel
theorem fi_188_23 : am_find 188 23 = some (.iconst 2, 1, 0, 2, 0) := by decide +kernel
theorem fi_188_24 : am_find 188 24 = some (.iload 6, 2, 0, 0, 0) := by decide +kernel
theorem fi_188_26 : am_find 188 26 = some (.imul, 1, 0, 0, 0) := by decide +kernel
theorem fi_188_27 : am_find 188 27 = some (.ishr, 1, 0, 0, 0) := by decide +kernel
theorem fi_188_28 : am_find 188 28 = some (.iconst 3, 1, 0, 3, 0) := by decide +kernel
theorem fi_188_29 : am_find 188 29 = some (.iand, 1, 0, 0, 0) := by decide +kernel
theorem fi_188_30 : am_find 188 30 = some (.ifCond .ne 97, 3, 0, 0, 0) := by decide +kernel
theorem fi_188_33 : am_find 188 33 = some (.aload_n 0, 1, 0, 0, 0) := by decide +kernel
theorem fi_188_34 : am_find 188 34 = some (.iload_n 1, 1, 0, 0, 0) := by decide +kernel
theorem fi_188_35 : am_find 188 35 = some (.iload_n 2, 1, 0, 0, 0) := by decide +kernel
theorem fi_188_36 : am_find 188 36 = some (.iconst 1, 1, 0, 1, 0) := by decide +kernel
theorem fi_188_37 : am_find 188 37 = some (.iadd, 1, 0, 0, 0) := by decide +kernel
theorem fi_188_38 : am_find 188 38 = some (.iconst 2, 1, 0, 2, 0) := by decide +kernel
theorem fi_188_39 : am_find 188 39 = some (.iload 6, 2, 0, 0, 0) := by decide +kernel
theorem fi_188_41 : am_find 188 41 = some (.imul, 1, 0, 0, 0) := by decide +kernel
theorem fi_188_42 : am_find 188 42 = some (.ishl, 1, 0, 0, 0) := by decide +kernel
theorem fi_188_43 : am_find 188 43 = some (.ior, 1, 0, 0, 0) := by decide +kernel
theorem fi_188_44 : am_find 188 44 = some (.invokevirtual 176, 3, 186, 1, 199) := by decide +kernel
theorem fi_188_47 : am_find 188 47 = some (.istore 7, 2, 0, 0, 0) := by decide +kernel
theorem fi_188_49 : am_find 188 49 = some (.aload_n 0, 1, 0, 0, 0) := by decide +kernel
theorem fi_188_50 : am_find 188 50 = some (.getfield 20, 3, 10, 10, 104) := by decide +kernel
theorem fi_188_53 : am_find 188 53 = some (.sipush 256, 3, 0, 256, 0) := by decide +kernel
theorem fi_188_56 : am_find 188 56 = some (.iload_n 2, 1, 0, 0, 0) := by decide +kernel
theorem fi_188_57 : am_find 188 57 = some (.imul, 1, 0, 0, 0) := by decide +kernel
theorem fi_188_58 : am_find 188 58 = some (.iload 7, 2, 0, 0, 0) := by decide +kernel
theorem fi_188_60 : am_find 188 60 = some (.iload_n 2, 1, 0, 0, 0) := by decide +kernel
theorem fi_188_61 : am_find 188 61 = some (.invokestatic 179, 3, 189, 2, 202) := by decide +kernel
theorem fi_188_64 : am_find 188 64 = some (.iadd, 1, 0, 0, 0) := by decide +kernel
theorem fi_188_65 : am_find 188 65 = some (.iaload, 1, 0, 0, 0) := by decide +kernel
theorem fi_188_66 : am_find 188 66 = some (.istore 8, 2, 0, 0, 0) := by decide +kernel
theorem fi_188_68 : am_find 188 68 = some (.iload_n 3, 1, 0, 0, 0) := by decide +kernel
theorem fi_188_69 : am_find 188 69 = some (.iconst (-1), 1, 0, (-1), 0) := by decide +kernel
theorem fi_188_70 : am_find 188 70 = some (.if_icmp .eq 10, 3, 0, 0, 0) := by decide +kernel
theorem fi_188_73 : am_find 188 73 = some (.iload 8, 2, 0, 0, 0) := by decide +kernel
theorem fi_188_75 : am_find 188 75 = some (.iload 4, 2, 0, 0, 0) := by decide +kernel
theorem fi_188_77 : am_find 188 77 = some (.if_icmp .le 7, 3, 0, 0, 0) := by decide +kernel
theorem fi_188_80 : am_find 188 80 = some (.iconst 1, 1, 0, 1, 0) := by decide +kernel
theorem fi_188_81 : am_find 188 81 = some (.goto 4, 3, 0, 0, 0) := by decide +kernel
theorem fi_188_84 : am_find 188 84 = some (.iconst 0, 1, 0, 0, 0) := by decide +kernel
theorem fi_188_85 : am_find 188 85 = some (.istore 9, 2, 0, 0, 0) := by decide +kernel
theorem fi_188_87 : am_find 188 87 = some (.iload 9, 2, 0, 0, 0) := by decide +kernel
theorem fi_188_89 : am_find 188 89 = some (.ifCond .eq 8, 3, 0, 0, 0) := by decide +kernel
theorem fi_188_92 : am_find 188 92 = some (.iload 7, 2, 0, 0, 0) := by decide +kernel
theorem fi_188_94 : am_find 188 94 = some (.goto 5, 3, 0, 0, 0) := by decide +kernel
theorem fi_188_97 : am_find 188 97 = some (.iload 5, 2, 0, 0, 0) := by decide +kernel
theorem fi_188_99 : am_find 188 99 = some (.istore 5, 2, 0, 0, 0) := by decide +kernel
theorem fi_188_101 : am_find 188 101 = some (.iload 9, 2, 0, 0, 0) := by decide +kernel
theorem fi_188_103 : am_find 188 103 = some (.ifCond .eq 8, 3, 0, 0, 0) := by decide +kernel
theorem fi_188_106 : am_find 188 106 = some (.iload 6, 2, 0, 0, 0) := by decide +kernel
theorem fi_188_108 : am_find 188 108 = some (.goto 4, 3, 0, 0, 0) := by decide +kernel
theorem fi_188_111 : am_find 188 111 = some (.iload_n 3, 1, 0, 0, 0) := by decide +kernel
theorem fi_188_112 : am_find 188 112 = some (.istore_n 3, 1, 0, 0, 0) := by decide +kernel
theorem fi_188_113 : am_find 188 113 = some (.iload 9, 2, 0, 0, 0) := by decide +kernel
theorem fi_188_115 : am_find 188 115 = some (.ifCond .eq 8, 3, 0, 0, 0) := by decide +kernel
theorem fi_188_118 : am_find 188 118 = some (.iload 8, 2, 0, 0, 0) := by decide +kernel
theorem fi_188_120 : am_find 188 120 = some (.goto 5, 3, 0, 0, 0) := by decide +kernel
theorem fi_188_123 : am_find 188 123 = some (.iload 4, 2, 0, 0, 0) := by decide +kernel
theorem fi_188_125 : am_find 188 125 = some (.istore 4, 2, 0, 0, 0) := by decide +kernel
theorem fi_188_127 : am_find 188 127 = some (.iinc 6 1, 3, 0, 0, 0) := by decide +kernel
theorem fi_188_130 : am_find 188 130 = some (.goto (-119), 3, 0, 0, 0) := by decide +kernel
theorem fi_188_133 : am_find 188 133 = some (.aload_n 0, 1, 0, 0, 0) := by decide +kernel
theorem fi_188_134 : am_find 188 134 = some (.iload 5, 2, 0, 0, 0) := by decide +kernel
theorem fi_188_136 : am_find 188 136 = some (.putfield 182, 3, 10, 17, 120) := by decide +kernel
theorem fi_188_139 : am_find 188 139 = some (.iload_n 3, 1, 0, 0, 0) := by decide +kernel
theorem fi_188_140 : am_find 188 140 = some (.ireturn, 1, 0, 0, 0) := by decide +kernel
theorem b188_0 {d L : Nat} {σ : St} {Q : Option AV → AW → Prop} {x1 : Int} {u0 u2 u3 u4 u5 u6 u7 u8 u9 : AV} : R d 188 0 [u0, vI x1, u2, u3, u4, u5, u6, u7, u8, u9] [] (WS L σ) Q = R d 188 11 [u0, vI x1, u2, vI (-1), vI 0, vI x1, vI 0, u7, u8, u9] [] (WS L σ) Q := K_iconst fi_188_0 <| K_istore_n fi_188_1 (Nat.le_of_ble_eq_true rfl) rfl rfl <| K_iconst fi_188_2 <| K_istore fi_188_3 (Nat.le_of_ble_eq_true rfl) rfl rfl <| K_iload_n fi_188_5 rfl <| K_istore fi_188_6 (Nat.le_of_ble_eq_true rfl) rfl rfl <| K_iconst fi_188_8 <| K_istore fi_188_9 (Nat.le_of_ble_eq_true rfl) rfl rfl <| rfl
theorem b188_11 {d L : Nat} {σ : St} {Q : Option AV → AW → Prop} {x6 : Int} {u1 u2 u3 u4 u5 u7 u8 u9 : AV} : R d 188 11 [vR 153, u1, u2, u3, u4, u5, vI x6, u7, u8, u9] [] (WS L σ) Q = if (σ 154 0) ≤ x6 then R d 188 133 [vR 153, u1, u2, u3, u4, u5, vI x6, u7, u8, u9] [] (WS L σ) Q else R d 188 22 [vR 153, u1, u2, u3, u4, u5, vI x6, u7, u8, u9] [] (WS L σ) Q := K_iload fi_188_11 rfl <| K_aload_n fi_188_13 rfl <| K_gf fi_188_14 kd_153 mk_153_1 <| K_iconst fi_188_17 <| K_ia fi_188_18 kd_154 (by decide) (show (0 : Int) < 1580 by decide) <| R_icmp_ge fi_188_19 rfl
theorem b188_22 {d L : Nat} {σ : St} {Q : Option AV → AW → Prop} {x1 x6 : Int} {u0 u2 u3 u4 u5 u7 u8 u9 : AV} (h1 : -2147483648 ≤ 2 * x6 ∧ 2 * x6 ≤ 2147483647) : R d 188 22 [u0, vI x1, u2, u3, u4, u5, vI x6, u7, u8, u9] [] (WS L σ) Q = if ¬ (i_and (i_shr x1 (2 * x6)) 3) = 0 then R d 188 127 [u0, vI x1, u2, u3, u4, u5, vI x6, u7, u8, u9] [] (WS L σ) Q else R d 188 33 [u0, vI x1, u2, u3, u4, u5, vI x6, u7, u8, u9] [] (WS L σ) Q := K_iload_n fi_188_22 rfl <| K_iconst fi_188_23 <| K_iload fi_188_24 rfl <| K_imulx fi_188_26 h1 <| K_ishr fi_188_27 <| K_iconst fi_188_28 <| K_iand fi_188_29 <| R_if_ne fi_188_30 rfl
theorem b188_33 {d L : Nat} {σ : St} {Q : Option AV → AW → Prop} {x1 x2 x6 : Int} {u3 u4 u5 u7 u8 u9 : AV} (h1 : -2147483648 ≤ x2 + 1 ∧ x2 + 1 ≤ 2147483647) (h2 : -2147483648 ≤ 2 * x6 ∧ 2 * x6 ≤ 2147483647) : R (d + 1) 188 33 [vR 153, vI x1, vI x2, u3, u4, u5, vI x6, u7, u8, u9] [] (WS L σ) Q = R d 186 0 [vR 153, vI (i_or x1 (i_shl (x2 + 1) (2 * x6))), vX 9, vX 9] [] (WS L σ) (fun r w => R (d + 1) 188 47 [vR 153, vI x1, vI x2, u3, u4, u5, vI x6, u7, u8, u9] (am_push r []) w Q) := K_aload_n fi_188_33 rfl <| K_iload_n fi_188_34 rfl <| K_iload_n fi_188_35 rfl <| K_iconst fi_188_36 <| K_iaddx fi_188_37 h1 <| K_iconst fi_188_38 <| K_iload fi_188_39 rfl <| K_imulx fi_188_41 h2 <| K_ishl fi_188_42 <| K_ior fi_188_43 <| R_invV fi_188_44 (am_invV_of rfl (kd_153) (Nat.le_of_ble_eq_true rfl) (Nat.le_of_ble_eq_true rfl) rfl rfl)
theorem b188_47 {d L : Nat} {σ : St} {Q : Option AV → AW → Prop} {y0 x2 : Int} {u1 u3 u4 u5 u6 u7 u8 u9 : AV} (h1 : -2147483648 ≤ 256 * x2 ∧ 256 * x2 ≤ 2147483647) : R (d + 1) 188 47 [vR 153, u1, vI x2, u3, u4, u5, u6, u7, u8, u9] [vI y0] (WS L σ) Q = R d 189 0 [vI y0, vI x2, vX 9, vX 9] [] (WS L σ) (fun r w => R (d + 1) 188 64 [vR 153, u1, vI x2, u3, u4, u5, u6, vI y0, u8, u9] (am_push r [vI (256 * x2), vR 157]) w Q) := K_istore fi_188_47 (Nat.le_of_ble_eq_true rfl) rfl rfl <| K_aload_n fi_188_49 rfl <| K_gf fi_188_50 kd_153 mk_153_10 <| K_sipush fi_188_53 <| K_iload_n fi_188_56 rfl <| K_imulx fi_188_57 h1 <| K_iload fi_188_58 rfl <| K_iload_n fi_188_60 rfl <| R_invS fi_188_61 (by decide) (am_invS_of (Nat.le_of_ble_eq_true rfl) rfl (Nat.le_of_ble_eq_true rfl) (Nat.le_of_ble_eq_true rfl) rfl rfl)
theorem b188_64 {d L : Nat} {σ : St} {Q : Option AV → AW → Prop} {y0 y1 x3 : Int} {u0 u1 u2 u4 u5 u6 u7 u8 u9 : AV} (h1 : -2147483648 ≤ y1 + y0 ∧ y1 + y0 ≤ 2147483647) (h2 : 0 ≤ y1 + y0) (h3 : (y1 + y0) < 768) : R d 188 64 [u0, u1, u2, vI x3, u4, u5, u6, u7, u8, u9] [vI y0, vI y1, vR 157] (WS L σ) Q = if x3 = (-1) then R d 188 80 [u0, u1, u2, vI x3, u4, u5, u6, u7, vI (σ 157 (y1 + y0)), u9] [] (WS L σ) Q else R d 188 73 [u0, u1, u2, vI x3, u4, u5, u6, u7, vI (σ 157 (y1 + y0)), u9] [] (WS L σ) Q := K_iaddx fi_188_64 h1 <| K_ia fi_188_65 kd_157 h2 h3 <| K_istore fi_188_66 (Nat.le_of_ble_eq_true rfl) rfl rfl <| K_iload_n fi_188_68 rfl <| K_iconst fi_188_69 <| R_icmp_eq fi_188_70 rfl
theorem b188_73 {d L : Nat} {σ : St} {Q : Option AV → AW → Prop} {x8 x4 : Int} {u0 u1 u2 u3 u5 u6 u7 u9 : AV} : R d 188 73 [u0, u1, u2, u3, vI x4, u5, u6, u7, vI x8, u9] [] (WS L σ) Q = if x8 ≤ x4 then R d 188 84 [u0, u1, u2, u3, vI x4, u5, u6, u7, vI x8, u9] [] (WS L σ) Q else R d 188 80 [u0, u1, u2, u3, vI x4, u5, u6, u7, vI x8, u9] [] (WS L σ) Q := K_iload fi_188_73 rfl <| K_iload fi_188_75 rfl <| R_icmp_le fi_188_77 rfl
theorem b188_80 {d L : Nat} {σ : St} {Q : Option AV → AW → Prop} {u0 u1 u2 u3 u4 u5 u6 u7 u8 u9 : AV} : R d 188 80 [u0, u1, u2, u3, u4, u5, u6, u7, u8, u9] [] (WS L σ) Q = R d 188 85 [u0, u1, u2, u3, u4, u5, u6, u7, u8, u9] [vI 1] (WS L σ) Q := K_iconst fi_188_80 <| R_goto fi_188_81 rfl
theorem b188_84 {d L : Nat} {σ : St} {Q : Option AV → AW → Prop} {u0 u1 u2 u3 u4 u5 u6 u7 u8 u9 : AV} : R d 188 84 [u0, u1, u2, u3, u4, u5, u6, u7, u8, u9] [] (WS L σ) Q = R d 188 85 [u0, u1, u2, u3, u4, u5, u6, u7, u8, u9] [vI 0] (WS L σ) Q := K_iconst fi_188_84 <| rfl
theorem b188_85 {d L : Nat} {σ : St} {Q : Option AV → AW → Prop} {y0 : Int} {u0 u1 u2 u3 u4 u5 u6 u7 u8 u9 : AV} : R d 188 85 [u0, u1, u2, u3, u4, u5, u6, u7, u8, u9] [vI y0] (WS L σ) Q = if y0 = 0 then R d 188 97 [u0, u1, u2, u3, u4, u5, u6, u7, u8, vI y0] [] (WS L σ) Q else R d 188 92 [u0, u1, u2, u3, u4, u5, u6, u7, u8, vI y0] [] (WS L σ) Q := K_istore fi_188_85 (Nat.le_of_ble_eq_true rfl) rfl rfl <| K_iload fi_188_87 rfl <| R_if_eq fi_188_89 rfl
theorem b188_92 {d L : Nat} {σ : St} {Q : Option AV → AW → Prop} {x7 : Int} {u0 u1 u2 u3 u4 u5 u6 u8 u9 : AV} : R d 188 92 [u0, u1, u2, u3, u4, u5, u6, vI x7, u8, u9] [] (WS L σ) Q = R d 188 99 [u0, u1, u2, u3, u4, u5, u6, vI x7, u8, u9] [vI x7] (WS L σ) Q := K_iload fi_188_92 rfl <| R_goto fi_188_94 rfl
theorem b188_97 {d L : Nat} {σ : St} {Q : Option AV → AW → Prop} {x5 : Int} {u0 u1 u2 u3 u4 u6 u7 u8 u9 : AV} : R d 188 97 [u0, u1, u2, u3, u4, vI x5, u6, u7, u8, u9] [] (WS L σ) Q = R d 188 99 [u0, u1, u2, u3, u4, vI x5, u6, u7, u8, u9] [vI x5] (WS L σ) Q := K_iload fi_188_97 rfl <| rfl
theorem b188_99 {d L : Nat} {σ : St} {Q : Option AV → AW → Prop} {y0 x9 : Int} {u0 u1 u2 u3 u4 u5 u6 u7 u8 : AV} : R d 188 99 [u0, u1, u2, u3, u4, u5, u6, u7, u8, vI x9] [vI y0] (WS L σ) Q = if x9 = 0 then R d 188 111 [u0, u1, u2, u3, u4, vI y0, u6, u7, u8, vI x9] [] (WS L σ) Q else R d 188 106 [u0, u1, u2, u3, u4, vI y0, u6, u7, u8, vI x9] [] (WS L σ) Q := K_istore fi_188_99 (Nat.le_of_ble_eq_true rfl) rfl rfl <| K_iload fi_188_101 rfl <| R_if_eq fi_188_103 rfl
theorem b188_106 {d L : Nat} {σ : St} {Q : Option AV → AW → Prop} {x6 : Int} {u0 u1 u2 u3 u4 u5 u7 u8 u9 : AV} : R d 188 106 [u0, u1, u2, u3, u4, u5, vI x6, u7, u8, u9] [] (WS L σ) Q = R d 188 112 [u0, u1, u2, u3, u4, u5, vI x6, u7, u8, u9] [vI x6] (WS L σ) Q := K_iload fi_188_106 rfl <| R_goto fi_188_108 rfl
theorem b188_111 {d L : Nat} {σ : St} {Q : Option AV → AW → Prop} {x3 : Int} {u0 u1 u2 u4 u5 u6 u7 u8 u9 : AV} : R d 188 111 [u0, u1, u2, vI x3, u4, u5, u6, u7, u8, u9] [] (WS L σ) Q = R d 188 112 [u0, u1, u2, vI x3, u4, u5, u6, u7, u8, u9] [vI x3] (WS L σ) Q := K_iload_n fi_188_111 rfl <| rfl
theorem b188_112 {d L : Nat} {σ : St} {Q : Option AV → AW → Prop} {y0 x9 : Int} {u0 u1 u2 u3 u4 u5 u6 u7 u8 : AV} : R d 188 112 [u0, u1, u2, u3, u4, u5, u6, u7, u8, vI x9] [vI y0] (WS L σ) Q = if x9 = 0 then R d 188 123 [u0, u1, u2, vI y0, u4, u5, u6, u7, u8, vI x9] [] (WS L σ) Q else R d 188 118 [u0, u1, u2, vI y0, u4, u5, u6, u7, u8, vI x9] [] (WS L σ) Q := K_istore_n fi_188_112 (Nat.le_of_ble_eq_true rfl) rfl rfl <| K_iload fi_188_113 rfl <| R_if_eq fi_188_115 rfl
theorem b188_118 {d L : Nat} {σ : St} {Q : Option AV → AW → Prop} {x8 : Int} {u0 u1 u2 u3 u4 u5 u6 u7 u9 : AV} : R d 188 118 [u0, u1, u2, u3, u4, u5, u6, u7, vI x8, u9] [] (WS L σ) Q = R d 188 125 [u0, u1, u2, u3, u4, u5, u6, u7, vI x8, u9] [vI x8] (WS L σ) Q := K_iload fi_188_118 rfl <| R_goto fi_188_120 rfl
theorem b188_123 {d L : Nat} {σ : St} {Q : Option AV → AW → Prop} {x4 : Int} {u0 u1 u2 u3 u5 u6 u7 u8 u9 : AV} : R d 188 123 [u0, u1, u2, u3, vI x4, u5, u6, u7, u8, u9] [] (WS L σ) Q = R d 188 125 [u0, u1, u2, u3, vI x4, u5, u6, u7, u8, u9] [vI x4] (WS L σ) Q := K_iload fi_188_123 rfl <| rfl
theorem b188_125 {d L : Nat} {σ : St} {Q : Option AV → AW → Prop} {y0 : Int} {u0 u1 u2 u3 u4 u5 u6 u7 u8 u9 : AV} : R d 188 125 [u0, u1, u2, u3, u4, u5, u6, u7, u8, u9] [vI y0] (WS L σ) Q = R d 188 127 [u0, u1, u2, u3, vI y0, u5, u6, u7, u8, u9] [] (WS L σ) Q := K_istore fi_188_125 (Nat.le_of_ble_eq_true rfl) rfl rfl <| rfl
theorem b188_127 {d L : Nat} {σ : St} {Q : Option AV → AW → Prop} {x6 : Int} {u0 u1 u2 u3 u4 u5 u7 u8 u9 : AV} (h1 : -2147483648 ≤ x6 + 1 ∧ x6 + 1 ≤ 2147483647) : R d 188 127 [u0, u1, u2, u3, u4, u5, vI x6, u7, u8, u9] [] (WS L σ) Q = R d 188 11 [u0, u1, u2, u3, u4, u5, vI (x6 + 1), u7, u8, u9] [] (WS L σ) Q := K_iincx fi_188_127 rfl (Nat.le_of_ble_eq_true rfl) rfl h1 rfl <| R_goto fi_188_130 rfl
theorem b188_133 {d L : Nat} {σ : St} {Q : Option AV → AW → Prop} {x5 : Int} {u1 u2 u3 u4 u6 u7 u8 u9 : AV} : R d 188 133 [vR 153, u1, u2, u3, u4, vI x5, u6, u7, u8, u9] [] (WS L σ) Q = R d 188 139 [vR 153, u1, u2, u3, u4, vI x5, u6, u7, u8, u9] [] (WS L (st2 σ 153 17 x5)) Q := K_aload_n fi_188_133 rfl <| K_iload fi_188_134 rfl <| K_pf fi_188_136 kd_153 rfl rfl rfl rfl <| rfl
theorem b188_139 {d L : Nat} {σ : St} {Q : Option AV → AW → Prop} {x3 : Int} {u0 u1 u2 u4 u5 u6 u7 u8 u9 : AV} : R d 188 139 [u0, u1, u2, vI x3, u4, u5, u6, u7, u8, u9] [] (WS L σ) Q = Q (some (vI x3)) (WS L σ) := K_iload_n fi_188_139 rfl <| R_ireti fi_188_140 rfl
theorem fi_189_0 : am_find 189 0 = some (.iconst 0, 1, 0, 0, 0) := by decide +kernel
theorem fi_189_1 : am_find 189 1 = some (.istore_n 2, 1, 0, 0, 0) := by decide +kernel
theorem fi_189_2 : am_find 189 2 = some (.iconst 0, 1, 0, 0, 0) := by decide +kernel
theorem fi_189_3 : am_find 189 3 = some (.istore_n 3, 1, 0, 0, 0) := by decide +kernel
theorem fi_189_4 : am_find 189 4 = some (.iload_n 3, 1, 0, 0, 0) := by decide +kernel
theorem fi_189_5 : am_find 189 5 = some (.bipush 8, 2, 0, 8, 0) := by decide +kernel
theorem fi_189_7 : am_find 189 7 = some (.if_icmp .ge 32, 3, 0, 0, 0) := by decide +kernel
theorem fi_189_10 : am_find 189 10 = some (.iload_n 2, 1, 0, 0, 0) := by decide +kernel
theorem fi_189_11 : am_find 189 11 = some (.iload_n 0, 1, 0, 0, 0) := by decide +kernel
theorem fi_189_12 : am_find 189 12 = some (.iconst 2, 1, 0, 2, 0) := by decide +kernel
theorem fi_189_13 : am_find 189 13 = some (.iload_n 3, 1, 0, 0, 0) := by decide +kernel
theorem fi_189_14 : am_find 189 14 = some (.imul, 1, 0, 0, 0) := by decide +kernel
theorem fi_189_15 : am_find 189 15 = some (.ishr, 1, 0, 0, 0) := by decide +kernel
theorem fi_189_16 : am_find 189 16 = some (.iconst 3, 1, 0, 3, 0) := by decide +kernel
theorem fi_189_17 : am_find 189 17 = some (.iand, 1, 0, 0, 0) := by decide +kernel
theorem fi_189_18 : am_find 189 18 = some (.iload_n 1, 1, 0, 0, 0) := by decide +kernel
theorem fi_189_19 : am_find 189 19 = some (.iconst 1, 1, 0, 1, 0) := by decide +kernel
theorem fi_189_20 : am_find 189 20 = some (.iadd, 1, 0, 0, 0) := by decide +kernel
theorem fi_189_21 : am_find 189 21 = some (.if_icmp .ne 9, 3, 0, 0, 0) := by decide +kernel
theorem fi_189_24 : am_find 189 24 = some (.iconst 1, 1, 0, 1, 0) := by decide +kernel
theorem fi_189_25 : am_find 189 25 = some (.iload_n 3, 1, 0, 0, 0) := by decide +kernel
theorem fi_189_26 : am_find 189 26 = some (.ishl, 1, 0, 0, 0) := by decide +kernel
theorem fi_189_27 : am_find 189 27 = some (.goto 4, 3, 0, 0, 0) := by decide +kernel
theorem fi_189_30 : am_find 189 30 = some (.iconst 0, 1, 0, 0, 0) := by decide +kernel
theorem fi_189_31 : am_find 189 31 = some (.ior, 1, 0, 0, 0) := by decide +kernel
theorem fi_189_32 : am_find 189 32 = some (.istore_n 2, 1, 0, 0, 0) := by decide +kernel
theorem fi_189_33 : am_find 189 33 = some (.iinc 3 1, 3, 0, 0, 0) := by decide +kernel
theorem fi_189_36 : am_find 189 36 = some (.goto (-32), 3, 0, 0, 0) := by decide +kernel
theorem fi_189_39 : am_find 189 39 = some (.iload_n 2, 1, 0, 0, 0) := by decide +kernel
theorem fi_189_40 : am_find 189 40 = some (.ireturn, 1, 0, 0, 0) := by decide +kernel
theorem b189_0 {d L : Nat} {σ : St} {Q : Option AV → AW → Prop} {x1 : Int} {u0 u2 u3 : AV} : R d 189 0 [u0, vI x1, u2, u3] [] (WS L σ) Q = R d 189 4 [u0, vI x1, vI 0, vI 0] [] (WS L σ) Q := K_iconst fi_189_0 <| K_istore_n fi_189_1 (Nat.le_of_ble_eq_true rfl) rfl rfl <| K_iconst fi_189_2 <| K_istore_n fi_189_3 (Nat.le_of_ble_eq_true rfl) rfl rfl <| rfl
theorem b189_4 {d L : Nat} {σ : St} {Q : Option AV → AW → Prop} {x3 : Int} {u0 u1 u2 : AV} : R d 189 4 [u0, u1, u2, vI x3] [] (WS L σ) Q = if 8 ≤ x3 then R d 189 39 [u0, u1, u2, vI x3] [] (WS L σ) Q else R d 189 10 [u0, u1, u2, vI x3] [] (WS L σ) Q := K_iload_n fi_189_4 rfl <| K_bipush fi_189_5 <| R_icmp_ge fi_189_7 rfl
theorem b189_10 {d L : Nat} {σ : St} {Q : Option AV → AW → Prop} {x2 x0 x3 x1 : Int} (h1 : -2147483648 ≤ 2 * x3 ∧ 2 * x3 ≤ 2147483647) (h2 : -2147483648 ≤ x1 + 1 ∧ x1 + 1 ≤ 2147483647) : R d 189 10 [vI x0, vI x1, vI x2, vI x3] [] (WS L σ) Q = if ¬ (i_and (i_shr x0 (2 * x3)) 3) = (x1 + 1) then R d 189 30 [vI x0, vI x1, vI x2, vI x3] [vI x2] (WS L σ) Q else R d 189 24 [vI x0, vI x1, vI x2, vI x3] [vI x2] (WS L σ) Q := K_iload_n fi_189_10 rfl <| K_iload_n fi_189_11 rfl <| K_iconst fi_189_12 <| K_iload_n fi_189_13 rfl <| K_imulx fi_189_14 h1 <| K_ishr fi_189_15 <| K_iconst fi_189_16 <| K_iand fi_189_17 <| K_iload_n fi_189_18 rfl <| K_iconst fi_189_19 <| K_iaddx fi_189_20 h2 <| R_icmp_ne fi_189_21 rfl
theorem b189_24 {d L : Nat} {σ : St} {Q : Option AV → AW → Prop} {y0 x3 : Int} {u0 u1 u2 : AV} : R d 189 24 [u0, u1, u2, vI x3] [vI y0] (WS L σ) Q = R d 189 31 [u0, u1, u2, vI x3] [vI (i_shl 1 x3), vI y0] (WS L σ) Q := K_iconst fi_189_24 <| K_iload_n fi_189_25 rfl <| K_ishl fi_189_26 <| R_goto fi_189_27 rfl
theorem b189_30 {d L : Nat} {σ : St} {Q : Option AV → AW → Prop} {y0 : Int} {u0 u1 u2 u3 : AV} : R d 189 30 [u0, u1, u2, u3] [vI y0] (WS L σ) Q = R d 189 31 [u0, u1, u2, u3] [vI 0, vI y0] (WS L σ) Q := K_iconst fi_189_30 <| rfl
theorem b189_31 {d L : Nat} {σ : St} {Q : Option AV → AW → Prop} {y0 y1 x1 x3 : Int} {u0 u2 : AV} (h1 : -2147483648 ≤ x3 + 1 ∧ x3 + 1 ≤ 2147483647) : R d 189 31 [u0, vI x1, u2, vI x3] [vI y0, vI y1] (WS L σ) Q = R d 189 4 [u0, vI x1, vI (i_or y1 y0), vI (x3 + 1)] [] (WS L σ) Q := K_ior fi_189_31 <| K_istore_n fi_189_32 (Nat.le_of_ble_eq_true rfl) rfl rfl <| K_iincx fi_189_33 rfl (Nat.le_of_ble_eq_true rfl) rfl h1 rfl <| R_goto fi_189_36 rfl
theorem b189_39 {d L : Nat} {σ : St} {Q : Option AV → AW → Prop} {x2 : Int} {u0 u1 u3 : AV} : R d 189 39 [u0, u1, vI x2, u3] [] (WS L σ) Q = Q (some (vI x2)) (WS L σ) := K_iload_n fi_189_39 rfl <| R_ireti fi_189_40 rfl
theorem fi_190_0 : am_find 190 0 = some (.aload_n 0, 1, 0, 0, 0) := by decide +kernel
theorem fi_190_1 : am_find 190 1 = some (.iload_n 1, 1, 0, 0, 0) := by decide +kernel
theorem fi_190_2 : am_find 190 2 = some (.invokevirtual 161, 3, 179, 1, 194) := by decide +kernel
theorem fi_190_5 : am_find 190 5 = some (.ifCond .ne 7, 3, 0, 0, 0) := by decide +kernel
theorem fi_190_8 : am_find 190 8 = some (.sipush (-1001), 3, 0, (-1001), 0) := by decide +kernel
theorem fi_190_11 : am_find 190 11 = some (.ireturn, 1, 0, 0, 0) := by decide +kernel
theorem fi_190_12 : am_find 190 12 = some (.aload_n 0, 1, 0, 0, 0) := by decide +kernel
theorem fi_190_13 : am_find 190 13 = some (.aload_n 0, 1, 0, 0, 0) := by decide +kernel
theorem fi_190_14 : am_find 190 14 = some (.getfield 7, 3, 10, 1, 101) := by decide +kernel
theorem fi_190_17 : am_find 190 17 = some (.iconst 4, 1, 0, 4, 0) := by decide +kernel
theorem fi_190_18 : am_find 190 18 = some (.iaload, 1, 0, 0, 0) := by decide +kernel
theorem fi_190_19 : am_find 190 19 = some (.iconst 0, 1, 0, 0, 0) := by decide +kernel
theorem fi_190_20 : am_find 190 20 = some (.invokevirtual 197, 3, 185, 2, 198) := by decide +kernel
theorem fi_190_23 : am_find 190 23 = some (.aload_n 0, 1, 0, 0, 0) := by decide +kernel
theorem fi_190_24 : am_find 190 24 = some (.getfield 20, 3, 10, 10, 104) := by decide +kernel
theorem fi_190_27 : am_find 190 27 = some (.sipush 256, 3, 0, 256, 0) := by decide +kernel
theorem fi_190_30 : am_find 190 30 = some (.iload_n 1, 1, 0, 0, 0) := by decide +kernel
theorem fi_190_31 : am_find 190 31 = some (.imul, 1, 0, 0, 0) := by decide +kernel
theorem fi_190_32 : am_find 190 32 = some (.aload_n 0, 1, 0, 0, 0) := by decide +kernel
theorem fi_190_33 : am_find 190 33 = some (.aload_n 0, 1, 0, 0, 0) := by decide +kernel
theorem fi_190_34 : am_find 190 34 = some (.invokevirtual 194, 3, 183, 0, 196) := by decide +kernel
theorem fi_190_37 : am_find 190 37 = some (.invokevirtual 176, 3, 186, 1, 199) := by decide +kernel
theorem fi_190_40 : am_find 190 40 = some (.iload_n 1, 1, 0, 0, 0) := by decide +kernel
theorem fi_190_41 : am_find 190 41 = some (.invokestatic 179, 3, 189, 2, 202) := by decide +kernel
theorem fi_190_44 : am_find 190 44 = some (.iadd, 1, 0, 0, 0) := by decide +kernel
theorem fi_190_45 : am_find 190 45 = some (.iaload, 1, 0, 0, 0) := by decide +kernel
theorem fi_190_46 : am_find 190 46 = some (.ireturn, 1, 0, 0, 0) := by decide +kernel
theorem b190_0 {d L : Nat} {σ : St} {Q : Option AV → AW → Prop} {x1 : Int} : R (d + 1) 190 0 [vR 153, vI x1] [] (WS L σ) Q = R d 179 0 [vR 153, vI x1] [] (WS L σ) (fun r w => R (d + 1) 190 5 [vR 153, vI x1] (am_push r []) w Q) := K_aload_n fi_190_0 rfl <| K_iload_n fi_190_1 rfl <| R_invV fi_190_2 (am_invV_of rfl (kd_153) (Nat.le_of_ble_eq_true rfl) (Nat.le_of_ble_eq_true rfl) rfl rfl)
theorem b190_5 {d L : Nat} {σ : St} {Q : Option AV → AW → Prop} {y0 : Int} {u0 u1 : AV} : R d 190 5 [u0, u1] [vI y0] (WS L σ) Q = if ¬ y0 = 0 then R d 190 12 [u0, u1] [] (WS L σ) Q else R d 190 8 [u0, u1] [] (WS L σ) Q := R_if_ne fi_190_5 rfl
theorem b190_8 {d L : Nat} {σ : St} {Q : Option AV → AW → Prop} {u0 u1 : AV} : R d 190 8 [u0, u1] [] (WS L σ) Q = Q (some (vI (-1001))) (WS L σ) := K_sipush fi_190_8 <| R_ireti fi_190_11 rfl
theorem b190_12 {d L : Nat} {σ : St} {Q : Option AV → AW → Prop} {u1 : AV} : R (d + 1) 190 12 [vR 153, u1] [] (WS L σ) Q = R d 185 0 [vR 153, vI (σ 154 4), vI 0, vX 9, vX 9] [] (WS L σ) (fun r w => R (d + 1) 190 23 [vR 153, u1] (am_push r []) w Q) := K_aload_n fi_190_12 rfl <| K_aload_n fi_190_13 rfl <| K_gf fi_190_14 kd_153 mk_153_1 <| K_iconst fi_190_17 <| K_ia fi_190_18 kd_154 (by decide) (show (4 : Int) < 1580 by decide) <| K_iconst fi_190_19 <| R_invV fi_190_20 (am_invV_of rfl (kd_153) (Nat.le_of_ble_eq_true rfl) (Nat.le_of_ble_eq_true rfl) rfl rfl)
theorem b190_23 {d L : Nat} {σ : St} {Q : Option AV → AW → Prop} {x1 : Int} (h1 : -2147483648 ≤ 256 * x1 ∧ 256 * x1 ≤ 2147483647) : R (d + 1) 190 23 [vR 153, vI x1] [] (WS L σ) Q = R d 183 0 [vR 153, vX 9, vX 9] [] (WS L σ) (fun r w => R (d + 1) 190 37 [vR 153, vI x1] (am_push r [vR 153, vI (256 * x1), vR 157]) w Q) := K_aload_n fi_190_23 rfl <| K_gf fi_190_24 kd_153 mk_153_10 <| K_sipush fi_190_27 <| K_iload_n fi_190_30 rfl <| K_imulx fi_190_31 h1 <| K_aload_n fi_190_32 rfl <| K_aload_n fi_190_33 rfl <| R_invV fi_190_34 (am_invV_of rfl (kd_153) (Nat.le_of_ble_eq_true rfl) (Nat.le_of_ble_eq_true rfl) rfl rfl)
theorem b190_37 {d L : Nat} {σ : St} {Q : Option AV → AW → Prop} {y0 y2 : Int} {u0 u1 : AV} : R (d + 1) 190 37 [u0, u1] [vI y0, vR 153, vI y2, vR 157] (WS L σ) Q = R d 186 0 [vR 153, vI y0, vX 9, vX 9] [] (WS L σ) (fun r w => R (d + 1) 190 40 [u0, u1] (am_push r [vI y2, vR 157]) w Q) := R_invV fi_190_37 (am_invV_of rfl (kd_153) (Nat.le_of_ble_eq_true rfl) (Nat.le_of_ble_eq_true rfl) rfl rfl)
theorem b190_40 {d L : Nat} {σ : St} {Q : Option AV → AW → Prop} {y0 y1 x1 : Int} {u0 : AV} : R (d + 1) 190 40 [u0, vI x1] [vI y0, vI y1, vR 157] (WS L σ) Q = R d 189 0 [vI y0, vI x1, vX 9, vX 9] [] (WS L σ) (fun r w => R (d + 1) 190 44 [u0, vI x1] (am_push r [vI y1, vR 157]) w Q) := K_iload_n fi_190_40 rfl <| R_invS fi_190_41 (by decide) (am_invS_of (Nat.le_of_ble_eq_true rfl) rfl (Nat.le_of_ble_eq_true rfl) (Nat.le_of_ble_eq_true rfl) rfl rfl)
theorem b190_44 {d L : Nat} {σ : St} {Q : Option AV → AW → Prop} {y0 y1 : Int} {u0 u1 : AV} (h1 : -2147483648 ≤ y1 + y0 ∧ y1 + y0 ≤ 2147483647) (h2 : 0 ≤ y1 + y0) (h3 : (y1 + y0) < 768) : R d 190 44 [u0, u1] [vI y0, vI y1, vR 157] (WS L σ) Q = Q (some (vI (σ 157 (y1 + y0)))) (WS L σ) := K_iaddx fi_190_44 h1 <| K_ia fi_190_45 kd_157 h2 h3 <| R_ireti fi_190_46 rfl
theorem fi_191_0 : am_find 191 0 = some (.iload_n 1, 1, 0, 0, 0) := by decide +kernel
theorem fi_191_1 : am_find 191 1 = some (.iconst (-1), 1, 0, (-1), 0) := by decide +kernel
theorem fi_191_2 : am_find 191 2 = some (.if_icmp .ne 13, 3, 0, 0, 0) := by decide +kernel
theorem fi_191_5 : am_find 191 5 = some (.aload_n 0, 1, 0, 0, 0) := by decide +kernel
theorem fi_191_6 : am_find 191 6 = some (.getfield 7, 3, 10, 1, 101) := by decide +kernel
theorem fi_191_9 : am_find 191 9 = some (.bipush 6, 2, 0, 6, 0) := by decide +kernel
theorem fi_191_11 : am_find 191 11 = some (.iconst 0, 1, 0, 0, 0) := by decide +kernel
theorem fi_191_12 : am_find 191 12 = some (.iastore, 1, 0, 0, 0) := by decide +kernel
theorem fi_191_13 : am_find 191 13 = some (.iconst 0, 1, 0, 0, 0) := by decide +kernel
theorem fi_191_14 : am_find 191 14 = some (.ireturn, 1, 0, 0, 0) := by decide +kernel
theorem fi_191_15 : am_find 191 15 = some (.iload_n 1, 1, 0, 0, 0) := by decide +kernel
theorem fi_191_16 : am_find 191 16 = some (.iconst 0, 1, 0, 0, 0) := by decide +kernel
theorem fi_191_17 : am_find 191 17 = some (.bipush 7, 2, 0, 7, 0) := by decide +kernel
theorem fi_191_19 : am_find 191 19 = some (.invokestatic 49, 3, 145, 3, 170) := by decide +kernel
theorem fi_191_22 : am_find 191 22 = some (.ifCond .ne 5, 3, 0, 0, 0) := by decide +kernel
theorem fi_191_25 : am_find 191 25 = some (.iconst (-1), 1, 0, (-1), 0) := by decide +kernel
theorem fi_191_26 : am_find 191 26 = some (.ireturn, 1, 0, 0, 0) := by decide +kernel
theorem fi_191_27 : am_find 191 27 = some (.aload_n 0, 1, 0, 0, 0) := by decide +kernel
theorem fi_191_28 : am_find 191 28 = some (.getfield 7, 3, 10, 1, 101) := by decide +kernel
theorem fi_191_31 : am_find 191 31 = some (.bipush 6, 2, 0, 6, 0) := by decide +kernel
theorem fi_191_33 : am_find 191 33 = some (.iaload, 1, 0, 0, 0) := by decide +kernel
theorem fi_191_34 : am_find 191 34 = some (.bipush 8, 2, 0, 8, 0) := by decide +kernel
theorem fi_191_36 : am_find 191 36 = some (.if_icmp .ne 6, 3, 0, 0, 0) := by decide +kernel
theorem fi_191_39 : am_find 191 39 = some (.bipush (-4), 2, 0, (-4), 0) := by decide +kernel
theorem fi_191_41 : am_find 191 41 = some (.ireturn, 1, 0, 0, 0) := by decide +kernel
theorem fi_191_42 : am_find 191 42 = some (.aload_n 0, 1, 0, 0, 0) := by decide +kernel
theorem fi_191_43 : am_find 191 43 = some (.getfield 7, 3, 10, 1, 101) := by decide +kernel
theorem fi_191_46 : am_find 191 46 = some (.sipush 195, 3, 0, 195, 0) := by decide +kernel
theorem fi_191_49 : am_find 191 49 = some (.aload_n 0, 1, 0, 0, 0) := by decide +kernel
theorem fi_191_50 : am_find 191 50 = some (.getfield 7, 3, 10, 1, 101) := by decide +kernel
theorem fi_191_53 : am_find 191 53 = some (.bipush 6, 2, 0, 6, 0) := by decide +kernel
theorem fi_191_55 : am_find 191 55 = some (.iaload, 1, 0, 0, 0) := by decide +kernel
theorem fi_191_56 : am_find 191 56 = some (.iadd, 1, 0, 0, 0) := by decide +kernel
theorem fi_191_57 : am_find 191 57 = some (.iload_n 1, 1, 0, 0, 0) := by decide +kernel
theorem fi_191_58 : am_find 191 58 = some (.iastore, 1, 0, 0, 0) := by decide +kernel
theorem fi_191_59 : am_find 191 59 = some (.aload_n 0, 1, 0, 0, 0) := by decide +kernel
theorem fi_191_60 : am_find 191 60 = some (.getfield 7, 3, 10, 1, 101) := by decide +kernel
theorem fi_191_63 : am_find 191 63 = some (.bipush 6, 2, 0, 6, 0) := by decide +kernel
theorem fi_191_65 : am_find 191 65 = some (.dup2, 1, 0, 0, 0) := by decide +kernel
theorem fi_191_66 : am_find 191 66 = some (.iaload, 1, 0, 0, 0) := by decide +kernel
theorem fi_191_67 : am_find 191 67 = some (.iconst 1, 1, 0, 1, 0) := by decide +kernel
theorem fi_191_68 : am_find 191 68 = some (.iadd, 1, 0, 0, 0) := by decide +kernel
theorem fi_191_69 : am_find 191 69 = some (.iastore, 1, 0, 0, 0) := by decide +kernel
theorem fi_191_70 : am_find 191 70 = some (.aload_n 0, 1, 0, 0, 0) := by decide +kernel
theorem fi_191_71 : am_find 191 71 = some (.getfield 7, 3, 10, 1, 101) := by decide +kernel
theorem fi_191_74 : am_find 191 74 = some (.bipush 6, 2, 0, 6, 0) := by decide +kernel
theorem fi_191_76 : am_find 191 76 = some (.iaload, 1, 0, 0, 0) := by decide +kernel
theorem fi_191_77 : am_find 191 77 = some (.ireturn, 1, 0, 0, 0) := by decide +kernel
theorem b191_0 {d L : Nat} {σ : St} {Q : Option AV → AW → Prop} {x1 : Int} {u0 : AV} : R d 191 0 [u0, vI x1] [] (WS L σ) Q = if ¬ x1 = (-1) then R d 191 15 [u0, vI x1] [] (WS L σ) Q else R d 191 5 [u0, vI x1] [] (WS L σ) Q := K_iload_n fi_191_0 rfl <| K_iconst fi_191_1 <| R_icmp_ne fi_191_2 rfl
theorem b191_5 {d L : Nat} {σ : St} {Q : Option AV → AW → Prop} {u1 : AV} : R d 191 5 [vR 153, u1] [] (WS L σ) Q = R d 191 13 [vR 153, u1] [] (WS L (st2 σ 154 6 0)) Q := K_aload_n fi_191_5 rfl <| K_gf fi_191_6 kd_153 mk_153_1 <| K_bipush fi_191_9 <| K_iconst fi_191_11 <| K_is fi_191_12 kd_154 (by decide) (show (6 : Int) < 1580 by decide) <| rfl
theorem b191_13 {d L : Nat} {σ : St} {Q : Option AV → AW → Prop} {u0 u1 : AV} : R d 191 13 [u0, u1] [] (WS L σ) Q = Q (some (vI 0)) (WS L σ) := K_iconst fi_191_13 <| R_ireti fi_191_14 rfl
theorem b191_15 {d L : Nat} {σ : St} {Q : Option AV → AW → Prop} {x1 : Int} {u0 : AV} : R (d + 1) 191 15 [u0, vI x1] [] (WS L σ) Q = R d 145 0 [vI x1, vI 0, vI 7] [] (WS L σ) (fun r w => R (d + 1) 191 22 [u0, vI x1] (am_push r []) w Q) := K_iload_n fi_191_15 rfl <| K_iconst fi_191_16 <| K_bipush fi_191_17 <| R_invS fi_191_19 (by decide) (am_invS_of (Nat.le_of_ble_eq_true rfl) rfl (Nat.le_of_ble_eq_true rfl) (Nat.le_of_ble_eq_true rfl) rfl rfl)
theorem b191_22 {d L : Nat} {σ : St} {Q : Option AV → AW → Prop} {y0 : Int} {u0 u1 : AV} : R d 191 22 [u0, u1] [vI y0] (WS L σ) Q = if ¬ y0 = 0 then R d 191 27 [u0, u1] [] (WS L σ) Q else R d 191 25 [u0, u1] [] (WS L σ) Q := R_if_ne fi_191_22 rfl
theorem b191_25 {d L : Nat} {σ : St} {Q : Option AV → AW → Prop} {u0 u1 : AV} : R d 191 25 [u0, u1] [] (WS L σ) Q = Q (some (vI (-1))) (WS L σ) := K_iconst fi_191_25 <| R_ireti fi_191_26 rfl
theorem b191_27 {d L : Nat} {σ : St} {Q : Option AV → AW → Prop} {u1 : AV} : R d 191 27 [vR 153, u1] [] (WS L σ) Q = if ¬ (σ 154 6) = 8 then R d 191 42 [vR 153, u1] [] (WS L σ) Q else R d 191 39 [vR 153, u1] [] (WS L σ) Q := K_aload_n fi_191_27 rfl <| K_gf fi_191_28 kd_153 mk_153_1 <| K_bipush fi_191_31 <| K_ia fi_191_33 kd_154 (by decide) (show (6 : Int) < 1580 by decide) <| K_bipush fi_191_34 <| R_icmp_ne fi_191_36 rfl
theorem b191_39 {d L : Nat} {σ : St} {Q : Option AV → AW → Prop} {u0 u1 : AV} : R d 191 39 [u0, u1] [] (WS L σ) Q = Q (some (vI (-4))) (WS L σ) := K_bipush fi_191_39 <| R_ireti fi_191_41 rfl
theorem b191_42 {d L : Nat} {σ : St} {Q : Option AV → AW → Prop} {x1 : Int} (h1 : -2147483648 ≤ 195 + (σ 154 6) ∧ 195 + (σ 154 6) ≤ 2147483647) (h2 : 0 ≤ 195 + (σ 154 6)) (h3 : (195 + (σ 154 6)) < 1580) : R d 191 42 [vR 153, vI x1] [] (WS L σ) Q = R d 191 59 [vR 153, vI x1] [] (WS L (st2 σ 154 (195 + (σ 154 6)) x1)) Q := K_aload_n fi_191_42 rfl <| K_gf fi_191_43 kd_153 mk_153_1 <| K_sipush fi_191_46 <| K_aload_n fi_191_49 rfl <| K_gf fi_191_50 kd_153 mk_153_1 <| K_bipush fi_191_53 <| K_ia fi_191_55 kd_154 (by decide) (show (6 : Int) < 1580 by decide) <| K_iaddx fi_191_56 h1 <| K_iload_n fi_191_57 rfl <| K_is fi_191_58 kd_154 h2 h3 <| rfl
theorem b191_59 {d L : Nat} {σ : St} {Q : Option AV → AW → Prop} {u1 : AV} (h1 : -2147483648 ≤ (σ 154 6) + 1 ∧ (σ 154 6) + 1 ≤ 2147483647) : R d 191 59 [vR 153, u1] [] (WS L σ) Q = R d 191 70 [vR 153, u1] [] (WS L (st2 σ 154 6 ((σ 154 6) + 1))) Q := K_aload_n fi_191_59 rfl <| K_gf fi_191_60 kd_153 mk_153_1 <| K_bipush fi_191_63 <| K_dup2 fi_191_65 <| K_ia fi_191_66 kd_154 (by decide) (show (6 : Int) < 1580 by decide) <| K_iconst fi_191_67 <| K_iaddx fi_191_68 h1 <| K_is fi_191_69 kd_154 (by decide) (show (6 : Int) < 1580 by decide) <| rfl
theorem b191_70 {d L : Nat} {σ : St} {Q : Option AV → AW → Prop} {u1 : AV} : R d 191 70 [vR 153, u1] [] (WS L σ) Q = Q (some (vI (σ 154 6))) (WS L σ) := K_aload_n fi_191_70 rfl <| K_gf fi_191_71 kd_153 mk_153_1 <| K_bipush fi_191_74 <| K_ia fi_191_76 kd_154 (by decide) (show (6 : Int) < 1580 by decide) <| R_ireti fi_191_77 rfl
theorem fi_192_0 : am_find 192 0 = some (.iload_n 1, 1, 0, 0, 0) := by decide +kernel
theorem fi_192_1 : am_find 192 1 = some (.iconst 0, 1, 0, 0, 0) := by decide +kernel
theorem fi_192_2 : am_find 192 2 = some (.iconst 2, 1, 0, 2, 0) := by decide +kernel
theorem fi_192_3 : am_find 192 3 = some (.invokestatic 49, 3, 145, 3, 170) := by decide +kernel
theorem fi_192_6 : am_find 192 6 = some (.ifCond .ne 5, 3, 0, 0, 0) := by decide +kernel
theorem fi_192_9 : am_find 192 9 = some (.iconst (-1), 1, 0, (-1), 0) := by decide +kernel
theorem fi_192_10 : am_find 192 10 = some (.ireturn, 1, 0, 0, 0) := by decide +kernel
theorem fi_192_11 : am_find 192 11 = some (.aload_n 0, 1, 0, 0, 0) := by decide +kernel
theorem fi_192_12 : am_find 192 12 = some (.aload_n 0, 1, 0, 0, 0) := by decide +kernel
theorem fi_192_13 : am_find 192 13 = some (.getfield 7, 3, 10, 1, 101) := by decide +kernel
theorem fi_192_16 : am_find 192 16 = some (.iconst 4, 1, 0, 4, 0) := by decide +kernel
theorem fi_192_17 : am_find 192 17 = some (.iaload, 1, 0, 0, 0) := by decide +kernel
theorem fi_192_18 : am_find 192 18 = some (.iconst 0, 1, 0, 0, 0) := by decide +kernel
theorem fi_192_19 : am_find 192 19 = some (.invokevirtual 197, 3, 185, 2, 198) := by decide +kernel
theorem fi_192_22 : am_find 192 22 = some (.iconst 0, 1, 0, 0, 0) := by decide +kernel
theorem fi_192_23 : am_find 192 23 = some (.istore_n 2, 1, 0, 0, 0) := by decide +kernel
theorem fi_192_24 : am_find 192 24 = some (.bipush (-5), 2, 0, (-5), 0) := by decide +kernel
theorem fi_192_26 : am_find 192 26 = some (.istore_n 3, 1, 0, 0, 0) := by decide +kernel
theorem fi_192_27 : am_find 192 27 = some (.bipush (-5), 2, 0, (-5), 0) := by decide +kernel
theorem fi_192_29 : am_find 192 29 = some (.istore 4, 2, 0, 0, 0) := by decide +kernel
theorem fi_192_31 : am_find 192 31 = some (.iconst 0, 1, 0, 0, 0) := by decide +kernel
theorem fi_192_32 : am_find 192 32 = some (.istore 5, 2, 0, 0, 0) := by decide +kernel
theorem fi_192_34 : am_find 192 34 = some (.iconst 0, 1, 0, 0, 0) := by decide +kernel
theorem fi_192_35 : am_find 192 35 = some (.istore 6, 2, 0, 0, 0) := by decide +kernel
theorem fi_192_37 : am_find 192 37 = some (.iload 6, 2, 0, 0, 0) := by decide +kernel
theorem fi_192_39 : am_find 192 39 = some (.aload_n 0, 1, 0, 0, 0) := by decide +kernel
theorem fi_192_40 : am_find 192 40 = some (.getfield 7, 3, 10, 1, 101) := by decide +kernel
theorem fi_192_43 : am_find 192 43 = some (.bipush 6, 2, 0, 6, 0) := by decide +kernel
theorem fi_192_45 : am_find 192 45 = some (.iaload, 1, 0, 0, 0) := by decide +kernel
theorem fi_192_46 : am_find 192 46 = some (.if_icmp .ge 171, 3, 0, 0, 0) := by decide +kernel
theorem fi_192_49 : am_find 192 49 = some (.iload_n 3, 1, 0, 0, 0) := by decide +kernel
theorem fi_192_50 : am_find 192 50 = some (.bipush (-5), 2, 0, (-5), 0) := by decide +kernel
theorem fi_192_52 : am_find 192 52 = some (.if_icmp .ne 165, 3, 0, 0, 0) := by decide +kernel
theorem fi_192_55 : am_find 192 55 = some (.aload_n 0, 1, 0, 0, 0) := by decide +kernel
theorem fi_192_56 : am_find 192 56 = some (.getfield 7, 3, 10, 1, 101) := by decide +kernel
theorem fi_192_59 : am_find 192 59 = some (.sipush 195, 3, 0, 195, 0) := by decide +kernel
theorem fi_192_62 : am_find 192 62 = some (.iload 6, 2, 0, 0, 0) := by decide +kernel
theorem fi_192_64 : am_find 192 64 = some (.iadd, 1, 0, 0, 0) := by decide +kernel
theorem fi_192_65 : am_find 192 65 = some (.iaload, 1, 0, 0, 0) := by decide +kernel
theorem fi_192_66 : am_find 192 66 = some (.istore 7, 2, 0, 0, 0) := by decide +kernel
theorem fi_192_68 : am_find 192 68 = some (.aload_n 0, 1, 0, 0, 0) := by decide +kernel
theorem fi_192_69 : am_find 192 69 = some (.iload 7, 2, 0, 0, 0) := by decide +kernel
theorem fi_192_71 : am_find 192 71 = some (.invokevirtual 53, 3, 147, 1, 171) := by decide +kernel
theorem fi_192_74 : am_find 192 74 = some (.ifCond .eq 14, 3, 0, 0, 0) := by decide +kernel
theorem fi_192_77 : am_find 192 77 = some (.iload_n 2, 1, 0, 0, 0) := by decide +kernel
theorem fi_192_78 : am_find 192 78 = some (.iconst 2, 1, 0, 2, 0) := by decide +kernel
theorem fi_192_79 : am_find 192 79 = some (.iload 7, 2, 0, 0, 0) := by decide +kernel
theorem fi_192_81 : am_find 192 81 = some (.imul, 1, 0, 0, 0) := by decide +kernel
theorem fi_192_82 : am_find 192 82 = some (.ishr, 1, 0, 0, 0) := by decide +kernel
theorem fi_192_83 : am_find 192 83 = some (.iconst 3, 1, 0, 3, 0) := by decide +kernel
theorem fi_192_84 : am_find 192 84 = some (.iand, 1, 0, 0, 0) := by decide +kernel
theorem fi_192_85 : am_find 192 85 = some (.ifCond .eq 9, 3, 0, 0, 0) := by decide +kernel
theorem fi_192_88 : am_find 192 88 = some (.iload 6, 2, 0, 0, 0) := by decide +kernel
theorem fi_192_90 : am_find 192 90 = some (.istore_n 3, 1, 0, 0, 0) := by decide +kernel
theorem fi_192_91 : am_find 192 91 = some (.goto 120, 3, 0, 0, 0) := by decide +kernel
theorem fi_192_94 : am_find 192 94 = some (.aload_n 0, 1, 0, 0, 0) := by decide +kernel
theorem fi_192_95 : am_find 192 95 = some (.iload 6, 2, 0, 0, 0) := by decide +kernel
theorem fi_192_97 : am_find 192 97 = some (.invokevirtual 188, 3, 187, 1, 200) := by decide +kernel
theorem fi_192_100 : am_find 192 100 = some (.istore 8, 2, 0, 0, 0) := by decide +kernel
theorem fi_192_102 : am_find 192 102 = some (.aload_n 0, 1, 0, 0, 0) := by decide +kernel
theorem fi_192_103 : am_find 192 103 = some (.getfield 20, 3, 10, 10, 104) := by decide +kernel
theorem fi_192_106 : am_find 192 106 = some (.sipush 256, 3, 0, 256, 0) := by decide +kernel
theorem fi_192_109 : am_find 192 109 = some (.iload 8, 2, 0, 0, 0) := by decide +kernel
theorem fi_192_111 : am_find 192 111 = some (.imul, 1, 0, 0, 0) := by decide +kernel
theorem fi_192_112 : am_find 192 112 = some (.aload_n 0, 1, 0, 0, 0) := by decide +kernel
theorem fi_192_113 : am_find 192 113 = some (.iload_n 2, 1, 0, 0, 0) := by decide +kernel
theorem fi_192_114 : am_find 192 114 = some (.invokevirtual 176, 3, 186, 1, 199) := by decide +kernel
theorem fi_192_117 : am_find 192 117 = some (.iload 8, 2, 0, 0, 0) := by decide +kernel
theorem fi_192_119 : am_find 192 119 = some (.invokestatic 179, 3, 189, 2, 202) := by decide +kernel
theorem fi_192_122 : am_find 192 122 = some (.iadd, 1, 0, 0, 0) := by decide +kernel
theorem fi_192_123 : am_find 192 123 = some (.iaload, 1, 0, 0, 0) := by decide +kernel
theorem fi_192_124 : am_find 192 124 = some (.istore 9, 2, 0, 0, 0) := by decide +kernel
theorem fi_192_126 : am_find 192 126 = some (.iload_n 2, 1, 0, 0, 0) := by decide +kernel
theorem fi_192_127 : am_find 192 127 = some (.iload 8, 2, 0, 0, 0) := by decide +kernel
theorem fi_192_129 : am_find 192 129 = some (.iconst 1, 1, 0, 1, 0) := by decide +kernel
theorem fi_192_130 : am_find 192 130 = some (.iadd, 1, 0, 0, 0) := by decide +kernel
theorem fi_192_131 : am_find 192 131 = some (.iconst 2, 1, 0, 2, 0) := by decide +kernel
theorem fi_192_132 : am_find 192 132 = some (.iload 7, 2, 0, 0, 0) := by decide +kernel
theorem fi_192_134 : am_find 192 134 = some (.imul, 1, 0, 0, 0) := by decide +kernel
theorem fi_192_135 : am_find 192 135 = some (.ishl, 1, 0, 0, 0) := by decide +kernel
theorem fi_192_136 : am_find 192 136 = some (.ior, 1, 0, 0, 0) := by decide +kernel
theorem fi_192_137 : am_find 192 137 = some (.istore_n 2, 1, 0, 0, 0) := by decide +kernel
theorem fi_192_138 : am_find 192 138 = some (.aload_n 0, 1, 0, 0, 0) := by decide +kernel
theorem fi_192_139 : am_find 192 139 = some (.getfield 20, 3, 10, 10, 104) := by decide +kernel
theorem fi_192_142 : am_find 192 142 = some (.sipush 256, 3, 0, 256, 0) := by decide +kernel
theorem fi_192_145 : am_find 192 145 = some (.iload 8, 2, 0, 0, 0) := by decide +kernel
theorem fi_192_147 : am_find 192 147 = some (.imul, 1, 0, 0, 0) := by decide +kernel
theorem fi_192_148 : am_find 192 148 = some (.aload_n 0, 1, 0, 0, 0) := by decide +kernel
theorem fi_192_149 : am_find 192 149 = some (.iload_n 2, 1, 0, 0, 0) := by decide +kernel
theorem fi_192_150 : am_find 192 150 = some (.invokevirtual 176, 3, 186, 1, 199) := by decide +kernel
theorem fi_192_153 : am_find 192 153 = some (.iload 8, 2, 0, 0, 0) := by decide +kernel
theorem fi_192_155 : am_find 192 155 = some (.invokestatic 179, 3, 189, 2, 202) := by decide +kernel
theorem fi_192_158 : am_find 192 158 = some (.iadd, 1, 0, 0, 0) := by decide +kernel
theorem fi_192_159 : am_find 192 159 = some (.iaload, 1, 0, 0, 0) := by decide +kernel
theorem fi_192_160 : am_find 192 160 = some (.istore 10, 2, 0, 0, 0) := by decide +kernel
theorem fi_192_162 : am_find 192 162 = some (.iload 4, 2, 0, 0, 0) := by decide +kernel
theorem fi_192_164 : am_find 192 164 = some (.bipush (-5), 2, 0, (-5), 0) := by decide +kernel
theorem fi_192_166 : am_find 192 166 = some (.if_icmp .ne 18, 3, 0, 0, 0) := by decide +kernel
theorem fi_192_169 : am_find 192 169 = some (.iload 10, 2, 0, 0, 0) := by decide +kernel
theorem fi_192_171 : am_find 192 171 = some (.iload 9, 2, 0, 0, 0) := by decide +kernel
theorem fi_192_173 : am_find 192 173 = some (.if_icmp .ge 11, 3, 0, 0, 0) := by decide +kernel
theorem fi_192_176 : am_find 192 176 = some (.iload 9, 2, 0, 0, 0) := by decide +kernel
theorem fi_192_178 : am_find 192 178 = some (.iload 10, 2, 0, 0, 0) := by decide +kernel
theorem fi_192_180 : am_find 192 180 = some (.isub, 1, 0, 0, 0) := by decide +kernel
theorem fi_192_181 : am_find 192 181 = some (.goto 5, 3, 0, 0, 0) := by decide +kernel
theorem fi_192_184 : am_find 192 184 = some (.iload 5, 2, 0, 0, 0) := by decide +kernel
theorem fi_192_186 : am_find 192 186 = some (.istore 5, 2, 0, 0, 0) := by decide +kernel
theorem fi_192_188 : am_find 192 188 = some (.iload 4, 2, 0, 0, 0) := by decide +kernel
theorem fi_192_190 : am_find 192 190 = some (.bipush (-5), 2, 0, (-5), 0) := by decide +kernel
theorem fi_192_192 : am_find 192 192 = some (.if_icmp .ne 15, 3, 0, 0, 0) := by decide +kernel
theorem fi_192_195 : am_find 192 195 = some (.iload 10, 2, 0, 0, 0) := by decide +kernel
theorem fi_192_197 : am_find 192 197 = some (.iload 9, 2, 0, 0, 0) := by decide +kernel
theorem fi_192_199 : am_find 192 199 = some (.if_icmp .ge 8, 3, 0, 0, 0) := by decide +kernel
theorem fi_192_202 : am_find 192 202 = some (.iload 6, 2, 0, 0, 0) := by decide +kernel
theorem fi_192_204 : am_find 192 204 = some (.goto 5, 3, 0, 0, 0) := by decide +kernel
theorem fi_192_207 : am_find 192 207 = some (.iload 4, 2, 0, 0, 0) := by decide +kernel
theorem fi_192_209 : am_find 192 209 = some (.istore 4, 2, 0, 0, 0) := by decide +kernel
theorem fi_192_211 : am_find 192 211 = some (.iinc 6 1, 3, 0, 0, 0) := by decide +kernel
theorem fi_192_214 : am_find 192 214 = some (.goto (-177), 3, 0, 0, 0) := by decide +kernel
theorem fi_192_217 : am_find 192 217 = some (.iload_n 1, 1, 0, 0, 0) := by decide +kernel
theorem fi_192_218 : am_find 192 218 = some (.ifCond .ne 7, 3, 0, 0, 0) := by decide +kernel
theorem fi_192_221 : am_find 192 221 = some (.iload_n 3, 1, 0, 0, 0) := by decide +kernel
theorem fi_192_222 : am_find 192 222 = some (.goto 15, 3, 0, 0, 0) := by decide +kernel
theorem fi_192_225 : am_find 192 225 = some (.iload_n 1, 1, 0, 0, 0) := by decide +kernel
theorem fi_192_226 : am_find 192 226 = some (.iconst 1, 1, 0, 1, 0) := by decide +kernel
theorem fi_192_227 : am_find 192 227 = some (.if_icmp .ne 8, 3, 0, 0, 0) := by decide +kernel
theorem fi_192_230 : am_find 192 230 = some (.iload 4, 2, 0, 0, 0) := by decide +kernel
theorem fi_192_232 : am_find 192 232 = some (.goto 5, 3, 0, 0, 0) := by decide +kernel
theorem fi_192_235 : am_find 192 235 = some (.iload 5, 2, 0, 0, 0) := by decide +kernel
theorem fi_192_237 : am_find 192 237 = some (.ireturn, 1, 0, 0, 0) := by decide +kernel
theorem b192_0 {d L : Nat} {σ : St} {Q : Option AV → AW → Prop} {x1 : Int} {u0 u2 u3 u4 u5 u6 u7 u8 u9 u10 : AV} : R (d + 1) 192 0 [u0, vI x1, u2, u3, u4, u5, u6, u7, u8, u9, u10] [] (WS L σ) Q = R d 145 0 [vI x1, vI 0, vI 2] [] (WS L σ) (fun r w => R (d + 1) 192 6 [u0, vI x1, u2, u3, u4, u5, u6, u7, u8, u9, u10] (am_push r []) w Q) := K_iload_n fi_192_0 rfl <| K_iconst fi_192_1 <| K_iconst fi_192_2 <| R_invS fi_192_3 (by decide) (am_invS_of (Nat.le_of_ble_eq_true rfl) rfl (Nat.le_of_ble_eq_true rfl) (Nat.le_of_ble_eq_true rfl) rfl rfl)
theorem b192_6 {d L : Nat} {σ : St} {Q : Option AV → AW → Prop} {y0 : Int} {u0 u1 u2 u3 u4 u5 u6 u7 u8 u9 u10 : AV} : R d 192 6 [u0, u1, u2, u3, u4, u5, u6, u7, u8, u9, u10] [vI y0] (WS L σ) Q = if ¬ y0 = 0 then R d 192 11 [u0, u1, u2, u3, u4, u5, u6, u7, u8, u9, u10] [] (WS L σ) Q else R d 192 9 [u0, u1, u2, u3, u4, u5, u6, u7, u8, u9, u10] [] (WS L σ) Q := R_if_ne fi_192_6 rfl
theorem b192_9 {d L : Nat} {σ : St} {Q : Option AV → AW → Prop} {u0 u1 u2 u3 u4 u5 u6 u7 u8 u9 u10 : AV} : R d 192 9 [u0, u1, u2, u3, u4, u5, u6, u7, u8, u9, u10] [] (WS L σ) Q = Q (some (vI (-1))) (WS L σ) := K_iconst fi_192_9 <| R_ireti fi_192_10 rfl
theorem b192_11 {d L : Nat} {σ : St} {Q : Option AV → AW → Prop} {u1 u2 u3 u4 u5 u6 u7 u8 u9 u10 : AV} : R (d + 1) 192 11 [vR 153, u1, u2, u3, u4, u5, u6, u7, u8, u9, u10] [] (WS L σ) Q = R d 185 0 [vR 153, vI (σ 154 4), vI 0, vX 9, vX 9] [] (WS L σ) (fun r w => R (d + 1) 192 22 [vR 153, u1, u2, u3, u4, u5, u6, u7, u8, u9, u10] (am_push r []) w Q) := K_aload_n fi_192_11 rfl <| K_aload_n fi_192_12 rfl <| K_gf fi_192_13 kd_153 mk_153_1 <| K_iconst fi_192_16 <| K_ia fi_192_17 kd_154 (by decide) (show (4 : Int) < 1580 by decide) <| K_iconst fi_192_18 <| R_invV fi_192_19 (am_invV_of rfl (kd_153) (Nat.le_of_ble_eq_true rfl) (Nat.le_of_ble_eq_true rfl) rfl rfl)
theorem b192_22 {d L : Nat} {σ : St} {Q : Option AV → AW → Prop} {x1 : Int} {u0 u2 u3 u4 u5 u6 u7 u8 u9 u10 : AV} : R d 192 22 [u0, vI x1, u2, u3, u4, u5, u6, u7, u8, u9, u10] [] (WS L σ) Q = R d 192 37 [u0, vI x1, vI 0, vI (-5), vI (-5), vI 0, vI 0, u7, u8, u9, u10] [] (WS L σ) Q := K_iconst fi_192_22 <| K_istore_n fi_192_23 (Nat.le_of_ble_eq_true rfl) rfl rfl <| K_bipush fi_192_24 <| K_istore_n fi_192_26 (Nat.le_of_ble_eq_true rfl) rfl rfl <| K_bipush fi_192_27 <| K_istore fi_192_29 (Nat.le_of_ble_eq_true rfl) rfl rfl <| K_iconst fi_192_31 <| K_istore fi_192_32 (Nat.le_of_ble_eq_true rfl) rfl rfl <| K_iconst fi_192_34 <| K_istore fi_192_35 (Nat.le_of_ble_eq_true rfl) rfl rfl <| rfl
theorem b192_37 {d L : Nat} {σ : St} {Q : Option AV → AW → Prop} {x6 : Int} {u1 u2 u3 u4 u5 u7 u8 u9 u10 : AV} : R d 192 37 [vR 153, u1, u2, u3, u4, u5, vI x6, u7, u8, u9, u10] [] (WS L σ) Q = if (σ 154 6) ≤ x6 then R d 192 217 [vR 153, u1, u2, u3, u4, u5, vI x6, u7, u8, u9, u10] [] (WS L σ) Q else R d 192 49 [vR 153, u1, u2, u3, u4, u5, vI x6, u7, u8, u9, u10] [] (WS L σ) Q := K_iload fi_192_37 rfl <| K_aload_n fi_192_39 rfl <| K_gf fi_192_40 kd_153 mk_153_1 <| K_bipush fi_192_43 <| K_ia fi_192_45 kd_154 (by decide) (show (6 : Int) < 1580 by decide) <| R_icmp_ge fi_192_46 rfl
theorem b192_49 {d L : Nat} {σ : St} {Q : Option AV → AW → Prop} {x3 : Int} {u0 u1 u2 u4 u5 u6 u7 u8 u9 u10 : AV} : R d 192 49 [u0, u1, u2, vI x3, u4, u5, u6, u7, u8, u9, u10] [] (WS L σ) Q = if ¬ x3 = (-5) then R d 192 217 [u0, u1, u2, vI x3, u4, u5, u6, u7, u8, u9, u10] [] (WS L σ) Q else R d 192 55 [u0, u1, u2, vI x3, u4, u5, u6, u7, u8, u9, u10] [] (WS L σ) Q := K_iload_n fi_192_49 rfl <| K_bipush fi_192_50 <| R_icmp_ne fi_192_52 rfl
theorem b192_55 {d L : Nat} {σ : St} {Q : Option AV → AW → Prop} {x6 : Int} {u1 u2 u3 u4 u5 u7 u8 u9 u10 : AV} (h1 : -2147483648 ≤ 195 + x6 ∧ 195 + x6 ≤ 2147483647) (h2 : 0 ≤ 195 + x6) (h3 : (195 + x6) < 1580) : R (d + 1) 192 55 [vR 153, u1, u2, u3, u4, u5, vI x6, u7, u8, u9, u10] [] (WS L σ) Q = R d 147 0 [vR 153, vI (σ 154 (195 + x6))] [] (WS L σ) (fun r w => R (d + 1) 192 74 [vR 153, u1, u2, u3, u4, u5, vI x6, vI (σ 154 (195 + x6)), u8, u9, u10] (am_push r []) w Q) := K_aload_n fi_192_55 rfl <| K_gf fi_192_56 kd_153 mk_153_1 <| K_sipush fi_192_59 <| K_iload fi_192_62 rfl <| K_iaddx fi_192_64 h1 <| K_ia fi_192_65 kd_154 h2 h3 <| K_istore fi_192_66 (Nat.le_of_ble_eq_true rfl) rfl rfl <| K_aload_n fi_192_68 rfl <| K_iload fi_192_69 rfl <| R_invV fi_192_71 (am_invV_of rfl (kd_153) (Nat.le_of_ble_eq_true rfl) (Nat.le_of_ble_eq_true rfl) rfl rfl)
theorem b192_74 {d L : Nat} {σ : St} {Q : Option AV → AW → Prop} {y0 : Int} {u0 u1 u2 u3 u4 u5 u6 u7 u8 u9 u10 : AV} : R d 192 74 [u0, u1, u2, u3, u4, u5, u6, u7, u8, u9, u10] [vI y0] (WS L σ) Q = if y0 = 0 then R d 192 88 [u0, u1, u2, u3, u4, u5, u6, u7, u8, u9, u10] [] (WS L σ) Q else R d 192 77 [u0, u1, u2, u3, u4, u5, u6, u7, u8, u9, u10] [] (WS L σ) Q := R_if_eq fi_192_74 rfl
theorem b192_77 {d L : Nat} {σ : St} {Q : Option AV → AW → Prop} {x2 x7 : Int} {u0 u1 u3 u4 u5 u6 u8 u9 u10 : AV} (h1 : -2147483648 ≤ 2 * x7 ∧ 2 * x7 ≤ 2147483647) : R d 192 77 [u0, u1, vI x2, u3, u4, u5, u6, vI x7, u8, u9, u10] [] (WS L σ) Q = if (i_and (i_shr x2 (2 * x7)) 3) = 0 then R d 192 94 [u0, u1, vI x2, u3, u4, u5, u6, vI x7, u8, u9, u10] [] (WS L σ) Q else R d 192 88 [u0, u1, vI x2, u3, u4, u5, u6, vI x7, u8, u9, u10] [] (WS L σ) Q := K_iload_n fi_192_77 rfl <| K_iconst fi_192_78 <| K_iload fi_192_79 rfl <| K_imulx fi_192_81 h1 <| K_ishr fi_192_82 <| K_iconst fi_192_83 <| K_iand fi_192_84 <| R_if_eq fi_192_85 rfl
theorem b192_88 {d L : Nat} {σ : St} {Q : Option AV → AW → Prop} {x6 : Int} {u0 u1 u2 u3 u4 u5 u7 u8 u9 u10 : AV} : R d 192 88 [u0, u1, u2, u3, u4, u5, vI x6, u7, u8, u9, u10] [] (WS L σ) Q = R d 192 211 [u0, u1, u2, vI x6, u4, u5, vI x6, u7, u8, u9, u10] [] (WS L σ) Q := K_iload fi_192_88 rfl <| K_istore_n fi_192_90 (Nat.le_of_ble_eq_true rfl) rfl rfl <| R_goto fi_192_91 rfl
theorem b192_94 {d L : Nat} {σ : St} {Q : Option AV → AW → Prop} {x6 : Int} {u1 u2 u3 u4 u5 u7 u8 u9 u10 : AV} : R (d + 1) 192 94 [vR 153, u1, u2, u3, u4, u5, vI x6, u7, u8, u9, u10] [] (WS L σ) Q = R d 187 0 [vR 153, vI x6, vX 9] [] (WS L σ) (fun r w => R (d + 1) 192 100 [vR 153, u1, u2, u3, u4, u5, vI x6, u7, u8, u9, u10] (am_push r []) w Q) := K_aload_n fi_192_94 rfl <| K_iload fi_192_95 rfl <| R_invV fi_192_97 (am_invV_of rfl (kd_153) (Nat.le_of_ble_eq_true rfl) (Nat.le_of_ble_eq_true rfl) rfl rfl)
theorem b192_100 {d L : Nat} {σ : St} {Q : Option AV → AW → Prop} {y0 x2 : Int} {u1 u3 u4 u5 u6 u7 u8 u9 u10 : AV} (h1 : -2147483648 ≤ 256 * y0 ∧ 256 * y0 ≤ 2147483647) : R (d + 1) 192 100 [vR 153, u1, vI x2, u3, u4, u5, u6, u7, u8, u9, u10] [vI y0] (WS L σ) Q = R d 186 0 [vR 153, vI x2, vX 9, vX 9] [] (WS L σ) (fun r w => R (d + 1) 192 117 [vR 153, u1, vI x2, u3, u4, u5, u6, u7, vI y0, u9, u10] (am_push r [vI (256 * y0), vR 157]) w Q) := K_istore fi_192_100 (Nat.le_of_ble_eq_true rfl) rfl rfl <| K_aload_n fi_192_102 rfl <| K_gf fi_192_103 kd_153 mk_153_10 <| K_sipush fi_192_106 <| K_iload fi_192_109 rfl <| K_imulx fi_192_111 h1 <| K_aload_n fi_192_112 rfl <| K_iload_n fi_192_113 rfl <| R_invV fi_192_114 (am_invV_of rfl (kd_153) (Nat.le_of_ble_eq_true rfl) (Nat.le_of_ble_eq_true rfl) rfl rfl)
theorem b192_117 {d L : Nat} {σ : St} {Q : Option AV → AW → Prop} {y0 y1 x8 : Int} {u0 u1 u2 u3 u4 u5 u6 u7 u9 u10 : AV} : R (d + 1) 192 117 [u0, u1, u2, u3, u4, u5, u6, u7, vI x8, u9, u10] [vI y0, vI y1, vR 157] (WS L σ) Q = R d 189 0 [vI y0, vI x8, vX 9, vX 9] [] (WS L σ) (fun r w => R (d + 1) 192 122 [u0, u1, u2, u3, u4, u5, u6, u7, vI x8, u9, u10] (am_push r [vI y1, vR 157]) w Q) := K_iload fi_192_117 rfl <| R_invS fi_192_119 (by decide) (am_invS_of (Nat.le_of_ble_eq_true rfl) rfl (Nat.le_of_ble_eq_true rfl) (Nat.le_of_ble_eq_true rfl) rfl rfl)
theorem b192_122 {d L : Nat} {σ : St} {Q : Option AV → AW → Prop} {y0 y1 x2 x8 x7 x1 : Int} {u3 u4 u5 u6 u9 u10 : AV} (h1 : -2147483648 ≤ y1 + y0 ∧ y1 + y0 ≤ 2147483647) (h2 : 0 ≤ y1 + y0) (h3 : (y1 + y0) < 768) (h4 : -2147483648 ≤ x8 + 1 ∧ x8 + 1 ≤ 2147483647) (h5 : -2147483648 ≤ 2 * x7 ∧ 2 * x7 ≤ 2147483647) (h6 : -2147483648 ≤ 256 * x8 ∧ 256 * x8 ≤ 2147483647) : R (d + 1) 192 122 [vR 153, vI x1, vI x2, u3, u4, u5, u6, vI x7, vI x8, u9, u10] [vI y0, vI y1, vR 157] (WS L σ) Q = R d 186 0 [vR 153, vI (i_or x2 (i_shl (x8 + 1) (2 * x7))), vX 9, vX 9] [] (WS L σ) (fun r w => R (d + 1) 192 153 [vR 153, vI x1, vI (i_or x2 (i_shl (x8 + 1) (2 * x7))), u3, u4, u5, u6, vI x7, vI x8, vI (σ 157 (y1 + y0)), u10] (am_push r [vI (256 * x8), vR 157]) w Q) := K_iaddx fi_192_122 h1 <| K_ia fi_192_123 kd_157 h2 h3 <| K_istore fi_192_124 (Nat.le_of_ble_eq_true rfl) rfl rfl <| K_iload_n fi_192_126 rfl <| K_iload fi_192_127 rfl <| K_iconst fi_192_129 <| K_iaddx fi_192_130 h4 <| K_iconst fi_192_131 <| K_iload fi_192_132 rfl <| K_imulx fi_192_134 h5 <| K_ishl fi_192_135 <| K_ior fi_192_136 <| K_istore_n fi_192_137 (Nat.le_of_ble_eq_true rfl) rfl rfl <| K_aload_n fi_192_138 rfl <| K_gf fi_192_139 kd_153 mk_153_10 <| K_sipush fi_192_142 <| K_iload fi_192_145 rfl <| K_imulx fi_192_147 h6 <| K_aload_n fi_192_148 rfl <| K_iload_n fi_192_149 rfl <| R_invV fi_192_150 (am_invV_of rfl (kd_153) (Nat.le_of_ble_eq_true rfl) (Nat.le_of_ble_eq_true rfl) rfl rfl)
theorem b192_153 {d L : Nat} {σ : St} {Q : Option AV → AW → Prop} {y0 y1 x8 : Int} {u0 u1 u2 u3 u4 u5 u6 u7 u9 u10 : AV} : R (d + 1) 192 153 [u0, u1, u2, u3, u4, u5, u6, u7, vI x8, u9, u10] [vI y0, vI y1, vR 157] (WS L σ) Q = R d 189 0 [vI y0, vI x8, vX 9, vX 9] [] (WS L σ) (fun r w => R (d + 1) 192 158 [u0, u1, u2, u3, u4, u5, u6, u7, vI x8, u9, u10] (am_push r [vI y1, vR 157]) w Q) := K_iload fi_192_153 rfl <| R_invS fi_192_155 (by decide) (am_invS_of (Nat.le_of_ble_eq_true rfl) rfl (Nat.le_of_ble_eq_true rfl) (Nat.le_of_ble_eq_true rfl) rfl rfl)
theorem b192_158 {d L : Nat} {σ : St} {Q : Option AV → AW → Prop} {y0 y1 x4 : Int} {u0 u1 u2 u3 u5 u6 u7 u8 u9 u10 : AV} (h1 : -2147483648 ≤ y1 + y0 ∧ y1 + y0 ≤ 2147483647) (h2 : 0 ≤ y1 + y0) (h3 : (y1 + y0) < 768) : R d 192 158 [u0, u1, u2, u3, vI x4, u5, u6, u7, u8, u9, u10] [vI y0, vI y1, vR 157] (WS L σ) Q = if ¬ x4 = (-5) then R d 192 184 [u0, u1, u2, u3, vI x4, u5, u6, u7, u8, u9, vI (σ 157 (y1 + y0))] [] (WS L σ) Q else R d 192 169 [u0, u1, u2, u3, vI x4, u5, u6, u7, u8, u9, vI (σ 157 (y1 + y0))] [] (WS L σ) Q := K_iaddx fi_192_158 h1 <| K_ia fi_192_159 kd_157 h2 h3 <| K_istore fi_192_160 (Nat.le_of_ble_eq_true rfl) rfl rfl <| K_iload fi_192_162 rfl <| K_bipush fi_192_164 <| R_icmp_ne fi_192_166 rfl
theorem b192_169 {d L : Nat} {σ : St} {Q : Option AV → AW → Prop} {x10 x9 : Int} {u0 u1 u2 u3 u4 u5 u6 u7 u8 : AV} : R d 192 169 [u0, u1, u2, u3, u4, u5, u6, u7, u8, vI x9, vI x10] [] (WS L σ) Q = if x9 ≤ x10 then R d 192 184 [u0, u1, u2, u3, u4, u5, u6, u7, u8, vI x9, vI x10] [] (WS L σ) Q else R d 192 176 [u0, u1, u2, u3, u4, u5, u6, u7, u8, vI x9, vI x10] [] (WS L σ) Q := K_iload fi_192_169 rfl <| K_iload fi_192_171 rfl <| R_icmp_ge fi_192_173 rfl
theorem b192_176 {d L : Nat} {σ : St} {Q : Option AV → AW → Prop} {x9 x10 : Int} {u0 u1 u2 u3 u4 u5 u6 u7 u8 : AV} (h1 : -2147483648 ≤ x9 - x10 ∧ x9 - x10 ≤ 2147483647) : R d 192 176 [u0, u1, u2, u3, u4, u5, u6, u7, u8, vI x9, vI x10] [] (WS L σ) Q = R d 192 186 [u0, u1, u2, u3, u4, u5, u6, u7, u8, vI x9, vI x10] [vI (x9 - x10)] (WS L σ) Q := K_iload fi_192_176 rfl <| K_iload fi_192_178 rfl <| K_isubx fi_192_180 h1 <| R_goto fi_192_181 rfl
theorem b192_184 {d L : Nat} {σ : St} {Q : Option AV → AW → Prop} {x5 : Int} {u0 u1 u2 u3 u4 u6 u7 u8 u9 u10 : AV} : R d 192 184 [u0, u1, u2, u3, u4, vI x5, u6, u7, u8, u9, u10] [] (WS L σ) Q = R d 192 186 [u0, u1, u2, u3, u4, vI x5, u6, u7, u8, u9, u10] [vI x5] (WS L σ) Q := K_iload fi_192_184 rfl <| rfl
theorem b192_186 {d L : Nat} {σ : St} {Q : Option AV → AW → Prop} {y0 x4 : Int} {u0 u1 u2 u3 u5 u6 u7 u8 u9 u10 : AV} : R d 192 186 [u0, u1, u2, u3, vI x4, u5, u6, u7, u8, u9, u10] [vI y0] (WS L σ) Q = if ¬ x4 = (-5) then R d 192 207 [u0, u1, u2, u3, vI x4, vI y0, u6, u7, u8, u9, u10] [] (WS L σ) Q else R d 192 195 [u0, u1, u2, u3, vI x4, vI y0, u6, u7, u8, u9, u10] [] (WS L σ) Q := K_istore fi_192_186 (Nat.le_of_ble_eq_true rfl) rfl rfl <| K_iload fi_192_188 rfl <| K_bipush fi_192_190 <| R_icmp_ne fi_192_192 rfl
theorem b192_195 {d L : Nat} {σ : St} {Q : Option AV → AW → Prop} {x10 x9 : Int} {u0 u1 u2 u3 u4 u5 u6 u7 u8 : AV} : R d 192 195 [u0, u1, u2, u3, u4, u5, u6, u7, u8, vI x9, vI x10] [] (WS L σ) Q = if x9 ≤ x10 then R d 192 207 [u0, u1, u2, u3, u4, u5, u6, u7, u8, vI x9, vI x10] [] (WS L σ) Q else R d 192 202 [u0, u1, u2, u3, u4, u5, u6, u7, u8, vI x9, vI x10] [] (WS L σ) Q := K_iload fi_192_195 rfl <| K_iload fi_192_197 rfl <| R_icmp_ge fi_192_199 rfl
theorem b192_202 {d L : Nat} {σ : St} {Q : Option AV → AW → Prop} {x6 : Int} {u0 u1 u2 u3 u4 u5 u7 u8 u9 u10 : AV} : R d 192 202 [u0, u1, u2, u3, u4, u5, vI x6, u7, u8, u9, u10] [] (WS L σ) Q = R d 192 209 [u0, u1, u2, u3, u4, u5, vI x6, u7, u8, u9, u10] [vI x6] (WS L σ) Q := K_iload fi_192_202 rfl <| R_goto fi_192_204 rfl
theorem b192_207 {d L : Nat} {σ : St} {Q : Option AV → AW → Prop} {x4 : Int} {u0 u1 u2 u3 u5 u6 u7 u8 u9 u10 : AV} : R d 192 207 [u0, u1, u2, u3, vI x4, u5, u6, u7, u8, u9, u10] [] (WS L σ) Q = R d 192 209 [u0, u1, u2, u3, vI x4, u5, u6, u7, u8, u9, u10] [vI x4] (WS L σ) Q := K_iload fi_192_207 rfl <| rfl
theorem b192_209 {d L : Nat} {σ : St} {Q : Option AV → AW → Prop} {y0 : Int} {u0 u1 u2 u3 u4 u5 u6 u7 u8 u9 u10 : AV} : R d 192 209 [u0, u1, u2, u3, u4, u5, u6, u7, u8, u9, u10] [vI y0] (WS L σ) Q = R d 192 211 [u0, u1, u2, u3, vI y0, u5, u6, u7, u8, u9, u10] [] (WS L σ) Q := K_istore fi_192_209 (Nat.le_of_ble_eq_true rfl) rfl rfl <| rfl
theorem b192_211 {d L : Nat} {σ : St} {Q : Option AV → AW → Prop} {x6 : Int} {u0 u1 u2 u3 u4 u5 u7 u8 u9 u10 : AV} (h1 : -2147483648 ≤ x6 + 1 ∧ x6 + 1 ≤ 2147483647) : R d 192 211 [u0, u1, u2, u3, u4, u5, vI x6, u7, u8, u9, u10] [] (WS L σ) Q = R d 192 37 [u0, u1, u2, u3, u4, u5, vI (x6 + 1), u7, u8, u9, u10] [] (WS L σ) Q := K_iincx fi_192_211 rfl (Nat.le_of_ble_eq_true rfl) rfl h1 rfl <| R_goto fi_192_214 rfl
theorem b192_217 {d L : Nat} {σ : St} {Q : Option AV → AW → Prop} {x1 : Int} {u0 u2 u3 u4 u5 u6 u7 u8 u9 u10 : AV} : R d 192 217 [u0, vI x1, u2, u3, u4, u5, u6, u7, u8, u9, u10] [] (WS L σ) Q = if ¬ x1 = 0 then R d 192 225 [u0, vI x1, u2, u3, u4, u5, u6, u7, u8, u9, u10] [] (WS L σ) Q else R d 192 221 [u0, vI x1, u2, u3, u4, u5, u6, u7, u8, u9, u10] [] (WS L σ) Q := K_iload_n fi_192_217 rfl <| R_if_ne fi_192_218 rfl
theorem b192_221 {d L : Nat} {σ : St} {Q : Option AV → AW → Prop} {x3 : Int} {u0 u1 u2 u4 u5 u6 u7 u8 u9 u10 : AV} : R d 192 221 [u0, u1, u2, vI x3, u4, u5, u6, u7, u8, u9, u10] [] (WS L σ) Q = R d 192 237 [u0, u1, u2, vI x3, u4, u5, u6, u7, u8, u9, u10] [vI x3] (WS L σ) Q := K_iload_n fi_192_221 rfl <| R_goto fi_192_222 rfl
theorem b192_225 {d L : Nat} {σ : St} {Q : Option AV → AW → Prop} {x1 : Int} {u0 u2 u3 u4 u5 u6 u7 u8 u9 u10 : AV} : R d 192 225 [u0, vI x1, u2, u3, u4, u5, u6, u7, u8, u9, u10] [] (WS L σ) Q = if ¬ x1 = 1 then R d 192 235 [u0, vI x1, u2, u3, u4, u5, u6, u7, u8, u9, u10] [] (WS L σ) Q else R d 192 230 [u0, vI x1, u2, u3, u4, u5, u6, u7, u8, u9, u10] [] (WS L σ) Q := K_iload_n fi_192_225 rfl <| K_iconst fi_192_226 <| R_icmp_ne fi_192_227 rfl
theorem b192_230 {d L : Nat} {σ : St} {Q : Option AV → AW → Prop} {x4 : Int} {u0 u1 u2 u3 u5 u6 u7 u8 u9 u10 : AV} : R d 192 230 [u0, u1, u2, u3, vI x4, u5, u6, u7, u8, u9, u10] [] (WS L σ) Q = R d 192 237 [u0, u1, u2, u3, vI x4, u5, u6, u7, u8, u9, u10] [vI x4] (WS L σ) Q := K_iload fi_192_230 rfl <| R_goto fi_192_232 rfl
theorem b192_235 {d L : Nat} {σ : St} {Q : Option AV → AW → Prop} {x5 : Int} {u0 u1 u2 u3 u4 u6 u7 u8 u9 u10 : AV} : R d 192 235 [u0, u1, u2, u3, u4, vI x5, u6, u7, u8, u9, u10] [] (WS L σ) Q = R d 192 237 [u0, u1, u2, u3, u4, vI x5, u6, u7, u8, u9, u10] [vI x5] (WS L σ) Q := K_iload fi_192_235 rfl <| rfl
theorem b192_237 {d L : Nat} {σ : St} {Q : Option AV → AW → Prop} {y0 : Int} {u0 u1 u2 u3 u4 u5 u6 u7 u8 u9 u10 : AV} : R d 192 237 [u0, u1, u2, u3, u4, u5, u6, u7, u8, u9, u10] [vI y0] (WS L σ) Q = Q (some (vI y0)) (WS L σ) := R_ireti fi_192_237 rfl
theorem fi_193_0 : am_find 193 0 = some (.iload_n 1, 1, 0, 0, 0) := by decide +kernel
theorem fi_193_1 : am_find 193 1 = some (.iconst 0, 1, 0, 0, 0) := by decide +kernel
theorem fi_193_2 : am_find 193 2 = some (.iconst 2, 1, 0, 2, 0) := by decide +kernel
theorem fi_193_3 : am_find 193 3 = some (.invokestatic 49, 3, 145, 3, 170) := by decide +kernel
theorem fi_193_6 : am_find 193 6 = some (.ifCond .eq 11, 3, 0, 0, 0) := by decide +kernel
theorem fi_193_9 : am_find 193 9 = some (.aload_n 0, 1, 0, 0, 0) := by decide +kernel
theorem fi_193_10 : am_find 193 10 = some (.iload_n 1, 1, 0, 0, 0) := by decide +kernel
theorem fi_193_11 : am_find 193 11 = some (.invokevirtual 201, 3, 194, 1, 203) := by decide +kernel
theorem fi_193_14 : am_find 193 14 = some (.goto 6, 3, 0, 0, 0) := by decide +kernel
theorem fi_193_17 : am_find 193 17 = some (.sipush (-1001), 3, 0, (-1001), 0) := by decide +kernel
theorem fi_193_20 : am_find 193 20 = some (.ireturn, 1, 0, 0, 0) := by decide +kernel
theorem b193_0 {d L : Nat} {σ : St} {Q : Option AV → AW → Prop} {x1 : Int} {u0 : AV} : R (d + 1) 193 0 [u0, vI x1] [] (WS L σ) Q = R d 145 0 [vI x1, vI 0, vI 2] [] (WS L σ) (fun r w => R (d + 1) 193 6 [u0, vI x1] (am_push r []) w Q) := K_iload_n fi_193_0 rfl <| K_iconst fi_193_1 <| K_iconst fi_193_2 <| R_invS fi_193_3 (by decide) (am_invS_of (Nat.le_of_ble_eq_true rfl) rfl (Nat.le_of_ble_eq_true rfl) (Nat.le_of_ble_eq_true rfl) rfl rfl)
theorem b193_6 {d L : Nat} {σ : St} {Q : Option AV → AW → Prop} {y0 : Int} {u0 u1 : AV} : R d 193 6 [u0, u1] [vI y0] (WS L σ) Q = if y0 = 0 then R d 193 17 [u0, u1] [] (WS L σ) Q else R d 193 9 [u0, u1] [] (WS L σ) Q := R_if_eq fi_193_6 rfl
theorem b193_9 {d L : Nat} {σ : St} {Q : Option AV → AW → Prop} {x1 : Int} : R (d + 1) 193 9 [vR 153, vI x1] [] (WS L σ) Q = R d 194 0 [vR 153, vI x1, vX 9] [] (WS L σ) (fun r w => R (d + 1) 193 14 [vR 153, vI x1] (am_push r []) w Q) := K_aload_n fi_193_9 rfl <| K_iload_n fi_193_10 rfl <| R_invV fi_193_11 (am_invV_of rfl (kd_153) (Nat.le_of_ble_eq_true rfl) (Nat.le_of_ble_eq_true rfl) rfl rfl)
theorem b193_14 {d L : Nat} {σ : St} {Q : Option AV → AW → Prop} {y0 : Int} {u0 u1 : AV} : R d 193 14 [u0, u1] [vI y0] (WS L σ) Q = R d 193 20 [u0, u1] [vI y0] (WS L σ) Q := R_goto fi_193_14 rfl
theorem b193_17 {d L : Nat} {σ : St} {Q : Option AV → AW → Prop} {u0 u1 : AV} : R d 193 17 [u0, u1] [] (WS L σ) Q = R d 193 20 [u0, u1] [vI (-1001)] (WS L σ) Q := K_sipush fi_193_17 <| rfl
theorem b193_20 {d L : Nat} {σ : St} {Q : Option AV → AW → Prop} {y0 : Int} {u0 u1 : AV} : R d 193 20 [u0, u1] [vI y0] (WS L σ) Q = Q (some (vI y0)) (WS L σ) := R_ireti fi_193_20 rfl
theorem fi_194_0 : am_find 194 0 = some (.aload_n 0, 1, 0, 0, 0) := by decide +kernel
theorem fi_194_1 : am_find 194 1 = some (.iload_n 1, 1, 0, 0, 0) := by decide +kernel
theorem fi_194_2 : am_find 194 2 = some (.iconst 0, 1, 0, 0, 0) := by decide +kernel
theorem fi_194_3 : am_find 194 3 = some (.invokevirtual 197, 3, 185, 2, 198) := by decide +kernel
theorem fi_194_6 : am_find 194 6 = some (.aload_n 0, 1, 0, 0, 0) := by decide +kernel
theorem fi_194_7 : am_find 194 7 = some (.getfield 20, 3, 10, 10, 104) := by decide +kernel
theorem fi_194_10 : am_find 194 10 = some (.aload_n 0, 1, 0, 0, 0) := by decide +kernel
theorem fi_194_11 : am_find 194 11 = some (.iconst 0, 1, 0, 0, 0) := by decide +kernel
theorem fi_194_12 : am_find 194 12 = some (.invokevirtual 176, 3, 186, 1, 199) := by decide +kernel
theorem fi_194_15 : am_find 194 15 = some (.iconst 0, 1, 0, 0, 0) := by decide +kernel
theorem fi_194_16 : am_find 194 16 = some (.invokestatic 179, 3, 189, 2, 202) := by decide +kernel
theorem fi_194_19 : am_find 194 19 = some (.iaload, 1, 0, 0, 0) := by decide +kernel
theorem fi_194_20 : am_find 194 20 = some (.istore_n 2, 1, 0, 0, 0) := by decide +kernel
theorem fi_194_21 : am_find 194 21 = some (.aload_n 0, 1, 0, 0, 0) := by decide +kernel
theorem fi_194_22 : am_find 194 22 = some (.iload_n 1, 1, 0, 0, 0) := by decide +kernel
theorem fi_194_23 : am_find 194 23 = some (.iconst 1, 1, 0, 1, 0) := by decide +kernel
theorem fi_194_24 : am_find 194 24 = some (.invokevirtual 197, 3, 185, 2, 198) := by decide +kernel
theorem fi_194_27 : am_find 194 27 = some (.iload_n 2, 1, 0, 0, 0) := by decide +kernel
theorem fi_194_28 : am_find 194 28 = some (.aload_n 0, 1, 0, 0, 0) := by decide +kernel
theorem fi_194_29 : am_find 194 29 = some (.getfield 20, 3, 10, 10, 104) := by decide +kernel
theorem fi_194_32 : am_find 194 32 = some (.aload_n 0, 1, 0, 0, 0) := by decide +kernel
theorem fi_194_33 : am_find 194 33 = some (.iconst 0, 1, 0, 0, 0) := by decide +kernel
theorem fi_194_34 : am_find 194 34 = some (.invokevirtual 176, 3, 186, 1, 199) := by decide +kernel
theorem fi_194_37 : am_find 194 37 = some (.iconst 0, 1, 0, 0, 0) := by decide +kernel
theorem fi_194_38 : am_find 194 38 = some (.invokestatic 179, 3, 189, 2, 202) := by decide +kernel
theorem fi_194_41 : am_find 194 41 = some (.iaload, 1, 0, 0, 0) := by decide +kernel
theorem fi_194_42 : am_find 194 42 = some (.isub, 1, 0, 0, 0) := by decide +kernel
theorem fi_194_43 : am_find 194 43 = some (.ireturn, 1, 0, 0, 0) := by decide +kernel
theorem b194_0 {d L : Nat} {σ : St} {Q : Option AV → AW → Prop} {x1 : Int} {u2 : AV} : R (d + 1) 194 0 [vR 153, vI x1, u2] [] (WS L σ) Q = R d 185 0 [vR 153, vI x1, vI 0, vX 9, vX 9] [] (WS L σ) (fun r w => R (d + 1) 194 6 [vR 153, vI x1, u2] (am_push r []) w Q) := K_aload_n fi_194_0 rfl <| K_iload_n fi_194_1 rfl <| K_iconst fi_194_2 <| R_invV fi_194_3 (am_invV_of rfl (kd_153) (Nat.le_of_ble_eq_true rfl) (Nat.le_of_ble_eq_true rfl) rfl rfl)
theorem b194_6 {d L : Nat} {σ : St} {Q : Option AV → AW → Prop} {u1 u2 : AV} : R (d + 1) 194 6 [vR 153, u1, u2] [] (WS L σ) Q = R d 186 0 [vR 153, vI 0, vX 9, vX 9] [] (WS L σ) (fun r w => R (d + 1) 194 15 [vR 153, u1, u2] (am_push r [vR 157]) w Q) := K_aload_n fi_194_6 rfl <| K_gf fi_194_7 kd_153 mk_153_10 <| K_aload_n fi_194_10 rfl <| K_iconst fi_194_11 <| R_invV fi_194_12 (am_invV_of rfl (kd_153) (Nat.le_of_ble_eq_true rfl) (Nat.le_of_ble_eq_true rfl) rfl rfl)
theorem b194_15 {d L : Nat} {σ : St} {Q : Option AV → AW → Prop} {y0 : Int} {u0 u1 u2 : AV} : R (d + 1) 194 15 [u0, u1, u2] [vI y0, vR 157] (WS L σ) Q = R d 189 0 [vI y0, vI 0, vX 9, vX 9] [] (WS L σ) (fun r w => R (d + 1) 194 19 [u0, u1, u2] (am_push r [vR 157]) w Q) := K_iconst fi_194_15 <| R_invS fi_194_16 (by decide) (am_invS_of (Nat.le_of_ble_eq_true rfl) rfl (Nat.le_of_ble_eq_true rfl) (Nat.le_of_ble_eq_true rfl) rfl rfl)
theorem b194_19 {d L : Nat} {σ : St} {Q : Option AV → AW → Prop} {y0 x1 : Int} {u2 : AV} (h1 : 0 ≤ y0) (h2 : y0 < 768) : R (d + 1) 194 19 [vR 153, vI x1, u2] [vI y0, vR 157] (WS L σ) Q = R d 185 0 [vR 153, vI x1, vI 1, vX 9, vX 9] [] (WS L σ) (fun r w => R (d + 1) 194 27 [vR 153, vI x1, vI (σ 157 y0)] (am_push r []) w Q) := K_ia fi_194_19 kd_157 h1 h2 <| K_istore_n fi_194_20 (Nat.le_of_ble_eq_true rfl) rfl rfl <| K_aload_n fi_194_21 rfl <| K_iload_n fi_194_22 rfl <| K_iconst fi_194_23 <| R_invV fi_194_24 (am_invV_of rfl (kd_153) (Nat.le_of_ble_eq_true rfl) (Nat.le_of_ble_eq_true rfl) rfl rfl)
theorem b194_27 {d L : Nat} {σ : St} {Q : Option AV → AW → Prop} {x2 : Int} {u1 : AV} : R (d + 1) 194 27 [vR 153, u1, vI x2] [] (WS L σ) Q = R d 186 0 [vR 153, vI 0, vX 9, vX 9] [] (WS L σ) (fun r w => R (d + 1) 194 37 [vR 153, u1, vI x2] (am_push r [vR 157, vI x2]) w Q) := K_iload_n fi_194_27 rfl <| K_aload_n fi_194_28 rfl <| K_gf fi_194_29 kd_153 mk_153_10 <| K_aload_n fi_194_32 rfl <| K_iconst fi_194_33 <| R_invV fi_194_34 (am_invV_of rfl (kd_153) (Nat.le_of_ble_eq_true rfl) (Nat.le_of_ble_eq_true rfl) rfl rfl)
theorem b194_37 {d L : Nat} {σ : St} {Q : Option AV → AW → Prop} {y0 y2 : Int} {u0 u1 u2 : AV} : R (d + 1) 194 37 [u0, u1, u2] [vI y0, vR 157, vI y2] (WS L σ) Q = R d 189 0 [vI y0, vI 0, vX 9, vX 9] [] (WS L σ) (fun r w => R (d + 1) 194 41 [u0, u1, u2] (am_push r [vR 157, vI y2]) w Q) := K_iconst fi_194_37 <| R_invS fi_194_38 (by decide) (am_invS_of (Nat.le_of_ble_eq_true rfl) rfl (Nat.le_of_ble_eq_true rfl) (Nat.le_of_ble_eq_true rfl) rfl rfl)
theorem b194_41 {d L : Nat} {σ : St} {Q : Option AV → AW → Prop} {y0 y2 : Int} {u0 u1 u2 : AV} (h1 : 0 ≤ y0) (h2 : y0 < 768) (h3 : -2147483648 ≤ y2 - (σ 157 y0) ∧ y2 - (σ 157 y0) ≤ 2147483647) : R d 194 41 [u0, u1, u2] [vI y0, vR 157, vI y2] (WS L σ) Q = Q (some (vI (y2 - (σ 157 y0)))) (WS L σ) := K_ia fi_194_41 kd_157 h1 h2 <| K_isubx fi_194_42 h3 <| R_ireti fi_194_43 rfl
theorem fi_195_0 : am_find 195 0 = some (.iconst 0, 1, 0, 0, 0) := by decide +kernel
theorem fi_195_1 : am_find 195 1 = some (.istore_n 1, 1, 0, 0, 0) := by decide +kernel
theorem fi_195_2 : am_find 195 2 = some (.iconst 0, 1, 0, 0, 0) := by decide +kernel
theorem fi_195_3 : am_find 195 3 = some (.istore_n 2, 1, 0, 0, 0) := by decide +kernel
theorem fi_195_4 : am_find 195 4 = some (.iconst 0, 1, 0, 0, 0) := by decide +kernel
theorem fi_195_5 : am_find 195 5 = some (.istore_n 3, 1, 0, 0, 0) := by decide +kernel
theorem fi_195_6 : am_find 195 6 = some (.iload_n 3, 1, 0, 0, 0) := by decide +kernel
theorem fi_195_7 : am_find 195 7 = some (.iconst 3, 1, 0, 3, 0) := by decide +kernel
theorem fi_195_8 : am_find 195 8 = some (.if_icmp .ge 64, 3, 0, 0, 0) := by decide +kernel
theorem fi_195_11 : am_find 195 11 = some (.aload_n 0, 1, 0, 0, 0) := by decide +kernel
theorem fi_195_12 : am_find 195 12 = some (.iload_n 3, 1, 0, 0, 0) := by decide +kernel
theorem fi_195_13 : am_find 195 13 = some (.invokevirtual 201, 3, 194, 1, 203) := by decide +kernel
theorem fi_195_16 : am_find 195 16 = some (.istore 4, 2, 0, 0, 0) := by decide +kernel
theorem fi_195_18 : am_find 195 18 = some (.iload 4, 2, 0, 0, 0) := by decide +kernel
theorem fi_195_20 : am_find 195 20 = some (.ifCond .ge 9, 3, 0, 0, 0) := by decide +kernel
theorem fi_195_23 : am_find 195 23 = some (.iload 4, 2, 0, 0, 0) := by decide +kernel
theorem fi_195_25 : am_find 195 25 = some (.ineg, 1, 0, 0, 0) := by decide +kernel
theorem fi_195_26 : am_find 195 26 = some (.goto 5, 3, 0, 0, 0) := by decide +kernel
theorem fi_195_29 : am_find 195 29 = some (.iload 4, 2, 0, 0, 0) := by decide +kernel
theorem fi_195_31 : am_find 195 31 = some (.istore 4, 2, 0, 0, 0) := by decide +kernel
theorem fi_195_33 : am_find 195 33 = some (.iload_n 3, 1, 0, 0, 0) := by decide +kernel
theorem fi_195_34 : am_find 195 34 = some (.ifCond .eq 9, 3, 0, 0, 0) := by decide +kernel
theorem fi_195_37 : am_find 195 37 = some (.iload 4, 2, 0, 0, 0) := by decide +kernel
theorem fi_195_39 : am_find 195 39 = some (.iload_n 2, 1, 0, 0, 0) := by decide +kernel
theorem fi_195_40 : am_find 195 40 = some (.if_icmp .ge 7, 3, 0, 0, 0) := by decide +kernel
theorem fi_195_43 : am_find 195 43 = some (.iload_n 3, 1, 0, 0, 0) := by decide +kernel
theorem fi_195_44 : am_find 195 44 = some (.goto 4, 3, 0, 0, 0) := by decide +kernel
theorem fi_195_47 : am_find 195 47 = some (.iload_n 1, 1, 0, 0, 0) := by decide +kernel
theorem fi_195_48 : am_find 195 48 = some (.istore_n 1, 1, 0, 0, 0) := by decide +kernel
theorem fi_195_49 : am_find 195 49 = some (.iload_n 3, 1, 0, 0, 0) := by decide +kernel
theorem fi_195_50 : am_find 195 50 = some (.ifCond .eq 9, 3, 0, 0, 0) := by decide +kernel
theorem fi_195_53 : am_find 195 53 = some (.iload 4, 2, 0, 0, 0) := by decide +kernel
theorem fi_195_55 : am_find 195 55 = some (.iload_n 2, 1, 0, 0, 0) := by decide +kernel
theorem fi_195_56 : am_find 195 56 = some (.if_icmp .ge 8, 3, 0, 0, 0) := by decide +kernel
theorem fi_195_59 : am_find 195 59 = some (.iload 4, 2, 0, 0, 0) := by decide +kernel
theorem fi_195_61 : am_find 195 61 = some (.goto 4, 3, 0, 0, 0) := by decide +kernel
theorem fi_195_64 : am_find 195 64 = some (.iload_n 2, 1, 0, 0, 0) := by decide +kernel
theorem fi_195_65 : am_find 195 65 = some (.istore_n 2, 1, 0, 0, 0) := by decide +kernel
theorem fi_195_66 : am_find 195 66 = some (.iinc 3 1, 3, 0, 0, 0) := by decide +kernel
theorem fi_195_69 : am_find 195 69 = some (.goto (-63), 3, 0, 0, 0) := by decide +kernel
theorem fi_195_72 : am_find 195 72 = some (.iload_n 1, 1, 0, 0, 0) := by decide +kernel
theorem fi_195_73 : am_find 195 73 = some (.ireturn, 1, 0, 0, 0) := by decide +kernel
theorem b195_0 {d L : Nat} {σ : St} {Q : Option AV → AW → Prop} {u0 u1 u2 u3 u4 : AV} : R d 195 0 [u0, u1, u2, u3, u4] [] (WS L σ) Q = R d 195 6 [u0, vI 0, vI 0, vI 0, u4] [] (WS L σ) Q := K_iconst fi_195_0 <| K_istore_n fi_195_1 (Nat.le_of_ble_eq_true rfl) rfl rfl <| K_iconst fi_195_2 <| K_istore_n fi_195_3 (Nat.le_of_ble_eq_true rfl) rfl rfl <| K_iconst fi_195_4 <| K_istore_n fi_195_5 (Nat.le_of_ble_eq_true rfl) rfl rfl <| rfl
theorem b195_6 {d L : Nat} {σ : St} {Q : Option AV → AW → Prop} {x3 : Int} {u0 u1 u2 u4 : AV} : R d 195 6 [u0, u1, u2, vI x3, u4] [] (WS L σ) Q = if 3 ≤ x3 then R d 195 72 [u0, u1, u2, vI x3, u4] [] (WS L σ) Q else R d 195 11 [u0, u1, u2, vI x3, u4] [] (WS L σ) Q := K_iload_n fi_195_6 rfl <| K_iconst fi_195_7 <| R_icmp_ge fi_195_8 rfl
theorem b195_11 {d L : Nat} {σ : St} {Q : Option AV → AW → Prop} {x3 : Int} {u1 u2 u4 : AV} : R (d + 1) 195 11 [vR 153, u1, u2, vI x3, u4] [] (WS L σ) Q = R d 194 0 [vR 153, vI x3, vX 9] [] (WS L σ) (fun r w => R (d + 1) 195 16 [vR 153, u1, u2, vI x3, u4] (am_push r []) w Q) := K_aload_n fi_195_11 rfl <| K_iload_n fi_195_12 rfl <| R_invV fi_195_13 (am_invV_of rfl (kd_153) (Nat.le_of_ble_eq_true rfl) (Nat.le_of_ble_eq_true rfl) rfl rfl)
theorem b195_16 {d L : Nat} {σ : St} {Q : Option AV → AW → Prop} {y0 : Int} {u0 u1 u2 u3 u4 : AV} : R d 195 16 [u0, u1, u2, u3, u4] [vI y0] (WS L σ) Q = if 0 ≤ y0 then R d 195 29 [u0, u1, u2, u3, vI y0] [] (WS L σ) Q else R d 195 23 [u0, u1, u2, u3, vI y0] [] (WS L σ) Q := K_istore fi_195_16 (Nat.le_of_ble_eq_true rfl) rfl rfl <| K_iload fi_195_18 rfl <| R_if_ge fi_195_20 rfl
theorem b195_23 {d L : Nat} {σ : St} {Q : Option AV → AW → Prop} {x4 : Int} {u0 u1 u2 u3 : AV} (h1 : -2147483648 ≤ -x4 ∧ -x4 ≤ 2147483647) : R d 195 23 [u0, u1, u2, u3, vI x4] [] (WS L σ) Q = R d 195 31 [u0, u1, u2, u3, vI x4] [vI (-x4)] (WS L σ) Q := K_iload fi_195_23 rfl <| K_inegx fi_195_25 h1 <| R_goto fi_195_26 rfl
theorem b195_29 {d L : Nat} {σ : St} {Q : Option AV → AW → Prop} {x4 : Int} {u0 u1 u2 u3 : AV} : R d 195 29 [u0, u1, u2, u3, vI x4] [] (WS L σ) Q = R d 195 31 [u0, u1, u2, u3, vI x4] [vI x4] (WS L σ) Q := K_iload fi_195_29 rfl <| rfl
theorem b195_31 {d L : Nat} {σ : St} {Q : Option AV → AW → Prop} {y0 x3 : Int} {u0 u1 u2 u4 : AV} : R d 195 31 [u0, u1, u2, vI x3, u4] [vI y0] (WS L σ) Q = if x3 = 0 then R d 195 43 [u0, u1, u2, vI x3, vI y0] [] (WS L σ) Q else R d 195 37 [u0, u1, u2, vI x3, vI y0] [] (WS L σ) Q := K_istore fi_195_31 (Nat.le_of_ble_eq_true rfl) rfl rfl <| K_iload_n fi_195_33 rfl <| R_if_eq fi_195_34 rfl
theorem b195_37 {d L : Nat} {σ : St} {Q : Option AV → AW → Prop} {x4 x2 : Int} {u0 u1 u3 : AV} : R d 195 37 [u0, u1, vI x2, u3, vI x4] [] (WS L σ) Q = if x2 ≤ x4 then R d 195 47 [u0, u1, vI x2, u3, vI x4] [] (WS L σ) Q else R d 195 43 [u0, u1, vI x2, u3, vI x4] [] (WS L σ) Q := K_iload fi_195_37 rfl <| K_iload_n fi_195_39 rfl <| R_icmp_ge fi_195_40 rfl
theorem b195_43 {d L : Nat} {σ : St} {Q : Option AV → AW → Prop} {x3 : Int} {u0 u1 u2 u4 : AV} : R d 195 43 [u0, u1, u2, vI x3, u4] [] (WS L σ) Q = R d 195 48 [u0, u1, u2, vI x3, u4] [vI x3] (WS L σ) Q := K_iload_n fi_195_43 rfl <| R_goto fi_195_44 rfl
theorem b195_47 {d L : Nat} {σ : St} {Q : Option AV → AW → Prop} {x1 : Int} {u0 u2 u3 u4 : AV} : R d 195 47 [u0, vI x1, u2, u3, u4] [] (WS L σ) Q = R d 195 48 [u0, vI x1, u2, u3, u4] [vI x1] (WS L σ) Q := K_iload_n fi_195_47 rfl <| rfl
theorem b195_48 {d L : Nat} {σ : St} {Q : Option AV → AW → Prop} {y0 x3 : Int} {u0 u1 u2 u4 : AV} : R d 195 48 [u0, u1, u2, vI x3, u4] [vI y0] (WS L σ) Q = if x3 = 0 then R d 195 59 [u0, vI y0, u2, vI x3, u4] [] (WS L σ) Q else R d 195 53 [u0, vI y0, u2, vI x3, u4] [] (WS L σ) Q := K_istore_n fi_195_48 (Nat.le_of_ble_eq_true rfl) rfl rfl <| K_iload_n fi_195_49 rfl <| R_if_eq fi_195_50 rfl
theorem b195_53 {d L : Nat} {σ : St} {Q : Option AV → AW → Prop} {x4 x2 : Int} {u0 u1 u3 : AV} : R d 195 53 [u0, u1, vI x2, u3, vI x4] [] (WS L σ) Q = if x2 ≤ x4 then R d 195 64 [u0, u1, vI x2, u3, vI x4] [] (WS L σ) Q else R d 195 59 [u0, u1, vI x2, u3, vI x4] [] (WS L σ) Q := K_iload fi_195_53 rfl <| K_iload_n fi_195_55 rfl <| R_icmp_ge fi_195_56 rfl
theorem b195_59 {d L : Nat} {σ : St} {Q : Option AV → AW → Prop} {x4 : Int} {u0 u1 u2 u3 : AV} : R d 195 59 [u0, u1, u2, u3, vI x4] [] (WS L σ) Q = R d 195 65 [u0, u1, u2, u3, vI x4] [vI x4] (WS L σ) Q := K_iload fi_195_59 rfl <| R_goto fi_195_61 rfl
theorem b195_64 {d L : Nat} {σ : St} {Q : Option AV → AW → Prop} {x2 : Int} {u0 u1 u3 u4 : AV} : R d 195 64 [u0, u1, vI x2, u3, u4] [] (WS L σ) Q = R d 195 65 [u0, u1, vI x2, u3, u4] [vI x2] (WS L σ) Q := K_iload_n fi_195_64 rfl <| rfl
theorem b195_65 {d L : Nat} {σ : St} {Q : Option AV → AW → Prop} {y0 x1 x3 : Int} {u0 u2 u4 : AV} (h1 : -2147483648 ≤ x3 + 1 ∧ x3 + 1 ≤ 2147483647) : R d 195 65 [u0, vI x1, u2, vI x3, u4] [vI y0] (WS L σ) Q = R d 195 6 [u0, vI x1, vI y0, vI (x3 + 1), u4] [] (WS L σ) Q := K_istore_n fi_195_65 (Nat.le_of_ble_eq_true rfl) rfl rfl <| K_iincx fi_195_66 rfl (Nat.le_of_ble_eq_true rfl) rfl h1 rfl <| R_goto fi_195_69 rfl
theorem b195_72 {d L : Nat} {σ : St} {Q : Option AV → AW → Prop} {x1 : Int} {u0 u2 u3 u4 : AV} : R d 195 72 [u0, vI x1, u2, u3, u4] [] (WS L σ) Q = Q (some (vI x1)) (WS L σ) := K_iload_n fi_195_72 rfl <| R_ireti fi_195_73 rfl
theorem fi_196_0 : am_find 196 0 = some (.aload_n 0, 1, 0, 0, 0) := by decide +kernel
theorem fi_196_1 : am_find 196 1 = some (.iload_n 1, 1, 0, 0, 0) := by decide +kernel
theorem fi_196_2 : am_find 196 2 = some (.invokevirtual 161, 3, 179, 1, 194) := by decide +kernel
theorem fi_196_5 : am_find 196 5 = some (.ifCond .ne 5, 3, 0, 0, 0) := by decide +kernel
theorem fi_196_8 : am_find 196 8 = some (.iconst (-1), 1, 0, (-1), 0) := by decide +kernel
theorem fi_196_9 : am_find 196 9 = some (.ireturn, 1, 0, 0, 0) := by decide +kernel
theorem fi_196_10 : am_find 196 10 = some (.aload_n 0, 1, 0, 0, 0) := by decide +kernel
theorem fi_196_11 : am_find 196 11 = some (.invokevirtual 210, 3, 197, 0, 204) := by decide +kernel
theorem fi_196_14 : am_find 196 14 = some (.ifCond .ne 8, 3, 0, 0, 0) := by decide +kernel
theorem fi_196_17 : am_find 196 17 = some (.bipush (-5), 2, 0, (-5), 0) := by decide +kernel
theorem fi_196_19 : am_find 196 19 = some (.goto 8, 3, 0, 0, 0) := by decide +kernel
theorem fi_196_22 : am_find 196 22 = some (.aload_n 0, 1, 0, 0, 0) := by decide +kernel
theorem fi_196_23 : am_find 196 23 = some (.iload_n 1, 1, 0, 0, 0) := by decide +kernel
theorem fi_196_24 : am_find 196 24 = some (.invokevirtual 229, 3, 198, 1, 205) := by decide +kernel
theorem fi_196_27 : am_find 196 27 = some (.ireturn, 1, 0, 0, 0) := by decide +kernel
theorem b196_0 {d L : Nat} {σ : St} {Q : Option AV → AW → Prop} {x1 : Int} : R (d + 1) 196 0 [vR 153, vI x1] [] (WS L σ) Q = R d 179 0 [vR 153, vI x1] [] (WS L σ) (fun r w => R (d + 1) 196 5 [vR 153, vI x1] (am_push r []) w Q) := K_aload_n fi_196_0 rfl <| K_iload_n fi_196_1 rfl <| R_invV fi_196_2 (am_invV_of rfl (kd_153) (Nat.le_of_ble_eq_true rfl) (Nat.le_of_ble_eq_true rfl) rfl rfl)
theorem b196_5 {d L : Nat} {σ : St} {Q : Option AV → AW → Prop} {y0 : Int} {u0 u1 : AV} : R d 196 5 [u0, u1] [vI y0] (WS L σ) Q = if ¬ y0 = 0 then R d 196 10 [u0, u1] [] (WS L σ) Q else R d 196 8 [u0, u1] [] (WS L σ) Q := R_if_ne fi_196_5 rfl
theorem b196_8 {d L : Nat} {σ : St} {Q : Option AV → AW → Prop} {u0 u1 : AV} : R d 196 8 [u0, u1] [] (WS L σ) Q = Q (some (vI (-1))) (WS L σ) := K_iconst fi_196_8 <| R_ireti fi_196_9 rfl
theorem b196_10 {d L : Nat} {σ : St} {Q : Option AV → AW → Prop} {u1 : AV} : R (d + 1) 196 10 [vR 153, u1] [] (WS L σ) Q = R d 197 0 [vR 153, vX 9, vX 9] [] (WS L σ) (fun r w => R (d + 1) 196 14 [vR 153, u1] (am_push r []) w Q) := K_aload_n fi_196_10 rfl <| R_invV fi_196_11 (am_invV_of rfl (kd_153) (Nat.le_of_ble_eq_true rfl) (Nat.le_of_ble_eq_true rfl) rfl rfl)
theorem b196_14 {d L : Nat} {σ : St} {Q : Option AV → AW → Prop} {y0 : Int} {u0 u1 : AV} : R d 196 14 [u0, u1] [vI y0] (WS L σ) Q = if ¬ y0 = 0 then R d 196 22 [u0, u1] [] (WS L σ) Q else R d 196 17 [u0, u1] [] (WS L σ) Q := R_if_ne fi_196_14 rfl
theorem b196_17 {d L : Nat} {σ : St} {Q : Option AV → AW → Prop} {u0 u1 : AV} : R d 196 17 [u0, u1] [] (WS L σ) Q = R d 196 27 [u0, u1] [vI (-5)] (WS L σ) Q := K_bipush fi_196_17 <| R_goto fi_196_19 rfl
theorem b196_22 {d L : Nat} {σ : St} {Q : Option AV → AW → Prop} {x1 : Int} : R (d + 1) 196 22 [vR 153, vI x1] [] (WS L σ) Q = R d 198 0 [vR 153, vI x1, vX 9, vX 9, vX 9, vX 9] [] (WS L σ) (fun r w => R (d + 1) 196 27 [vR 153, vI x1] (am_push r []) w Q) := K_aload_n fi_196_22 rfl <| K_iload_n fi_196_23 rfl <| R_invV fi_196_24 (am_invV_of rfl (kd_153) (Nat.le_of_ble_eq_true rfl) (Nat.le_of_ble_eq_true rfl) rfl rfl)
theorem b196_27 {d L : Nat} {σ : St} {Q : Option AV → AW → Prop} {y0 : Int} {u0 u1 : AV} : R d 196 27 [u0, u1] [vI y0] (WS L σ) Q = Q (some (vI y0)) (WS L σ) := R_ireti fi_196_27 rfl
theorem fi_197_0 : am_find 197 0 = some (.iconst 0, 1, 0, 0, 0) := by decide +kernel
theorem fi_197_1 : am_find 197 1 = some (.istore_n 1, 1, 0, 0, 0) := by decide +kernel
theorem fi_197_2 : am_find 197 2 = some (.iconst 0, 1, 0, 0, 0) := by decide +kernel
theorem fi_197_3 : am_find 197 3 = some (.istore_n 2, 1, 0, 0, 0) := by decide +kernel
theorem fi_197_4 : am_find 197 4 = some (.iload_n 2, 1, 0, 0, 0) := by decide +kernel
theorem fi_197_5 : am_find 197 5 = some (.aload_n 0, 1, 0, 0, 0) := by decide +kernel
theorem fi_197_6 : am_find 197 6 = some (.getfield 7, 3, 10, 1, 101) := by decide +kernel
theorem fi_197_9 : am_find 197 9 = some (.iconst 0, 1, 0, 0, 0) := by decide +kernel
theorem fi_197_10 : am_find 197 10 = some (.iaload, 1, 0, 0, 0) := by decide +kernel
theorem fi_197_11 : am_find 197 11 = some (.if_icmp .ge 33, 3, 0, 0, 0) := by decide +kernel
theorem fi_197_14 : am_find 197 14 = some (.iload_n 1, 1, 0, 0, 0) := by decide +kernel
theorem fi_197_15 : am_find 197 15 = some (.aload_n 0, 1, 0, 0, 0) := by decide +kernel
theorem fi_197_16 : am_find 197 16 = some (.getfield 7, 3, 10, 1, 101) := by decide +kernel
theorem fi_197_19 : am_find 197 19 = some (.sipush 203, 3, 0, 203, 0) := by decide +kernel
theorem fi_197_22 : am_find 197 22 = some (.iload_n 2, 1, 0, 0, 0) := by decide +kernel
theorem fi_197_23 : am_find 197 23 = some (.iadd, 1, 0, 0, 0) := by decide +kernel
theorem fi_197_24 : am_find 197 24 = some (.iaload, 1, 0, 0, 0) := by decide +kernel
theorem fi_197_25 : am_find 197 25 = some (.iconst (-1), 1, 0, (-1), 0) := by decide +kernel
theorem fi_197_26 : am_find 197 26 = some (.if_icmp .ne 9, 3, 0, 0, 0) := by decide +kernel
theorem fi_197_29 : am_find 197 29 = some (.iconst 1, 1, 0, 1, 0) := by decide +kernel
theorem fi_197_30 : am_find 197 30 = some (.iload_n 2, 1, 0, 0, 0) := by decide +kernel
theorem fi_197_31 : am_find 197 31 = some (.ishl, 1, 0, 0, 0) := by decide +kernel
theorem fi_197_32 : am_find 197 32 = some (.goto 4, 3, 0, 0, 0) := by decide +kernel
theorem fi_197_35 : am_find 197 35 = some (.iconst 0, 1, 0, 0, 0) := by decide +kernel
theorem fi_197_36 : am_find 197 36 = some (.ior, 1, 0, 0, 0) := by decide +kernel
theorem fi_197_37 : am_find 197 37 = some (.istore_n 1, 1, 0, 0, 0) := by decide +kernel
theorem fi_197_38 : am_find 197 38 = some (.iinc 2 1, 3, 0, 0, 0) := by decide +kernel
theorem fi_197_41 : am_find 197 41 = some (.goto (-37), 3, 0, 0, 0) := by decide +kernel
theorem fi_197_44 : am_find 197 44 = some (.iload_n 1, 1, 0, 0, 0) := by decide +kernel
theorem fi_197_45 : am_find 197 45 = some (.ireturn, 1, 0, 0, 0) := by decide +kernel
theorem b197_0 {d L : Nat} {σ : St} {Q : Option AV → AW → Prop} {u0 u1 u2 : AV} : R d 197 0 [u0, u1, u2] [] (WS L σ) Q = R d 197 4 [u0, vI 0, vI 0] [] (WS L σ) Q := K_iconst fi_197_0 <| K_istore_n fi_197_1 (Nat.le_of_ble_eq_true rfl) rfl rfl <| K_iconst fi_197_2 <| K_istore_n fi_197_3 (Nat.le_of_ble_eq_true rfl) rfl rfl <| rfl
theorem b197_4 {d L : Nat} {σ : St} {Q : Option AV → AW → Prop} {x2 : Int} {u1 : AV} : R d 197 4 [vR 153, u1, vI x2] [] (WS L σ) Q = if (σ 154 0) ≤ x2 then R d 197 44 [vR 153, u1, vI x2] [] (WS L σ) Q else R d 197 14 [vR 153, u1, vI x2] [] (WS L σ) Q := K_iload_n fi_197_4 rfl <| K_aload_n fi_197_5 rfl <| K_gf fi_197_6 kd_153 mk_153_1 <| K_iconst fi_197_9 <| K_ia fi_197_10 kd_154 (by decide) (show (0 : Int) < 1580 by decide) <| R_icmp_ge fi_197_11 rfl
theorem b197_14 {d L : Nat} {σ : St} {Q : Option AV → AW → Prop} {x1 x2 : Int} (h1 : -2147483648 ≤ 203 + x2 ∧ 203 + x2 ≤ 2147483647) (h2 : 0 ≤ 203 + x2) (h3 : (203 + x2) < 1580) : R d 197 14 [vR 153, vI x1, vI x2] [] (WS L σ) Q = if ¬ (σ 154 (203 + x2)) = (-1) then R d 197 35 [vR 153, vI x1, vI x2] [vI x1] (WS L σ) Q else R d 197 29 [vR 153, vI x1, vI x2] [vI x1] (WS L σ) Q := K_iload_n fi_197_14 rfl <| K_aload_n fi_197_15 rfl <| K_gf fi_197_16 kd_153 mk_153_1 <| K_sipush fi_197_19 <| K_iload_n fi_197_22 rfl <| K_iaddx fi_197_23 h1 <| K_ia fi_197_24 kd_154 h2 h3 <| K_iconst fi_197_25 <| R_icmp_ne fi_197_26 rfl
theorem b197_29 {d L : Nat} {σ : St} {Q : Option AV → AW → Prop} {y0 x2 : Int} {u0 u1 : AV} : R d 197 29 [u0, u1, vI x2] [vI y0] (WS L σ) Q = R d 197 36 [u0, u1, vI x2] [vI (i_shl 1 x2), vI y0] (WS L σ) Q := K_iconst fi_197_29 <| K_iload_n fi_197_30 rfl <| K_ishl fi_197_31 <| R_goto fi_197_32 rfl
theorem b197_35 {d L : Nat} {σ : St} {Q : Option AV → AW → Prop} {y0 : Int} {u0 u1 u2 : AV} : R d 197 35 [u0, u1, u2] [vI y0] (WS L σ) Q = R d 197 36 [u0, u1, u2] [vI 0, vI y0] (WS L σ) Q := K_iconst fi_197_35 <| rfl
theorem b197_36 {d L : Nat} {σ : St} {Q : Option AV → AW → Prop} {y0 y1 x2 : Int} {u0 u1 : AV} (h1 : -2147483648 ≤ x2 + 1 ∧ x2 + 1 ≤ 2147483647) : R d 197 36 [u0, u1, vI x2] [vI y0, vI y1] (WS L σ) Q = R d 197 4 [u0, vI (i_or y1 y0), vI (x2 + 1)] [] (WS L σ) Q := K_ior fi_197_36 <| K_istore_n fi_197_37 (Nat.le_of_ble_eq_true rfl) rfl rfl <| K_iincx fi_197_38 rfl (Nat.le_of_ble_eq_true rfl) rfl h1 rfl <| R_goto fi_197_41 rfl
theorem b197_44 {d L : Nat} {σ : St} {Q : Option AV → AW → Prop} {x1 : Int} {u0 u2 : AV} : R d 197 44 [u0, vI x1, u2] [] (WS L σ) Q = Q (some (vI x1)) (WS L σ) := K_iload_n fi_197_44 rfl <| R_ireti fi_197_45 rfl
theorem fi_198_0 : am_find 198 0 = some (.aload_n 0, 1, 0, 0, 0) := by decide +kernel
theorem fi_198_1 : am_find 198 1 = some (.invokevirtual 210, 3, 197, 0, 204) := by decide +kernel
theorem fi_198_4 : am_find 198 4 = some (.istore_n 2, 1, 0, 0, 0) := by decide +kernel
theorem fi_198_5 : am_find 198 5 = some (.aload_n 0, 1, 0, 0, 0) := by decide +kernel
theorem fi_198_6 : am_find 198 6 = some (.iload_n 1, 1, 0, 0, 0) := by decide +kernel
theorem fi_198_7 : am_find 198 7 = some (.invokevirtual 164, 3, 181, 1, 195) := by decide +kernel
theorem fi_198_10 : am_find 198 10 = some (.istore_n 3, 1, 0, 0, 0) := by decide +kernel
theorem fi_198_11 : am_find 198 11 = some (.aload_n 0, 1, 0, 0, 0) := by decide +kernel
theorem fi_198_12 : am_find 198 12 = some (.getfield 7, 3, 10, 1, 101) := by decide +kernel
theorem fi_198_15 : am_find 198 15 = some (.sipush 157, 3, 0, 157, 0) := by decide +kernel
theorem fi_198_18 : am_find 198 18 = some (.iload_n 1, 1, 0, 0, 0) := by decide +kernel
theorem fi_198_19 : am_find 198 19 = some (.iadd, 1, 0, 0, 0) := by decide +kernel
theorem fi_198_20 : am_find 198 20 = some (.iaload, 1, 0, 0, 0) := by decide +kernel
theorem fi_198_21 : am_find 198 21 = some (.tableswitch 175 1 6 #[39, 47, 122, 135, 156, 163], 39, 0, 0, 0) := by decide +kernel
theorem fi_198_60 : am_find 198 60 = some (.aload_n 0, 1, 0, 0, 0) := by decide +kernel
theorem fi_198_61 : am_find 198 61 = some (.iload_n 1, 1, 0, 0, 0) := by decide +kernel
theorem fi_198_62 : am_find 198 62 = some (.iload_n 3, 1, 0, 0, 0) := by decide +kernel
theorem fi_198_63 : am_find 198 63 = some (.iload_n 2, 1, 0, 0, 0) := by decide +kernel
theorem fi_198_64 : am_find 198 64 = some (.invokevirtual 213, 3, 199, 3, 206) := by decide +kernel
theorem fi_198_67 : am_find 198 67 = some (.ireturn, 1, 0, 0, 0) := by decide +kernel
theorem fi_198_68 : am_find 198 68 = some (.aload_n 0, 1, 0, 0, 0) := by decide +kernel
theorem fi_198_69 : am_find 198 69 = some (.aload_n 0, 1, 0, 0, 0) := by decide +kernel
theorem fi_198_70 : am_find 198 70 = some (.getfield 7, 3, 10, 1, 101) := by decide +kernel
theorem fi_198_73 : am_find 198 73 = some (.iconst 4, 1, 0, 4, 0) := by decide +kernel
theorem fi_198_74 : am_find 198 74 = some (.iaload, 1, 0, 0, 0) := by decide +kernel
theorem fi_198_75 : am_find 198 75 = some (.aload_n 0, 1, 0, 0, 0) := by decide +kernel
theorem fi_198_76 : am_find 198 76 = some (.getfield 7, 3, 10, 1, 101) := by decide +kernel
theorem fi_198_79 : am_find 198 79 = some (.iconst 0, 1, 0, 0, 0) := by decide +kernel
theorem fi_198_80 : am_find 198 80 = some (.iaload, 1, 0, 0, 0) := by decide +kernel
theorem fi_198_81 : am_find 198 81 = some (.iload_n 2, 1, 0, 0, 0) := by decide +kernel
theorem fi_198_82 : am_find 198 82 = some (.invokestatic 217, 3, 200, 1, 207) := by decide +kernel
theorem fi_198_85 : am_find 198 85 = some (.isub, 1, 0, 0, 0) := by decide +kernel
theorem fi_198_86 : am_find 198 86 = some (.iconst 1, 1, 0, 1, 0) := by decide +kernel
theorem fi_198_87 : am_find 198 87 = some (.iadd, 1, 0, 0, 0) := by decide +kernel
theorem fi_198_88 : am_find 198 88 = some (.invokevirtual 158, 3, 175, 2, 193) := by decide +kernel
theorem fi_198_91 : am_find 198 91 = some (.istore 4, 2, 0, 0, 0) := by decide +kernel
theorem fi_198_93 : am_find 198 93 = some (.iload 4, 2, 0, 0, 0) := by decide +kernel
theorem fi_198_95 : am_find 198 95 = some (.iload_n 1, 1, 0, 0, 0) := by decide +kernel
theorem fi_198_96 : am_find 198 96 = some (.if_icmp .eq 11, 3, 0, 0, 0) := by decide +kernel
theorem fi_198_99 : am_find 198 99 = some (.iload_n 2, 1, 0, 0, 0) := by decide +kernel
theorem fi_198_100 : am_find 198 100 = some (.invokestatic 217, 3, 200, 1, 207) := by decide +kernel
theorem fi_198_103 : am_find 198 103 = some (.iconst 1, 1, 0, 1, 0) := by decide +kernel
theorem fi_198_104 : am_find 198 104 = some (.if_icmp .ne 7, 3, 0, 0, 0) := by decide +kernel
theorem fi_198_107 : am_find 198 107 = some (.iconst 1, 1, 0, 1, 0) := by decide +kernel
theorem fi_198_108 : am_find 198 108 = some (.goto 4, 3, 0, 0, 0) := by decide +kernel
theorem fi_198_111 : am_find 198 111 = some (.iconst 0, 1, 0, 0, 0) := by decide +kernel
theorem fi_198_112 : am_find 198 112 = some (.istore 5, 2, 0, 0, 0) := by decide +kernel
theorem fi_198_114 : am_find 198 114 = some (.iload 5, 2, 0, 0, 0) := by decide +kernel
theorem fi_198_116 : am_find 198 116 = some (.ifCond .eq 13, 3, 0, 0, 0) := by decide +kernel
theorem fi_198_119 : am_find 198 119 = some (.aload_n 0, 1, 0, 0, 0) := by decide +kernel
theorem fi_198_120 : am_find 198 120 = some (.iload_n 1, 1, 0, 0, 0) := by decide +kernel
theorem fi_198_121 : am_find 198 121 = some (.iload_n 3, 1, 0, 0, 0) := by decide +kernel
theorem fi_198_122 : am_find 198 122 = some (.iload_n 2, 1, 0, 0, 0) := by decide +kernel
theorem fi_198_123 : am_find 198 123 = some (.invokevirtual 213, 3, 199, 3, 206) := by decide +kernel
theorem fi_198_126 : am_find 198 126 = some (.goto 16, 3, 0, 0, 0) := by decide +kernel
theorem fi_198_129 : am_find 198 129 = some (.aload_n 0, 1, 0, 0, 0) := by decide +kernel
theorem fi_198_130 : am_find 198 130 = some (.iload 4, 2, 0, 0, 0) := by decide +kernel
theorem fi_198_132 : am_find 198 132 = some (.aload_n 0, 1, 0, 0, 0) := by decide +kernel
theorem fi_198_133 : am_find 198 133 = some (.iload 4, 2, 0, 0, 0) := by decide +kernel
theorem fi_198_135 : am_find 198 135 = some (.invokevirtual 164, 3, 181, 1, 195) := by decide +kernel
theorem fi_198_138 : am_find 198 138 = some (.iload_n 2, 1, 0, 0, 0) := by decide +kernel
theorem fi_198_139 : am_find 198 139 = some (.invokevirtual 213, 3, 199, 3, 206) := by decide +kernel
theorem fi_198_142 : am_find 198 142 = some (.ireturn, 1, 0, 0, 0) := by decide +kernel
theorem fi_198_143 : am_find 198 143 = some (.aload_n 0, 1, 0, 0, 0) := by decide +kernel
theorem fi_198_144 : am_find 198 144 = some (.iload_n 1, 1, 0, 0, 0) := by decide +kernel
theorem fi_198_145 : am_find 198 145 = some (.iload_n 3, 1, 0, 0, 0) := by decide +kernel
theorem fi_198_146 : am_find 198 146 = some (.aload_n 0, 1, 0, 0, 0) := by decide +kernel
theorem fi_198_147 : am_find 198 147 = some (.iload_n 1, 1, 0, 0, 0) := by decide +kernel
theorem fi_198_148 : am_find 198 148 = some (.iload_n 2, 1, 0, 0, 0) := by decide +kernel
theorem fi_198_149 : am_find 198 149 = some (.invokevirtual 220, 3, 201, 2, 208) := by decide +kernel
theorem fi_198_152 : am_find 198 152 = some (.invokevirtual 213, 3, 199, 3, 206) := by decide +kernel
theorem fi_198_155 : am_find 198 155 = some (.ireturn, 1, 0, 0, 0) := by decide +kernel
theorem fi_198_156 : am_find 198 156 = some (.aload_n 0, 1, 0, 0, 0) := by decide +kernel
theorem fi_198_157 : am_find 198 157 = some (.aload_n 0, 1, 0, 0, 0) := by decide +kernel
theorem fi_198_158 : am_find 198 158 = some (.getfield 7, 3, 10, 1, 101) := by decide +kernel
theorem fi_198_161 : am_find 198 161 = some (.iconst 4, 1, 0, 4, 0) := by decide +kernel
theorem fi_198_162 : am_find 198 162 = some (.iaload, 1, 0, 0, 0) := by decide +kernel
theorem fi_198_163 : am_find 198 163 = some (.iconst 0, 1, 0, 0, 0) := by decide +kernel
theorem fi_198_164 : am_find 198 164 = some (.invokevirtual 197, 3, 185, 2, 198) := by decide +kernel
theorem fi_198_167 : am_find 198 167 = some (.aload_n 0, 1, 0, 0, 0) := by decide +kernel
theorem fi_198_168 : am_find 198 168 = some (.aload_n 0, 1, 0, 0, 0) := by decide +kernel
theorem fi_198_169 : am_find 198 169 = some (.invokevirtual 194, 3, 183, 0, 196) := by decide +kernel
theorem fi_198_172 : am_find 198 172 = some (.iload_n 1, 1, 0, 0, 0) := by decide +kernel
theorem fi_198_173 : am_find 198 173 = some (.invokevirtual 191, 3, 188, 2, 201) := by decide +kernel
theorem fi_198_176 : am_find 198 176 = some (.ireturn, 1, 0, 0, 0) := by decide +kernel
theorem fi_198_177 : am_find 198 177 = some (.aload_n 0, 1, 0, 0, 0) := by decide +kernel
theorem fi_198_178 : am_find 198 178 = some (.iload_n 1, 1, 0, 0, 0) := by decide +kernel
theorem fi_198_179 : am_find 198 179 = some (.iload_n 2, 1, 0, 0, 0) := by decide +kernel
theorem fi_198_180 : am_find 198 180 = some (.invokevirtual 223, 3, 202, 2, 209) := by decide +kernel
theorem fi_198_183 : am_find 198 183 = some (.ireturn, 1, 0, 0, 0) := by decide +kernel
theorem fi_198_184 : am_find 198 184 = some (.aload_n 0, 1, 0, 0, 0) := by decide +kernel
theorem fi_198_185 : am_find 198 185 = some (.iload_n 1, 1, 0, 0, 0) := by decide +kernel
theorem fi_198_186 : am_find 198 186 = some (.iload_n 3, 1, 0, 0, 0) := by decide +kernel
theorem fi_198_187 : am_find 198 187 = some (.aload_n 0, 1, 0, 0, 0) := by decide +kernel
theorem fi_198_188 : am_find 198 188 = some (.iload_n 2, 1, 0, 0, 0) := by decide +kernel
theorem fi_198_189 : am_find 198 189 = some (.invokevirtual 226, 3, 204, 1, 210) := by decide +kernel
theorem fi_198_192 : am_find 198 192 = some (.invokevirtual 213, 3, 199, 3, 206) := by decide +kernel
theorem fi_198_195 : am_find 198 195 = some (.ireturn, 1, 0, 0, 0) := by decide +kernel
theorem fi_198_196 : am_find 198 196 = some (.iload_n 2, 1, 0, 0, 0) := by decide +kernel
theorem fi_198_197 : am_find 198 197 = some (.invokestatic 207, 3, 203, 1, 211) := by decide +kernel
theorem fi_198_200 : am_find 198 200 = some (.ireturn, 1, 0, 0, 0) := by decide +kernel
theorem b198_0 {d L : Nat} {σ : St} {Q : Option AV → AW → Prop} {u1 u2 u3 u4 u5 : AV} : R (d + 1) 198 0 [vR 153, u1, u2, u3, u4, u5] [] (WS L σ) Q = R d 197 0 [vR 153, vX 9, vX 9] [] (WS L σ) (fun r w => R (d + 1) 198 4 [vR 153, u1, u2, u3, u4, u5] (am_push r []) w Q) := K_aload_n fi_198_0 rfl <| R_invV fi_198_1 (am_invV_of rfl (kd_153) (Nat.le_of_ble_eq_true rfl) (Nat.le_of_ble_eq_true rfl) rfl rfl)
theorem b198_4 {d L : Nat} {σ : St} {Q : Option AV → AW → Prop} {y0 x1 : Int} {u2 u3 u4 u5 : AV} : R (d + 1) 198 4 [vR 153, vI x1, u2, u3, u4, u5] [vI y0] (WS L σ) Q = R d 181 0 [vR 153, vI x1, vX 9, vX 9] [] (WS L σ) (fun r w => R (d + 1) 198 10 [vR 153, vI x1, vI y0, u3, u4, u5] (am_push r []) w Q) := K_istore_n fi_198_4 (Nat.le_of_ble_eq_true rfl) rfl rfl <| K_aload_n fi_198_5 rfl <| K_iload_n fi_198_6 rfl <| R_invV fi_198_7 (am_invV_of rfl (kd_153) (Nat.le_of_ble_eq_true rfl) (Nat.le_of_ble_eq_true rfl) rfl rfl)
theorem sw198_10 {d L : Nat} {σ : St} {Q : Option AV → AW → Prop} {x : Int} {ls st : List AV} : R d 198 21 ls (vI x :: st) (WS L σ) Q = if x = 1 then R d 198 60 ls st (WS L σ) Q else if x = 2 then R d 198 68 ls st (WS L σ) Q else if x = 3 then R d 198 143 ls st (WS L σ) Q else if x = 4 then R d 198 156 ls st (WS L σ) Q else if x = 5 then R d 198 177 ls st (WS L σ) Q else if x = 6 then R d 198 184 ls st (WS L σ) Q else R d 198 196 ls st (WS L σ) Q := by
  by_cases h1 : x = 1
  · subst h1; exact (R_tsw (t := 60) fi_198_21 rfl).trans (by simp)
  by_cases h2 : x = 2
  · subst h2; exact (R_tsw (t := 68) fi_198_21 rfl).trans (by simp)
  by_cases h3 : x = 3
  · subst h3; exact (R_tsw (t := 143) fi_198_21 rfl).trans (by simp)
  by_cases h4 : x = 4
  · subst h4; exact (R_tsw (t := 156) fi_198_21 rfl).trans (by simp)
  by_cases h5 : x = 5
  · subst h5; exact (R_tsw (t := 177) fi_198_21 rfl).trans (by simp)
  by_cases h6 : x = 6
  · subst h6; exact (R_tsw (t := 184) fi_198_21 rfl).trans (by simp)
  rw [R_tsw (t := 196) fi_198_21 (by show (if x < 1 ∨ 6 < x then _ else _) = _; rw [if_pos (by omega)]; rfl)]
  rw [if_neg h1, if_neg h2, if_neg h3, if_neg h4, if_neg h5, if_neg h6]
theorem b198_10 {d L : Nat} {σ : St} {Q : Option AV → AW → Prop} {y0 x1 : Int} {u2 u3 u4 u5 : AV} (h1 : -2147483648 ≤ 157 + x1 ∧ 157 + x1 ≤ 2147483647) (h2 : 0 ≤ 157 + x1) (h3 : (157 + x1) < 1580) : R d 198 10 [vR 153, vI x1, u2, u3, u4, u5] [vI y0] (WS L σ) Q = if (σ 154 (157 + x1)) = 1 then R d 198 60 [vR 153, vI x1, u2, vI y0, u4, u5] [] (WS L σ) Q else if (σ 154 (157 + x1)) = 2 then R d 198 68 [vR 153, vI x1, u2, vI y0, u4, u5] [] (WS L σ) Q else if (σ 154 (157 + x1)) = 3 then R d 198 143 [vR 153, vI x1, u2, vI y0, u4, u5] [] (WS L σ) Q else if (σ 154 (157 + x1)) = 4 then R d 198 156 [vR 153, vI x1, u2, vI y0, u4, u5] [] (WS L σ) Q else if (σ 154 (157 + x1)) = 5 then R d 198 177 [vR 153, vI x1, u2, vI y0, u4, u5] [] (WS L σ) Q else if (σ 154 (157 + x1)) = 6 then R d 198 184 [vR 153, vI x1, u2, vI y0, u4, u5] [] (WS L σ) Q else R d 198 196 [vR 153, vI x1, u2, vI y0, u4, u5] [] (WS L σ) Q := K_istore_n fi_198_10 (Nat.le_of_ble_eq_true rfl) rfl rfl <| K_aload_n fi_198_11 rfl <| K_gf fi_198_12 kd_153 mk_153_1 <| K_sipush fi_198_15 <| K_iload_n fi_198_18 rfl <| K_iaddx fi_198_19 h1 <| K_ia fi_198_20 kd_154 h2 h3 <| sw198_10
theorem b198_60 {d L : Nat} {σ : St} {Q : Option AV → AW → Prop} {x1 x3 x2 : Int} {u4 u5 : AV} : R (d + 1) 198 60 [vR 153, vI x1, vI x2, vI x3, u4, u5] [] (WS L σ) Q = R d 199 0 [vR 153, vI x1, vI x3, vI x2, vX 9, vX 9, vX 9, vX 9, vX 9] [] (WS L σ) (fun r w => R (d + 1) 198 67 [vR 153, vI x1, vI x2, vI x3, u4, u5] (am_push r []) w Q) := K_aload_n fi_198_60 rfl <| K_iload_n fi_198_61 rfl <| K_iload_n fi_198_62 rfl <| K_iload_n fi_198_63 rfl <| R_invV fi_198_64 (am_invV_of rfl (kd_153) (Nat.le_of_ble_eq_true rfl) (Nat.le_of_ble_eq_true rfl) rfl rfl)
theorem b198_67 {d L : Nat} {σ : St} {Q : Option AV → AW → Prop} {y0 : Int} {u0 u1 u2 u3 u4 u5 : AV} : R d 198 67 [u0, u1, u2, u3, u4, u5] [vI y0] (WS L σ) Q = Q (some (vI y0)) (WS L σ) := R_ireti fi_198_67 rfl
theorem b198_68 {d L : Nat} {σ : St} {Q : Option AV → AW → Prop} {x2 : Int} {u1 u3 u4 u5 : AV} : R (d + 1) 198 68 [vR 153, u1, vI x2, u3, u4, u5] [] (WS L σ) Q = R d 200 0 [vI x2, vX 9, vX 9] [] (WS L σ) (fun r w => R (d + 1) 198 85 [vR 153, u1, vI x2, u3, u4, u5] (am_push r [vI (σ 154 0), vI (σ 154 4), vR 153]) w Q) := K_aload_n fi_198_68 rfl <| K_aload_n fi_198_69 rfl <| K_gf fi_198_70 kd_153 mk_153_1 <| K_iconst fi_198_73 <| K_ia fi_198_74 kd_154 (by decide) (show (4 : Int) < 1580 by decide) <| K_aload_n fi_198_75 rfl <| K_gf fi_198_76 kd_153 mk_153_1 <| K_iconst fi_198_79 <| K_ia fi_198_80 kd_154 (by decide) (show (0 : Int) < 1580 by decide) <| K_iload_n fi_198_81 rfl <| R_invS fi_198_82 (by decide) (am_invS_of (Nat.le_of_ble_eq_true rfl) rfl (Nat.le_of_ble_eq_true rfl) (Nat.le_of_ble_eq_true rfl) rfl rfl)
theorem b198_85 {d L : Nat} {σ : St} {Q : Option AV → AW → Prop} {y0 y1 y2 : Int} {u0 u1 u2 u3 u4 u5 : AV} (h1 : -2147483648 ≤ y1 - y0 ∧ y1 - y0 ≤ 2147483647) (h2 : -2147483648 ≤ (y1 - y0) + 1 ∧ (y1 - y0) + 1 ≤ 2147483647) : R (d + 1) 198 85 [u0, u1, u2, u3, u4, u5] [vI y0, vI y1, vI y2, vR 153] (WS L σ) Q = R d 175 0 [vR 153, vI y2, vI ((y1 - y0) + 1), vX 9, vX 9, vX 9] [] (WS L σ) (fun r w => R (d + 1) 198 91 [u0, u1, u2, u3, u4, u5] (am_push r []) w Q) := K_isubx fi_198_85 h1 <| K_iconst fi_198_86 <| K_iaddx fi_198_87 h2 <| R_invV fi_198_88 (am_invV_of rfl (kd_153) (Nat.le_of_ble_eq_true rfl) (Nat.le_of_ble_eq_true rfl) rfl rfl)
theorem b198_91 {d L : Nat} {σ : St} {Q : Option AV → AW → Prop} {y0 x1 : Int} {u0 u2 u3 u4 u5 : AV} : R d 198 91 [u0, vI x1, u2, u3, u4, u5] [vI y0] (WS L σ) Q = if y0 = x1 then R d 198 107 [u0, vI x1, u2, u3, vI y0, u5] [] (WS L σ) Q else R d 198 99 [u0, vI x1, u2, u3, vI y0, u5] [] (WS L σ) Q := K_istore fi_198_91 (Nat.le_of_ble_eq_true rfl) rfl rfl <| K_iload fi_198_93 rfl <| K_iload_n fi_198_95 rfl <| R_icmp_eq fi_198_96 rfl
theorem b198_99 {d L : Nat} {σ : St} {Q : Option AV → AW → Prop} {x2 : Int} {u0 u1 u3 u4 u5 : AV} : R (d + 1) 198 99 [u0, u1, vI x2, u3, u4, u5] [] (WS L σ) Q = R d 200 0 [vI x2, vX 9, vX 9] [] (WS L σ) (fun r w => R (d + 1) 198 103 [u0, u1, vI x2, u3, u4, u5] (am_push r []) w Q) := K_iload_n fi_198_99 rfl <| R_invS fi_198_100 (by decide) (am_invS_of (Nat.le_of_ble_eq_true rfl) rfl (Nat.le_of_ble_eq_true rfl) (Nat.le_of_ble_eq_true rfl) rfl rfl)
theorem b198_103 {d L : Nat} {σ : St} {Q : Option AV → AW → Prop} {y0 : Int} {u0 u1 u2 u3 u4 u5 : AV} : R d 198 103 [u0, u1, u2, u3, u4, u5] [vI y0] (WS L σ) Q = if ¬ y0 = 1 then R d 198 111 [u0, u1, u2, u3, u4, u5] [] (WS L σ) Q else R d 198 107 [u0, u1, u2, u3, u4, u5] [] (WS L σ) Q := K_iconst fi_198_103 <| R_icmp_ne fi_198_104 rfl
theorem b198_107 {d L : Nat} {σ : St} {Q : Option AV → AW → Prop} {u0 u1 u2 u3 u4 u5 : AV} : R d 198 107 [u0, u1, u2, u3, u4, u5] [] (WS L σ) Q = R d 198 112 [u0, u1, u2, u3, u4, u5] [vI 1] (WS L σ) Q := K_iconst fi_198_107 <| R_goto fi_198_108 rfl
theorem b198_111 {d L : Nat} {σ : St} {Q : Option AV → AW → Prop} {u0 u1 u2 u3 u4 u5 : AV} : R d 198 111 [u0, u1, u2, u3, u4, u5] [] (WS L σ) Q = R d 198 112 [u0, u1, u2, u3, u4, u5] [vI 0] (WS L σ) Q := K_iconst fi_198_111 <| rfl
theorem b198_112 {d L : Nat} {σ : St} {Q : Option AV → AW → Prop} {y0 : Int} {u0 u1 u2 u3 u4 u5 : AV} : R d 198 112 [u0, u1, u2, u3, u4, u5] [vI y0] (WS L σ) Q = if y0 = 0 then R d 198 129 [u0, u1, u2, u3, u4, vI y0] [] (WS L σ) Q else R d 198 119 [u0, u1, u2, u3, u4, vI y0] [] (WS L σ) Q := K_istore fi_198_112 (Nat.le_of_ble_eq_true rfl) rfl rfl <| K_iload fi_198_114 rfl <| R_if_eq fi_198_116 rfl
theorem b198_119 {d L : Nat} {σ : St} {Q : Option AV → AW → Prop} {x1 x3 x2 : Int} {u4 u5 : AV} : R (d + 1) 198 119 [vR 153, vI x1, vI x2, vI x3, u4, u5] [] (WS L σ) Q = R d 199 0 [vR 153, vI x1, vI x3, vI x2, vX 9, vX 9, vX 9, vX 9, vX 9] [] (WS L σ) (fun r w => R (d + 1) 198 126 [vR 153, vI x1, vI x2, vI x3, u4, u5] (am_push r []) w Q) := K_aload_n fi_198_119 rfl <| K_iload_n fi_198_120 rfl <| K_iload_n fi_198_121 rfl <| K_iload_n fi_198_122 rfl <| R_invV fi_198_123 (am_invV_of rfl (kd_153) (Nat.le_of_ble_eq_true rfl) (Nat.le_of_ble_eq_true rfl) rfl rfl)
theorem b198_126 {d L : Nat} {σ : St} {Q : Option AV → AW → Prop} {y0 : Int} {u0 u1 u2 u3 u4 u5 : AV} : R d 198 126 [u0, u1, u2, u3, u4, u5] [vI y0] (WS L σ) Q = R d 198 142 [u0, u1, u2, u3, u4, u5] [vI y0] (WS L σ) Q := R_goto fi_198_126 rfl
theorem b198_129 {d L : Nat} {σ : St} {Q : Option AV → AW → Prop} {x4 : Int} {u1 u2 u3 u5 : AV} : R (d + 1) 198 129 [vR 153, u1, u2, u3, vI x4, u5] [] (WS L σ) Q = R d 181 0 [vR 153, vI x4, vX 9, vX 9] [] (WS L σ) (fun r w => R (d + 1) 198 138 [vR 153, u1, u2, u3, vI x4, u5] (am_push r [vI x4, vR 153]) w Q) := K_aload_n fi_198_129 rfl <| K_iload fi_198_130 rfl <| K_aload_n fi_198_132 rfl <| K_iload fi_198_133 rfl <| R_invV fi_198_135 (am_invV_of rfl (kd_153) (Nat.le_of_ble_eq_true rfl) (Nat.le_of_ble_eq_true rfl) rfl rfl)
theorem b198_138 {d L : Nat} {σ : St} {Q : Option AV → AW → Prop} {y0 y1 x2 : Int} {u0 u1 u3 u4 u5 : AV} : R (d + 1) 198 138 [u0, u1, vI x2, u3, u4, u5] [vI y0, vI y1, vR 153] (WS L σ) Q = R d 199 0 [vR 153, vI y1, vI y0, vI x2, vX 9, vX 9, vX 9, vX 9, vX 9] [] (WS L σ) (fun r w => R (d + 1) 198 142 [u0, u1, vI x2, u3, u4, u5] (am_push r []) w Q) := K_iload_n fi_198_138 rfl <| R_invV fi_198_139 (am_invV_of rfl (kd_153) (Nat.le_of_ble_eq_true rfl) (Nat.le_of_ble_eq_true rfl) rfl rfl)
theorem b198_142 {d L : Nat} {σ : St} {Q : Option AV → AW → Prop} {y0 : Int} {u0 u1 u2 u3 u4 u5 : AV} : R d 198 142 [u0, u1, u2, u3, u4, u5] [vI y0] (WS L σ) Q = Q (some (vI y0)) (WS L σ) := R_ireti fi_198_142 rfl
theorem b198_143 {d L : Nat} {σ : St} {Q : Option AV → AW → Prop} {x1 x3 x2 : Int} {u4 u5 : AV} : R (d + 1) 198 143 [vR 153, vI x1, vI x2, vI x3, u4, u5] [] (WS L σ) Q = R d 201 0 [vR 153, vI x1, vI x2, vX 9, vX 9] [] (WS L σ) (fun r w => R (d + 1) 198 152 [vR 153, vI x1, vI x2, vI x3, u4, u5] (am_push r [vI x3, vI x1, vR 153]) w Q) := K_aload_n fi_198_143 rfl <| K_iload_n fi_198_144 rfl <| K_iload_n fi_198_145 rfl <| K_aload_n fi_198_146 rfl <| K_iload_n fi_198_147 rfl <| K_iload_n fi_198_148 rfl <| R_invV fi_198_149 (am_invV_of rfl (kd_153) (Nat.le_of_ble_eq_true rfl) (Nat.le_of_ble_eq_true rfl) rfl rfl)
theorem b198_152 {d L : Nat} {σ : St} {Q : Option AV → AW → Prop} {y0 y1 y2 : Int} {u0 u1 u2 u3 u4 u5 : AV} : R (d + 1) 198 152 [u0, u1, u2, u3, u4, u5] [vI y0, vI y1, vI y2, vR 153] (WS L σ) Q = R d 199 0 [vR 153, vI y2, vI y1, vI y0, vX 9, vX 9, vX 9, vX 9, vX 9] [] (WS L σ) (fun r w => R (d + 1) 198 155 [u0, u1, u2, u3, u4, u5] (am_push r []) w Q) := R_invV fi_198_152 (am_invV_of rfl (kd_153) (Nat.le_of_ble_eq_true rfl) (Nat.le_of_ble_eq_true rfl) rfl rfl)
theorem b198_155 {d L : Nat} {σ : St} {Q : Option AV → AW → Prop} {y0 : Int} {u0 u1 u2 u3 u4 u5 : AV} : R d 198 155 [u0, u1, u2, u3, u4, u5] [vI y0] (WS L σ) Q = Q (some (vI y0)) (WS L σ) := R_ireti fi_198_155 rfl
theorem b198_156 {d L : Nat} {σ : St} {Q : Option AV → AW → Prop} {u1 u2 u3 u4 u5 : AV} : R (d + 1) 198 156 [vR 153, u1, u2, u3, u4, u5] [] (WS L σ) Q = R d 185 0 [vR 153, vI (σ 154 4), vI 0, vX 9, vX 9] [] (WS L σ) (fun r w => R (d + 1) 198 167 [vR 153, u1, u2, u3, u4, u5] (am_push r []) w Q) := K_aload_n fi_198_156 rfl <| K_aload_n fi_198_157 rfl <| K_gf fi_198_158 kd_153 mk_153_1 <| K_iconst fi_198_161 <| K_ia fi_198_162 kd_154 (by decide) (show (4 : Int) < 1580 by decide) <| K_iconst fi_198_163 <| R_invV fi_198_164 (am_invV_of rfl (kd_153) (Nat.le_of_ble_eq_true rfl) (Nat.le_of_ble_eq_true rfl) rfl rfl)
theorem b198_167 {d L : Nat} {σ : St} {Q : Option AV → AW → Prop} {u1 u2 u3 u4 u5 : AV} : R (d + 1) 198 167 [vR 153, u1, u2, u3, u4, u5] [] (WS L σ) Q = R d 183 0 [vR 153, vX 9, vX 9] [] (WS L σ) (fun r w => R (d + 1) 198 172 [vR 153, u1, u2, u3, u4, u5] (am_push r [vR 153]) w Q) := K_aload_n fi_198_167 rfl <| K_aload_n fi_198_168 rfl <| R_invV fi_198_169 (am_invV_of rfl (kd_153) (Nat.le_of_ble_eq_true rfl) (Nat.le_of_ble_eq_true rfl) rfl rfl)
theorem b198_172 {d L : Nat} {σ : St} {Q : Option AV → AW → Prop} {y0 x1 : Int} {u0 u2 u3 u4 u5 : AV} : R (d + 1) 198 172 [u0, vI x1, u2, u3, u4, u5] [vI y0, vR 153] (WS L σ) Q = R d 188 0 [vR 153, vI y0, vI x1, vX 9, vX 9, vX 9, vX 9, vX 9, vX 9, vX 9] [] (WS L σ) (fun r w => R (d + 1) 198 176 [u0, vI x1, u2, u3, u4, u5] (am_push r []) w Q) := K_iload_n fi_198_172 rfl <| R_invV fi_198_173 (am_invV_of rfl (kd_153) (Nat.le_of_ble_eq_true rfl) (Nat.le_of_ble_eq_true rfl) rfl rfl)
theorem b198_176 {d L : Nat} {σ : St} {Q : Option AV → AW → Prop} {y0 : Int} {u0 u1 u2 u3 u4 u5 : AV} : R d 198 176 [u0, u1, u2, u3, u4, u5] [vI y0] (WS L σ) Q = Q (some (vI y0)) (WS L σ) := R_ireti fi_198_176 rfl
theorem b198_177 {d L : Nat} {σ : St} {Q : Option AV → AW → Prop} {x1 x2 : Int} {u3 u4 u5 : AV} : R (d + 1) 198 177 [vR 153, vI x1, vI x2, u3, u4, u5] [] (WS L σ) Q = R d 202 0 [vR 153, vI x1, vI x2, vX 9, vX 9] [] (WS L σ) (fun r w => R (d + 1) 198 183 [vR 153, vI x1, vI x2, u3, u4, u5] (am_push r []) w Q) := K_aload_n fi_198_177 rfl <| K_iload_n fi_198_178 rfl <| K_iload_n fi_198_179 rfl <| R_invV fi_198_180 (am_invV_of rfl (kd_153) (Nat.le_of_ble_eq_true rfl) (Nat.le_of_ble_eq_true rfl) rfl rfl)
theorem b198_183 {d L : Nat} {σ : St} {Q : Option AV → AW → Prop} {y0 : Int} {u0 u1 u2 u3 u4 u5 : AV} : R d 198 183 [u0, u1, u2, u3, u4, u5] [vI y0] (WS L σ) Q = Q (some (vI y0)) (WS L σ) := R_ireti fi_198_183 rfl
theorem b198_184 {d L : Nat} {σ : St} {Q : Option AV → AW → Prop} {x1 x3 x2 : Int} {u4 u5 : AV} : R (d + 1) 198 184 [vR 153, vI x1, vI x2, vI x3, u4, u5] [] (WS L σ) Q = R d 204 0 [vR 153, vI x2, vX 9, vX 9, vX 9] [] (WS L σ) (fun r w => R (d + 1) 198 192 [vR 153, vI x1, vI x2, vI x3, u4, u5] (am_push r [vI x3, vI x1, vR 153]) w Q) := K_aload_n fi_198_184 rfl <| K_iload_n fi_198_185 rfl <| K_iload_n fi_198_186 rfl <| K_aload_n fi_198_187 rfl <| K_iload_n fi_198_188 rfl <| R_invV fi_198_189 (am_invV_of rfl (kd_153) (Nat.le_of_ble_eq_true rfl) (Nat.le_of_ble_eq_true rfl) rfl rfl)
theorem b198_192 {d L : Nat} {σ : St} {Q : Option AV → AW → Prop} {y0 y1 y2 : Int} {u0 u1 u2 u3 u4 u5 : AV} : R (d + 1) 198 192 [u0, u1, u2, u3, u4, u5] [vI y0, vI y1, vI y2, vR 153] (WS L σ) Q = R d 199 0 [vR 153, vI y2, vI y1, vI y0, vX 9, vX 9, vX 9, vX 9, vX 9] [] (WS L σ) (fun r w => R (d + 1) 198 195 [u0, u1, u2, u3, u4, u5] (am_push r []) w Q) := R_invV fi_198_192 (am_invV_of rfl (kd_153) (Nat.le_of_ble_eq_true rfl) (Nat.le_of_ble_eq_true rfl) rfl rfl)
theorem b198_195 {d L : Nat} {σ : St} {Q : Option AV → AW → Prop} {y0 : Int} {u0 u1 u2 u3 u4 u5 : AV} : R d 198 195 [u0, u1, u2, u3, u4, u5] [vI y0] (WS L σ) Q = Q (some (vI y0)) (WS L σ) := R_ireti fi_198_195 rfl
theorem b198_196 {d L : Nat} {σ : St} {Q : Option AV → AW → Prop} {x2 : Int} {u0 u1 u3 u4 u5 : AV} : R (d + 1) 198 196 [u0, u1, vI x2, u3, u4, u5] [] (WS L σ) Q = R d 203 0 [vI x2, vX 9] [] (WS L σ) (fun r w => R (d + 1) 198 200 [u0, u1, vI x2, u3, u4, u5] (am_push r []) w Q) := K_iload_n fi_198_196 rfl <| R_invS fi_198_197 (by decide) (am_invS_of (Nat.le_of_ble_eq_true rfl) rfl (Nat.le_of_ble_eq_true rfl) (Nat.le_of_ble_eq_true rfl) rfl rfl)
theorem b198_200 {d L : Nat} {σ : St} {Q : Option AV → AW → Prop} {y0 : Int} {u0 u1 u2 u3 u4 u5 : AV} : R d 198 200 [u0, u1, u2, u3, u4, u5] [vI y0] (WS L σ) Q = Q (some (vI y0)) (WS L σ) := R_ireti fi_198_200 rfl
theorem fi_199_0 : am_find 199 0 = some (.iconst (-1), 1, 0, (-1), 0) := by decide +kernel
theorem fi_199_1 : am_find 199 1 = some (.istore 4, 2, 0, 0, 0) := by decide +kernel
theorem fi_199_3 : am_find 199 3 = some (.iconst 0, 1, 0, 0, 0) := by decide +kernel
theorem fi_199_4 : am_find 199 4 = some (.istore 5, 2, 0, 0, 0) := by decide +kernel
theorem fi_199_6 : am_find 199 6 = some (.iconst 0, 1, 0, 0, 0) := by decide +kernel
theorem fi_199_7 : am_find 199 7 = some (.istore 6, 2, 0, 0, 0) := by decide +kernel
theorem fi_199_9 : am_find 199 9 = some (.iload 6, 2, 0, 0, 0) := by decide +kernel
theorem fi_199_11 : am_find 199 11 = some (.aload_n 0, 1, 0, 0, 0) := by decide +kernel
theorem fi_199_12 : am_find 199 12 = some (.getfield 7, 3, 10, 1, 101) := by decide +kernel
theorem fi_199_15 : am_find 199 15 = some (.iconst 0, 1, 0, 0, 0) := by decide +kernel
theorem fi_199_16 : am_find 199 16 = some (.iaload, 1, 0, 0, 0) := by decide +kernel
theorem fi_199_17 : am_find 199 17 = some (.if_icmp .ge 80, 3, 0, 0, 0) := by decide +kernel
theorem fi_199_20 : am_find 199 20 = some (.iload_n 3, 1, 0, 0, 0) := by decide +kernel
theorem fi_199_21 : am_find 199 21 = some (.iload 6, 2, 0, 0, 0) := by decide +kernel
theorem fi_199_23 : am_find 199 23 = some (.ishr, 1, 0, 0, 0) := by decide +kernel
theorem fi_199_24 : am_find 199 24 = some (.iconst 1, 1, 0, 1, 0) := by decide +kernel
theorem fi_199_25 : am_find 199 25 = some (.iand, 1, 0, 0, 0) := by decide +kernel
theorem fi_199_26 : am_find 199 26 = some (.iconst 1, 1, 0, 1, 0) := by decide +kernel
theorem fi_199_27 : am_find 199 27 = some (.if_icmp .ne 64, 3, 0, 0, 0) := by decide +kernel
theorem fi_199_30 : am_find 199 30 = some (.aload_n 0, 1, 0, 0, 0) := by decide +kernel
theorem fi_199_31 : am_find 199 31 = some (.iload_n 1, 1, 0, 0, 0) := by decide +kernel
theorem fi_199_32 : am_find 199 32 = some (.iload_n 2, 1, 0, 0, 0) := by decide +kernel
theorem fi_199_33 : am_find 199 33 = some (.iconst 1, 1, 0, 1, 0) := by decide +kernel
theorem fi_199_34 : am_find 199 34 = some (.iload 6, 2, 0, 0, 0) := by decide +kernel
theorem fi_199_36 : am_find 199 36 = some (.ishl, 1, 0, 0, 0) := by decide +kernel
theorem fi_199_37 : am_find 199 37 = some (.ior, 1, 0, 0, 0) := by decide +kernel
theorem fi_199_38 : am_find 199 38 = some (.invokevirtual 155, 3, 169, 2, 190) := by decide +kernel
theorem fi_199_41 : am_find 199 41 = some (.istore 7, 2, 0, 0, 0) := by decide +kernel
theorem fi_199_43 : am_find 199 43 = some (.iload 4, 2, 0, 0, 0) := by decide +kernel
theorem fi_199_45 : am_find 199 45 = some (.iconst (-1), 1, 0, (-1), 0) := by decide +kernel
theorem fi_199_46 : am_find 199 46 = some (.if_icmp .eq 10, 3, 0, 0, 0) := by decide +kernel
theorem fi_199_49 : am_find 199 49 = some (.iload 7, 2, 0, 0, 0) := by decide +kernel
theorem fi_199_51 : am_find 199 51 = some (.iload 5, 2, 0, 0, 0) := by decide +kernel
theorem fi_199_53 : am_find 199 53 = some (.if_icmp .le 7, 3, 0, 0, 0) := by decide +kernel
theorem fi_199_56 : am_find 199 56 = some (.iconst 1, 1, 0, 1, 0) := by decide +kernel
theorem fi_199_57 : am_find 199 57 = some (.goto 4, 3, 0, 0, 0) := by decide +kernel
theorem fi_199_60 : am_find 199 60 = some (.iconst 0, 1, 0, 0, 0) := by decide +kernel
theorem fi_199_61 : am_find 199 61 = some (.istore 8, 2, 0, 0, 0) := by decide +kernel
theorem fi_199_63 : am_find 199 63 = some (.iload 8, 2, 0, 0, 0) := by decide +kernel
theorem fi_199_65 : am_find 199 65 = some (.ifCond .eq 8, 3, 0, 0, 0) := by decide +kernel
theorem fi_199_68 : am_find 199 68 = some (.iload 6, 2, 0, 0, 0) := by decide +kernel
theorem fi_199_70 : am_find 199 70 = some (.goto 5, 3, 0, 0, 0) := by decide +kernel
theorem fi_199_73 : am_find 199 73 = some (.iload 4, 2, 0, 0, 0) := by decide +kernel
theorem fi_199_75 : am_find 199 75 = some (.istore 4, 2, 0, 0, 0) := by decide +kernel
theorem fi_199_77 : am_find 199 77 = some (.iload 8, 2, 0, 0, 0) := by decide +kernel
theorem fi_199_79 : am_find 199 79 = some (.ifCond .eq 8, 3, 0, 0, 0) := by decide +kernel
theorem fi_199_82 : am_find 199 82 = some (.iload 7, 2, 0, 0, 0) := by decide +kernel
theorem fi_199_84 : am_find 199 84 = some (.goto 5, 3, 0, 0, 0) := by decide +kernel
theorem fi_199_87 : am_find 199 87 = some (.iload 5, 2, 0, 0, 0) := by decide +kernel
theorem fi_199_89 : am_find 199 89 = some (.istore 5, 2, 0, 0, 0) := by decide +kernel
theorem fi_199_91 : am_find 199 91 = some (.iinc 6 1, 3, 0, 0, 0) := by decide +kernel
theorem fi_199_94 : am_find 199 94 = some (.goto (-85), 3, 0, 0, 0) := by decide +kernel
theorem fi_199_97 : am_find 199 97 = some (.iload 4, 2, 0, 0, 0) := by decide +kernel
theorem fi_199_99 : am_find 199 99 = some (.ireturn, 1, 0, 0, 0) := by decide +kernel
theorem b199_0 {d L : Nat} {σ : St} {Q : Option AV → AW → Prop} {u0 u1 u2 u3 u4 u5 u6 u7 u8 : AV} : R d 199 0 [u0, u1, u2, u3, u4, u5, u6, u7, u8] [] (WS L σ) Q = R d 199 9 [u0, u1, u2, u3, vI (-1), vI 0, vI 0, u7, u8] [] (WS L σ) Q := K_iconst fi_199_0 <| K_istore fi_199_1 (Nat.le_of_ble_eq_true rfl) rfl rfl <| K_iconst fi_199_3 <| K_istore fi_199_4 (Nat.le_of_ble_eq_true rfl) rfl rfl <| K_iconst fi_199_6 <| K_istore fi_199_7 (Nat.le_of_ble_eq_true rfl) rfl rfl <| rfl
theorem b199_9 {d L : Nat} {σ : St} {Q : Option AV → AW → Prop} {x6 : Int} {u1 u2 u3 u4 u5 u7 u8 : AV} : R d 199 9 [vR 153, u1, u2, u3, u4, u5, vI x6, u7, u8] [] (WS L σ) Q = if (σ 154 0) ≤ x6 then R d 199 97 [vR 153, u1, u2, u3, u4, u5, vI x6, u7, u8] [] (WS L σ) Q else R d 199 20 [vR 153, u1, u2, u3, u4, u5, vI x6, u7, u8] [] (WS L σ) Q := K_iload fi_199_9 rfl <| K_aload_n fi_199_11 rfl <| K_gf fi_199_12 kd_153 mk_153_1 <| K_iconst fi_199_15 <| K_ia fi_199_16 kd_154 (by decide) (show (0 : Int) < 1580 by decide) <| R_icmp_ge fi_199_17 rfl
theorem b199_20 {d L : Nat} {σ : St} {Q : Option AV → AW → Prop} {x3 x6 : Int} {u0 u1 u2 u4 u5 u7 u8 : AV} : R d 199 20 [u0, u1, u2, vI x3, u4, u5, vI x6, u7, u8] [] (WS L σ) Q = if ¬ (i_and (i_shr x3 x6) 1) = 1 then R d 199 91 [u0, u1, u2, vI x3, u4, u5, vI x6, u7, u8] [] (WS L σ) Q else R d 199 30 [u0, u1, u2, vI x3, u4, u5, vI x6, u7, u8] [] (WS L σ) Q := K_iload_n fi_199_20 rfl <| K_iload fi_199_21 rfl <| K_ishr fi_199_23 <| K_iconst fi_199_24 <| K_iand fi_199_25 <| K_iconst fi_199_26 <| R_icmp_ne fi_199_27 rfl
theorem b199_30 {d L : Nat} {σ : St} {Q : Option AV → AW → Prop} {x1 x2 x6 : Int} {u3 u4 u5 u7 u8 : AV} : R (d + 1) 199 30 [vR 153, vI x1, vI x2, u3, u4, u5, vI x6, u7, u8] [] (WS L σ) Q = R d 169 0 [vR 153, vI x1, vI (i_or x2 (i_shl 1 x6)), vX 9, vX 9, vX 9, vX 9] [] (WS L σ) (fun r w => R (d + 1) 199 41 [vR 153, vI x1, vI x2, u3, u4, u5, vI x6, u7, u8] (am_push r []) w Q) := K_aload_n fi_199_30 rfl <| K_iload_n fi_199_31 rfl <| K_iload_n fi_199_32 rfl <| K_iconst fi_199_33 <| K_iload fi_199_34 rfl <| K_ishl fi_199_36 <| K_ior fi_199_37 <| R_invV fi_199_38 (am_invV_of rfl (kd_153) (Nat.le_of_ble_eq_true rfl) (Nat.le_of_ble_eq_true rfl) rfl rfl)
theorem b199_41 {d L : Nat} {σ : St} {Q : Option AV → AW → Prop} {y0 x4 : Int} {u0 u1 u2 u3 u5 u6 u7 u8 : AV} : R d 199 41 [u0, u1, u2, u3, vI x4, u5, u6, u7, u8] [vI y0] (WS L σ) Q = if x4 = (-1) then R d 199 56 [u0, u1, u2, u3, vI x4, u5, u6, vI y0, u8] [] (WS L σ) Q else R d 199 49 [u0, u1, u2, u3, vI x4, u5, u6, vI y0, u8] [] (WS L σ) Q := K_istore fi_199_41 (Nat.le_of_ble_eq_true rfl) rfl rfl <| K_iload fi_199_43 rfl <| K_iconst fi_199_45 <| R_icmp_eq fi_199_46 rfl
theorem b199_49 {d L : Nat} {σ : St} {Q : Option AV → AW → Prop} {x7 x5 : Int} {u0 u1 u2 u3 u4 u6 u8 : AV} : R d 199 49 [u0, u1, u2, u3, u4, vI x5, u6, vI x7, u8] [] (WS L σ) Q = if x7 ≤ x5 then R d 199 60 [u0, u1, u2, u3, u4, vI x5, u6, vI x7, u8] [] (WS L σ) Q else R d 199 56 [u0, u1, u2, u3, u4, vI x5, u6, vI x7, u8] [] (WS L σ) Q := K_iload fi_199_49 rfl <| K_iload fi_199_51 rfl <| R_icmp_le fi_199_53 rfl
theorem b199_56 {d L : Nat} {σ : St} {Q : Option AV → AW → Prop} {u0 u1 u2 u3 u4 u5 u6 u7 u8 : AV} : R d 199 56 [u0, u1, u2, u3, u4, u5, u6, u7, u8] [] (WS L σ) Q = R d 199 61 [u0, u1, u2, u3, u4, u5, u6, u7, u8] [vI 1] (WS L σ) Q := K_iconst fi_199_56 <| R_goto fi_199_57 rfl
theorem b199_60 {d L : Nat} {σ : St} {Q : Option AV → AW → Prop} {u0 u1 u2 u3 u4 u5 u6 u7 u8 : AV} : R d 199 60 [u0, u1, u2, u3, u4, u5, u6, u7, u8] [] (WS L σ) Q = R d 199 61 [u0, u1, u2, u3, u4, u5, u6, u7, u8] [vI 0] (WS L σ) Q := K_iconst fi_199_60 <| rfl
theorem b199_61 {d L : Nat} {σ : St} {Q : Option AV → AW → Prop} {y0 : Int} {u0 u1 u2 u3 u4 u5 u6 u7 u8 : AV} : R d 199 61 [u0, u1, u2, u3, u4, u5, u6, u7, u8] [vI y0] (WS L σ) Q = if y0 = 0 then R d 199 73 [u0, u1, u2, u3, u4, u5, u6, u7, vI y0] [] (WS L σ) Q else R d 199 68 [u0, u1, u2, u3, u4, u5, u6, u7, vI y0] [] (WS L σ) Q := K_istore fi_199_61 (Nat.le_of_ble_eq_true rfl) rfl rfl <| K_iload fi_199_63 rfl <| R_if_eq fi_199_65 rfl
theorem b199_68 {d L : Nat} {σ : St} {Q : Option AV → AW → Prop} {x6 : Int} {u0 u1 u2 u3 u4 u5 u7 u8 : AV} : R d 199 68 [u0, u1, u2, u3, u4, u5, vI x6, u7, u8] [] (WS L σ) Q = R d 199 75 [u0, u1, u2, u3, u4, u5, vI x6, u7, u8] [vI x6] (WS L σ) Q := K_iload fi_199_68 rfl <| R_goto fi_199_70 rfl
theorem b199_73 {d L : Nat} {σ : St} {Q : Option AV → AW → Prop} {x4 : Int} {u0 u1 u2 u3 u5 u6 u7 u8 : AV} : R d 199 73 [u0, u1, u2, u3, vI x4, u5, u6, u7, u8] [] (WS L σ) Q = R d 199 75 [u0, u1, u2, u3, vI x4, u5, u6, u7, u8] [vI x4] (WS L σ) Q := K_iload fi_199_73 rfl <| rfl
theorem b199_75 {d L : Nat} {σ : St} {Q : Option AV → AW → Prop} {y0 x8 : Int} {u0 u1 u2 u3 u4 u5 u6 u7 : AV} : R d 199 75 [u0, u1, u2, u3, u4, u5, u6, u7, vI x8] [vI y0] (WS L σ) Q = if x8 = 0 then R d 199 87 [u0, u1, u2, u3, vI y0, u5, u6, u7, vI x8] [] (WS L σ) Q else R d 199 82 [u0, u1, u2, u3, vI y0, u5, u6, u7, vI x8] [] (WS L σ) Q := K_istore fi_199_75 (Nat.le_of_ble_eq_true rfl) rfl rfl <| K_iload fi_199_77 rfl <| R_if_eq fi_199_79 rfl
theorem b199_82 {d L : Nat} {σ : St} {Q : Option AV → AW → Prop} {x7 : Int} {u0 u1 u2 u3 u4 u5 u6 u8 : AV} : R d 199 82 [u0, u1, u2, u3, u4, u5, u6, vI x7, u8] [] (WS L σ) Q = R d 199 89 [u0, u1, u2, u3, u4, u5, u6, vI x7, u8] [vI x7] (WS L σ) Q := K_iload fi_199_82 rfl <| R_goto fi_199_84 rfl
theorem b199_87 {d L : Nat} {σ : St} {Q : Option AV → AW → Prop} {x5 : Int} {u0 u1 u2 u3 u4 u6 u7 u8 : AV} : R d 199 87 [u0, u1, u2, u3, u4, vI x5, u6, u7, u8] [] (WS L σ) Q = R d 199 89 [u0, u1, u2, u3, u4, vI x5, u6, u7, u8] [vI x5] (WS L σ) Q := K_iload fi_199_87 rfl <| rfl
theorem b199_89 {d L : Nat} {σ : St} {Q : Option AV → AW → Prop} {y0 : Int} {u0 u1 u2 u3 u4 u5 u6 u7 u8 : AV} : R d 199 89 [u0, u1, u2, u3, u4, u5, u6, u7, u8] [vI y0] (WS L σ) Q = R d 199 91 [u0, u1, u2, u3, u4, vI y0, u6, u7, u8] [] (WS L σ) Q := K_istore fi_199_89 (Nat.le_of_ble_eq_true rfl) rfl rfl <| rfl
theorem b199_91 {d L : Nat} {σ : St} {Q : Option AV → AW → Prop} {x6 : Int} {u0 u1 u2 u3 u4 u5 u7 u8 : AV} (h1 : -2147483648 ≤ x6 + 1 ∧ x6 + 1 ≤ 2147483647) : R d 199 91 [u0, u1, u2, u3, u4, u5, vI x6, u7, u8] [] (WS L σ) Q = R d 199 9 [u0, u1, u2, u3, u4, u5, vI (x6 + 1), u7, u8] [] (WS L σ) Q := K_iincx fi_199_91 rfl (Nat.le_of_ble_eq_true rfl) rfl h1 rfl <| R_goto fi_199_94 rfl
theorem b199_97 {d L : Nat} {σ : St} {Q : Option AV → AW → Prop} {x4 : Int} {u0 u1 u2 u3 u5 u6 u7 u8 : AV} : R d 199 97 [u0, u1, u2, u3, vI x4, u5, u6, u7, u8] [] (WS L σ) Q = Q (some (vI x4)) (WS L σ) := K_iload fi_199_97 rfl <| R_ireti fi_199_99 rfl
