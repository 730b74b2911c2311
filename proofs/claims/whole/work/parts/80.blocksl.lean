/-! block lemmas of the law (printed by wip/whole/gen_law.py) -/
theorem kd_0 : KD 0 = 110 := rfl
theorem fi_231_0 : am_find 231 0 = some (.new 7, 3, 9, 0, 90) := by decide +kernel
theorem fi_231_3 : am_find 231 3 = some (.dup, 1, 0, 0, 0) := by decide +kernel
theorem fi_231_4 : am_find 231 4 = some (.invokespecial 9, 3, 0, 0, 224) := by decide +kernel
theorem fi_231_7 : am_find 231 7 = some (.astore_n 1, 1, 0, 0, 0) := by decide +kernel
theorem fi_231_8 : am_find 231 8 = some (.new 10, 3, 10, 0, 1034) := by decide +kernel
theorem fi_231_11 : am_find 231 11 = some (.dup, 1, 0, 0, 0) := by decide +kernel
theorem fi_231_12 : am_find 231 12 = some (.invokespecial 12, 3, 143, 0, 225) := by decide +kernel
theorem fi_231_15 : am_find 231 15 = some (.astore_n 2, 1, 0, 0, 0) := by decide +kernel
theorem fi_231_16 : am_find 231 16 = some (.iconst 0, 1, 0, 0, 0) := by decide +kernel
theorem fi_231_17 : am_find 231 17 = some (.istore_n 3, 1, 0, 0, 0) := by decide +kernel
theorem fi_231_18 : am_find 231 18 = some (.iload_n 3, 1, 0, 0, 0) := by decide +kernel
theorem fi_231_19 : am_find 231 19 = some (.aload_n 0, 1, 0, 0, 0) := by decide +kernel
theorem fi_231_20 : am_find 231 20 = some (.arraylength, 1, 0, 0, 0) := by decide +kernel
theorem fi_231_21 : am_find 231 21 = some (.iconst 4, 1, 0, 4, 0) := by decide +kernel
theorem fi_231_22 : am_find 231 22 = some (.isub, 1, 0, 0, 0) := by decide +kernel
theorem fi_231_23 : am_find 231 23 = some (.if_icmp .gt 1172, 3, 0, 0, 0) := by decide +kernel
theorem fi_231_26 : am_find 231 26 = some (.aload_n 0, 1, 0, 0, 0) := by decide +kernel
theorem fi_231_27 : am_find 231 27 = some (.iload_n 3, 1, 0, 0, 0) := by decide +kernel
theorem fi_231_28 : am_find 231 28 = some (.iaload, 1, 0, 0, 0) := by decide +kernel
theorem fi_231_29 : am_find 231 29 = some (.bipush 63, 2, 0, 63, 0) := by decide +kernel
theorem fi_231_31 : am_find 231 31 = some (.iand, 1, 0, 0, 0) := by decide +kernel
theorem fi_231_32 : am_find 231 32 = some (.tableswitch 1157 0 34 #[156, 199, 232, 255, 318, 331, 364, 397, 420, 443, 466, 499, 532, 565, 588, 611, 650, 663, 686, 709, 732, 755, 768, 791, 834, 877, 910, 953, 986, 1009, 1052, 1075, 1108, 1121, 1134], 156, 0, 0, 0) := by decide +kernel
theorem fi_231_188 : am_find 231 188 = some (.aload_n 1, 1, 0, 0, 0) := by decide +kernel
theorem fi_231_189 : am_find 231 189 = some (.aload_n 0, 1, 0, 0, 0) := by decide +kernel
theorem fi_231_190 : am_find 231 190 = some (.iload_n 3, 1, 0, 0, 0) := by decide +kernel
theorem fi_231_191 : am_find 231 191 = some (.iconst 1, 1, 0, 1, 0) := by decide +kernel
theorem fi_231_192 : am_find 231 192 = some (.iadd, 1, 0, 0, 0) := by decide +kernel
theorem fi_231_193 : am_find 231 193 = some (.iaload, 1, 0, 0, 0) := by decide +kernel
theorem fi_231_194 : am_find 231 194 = some (.aload_n 0, 1, 0, 0, 0) := by decide +kernel
theorem fi_231_195 : am_find 231 195 = some (.iload_n 3, 1, 0, 0, 0) := by decide +kernel
theorem fi_231_196 : am_find 231 196 = some (.iconst 2, 1, 0, 2, 0) := by decide +kernel
theorem fi_231_197 : am_find 231 197 = some (.iadd, 1, 0, 0, 0) := by decide +kernel
theorem fi_231_198 : am_find 231 198 = some (.iaload, 1, 0, 0, 0) := by decide +kernel
theorem fi_231_199 : am_find 231 199 = some (.aload_n 0, 1, 0, 0, 0) := by decide +kernel
theorem fi_231_200 : am_find 231 200 = some (.iload_n 3, 1, 0, 0, 0) := by decide +kernel
theorem fi_231_201 : am_find 231 201 = some (.iconst 3, 1, 0, 3, 0) := by decide +kernel
theorem fi_231_202 : am_find 231 202 = some (.iadd, 1, 0, 0, 0) := by decide +kernel
theorem fi_231_203 : am_find 231 203 = some (.iaload, 1, 0, 0, 0) := by decide +kernel
theorem fi_231_204 : am_find 231 204 = some (.invokevirtual 13, 3, 12, 3, 226) := by decide +kernel
theorem fi_231_207 : am_find 231 207 = some (.aload_n 2, 1, 0, 0, 0) := by decide +kernel
theorem fi_231_208 : am_find 231 208 = some (.aload_n 0, 1, 0, 0, 0) := by decide +kernel
theorem fi_231_209 : am_find 231 209 = some (.iload_n 3, 1, 0, 0, 0) := by decide +kernel
theorem fi_231_210 : am_find 231 210 = some (.iconst 1, 1, 0, 1, 0) := by decide +kernel
theorem fi_231_211 : am_find 231 211 = some (.iadd, 1, 0, 0, 0) := by decide +kernel
theorem fi_231_212 : am_find 231 212 = some (.iaload, 1, 0, 0, 0) := by decide +kernel
theorem fi_231_213 : am_find 231 213 = some (.aload_n 0, 1, 0, 0, 0) := by decide +kernel
theorem fi_231_214 : am_find 231 214 = some (.iload_n 3, 1, 0, 0, 0) := by decide +kernel
theorem fi_231_215 : am_find 231 215 = some (.iconst 2, 1, 0, 2, 0) := by decide +kernel
theorem fi_231_216 : am_find 231 216 = some (.iadd, 1, 0, 0, 0) := by decide +kernel
theorem fi_231_217 : am_find 231 217 = some (.iaload, 1, 0, 0, 0) := by decide +kernel
theorem fi_231_218 : am_find 231 218 = some (.aload_n 0, 1, 0, 0, 0) := by decide +kernel
theorem fi_231_219 : am_find 231 219 = some (.iload_n 3, 1, 0, 0, 0) := by decide +kernel
theorem fi_231_220 : am_find 231 220 = some (.iconst 3, 1, 0, 3, 0) := by decide +kernel
theorem fi_231_221 : am_find 231 221 = some (.iadd, 1, 0, 0, 0) := by decide +kernel
theorem fi_231_222 : am_find 231 222 = some (.iaload, 1, 0, 0, 0) := by decide +kernel
theorem fi_231_223 : am_find 231 223 = some (.invokevirtual 17, 3, 144, 3, 227) := by decide +kernel
theorem fi_231_226 : am_find 231 226 = some (.if_icmp .eq 963, 3, 0, 0, 0) := by decide +kernel
theorem fi_231_229 : am_find 231 229 = some (.iconst 0, 1, 0, 0, 0) := by decide +kernel
theorem fi_231_230 : am_find 231 230 = some (.ireturn, 1, 1, 0, 0) := by decide +kernel
theorem fi_231_231 : am_find 231 231 = some (.aload_n 1, 1, 0, 0, 0) := by decide +kernel
theorem fi_231_232 : am_find 231 232 = some (.aload_n 0, 1, 0, 0, 0) := by decide +kernel
theorem fi_231_233 : am_find 231 233 = some (.iload_n 3, 1, 0, 0, 0) := by decide +kernel
theorem fi_231_234 : am_find 231 234 = some (.iconst 1, 1, 0, 1, 0) := by decide +kernel
theorem fi_231_235 : am_find 231 235 = some (.iadd, 1, 0, 0, 0) := by decide +kernel
theorem fi_231_236 : am_find 231 236 = some (.iaload, 1, 0, 0, 0) := by decide +kernel
theorem fi_231_237 : am_find 231 237 = some (.aload_n 0, 1, 0, 0, 0) := by decide +kernel
theorem fi_231_238 : am_find 231 238 = some (.iload_n 3, 1, 0, 0, 0) := by decide +kernel
theorem fi_231_239 : am_find 231 239 = some (.iconst 2, 1, 0, 2, 0) := by decide +kernel
theorem fi_231_240 : am_find 231 240 = some (.iadd, 1, 0, 0, 0) := by decide +kernel
theorem fi_231_241 : am_find 231 241 = some (.iaload, 1, 0, 0, 0) := by decide +kernel
theorem fi_231_242 : am_find 231 242 = some (.invokevirtual 18, 3, 44, 2, 228) := by decide +kernel
theorem fi_231_245 : am_find 231 245 = some (.aload_n 2, 1, 0, 0, 0) := by decide +kernel
theorem fi_231_246 : am_find 231 246 = some (.aload_n 0, 1, 0, 0, 0) := by decide +kernel
theorem fi_231_247 : am_find 231 247 = some (.iload_n 3, 1, 0, 0, 0) := by decide +kernel
theorem fi_231_248 : am_find 231 248 = some (.iconst 1, 1, 0, 1, 0) := by decide +kernel
theorem fi_231_249 : am_find 231 249 = some (.iadd, 1, 0, 0, 0) := by decide +kernel
theorem fi_231_250 : am_find 231 250 = some (.iaload, 1, 0, 0, 0) := by decide +kernel
theorem fi_231_251 : am_find 231 251 = some (.aload_n 0, 1, 0, 0, 0) := by decide +kernel
theorem fi_231_252 : am_find 231 252 = some (.iload_n 3, 1, 0, 0, 0) := by decide +kernel
theorem fi_231_253 : am_find 231 253 = some (.iconst 2, 1, 0, 2, 0) := by decide +kernel
theorem fi_231_254 : am_find 231 254 = some (.iadd, 1, 0, 0, 0) := by decide +kernel
theorem fi_231_255 : am_find 231 255 = some (.iaload, 1, 0, 0, 0) := by decide +kernel
theorem fi_231_256 : am_find 231 256 = some (.invokevirtual 22, 3, 146, 2, 229) := by decide +kernel
theorem fi_231_259 : am_find 231 259 = some (.if_icmp .eq 930, 3, 0, 0, 0) := by decide +kernel
theorem fi_231_262 : am_find 231 262 = some (.iconst 0, 1, 0, 0, 0) := by decide +kernel
theorem fi_231_263 : am_find 231 263 = some (.ireturn, 1, 1, 0, 0) := by decide +kernel
theorem fi_231_264 : am_find 231 264 = some (.aload_n 1, 1, 0, 0, 0) := by decide +kernel
theorem fi_231_265 : am_find 231 265 = some (.aload_n 0, 1, 0, 0, 0) := by decide +kernel
theorem fi_231_266 : am_find 231 266 = some (.iload_n 3, 1, 0, 0, 0) := by decide +kernel
theorem fi_231_267 : am_find 231 267 = some (.iconst 1, 1, 0, 1, 0) := by decide +kernel
theorem fi_231_268 : am_find 231 268 = some (.iadd, 1, 0, 0, 0) := by decide +kernel
theorem fi_231_269 : am_find 231 269 = some (.iaload, 1, 0, 0, 0) := by decide +kernel
theorem fi_231_270 : am_find 231 270 = some (.invokevirtual 23, 3, 45, 1, 230) := by decide +kernel
theorem fi_231_273 : am_find 231 273 = some (.aload_n 2, 1, 0, 0, 0) := by decide +kernel
theorem fi_231_274 : am_find 231 274 = some (.aload_n 0, 1, 0, 0, 0) := by decide +kernel
theorem fi_231_275 : am_find 231 275 = some (.iload_n 3, 1, 0, 0, 0) := by decide +kernel
theorem fi_231_276 : am_find 231 276 = some (.iconst 1, 1, 0, 1, 0) := by decide +kernel
theorem fi_231_277 : am_find 231 277 = some (.iadd, 1, 0, 0, 0) := by decide +kernel
theorem fi_231_278 : am_find 231 278 = some (.iaload, 1, 0, 0, 0) := by decide +kernel
theorem fi_231_279 : am_find 231 279 = some (.invokevirtual 27, 3, 148, 1, 231) := by decide +kernel
theorem fi_231_282 : am_find 231 282 = some (.if_icmp .eq 907, 3, 0, 0, 0) := by decide +kernel
theorem fi_231_285 : am_find 231 285 = some (.iconst 0, 1, 0, 0, 0) := by decide +kernel
theorem fi_231_286 : am_find 231 286 = some (.ireturn, 1, 1, 0, 0) := by decide +kernel
theorem fi_231_287 : am_find 231 287 = some (.aload_n 1, 1, 0, 0, 0) := by decide +kernel
theorem fi_231_288 : am_find 231 288 = some (.aload_n 0, 1, 0, 0, 0) := by decide +kernel
theorem fi_231_289 : am_find 231 289 = some (.iload_n 3, 1, 0, 0, 0) := by decide +kernel
theorem fi_231_290 : am_find 231 290 = some (.iconst 1, 1, 0, 1, 0) := by decide +kernel
theorem fi_231_291 : am_find 231 291 = some (.iadd, 1, 0, 0, 0) := by decide +kernel
theorem fi_231_292 : am_find 231 292 = some (.iaload, 1, 0, 0, 0) := by decide +kernel
theorem fi_231_293 : am_find 231 293 = some (.i2l, 1, 0, 0, 0) := by decide +kernel
theorem fi_231_294 : am_find 231 294 = some (.bipush 32, 2, 0, 32, 0) := by decide +kernel
theorem fi_231_296 : am_find 231 296 = some (.lshl, 1, 0, 0, 0) := by decide +kernel
theorem fi_231_297 : am_find 231 297 = some (.aload_n 0, 1, 0, 0, 0) := by decide +kernel
theorem fi_231_298 : am_find 231 298 = some (.iload_n 3, 1, 0, 0, 0) := by decide +kernel
theorem fi_231_299 : am_find 231 299 = some (.iconst 2, 1, 0, 2, 0) := by decide +kernel
theorem fi_231_300 : am_find 231 300 = some (.iadd, 1, 0, 0, 0) := by decide +kernel
theorem fi_231_301 : am_find 231 301 = some (.iaload, 1, 0, 0, 0) := by decide +kernel
theorem fi_231_302 : am_find 231 302 = some (.i2l, 1, 0, 0, 0) := by decide +kernel
theorem fi_231_303 : am_find 231 303 = some (.ldc2_w 28, 3, 0, 4294967295, 1478) := by decide +kernel
theorem fi_231_306 : am_find 231 306 = some (.land, 1, 0, 0, 0) := by decide +kernel
theorem fi_231_307 : am_find 231 307 = some (.lor, 1, 0, 0, 0) := by decide +kernel
theorem fi_231_308 : am_find 231 308 = some (.aload_n 0, 1, 0, 0, 0) := by decide +kernel
theorem fi_231_309 : am_find 231 309 = some (.iload_n 3, 1, 0, 0, 0) := by decide +kernel
theorem fi_231_310 : am_find 231 310 = some (.iconst 3, 1, 0, 3, 0) := by decide +kernel
theorem fi_231_311 : am_find 231 311 = some (.iadd, 1, 0, 0, 0) := by decide +kernel
theorem fi_231_312 : am_find 231 312 = some (.iaload, 1, 0, 0, 0) := by decide +kernel
theorem fi_231_313 : am_find 231 313 = some (.invokevirtual 30, 3, 47, 2, 232) := by decide +kernel
theorem fi_231_316 : am_find 231 316 = some (.aload_n 2, 1, 0, 0, 0) := by decide +kernel
theorem fi_231_317 : am_find 231 317 = some (.aload_n 0, 1, 0, 0, 0) := by decide +kernel
theorem fi_231_318 : am_find 231 318 = some (.iload_n 3, 1, 0, 0, 0) := by decide +kernel
theorem fi_231_319 : am_find 231 319 = some (.iconst 1, 1, 0, 1, 0) := by decide +kernel
theorem fi_231_320 : am_find 231 320 = some (.iadd, 1, 0, 0, 0) := by decide +kernel
theorem fi_231_321 : am_find 231 321 = some (.iaload, 1, 0, 0, 0) := by decide +kernel
theorem fi_231_322 : am_find 231 322 = some (.i2l, 1, 0, 0, 0) := by decide +kernel
theorem fi_231_323 : am_find 231 323 = some (.bipush 32, 2, 0, 32, 0) := by decide +kernel
theorem fi_231_325 : am_find 231 325 = some (.lshl, 1, 0, 0, 0) := by decide +kernel
theorem fi_231_326 : am_find 231 326 = some (.aload_n 0, 1, 0, 0, 0) := by decide +kernel
theorem fi_231_327 : am_find 231 327 = some (.iload_n 3, 1, 0, 0, 0) := by decide +kernel
theorem fi_231_328 : am_find 231 328 = some (.iconst 2, 1, 0, 2, 0) := by decide +kernel
theorem fi_231_329 : am_find 231 329 = some (.iadd, 1, 0, 0, 0) := by decide +kernel
theorem fi_231_330 : am_find 231 330 = some (.iaload, 1, 0, 0, 0) := by decide +kernel
theorem fi_231_331 : am_find 231 331 = some (.i2l, 1, 0, 0, 0) := by decide +kernel
theorem fi_231_332 : am_find 231 332 = some (.ldc2_w 28, 3, 0, 4294967295, 1478) := by decide +kernel
theorem fi_231_335 : am_find 231 335 = some (.land, 1, 0, 0, 0) := by decide +kernel
theorem fi_231_336 : am_find 231 336 = some (.lor, 1, 0, 0, 0) := by decide +kernel
theorem fi_231_337 : am_find 231 337 = some (.aload_n 0, 1, 0, 0, 0) := by decide +kernel
theorem fi_231_338 : am_find 231 338 = some (.iload_n 3, 1, 0, 0, 0) := by decide +kernel
theorem fi_231_339 : am_find 231 339 = some (.iconst 3, 1, 0, 3, 0) := by decide +kernel
theorem fi_231_340 : am_find 231 340 = some (.iadd, 1, 0, 0, 0) := by decide +kernel
theorem fi_231_341 : am_find 231 341 = some (.iaload, 1, 0, 0, 0) := by decide +kernel
theorem fi_231_342 : am_find 231 342 = some (.invokevirtual 34, 3, 150, 2, 233) := by decide +kernel
theorem fi_231_345 : am_find 231 345 = some (.if_icmp .eq 844, 3, 0, 0, 0) := by decide +kernel
theorem fi_231_348 : am_find 231 348 = some (.iconst 0, 1, 0, 0, 0) := by decide +kernel
theorem fi_231_349 : am_find 231 349 = some (.ireturn, 1, 1, 0, 0) := by decide +kernel
theorem fi_231_350 : am_find 231 350 = some (.aload_n 1, 1, 0, 0, 0) := by decide +kernel
theorem fi_231_351 : am_find 231 351 = some (.invokevirtual 35, 3, 49, 0, 234) := by decide +kernel
theorem fi_231_354 : am_find 231 354 = some (.aload_n 2, 1, 0, 0, 0) := by decide +kernel
theorem fi_231_355 : am_find 231 355 = some (.invokevirtual 39, 3, 151, 0, 235) := by decide +kernel
theorem fi_231_358 : am_find 231 358 = some (.if_icmp .eq 831, 3, 0, 0, 0) := by decide +kernel
theorem fi_231_361 : am_find 231 361 = some (.iconst 0, 1, 0, 0, 0) := by decide +kernel
theorem fi_231_362 : am_find 231 362 = some (.ireturn, 1, 1, 0, 0) := by decide +kernel
theorem fi_231_363 : am_find 231 363 = some (.aload_n 1, 1, 0, 0, 0) := by decide +kernel
theorem fi_231_364 : am_find 231 364 = some (.aload_n 0, 1, 0, 0, 0) := by decide +kernel
theorem fi_231_365 : am_find 231 365 = some (.iload_n 3, 1, 0, 0, 0) := by decide +kernel
theorem fi_231_366 : am_find 231 366 = some (.iconst 1, 1, 0, 1, 0) := by decide +kernel
theorem fi_231_367 : am_find 231 367 = some (.iadd, 1, 0, 0, 0) := by decide +kernel
theorem fi_231_368 : am_find 231 368 = some (.iaload, 1, 0, 0, 0) := by decide +kernel
theorem fi_231_369 : am_find 231 369 = some (.aload_n 0, 1, 0, 0, 0) := by decide +kernel
theorem fi_231_370 : am_find 231 370 = some (.iload_n 3, 1, 0, 0, 0) := by decide +kernel
theorem fi_231_371 : am_find 231 371 = some (.iconst 2, 1, 0, 2, 0) := by decide +kernel
theorem fi_231_372 : am_find 231 372 = some (.iadd, 1, 0, 0, 0) := by decide +kernel
theorem fi_231_373 : am_find 231 373 = some (.iaload, 1, 0, 0, 0) := by decide +kernel
theorem fi_231_374 : am_find 231 374 = some (.invokevirtual 40, 3, 54, 2, 236) := by decide +kernel
theorem fi_231_377 : am_find 231 377 = some (.aload_n 2, 1, 0, 0, 0) := by decide +kernel
theorem fi_231_378 : am_find 231 378 = some (.aload_n 0, 1, 0, 0, 0) := by decide +kernel
theorem fi_231_379 : am_find 231 379 = some (.iload_n 3, 1, 0, 0, 0) := by decide +kernel
theorem fi_231_380 : am_find 231 380 = some (.iconst 1, 1, 0, 1, 0) := by decide +kernel
theorem fi_231_381 : am_find 231 381 = some (.iadd, 1, 0, 0, 0) := by decide +kernel
theorem fi_231_382 : am_find 231 382 = some (.iaload, 1, 0, 0, 0) := by decide +kernel
theorem fi_231_383 : am_find 231 383 = some (.aload_n 0, 1, 0, 0, 0) := by decide +kernel
theorem fi_231_384 : am_find 231 384 = some (.iload_n 3, 1, 0, 0, 0) := by decide +kernel
theorem fi_231_385 : am_find 231 385 = some (.iconst 2, 1, 0, 2, 0) := by decide +kernel
theorem fi_231_386 : am_find 231 386 = some (.iadd, 1, 0, 0, 0) := by decide +kernel
theorem fi_231_387 : am_find 231 387 = some (.iaload, 1, 0, 0, 0) := by decide +kernel
theorem fi_231_388 : am_find 231 388 = some (.invokevirtual 43, 3, 166, 2, 237) := by decide +kernel
theorem fi_231_391 : am_find 231 391 = some (.if_icmp .eq 798, 3, 0, 0, 0) := by decide +kernel
theorem fi_231_394 : am_find 231 394 = some (.iconst 0, 1, 0, 0, 0) := by decide +kernel
theorem fi_231_395 : am_find 231 395 = some (.ireturn, 1, 1, 0, 0) := by decide +kernel
theorem fi_231_396 : am_find 231 396 = some (.aload_n 1, 1, 0, 0, 0) := by decide +kernel
theorem fi_231_397 : am_find 231 397 = some (.aload_n 0, 1, 0, 0, 0) := by decide +kernel
theorem fi_231_398 : am_find 231 398 = some (.iload_n 3, 1, 0, 0, 0) := by decide +kernel
theorem fi_231_399 : am_find 231 399 = some (.iconst 1, 1, 0, 1, 0) := by decide +kernel
theorem fi_231_400 : am_find 231 400 = some (.iadd, 1, 0, 0, 0) := by decide +kernel
theorem fi_231_401 : am_find 231 401 = some (.iaload, 1, 0, 0, 0) := by decide +kernel
theorem fi_231_402 : am_find 231 402 = some (.aload_n 0, 1, 0, 0, 0) := by decide +kernel
theorem fi_231_403 : am_find 231 403 = some (.iload_n 3, 1, 0, 0, 0) := by decide +kernel
theorem fi_231_404 : am_find 231 404 = some (.iconst 2, 1, 0, 2, 0) := by decide +kernel
theorem fi_231_405 : am_find 231 405 = some (.iadd, 1, 0, 0, 0) := by decide +kernel
theorem fi_231_406 : am_find 231 406 = some (.iaload, 1, 0, 0, 0) := by decide +kernel
theorem fi_231_407 : am_find 231 407 = some (.invokevirtual 44, 3, 56, 2, 238) := by decide +kernel
theorem fi_231_410 : am_find 231 410 = some (.aload_n 2, 1, 0, 0, 0) := by decide +kernel
theorem fi_231_411 : am_find 231 411 = some (.aload_n 0, 1, 0, 0, 0) := by decide +kernel
theorem fi_231_412 : am_find 231 412 = some (.iload_n 3, 1, 0, 0, 0) := by decide +kernel
theorem fi_231_413 : am_find 231 413 = some (.iconst 1, 1, 0, 1, 0) := by decide +kernel
theorem fi_231_414 : am_find 231 414 = some (.iadd, 1, 0, 0, 0) := by decide +kernel
theorem fi_231_415 : am_find 231 415 = some (.iaload, 1, 0, 0, 0) := by decide +kernel
theorem fi_231_416 : am_find 231 416 = some (.aload_n 0, 1, 0, 0, 0) := by decide +kernel
theorem fi_231_417 : am_find 231 417 = some (.iload_n 3, 1, 0, 0, 0) := by decide +kernel
theorem fi_231_418 : am_find 231 418 = some (.iconst 2, 1, 0, 2, 0) := by decide +kernel
theorem fi_231_419 : am_find 231 419 = some (.iadd, 1, 0, 0, 0) := by decide +kernel
theorem fi_231_420 : am_find 231 420 = some (.iaload, 1, 0, 0, 0) := by decide +kernel
theorem fi_231_421 : am_find 231 421 = some (.invokevirtual 47, 3, 168, 2, 239) := by decide +kernel
theorem fi_231_424 : am_find 231 424 = some (.if_icmp .eq 765, 3, 0, 0, 0) := by decide +kernel
theorem fi_231_427 : am_find 231 427 = some (.iconst 0, 1, 0, 0, 0) := by decide +kernel
theorem fi_231_428 : am_find 231 428 = some (.ireturn, 1, 1, 0, 0) := by decide +kernel
theorem fi_231_429 : am_find 231 429 = some (.aload_n 1, 1, 0, 0, 0) := by decide +kernel
theorem fi_231_430 : am_find 231 430 = some (.aload_n 0, 1, 0, 0, 0) := by decide +kernel
theorem fi_231_431 : am_find 231 431 = some (.iload_n 3, 1, 0, 0, 0) := by decide +kernel
theorem fi_231_432 : am_find 231 432 = some (.iconst 1, 1, 0, 1, 0) := by decide +kernel
theorem fi_231_433 : am_find 231 433 = some (.iadd, 1, 0, 0, 0) := by decide +kernel
theorem fi_231_434 : am_find 231 434 = some (.iaload, 1, 0, 0, 0) := by decide +kernel
theorem fi_231_435 : am_find 231 435 = some (.invokevirtual 48, 3, 58, 1, 240) := by decide +kernel
theorem fi_231_438 : am_find 231 438 = some (.aload_n 2, 1, 0, 0, 0) := by decide +kernel
theorem fi_231_439 : am_find 231 439 = some (.aload_n 0, 1, 0, 0, 0) := by decide +kernel
theorem fi_231_440 : am_find 231 440 = some (.iload_n 3, 1, 0, 0, 0) := by decide +kernel
theorem fi_231_441 : am_find 231 441 = some (.iconst 1, 1, 0, 1, 0) := by decide +kernel
theorem fi_231_442 : am_find 231 442 = some (.iadd, 1, 0, 0, 0) := by decide +kernel
theorem fi_231_443 : am_find 231 443 = some (.iaload, 1, 0, 0, 0) := by decide +kernel
theorem fi_231_444 : am_find 231 444 = some (.invokevirtual 51, 3, 172, 1, 241) := by decide +kernel
theorem fi_231_447 : am_find 231 447 = some (.if_icmp .eq 742, 3, 0, 0, 0) := by decide +kernel
theorem fi_231_450 : am_find 231 450 = some (.iconst 0, 1, 0, 0, 0) := by decide +kernel
theorem fi_231_451 : am_find 231 451 = some (.ireturn, 1, 1, 0, 0) := by decide +kernel
theorem fi_231_452 : am_find 231 452 = some (.aload_n 1, 1, 0, 0, 0) := by decide +kernel
theorem fi_231_453 : am_find 231 453 = some (.aload_n 0, 1, 0, 0, 0) := by decide +kernel
theorem fi_231_454 : am_find 231 454 = some (.iload_n 3, 1, 0, 0, 0) := by decide +kernel
theorem fi_231_455 : am_find 231 455 = some (.iconst 1, 1, 0, 1, 0) := by decide +kernel
theorem fi_231_456 : am_find 231 456 = some (.iadd, 1, 0, 0, 0) := by decide +kernel
theorem fi_231_457 : am_find 231 457 = some (.iaload, 1, 0, 0, 0) := by decide +kernel
theorem fi_231_458 : am_find 231 458 = some (.invokevirtual 52, 3, 59, 1, 242) := by decide +kernel
theorem fi_231_461 : am_find 231 461 = some (.aload_n 2, 1, 0, 0, 0) := by decide +kernel
theorem fi_231_462 : am_find 231 462 = some (.aload_n 0, 1, 0, 0, 0) := by decide +kernel
theorem fi_231_463 : am_find 231 463 = some (.iload_n 3, 1, 0, 0, 0) := by decide +kernel
theorem fi_231_464 : am_find 231 464 = some (.iconst 1, 1, 0, 1, 0) := by decide +kernel
theorem fi_231_465 : am_find 231 465 = some (.iadd, 1, 0, 0, 0) := by decide +kernel
theorem fi_231_466 : am_find 231 466 = some (.iaload, 1, 0, 0, 0) := by decide +kernel
theorem fi_231_467 : am_find 231 467 = some (.invokevirtual 55, 3, 173, 1, 243) := by decide +kernel
theorem fi_231_470 : am_find 231 470 = some (.if_icmp .eq 719, 3, 0, 0, 0) := by decide +kernel
theorem fi_231_473 : am_find 231 473 = some (.iconst 0, 1, 0, 0, 0) := by decide +kernel
theorem fi_231_474 : am_find 231 474 = some (.ireturn, 1, 1, 0, 0) := by decide +kernel
theorem fi_231_475 : am_find 231 475 = some (.aload_n 1, 1, 0, 0, 0) := by decide +kernel
theorem fi_231_476 : am_find 231 476 = some (.aload_n 0, 1, 0, 0, 0) := by decide +kernel
theorem fi_231_477 : am_find 231 477 = some (.iload_n 3, 1, 0, 0, 0) := by decide +kernel
theorem fi_231_478 : am_find 231 478 = some (.iconst 1, 1, 0, 1, 0) := by decide +kernel
theorem fi_231_479 : am_find 231 479 = some (.iadd, 1, 0, 0, 0) := by decide +kernel
theorem fi_231_480 : am_find 231 480 = some (.iaload, 1, 0, 0, 0) := by decide +kernel
theorem fi_231_481 : am_find 231 481 = some (.invokevirtual 56, 3, 62, 1, 244) := by decide +kernel
theorem fi_231_484 : am_find 231 484 = some (.aload_n 2, 1, 0, 0, 0) := by decide +kernel
theorem fi_231_485 : am_find 231 485 = some (.aload_n 0, 1, 0, 0, 0) := by decide +kernel
theorem fi_231_486 : am_find 231 486 = some (.iload_n 3, 1, 0, 0, 0) := by decide +kernel
theorem fi_231_487 : am_find 231 487 = some (.iconst 1, 1, 0, 1, 0) := by decide +kernel
theorem fi_231_488 : am_find 231 488 = some (.iadd, 1, 0, 0, 0) := by decide +kernel
theorem fi_231_489 : am_find 231 489 = some (.iaload, 1, 0, 0, 0) := by decide +kernel
theorem fi_231_490 : am_find 231 490 = some (.invokevirtual 59, 3, 174, 1, 245) := by decide +kernel
theorem fi_231_493 : am_find 231 493 = some (.if_icmp .eq 696, 3, 0, 0, 0) := by decide +kernel
theorem fi_231_496 : am_find 231 496 = some (.iconst 0, 1, 0, 0, 0) := by decide +kernel
theorem fi_231_497 : am_find 231 497 = some (.ireturn, 1, 1, 0, 0) := by decide +kernel
theorem fi_231_498 : am_find 231 498 = some (.aload_n 1, 1, 0, 0, 0) := by decide +kernel
theorem fi_231_499 : am_find 231 499 = some (.aload_n 0, 1, 0, 0, 0) := by decide +kernel
theorem fi_231_500 : am_find 231 500 = some (.iload_n 3, 1, 0, 0, 0) := by decide +kernel
theorem fi_231_501 : am_find 231 501 = some (.iconst 1, 1, 0, 1, 0) := by decide +kernel
theorem fi_231_502 : am_find 231 502 = some (.iadd, 1, 0, 0, 0) := by decide +kernel
theorem fi_231_503 : am_find 231 503 = some (.iaload, 1, 0, 0, 0) := by decide +kernel
theorem fi_231_504 : am_find 231 504 = some (.aload_n 0, 1, 0, 0, 0) := by decide +kernel
theorem fi_231_505 : am_find 231 505 = some (.iload_n 3, 1, 0, 0, 0) := by decide +kernel
theorem fi_231_506 : am_find 231 506 = some (.iconst 2, 1, 0, 2, 0) := by decide +kernel
theorem fi_231_507 : am_find 231 507 = some (.iadd, 1, 0, 0, 0) := by decide +kernel
theorem fi_231_508 : am_find 231 508 = some (.iaload, 1, 0, 0, 0) := by decide +kernel
theorem fi_231_509 : am_find 231 509 = some (.invokevirtual 60, 3, 65, 2, 246) := by decide +kernel
theorem fi_231_512 : am_find 231 512 = some (.aload_n 2, 1, 0, 0, 0) := by decide +kernel
theorem fi_231_513 : am_find 231 513 = some (.aload_n 0, 1, 0, 0, 0) := by decide +kernel
theorem fi_231_514 : am_find 231 514 = some (.iload_n 3, 1, 0, 0, 0) := by decide +kernel
theorem fi_231_515 : am_find 231 515 = some (.iconst 1, 1, 0, 1, 0) := by decide +kernel
theorem fi_231_516 : am_find 231 516 = some (.iadd, 1, 0, 0, 0) := by decide +kernel
theorem fi_231_517 : am_find 231 517 = some (.iaload, 1, 0, 0, 0) := by decide +kernel
theorem fi_231_518 : am_find 231 518 = some (.aload_n 0, 1, 0, 0, 0) := by decide +kernel
theorem fi_231_519 : am_find 231 519 = some (.iload_n 3, 1, 0, 0, 0) := by decide +kernel
theorem fi_231_520 : am_find 231 520 = some (.iconst 2, 1, 0, 2, 0) := by decide +kernel
theorem fi_231_521 : am_find 231 521 = some (.iadd, 1, 0, 0, 0) := by decide +kernel
theorem fi_231_522 : am_find 231 522 = some (.iaload, 1, 0, 0, 0) := by decide +kernel
theorem fi_231_523 : am_find 231 523 = some (.invokevirtual 63, 3, 176, 2, 247) := by decide +kernel
theorem fi_231_526 : am_find 231 526 = some (.if_icmp .eq 663, 3, 0, 0, 0) := by decide +kernel
theorem fi_231_529 : am_find 231 529 = some (.iconst 0, 1, 0, 0, 0) := by decide +kernel
theorem fi_231_530 : am_find 231 530 = some (.ireturn, 1, 1, 0, 0) := by decide +kernel
theorem fi_231_531 : am_find 231 531 = some (.aload_n 1, 1, 0, 0, 0) := by decide +kernel
theorem fi_231_532 : am_find 231 532 = some (.aload_n 0, 1, 0, 0, 0) := by decide +kernel
theorem fi_231_533 : am_find 231 533 = some (.iload_n 3, 1, 0, 0, 0) := by decide +kernel
theorem fi_231_534 : am_find 231 534 = some (.iconst 1, 1, 0, 1, 0) := by decide +kernel
theorem fi_231_535 : am_find 231 535 = some (.iadd, 1, 0, 0, 0) := by decide +kernel
theorem fi_231_536 : am_find 231 536 = some (.iaload, 1, 0, 0, 0) := by decide +kernel
theorem fi_231_537 : am_find 231 537 = some (.aload_n 0, 1, 0, 0, 0) := by decide +kernel
theorem fi_231_538 : am_find 231 538 = some (.iload_n 3, 1, 0, 0, 0) := by decide +kernel
theorem fi_231_539 : am_find 231 539 = some (.iconst 2, 1, 0, 2, 0) := by decide +kernel
theorem fi_231_540 : am_find 231 540 = some (.iadd, 1, 0, 0, 0) := by decide +kernel
theorem fi_231_541 : am_find 231 541 = some (.iaload, 1, 0, 0, 0) := by decide +kernel
theorem fi_231_542 : am_find 231 542 = some (.invokevirtual 64, 3, 68, 2, 248) := by decide +kernel
theorem fi_231_545 : am_find 231 545 = some (.aload_n 2, 1, 0, 0, 0) := by decide +kernel
theorem fi_231_546 : am_find 231 546 = some (.aload_n 0, 1, 0, 0, 0) := by decide +kernel
theorem fi_231_547 : am_find 231 547 = some (.iload_n 3, 1, 0, 0, 0) := by decide +kernel
theorem fi_231_548 : am_find 231 548 = some (.iconst 1, 1, 0, 1, 0) := by decide +kernel
theorem fi_231_549 : am_find 231 549 = some (.iadd, 1, 0, 0, 0) := by decide +kernel
theorem fi_231_550 : am_find 231 550 = some (.iaload, 1, 0, 0, 0) := by decide +kernel
theorem fi_231_551 : am_find 231 551 = some (.aload_n 0, 1, 0, 0, 0) := by decide +kernel
theorem fi_231_552 : am_find 231 552 = some (.iload_n 3, 1, 0, 0, 0) := by decide +kernel
theorem fi_231_553 : am_find 231 553 = some (.iconst 2, 1, 0, 2, 0) := by decide +kernel
theorem fi_231_554 : am_find 231 554 = some (.iadd, 1, 0, 0, 0) := by decide +kernel
theorem fi_231_555 : am_find 231 555 = some (.iaload, 1, 0, 0, 0) := by decide +kernel
theorem fi_231_556 : am_find 231 556 = some (.invokevirtual 67, 3, 177, 2, 249) := by decide +kernel
theorem fi_231_559 : am_find 231 559 = some (.if_icmp .eq 630, 3, 0, 0, 0) := by decide +kernel
theorem fi_231_562 : am_find 231 562 = some (.iconst 0, 1, 0, 0, 0) := by decide +kernel
theorem fi_231_563 : am_find 231 563 = some (.ireturn, 1, 1, 0, 0) := by decide +kernel
theorem fi_231_564 : am_find 231 564 = some (.aload_n 1, 1, 0, 0, 0) := by decide +kernel
theorem fi_231_565 : am_find 231 565 = some (.aload_n 0, 1, 0, 0, 0) := by decide +kernel
theorem fi_231_566 : am_find 231 566 = some (.iload_n 3, 1, 0, 0, 0) := by decide +kernel
theorem fi_231_567 : am_find 231 567 = some (.iconst 1, 1, 0, 1, 0) := by decide +kernel
theorem fi_231_568 : am_find 231 568 = some (.iadd, 1, 0, 0, 0) := by decide +kernel
theorem fi_231_569 : am_find 231 569 = some (.iaload, 1, 0, 0, 0) := by decide +kernel
theorem fi_231_570 : am_find 231 570 = some (.aload_n 0, 1, 0, 0, 0) := by decide +kernel
theorem fi_231_571 : am_find 231 571 = some (.iload_n 3, 1, 0, 0, 0) := by decide +kernel
theorem fi_231_572 : am_find 231 572 = some (.iconst 2, 1, 0, 2, 0) := by decide +kernel
theorem fi_231_573 : am_find 231 573 = some (.iadd, 1, 0, 0, 0) := by decide +kernel
theorem fi_231_574 : am_find 231 574 = some (.iaload, 1, 0, 0, 0) := by decide +kernel
theorem fi_231_575 : am_find 231 575 = some (.invokevirtual 68, 3, 70, 2, 250) := by decide +kernel
theorem fi_231_578 : am_find 231 578 = some (.aload_n 2, 1, 0, 0, 0) := by decide +kernel
theorem fi_231_579 : am_find 231 579 = some (.aload_n 0, 1, 0, 0, 0) := by decide +kernel
theorem fi_231_580 : am_find 231 580 = some (.iload_n 3, 1, 0, 0, 0) := by decide +kernel
theorem fi_231_581 : am_find 231 581 = some (.iconst 1, 1, 0, 1, 0) := by decide +kernel
theorem fi_231_582 : am_find 231 582 = some (.iadd, 1, 0, 0, 0) := by decide +kernel
theorem fi_231_583 : am_find 231 583 = some (.iaload, 1, 0, 0, 0) := by decide +kernel
theorem fi_231_584 : am_find 231 584 = some (.aload_n 0, 1, 0, 0, 0) := by decide +kernel
theorem fi_231_585 : am_find 231 585 = some (.iload_n 3, 1, 0, 0, 0) := by decide +kernel
theorem fi_231_586 : am_find 231 586 = some (.iconst 2, 1, 0, 2, 0) := by decide +kernel
theorem fi_231_587 : am_find 231 587 = some (.iadd, 1, 0, 0, 0) := by decide +kernel
theorem fi_231_588 : am_find 231 588 = some (.iaload, 1, 0, 0, 0) := by decide +kernel
theorem fi_231_589 : am_find 231 589 = some (.invokevirtual 71, 3, 178, 2, 251) := by decide +kernel
theorem fi_231_592 : am_find 231 592 = some (.if_icmp .eq 597, 3, 0, 0, 0) := by decide +kernel
theorem fi_231_595 : am_find 231 595 = some (.iconst 0, 1, 0, 0, 0) := by decide +kernel
theorem fi_231_596 : am_find 231 596 = some (.ireturn, 1, 1, 0, 0) := by decide +kernel
theorem fi_231_597 : am_find 231 597 = some (.aload_n 1, 1, 0, 0, 0) := by decide +kernel
theorem fi_231_598 : am_find 231 598 = some (.aload_n 0, 1, 0, 0, 0) := by decide +kernel
theorem fi_231_599 : am_find 231 599 = some (.iload_n 3, 1, 0, 0, 0) := by decide +kernel
theorem fi_231_600 : am_find 231 600 = some (.iconst 1, 1, 0, 1, 0) := by decide +kernel
theorem fi_231_601 : am_find 231 601 = some (.iadd, 1, 0, 0, 0) := by decide +kernel
theorem fi_231_602 : am_find 231 602 = some (.iaload, 1, 0, 0, 0) := by decide +kernel
theorem fi_231_603 : am_find 231 603 = some (.invokevirtual 72, 3, 74, 1, 252) := by decide +kernel
theorem fi_231_606 : am_find 231 606 = some (.aload_n 2, 1, 0, 0, 0) := by decide +kernel
theorem fi_231_607 : am_find 231 607 = some (.aload_n 0, 1, 0, 0, 0) := by decide +kernel
theorem fi_231_608 : am_find 231 608 = some (.iload_n 3, 1, 0, 0, 0) := by decide +kernel
theorem fi_231_609 : am_find 231 609 = some (.iconst 1, 1, 0, 1, 0) := by decide +kernel
theorem fi_231_610 : am_find 231 610 = some (.iadd, 1, 0, 0, 0) := by decide +kernel
theorem fi_231_611 : am_find 231 611 = some (.iaload, 1, 0, 0, 0) := by decide +kernel
theorem fi_231_612 : am_find 231 612 = some (.invokevirtual 75, 3, 180, 1, 253) := by decide +kernel
theorem fi_231_615 : am_find 231 615 = some (.if_icmp .eq 574, 3, 0, 0, 0) := by decide +kernel
theorem fi_231_618 : am_find 231 618 = some (.iconst 0, 1, 0, 0, 0) := by decide +kernel
theorem fi_231_619 : am_find 231 619 = some (.ireturn, 1, 1, 0, 0) := by decide +kernel
theorem fi_231_620 : am_find 231 620 = some (.aload_n 1, 1, 0, 0, 0) := by decide +kernel
theorem fi_231_621 : am_find 231 621 = some (.aload_n 0, 1, 0, 0, 0) := by decide +kernel
theorem fi_231_622 : am_find 231 622 = some (.iload_n 3, 1, 0, 0, 0) := by decide +kernel
theorem fi_231_623 : am_find 231 623 = some (.iconst 1, 1, 0, 1, 0) := by decide +kernel
theorem fi_231_624 : am_find 231 624 = some (.iadd, 1, 0, 0, 0) := by decide +kernel
theorem fi_231_625 : am_find 231 625 = some (.iaload, 1, 0, 0, 0) := by decide +kernel
theorem fi_231_626 : am_find 231 626 = some (.invokevirtual 76, 3, 75, 1, 254) := by decide +kernel
theorem fi_231_629 : am_find 231 629 = some (.aload_n 2, 1, 0, 0, 0) := by decide +kernel
theorem fi_231_630 : am_find 231 630 = some (.aload_n 0, 1, 0, 0, 0) := by decide +kernel
theorem fi_231_631 : am_find 231 631 = some (.iload_n 3, 1, 0, 0, 0) := by decide +kernel
theorem fi_231_632 : am_find 231 632 = some (.iconst 1, 1, 0, 1, 0) := by decide +kernel
theorem fi_231_633 : am_find 231 633 = some (.iadd, 1, 0, 0, 0) := by decide +kernel
theorem fi_231_634 : am_find 231 634 = some (.iaload, 1, 0, 0, 0) := by decide +kernel
theorem fi_231_635 : am_find 231 635 = some (.invokevirtual 79, 3, 196, 1, 255) := by decide +kernel
theorem fi_231_638 : am_find 231 638 = some (.if_icmp .eq 551, 3, 0, 0, 0) := by decide +kernel
theorem fi_231_641 : am_find 231 641 = some (.iconst 0, 1, 0, 0, 0) := by decide +kernel
theorem fi_231_642 : am_find 231 642 = some (.ireturn, 1, 1, 0, 0) := by decide +kernel
theorem fi_231_643 : am_find 231 643 = some (.aload_n 1, 1, 0, 0, 0) := by decide +kernel
theorem fi_231_644 : am_find 231 644 = some (.aload_n 0, 1, 0, 0, 0) := by decide +kernel
theorem fi_231_645 : am_find 231 645 = some (.iload_n 3, 1, 0, 0, 0) := by decide +kernel
theorem fi_231_646 : am_find 231 646 = some (.iconst 1, 1, 0, 1, 0) := by decide +kernel
theorem fi_231_647 : am_find 231 647 = some (.iadd, 1, 0, 0, 0) := by decide +kernel
theorem fi_231_648 : am_find 231 648 = some (.iaload, 1, 0, 0, 0) := by decide +kernel
theorem fi_231_649 : am_find 231 649 = some (.ifCond .eq 7, 3, 0, 0, 0) := by decide +kernel
theorem fi_231_652 : am_find 231 652 = some (.iconst 1, 1, 0, 1, 0) := by decide +kernel
theorem fi_231_653 : am_find 231 653 = some (.goto 4, 3, 0, 0, 0) := by decide +kernel
theorem fi_231_656 : am_find 231 656 = some (.iconst 0, 1, 0, 0, 0) := by decide +kernel
theorem fi_231_657 : am_find 231 657 = some (.invokevirtual 80, 3, 96, 1, 256) := by decide +kernel
theorem fi_231_660 : am_find 231 660 = some (.aload_n 2, 1, 0, 0, 0) := by decide +kernel
theorem fi_231_661 : am_find 231 661 = some (.aload_n 0, 1, 0, 0, 0) := by decide +kernel
theorem fi_231_662 : am_find 231 662 = some (.iload_n 3, 1, 0, 0, 0) := by decide +kernel
theorem fi_231_663 : am_find 231 663 = some (.iconst 1, 1, 0, 1, 0) := by decide +kernel
theorem fi_231_664 : am_find 231 664 = some (.iadd, 1, 0, 0, 0) := by decide +kernel
theorem fi_231_665 : am_find 231 665 = some (.iaload, 1, 0, 0, 0) := by decide +kernel
theorem fi_231_666 : am_find 231 666 = some (.ifCond .eq 7, 3, 0, 0, 0) := by decide +kernel
theorem fi_231_669 : am_find 231 669 = some (.iconst 1, 1, 0, 1, 0) := by decide +kernel
theorem fi_231_670 : am_find 231 670 = some (.goto 4, 3, 0, 0, 0) := by decide +kernel
theorem fi_231_673 : am_find 231 673 = some (.iconst 0, 1, 0, 0, 0) := by decide +kernel
theorem fi_231_674 : am_find 231 674 = some (.invokevirtual 84, 3, 206, 1, 257) := by decide +kernel
theorem fi_231_677 : am_find 231 677 = some (.if_icmp .eq 512, 3, 0, 0, 0) := by decide +kernel
theorem fi_231_680 : am_find 231 680 = some (.iconst 0, 1, 0, 0, 0) := by decide +kernel
theorem fi_231_681 : am_find 231 681 = some (.ireturn, 1, 1, 0, 0) := by decide +kernel
theorem fi_231_682 : am_find 231 682 = some (.aload_n 1, 1, 0, 0, 0) := by decide +kernel
theorem fi_231_683 : am_find 231 683 = some (.invokevirtual 85, 3, 99, 0, 258) := by decide +kernel
theorem fi_231_686 : am_find 231 686 = some (.aload_n 2, 1, 0, 0, 0) := by decide +kernel
theorem fi_231_687 : am_find 231 687 = some (.invokevirtual 88, 3, 182, 0, 259) := by decide +kernel
theorem fi_231_690 : am_find 231 690 = some (.if_icmp .eq 499, 3, 0, 0, 0) := by decide +kernel
theorem fi_231_693 : am_find 231 693 = some (.iconst 0, 1, 0, 0, 0) := by decide +kernel
theorem fi_231_694 : am_find 231 694 = some (.ireturn, 1, 1, 0, 0) := by decide +kernel
theorem fi_231_695 : am_find 231 695 = some (.aload_n 1, 1, 0, 0, 0) := by decide +kernel
theorem fi_231_696 : am_find 231 696 = some (.aload_n 0, 1, 0, 0, 0) := by decide +kernel
theorem fi_231_697 : am_find 231 697 = some (.iload_n 3, 1, 0, 0, 0) := by decide +kernel
theorem fi_231_698 : am_find 231 698 = some (.iconst 1, 1, 0, 1, 0) := by decide +kernel
theorem fi_231_699 : am_find 231 699 = some (.iadd, 1, 0, 0, 0) := by decide +kernel
theorem fi_231_700 : am_find 231 700 = some (.iaload, 1, 0, 0, 0) := by decide +kernel
theorem fi_231_701 : am_find 231 701 = some (.invokevirtual 89, 3, 100, 1, 260) := by decide +kernel
theorem fi_231_704 : am_find 231 704 = some (.aload_n 2, 1, 0, 0, 0) := by decide +kernel
theorem fi_231_705 : am_find 231 705 = some (.aload_n 0, 1, 0, 0, 0) := by decide +kernel
theorem fi_231_706 : am_find 231 706 = some (.iload_n 3, 1, 0, 0, 0) := by decide +kernel
theorem fi_231_707 : am_find 231 707 = some (.iconst 1, 1, 0, 1, 0) := by decide +kernel
theorem fi_231_708 : am_find 231 708 = some (.iadd, 1, 0, 0, 0) := by decide +kernel
theorem fi_231_709 : am_find 231 709 = some (.iaload, 1, 0, 0, 0) := by decide +kernel
theorem fi_231_710 : am_find 231 710 = some (.invokevirtual 92, 3, 190, 1, 261) := by decide +kernel
theorem fi_231_713 : am_find 231 713 = some (.if_icmp .eq 476, 3, 0, 0, 0) := by decide +kernel
theorem fi_231_716 : am_find 231 716 = some (.iconst 0, 1, 0, 0, 0) := by decide +kernel
theorem fi_231_717 : am_find 231 717 = some (.ireturn, 1, 1, 0, 0) := by decide +kernel
theorem fi_231_718 : am_find 231 718 = some (.aload_n 1, 1, 0, 0, 0) := by decide +kernel
theorem fi_231_719 : am_find 231 719 = some (.aload_n 0, 1, 0, 0, 0) := by decide +kernel
theorem fi_231_720 : am_find 231 720 = some (.iload_n 3, 1, 0, 0, 0) := by decide +kernel
theorem fi_231_721 : am_find 231 721 = some (.iconst 1, 1, 0, 1, 0) := by decide +kernel
theorem fi_231_722 : am_find 231 722 = some (.iadd, 1, 0, 0, 0) := by decide +kernel
theorem fi_231_723 : am_find 231 723 = some (.iaload, 1, 0, 0, 0) := by decide +kernel
theorem fi_231_724 : am_find 231 724 = some (.invokevirtual 93, 3, 102, 1, 262) := by decide +kernel
theorem fi_231_727 : am_find 231 727 = some (.aload_n 2, 1, 0, 0, 0) := by decide +kernel
theorem fi_231_728 : am_find 231 728 = some (.aload_n 0, 1, 0, 0, 0) := by decide +kernel
theorem fi_231_729 : am_find 231 729 = some (.iload_n 3, 1, 0, 0, 0) := by decide +kernel
theorem fi_231_730 : am_find 231 730 = some (.iconst 1, 1, 0, 1, 0) := by decide +kernel
theorem fi_231_731 : am_find 231 731 = some (.iadd, 1, 0, 0, 0) := by decide +kernel
theorem fi_231_732 : am_find 231 732 = some (.iaload, 1, 0, 0, 0) := by decide +kernel
theorem fi_231_733 : am_find 231 733 = some (.invokevirtual 96, 3, 191, 1, 263) := by decide +kernel
theorem fi_231_736 : am_find 231 736 = some (.if_icmp .eq 453, 3, 0, 0, 0) := by decide +kernel
theorem fi_231_739 : am_find 231 739 = some (.iconst 0, 1, 0, 0, 0) := by decide +kernel
theorem fi_231_740 : am_find 231 740 = some (.ireturn, 1, 1, 0, 0) := by decide +kernel
theorem fi_231_741 : am_find 231 741 = some (.aload_n 1, 1, 0, 0, 0) := by decide +kernel
theorem fi_231_742 : am_find 231 742 = some (.aload_n 0, 1, 0, 0, 0) := by decide +kernel
theorem fi_231_743 : am_find 231 743 = some (.iload_n 3, 1, 0, 0, 0) := by decide +kernel
theorem fi_231_744 : am_find 231 744 = some (.iconst 1, 1, 0, 1, 0) := by decide +kernel
theorem fi_231_745 : am_find 231 745 = some (.iadd, 1, 0, 0, 0) := by decide +kernel
theorem fi_231_746 : am_find 231 746 = some (.iaload, 1, 0, 0, 0) := by decide +kernel
theorem fi_231_747 : am_find 231 747 = some (.invokevirtual 97, 3, 103, 1, 264) := by decide +kernel
theorem fi_231_750 : am_find 231 750 = some (.aload_n 2, 1, 0, 0, 0) := by decide +kernel
theorem fi_231_751 : am_find 231 751 = some (.aload_n 0, 1, 0, 0, 0) := by decide +kernel
theorem fi_231_752 : am_find 231 752 = some (.iload_n 3, 1, 0, 0, 0) := by decide +kernel
theorem fi_231_753 : am_find 231 753 = some (.iconst 1, 1, 0, 1, 0) := by decide +kernel
theorem fi_231_754 : am_find 231 754 = some (.iadd, 1, 0, 0, 0) := by decide +kernel
theorem fi_231_755 : am_find 231 755 = some (.iaload, 1, 0, 0, 0) := by decide +kernel
theorem fi_231_756 : am_find 231 756 = some (.invokevirtual 100, 3, 192, 1, 265) := by decide +kernel
theorem fi_231_759 : am_find 231 759 = some (.if_icmp .eq 430, 3, 0, 0, 0) := by decide +kernel
theorem fi_231_762 : am_find 231 762 = some (.iconst 0, 1, 0, 0, 0) := by decide +kernel
theorem fi_231_763 : am_find 231 763 = some (.ireturn, 1, 1, 0, 0) := by decide +kernel
theorem fi_231_764 : am_find 231 764 = some (.aload_n 1, 1, 0, 0, 0) := by decide +kernel
theorem fi_231_765 : am_find 231 765 = some (.aload_n 0, 1, 0, 0, 0) := by decide +kernel
theorem fi_231_766 : am_find 231 766 = some (.iload_n 3, 1, 0, 0, 0) := by decide +kernel
theorem fi_231_767 : am_find 231 767 = some (.iconst 1, 1, 0, 1, 0) := by decide +kernel
theorem fi_231_768 : am_find 231 768 = some (.iadd, 1, 0, 0, 0) := by decide +kernel
theorem fi_231_769 : am_find 231 769 = some (.iaload, 1, 0, 0, 0) := by decide +kernel
theorem fi_231_770 : am_find 231 770 = some (.invokevirtual 101, 3, 106, 1, 266) := by decide +kernel
theorem fi_231_773 : am_find 231 773 = some (.aload_n 2, 1, 0, 0, 0) := by decide +kernel
theorem fi_231_774 : am_find 231 774 = some (.aload_n 0, 1, 0, 0, 0) := by decide +kernel
theorem fi_231_775 : am_find 231 775 = some (.iload_n 3, 1, 0, 0, 0) := by decide +kernel
theorem fi_231_776 : am_find 231 776 = some (.iconst 1, 1, 0, 1, 0) := by decide +kernel
theorem fi_231_777 : am_find 231 777 = some (.iadd, 1, 0, 0, 0) := by decide +kernel
theorem fi_231_778 : am_find 231 778 = some (.iaload, 1, 0, 0, 0) := by decide +kernel
theorem fi_231_779 : am_find 231 779 = some (.invokevirtual 104, 3, 193, 1, 267) := by decide +kernel
theorem fi_231_782 : am_find 231 782 = some (.if_icmp .eq 407, 3, 0, 0, 0) := by decide +kernel
theorem fi_231_785 : am_find 231 785 = some (.iconst 0, 1, 0, 0, 0) := by decide +kernel
theorem fi_231_786 : am_find 231 786 = some (.ireturn, 1, 1, 0, 0) := by decide +kernel
theorem fi_231_787 : am_find 231 787 = some (.aload_n 1, 1, 0, 0, 0) := by decide +kernel
theorem fi_231_788 : am_find 231 788 = some (.invokevirtual 105, 3, 108, 0, 268) := by decide +kernel
theorem fi_231_791 : am_find 231 791 = some (.aload_n 2, 1, 0, 0, 0) := by decide +kernel
theorem fi_231_792 : am_find 231 792 = some (.invokevirtual 108, 3, 195, 0, 269) := by decide +kernel
theorem fi_231_795 : am_find 231 795 = some (.if_icmp .eq 394, 3, 0, 0, 0) := by decide +kernel
theorem fi_231_798 : am_find 231 798 = some (.iconst 0, 1, 0, 0, 0) := by decide +kernel
theorem fi_231_799 : am_find 231 799 = some (.ireturn, 1, 1, 0, 0) := by decide +kernel
theorem fi_231_800 : am_find 231 800 = some (.aload_n 1, 1, 0, 0, 0) := by decide +kernel
theorem fi_231_801 : am_find 231 801 = some (.aload_n 0, 1, 0, 0, 0) := by decide +kernel
theorem fi_231_802 : am_find 231 802 = some (.iload_n 3, 1, 0, 0, 0) := by decide +kernel
theorem fi_231_803 : am_find 231 803 = some (.iconst 1, 1, 0, 1, 0) := by decide +kernel
theorem fi_231_804 : am_find 231 804 = some (.iadd, 1, 0, 0, 0) := by decide +kernel
theorem fi_231_805 : am_find 231 805 = some (.iaload, 1, 0, 0, 0) := by decide +kernel
theorem fi_231_806 : am_find 231 806 = some (.invokevirtual 109, 3, 109, 1, 270) := by decide +kernel
theorem fi_231_809 : am_find 231 809 = some (.aload_n 2, 1, 0, 0, 0) := by decide +kernel
theorem fi_231_810 : am_find 231 810 = some (.aload_n 0, 1, 0, 0, 0) := by decide +kernel
theorem fi_231_811 : am_find 231 811 = some (.iload_n 3, 1, 0, 0, 0) := by decide +kernel
theorem fi_231_812 : am_find 231 812 = some (.iconst 1, 1, 0, 1, 0) := by decide +kernel
theorem fi_231_813 : am_find 231 813 = some (.iadd, 1, 0, 0, 0) := by decide +kernel
theorem fi_231_814 : am_find 231 814 = some (.iaload, 1, 0, 0, 0) := by decide +kernel
theorem fi_231_815 : am_find 231 815 = some (.invokevirtual 112, 3, 207, 1, 271) := by decide +kernel
theorem fi_231_818 : am_find 231 818 = some (.if_icmp .eq 371, 3, 0, 0, 0) := by decide +kernel
theorem fi_231_821 : am_find 231 821 = some (.iconst 0, 1, 0, 0, 0) := by decide +kernel
theorem fi_231_822 : am_find 231 822 = some (.ireturn, 1, 1, 0, 0) := by decide +kernel
theorem fi_231_823 : am_find 231 823 = some (.aload_n 1, 1, 0, 0, 0) := by decide +kernel
theorem fi_231_824 : am_find 231 824 = some (.aload_n 0, 1, 0, 0, 0) := by decide +kernel
theorem fi_231_825 : am_find 231 825 = some (.iload_n 3, 1, 0, 0, 0) := by decide +kernel
theorem fi_231_826 : am_find 231 826 = some (.iconst 1, 1, 0, 1, 0) := by decide +kernel
theorem fi_231_827 : am_find 231 827 = some (.iadd, 1, 0, 0, 0) := by decide +kernel
theorem fi_231_828 : am_find 231 828 = some (.iaload, 1, 0, 0, 0) := by decide +kernel
theorem fi_231_829 : am_find 231 829 = some (.aload_n 0, 1, 0, 0, 0) := by decide +kernel
theorem fi_231_830 : am_find 231 830 = some (.iload_n 3, 1, 0, 0, 0) := by decide +kernel
theorem fi_231_831 : am_find 231 831 = some (.iconst 2, 1, 0, 2, 0) := by decide +kernel
theorem fi_231_832 : am_find 231 832 = some (.iadd, 1, 0, 0, 0) := by decide +kernel
theorem fi_231_833 : am_find 231 833 = some (.iaload, 1, 0, 0, 0) := by decide +kernel
theorem fi_231_834 : am_find 231 834 = some (.aload_n 0, 1, 0, 0, 0) := by decide +kernel
theorem fi_231_835 : am_find 231 835 = some (.iload_n 3, 1, 0, 0, 0) := by decide +kernel
theorem fi_231_836 : am_find 231 836 = some (.iconst 3, 1, 0, 3, 0) := by decide +kernel
theorem fi_231_837 : am_find 231 837 = some (.iadd, 1, 0, 0, 0) := by decide +kernel
theorem fi_231_838 : am_find 231 838 = some (.iaload, 1, 0, 0, 0) := by decide +kernel
theorem fi_231_839 : am_find 231 839 = some (.invokevirtual 113, 3, 111, 3, 272) := by decide +kernel
theorem fi_231_842 : am_find 231 842 = some (.aload_n 2, 1, 0, 0, 0) := by decide +kernel
theorem fi_231_843 : am_find 231 843 = some (.aload_n 0, 1, 0, 0, 0) := by decide +kernel
theorem fi_231_844 : am_find 231 844 = some (.iload_n 3, 1, 0, 0, 0) := by decide +kernel
theorem fi_231_845 : am_find 231 845 = some (.iconst 1, 1, 0, 1, 0) := by decide +kernel
theorem fi_231_846 : am_find 231 846 = some (.iadd, 1, 0, 0, 0) := by decide +kernel
theorem fi_231_847 : am_find 231 847 = some (.iaload, 1, 0, 0, 0) := by decide +kernel
theorem fi_231_848 : am_find 231 848 = some (.aload_n 0, 1, 0, 0, 0) := by decide +kernel
theorem fi_231_849 : am_find 231 849 = some (.iload_n 3, 1, 0, 0, 0) := by decide +kernel
theorem fi_231_850 : am_find 231 850 = some (.iconst 2, 1, 0, 2, 0) := by decide +kernel
theorem fi_231_851 : am_find 231 851 = some (.iadd, 1, 0, 0, 0) := by decide +kernel
theorem fi_231_852 : am_find 231 852 = some (.iaload, 1, 0, 0, 0) := by decide +kernel
theorem fi_231_853 : am_find 231 853 = some (.aload_n 0, 1, 0, 0, 0) := by decide +kernel
theorem fi_231_854 : am_find 231 854 = some (.iload_n 3, 1, 0, 0, 0) := by decide +kernel
theorem fi_231_855 : am_find 231 855 = some (.iconst 3, 1, 0, 3, 0) := by decide +kernel
theorem fi_231_856 : am_find 231 856 = some (.iadd, 1, 0, 0, 0) := by decide +kernel
theorem fi_231_857 : am_find 231 857 = some (.iaload, 1, 0, 0, 0) := by decide +kernel
theorem fi_231_858 : am_find 231 858 = some (.invokevirtual 116, 3, 208, 3, 273) := by decide +kernel
theorem fi_231_861 : am_find 231 861 = some (.if_icmp .eq 328, 3, 0, 0, 0) := by decide +kernel
theorem fi_231_864 : am_find 231 864 = some (.iconst 0, 1, 0, 0, 0) := by decide +kernel
theorem fi_231_865 : am_find 231 865 = some (.ireturn, 1, 1, 0, 0) := by decide +kernel
theorem fi_231_866 : am_find 231 866 = some (.aload_n 1, 1, 0, 0, 0) := by decide +kernel
theorem fi_231_867 : am_find 231 867 = some (.aload_n 0, 1, 0, 0, 0) := by decide +kernel
theorem fi_231_868 : am_find 231 868 = some (.iload_n 3, 1, 0, 0, 0) := by decide +kernel
theorem fi_231_869 : am_find 231 869 = some (.iconst 1, 1, 0, 1, 0) := by decide +kernel
theorem fi_231_870 : am_find 231 870 = some (.iadd, 1, 0, 0, 0) := by decide +kernel
theorem fi_231_871 : am_find 231 871 = some (.iaload, 1, 0, 0, 0) := by decide +kernel
theorem fi_231_872 : am_find 231 872 = some (.aload_n 0, 1, 0, 0, 0) := by decide +kernel
theorem fi_231_873 : am_find 231 873 = some (.iload_n 3, 1, 0, 0, 0) := by decide +kernel
theorem fi_231_874 : am_find 231 874 = some (.iconst 2, 1, 0, 2, 0) := by decide +kernel
theorem fi_231_875 : am_find 231 875 = some (.iadd, 1, 0, 0, 0) := by decide +kernel
theorem fi_231_876 : am_find 231 876 = some (.iaload, 1, 0, 0, 0) := by decide +kernel
theorem fi_231_877 : am_find 231 877 = some (.aload_n 0, 1, 0, 0, 0) := by decide +kernel
theorem fi_231_878 : am_find 231 878 = some (.iload_n 3, 1, 0, 0, 0) := by decide +kernel
theorem fi_231_879 : am_find 231 879 = some (.iconst 3, 1, 0, 3, 0) := by decide +kernel
theorem fi_231_880 : am_find 231 880 = some (.iadd, 1, 0, 0, 0) := by decide +kernel
theorem fi_231_881 : am_find 231 881 = some (.iaload, 1, 0, 0, 0) := by decide +kernel
theorem fi_231_882 : am_find 231 882 = some (.invokevirtual 117, 3, 113, 3, 274) := by decide +kernel
theorem fi_231_885 : am_find 231 885 = some (.aload_n 2, 1, 0, 0, 0) := by decide +kernel
theorem fi_231_886 : am_find 231 886 = some (.aload_n 0, 1, 0, 0, 0) := by decide +kernel
theorem fi_231_887 : am_find 231 887 = some (.iload_n 3, 1, 0, 0, 0) := by decide +kernel
theorem fi_231_888 : am_find 231 888 = some (.iconst 1, 1, 0, 1, 0) := by decide +kernel
theorem fi_231_889 : am_find 231 889 = some (.iadd, 1, 0, 0, 0) := by decide +kernel
theorem fi_231_890 : am_find 231 890 = some (.iaload, 1, 0, 0, 0) := by decide +kernel
theorem fi_231_891 : am_find 231 891 = some (.aload_n 0, 1, 0, 0, 0) := by decide +kernel
theorem fi_231_892 : am_find 231 892 = some (.iload_n 3, 1, 0, 0, 0) := by decide +kernel
theorem fi_231_893 : am_find 231 893 = some (.iconst 2, 1, 0, 2, 0) := by decide +kernel
theorem fi_231_894 : am_find 231 894 = some (.iadd, 1, 0, 0, 0) := by decide +kernel
theorem fi_231_895 : am_find 231 895 = some (.iaload, 1, 0, 0, 0) := by decide +kernel
theorem fi_231_896 : am_find 231 896 = some (.aload_n 0, 1, 0, 0, 0) := by decide +kernel
theorem fi_231_897 : am_find 231 897 = some (.iload_n 3, 1, 0, 0, 0) := by decide +kernel
theorem fi_231_898 : am_find 231 898 = some (.iconst 3, 1, 0, 3, 0) := by decide +kernel
theorem fi_231_899 : am_find 231 899 = some (.iadd, 1, 0, 0, 0) := by decide +kernel
theorem fi_231_900 : am_find 231 900 = some (.iaload, 1, 0, 0, 0) := by decide +kernel
theorem fi_231_901 : am_find 231 901 = some (.invokevirtual 120, 3, 209, 3, 275) := by decide +kernel
theorem fi_231_904 : am_find 231 904 = some (.if_icmp .eq 285, 3, 0, 0, 0) := by decide +kernel
theorem fi_231_907 : am_find 231 907 = some (.iconst 0, 1, 0, 0, 0) := by decide +kernel
theorem fi_231_908 : am_find 231 908 = some (.ireturn, 1, 1, 0, 0) := by decide +kernel
theorem fi_231_909 : am_find 231 909 = some (.aload_n 1, 1, 0, 0, 0) := by decide +kernel
theorem fi_231_910 : am_find 231 910 = some (.aload_n 0, 1, 0, 0, 0) := by decide +kernel
theorem fi_231_911 : am_find 231 911 = some (.iload_n 3, 1, 0, 0, 0) := by decide +kernel
theorem fi_231_912 : am_find 231 912 = some (.iconst 1, 1, 0, 1, 0) := by decide +kernel
theorem fi_231_913 : am_find 231 913 = some (.iadd, 1, 0, 0, 0) := by decide +kernel
theorem fi_231_914 : am_find 231 914 = some (.iaload, 1, 0, 0, 0) := by decide +kernel
theorem fi_231_915 : am_find 231 915 = some (.aload_n 0, 1, 0, 0, 0) := by decide +kernel
theorem fi_231_916 : am_find 231 916 = some (.iload_n 3, 1, 0, 0, 0) := by decide +kernel
theorem fi_231_917 : am_find 231 917 = some (.iconst 2, 1, 0, 2, 0) := by decide +kernel
theorem fi_231_918 : am_find 231 918 = some (.iadd, 1, 0, 0, 0) := by decide +kernel
theorem fi_231_919 : am_find 231 919 = some (.iaload, 1, 0, 0, 0) := by decide +kernel
theorem fi_231_920 : am_find 231 920 = some (.invokevirtual 121, 3, 116, 2, 276) := by decide +kernel
theorem fi_231_923 : am_find 231 923 = some (.aload_n 2, 1, 0, 0, 0) := by decide +kernel
theorem fi_231_924 : am_find 231 924 = some (.aload_n 0, 1, 0, 0, 0) := by decide +kernel
theorem fi_231_925 : am_find 231 925 = some (.iload_n 3, 1, 0, 0, 0) := by decide +kernel
theorem fi_231_926 : am_find 231 926 = some (.iconst 1, 1, 0, 1, 0) := by decide +kernel
theorem fi_231_927 : am_find 231 927 = some (.iadd, 1, 0, 0, 0) := by decide +kernel
theorem fi_231_928 : am_find 231 928 = some (.iaload, 1, 0, 0, 0) := by decide +kernel
theorem fi_231_929 : am_find 231 929 = some (.aload_n 0, 1, 0, 0, 0) := by decide +kernel
theorem fi_231_930 : am_find 231 930 = some (.iload_n 3, 1, 0, 0, 0) := by decide +kernel
theorem fi_231_931 : am_find 231 931 = some (.iconst 2, 1, 0, 2, 0) := by decide +kernel
theorem fi_231_932 : am_find 231 932 = some (.iadd, 1, 0, 0, 0) := by decide +kernel
theorem fi_231_933 : am_find 231 933 = some (.iaload, 1, 0, 0, 0) := by decide +kernel
theorem fi_231_934 : am_find 231 934 = some (.invokevirtual 124, 3, 211, 2, 277) := by decide +kernel
theorem fi_231_937 : am_find 231 937 = some (.if_icmp .eq 252, 3, 0, 0, 0) := by decide +kernel
theorem fi_231_940 : am_find 231 940 = some (.iconst 0, 1, 0, 0, 0) := by decide +kernel
theorem fi_231_941 : am_find 231 941 = some (.ireturn, 1, 1, 0, 0) := by decide +kernel
theorem fi_231_942 : am_find 231 942 = some (.aload_n 1, 1, 0, 0, 0) := by decide +kernel
theorem fi_231_943 : am_find 231 943 = some (.aload_n 0, 1, 0, 0, 0) := by decide +kernel
theorem fi_231_944 : am_find 231 944 = some (.iload_n 3, 1, 0, 0, 0) := by decide +kernel
theorem fi_231_945 : am_find 231 945 = some (.iconst 1, 1, 0, 1, 0) := by decide +kernel
theorem fi_231_946 : am_find 231 946 = some (.iadd, 1, 0, 0, 0) := by decide +kernel
theorem fi_231_947 : am_find 231 947 = some (.iaload, 1, 0, 0, 0) := by decide +kernel
theorem fi_231_948 : am_find 231 948 = some (.aload_n 0, 1, 0, 0, 0) := by decide +kernel
theorem fi_231_949 : am_find 231 949 = some (.iload_n 3, 1, 0, 0, 0) := by decide +kernel
theorem fi_231_950 : am_find 231 950 = some (.iconst 2, 1, 0, 2, 0) := by decide +kernel
theorem fi_231_951 : am_find 231 951 = some (.iadd, 1, 0, 0, 0) := by decide +kernel
theorem fi_231_952 : am_find 231 952 = some (.iaload, 1, 0, 0, 0) := by decide +kernel
theorem fi_231_953 : am_find 231 953 = some (.aload_n 0, 1, 0, 0, 0) := by decide +kernel
theorem fi_231_954 : am_find 231 954 = some (.iload_n 3, 1, 0, 0, 0) := by decide +kernel
theorem fi_231_955 : am_find 231 955 = some (.iconst 3, 1, 0, 3, 0) := by decide +kernel
theorem fi_231_956 : am_find 231 956 = some (.iadd, 1, 0, 0, 0) := by decide +kernel
theorem fi_231_957 : am_find 231 957 = some (.iaload, 1, 0, 0, 0) := by decide +kernel
theorem fi_231_958 : am_find 231 958 = some (.invokevirtual 125, 3, 118, 3, 278) := by decide +kernel
theorem fi_231_961 : am_find 231 961 = some (.aload_n 2, 1, 0, 0, 0) := by decide +kernel
theorem fi_231_962 : am_find 231 962 = some (.aload_n 0, 1, 0, 0, 0) := by decide +kernel
theorem fi_231_963 : am_find 231 963 = some (.iload_n 3, 1, 0, 0, 0) := by decide +kernel
theorem fi_231_964 : am_find 231 964 = some (.iconst 1, 1, 0, 1, 0) := by decide +kernel
theorem fi_231_965 : am_find 231 965 = some (.iadd, 1, 0, 0, 0) := by decide +kernel
theorem fi_231_966 : am_find 231 966 = some (.iaload, 1, 0, 0, 0) := by decide +kernel
theorem fi_231_967 : am_find 231 967 = some (.aload_n 0, 1, 0, 0, 0) := by decide +kernel
theorem fi_231_968 : am_find 231 968 = some (.iload_n 3, 1, 0, 0, 0) := by decide +kernel
theorem fi_231_969 : am_find 231 969 = some (.iconst 2, 1, 0, 2, 0) := by decide +kernel
theorem fi_231_970 : am_find 231 970 = some (.iadd, 1, 0, 0, 0) := by decide +kernel
theorem fi_231_971 : am_find 231 971 = some (.iaload, 1, 0, 0, 0) := by decide +kernel
theorem fi_231_972 : am_find 231 972 = some (.aload_n 0, 1, 0, 0, 0) := by decide +kernel
theorem fi_231_973 : am_find 231 973 = some (.iload_n 3, 1, 0, 0, 0) := by decide +kernel
theorem fi_231_974 : am_find 231 974 = some (.iconst 3, 1, 0, 3, 0) := by decide +kernel
theorem fi_231_975 : am_find 231 975 = some (.iadd, 1, 0, 0, 0) := by decide +kernel
theorem fi_231_976 : am_find 231 976 = some (.iaload, 1, 0, 0, 0) := by decide +kernel
theorem fi_231_977 : am_find 231 977 = some (.invokevirtual 128, 3, 212, 3, 279) := by decide +kernel
theorem fi_231_980 : am_find 231 980 = some (.if_icmp .eq 209, 3, 0, 0, 0) := by decide +kernel
theorem fi_231_983 : am_find 231 983 = some (.iconst 0, 1, 0, 0, 0) := by decide +kernel
theorem fi_231_984 : am_find 231 984 = some (.ireturn, 1, 1, 0, 0) := by decide +kernel
theorem fi_231_985 : am_find 231 985 = some (.aload_n 1, 1, 0, 0, 0) := by decide +kernel
theorem fi_231_986 : am_find 231 986 = some (.aload_n 0, 1, 0, 0, 0) := by decide +kernel
theorem fi_231_987 : am_find 231 987 = some (.iload_n 3, 1, 0, 0, 0) := by decide +kernel
theorem fi_231_988 : am_find 231 988 = some (.iconst 1, 1, 0, 1, 0) := by decide +kernel
theorem fi_231_989 : am_find 231 989 = some (.iadd, 1, 0, 0, 0) := by decide +kernel
theorem fi_231_990 : am_find 231 990 = some (.iaload, 1, 0, 0, 0) := by decide +kernel
theorem fi_231_991 : am_find 231 991 = some (.aload_n 0, 1, 0, 0, 0) := by decide +kernel
theorem fi_231_992 : am_find 231 992 = some (.iload_n 3, 1, 0, 0, 0) := by decide +kernel
theorem fi_231_993 : am_find 231 993 = some (.iconst 2, 1, 0, 2, 0) := by decide +kernel
theorem fi_231_994 : am_find 231 994 = some (.iadd, 1, 0, 0, 0) := by decide +kernel
theorem fi_231_995 : am_find 231 995 = some (.iaload, 1, 0, 0, 0) := by decide +kernel
theorem fi_231_996 : am_find 231 996 = some (.invokevirtual 129, 3, 121, 2, 280) := by decide +kernel
theorem fi_231_999 : am_find 231 999 = some (.aload_n 2, 1, 0, 0, 0) := by decide +kernel
theorem fi_231_1000 : am_find 231 1000 = some (.aload_n 0, 1, 0, 0, 0) := by decide +kernel
theorem fi_231_1001 : am_find 231 1001 = some (.iload_n 3, 1, 0, 0, 0) := by decide +kernel
theorem fi_231_1002 : am_find 231 1002 = some (.iconst 1, 1, 0, 1, 0) := by decide +kernel
theorem fi_231_1003 : am_find 231 1003 = some (.iadd, 1, 0, 0, 0) := by decide +kernel
theorem fi_231_1004 : am_find 231 1004 = some (.iaload, 1, 0, 0, 0) := by decide +kernel
theorem fi_231_1005 : am_find 231 1005 = some (.aload_n 0, 1, 0, 0, 0) := by decide +kernel
theorem fi_231_1006 : am_find 231 1006 = some (.iload_n 3, 1, 0, 0, 0) := by decide +kernel
theorem fi_231_1007 : am_find 231 1007 = some (.iconst 2, 1, 0, 2, 0) := by decide +kernel
theorem fi_231_1008 : am_find 231 1008 = some (.iadd, 1, 0, 0, 0) := by decide +kernel
theorem fi_231_1009 : am_find 231 1009 = some (.iaload, 1, 0, 0, 0) := by decide +kernel
theorem fi_231_1010 : am_find 231 1010 = some (.invokevirtual 132, 3, 213, 2, 281) := by decide +kernel
theorem fi_231_1013 : am_find 231 1013 = some (.if_icmp .eq 176, 3, 0, 0, 0) := by decide +kernel
theorem fi_231_1016 : am_find 231 1016 = some (.iconst 0, 1, 0, 0, 0) := by decide +kernel
theorem fi_231_1017 : am_find 231 1017 = some (.ireturn, 1, 1, 0, 0) := by decide +kernel
theorem fi_231_1018 : am_find 231 1018 = some (.aload_n 1, 1, 0, 0, 0) := by decide +kernel
theorem fi_231_1019 : am_find 231 1019 = some (.aload_n 0, 1, 0, 0, 0) := by decide +kernel
theorem fi_231_1020 : am_find 231 1020 = some (.iload_n 3, 1, 0, 0, 0) := by decide +kernel
theorem fi_231_1021 : am_find 231 1021 = some (.iconst 1, 1, 0, 1, 0) := by decide +kernel
theorem fi_231_1022 : am_find 231 1022 = some (.iadd, 1, 0, 0, 0) := by decide +kernel
theorem fi_231_1023 : am_find 231 1023 = some (.iaload, 1, 0, 0, 0) := by decide +kernel
theorem fi_231_1024 : am_find 231 1024 = some (.invokevirtual 133, 3, 127, 1, 282) := by decide +kernel
theorem fi_231_1027 : am_find 231 1027 = some (.aload_n 2, 1, 0, 0, 0) := by decide +kernel
theorem fi_231_1028 : am_find 231 1028 = some (.aload_n 0, 1, 0, 0, 0) := by decide +kernel
theorem fi_231_1029 : am_find 231 1029 = some (.iload_n 3, 1, 0, 0, 0) := by decide +kernel
theorem fi_231_1030 : am_find 231 1030 = some (.iconst 1, 1, 0, 1, 0) := by decide +kernel
theorem fi_231_1031 : am_find 231 1031 = some (.iadd, 1, 0, 0, 0) := by decide +kernel
theorem fi_231_1032 : am_find 231 1032 = some (.iaload, 1, 0, 0, 0) := by decide +kernel
theorem fi_231_1033 : am_find 231 1033 = some (.invokevirtual 136, 3, 216, 1, 283) := by decide +kernel
theorem fi_231_1036 : am_find 231 1036 = some (.if_icmp .eq 153, 3, 0, 0, 0) := by decide +kernel
theorem fi_231_1039 : am_find 231 1039 = some (.iconst 0, 1, 0, 0, 0) := by decide +kernel
theorem fi_231_1040 : am_find 231 1040 = some (.ireturn, 1, 1, 0, 0) := by decide +kernel
theorem fi_231_1041 : am_find 231 1041 = some (.aload_n 1, 1, 0, 0, 0) := by decide +kernel
theorem fi_231_1042 : am_find 231 1042 = some (.aload_n 0, 1, 0, 0, 0) := by decide +kernel
theorem fi_231_1043 : am_find 231 1043 = some (.iload_n 3, 1, 0, 0, 0) := by decide +kernel
theorem fi_231_1044 : am_find 231 1044 = some (.iconst 1, 1, 0, 1, 0) := by decide +kernel
theorem fi_231_1045 : am_find 231 1045 = some (.iadd, 1, 0, 0, 0) := by decide +kernel
theorem fi_231_1046 : am_find 231 1046 = some (.iaload, 1, 0, 0, 0) := by decide +kernel
theorem fi_231_1047 : am_find 231 1047 = some (.aload_n 0, 1, 0, 0, 0) := by decide +kernel
theorem fi_231_1048 : am_find 231 1048 = some (.iload_n 3, 1, 0, 0, 0) := by decide +kernel
theorem fi_231_1049 : am_find 231 1049 = some (.iconst 2, 1, 0, 2, 0) := by decide +kernel
theorem fi_231_1050 : am_find 231 1050 = some (.iadd, 1, 0, 0, 0) := by decide +kernel
theorem fi_231_1051 : am_find 231 1051 = some (.iaload, 1, 0, 0, 0) := by decide +kernel
theorem fi_231_1052 : am_find 231 1052 = some (.aload_n 0, 1, 0, 0, 0) := by decide +kernel
theorem fi_231_1053 : am_find 231 1053 = some (.iload_n 3, 1, 0, 0, 0) := by decide +kernel
theorem fi_231_1054 : am_find 231 1054 = some (.iconst 3, 1, 0, 3, 0) := by decide +kernel
theorem fi_231_1055 : am_find 231 1055 = some (.iadd, 1, 0, 0, 0) := by decide +kernel
theorem fi_231_1056 : am_find 231 1056 = some (.iaload, 1, 0, 0, 0) := by decide +kernel
theorem fi_231_1057 : am_find 231 1057 = some (.invokevirtual 137, 3, 128, 3, 284) := by decide +kernel
theorem fi_231_1060 : am_find 231 1060 = some (.aload_n 2, 1, 0, 0, 0) := by decide +kernel
theorem fi_231_1061 : am_find 231 1061 = some (.aload_n 0, 1, 0, 0, 0) := by decide +kernel
theorem fi_231_1062 : am_find 231 1062 = some (.iload_n 3, 1, 0, 0, 0) := by decide +kernel
theorem fi_231_1063 : am_find 231 1063 = some (.iconst 1, 1, 0, 1, 0) := by decide +kernel
theorem fi_231_1064 : am_find 231 1064 = some (.iadd, 1, 0, 0, 0) := by decide +kernel
theorem fi_231_1065 : am_find 231 1065 = some (.iaload, 1, 0, 0, 0) := by decide +kernel
theorem fi_231_1066 : am_find 231 1066 = some (.aload_n 0, 1, 0, 0, 0) := by decide +kernel
theorem fi_231_1067 : am_find 231 1067 = some (.iload_n 3, 1, 0, 0, 0) := by decide +kernel
theorem fi_231_1068 : am_find 231 1068 = some (.iconst 2, 1, 0, 2, 0) := by decide +kernel
theorem fi_231_1069 : am_find 231 1069 = some (.iadd, 1, 0, 0, 0) := by decide +kernel
theorem fi_231_1070 : am_find 231 1070 = some (.iaload, 1, 0, 0, 0) := by decide +kernel
theorem fi_231_1071 : am_find 231 1071 = some (.aload_n 0, 1, 0, 0, 0) := by decide +kernel
theorem fi_231_1072 : am_find 231 1072 = some (.iload_n 3, 1, 0, 0, 0) := by decide +kernel
theorem fi_231_1073 : am_find 231 1073 = some (.iconst 3, 1, 0, 3, 0) := by decide +kernel
theorem fi_231_1074 : am_find 231 1074 = some (.iadd, 1, 0, 0, 0) := by decide +kernel
theorem fi_231_1075 : am_find 231 1075 = some (.iaload, 1, 0, 0, 0) := by decide +kernel
theorem fi_231_1076 : am_find 231 1076 = some (.invokevirtual 140, 3, 217, 3, 285) := by decide +kernel
theorem fi_231_1079 : am_find 231 1079 = some (.if_icmp .eq 110, 3, 0, 0, 0) := by decide +kernel
theorem fi_231_1082 : am_find 231 1082 = some (.iconst 0, 1, 0, 0, 0) := by decide +kernel
theorem fi_231_1083 : am_find 231 1083 = some (.ireturn, 1, 1, 0, 0) := by decide +kernel
theorem fi_231_1084 : am_find 231 1084 = some (.aload_n 1, 1, 0, 0, 0) := by decide +kernel
theorem fi_231_1085 : am_find 231 1085 = some (.aload_n 0, 1, 0, 0, 0) := by decide +kernel
theorem fi_231_1086 : am_find 231 1086 = some (.iload_n 3, 1, 0, 0, 0) := by decide +kernel
theorem fi_231_1087 : am_find 231 1087 = some (.iconst 1, 1, 0, 1, 0) := by decide +kernel
theorem fi_231_1088 : am_find 231 1088 = some (.iadd, 1, 0, 0, 0) := by decide +kernel
theorem fi_231_1089 : am_find 231 1089 = some (.iaload, 1, 0, 0, 0) := by decide +kernel
theorem fi_231_1090 : am_find 231 1090 = some (.invokevirtual 141, 3, 135, 1, 286) := by decide +kernel
theorem fi_231_1093 : am_find 231 1093 = some (.aload_n 2, 1, 0, 0, 0) := by decide +kernel
theorem fi_231_1094 : am_find 231 1094 = some (.aload_n 0, 1, 0, 0, 0) := by decide +kernel
theorem fi_231_1095 : am_find 231 1095 = some (.iload_n 3, 1, 0, 0, 0) := by decide +kernel
theorem fi_231_1096 : am_find 231 1096 = some (.iconst 1, 1, 0, 1, 0) := by decide +kernel
theorem fi_231_1097 : am_find 231 1097 = some (.iadd, 1, 0, 0, 0) := by decide +kernel
theorem fi_231_1098 : am_find 231 1098 = some (.iaload, 1, 0, 0, 0) := by decide +kernel
theorem fi_231_1099 : am_find 231 1099 = some (.invokevirtual 144, 3, 226, 1, 287) := by decide +kernel
theorem fi_231_1102 : am_find 231 1102 = some (.if_icmp .eq 87, 3, 0, 0, 0) := by decide +kernel
theorem fi_231_1105 : am_find 231 1105 = some (.iconst 0, 1, 0, 0, 0) := by decide +kernel
theorem fi_231_1106 : am_find 231 1106 = some (.ireturn, 1, 1, 0, 0) := by decide +kernel
theorem fi_231_1107 : am_find 231 1107 = some (.aload_n 1, 1, 0, 0, 0) := by decide +kernel
theorem fi_231_1108 : am_find 231 1108 = some (.aload_n 0, 1, 0, 0, 0) := by decide +kernel
theorem fi_231_1109 : am_find 231 1109 = some (.iload_n 3, 1, 0, 0, 0) := by decide +kernel
theorem fi_231_1110 : am_find 231 1110 = some (.iconst 1, 1, 0, 1, 0) := by decide +kernel
theorem fi_231_1111 : am_find 231 1111 = some (.iadd, 1, 0, 0, 0) := by decide +kernel
theorem fi_231_1112 : am_find 231 1112 = some (.iaload, 1, 0, 0, 0) := by decide +kernel
theorem fi_231_1113 : am_find 231 1113 = some (.aload_n 0, 1, 0, 0, 0) := by decide +kernel
theorem fi_231_1114 : am_find 231 1114 = some (.iload_n 3, 1, 0, 0, 0) := by decide +kernel
theorem fi_231_1115 : am_find 231 1115 = some (.iconst 2, 1, 0, 2, 0) := by decide +kernel
theorem fi_231_1116 : am_find 231 1116 = some (.iadd, 1, 0, 0, 0) := by decide +kernel
theorem fi_231_1117 : am_find 231 1117 = some (.iaload, 1, 0, 0, 0) := by decide +kernel
theorem fi_231_1118 : am_find 231 1118 = some (.invokevirtual 145, 3, 136, 2, 288) := by decide +kernel
theorem fi_231_1121 : am_find 231 1121 = some (.aload_n 2, 1, 0, 0, 0) := by decide +kernel
theorem fi_231_1122 : am_find 231 1122 = some (.aload_n 0, 1, 0, 0, 0) := by decide +kernel
theorem fi_231_1123 : am_find 231 1123 = some (.iload_n 3, 1, 0, 0, 0) := by decide +kernel
theorem fi_231_1124 : am_find 231 1124 = some (.iconst 1, 1, 0, 1, 0) := by decide +kernel
theorem fi_231_1125 : am_find 231 1125 = some (.iadd, 1, 0, 0, 0) := by decide +kernel
theorem fi_231_1126 : am_find 231 1126 = some (.iaload, 1, 0, 0, 0) := by decide +kernel
theorem fi_231_1127 : am_find 231 1127 = some (.aload_n 0, 1, 0, 0, 0) := by decide +kernel
theorem fi_231_1128 : am_find 231 1128 = some (.iload_n 3, 1, 0, 0, 0) := by decide +kernel
theorem fi_231_1129 : am_find 231 1129 = some (.iconst 2, 1, 0, 2, 0) := by decide +kernel
theorem fi_231_1130 : am_find 231 1130 = some (.iadd, 1, 0, 0, 0) := by decide +kernel
theorem fi_231_1131 : am_find 231 1131 = some (.iaload, 1, 0, 0, 0) := by decide +kernel
theorem fi_231_1132 : am_find 231 1132 = some (.invokevirtual 148, 3, 227, 2, 289) := by decide +kernel
theorem fi_231_1135 : am_find 231 1135 = some (.if_icmp .eq 54, 3, 0, 0, 0) := by decide +kernel
theorem fi_231_1138 : am_find 231 1138 = some (.iconst 0, 1, 0, 0, 0) := by decide +kernel
theorem fi_231_1139 : am_find 231 1139 = some (.ireturn, 1, 1, 0, 0) := by decide +kernel
theorem fi_231_1140 : am_find 231 1140 = some (.aload_n 1, 1, 0, 0, 0) := by decide +kernel
theorem fi_231_1141 : am_find 231 1141 = some (.invokevirtual 149, 3, 138, 0, 290) := by decide +kernel
theorem fi_231_1144 : am_find 231 1144 = some (.aload_n 2, 1, 0, 0, 0) := by decide +kernel
theorem fi_231_1145 : am_find 231 1145 = some (.invokevirtual 152, 3, 228, 0, 291) := by decide +kernel
theorem fi_231_1148 : am_find 231 1148 = some (.if_icmp .eq 41, 3, 0, 0, 0) := by decide +kernel
theorem fi_231_1151 : am_find 231 1151 = some (.iconst 0, 1, 0, 0, 0) := by decide +kernel
theorem fi_231_1152 : am_find 231 1152 = some (.ireturn, 1, 1, 0, 0) := by decide +kernel
theorem fi_231_1153 : am_find 231 1153 = some (.aload_n 1, 1, 0, 0, 0) := by decide +kernel
theorem fi_231_1154 : am_find 231 1154 = some (.invokevirtual 153, 3, 141, 0, 292) := by decide +kernel
theorem fi_231_1157 : am_find 231 1157 = some (.aload_n 2, 1, 0, 0, 0) := by decide +kernel
theorem fi_231_1158 : am_find 231 1158 = some (.invokevirtual 156, 3, 229, 0, 293) := by decide +kernel
theorem fi_231_1161 : am_find 231 1161 = some (.if_icmp .eq 28, 3, 0, 0, 0) := by decide +kernel
theorem fi_231_1164 : am_find 231 1164 = some (.iconst 0, 1, 0, 0, 0) := by decide +kernel
theorem fi_231_1165 : am_find 231 1165 = some (.ireturn, 1, 1, 0, 0) := by decide +kernel
theorem fi_231_1166 : am_find 231 1166 = some (.aload_n 1, 1, 0, 0, 0) := by decide +kernel
theorem fi_231_1167 : am_find 231 1167 = some (.aload_n 0, 1, 0, 0, 0) := by decide +kernel
theorem fi_231_1168 : am_find 231 1168 = some (.iload_n 3, 1, 0, 0, 0) := by decide +kernel
theorem fi_231_1169 : am_find 231 1169 = some (.iconst 1, 1, 0, 1, 0) := by decide +kernel
theorem fi_231_1170 : am_find 231 1170 = some (.iadd, 1, 0, 0, 0) := by decide +kernel
theorem fi_231_1171 : am_find 231 1171 = some (.iaload, 1, 0, 0, 0) := by decide +kernel
theorem fi_231_1172 : am_find 231 1172 = some (.invokevirtual 157, 3, 142, 1, 294) := by decide +kernel
theorem fi_231_1175 : am_find 231 1175 = some (.aload_n 2, 1, 0, 0, 0) := by decide +kernel
theorem fi_231_1176 : am_find 231 1176 = some (.aload_n 0, 1, 0, 0, 0) := by decide +kernel
theorem fi_231_1177 : am_find 231 1177 = some (.iload_n 3, 1, 0, 0, 0) := by decide +kernel
theorem fi_231_1178 : am_find 231 1178 = some (.iconst 1, 1, 0, 1, 0) := by decide +kernel
theorem fi_231_1179 : am_find 231 1179 = some (.iadd, 1, 0, 0, 0) := by decide +kernel
theorem fi_231_1180 : am_find 231 1180 = some (.iaload, 1, 0, 0, 0) := by decide +kernel
theorem fi_231_1181 : am_find 231 1181 = some (.invokevirtual 160, 3, 230, 1, 295) := by decide +kernel
theorem fi_231_1184 : am_find 231 1184 = some (.if_icmp .eq 5, 3, 0, 0, 0) := by decide +kernel
theorem fi_231_1187 : am_find 231 1187 = some (.iconst 0, 1, 0, 0, 0) := by decide +kernel
theorem fi_231_1188 : am_find 231 1188 = some (.ireturn, 1, 1, 0, 0) := by decide +kernel
theorem fi_231_1189 : am_find 231 1189 = some (.iinc 3 4, 3, 0, 0, 0) := by decide +kernel
theorem fi_231_1192 : am_find 231 1192 = some (.goto (-1174), 3, 0, 0, 0) := by decide +kernel
theorem fi_231_1195 : am_find 231 1195 = some (.iconst 1, 1, 0, 1, 0) := by decide +kernel
theorem fi_231_1196 : am_find 231 1196 = some (.ireturn, 1, 1, 0, 0) := by decide +kernel
theorem b231_16 {d L : Nat} {σ : St} {Q : Option AV → AW → Prop} {u0 u1 u2 u3 : AV} : R d 231 16 [u0, u1, u2, u3] [] (WS L σ) Q = R d 231 18 [u0, u1, u2, vI 0] [] (WS L σ) Q := K_iconst fi_231_16 <| K_istore_n fi_231_17 (Nat.le_of_ble_eq_true rfl) rfl rfl <| rfl
theorem b231_18 {d L : Nat} {σ : St} {Q : Option AV → AW → Prop} {x3 : Int} {u1 u2 : AV} (h1 : -2147483648 ≤ (L : Int) - 4 ∧ (L : Int) - 4 ≤ 2147483647) : R d 231 18 [vR 0, u1, u2, vI x3] [] (WS L σ) Q = if ((L : Int) - 4) < x3 then R d 231 1195 [vR 0, u1, u2, vI x3] [] (WS L σ) Q else R d 231 26 [vR 0, u1, u2, vI x3] [] (WS L σ) Q := K_iload_n fi_231_18 rfl <| K_aload_n fi_231_19 rfl <| K_alenx fi_231_20 (Or.inr (Or.inr (Or.inr (Or.inl kd_0)))) rfl <| K_iconst fi_231_21 <| K_isubx fi_231_22 h1 <| R_icmp_gt fi_231_23 rfl
theorem sw231_26 {d L : Nat} {σ : St} {Q : Option AV → AW → Prop} {x : Int} {ls st : List AV} : R d 231 32 ls (vI x :: st) (WS L σ) Q = if x = 0 then R d 231 188 ls st (WS L σ) Q else if x = 1 then R d 231 231 ls st (WS L σ) Q else if x = 2 then R d 231 264 ls st (WS L σ) Q else if x = 3 then R d 231 287 ls st (WS L σ) Q else if x = 4 then R d 231 350 ls st (WS L σ) Q else if x = 5 then R d 231 363 ls st (WS L σ) Q else if x = 6 then R d 231 396 ls st (WS L σ) Q else if x = 7 then R d 231 429 ls st (WS L σ) Q else if x = 8 then R d 231 452 ls st (WS L σ) Q else if x = 9 then R d 231 475 ls st (WS L σ) Q else if x = 10 then R d 231 498 ls st (WS L σ) Q else if x = 11 then R d 231 531 ls st (WS L σ) Q else if x = 12 then R d 231 564 ls st (WS L σ) Q else if x = 13 then R d 231 597 ls st (WS L σ) Q else if x = 14 then R d 231 620 ls st (WS L σ) Q else if x = 15 then R d 231 643 ls st (WS L σ) Q else if x = 16 then R d 231 682 ls st (WS L σ) Q else if x = 17 then R d 231 695 ls st (WS L σ) Q else if x = 18 then R d 231 718 ls st (WS L σ) Q else if x = 19 then R d 231 741 ls st (WS L σ) Q else if x = 20 then R d 231 764 ls st (WS L σ) Q else if x = 21 then R d 231 787 ls st (WS L σ) Q else if x = 22 then R d 231 800 ls st (WS L σ) Q else if x = 23 then R d 231 823 ls st (WS L σ) Q else if x = 24 then R d 231 866 ls st (WS L σ) Q else if x = 25 then R d 231 909 ls st (WS L σ) Q else if x = 26 then R d 231 942 ls st (WS L σ) Q else if x = 27 then R d 231 985 ls st (WS L σ) Q else if x = 28 then R d 231 1018 ls st (WS L σ) Q else if x = 29 then R d 231 1041 ls st (WS L σ) Q else if x = 30 then R d 231 1084 ls st (WS L σ) Q else if x = 31 then R d 231 1107 ls st (WS L σ) Q else if x = 32 then R d 231 1140 ls st (WS L σ) Q else if x = 33 then R d 231 1153 ls st (WS L σ) Q else if x = 34 then R d 231 1166 ls st (WS L σ) Q else R d 231 1189 ls st (WS L σ) Q := by
  by_cases h0 : x = 0
  · subst h0; exact (R_tsw (t := 188) fi_231_32 rfl).trans (by simp)
  by_cases h1 : x = 1
  · subst h1; exact (R_tsw (t := 231) fi_231_32 rfl).trans (by simp)
  by_cases h2 : x = 2
  · subst h2; exact (R_tsw (t := 264) fi_231_32 rfl).trans (by simp)
  by_cases h3 : x = 3
  · subst h3; exact (R_tsw (t := 287) fi_231_32 rfl).trans (by simp)
  by_cases h4 : x = 4
  · subst h4; exact (R_tsw (t := 350) fi_231_32 rfl).trans (by simp)
  by_cases h5 : x = 5
  · subst h5; exact (R_tsw (t := 363) fi_231_32 rfl).trans (by simp)
  by_cases h6 : x = 6
  · subst h6; exact (R_tsw (t := 396) fi_231_32 rfl).trans (by simp)
  by_cases h7 : x = 7
  · subst h7; exact (R_tsw (t := 429) fi_231_32 rfl).trans (by simp)
  by_cases h8 : x = 8
  · subst h8; exact (R_tsw (t := 452) fi_231_32 rfl).trans (by simp)
  by_cases h9 : x = 9
  · subst h9; exact (R_tsw (t := 475) fi_231_32 rfl).trans (by simp)
  by_cases h10 : x = 10
  · subst h10; exact (R_tsw (t := 498) fi_231_32 rfl).trans (by simp)
  by_cases h11 : x = 11
  · subst h11; exact (R_tsw (t := 531) fi_231_32 rfl).trans (by simp)
  by_cases h12 : x = 12
  · subst h12; exact (R_tsw (t := 564) fi_231_32 rfl).trans (by simp)
  by_cases h13 : x = 13
  · subst h13; exact (R_tsw (t := 597) fi_231_32 rfl).trans (by simp)
  by_cases h14 : x = 14
  · subst h14; exact (R_tsw (t := 620) fi_231_32 rfl).trans (by simp)
  by_cases h15 : x = 15
  · subst h15; exact (R_tsw (t := 643) fi_231_32 rfl).trans (by simp)
  by_cases h16 : x = 16
  · subst h16; exact (R_tsw (t := 682) fi_231_32 rfl).trans (by simp)
  by_cases h17 : x = 17
  · subst h17; exact (R_tsw (t := 695) fi_231_32 rfl).trans (by simp)
  by_cases h18 : x = 18
  · subst h18; exact (R_tsw (t := 718) fi_231_32 rfl).trans (by simp)
  by_cases h19 : x = 19
  · subst h19; exact (R_tsw (t := 741) fi_231_32 rfl).trans (by simp)
  by_cases h20 : x = 20
  · subst h20; exact (R_tsw (t := 764) fi_231_32 rfl).trans (by simp)
  by_cases h21 : x = 21
  · subst h21; exact (R_tsw (t := 787) fi_231_32 rfl).trans (by simp)
  by_cases h22 : x = 22
  · subst h22; exact (R_tsw (t := 800) fi_231_32 rfl).trans (by simp)
  by_cases h23 : x = 23
  · subst h23; exact (R_tsw (t := 823) fi_231_32 rfl).trans (by simp)
  by_cases h24 : x = 24
  · subst h24; exact (R_tsw (t := 866) fi_231_32 rfl).trans (by simp)
  by_cases h25 : x = 25
  · subst h25; exact (R_tsw (t := 909) fi_231_32 rfl).trans (by simp)
  by_cases h26 : x = 26
  · subst h26; exact (R_tsw (t := 942) fi_231_32 rfl).trans (by simp)
  by_cases h27 : x = 27
  · subst h27; exact (R_tsw (t := 985) fi_231_32 rfl).trans (by simp)
  by_cases h28 : x = 28
  · subst h28; exact (R_tsw (t := 1018) fi_231_32 rfl).trans (by simp)
  by_cases h29 : x = 29
  · subst h29; exact (R_tsw (t := 1041) fi_231_32 rfl).trans (by simp)
  by_cases h30 : x = 30
  · subst h30; exact (R_tsw (t := 1084) fi_231_32 rfl).trans (by simp)
  by_cases h31 : x = 31
  · subst h31; exact (R_tsw (t := 1107) fi_231_32 rfl).trans (by simp)
  by_cases h32 : x = 32
  · subst h32; exact (R_tsw (t := 1140) fi_231_32 rfl).trans (by simp)
  by_cases h33 : x = 33
  · subst h33; exact (R_tsw (t := 1153) fi_231_32 rfl).trans (by simp)
  by_cases h34 : x = 34
  · subst h34; exact (R_tsw (t := 1166) fi_231_32 rfl).trans (by simp)
  rw [R_tsw (t := 1189) fi_231_32 (by show (if x < 0 ∨ 34 < x then _ else _) = _; rw [if_pos (by omega)]; rfl)]
  rw [if_neg h0, if_neg h1, if_neg h2, if_neg h3, if_neg h4, if_neg h5, if_neg h6, if_neg h7, if_neg h8, if_neg h9, if_neg h10, if_neg h11, if_neg h12, if_neg h13, if_neg h14, if_neg h15, if_neg h16, if_neg h17, if_neg h18, if_neg h19, if_neg h20, if_neg h21, if_neg h22, if_neg h23, if_neg h24, if_neg h25, if_neg h26, if_neg h27, if_neg h28, if_neg h29, if_neg h30, if_neg h31, if_neg h32, if_neg h33, if_neg h34]
theorem b231_26 {d L : Nat} {σ : St} {Q : Option AV → AW → Prop} {x3 : Int} {u1 u2 : AV} (h1 : 0 ≤ x3) (h2 : x3 < (L : Int)) : R d 231 26 [vR 0, u1, u2, vI x3] [] (WS L σ) Q = if (i_and (σ 0 x3) 63) = 0 then R d 231 188 [vR 0, u1, u2, vI x3] [] (WS L σ) Q else if (i_and (σ 0 x3) 63) = 1 then R d 231 231 [vR 0, u1, u2, vI x3] [] (WS L σ) Q else if (i_and (σ 0 x3) 63) = 2 then R d 231 264 [vR 0, u1, u2, vI x3] [] (WS L σ) Q else if (i_and (σ 0 x3) 63) = 3 then R d 231 287 [vR 0, u1, u2, vI x3] [] (WS L σ) Q else if (i_and (σ 0 x3) 63) = 4 then R d 231 350 [vR 0, u1, u2, vI x3] [] (WS L σ) Q else if (i_and (σ 0 x3) 63) = 5 then R d 231 363 [vR 0, u1, u2, vI x3] [] (WS L σ) Q else if (i_and (σ 0 x3) 63) = 6 then R d 231 396 [vR 0, u1, u2, vI x3] [] (WS L σ) Q else if (i_and (σ 0 x3) 63) = 7 then R d 231 429 [vR 0, u1, u2, vI x3] [] (WS L σ) Q else if (i_and (σ 0 x3) 63) = 8 then R d 231 452 [vR 0, u1, u2, vI x3] [] (WS L σ) Q else if (i_and (σ 0 x3) 63) = 9 then R d 231 475 [vR 0, u1, u2, vI x3] [] (WS L σ) Q else if (i_and (σ 0 x3) 63) = 10 then R d 231 498 [vR 0, u1, u2, vI x3] [] (WS L σ) Q else if (i_and (σ 0 x3) 63) = 11 then R d 231 531 [vR 0, u1, u2, vI x3] [] (WS L σ) Q else if (i_and (σ 0 x3) 63) = 12 then R d 231 564 [vR 0, u1, u2, vI x3] [] (WS L σ) Q else if (i_and (σ 0 x3) 63) = 13 then R d 231 597 [vR 0, u1, u2, vI x3] [] (WS L σ) Q else if (i_and (σ 0 x3) 63) = 14 then R d 231 620 [vR 0, u1, u2, vI x3] [] (WS L σ) Q else if (i_and (σ 0 x3) 63) = 15 then R d 231 643 [vR 0, u1, u2, vI x3] [] (WS L σ) Q else if (i_and (σ 0 x3) 63) = 16 then R d 231 682 [vR 0, u1, u2, vI x3] [] (WS L σ) Q else if (i_and (σ 0 x3) 63) = 17 then R d 231 695 [vR 0, u1, u2, vI x3] [] (WS L σ) Q else if (i_and (σ 0 x3) 63) = 18 then R d 231 718 [vR 0, u1, u2, vI x3] [] (WS L σ) Q else if (i_and (σ 0 x3) 63) = 19 then R d 231 741 [vR 0, u1, u2, vI x3] [] (WS L σ) Q else if (i_and (σ 0 x3) 63) = 20 then R d 231 764 [vR 0, u1, u2, vI x3] [] (WS L σ) Q else if (i_and (σ 0 x3) 63) = 21 then R d 231 787 [vR 0, u1, u2, vI x3] [] (WS L σ) Q else if (i_and (σ 0 x3) 63) = 22 then R d 231 800 [vR 0, u1, u2, vI x3] [] (WS L σ) Q else if (i_and (σ 0 x3) 63) = 23 then R d 231 823 [vR 0, u1, u2, vI x3] [] (WS L σ) Q else if (i_and (σ 0 x3) 63) = 24 then R d 231 866 [vR 0, u1, u2, vI x3] [] (WS L σ) Q else if (i_and (σ 0 x3) 63) = 25 then R d 231 909 [vR 0, u1, u2, vI x3] [] (WS L σ) Q else if (i_and (σ 0 x3) 63) = 26 then R d 231 942 [vR 0, u1, u2, vI x3] [] (WS L σ) Q else if (i_and (σ 0 x3) 63) = 27 then R d 231 985 [vR 0, u1, u2, vI x3] [] (WS L σ) Q else if (i_and (σ 0 x3) 63) = 28 then R d 231 1018 [vR 0, u1, u2, vI x3] [] (WS L σ) Q else if (i_and (σ 0 x3) 63) = 29 then R d 231 1041 [vR 0, u1, u2, vI x3] [] (WS L σ) Q else if (i_and (σ 0 x3) 63) = 30 then R d 231 1084 [vR 0, u1, u2, vI x3] [] (WS L σ) Q else if (i_and (σ 0 x3) 63) = 31 then R d 231 1107 [vR 0, u1, u2, vI x3] [] (WS L σ) Q else if (i_and (σ 0 x3) 63) = 32 then R d 231 1140 [vR 0, u1, u2, vI x3] [] (WS L σ) Q else if (i_and (σ 0 x3) 63) = 33 then R d 231 1153 [vR 0, u1, u2, vI x3] [] (WS L σ) Q else if (i_and (σ 0 x3) 63) = 34 then R d 231 1166 [vR 0, u1, u2, vI x3] [] (WS L σ) Q else R d 231 1189 [vR 0, u1, u2, vI x3] [] (WS L σ) Q := K_aload_n fi_231_26 rfl <| K_iload_n fi_231_27 rfl <| K_iascr fi_231_28 h1 h2 <| K_bipush fi_231_29 <| K_iand fi_231_31 <| sw231_26
theorem b231_188 {d L : Nat} {σ : St} {Q : Option AV → AW → Prop} {x3 : Int} {u2 : AV} (h1 : -2147483648 ≤ x3 + 1 ∧ x3 + 1 ≤ 2147483647) (h2 : 0 ≤ x3 + 1) (h3 : (x3 + 1) < (L : Int)) (h4 : -2147483648 ≤ x3 + 2 ∧ x3 + 2 ≤ 2147483647) (h5 : 0 ≤ x3 + 2) (h6 : (x3 + 2) < (L : Int)) (h7 : -2147483648 ≤ x3 + 3 ∧ x3 + 3 ≤ 2147483647) (h8 : 0 ≤ x3 + 3) (h9 : (x3 + 3) < (L : Int)) : R (d + 1) 231 188 [vR 0, vR 19, u2, vI x3] [] (WS L σ) Q = R d 12 0 [vR 19, vI (σ 0 (x3 + 1)), vI (σ 0 (x3 + 2)), vI (σ 0 (x3 + 3)), vX 9, vX 9] [] (WS L σ) (fun r w => R (d + 1) 231 207 [vR 0, vR 19, u2, vI x3] (am_push r []) w Q) := K_aload_n fi_231_188 rfl <| K_aload_n fi_231_189 rfl <| K_iload_n fi_231_190 rfl <| K_iconst fi_231_191 <| K_iaddx fi_231_192 h1 <| K_iascr fi_231_193 h2 h3 <| K_aload_n fi_231_194 rfl <| K_iload_n fi_231_195 rfl <| K_iconst fi_231_196 <| K_iaddx fi_231_197 h4 <| K_iascr fi_231_198 h5 h6 <| K_aload_n fi_231_199 rfl <| K_iload_n fi_231_200 rfl <| K_iconst fi_231_201 <| K_iaddx fi_231_202 h7 <| K_iascr fi_231_203 h8 h9 <| R_invV fi_231_204 (am_invV_of rfl (kd_19) (Nat.le_of_ble_eq_true rfl) (Nat.le_of_ble_eq_true rfl) rfl rfl)
theorem b231_207 {d L : Nat} {σ : St} {Q : Option AV → AW → Prop} {y0 x3 : Int} {u1 : AV} (h1 : -2147483648 ≤ x3 + 1 ∧ x3 + 1 ≤ 2147483647) (h2 : 0 ≤ x3 + 1) (h3 : (x3 + 1) < (L : Int)) (h4 : -2147483648 ≤ x3 + 2 ∧ x3 + 2 ≤ 2147483647) (h5 : 0 ≤ x3 + 2) (h6 : (x3 + 2) < (L : Int)) (h7 : -2147483648 ≤ x3 + 3 ∧ x3 + 3 ≤ 2147483647) (h8 : 0 ≤ x3 + 3) (h9 : (x3 + 3) < (L : Int)) : R (d + 1) 231 207 [vR 0, u1, vR 153, vI x3] [vI y0] (WS L σ) Q = R d 144 0 [vR 153, vI (σ 0 (x3 + 1)), vI (σ 0 (x3 + 2)), vI (σ 0 (x3 + 3)), vX 9] [] (WS L σ) (fun r w => R (d + 1) 231 226 [vR 0, u1, vR 153, vI x3] (am_push r [vI y0]) w Q) := K_aload_n fi_231_207 rfl <| K_aload_n fi_231_208 rfl <| K_iload_n fi_231_209 rfl <| K_iconst fi_231_210 <| K_iaddx fi_231_211 h1 <| K_iascr fi_231_212 h2 h3 <| K_aload_n fi_231_213 rfl <| K_iload_n fi_231_214 rfl <| K_iconst fi_231_215 <| K_iaddx fi_231_216 h4 <| K_iascr fi_231_217 h5 h6 <| K_aload_n fi_231_218 rfl <| K_iload_n fi_231_219 rfl <| K_iconst fi_231_220 <| K_iaddx fi_231_221 h7 <| K_iascr fi_231_222 h8 h9 <| R_invV fi_231_223 (am_invV_of rfl (kd_153) (Nat.le_of_ble_eq_true rfl) (Nat.le_of_ble_eq_true rfl) rfl rfl)
theorem b231_226 {d L : Nat} {σ : St} {Q : Option AV → AW → Prop} {y0 y1 : Int} {u0 u1 u2 u3 : AV} : R d 231 226 [u0, u1, u2, u3] [vI y0, vI y1] (WS L σ) Q = if y1 = y0 then R d 231 1189 [u0, u1, u2, u3] [] (WS L σ) Q else R d 231 229 [u0, u1, u2, u3] [] (WS L σ) Q := R_icmp_eq fi_231_226 rfl
theorem b231_229 {d L : Nat} {σ : St} {Q : Option AV → AW → Prop} {u0 u1 u2 u3 : AV} : R d 231 229 [u0, u1, u2, u3] [] (WS L σ) Q = Q (some (vI 0)) (WS L σ) := K_iconst fi_231_229 <| R_ireti fi_231_230 rfl
theorem b231_231 {d L : Nat} {σ : St} {Q : Option AV → AW → Prop} {x3 : Int} {u2 : AV} (h1 : -2147483648 ≤ x3 + 1 ∧ x3 + 1 ≤ 2147483647) (h2 : 0 ≤ x3 + 1) (h3 : (x3 + 1) < (L : Int)) (h4 : -2147483648 ≤ x3 + 2 ∧ x3 + 2 ≤ 2147483647) (h5 : 0 ≤ x3 + 2) (h6 : (x3 + 2) < (L : Int)) : R (d + 1) 231 231 [vR 0, vR 19, u2, vI x3] [] (WS L σ) Q = R d 44 0 [vR 19, vI (σ 0 (x3 + 1)), vI (σ 0 (x3 + 2)), vX 9] [] (WS L σ) (fun r w => R (d + 1) 231 245 [vR 0, vR 19, u2, vI x3] (am_push r []) w Q) := K_aload_n fi_231_231 rfl <| K_aload_n fi_231_232 rfl <| K_iload_n fi_231_233 rfl <| K_iconst fi_231_234 <| K_iaddx fi_231_235 h1 <| K_iascr fi_231_236 h2 h3 <| K_aload_n fi_231_237 rfl <| K_iload_n fi_231_238 rfl <| K_iconst fi_231_239 <| K_iaddx fi_231_240 h4 <| K_iascr fi_231_241 h5 h6 <| R_invV fi_231_242 (am_invV_of rfl (kd_19) (Nat.le_of_ble_eq_true rfl) (Nat.le_of_ble_eq_true rfl) rfl rfl)
theorem b231_245 {d L : Nat} {σ : St} {Q : Option AV → AW → Prop} {y0 x3 : Int} {u1 : AV} (h1 : -2147483648 ≤ x3 + 1 ∧ x3 + 1 ≤ 2147483647) (h2 : 0 ≤ x3 + 1) (h3 : (x3 + 1) < (L : Int)) (h4 : -2147483648 ≤ x3 + 2 ∧ x3 + 2 ≤ 2147483647) (h5 : 0 ≤ x3 + 2) (h6 : (x3 + 2) < (L : Int)) : R (d + 1) 231 245 [vR 0, u1, vR 153, vI x3] [vI y0] (WS L σ) Q = R d 146 0 [vR 153, vI (σ 0 (x3 + 1)), vI (σ 0 (x3 + 2))] [] (WS L σ) (fun r w => R (d + 1) 231 259 [vR 0, u1, vR 153, vI x3] (am_push r [vI y0]) w Q) := K_aload_n fi_231_245 rfl <| K_aload_n fi_231_246 rfl <| K_iload_n fi_231_247 rfl <| K_iconst fi_231_248 <| K_iaddx fi_231_249 h1 <| K_iascr fi_231_250 h2 h3 <| K_aload_n fi_231_251 rfl <| K_iload_n fi_231_252 rfl <| K_iconst fi_231_253 <| K_iaddx fi_231_254 h4 <| K_iascr fi_231_255 h5 h6 <| R_invV fi_231_256 (am_invV_of rfl (kd_153) (Nat.le_of_ble_eq_true rfl) (Nat.le_of_ble_eq_true rfl) rfl rfl)
theorem b231_259 {d L : Nat} {σ : St} {Q : Option AV → AW → Prop} {y0 y1 : Int} {u0 u1 u2 u3 : AV} : R d 231 259 [u0, u1, u2, u3] [vI y0, vI y1] (WS L σ) Q = if y1 = y0 then R d 231 1189 [u0, u1, u2, u3] [] (WS L σ) Q else R d 231 262 [u0, u1, u2, u3] [] (WS L σ) Q := R_icmp_eq fi_231_259 rfl
theorem b231_262 {d L : Nat} {σ : St} {Q : Option AV → AW → Prop} {u0 u1 u2 u3 : AV} : R d 231 262 [u0, u1, u2, u3] [] (WS L σ) Q = Q (some (vI 0)) (WS L σ) := K_iconst fi_231_262 <| R_ireti fi_231_263 rfl
theorem b231_264 {d L : Nat} {σ : St} {Q : Option AV → AW → Prop} {x3 : Int} {u2 : AV} (h1 : -2147483648 ≤ x3 + 1 ∧ x3 + 1 ≤ 2147483647) (h2 : 0 ≤ x3 + 1) (h3 : (x3 + 1) < (L : Int)) : R (d + 1) 231 264 [vR 0, vR 19, u2, vI x3] [] (WS L σ) Q = R d 45 0 [vR 19, vI (σ 0 (x3 + 1)), vX 9] [] (WS L σ) (fun r w => R (d + 1) 231 273 [vR 0, vR 19, u2, vI x3] (am_push r []) w Q) := K_aload_n fi_231_264 rfl <| K_aload_n fi_231_265 rfl <| K_iload_n fi_231_266 rfl <| K_iconst fi_231_267 <| K_iaddx fi_231_268 h1 <| K_iascr fi_231_269 h2 h3 <| R_invV fi_231_270 (am_invV_of rfl (kd_19) (Nat.le_of_ble_eq_true rfl) (Nat.le_of_ble_eq_true rfl) rfl rfl)
theorem b231_273 {d L : Nat} {σ : St} {Q : Option AV → AW → Prop} {y0 x3 : Int} {u1 : AV} (h1 : -2147483648 ≤ x3 + 1 ∧ x3 + 1 ≤ 2147483647) (h2 : 0 ≤ x3 + 1) (h3 : (x3 + 1) < (L : Int)) : R (d + 1) 231 273 [vR 0, u1, vR 153, vI x3] [vI y0] (WS L σ) Q = R d 148 0 [vR 153, vI (σ 0 (x3 + 1)), vX 9] [] (WS L σ) (fun r w => R (d + 1) 231 282 [vR 0, u1, vR 153, vI x3] (am_push r [vI y0]) w Q) := K_aload_n fi_231_273 rfl <| K_aload_n fi_231_274 rfl <| K_iload_n fi_231_275 rfl <| K_iconst fi_231_276 <| K_iaddx fi_231_277 h1 <| K_iascr fi_231_278 h2 h3 <| R_invV fi_231_279 (am_invV_of rfl (kd_153) (Nat.le_of_ble_eq_true rfl) (Nat.le_of_ble_eq_true rfl) rfl rfl)
theorem b231_282 {d L : Nat} {σ : St} {Q : Option AV → AW → Prop} {y0 y1 : Int} {u0 u1 u2 u3 : AV} : R d 231 282 [u0, u1, u2, u3] [vI y0, vI y1] (WS L σ) Q = if y1 = y0 then R d 231 1189 [u0, u1, u2, u3] [] (WS L σ) Q else R d 231 285 [u0, u1, u2, u3] [] (WS L σ) Q := R_icmp_eq fi_231_282 rfl
theorem b231_285 {d L : Nat} {σ : St} {Q : Option AV → AW → Prop} {u0 u1 u2 u3 : AV} : R d 231 285 [u0, u1, u2, u3] [] (WS L σ) Q = Q (some (vI 0)) (WS L σ) := K_iconst fi_231_285 <| R_ireti fi_231_286 rfl
theorem b231_287 {d L : Nat} {σ : St} {Q : Option AV → AW → Prop} {x3 : Int} {u2 : AV} (h1 : -2147483648 ≤ x3 + 1 ∧ x3 + 1 ≤ 2147483647) (h2 : 0 ≤ x3 + 1) (h3 : (x3 + 1) < (L : Int)) (h4 : -2147483648 ≤ x3 + 2 ∧ x3 + 2 ≤ 2147483647) (h5 : 0 ≤ x3 + 2) (h6 : (x3 + 2) < (L : Int)) (h7 : -2147483648 ≤ x3 + 3 ∧ x3 + 3 ≤ 2147483647) (h8 : 0 ≤ x3 + 3) (h9 : (x3 + 3) < (L : Int)) : R (d + 1) 231 287 [vR 0, vR 19, u2, vI x3] [] (WS L σ) Q = R d 47 0 [vR 19, vL ((l_shl (i_l (σ 0 (x3 + 1))) 32) ||| ((i_l (σ 0 (x3 + 2))) &&& (Int64.ofInt 4294967295))), vX 9, vI (σ 0 (x3 + 3)), vX 9] [] (WS L σ) (fun r w => R (d + 1) 231 316 [vR 0, vR 19, u2, vI x3] (am_push r []) w Q) := K_aload_n fi_231_287 rfl <| K_aload_n fi_231_288 rfl <| K_iload_n fi_231_289 rfl <| K_iconst fi_231_290 <| K_iaddx fi_231_291 h1 <| K_iascr fi_231_292 h2 h3 <| K_i2l fi_231_293 <| K_bipush fi_231_294 <| K_lshl fi_231_296 <| K_aload_n fi_231_297 rfl <| K_iload_n fi_231_298 rfl <| K_iconst fi_231_299 <| K_iaddx fi_231_300 h4 <| K_iascr fi_231_301 h5 h6 <| K_i2l fi_231_302 <| K_ldc2 fi_231_303 <| K_land fi_231_306 <| K_lor fi_231_307 <| K_aload_n fi_231_308 rfl <| K_iload_n fi_231_309 rfl <| K_iconst fi_231_310 <| K_iaddx fi_231_311 h7 <| K_iascr fi_231_312 h8 h9 <| R_invV fi_231_313 (am_invV_of rfl (kd_19) (Nat.le_of_ble_eq_true rfl) (Nat.le_of_ble_eq_true rfl) rfl rfl)
theorem b231_316 {d L : Nat} {σ : St} {Q : Option AV → AW → Prop} {y0 x3 : Int} {u1 : AV} (h1 : -2147483648 ≤ x3 + 1 ∧ x3 + 1 ≤ 2147483647) (h2 : 0 ≤ x3 + 1) (h3 : (x3 + 1) < (L : Int)) (h4 : -2147483648 ≤ x3 + 2 ∧ x3 + 2 ≤ 2147483647) (h5 : 0 ≤ x3 + 2) (h6 : (x3 + 2) < (L : Int)) (h7 : -2147483648 ≤ x3 + 3 ∧ x3 + 3 ≤ 2147483647) (h8 : 0 ≤ x3 + 3) (h9 : (x3 + 3) < (L : Int)) : R (d + 1) 231 316 [vR 0, u1, vR 153, vI x3] [vI y0] (WS L σ) Q = R d 150 0 [vR 153, vL ((l_shl (i_l (σ 0 (x3 + 1))) 32) ||| ((i_l (σ 0 (x3 + 2))) &&& (Int64.ofInt 4294967295))), vX 9, vI (σ 0 (x3 + 3)), vX 9] [] (WS L σ) (fun r w => R (d + 1) 231 345 [vR 0, u1, vR 153, vI x3] (am_push r [vI y0]) w Q) := K_aload_n fi_231_316 rfl <| K_aload_n fi_231_317 rfl <| K_iload_n fi_231_318 rfl <| K_iconst fi_231_319 <| K_iaddx fi_231_320 h1 <| K_iascr fi_231_321 h2 h3 <| K_i2l fi_231_322 <| K_bipush fi_231_323 <| K_lshl fi_231_325 <| K_aload_n fi_231_326 rfl <| K_iload_n fi_231_327 rfl <| K_iconst fi_231_328 <| K_iaddx fi_231_329 h4 <| K_iascr fi_231_330 h5 h6 <| K_i2l fi_231_331 <| K_ldc2 fi_231_332 <| K_land fi_231_335 <| K_lor fi_231_336 <| K_aload_n fi_231_337 rfl <| K_iload_n fi_231_338 rfl <| K_iconst fi_231_339 <| K_iaddx fi_231_340 h7 <| K_iascr fi_231_341 h8 h9 <| R_invV fi_231_342 (am_invV_of rfl (kd_153) (Nat.le_of_ble_eq_true rfl) (Nat.le_of_ble_eq_true rfl) rfl rfl)
theorem b231_345 {d L : Nat} {σ : St} {Q : Option AV → AW → Prop} {y0 y1 : Int} {u0 u1 u2 u3 : AV} : R d 231 345 [u0, u1, u2, u3] [vI y0, vI y1] (WS L σ) Q = if y1 = y0 then R d 231 1189 [u0, u1, u2, u3] [] (WS L σ) Q else R d 231 348 [u0, u1, u2, u3] [] (WS L σ) Q := R_icmp_eq fi_231_345 rfl
theorem b231_348 {d L : Nat} {σ : St} {Q : Option AV → AW → Prop} {u0 u1 u2 u3 : AV} : R d 231 348 [u0, u1, u2, u3] [] (WS L σ) Q = Q (some (vI 0)) (WS L σ) := K_iconst fi_231_348 <| R_ireti fi_231_349 rfl
theorem b231_350 {d L : Nat} {σ : St} {Q : Option AV → AW → Prop} {u0 u2 u3 : AV} : R (d + 1) 231 350 [u0, vR 19, u2, u3] [] (WS L σ) Q = R d 49 0 [vR 19, vX 9, vX 9] [] (WS L σ) (fun r w => R (d + 1) 231 354 [u0, vR 19, u2, u3] (am_push r []) w Q) := K_aload_n fi_231_350 rfl <| R_invV fi_231_351 (am_invV_of rfl (kd_19) (Nat.le_of_ble_eq_true rfl) (Nat.le_of_ble_eq_true rfl) rfl rfl)
theorem b231_354 {d L : Nat} {σ : St} {Q : Option AV → AW → Prop} {y0 : Int} {u0 u1 u3 : AV} : R (d + 1) 231 354 [u0, u1, vR 153, u3] [vI y0] (WS L σ) Q = R d 151 0 [vR 153, vX 9] [] (WS L σ) (fun r w => R (d + 1) 231 358 [u0, u1, vR 153, u3] (am_push r [vI y0]) w Q) := K_aload_n fi_231_354 rfl <| R_invV fi_231_355 (am_invV_of rfl (kd_153) (Nat.le_of_ble_eq_true rfl) (Nat.le_of_ble_eq_true rfl) rfl rfl)
theorem b231_358 {d L : Nat} {σ : St} {Q : Option AV → AW → Prop} {y0 y1 : Int} {u0 u1 u2 u3 : AV} : R d 231 358 [u0, u1, u2, u3] [vI y0, vI y1] (WS L σ) Q = if y1 = y0 then R d 231 1189 [u0, u1, u2, u3] [] (WS L σ) Q else R d 231 361 [u0, u1, u2, u3] [] (WS L σ) Q := R_icmp_eq fi_231_358 rfl
theorem b231_361 {d L : Nat} {σ : St} {Q : Option AV → AW → Prop} {u0 u1 u2 u3 : AV} : R d 231 361 [u0, u1, u2, u3] [] (WS L σ) Q = Q (some (vI 0)) (WS L σ) := K_iconst fi_231_361 <| R_ireti fi_231_362 rfl
theorem b231_363 {d L : Nat} {σ : St} {Q : Option AV → AW → Prop} {x3 : Int} {u2 : AV} (h1 : -2147483648 ≤ x3 + 1 ∧ x3 + 1 ≤ 2147483647) (h2 : 0 ≤ x3 + 1) (h3 : (x3 + 1) < (L : Int)) (h4 : -2147483648 ≤ x3 + 2 ∧ x3 + 2 ≤ 2147483647) (h5 : 0 ≤ x3 + 2) (h6 : (x3 + 2) < (L : Int)) : R (d + 1) 231 363 [vR 0, vR 19, u2, vI x3] [] (WS L σ) Q = R d 54 0 [vR 19, vI (σ 0 (x3 + 1)), vI (σ 0 (x3 + 2)), vX 9] [] (WS L σ) (fun r w => R (d + 1) 231 377 [vR 0, vR 19, u2, vI x3] (am_push r []) w Q) := K_aload_n fi_231_363 rfl <| K_aload_n fi_231_364 rfl <| K_iload_n fi_231_365 rfl <| K_iconst fi_231_366 <| K_iaddx fi_231_367 h1 <| K_iascr fi_231_368 h2 h3 <| K_aload_n fi_231_369 rfl <| K_iload_n fi_231_370 rfl <| K_iconst fi_231_371 <| K_iaddx fi_231_372 h4 <| K_iascr fi_231_373 h5 h6 <| R_invV fi_231_374 (am_invV_of rfl (kd_19) (Nat.le_of_ble_eq_true rfl) (Nat.le_of_ble_eq_true rfl) rfl rfl)
theorem b231_377 {d L : Nat} {σ : St} {Q : Option AV → AW → Prop} {y0 x3 : Int} {u1 : AV} (h1 : -2147483648 ≤ x3 + 1 ∧ x3 + 1 ≤ 2147483647) (h2 : 0 ≤ x3 + 1) (h3 : (x3 + 1) < (L : Int)) (h4 : -2147483648 ≤ x3 + 2 ∧ x3 + 2 ≤ 2147483647) (h5 : 0 ≤ x3 + 2) (h6 : (x3 + 2) < (L : Int)) : R (d + 1) 231 377 [vR 0, u1, vR 153, vI x3] [vI y0] (WS L σ) Q = R d 166 0 [vR 153, vI (σ 0 (x3 + 1)), vI (σ 0 (x3 + 2)), vX 9] [] (WS L σ) (fun r w => R (d + 1) 231 391 [vR 0, u1, vR 153, vI x3] (am_push r [vI y0]) w Q) := K_aload_n fi_231_377 rfl <| K_aload_n fi_231_378 rfl <| K_iload_n fi_231_379 rfl <| K_iconst fi_231_380 <| K_iaddx fi_231_381 h1 <| K_iascr fi_231_382 h2 h3 <| K_aload_n fi_231_383 rfl <| K_iload_n fi_231_384 rfl <| K_iconst fi_231_385 <| K_iaddx fi_231_386 h4 <| K_iascr fi_231_387 h5 h6 <| R_invV fi_231_388 (am_invV_of rfl (kd_153) (Nat.le_of_ble_eq_true rfl) (Nat.le_of_ble_eq_true rfl) rfl rfl)
theorem b231_391 {d L : Nat} {σ : St} {Q : Option AV → AW → Prop} {y0 y1 : Int} {u0 u1 u2 u3 : AV} : R d 231 391 [u0, u1, u2, u3] [vI y0, vI y1] (WS L σ) Q = if y1 = y0 then R d 231 1189 [u0, u1, u2, u3] [] (WS L σ) Q else R d 231 394 [u0, u1, u2, u3] [] (WS L σ) Q := R_icmp_eq fi_231_391 rfl
theorem b231_394 {d L : Nat} {σ : St} {Q : Option AV → AW → Prop} {u0 u1 u2 u3 : AV} : R d 231 394 [u0, u1, u2, u3] [] (WS L σ) Q = Q (some (vI 0)) (WS L σ) := K_iconst fi_231_394 <| R_ireti fi_231_395 rfl
theorem b231_396 {d L : Nat} {σ : St} {Q : Option AV → AW → Prop} {x3 : Int} {u2 : AV} (h1 : -2147483648 ≤ x3 + 1 ∧ x3 + 1 ≤ 2147483647) (h2 : 0 ≤ x3 + 1) (h3 : (x3 + 1) < (L : Int)) (h4 : -2147483648 ≤ x3 + 2 ∧ x3 + 2 ≤ 2147483647) (h5 : 0 ≤ x3 + 2) (h6 : (x3 + 2) < (L : Int)) : R (d + 1) 231 396 [vR 0, vR 19, u2, vI x3] [] (WS L σ) Q = R d 56 0 [vR 19, vI (σ 0 (x3 + 1)), vI (σ 0 (x3 + 2))] [] (WS L σ) (fun r w => R (d + 1) 231 410 [vR 0, vR 19, u2, vI x3] (am_push r []) w Q) := K_aload_n fi_231_396 rfl <| K_aload_n fi_231_397 rfl <| K_iload_n fi_231_398 rfl <| K_iconst fi_231_399 <| K_iaddx fi_231_400 h1 <| K_iascr fi_231_401 h2 h3 <| K_aload_n fi_231_402 rfl <| K_iload_n fi_231_403 rfl <| K_iconst fi_231_404 <| K_iaddx fi_231_405 h4 <| K_iascr fi_231_406 h5 h6 <| R_invV fi_231_407 (am_invV_of rfl (kd_19) (Nat.le_of_ble_eq_true rfl) (Nat.le_of_ble_eq_true rfl) rfl rfl)
theorem b231_410 {d L : Nat} {σ : St} {Q : Option AV → AW → Prop} {y0 x3 : Int} {u1 : AV} (h1 : -2147483648 ≤ x3 + 1 ∧ x3 + 1 ≤ 2147483647) (h2 : 0 ≤ x3 + 1) (h3 : (x3 + 1) < (L : Int)) (h4 : -2147483648 ≤ x3 + 2 ∧ x3 + 2 ≤ 2147483647) (h5 : 0 ≤ x3 + 2) (h6 : (x3 + 2) < (L : Int)) : R (d + 1) 231 410 [vR 0, u1, vR 153, vI x3] [vI y0] (WS L σ) Q = R d 168 0 [vR 153, vI (σ 0 (x3 + 1)), vI (σ 0 (x3 + 2))] [] (WS L σ) (fun r w => R (d + 1) 231 424 [vR 0, u1, vR 153, vI x3] (am_push r [vI y0]) w Q) := K_aload_n fi_231_410 rfl <| K_aload_n fi_231_411 rfl <| K_iload_n fi_231_412 rfl <| K_iconst fi_231_413 <| K_iaddx fi_231_414 h1 <| K_iascr fi_231_415 h2 h3 <| K_aload_n fi_231_416 rfl <| K_iload_n fi_231_417 rfl <| K_iconst fi_231_418 <| K_iaddx fi_231_419 h4 <| K_iascr fi_231_420 h5 h6 <| R_invV fi_231_421 (am_invV_of rfl (kd_153) (Nat.le_of_ble_eq_true rfl) (Nat.le_of_ble_eq_true rfl) rfl rfl)
theorem b231_424 {d L : Nat} {σ : St} {Q : Option AV → AW → Prop} {y0 y1 : Int} {u0 u1 u2 u3 : AV} : R d 231 424 [u0, u1, u2, u3] [vI y0, vI y1] (WS L σ) Q = if y1 = y0 then R d 231 1189 [u0, u1, u2, u3] [] (WS L σ) Q else R d 231 427 [u0, u1, u2, u3] [] (WS L σ) Q := R_icmp_eq fi_231_424 rfl
theorem b231_427 {d L : Nat} {σ : St} {Q : Option AV → AW → Prop} {u0 u1 u2 u3 : AV} : R d 231 427 [u0, u1, u2, u3] [] (WS L σ) Q = Q (some (vI 0)) (WS L σ) := K_iconst fi_231_427 <| R_ireti fi_231_428 rfl
theorem b231_429 {d L : Nat} {σ : St} {Q : Option AV → AW → Prop} {x3 : Int} {u2 : AV} (h1 : -2147483648 ≤ x3 + 1 ∧ x3 + 1 ≤ 2147483647) (h2 : 0 ≤ x3 + 1) (h3 : (x3 + 1) < (L : Int)) : R (d + 1) 231 429 [vR 0, vR 19, u2, vI x3] [] (WS L σ) Q = R d 58 0 [vR 19, vI (σ 0 (x3 + 1)), vX 9] [] (WS L σ) (fun r w => R (d + 1) 231 438 [vR 0, vR 19, u2, vI x3] (am_push r []) w Q) := K_aload_n fi_231_429 rfl <| K_aload_n fi_231_430 rfl <| K_iload_n fi_231_431 rfl <| K_iconst fi_231_432 <| K_iaddx fi_231_433 h1 <| K_iascr fi_231_434 h2 h3 <| R_invV fi_231_435 (am_invV_of rfl (kd_19) (Nat.le_of_ble_eq_true rfl) (Nat.le_of_ble_eq_true rfl) rfl rfl)
theorem b231_438 {d L : Nat} {σ : St} {Q : Option AV → AW → Prop} {y0 x3 : Int} {u1 : AV} (h1 : -2147483648 ≤ x3 + 1 ∧ x3 + 1 ≤ 2147483647) (h2 : 0 ≤ x3 + 1) (h3 : (x3 + 1) < (L : Int)) : R (d + 1) 231 438 [vR 0, u1, vR 153, vI x3] [vI y0] (WS L σ) Q = R d 172 0 [vR 153, vI (σ 0 (x3 + 1)), vX 9] [] (WS L σ) (fun r w => R (d + 1) 231 447 [vR 0, u1, vR 153, vI x3] (am_push r [vI y0]) w Q) := K_aload_n fi_231_438 rfl <| K_aload_n fi_231_439 rfl <| K_iload_n fi_231_440 rfl <| K_iconst fi_231_441 <| K_iaddx fi_231_442 h1 <| K_iascr fi_231_443 h2 h3 <| R_invV fi_231_444 (am_invV_of rfl (kd_153) (Nat.le_of_ble_eq_true rfl) (Nat.le_of_ble_eq_true rfl) rfl rfl)
theorem b231_447 {d L : Nat} {σ : St} {Q : Option AV → AW → Prop} {y0 y1 : Int} {u0 u1 u2 u3 : AV} : R d 231 447 [u0, u1, u2, u3] [vI y0, vI y1] (WS L σ) Q = if y1 = y0 then R d 231 1189 [u0, u1, u2, u3] [] (WS L σ) Q else R d 231 450 [u0, u1, u2, u3] [] (WS L σ) Q := R_icmp_eq fi_231_447 rfl
theorem b231_450 {d L : Nat} {σ : St} {Q : Option AV → AW → Prop} {u0 u1 u2 u3 : AV} : R d 231 450 [u0, u1, u2, u3] [] (WS L σ) Q = Q (some (vI 0)) (WS L σ) := K_iconst fi_231_450 <| R_ireti fi_231_451 rfl
theorem b231_452 {d L : Nat} {σ : St} {Q : Option AV → AW → Prop} {x3 : Int} {u2 : AV} (h1 : -2147483648 ≤ x3 + 1 ∧ x3 + 1 ≤ 2147483647) (h2 : 0 ≤ x3 + 1) (h3 : (x3 + 1) < (L : Int)) : R (d + 1) 231 452 [vR 0, vR 19, u2, vI x3] [] (WS L σ) Q = R d 59 0 [vR 19, vI (σ 0 (x3 + 1))] [] (WS L σ) (fun r w => R (d + 1) 231 461 [vR 0, vR 19, u2, vI x3] (am_push r []) w Q) := K_aload_n fi_231_452 rfl <| K_aload_n fi_231_453 rfl <| K_iload_n fi_231_454 rfl <| K_iconst fi_231_455 <| K_iaddx fi_231_456 h1 <| K_iascr fi_231_457 h2 h3 <| R_invV fi_231_458 (am_invV_of rfl (kd_19) (Nat.le_of_ble_eq_true rfl) (Nat.le_of_ble_eq_true rfl) rfl rfl)
theorem b231_461 {d L : Nat} {σ : St} {Q : Option AV → AW → Prop} {y0 x3 : Int} {u1 : AV} (h1 : -2147483648 ≤ x3 + 1 ∧ x3 + 1 ≤ 2147483647) (h2 : 0 ≤ x3 + 1) (h3 : (x3 + 1) < (L : Int)) : R (d + 1) 231 461 [vR 0, u1, vR 153, vI x3] [vI y0] (WS L σ) Q = R d 173 0 [vR 153, vI (σ 0 (x3 + 1))] [] (WS L σ) (fun r w => R (d + 1) 231 470 [vR 0, u1, vR 153, vI x3] (am_push r [vI y0]) w Q) := K_aload_n fi_231_461 rfl <| K_aload_n fi_231_462 rfl <| K_iload_n fi_231_463 rfl <| K_iconst fi_231_464 <| K_iaddx fi_231_465 h1 <| K_iascr fi_231_466 h2 h3 <| R_invV fi_231_467 (am_invV_of rfl (kd_153) (Nat.le_of_ble_eq_true rfl) (Nat.le_of_ble_eq_true rfl) rfl rfl)
theorem b231_470 {d L : Nat} {σ : St} {Q : Option AV → AW → Prop} {y0 y1 : Int} {u0 u1 u2 u3 : AV} : R d 231 470 [u0, u1, u2, u3] [vI y0, vI y1] (WS L σ) Q = if y1 = y0 then R d 231 1189 [u0, u1, u2, u3] [] (WS L σ) Q else R d 231 473 [u0, u1, u2, u3] [] (WS L σ) Q := R_icmp_eq fi_231_470 rfl
theorem b231_473 {d L : Nat} {σ : St} {Q : Option AV → AW → Prop} {u0 u1 u2 u3 : AV} : R d 231 473 [u0, u1, u2, u3] [] (WS L σ) Q = Q (some (vI 0)) (WS L σ) := K_iconst fi_231_473 <| R_ireti fi_231_474 rfl
theorem b231_475 {d L : Nat} {σ : St} {Q : Option AV → AW → Prop} {x3 : Int} {u2 : AV} (h1 : -2147483648 ≤ x3 + 1 ∧ x3 + 1 ≤ 2147483647) (h2 : 0 ≤ x3 + 1) (h3 : (x3 + 1) < (L : Int)) : R (d + 1) 231 475 [vR 0, vR 19, u2, vI x3] [] (WS L σ) Q = R d 62 0 [vR 19, vI (σ 0 (x3 + 1))] [] (WS L σ) (fun r w => R (d + 1) 231 484 [vR 0, vR 19, u2, vI x3] (am_push r []) w Q) := K_aload_n fi_231_475 rfl <| K_aload_n fi_231_476 rfl <| K_iload_n fi_231_477 rfl <| K_iconst fi_231_478 <| K_iaddx fi_231_479 h1 <| K_iascr fi_231_480 h2 h3 <| R_invV fi_231_481 (am_invV_of rfl (kd_19) (Nat.le_of_ble_eq_true rfl) (Nat.le_of_ble_eq_true rfl) rfl rfl)
theorem b231_484 {d L : Nat} {σ : St} {Q : Option AV → AW → Prop} {y0 x3 : Int} {u1 : AV} (h1 : -2147483648 ≤ x3 + 1 ∧ x3 + 1 ≤ 2147483647) (h2 : 0 ≤ x3 + 1) (h3 : (x3 + 1) < (L : Int)) : R (d + 1) 231 484 [vR 0, u1, vR 153, vI x3] [vI y0] (WS L σ) Q = R d 174 0 [vR 153, vI (σ 0 (x3 + 1))] [] (WS L σ) (fun r w => R (d + 1) 231 493 [vR 0, u1, vR 153, vI x3] (am_push r [vI y0]) w Q) := K_aload_n fi_231_484 rfl <| K_aload_n fi_231_485 rfl <| K_iload_n fi_231_486 rfl <| K_iconst fi_231_487 <| K_iaddx fi_231_488 h1 <| K_iascr fi_231_489 h2 h3 <| R_invV fi_231_490 (am_invV_of rfl (kd_153) (Nat.le_of_ble_eq_true rfl) (Nat.le_of_ble_eq_true rfl) rfl rfl)
theorem b231_493 {d L : Nat} {σ : St} {Q : Option AV → AW → Prop} {y0 y1 : Int} {u0 u1 u2 u3 : AV} : R d 231 493 [u0, u1, u2, u3] [vI y0, vI y1] (WS L σ) Q = if y1 = y0 then R d 231 1189 [u0, u1, u2, u3] [] (WS L σ) Q else R d 231 496 [u0, u1, u2, u3] [] (WS L σ) Q := R_icmp_eq fi_231_493 rfl
theorem b231_496 {d L : Nat} {σ : St} {Q : Option AV → AW → Prop} {u0 u1 u2 u3 : AV} : R d 231 496 [u0, u1, u2, u3] [] (WS L σ) Q = Q (some (vI 0)) (WS L σ) := K_iconst fi_231_496 <| R_ireti fi_231_497 rfl
theorem b231_498 {d L : Nat} {σ : St} {Q : Option AV → AW → Prop} {x3 : Int} {u2 : AV} (h1 : -2147483648 ≤ x3 + 1 ∧ x3 + 1 ≤ 2147483647) (h2 : 0 ≤ x3 + 1) (h3 : (x3 + 1) < (L : Int)) (h4 : -2147483648 ≤ x3 + 2 ∧ x3 + 2 ≤ 2147483647) (h5 : 0 ≤ x3 + 2) (h6 : (x3 + 2) < (L : Int)) : R (d + 1) 231 498 [vR 0, vR 19, u2, vI x3] [] (WS L σ) Q = R d 65 0 [vR 19, vI (σ 0 (x3 + 1)), vI (σ 0 (x3 + 2)), vX 9] [] (WS L σ) (fun r w => R (d + 1) 231 512 [vR 0, vR 19, u2, vI x3] (am_push r []) w Q) := K_aload_n fi_231_498 rfl <| K_aload_n fi_231_499 rfl <| K_iload_n fi_231_500 rfl <| K_iconst fi_231_501 <| K_iaddx fi_231_502 h1 <| K_iascr fi_231_503 h2 h3 <| K_aload_n fi_231_504 rfl <| K_iload_n fi_231_505 rfl <| K_iconst fi_231_506 <| K_iaddx fi_231_507 h4 <| K_iascr fi_231_508 h5 h6 <| R_invV fi_231_509 (am_invV_of rfl (kd_19) (Nat.le_of_ble_eq_true rfl) (Nat.le_of_ble_eq_true rfl) rfl rfl)
theorem b231_512 {d L : Nat} {σ : St} {Q : Option AV → AW → Prop} {y0 x3 : Int} {u1 : AV} (h1 : -2147483648 ≤ x3 + 1 ∧ x3 + 1 ≤ 2147483647) (h2 : 0 ≤ x3 + 1) (h3 : (x3 + 1) < (L : Int)) (h4 : -2147483648 ≤ x3 + 2 ∧ x3 + 2 ≤ 2147483647) (h5 : 0 ≤ x3 + 2) (h6 : (x3 + 2) < (L : Int)) : R (d + 1) 231 512 [vR 0, u1, vR 153, vI x3] [vI y0] (WS L σ) Q = R d 176 0 [vR 153, vI (σ 0 (x3 + 1)), vI (σ 0 (x3 + 2)), vX 9] [] (WS L σ) (fun r w => R (d + 1) 231 526 [vR 0, u1, vR 153, vI x3] (am_push r [vI y0]) w Q) := K_aload_n fi_231_512 rfl <| K_aload_n fi_231_513 rfl <| K_iload_n fi_231_514 rfl <| K_iconst fi_231_515 <| K_iaddx fi_231_516 h1 <| K_iascr fi_231_517 h2 h3 <| K_aload_n fi_231_518 rfl <| K_iload_n fi_231_519 rfl <| K_iconst fi_231_520 <| K_iaddx fi_231_521 h4 <| K_iascr fi_231_522 h5 h6 <| R_invV fi_231_523 (am_invV_of rfl (kd_153) (Nat.le_of_ble_eq_true rfl) (Nat.le_of_ble_eq_true rfl) rfl rfl)
theorem b231_526 {d L : Nat} {σ : St} {Q : Option AV → AW → Prop} {y0 y1 : Int} {u0 u1 u2 u3 : AV} : R d 231 526 [u0, u1, u2, u3] [vI y0, vI y1] (WS L σ) Q = if y1 = y0 then R d 231 1189 [u0, u1, u2, u3] [] (WS L σ) Q else R d 231 529 [u0, u1, u2, u3] [] (WS L σ) Q := R_icmp_eq fi_231_526 rfl
theorem b231_529 {d L : Nat} {σ : St} {Q : Option AV → AW → Prop} {u0 u1 u2 u3 : AV} : R d 231 529 [u0, u1, u2, u3] [] (WS L σ) Q = Q (some (vI 0)) (WS L σ) := K_iconst fi_231_529 <| R_ireti fi_231_530 rfl
theorem b231_531 {d L : Nat} {σ : St} {Q : Option AV → AW → Prop} {x3 : Int} {u2 : AV} (h1 : -2147483648 ≤ x3 + 1 ∧ x3 + 1 ≤ 2147483647) (h2 : 0 ≤ x3 + 1) (h3 : (x3 + 1) < (L : Int)) (h4 : -2147483648 ≤ x3 + 2 ∧ x3 + 2 ≤ 2147483647) (h5 : 0 ≤ x3 + 2) (h6 : (x3 + 2) < (L : Int)) : R (d + 1) 231 531 [vR 0, vR 19, u2, vI x3] [] (WS L σ) Q = R d 68 0 [vR 19, vI (σ 0 (x3 + 1)), vI (σ 0 (x3 + 2))] [] (WS L σ) (fun r w => R (d + 1) 231 545 [vR 0, vR 19, u2, vI x3] (am_push r []) w Q) := K_aload_n fi_231_531 rfl <| K_aload_n fi_231_532 rfl <| K_iload_n fi_231_533 rfl <| K_iconst fi_231_534 <| K_iaddx fi_231_535 h1 <| K_iascr fi_231_536 h2 h3 <| K_aload_n fi_231_537 rfl <| K_iload_n fi_231_538 rfl <| K_iconst fi_231_539 <| K_iaddx fi_231_540 h4 <| K_iascr fi_231_541 h5 h6 <| R_invV fi_231_542 (am_invV_of rfl (kd_19) (Nat.le_of_ble_eq_true rfl) (Nat.le_of_ble_eq_true rfl) rfl rfl)
theorem b231_545 {d L : Nat} {σ : St} {Q : Option AV → AW → Prop} {y0 x3 : Int} {u1 : AV} (h1 : -2147483648 ≤ x3 + 1 ∧ x3 + 1 ≤ 2147483647) (h2 : 0 ≤ x3 + 1) (h3 : (x3 + 1) < (L : Int)) (h4 : -2147483648 ≤ x3 + 2 ∧ x3 + 2 ≤ 2147483647) (h5 : 0 ≤ x3 + 2) (h6 : (x3 + 2) < (L : Int)) : R (d + 1) 231 545 [vR 0, u1, vR 153, vI x3] [vI y0] (WS L σ) Q = R d 177 0 [vR 153, vI (σ 0 (x3 + 1)), vI (σ 0 (x3 + 2))] [] (WS L σ) (fun r w => R (d + 1) 231 559 [vR 0, u1, vR 153, vI x3] (am_push r [vI y0]) w Q) := K_aload_n fi_231_545 rfl <| K_aload_n fi_231_546 rfl <| K_iload_n fi_231_547 rfl <| K_iconst fi_231_548 <| K_iaddx fi_231_549 h1 <| K_iascr fi_231_550 h2 h3 <| K_aload_n fi_231_551 rfl <| K_iload_n fi_231_552 rfl <| K_iconst fi_231_553 <| K_iaddx fi_231_554 h4 <| K_iascr fi_231_555 h5 h6 <| R_invV fi_231_556 (am_invV_of rfl (kd_153) (Nat.le_of_ble_eq_true rfl) (Nat.le_of_ble_eq_true rfl) rfl rfl)
theorem b231_559 {d L : Nat} {σ : St} {Q : Option AV → AW → Prop} {y0 y1 : Int} {u0 u1 u2 u3 : AV} : R d 231 559 [u0, u1, u2, u3] [vI y0, vI y1] (WS L σ) Q = if y1 = y0 then R d 231 1189 [u0, u1, u2, u3] [] (WS L σ) Q else R d 231 562 [u0, u1, u2, u3] [] (WS L σ) Q := R_icmp_eq fi_231_559 rfl
theorem b231_562 {d L : Nat} {σ : St} {Q : Option AV → AW → Prop} {u0 u1 u2 u3 : AV} : R d 231 562 [u0, u1, u2, u3] [] (WS L σ) Q = Q (some (vI 0)) (WS L σ) := K_iconst fi_231_562 <| R_ireti fi_231_563 rfl
theorem b231_564 {d L : Nat} {σ : St} {Q : Option AV → AW → Prop} {x3 : Int} {u2 : AV} (h1 : -2147483648 ≤ x3 + 1 ∧ x3 + 1 ≤ 2147483647) (h2 : 0 ≤ x3 + 1) (h3 : (x3 + 1) < (L : Int)) (h4 : -2147483648 ≤ x3 + 2 ∧ x3 + 2 ≤ 2147483647) (h5 : 0 ≤ x3 + 2) (h6 : (x3 + 2) < (L : Int)) : R (d + 1) 231 564 [vR 0, vR 19, u2, vI x3] [] (WS L σ) Q = R d 70 0 [vR 19, vI (σ 0 (x3 + 1)), vI (σ 0 (x3 + 2)), vX 9] [] (WS L σ) (fun r w => R (d + 1) 231 578 [vR 0, vR 19, u2, vI x3] (am_push r []) w Q) := K_aload_n fi_231_564 rfl <| K_aload_n fi_231_565 rfl <| K_iload_n fi_231_566 rfl <| K_iconst fi_231_567 <| K_iaddx fi_231_568 h1 <| K_iascr fi_231_569 h2 h3 <| K_aload_n fi_231_570 rfl <| K_iload_n fi_231_571 rfl <| K_iconst fi_231_572 <| K_iaddx fi_231_573 h4 <| K_iascr fi_231_574 h5 h6 <| R_invV fi_231_575 (am_invV_of rfl (kd_19) (Nat.le_of_ble_eq_true rfl) (Nat.le_of_ble_eq_true rfl) rfl rfl)
theorem b231_578 {d L : Nat} {σ : St} {Q : Option AV → AW → Prop} {y0 x3 : Int} {u1 : AV} (h1 : -2147483648 ≤ x3 + 1 ∧ x3 + 1 ≤ 2147483647) (h2 : 0 ≤ x3 + 1) (h3 : (x3 + 1) < (L : Int)) (h4 : -2147483648 ≤ x3 + 2 ∧ x3 + 2 ≤ 2147483647) (h5 : 0 ≤ x3 + 2) (h6 : (x3 + 2) < (L : Int)) : R (d + 1) 231 578 [vR 0, u1, vR 153, vI x3] [vI y0] (WS L σ) Q = R d 178 0 [vR 153, vI (σ 0 (x3 + 1)), vI (σ 0 (x3 + 2)), vX 9] [] (WS L σ) (fun r w => R (d + 1) 231 592 [vR 0, u1, vR 153, vI x3] (am_push r [vI y0]) w Q) := K_aload_n fi_231_578 rfl <| K_aload_n fi_231_579 rfl <| K_iload_n fi_231_580 rfl <| K_iconst fi_231_581 <| K_iaddx fi_231_582 h1 <| K_iascr fi_231_583 h2 h3 <| K_aload_n fi_231_584 rfl <| K_iload_n fi_231_585 rfl <| K_iconst fi_231_586 <| K_iaddx fi_231_587 h4 <| K_iascr fi_231_588 h5 h6 <| R_invV fi_231_589 (am_invV_of rfl (kd_153) (Nat.le_of_ble_eq_true rfl) (Nat.le_of_ble_eq_true rfl) rfl rfl)
theorem b231_592 {d L : Nat} {σ : St} {Q : Option AV → AW → Prop} {y0 y1 : Int} {u0 u1 u2 u3 : AV} : R d 231 592 [u0, u1, u2, u3] [vI y0, vI y1] (WS L σ) Q = if y1 = y0 then R d 231 1189 [u0, u1, u2, u3] [] (WS L σ) Q else R d 231 595 [u0, u1, u2, u3] [] (WS L σ) Q := R_icmp_eq fi_231_592 rfl
theorem b231_595 {d L : Nat} {σ : St} {Q : Option AV → AW → Prop} {u0 u1 u2 u3 : AV} : R d 231 595 [u0, u1, u2, u3] [] (WS L σ) Q = Q (some (vI 0)) (WS L σ) := K_iconst fi_231_595 <| R_ireti fi_231_596 rfl
theorem b231_597 {d L : Nat} {σ : St} {Q : Option AV → AW → Prop} {x3 : Int} {u2 : AV} (h1 : -2147483648 ≤ x3 + 1 ∧ x3 + 1 ≤ 2147483647) (h2 : 0 ≤ x3 + 1) (h3 : (x3 + 1) < (L : Int)) : R (d + 1) 231 597 [vR 0, vR 19, u2, vI x3] [] (WS L σ) Q = R d 74 0 [vR 19, vI (σ 0 (x3 + 1))] [] (WS L σ) (fun r w => R (d + 1) 231 606 [vR 0, vR 19, u2, vI x3] (am_push r []) w Q) := K_aload_n fi_231_597 rfl <| K_aload_n fi_231_598 rfl <| K_iload_n fi_231_599 rfl <| K_iconst fi_231_600 <| K_iaddx fi_231_601 h1 <| K_iascr fi_231_602 h2 h3 <| R_invV fi_231_603 (am_invV_of rfl (kd_19) (Nat.le_of_ble_eq_true rfl) (Nat.le_of_ble_eq_true rfl) rfl rfl)
theorem b231_606 {d L : Nat} {σ : St} {Q : Option AV → AW → Prop} {y0 x3 : Int} {u1 : AV} (h1 : -2147483648 ≤ x3 + 1 ∧ x3 + 1 ≤ 2147483647) (h2 : 0 ≤ x3 + 1) (h3 : (x3 + 1) < (L : Int)) : R (d + 1) 231 606 [vR 0, u1, vR 153, vI x3] [vI y0] (WS L σ) Q = R d 180 0 [vR 153, vI (σ 0 (x3 + 1))] [] (WS L σ) (fun r w => R (d + 1) 231 615 [vR 0, u1, vR 153, vI x3] (am_push r [vI y0]) w Q) := K_aload_n fi_231_606 rfl <| K_aload_n fi_231_607 rfl <| K_iload_n fi_231_608 rfl <| K_iconst fi_231_609 <| K_iaddx fi_231_610 h1 <| K_iascr fi_231_611 h2 h3 <| R_invV fi_231_612 (am_invV_of rfl (kd_153) (Nat.le_of_ble_eq_true rfl) (Nat.le_of_ble_eq_true rfl) rfl rfl)
theorem b231_615 {d L : Nat} {σ : St} {Q : Option AV → AW → Prop} {y0 y1 : Int} {u0 u1 u2 u3 : AV} : R d 231 615 [u0, u1, u2, u3] [vI y0, vI y1] (WS L σ) Q = if y1 = y0 then R d 231 1189 [u0, u1, u2, u3] [] (WS L σ) Q else R d 231 618 [u0, u1, u2, u3] [] (WS L σ) Q := R_icmp_eq fi_231_615 rfl
theorem b231_618 {d L : Nat} {σ : St} {Q : Option AV → AW → Prop} {u0 u1 u2 u3 : AV} : R d 231 618 [u0, u1, u2, u3] [] (WS L σ) Q = Q (some (vI 0)) (WS L σ) := K_iconst fi_231_618 <| R_ireti fi_231_619 rfl
theorem b231_620 {d L : Nat} {σ : St} {Q : Option AV → AW → Prop} {x3 : Int} {u2 : AV} (h1 : -2147483648 ≤ x3 + 1 ∧ x3 + 1 ≤ 2147483647) (h2 : 0 ≤ x3 + 1) (h3 : (x3 + 1) < (L : Int)) : R (d + 1) 231 620 [vR 0, vR 19, u2, vI x3] [] (WS L σ) Q = R d 75 0 [vR 19, vI (σ 0 (x3 + 1))] [] (WS L σ) (fun r w => R (d + 1) 231 629 [vR 0, vR 19, u2, vI x3] (am_push r []) w Q) := K_aload_n fi_231_620 rfl <| K_aload_n fi_231_621 rfl <| K_iload_n fi_231_622 rfl <| K_iconst fi_231_623 <| K_iaddx fi_231_624 h1 <| K_iascr fi_231_625 h2 h3 <| R_invV fi_231_626 (am_invV_of rfl (kd_19) (Nat.le_of_ble_eq_true rfl) (Nat.le_of_ble_eq_true rfl) rfl rfl)
theorem b231_629 {d L : Nat} {σ : St} {Q : Option AV → AW → Prop} {y0 x3 : Int} {u1 : AV} (h1 : -2147483648 ≤ x3 + 1 ∧ x3 + 1 ≤ 2147483647) (h2 : 0 ≤ x3 + 1) (h3 : (x3 + 1) < (L : Int)) : R (d + 1) 231 629 [vR 0, u1, vR 153, vI x3] [vI y0] (WS L σ) Q = R d 196 0 [vR 153, vI (σ 0 (x3 + 1))] [] (WS L σ) (fun r w => R (d + 1) 231 638 [vR 0, u1, vR 153, vI x3] (am_push r [vI y0]) w Q) := K_aload_n fi_231_629 rfl <| K_aload_n fi_231_630 rfl <| K_iload_n fi_231_631 rfl <| K_iconst fi_231_632 <| K_iaddx fi_231_633 h1 <| K_iascr fi_231_634 h2 h3 <| R_invV fi_231_635 (am_invV_of rfl (kd_153) (Nat.le_of_ble_eq_true rfl) (Nat.le_of_ble_eq_true rfl) rfl rfl)
theorem b231_638 {d L : Nat} {σ : St} {Q : Option AV → AW → Prop} {y0 y1 : Int} {u0 u1 u2 u3 : AV} : R d 231 638 [u0, u1, u2, u3] [vI y0, vI y1] (WS L σ) Q = if y1 = y0 then R d 231 1189 [u0, u1, u2, u3] [] (WS L σ) Q else R d 231 641 [u0, u1, u2, u3] [] (WS L σ) Q := R_icmp_eq fi_231_638 rfl
theorem b231_641 {d L : Nat} {σ : St} {Q : Option AV → AW → Prop} {u0 u1 u2 u3 : AV} : R d 231 641 [u0, u1, u2, u3] [] (WS L σ) Q = Q (some (vI 0)) (WS L σ) := K_iconst fi_231_641 <| R_ireti fi_231_642 rfl
theorem b231_643 {d L : Nat} {σ : St} {Q : Option AV → AW → Prop} {x3 : Int} {u2 : AV} (h1 : -2147483648 ≤ x3 + 1 ∧ x3 + 1 ≤ 2147483647) (h2 : 0 ≤ x3 + 1) (h3 : (x3 + 1) < (L : Int)) : R d 231 643 [vR 0, vR 19, u2, vI x3] [] (WS L σ) Q = if (σ 0 (x3 + 1)) = 0 then R d 231 656 [vR 0, vR 19, u2, vI x3] [vR 19] (WS L σ) Q else R d 231 652 [vR 0, vR 19, u2, vI x3] [vR 19] (WS L σ) Q := K_aload_n fi_231_643 rfl <| K_aload_n fi_231_644 rfl <| K_iload_n fi_231_645 rfl <| K_iconst fi_231_646 <| K_iaddx fi_231_647 h1 <| K_iascr fi_231_648 h2 h3 <| R_if_eq fi_231_649 rfl
theorem b231_652 {d L : Nat} {σ : St} {Q : Option AV → AW → Prop} {u0 u1 u2 u3 : AV} : R d 231 652 [u0, u1, u2, u3] [vR 19] (WS L σ) Q = R d 231 657 [u0, u1, u2, u3] [vI 1, vR 19] (WS L σ) Q := K_iconst fi_231_652 <| R_goto fi_231_653 rfl
theorem b231_656 {d L : Nat} {σ : St} {Q : Option AV → AW → Prop} {u0 u1 u2 u3 : AV} : R d 231 656 [u0, u1, u2, u3] [vR 19] (WS L σ) Q = R d 231 657 [u0, u1, u2, u3] [vI 0, vR 19] (WS L σ) Q := K_iconst fi_231_656 <| rfl
theorem b231_657 {d L : Nat} {σ : St} {Q : Option AV → AW → Prop} {y0 : Int} {u0 u1 u2 u3 : AV} : R (d + 1) 231 657 [u0, u1, u2, u3] [vI y0, vR 19] (WS L σ) Q = R d 96 0 [vR 19, vI y0] [] (WS L σ) (fun r w => R (d + 1) 231 660 [u0, u1, u2, u3] (am_push r []) w Q) := R_invV fi_231_657 (am_invV_of rfl (kd_19) (Nat.le_of_ble_eq_true rfl) (Nat.le_of_ble_eq_true rfl) rfl rfl)
theorem b231_660 {d L : Nat} {σ : St} {Q : Option AV → AW → Prop} {y0 x3 : Int} {u1 : AV} (h1 : -2147483648 ≤ x3 + 1 ∧ x3 + 1 ≤ 2147483647) (h2 : 0 ≤ x3 + 1) (h3 : (x3 + 1) < (L : Int)) : R d 231 660 [vR 0, u1, vR 153, vI x3] [vI y0] (WS L σ) Q = if (σ 0 (x3 + 1)) = 0 then R d 231 673 [vR 0, u1, vR 153, vI x3] [vR 153, vI y0] (WS L σ) Q else R d 231 669 [vR 0, u1, vR 153, vI x3] [vR 153, vI y0] (WS L σ) Q := K_aload_n fi_231_660 rfl <| K_aload_n fi_231_661 rfl <| K_iload_n fi_231_662 rfl <| K_iconst fi_231_663 <| K_iaddx fi_231_664 h1 <| K_iascr fi_231_665 h2 h3 <| R_if_eq fi_231_666 rfl
theorem b231_669 {d L : Nat} {σ : St} {Q : Option AV → AW → Prop} {y1 : Int} {u0 u1 u2 u3 : AV} : R d 231 669 [u0, u1, u2, u3] [vR 153, vI y1] (WS L σ) Q = R d 231 674 [u0, u1, u2, u3] [vI 1, vR 153, vI y1] (WS L σ) Q := K_iconst fi_231_669 <| R_goto fi_231_670 rfl
theorem b231_673 {d L : Nat} {σ : St} {Q : Option AV → AW → Prop} {y1 : Int} {u0 u1 u2 u3 : AV} : R d 231 673 [u0, u1, u2, u3] [vR 153, vI y1] (WS L σ) Q = R d 231 674 [u0, u1, u2, u3] [vI 0, vR 153, vI y1] (WS L σ) Q := K_iconst fi_231_673 <| rfl
theorem b231_674 {d L : Nat} {σ : St} {Q : Option AV → AW → Prop} {y0 y2 : Int} {u0 u1 u2 u3 : AV} : R (d + 1) 231 674 [u0, u1, u2, u3] [vI y0, vR 153, vI y2] (WS L σ) Q = R d 206 0 [vR 153, vI y0, vX 9, vX 9, vX 9, vX 9, vX 9] [] (WS L σ) (fun r w => R (d + 1) 231 677 [u0, u1, u2, u3] (am_push r [vI y2]) w Q) := R_invV fi_231_674 (am_invV_of rfl (kd_153) (Nat.le_of_ble_eq_true rfl) (Nat.le_of_ble_eq_true rfl) rfl rfl)
theorem b231_677 {d L : Nat} {σ : St} {Q : Option AV → AW → Prop} {y0 y1 : Int} {u0 u1 u2 u3 : AV} : R d 231 677 [u0, u1, u2, u3] [vI y0, vI y1] (WS L σ) Q = if y1 = y0 then R d 231 1189 [u0, u1, u2, u3] [] (WS L σ) Q else R d 231 680 [u0, u1, u2, u3] [] (WS L σ) Q := R_icmp_eq fi_231_677 rfl
theorem b231_680 {d L : Nat} {σ : St} {Q : Option AV → AW → Prop} {u0 u1 u2 u3 : AV} : R d 231 680 [u0, u1, u2, u3] [] (WS L σ) Q = Q (some (vI 0)) (WS L σ) := K_iconst fi_231_680 <| R_ireti fi_231_681 rfl
theorem b231_682 {d L : Nat} {σ : St} {Q : Option AV → AW → Prop} {u0 u2 u3 : AV} : R (d + 1) 231 682 [u0, vR 19, u2, u3] [] (WS L σ) Q = R d 99 0 [vR 19, vX 9] [] (WS L σ) (fun r w => R (d + 1) 231 686 [u0, vR 19, u2, u3] (am_push r []) w Q) := K_aload_n fi_231_682 rfl <| R_invV fi_231_683 (am_invV_of rfl (kd_19) (Nat.le_of_ble_eq_true rfl) (Nat.le_of_ble_eq_true rfl) rfl rfl)
theorem b231_686 {d L : Nat} {σ : St} {Q : Option AV → AW → Prop} {y0 : Int} {u0 u1 u3 : AV} : R (d + 1) 231 686 [u0, u1, vR 153, u3] [vI y0] (WS L σ) Q = R d 182 0 [vR 153, vX 9, vX 9] [] (WS L σ) (fun r w => R (d + 1) 231 690 [u0, u1, vR 153, u3] (am_push r [vI y0]) w Q) := K_aload_n fi_231_686 rfl <| R_invV fi_231_687 (am_invV_of rfl (kd_153) (Nat.le_of_ble_eq_true rfl) (Nat.le_of_ble_eq_true rfl) rfl rfl)
theorem b231_690 {d L : Nat} {σ : St} {Q : Option AV → AW → Prop} {y0 y1 : Int} {u0 u1 u2 u3 : AV} : R d 231 690 [u0, u1, u2, u3] [vI y0, vI y1] (WS L σ) Q = if y1 = y0 then R d 231 1189 [u0, u1, u2, u3] [] (WS L σ) Q else R d 231 693 [u0, u1, u2, u3] [] (WS L σ) Q := R_icmp_eq fi_231_690 rfl
theorem b231_693 {d L : Nat} {σ : St} {Q : Option AV → AW → Prop} {u0 u1 u2 u3 : AV} : R d 231 693 [u0, u1, u2, u3] [] (WS L σ) Q = Q (some (vI 0)) (WS L σ) := K_iconst fi_231_693 <| R_ireti fi_231_694 rfl
theorem b231_695 {d L : Nat} {σ : St} {Q : Option AV → AW → Prop} {x3 : Int} {u2 : AV} (h1 : -2147483648 ≤ x3 + 1 ∧ x3 + 1 ≤ 2147483647) (h2 : 0 ≤ x3 + 1) (h3 : (x3 + 1) < (L : Int)) : R (d + 1) 231 695 [vR 0, vR 19, u2, vI x3] [] (WS L σ) Q = R d 100 0 [vR 19, vI (σ 0 (x3 + 1))] [] (WS L σ) (fun r w => R (d + 1) 231 704 [vR 0, vR 19, u2, vI x3] (am_push r []) w Q) := K_aload_n fi_231_695 rfl <| K_aload_n fi_231_696 rfl <| K_iload_n fi_231_697 rfl <| K_iconst fi_231_698 <| K_iaddx fi_231_699 h1 <| K_iascr fi_231_700 h2 h3 <| R_invV fi_231_701 (am_invV_of rfl (kd_19) (Nat.le_of_ble_eq_true rfl) (Nat.le_of_ble_eq_true rfl) rfl rfl)
theorem b231_704 {d L : Nat} {σ : St} {Q : Option AV → AW → Prop} {y0 x3 : Int} {u1 : AV} (h1 : -2147483648 ≤ x3 + 1 ∧ x3 + 1 ≤ 2147483647) (h2 : 0 ≤ x3 + 1) (h3 : (x3 + 1) < (L : Int)) : R (d + 1) 231 704 [vR 0, u1, vR 153, vI x3] [vI y0] (WS L σ) Q = R d 190 0 [vR 153, vI (σ 0 (x3 + 1))] [] (WS L σ) (fun r w => R (d + 1) 231 713 [vR 0, u1, vR 153, vI x3] (am_push r [vI y0]) w Q) := K_aload_n fi_231_704 rfl <| K_aload_n fi_231_705 rfl <| K_iload_n fi_231_706 rfl <| K_iconst fi_231_707 <| K_iaddx fi_231_708 h1 <| K_iascr fi_231_709 h2 h3 <| R_invV fi_231_710 (am_invV_of rfl (kd_153) (Nat.le_of_ble_eq_true rfl) (Nat.le_of_ble_eq_true rfl) rfl rfl)
theorem b231_713 {d L : Nat} {σ : St} {Q : Option AV → AW → Prop} {y0 y1 : Int} {u0 u1 u2 u3 : AV} : R d 231 713 [u0, u1, u2, u3] [vI y0, vI y1] (WS L σ) Q = if y1 = y0 then R d 231 1189 [u0, u1, u2, u3] [] (WS L σ) Q else R d 231 716 [u0, u1, u2, u3] [] (WS L σ) Q := R_icmp_eq fi_231_713 rfl
theorem b231_716 {d L : Nat} {σ : St} {Q : Option AV → AW → Prop} {u0 u1 u2 u3 : AV} : R d 231 716 [u0, u1, u2, u3] [] (WS L σ) Q = Q (some (vI 0)) (WS L σ) := K_iconst fi_231_716 <| R_ireti fi_231_717 rfl
theorem b231_718 {d L : Nat} {σ : St} {Q : Option AV → AW → Prop} {x3 : Int} {u2 : AV} (h1 : -2147483648 ≤ x3 + 1 ∧ x3 + 1 ≤ 2147483647) (h2 : 0 ≤ x3 + 1) (h3 : (x3 + 1) < (L : Int)) : R (d + 1) 231 718 [vR 0, vR 19, u2, vI x3] [] (WS L σ) Q = R d 102 0 [vR 19, vI (σ 0 (x3 + 1))] [] (WS L σ) (fun r w => R (d + 1) 231 727 [vR 0, vR 19, u2, vI x3] (am_push r []) w Q) := K_aload_n fi_231_718 rfl <| K_aload_n fi_231_719 rfl <| K_iload_n fi_231_720 rfl <| K_iconst fi_231_721 <| K_iaddx fi_231_722 h1 <| K_iascr fi_231_723 h2 h3 <| R_invV fi_231_724 (am_invV_of rfl (kd_19) (Nat.le_of_ble_eq_true rfl) (Nat.le_of_ble_eq_true rfl) rfl rfl)
theorem b231_727 {d L : Nat} {σ : St} {Q : Option AV → AW → Prop} {y0 x3 : Int} {u1 : AV} (h1 : -2147483648 ≤ x3 + 1 ∧ x3 + 1 ≤ 2147483647) (h2 : 0 ≤ x3 + 1) (h3 : (x3 + 1) < (L : Int)) : R (d + 1) 231 727 [vR 0, u1, vR 153, vI x3] [vI y0] (WS L σ) Q = R d 191 0 [vR 153, vI (σ 0 (x3 + 1))] [] (WS L σ) (fun r w => R (d + 1) 231 736 [vR 0, u1, vR 153, vI x3] (am_push r [vI y0]) w Q) := K_aload_n fi_231_727 rfl <| K_aload_n fi_231_728 rfl <| K_iload_n fi_231_729 rfl <| K_iconst fi_231_730 <| K_iaddx fi_231_731 h1 <| K_iascr fi_231_732 h2 h3 <| R_invV fi_231_733 (am_invV_of rfl (kd_153) (Nat.le_of_ble_eq_true rfl) (Nat.le_of_ble_eq_true rfl) rfl rfl)
theorem b231_736 {d L : Nat} {σ : St} {Q : Option AV → AW → Prop} {y0 y1 : Int} {u0 u1 u2 u3 : AV} : R d 231 736 [u0, u1, u2, u3] [vI y0, vI y1] (WS L σ) Q = if y1 = y0 then R d 231 1189 [u0, u1, u2, u3] [] (WS L σ) Q else R d 231 739 [u0, u1, u2, u3] [] (WS L σ) Q := R_icmp_eq fi_231_736 rfl
theorem b231_739 {d L : Nat} {σ : St} {Q : Option AV → AW → Prop} {u0 u1 u2 u3 : AV} : R d 231 739 [u0, u1, u2, u3] [] (WS L σ) Q = Q (some (vI 0)) (WS L σ) := K_iconst fi_231_739 <| R_ireti fi_231_740 rfl
theorem b231_741 {d L : Nat} {σ : St} {Q : Option AV → AW → Prop} {x3 : Int} {u2 : AV} (h1 : -2147483648 ≤ x3 + 1 ∧ x3 + 1 ≤ 2147483647) (h2 : 0 ≤ x3 + 1) (h3 : (x3 + 1) < (L : Int)) : R (d + 1) 231 741 [vR 0, vR 19, u2, vI x3] [] (WS L σ) Q = R d 103 0 [vR 19, vI (σ 0 (x3 + 1))] [] (WS L σ) (fun r w => R (d + 1) 231 750 [vR 0, vR 19, u2, vI x3] (am_push r []) w Q) := K_aload_n fi_231_741 rfl <| K_aload_n fi_231_742 rfl <| K_iload_n fi_231_743 rfl <| K_iconst fi_231_744 <| K_iaddx fi_231_745 h1 <| K_iascr fi_231_746 h2 h3 <| R_invV fi_231_747 (am_invV_of rfl (kd_19) (Nat.le_of_ble_eq_true rfl) (Nat.le_of_ble_eq_true rfl) rfl rfl)
theorem b231_750 {d L : Nat} {σ : St} {Q : Option AV → AW → Prop} {y0 x3 : Int} {u1 : AV} (h1 : -2147483648 ≤ x3 + 1 ∧ x3 + 1 ≤ 2147483647) (h2 : 0 ≤ x3 + 1) (h3 : (x3 + 1) < (L : Int)) : R (d + 1) 231 750 [vR 0, u1, vR 153, vI x3] [vI y0] (WS L σ) Q = R d 192 0 [vR 153, vI (σ 0 (x3 + 1)), vX 9, vX 9, vX 9, vX 9, vX 9, vX 9, vX 9, vX 9, vX 9] [] (WS L σ) (fun r w => R (d + 1) 231 759 [vR 0, u1, vR 153, vI x3] (am_push r [vI y0]) w Q) := K_aload_n fi_231_750 rfl <| K_aload_n fi_231_751 rfl <| K_iload_n fi_231_752 rfl <| K_iconst fi_231_753 <| K_iaddx fi_231_754 h1 <| K_iascr fi_231_755 h2 h3 <| R_invV fi_231_756 (am_invV_of rfl (kd_153) (Nat.le_of_ble_eq_true rfl) (Nat.le_of_ble_eq_true rfl) rfl rfl)
theorem b231_759 {d L : Nat} {σ : St} {Q : Option AV → AW → Prop} {y0 y1 : Int} {u0 u1 u2 u3 : AV} : R d 231 759 [u0, u1, u2, u3] [vI y0, vI y1] (WS L σ) Q = if y1 = y0 then R d 231 1189 [u0, u1, u2, u3] [] (WS L σ) Q else R d 231 762 [u0, u1, u2, u3] [] (WS L σ) Q := R_icmp_eq fi_231_759 rfl
theorem b231_762 {d L : Nat} {σ : St} {Q : Option AV → AW → Prop} {u0 u1 u2 u3 : AV} : R d 231 762 [u0, u1, u2, u3] [] (WS L σ) Q = Q (some (vI 0)) (WS L σ) := K_iconst fi_231_762 <| R_ireti fi_231_763 rfl
theorem b231_764 {d L : Nat} {σ : St} {Q : Option AV → AW → Prop} {x3 : Int} {u2 : AV} (h1 : -2147483648 ≤ x3 + 1 ∧ x3 + 1 ≤ 2147483647) (h2 : 0 ≤ x3 + 1) (h3 : (x3 + 1) < (L : Int)) : R (d + 1) 231 764 [vR 0, vR 19, u2, vI x3] [] (WS L σ) Q = R d 106 0 [vR 19, vI (σ 0 (x3 + 1))] [] (WS L σ) (fun r w => R (d + 1) 231 773 [vR 0, vR 19, u2, vI x3] (am_push r []) w Q) := K_aload_n fi_231_764 rfl <| K_aload_n fi_231_765 rfl <| K_iload_n fi_231_766 rfl <| K_iconst fi_231_767 <| K_iaddx fi_231_768 h1 <| K_iascr fi_231_769 h2 h3 <| R_invV fi_231_770 (am_invV_of rfl (kd_19) (Nat.le_of_ble_eq_true rfl) (Nat.le_of_ble_eq_true rfl) rfl rfl)
theorem b231_773 {d L : Nat} {σ : St} {Q : Option AV → AW → Prop} {y0 x3 : Int} {u1 : AV} (h1 : -2147483648 ≤ x3 + 1 ∧ x3 + 1 ≤ 2147483647) (h2 : 0 ≤ x3 + 1) (h3 : (x3 + 1) < (L : Int)) : R (d + 1) 231 773 [vR 0, u1, vR 153, vI x3] [vI y0] (WS L σ) Q = R d 193 0 [vR 153, vI (σ 0 (x3 + 1))] [] (WS L σ) (fun r w => R (d + 1) 231 782 [vR 0, u1, vR 153, vI x3] (am_push r [vI y0]) w Q) := K_aload_n fi_231_773 rfl <| K_aload_n fi_231_774 rfl <| K_iload_n fi_231_775 rfl <| K_iconst fi_231_776 <| K_iaddx fi_231_777 h1 <| K_iascr fi_231_778 h2 h3 <| R_invV fi_231_779 (am_invV_of rfl (kd_153) (Nat.le_of_ble_eq_true rfl) (Nat.le_of_ble_eq_true rfl) rfl rfl)
theorem b231_782 {d L : Nat} {σ : St} {Q : Option AV → AW → Prop} {y0 y1 : Int} {u0 u1 u2 u3 : AV} : R d 231 782 [u0, u1, u2, u3] [vI y0, vI y1] (WS L σ) Q = if y1 = y0 then R d 231 1189 [u0, u1, u2, u3] [] (WS L σ) Q else R d 231 785 [u0, u1, u2, u3] [] (WS L σ) Q := R_icmp_eq fi_231_782 rfl
theorem b231_785 {d L : Nat} {σ : St} {Q : Option AV → AW → Prop} {u0 u1 u2 u3 : AV} : R d 231 785 [u0, u1, u2, u3] [] (WS L σ) Q = Q (some (vI 0)) (WS L σ) := K_iconst fi_231_785 <| R_ireti fi_231_786 rfl
theorem b231_787 {d L : Nat} {σ : St} {Q : Option AV → AW → Prop} {u0 u2 u3 : AV} : R (d + 1) 231 787 [u0, vR 19, u2, u3] [] (WS L σ) Q = R d 108 0 [vR 19, vX 9, vX 9, vX 9, vX 9] [] (WS L σ) (fun r w => R (d + 1) 231 791 [u0, vR 19, u2, u3] (am_push r []) w Q) := K_aload_n fi_231_787 rfl <| R_invV fi_231_788 (am_invV_of rfl (kd_19) (Nat.le_of_ble_eq_true rfl) (Nat.le_of_ble_eq_true rfl) rfl rfl)
theorem b231_791 {d L : Nat} {σ : St} {Q : Option AV → AW → Prop} {y0 : Int} {u0 u1 u3 : AV} : R (d + 1) 231 791 [u0, u1, vR 153, u3] [vI y0] (WS L σ) Q = R d 195 0 [vR 153, vX 9, vX 9, vX 9, vX 9] [] (WS L σ) (fun r w => R (d + 1) 231 795 [u0, u1, vR 153, u3] (am_push r [vI y0]) w Q) := K_aload_n fi_231_791 rfl <| R_invV fi_231_792 (am_invV_of rfl (kd_153) (Nat.le_of_ble_eq_true rfl) (Nat.le_of_ble_eq_true rfl) rfl rfl)
theorem b231_795 {d L : Nat} {σ : St} {Q : Option AV → AW → Prop} {y0 y1 : Int} {u0 u1 u2 u3 : AV} : R d 231 795 [u0, u1, u2, u3] [vI y0, vI y1] (WS L σ) Q = if y1 = y0 then R d 231 1189 [u0, u1, u2, u3] [] (WS L σ) Q else R d 231 798 [u0, u1, u2, u3] [] (WS L σ) Q := R_icmp_eq fi_231_795 rfl
theorem b231_798 {d L : Nat} {σ : St} {Q : Option AV → AW → Prop} {u0 u1 u2 u3 : AV} : R d 231 798 [u0, u1, u2, u3] [] (WS L σ) Q = Q (some (vI 0)) (WS L σ) := K_iconst fi_231_798 <| R_ireti fi_231_799 rfl
theorem b231_800 {d L : Nat} {σ : St} {Q : Option AV → AW → Prop} {x3 : Int} {u2 : AV} (h1 : -2147483648 ≤ x3 + 1 ∧ x3 + 1 ≤ 2147483647) (h2 : 0 ≤ x3 + 1) (h3 : (x3 + 1) < (L : Int)) : R (d + 1) 231 800 [vR 0, vR 19, u2, vI x3] [] (WS L σ) Q = R d 109 0 [vR 19, vI (σ 0 (x3 + 1))] [] (WS L σ) (fun r w => R (d + 1) 231 809 [vR 0, vR 19, u2, vI x3] (am_push r []) w Q) := K_aload_n fi_231_800 rfl <| K_aload_n fi_231_801 rfl <| K_iload_n fi_231_802 rfl <| K_iconst fi_231_803 <| K_iaddx fi_231_804 h1 <| K_iascr fi_231_805 h2 h3 <| R_invV fi_231_806 (am_invV_of rfl (kd_19) (Nat.le_of_ble_eq_true rfl) (Nat.le_of_ble_eq_true rfl) rfl rfl)
theorem b231_809 {d L : Nat} {σ : St} {Q : Option AV → AW → Prop} {y0 x3 : Int} {u1 : AV} (h1 : -2147483648 ≤ x3 + 1 ∧ x3 + 1 ≤ 2147483647) (h2 : 0 ≤ x3 + 1) (h3 : (x3 + 1) < (L : Int)) : R (d + 1) 231 809 [vR 0, u1, vR 153, vI x3] [vI y0] (WS L σ) Q = R d 207 0 [vR 153, vI (σ 0 (x3 + 1)), vX 9, vX 9, vX 9, vX 9, vX 9, vX 9, vX 9] [] (WS L σ) (fun r w => R (d + 1) 231 818 [vR 0, u1, vR 153, vI x3] (am_push r [vI y0]) w Q) := K_aload_n fi_231_809 rfl <| K_aload_n fi_231_810 rfl <| K_iload_n fi_231_811 rfl <| K_iconst fi_231_812 <| K_iaddx fi_231_813 h1 <| K_iascr fi_231_814 h2 h3 <| R_invV fi_231_815 (am_invV_of rfl (kd_153) (Nat.le_of_ble_eq_true rfl) (Nat.le_of_ble_eq_true rfl) rfl rfl)
theorem b231_818 {d L : Nat} {σ : St} {Q : Option AV → AW → Prop} {y0 y1 : Int} {u0 u1 u2 u3 : AV} : R d 231 818 [u0, u1, u2, u3] [vI y0, vI y1] (WS L σ) Q = if y1 = y0 then R d 231 1189 [u0, u1, u2, u3] [] (WS L σ) Q else R d 231 821 [u0, u1, u2, u3] [] (WS L σ) Q := R_icmp_eq fi_231_818 rfl
theorem b231_821 {d L : Nat} {σ : St} {Q : Option AV → AW → Prop} {u0 u1 u2 u3 : AV} : R d 231 821 [u0, u1, u2, u3] [] (WS L σ) Q = Q (some (vI 0)) (WS L σ) := K_iconst fi_231_821 <| R_ireti fi_231_822 rfl
theorem b231_823 {d L : Nat} {σ : St} {Q : Option AV → AW → Prop} {x3 : Int} {u2 : AV} (h1 : -2147483648 ≤ x3 + 1 ∧ x3 + 1 ≤ 2147483647) (h2 : 0 ≤ x3 + 1) (h3 : (x3 + 1) < (L : Int)) (h4 : -2147483648 ≤ x3 + 2 ∧ x3 + 2 ≤ 2147483647) (h5 : 0 ≤ x3 + 2) (h6 : (x3 + 2) < (L : Int)) (h7 : -2147483648 ≤ x3 + 3 ∧ x3 + 3 ≤ 2147483647) (h8 : 0 ≤ x3 + 3) (h9 : (x3 + 3) < (L : Int)) : R (d + 1) 231 823 [vR 0, vR 19, u2, vI x3] [] (WS L σ) Q = R d 111 0 [vR 19, vI (σ 0 (x3 + 1)), vI (σ 0 (x3 + 2)), vI (σ 0 (x3 + 3))] [] (WS L σ) (fun r w => R (d + 1) 231 842 [vR 0, vR 19, u2, vI x3] (am_push r []) w Q) := K_aload_n fi_231_823 rfl <| K_aload_n fi_231_824 rfl <| K_iload_n fi_231_825 rfl <| K_iconst fi_231_826 <| K_iaddx fi_231_827 h1 <| K_iascr fi_231_828 h2 h3 <| K_aload_n fi_231_829 rfl <| K_iload_n fi_231_830 rfl <| K_iconst fi_231_831 <| K_iaddx fi_231_832 h4 <| K_iascr fi_231_833 h5 h6 <| K_aload_n fi_231_834 rfl <| K_iload_n fi_231_835 rfl <| K_iconst fi_231_836 <| K_iaddx fi_231_837 h7 <| K_iascr fi_231_838 h8 h9 <| R_invV fi_231_839 (am_invV_of rfl (kd_19) (Nat.le_of_ble_eq_true rfl) (Nat.le_of_ble_eq_true rfl) rfl rfl)
theorem b231_842 {d L : Nat} {σ : St} {Q : Option AV → AW → Prop} {y0 x3 : Int} {u1 : AV} (h1 : -2147483648 ≤ x3 + 1 ∧ x3 + 1 ≤ 2147483647) (h2 : 0 ≤ x3 + 1) (h3 : (x3 + 1) < (L : Int)) (h4 : -2147483648 ≤ x3 + 2 ∧ x3 + 2 ≤ 2147483647) (h5 : 0 ≤ x3 + 2) (h6 : (x3 + 2) < (L : Int)) (h7 : -2147483648 ≤ x3 + 3 ∧ x3 + 3 ≤ 2147483647) (h8 : 0 ≤ x3 + 3) (h9 : (x3 + 3) < (L : Int)) : R (d + 1) 231 842 [vR 0, u1, vR 153, vI x3] [vI y0] (WS L σ) Q = R d 208 0 [vR 153, vI (σ 0 (x3 + 1)), vI (σ 0 (x3 + 2)), vI (σ 0 (x3 + 3)), vX 9, vX 9, vX 9, vX 9, vX 9, vX 9, vX 9, vX 9, vX 9] [] (WS L σ) (fun r w => R (d + 1) 231 861 [vR 0, u1, vR 153, vI x3] (am_push r [vI y0]) w Q) := K_aload_n fi_231_842 rfl <| K_aload_n fi_231_843 rfl <| K_iload_n fi_231_844 rfl <| K_iconst fi_231_845 <| K_iaddx fi_231_846 h1 <| K_iascr fi_231_847 h2 h3 <| K_aload_n fi_231_848 rfl <| K_iload_n fi_231_849 rfl <| K_iconst fi_231_850 <| K_iaddx fi_231_851 h4 <| K_iascr fi_231_852 h5 h6 <| K_aload_n fi_231_853 rfl <| K_iload_n fi_231_854 rfl <| K_iconst fi_231_855 <| K_iaddx fi_231_856 h7 <| K_iascr fi_231_857 h8 h9 <| R_invV fi_231_858 (am_invV_of rfl (kd_153) (Nat.le_of_ble_eq_true rfl) (Nat.le_of_ble_eq_true rfl) rfl rfl)
theorem b231_861 {d L : Nat} {σ : St} {Q : Option AV → AW → Prop} {y0 y1 : Int} {u0 u1 u2 u3 : AV} : R d 231 861 [u0, u1, u2, u3] [vI y0, vI y1] (WS L σ) Q = if y1 = y0 then R d 231 1189 [u0, u1, u2, u3] [] (WS L σ) Q else R d 231 864 [u0, u1, u2, u3] [] (WS L σ) Q := R_icmp_eq fi_231_861 rfl
theorem b231_864 {d L : Nat} {σ : St} {Q : Option AV → AW → Prop} {u0 u1 u2 u3 : AV} : R d 231 864 [u0, u1, u2, u3] [] (WS L σ) Q = Q (some (vI 0)) (WS L σ) := K_iconst fi_231_864 <| R_ireti fi_231_865 rfl
theorem b231_866 {d L : Nat} {σ : St} {Q : Option AV → AW → Prop} {x3 : Int} {u2 : AV} (h1 : -2147483648 ≤ x3 + 1 ∧ x3 + 1 ≤ 2147483647) (h2 : 0 ≤ x3 + 1) (h3 : (x3 + 1) < (L : Int)) (h4 : -2147483648 ≤ x3 + 2 ∧ x3 + 2 ≤ 2147483647) (h5 : 0 ≤ x3 + 2) (h6 : (x3 + 2) < (L : Int)) (h7 : -2147483648 ≤ x3 + 3 ∧ x3 + 3 ≤ 2147483647) (h8 : 0 ≤ x3 + 3) (h9 : (x3 + 3) < (L : Int)) : R (d + 1) 231 866 [vR 0, vR 19, u2, vI x3] [] (WS L σ) Q = R d 113 0 [vR 19, vI (σ 0 (x3 + 1)), vI (σ 0 (x3 + 2)), vI (σ 0 (x3 + 3))] [] (WS L σ) (fun r w => R (d + 1) 231 885 [vR 0, vR 19, u2, vI x3] (am_push r []) w Q) := K_aload_n fi_231_866 rfl <| K_aload_n fi_231_867 rfl <| K_iload_n fi_231_868 rfl <| K_iconst fi_231_869 <| K_iaddx fi_231_870 h1 <| K_iascr fi_231_871 h2 h3 <| K_aload_n fi_231_872 rfl <| K_iload_n fi_231_873 rfl <| K_iconst fi_231_874 <| K_iaddx fi_231_875 h4 <| K_iascr fi_231_876 h5 h6 <| K_aload_n fi_231_877 rfl <| K_iload_n fi_231_878 rfl <| K_iconst fi_231_879 <| K_iaddx fi_231_880 h7 <| K_iascr fi_231_881 h8 h9 <| R_invV fi_231_882 (am_invV_of rfl (kd_19) (Nat.le_of_ble_eq_true rfl) (Nat.le_of_ble_eq_true rfl) rfl rfl)
theorem b231_885 {d L : Nat} {σ : St} {Q : Option AV → AW → Prop} {y0 x3 : Int} {u1 : AV} (h1 : -2147483648 ≤ x3 + 1 ∧ x3 + 1 ≤ 2147483647) (h2 : 0 ≤ x3 + 1) (h3 : (x3 + 1) < (L : Int)) (h4 : -2147483648 ≤ x3 + 2 ∧ x3 + 2 ≤ 2147483647) (h5 : 0 ≤ x3 + 2) (h6 : (x3 + 2) < (L : Int)) (h7 : -2147483648 ≤ x3 + 3 ∧ x3 + 3 ≤ 2147483647) (h8 : 0 ≤ x3 + 3) (h9 : (x3 + 3) < (L : Int)) : R (d + 1) 231 885 [vR 0, u1, vR 153, vI x3] [vI y0] (WS L σ) Q = R d 209 0 [vR 153, vI (σ 0 (x3 + 1)), vI (σ 0 (x3 + 2)), vI (σ 0 (x3 + 3))] [] (WS L σ) (fun r w => R (d + 1) 231 904 [vR 0, u1, vR 153, vI x3] (am_push r [vI y0]) w Q) := K_aload_n fi_231_885 rfl <| K_aload_n fi_231_886 rfl <| K_iload_n fi_231_887 rfl <| K_iconst fi_231_888 <| K_iaddx fi_231_889 h1 <| K_iascr fi_231_890 h2 h3 <| K_aload_n fi_231_891 rfl <| K_iload_n fi_231_892 rfl <| K_iconst fi_231_893 <| K_iaddx fi_231_894 h4 <| K_iascr fi_231_895 h5 h6 <| K_aload_n fi_231_896 rfl <| K_iload_n fi_231_897 rfl <| K_iconst fi_231_898 <| K_iaddx fi_231_899 h7 <| K_iascr fi_231_900 h8 h9 <| R_invV fi_231_901 (am_invV_of rfl (kd_153) (Nat.le_of_ble_eq_true rfl) (Nat.le_of_ble_eq_true rfl) rfl rfl)
theorem b231_904 {d L : Nat} {σ : St} {Q : Option AV → AW → Prop} {y0 y1 : Int} {u0 u1 u2 u3 : AV} : R d 231 904 [u0, u1, u2, u3] [vI y0, vI y1] (WS L σ) Q = if y1 = y0 then R d 231 1189 [u0, u1, u2, u3] [] (WS L σ) Q else R d 231 907 [u0, u1, u2, u3] [] (WS L σ) Q := R_icmp_eq fi_231_904 rfl
theorem b231_907 {d L : Nat} {σ : St} {Q : Option AV → AW → Prop} {u0 u1 u2 u3 : AV} : R d 231 907 [u0, u1, u2, u3] [] (WS L σ) Q = Q (some (vI 0)) (WS L σ) := K_iconst fi_231_907 <| R_ireti fi_231_908 rfl
theorem b231_909 {d L : Nat} {σ : St} {Q : Option AV → AW → Prop} {x3 : Int} {u2 : AV} (h1 : -2147483648 ≤ x3 + 1 ∧ x3 + 1 ≤ 2147483647) (h2 : 0 ≤ x3 + 1) (h3 : (x3 + 1) < (L : Int)) (h4 : -2147483648 ≤ x3 + 2 ∧ x3 + 2 ≤ 2147483647) (h5 : 0 ≤ x3 + 2) (h6 : (x3 + 2) < (L : Int)) : R (d + 1) 231 909 [vR 0, vR 19, u2, vI x3] [] (WS L σ) Q = R d 116 0 [vR 19, vI (σ 0 (x3 + 1)), vI (σ 0 (x3 + 2))] [] (WS L σ) (fun r w => R (d + 1) 231 923 [vR 0, vR 19, u2, vI x3] (am_push r []) w Q) := K_aload_n fi_231_909 rfl <| K_aload_n fi_231_910 rfl <| K_iload_n fi_231_911 rfl <| K_iconst fi_231_912 <| K_iaddx fi_231_913 h1 <| K_iascr fi_231_914 h2 h3 <| K_aload_n fi_231_915 rfl <| K_iload_n fi_231_916 rfl <| K_iconst fi_231_917 <| K_iaddx fi_231_918 h4 <| K_iascr fi_231_919 h5 h6 <| R_invV fi_231_920 (am_invV_of rfl (kd_19) (Nat.le_of_ble_eq_true rfl) (Nat.le_of_ble_eq_true rfl) rfl rfl)
theorem b231_923 {d L : Nat} {σ : St} {Q : Option AV → AW → Prop} {y0 x3 : Int} {u1 : AV} (h1 : -2147483648 ≤ x3 + 1 ∧ x3 + 1 ≤ 2147483647) (h2 : 0 ≤ x3 + 1) (h3 : (x3 + 1) < (L : Int)) (h4 : -2147483648 ≤ x3 + 2 ∧ x3 + 2 ≤ 2147483647) (h5 : 0 ≤ x3 + 2) (h6 : (x3 + 2) < (L : Int)) : R (d + 1) 231 923 [vR 0, u1, vR 153, vI x3] [vI y0] (WS L σ) Q = R d 211 0 [vR 153, vI (σ 0 (x3 + 1)), vI (σ 0 (x3 + 2)), vX 9] [] (WS L σ) (fun r w => R (d + 1) 231 937 [vR 0, u1, vR 153, vI x3] (am_push r [vI y0]) w Q) := K_aload_n fi_231_923 rfl <| K_aload_n fi_231_924 rfl <| K_iload_n fi_231_925 rfl <| K_iconst fi_231_926 <| K_iaddx fi_231_927 h1 <| K_iascr fi_231_928 h2 h3 <| K_aload_n fi_231_929 rfl <| K_iload_n fi_231_930 rfl <| K_iconst fi_231_931 <| K_iaddx fi_231_932 h4 <| K_iascr fi_231_933 h5 h6 <| R_invV fi_231_934 (am_invV_of rfl (kd_153) (Nat.le_of_ble_eq_true rfl) (Nat.le_of_ble_eq_true rfl) rfl rfl)
theorem b231_937 {d L : Nat} {σ : St} {Q : Option AV → AW → Prop} {y0 y1 : Int} {u0 u1 u2 u3 : AV} : R d 231 937 [u0, u1, u2, u3] [vI y0, vI y1] (WS L σ) Q = if y1 = y0 then R d 231 1189 [u0, u1, u2, u3] [] (WS L σ) Q else R d 231 940 [u0, u1, u2, u3] [] (WS L σ) Q := R_icmp_eq fi_231_937 rfl
theorem b231_940 {d L : Nat} {σ : St} {Q : Option AV → AW → Prop} {u0 u1 u2 u3 : AV} : R d 231 940 [u0, u1, u2, u3] [] (WS L σ) Q = Q (some (vI 0)) (WS L σ) := K_iconst fi_231_940 <| R_ireti fi_231_941 rfl
theorem b231_942 {d L : Nat} {σ : St} {Q : Option AV → AW → Prop} {x3 : Int} {u2 : AV} (h1 : -2147483648 ≤ x3 + 1 ∧ x3 + 1 ≤ 2147483647) (h2 : 0 ≤ x3 + 1) (h3 : (x3 + 1) < (L : Int)) (h4 : -2147483648 ≤ x3 + 2 ∧ x3 + 2 ≤ 2147483647) (h5 : 0 ≤ x3 + 2) (h6 : (x3 + 2) < (L : Int)) (h7 : -2147483648 ≤ x3 + 3 ∧ x3 + 3 ≤ 2147483647) (h8 : 0 ≤ x3 + 3) (h9 : (x3 + 3) < (L : Int)) : R (d + 1) 231 942 [vR 0, vR 19, u2, vI x3] [] (WS L σ) Q = R d 118 0 [vR 19, vI (σ 0 (x3 + 1)), vI (σ 0 (x3 + 2)), vI (σ 0 (x3 + 3))] [] (WS L σ) (fun r w => R (d + 1) 231 961 [vR 0, vR 19, u2, vI x3] (am_push r []) w Q) := K_aload_n fi_231_942 rfl <| K_aload_n fi_231_943 rfl <| K_iload_n fi_231_944 rfl <| K_iconst fi_231_945 <| K_iaddx fi_231_946 h1 <| K_iascr fi_231_947 h2 h3 <| K_aload_n fi_231_948 rfl <| K_iload_n fi_231_949 rfl <| K_iconst fi_231_950 <| K_iaddx fi_231_951 h4 <| K_iascr fi_231_952 h5 h6 <| K_aload_n fi_231_953 rfl <| K_iload_n fi_231_954 rfl <| K_iconst fi_231_955 <| K_iaddx fi_231_956 h7 <| K_iascr fi_231_957 h8 h9 <| R_invV fi_231_958 (am_invV_of rfl (kd_19) (Nat.le_of_ble_eq_true rfl) (Nat.le_of_ble_eq_true rfl) rfl rfl)
theorem b231_961 {d L : Nat} {σ : St} {Q : Option AV → AW → Prop} {y0 x3 : Int} {u1 : AV} (h1 : -2147483648 ≤ x3 + 1 ∧ x3 + 1 ≤ 2147483647) (h2 : 0 ≤ x3 + 1) (h3 : (x3 + 1) < (L : Int)) (h4 : -2147483648 ≤ x3 + 2 ∧ x3 + 2 ≤ 2147483647) (h5 : 0 ≤ x3 + 2) (h6 : (x3 + 2) < (L : Int)) (h7 : -2147483648 ≤ x3 + 3 ∧ x3 + 3 ≤ 2147483647) (h8 : 0 ≤ x3 + 3) (h9 : (x3 + 3) < (L : Int)) : R (d + 1) 231 961 [vR 0, u1, vR 153, vI x3] [vI y0] (WS L σ) Q = R d 212 0 [vR 153, vI (σ 0 (x3 + 1)), vI (σ 0 (x3 + 2)), vI (σ 0 (x3 + 3)), vX 9, vX 9, vX 9, vX 9, vX 9] [] (WS L σ) (fun r w => R (d + 1) 231 980 [vR 0, u1, vR 153, vI x3] (am_push r [vI y0]) w Q) := K_aload_n fi_231_961 rfl <| K_aload_n fi_231_962 rfl <| K_iload_n fi_231_963 rfl <| K_iconst fi_231_964 <| K_iaddx fi_231_965 h1 <| K_iascr fi_231_966 h2 h3 <| K_aload_n fi_231_967 rfl <| K_iload_n fi_231_968 rfl <| K_iconst fi_231_969 <| K_iaddx fi_231_970 h4 <| K_iascr fi_231_971 h5 h6 <| K_aload_n fi_231_972 rfl <| K_iload_n fi_231_973 rfl <| K_iconst fi_231_974 <| K_iaddx fi_231_975 h7 <| K_iascr fi_231_976 h8 h9 <| R_invV fi_231_977 (am_invV_of rfl (kd_153) (Nat.le_of_ble_eq_true rfl) (Nat.le_of_ble_eq_true rfl) rfl rfl)
theorem b231_980 {d L : Nat} {σ : St} {Q : Option AV → AW → Prop} {y0 y1 : Int} {u0 u1 u2 u3 : AV} : R d 231 980 [u0, u1, u2, u3] [vI y0, vI y1] (WS L σ) Q = if y1 = y0 then R d 231 1189 [u0, u1, u2, u3] [] (WS L σ) Q else R d 231 983 [u0, u1, u2, u3] [] (WS L σ) Q := R_icmp_eq fi_231_980 rfl
theorem b231_983 {d L : Nat} {σ : St} {Q : Option AV → AW → Prop} {u0 u1 u2 u3 : AV} : R d 231 983 [u0, u1, u2, u3] [] (WS L σ) Q = Q (some (vI 0)) (WS L σ) := K_iconst fi_231_983 <| R_ireti fi_231_984 rfl
theorem b231_985 {d L : Nat} {σ : St} {Q : Option AV → AW → Prop} {x3 : Int} {u2 : AV} (h1 : -2147483648 ≤ x3 + 1 ∧ x3 + 1 ≤ 2147483647) (h2 : 0 ≤ x3 + 1) (h3 : (x3 + 1) < (L : Int)) (h4 : -2147483648 ≤ x3 + 2 ∧ x3 + 2 ≤ 2147483647) (h5 : 0 ≤ x3 + 2) (h6 : (x3 + 2) < (L : Int)) : R (d + 1) 231 985 [vR 0, vR 19, u2, vI x3] [] (WS L σ) Q = R d 121 0 [vR 19, vI (σ 0 (x3 + 1)), vI (σ 0 (x3 + 2))] [] (WS L σ) (fun r w => R (d + 1) 231 999 [vR 0, vR 19, u2, vI x3] (am_push r []) w Q) := K_aload_n fi_231_985 rfl <| K_aload_n fi_231_986 rfl <| K_iload_n fi_231_987 rfl <| K_iconst fi_231_988 <| K_iaddx fi_231_989 h1 <| K_iascr fi_231_990 h2 h3 <| K_aload_n fi_231_991 rfl <| K_iload_n fi_231_992 rfl <| K_iconst fi_231_993 <| K_iaddx fi_231_994 h4 <| K_iascr fi_231_995 h5 h6 <| R_invV fi_231_996 (am_invV_of rfl (kd_19) (Nat.le_of_ble_eq_true rfl) (Nat.le_of_ble_eq_true rfl) rfl rfl)
theorem b231_999 {d L : Nat} {σ : St} {Q : Option AV → AW → Prop} {y0 x3 : Int} {u1 : AV} (h1 : -2147483648 ≤ x3 + 1 ∧ x3 + 1 ≤ 2147483647) (h2 : 0 ≤ x3 + 1) (h3 : (x3 + 1) < (L : Int)) (h4 : -2147483648 ≤ x3 + 2 ∧ x3 + 2 ≤ 2147483647) (h5 : 0 ≤ x3 + 2) (h6 : (x3 + 2) < (L : Int)) : R (d + 1) 231 999 [vR 0, u1, vR 153, vI x3] [vI y0] (WS L σ) Q = R d 213 0 [vR 153, vI (σ 0 (x3 + 1)), vI (σ 0 (x3 + 2))] [] (WS L σ) (fun r w => R (d + 1) 231 1013 [vR 0, u1, vR 153, vI x3] (am_push r [vI y0]) w Q) := K_aload_n fi_231_999 rfl <| K_aload_n fi_231_1000 rfl <| K_iload_n fi_231_1001 rfl <| K_iconst fi_231_1002 <| K_iaddx fi_231_1003 h1 <| K_iascr fi_231_1004 h2 h3 <| K_aload_n fi_231_1005 rfl <| K_iload_n fi_231_1006 rfl <| K_iconst fi_231_1007 <| K_iaddx fi_231_1008 h4 <| K_iascr fi_231_1009 h5 h6 <| R_invV fi_231_1010 (am_invV_of rfl (kd_153) (Nat.le_of_ble_eq_true rfl) (Nat.le_of_ble_eq_true rfl) rfl rfl)
theorem b231_1013 {d L : Nat} {σ : St} {Q : Option AV → AW → Prop} {y0 y1 : Int} {u0 u1 u2 u3 : AV} : R d 231 1013 [u0, u1, u2, u3] [vI y0, vI y1] (WS L σ) Q = if y1 = y0 then R d 231 1189 [u0, u1, u2, u3] [] (WS L σ) Q else R d 231 1016 [u0, u1, u2, u3] [] (WS L σ) Q := R_icmp_eq fi_231_1013 rfl
theorem b231_1016 {d L : Nat} {σ : St} {Q : Option AV → AW → Prop} {u0 u1 u2 u3 : AV} : R d 231 1016 [u0, u1, u2, u3] [] (WS L σ) Q = Q (some (vI 0)) (WS L σ) := K_iconst fi_231_1016 <| R_ireti fi_231_1017 rfl
theorem b231_1018 {d L : Nat} {σ : St} {Q : Option AV → AW → Prop} {x3 : Int} {u2 : AV} (h1 : -2147483648 ≤ x3 + 1 ∧ x3 + 1 ≤ 2147483647) (h2 : 0 ≤ x3 + 1) (h3 : (x3 + 1) < (L : Int)) : R (d + 1) 231 1018 [vR 0, vR 19, u2, vI x3] [] (WS L σ) Q = R d 127 0 [vR 19, vI (σ 0 (x3 + 1))] [] (WS L σ) (fun r w => R (d + 1) 231 1027 [vR 0, vR 19, u2, vI x3] (am_push r []) w Q) := K_aload_n fi_231_1018 rfl <| K_aload_n fi_231_1019 rfl <| K_iload_n fi_231_1020 rfl <| K_iconst fi_231_1021 <| K_iaddx fi_231_1022 h1 <| K_iascr fi_231_1023 h2 h3 <| R_invV fi_231_1024 (am_invV_of rfl (kd_19) (Nat.le_of_ble_eq_true rfl) (Nat.le_of_ble_eq_true rfl) rfl rfl)
theorem b231_1027 {d L : Nat} {σ : St} {Q : Option AV → AW → Prop} {y0 x3 : Int} {u1 : AV} (h1 : -2147483648 ≤ x3 + 1 ∧ x3 + 1 ≤ 2147483647) (h2 : 0 ≤ x3 + 1) (h3 : (x3 + 1) < (L : Int)) : R (d + 1) 231 1027 [vR 0, u1, vR 153, vI x3] [vI y0] (WS L σ) Q = R d 216 0 [vR 153, vI (σ 0 (x3 + 1))] [] (WS L σ) (fun r w => R (d + 1) 231 1036 [vR 0, u1, vR 153, vI x3] (am_push r [vI y0]) w Q) := K_aload_n fi_231_1027 rfl <| K_aload_n fi_231_1028 rfl <| K_iload_n fi_231_1029 rfl <| K_iconst fi_231_1030 <| K_iaddx fi_231_1031 h1 <| K_iascr fi_231_1032 h2 h3 <| R_invV fi_231_1033 (am_invV_of rfl (kd_153) (Nat.le_of_ble_eq_true rfl) (Nat.le_of_ble_eq_true rfl) rfl rfl)
theorem b231_1036 {d L : Nat} {σ : St} {Q : Option AV → AW → Prop} {y0 y1 : Int} {u0 u1 u2 u3 : AV} : R d 231 1036 [u0, u1, u2, u3] [vI y0, vI y1] (WS L σ) Q = if y1 = y0 then R d 231 1189 [u0, u1, u2, u3] [] (WS L σ) Q else R d 231 1039 [u0, u1, u2, u3] [] (WS L σ) Q := R_icmp_eq fi_231_1036 rfl
theorem b231_1039 {d L : Nat} {σ : St} {Q : Option AV → AW → Prop} {u0 u1 u2 u3 : AV} : R d 231 1039 [u0, u1, u2, u3] [] (WS L σ) Q = Q (some (vI 0)) (WS L σ) := K_iconst fi_231_1039 <| R_ireti fi_231_1040 rfl
theorem b231_1041 {d L : Nat} {σ : St} {Q : Option AV → AW → Prop} {x3 : Int} {u2 : AV} (h1 : -2147483648 ≤ x3 + 1 ∧ x3 + 1 ≤ 2147483647) (h2 : 0 ≤ x3 + 1) (h3 : (x3 + 1) < (L : Int)) (h4 : -2147483648 ≤ x3 + 2 ∧ x3 + 2 ≤ 2147483647) (h5 : 0 ≤ x3 + 2) (h6 : (x3 + 2) < (L : Int)) (h7 : -2147483648 ≤ x3 + 3 ∧ x3 + 3 ≤ 2147483647) (h8 : 0 ≤ x3 + 3) (h9 : (x3 + 3) < (L : Int)) : R (d + 1) 231 1041 [vR 0, vR 19, u2, vI x3] [] (WS L σ) Q = R d 128 0 [vR 19, vI (σ 0 (x3 + 1)), vI (σ 0 (x3 + 2)), vI (σ 0 (x3 + 3)), vX 9] [] (WS L σ) (fun r w => R (d + 1) 231 1060 [vR 0, vR 19, u2, vI x3] (am_push r []) w Q) := K_aload_n fi_231_1041 rfl <| K_aload_n fi_231_1042 rfl <| K_iload_n fi_231_1043 rfl <| K_iconst fi_231_1044 <| K_iaddx fi_231_1045 h1 <| K_iascr fi_231_1046 h2 h3 <| K_aload_n fi_231_1047 rfl <| K_iload_n fi_231_1048 rfl <| K_iconst fi_231_1049 <| K_iaddx fi_231_1050 h4 <| K_iascr fi_231_1051 h5 h6 <| K_aload_n fi_231_1052 rfl <| K_iload_n fi_231_1053 rfl <| K_iconst fi_231_1054 <| K_iaddx fi_231_1055 h7 <| K_iascr fi_231_1056 h8 h9 <| R_invV fi_231_1057 (am_invV_of rfl (kd_19) (Nat.le_of_ble_eq_true rfl) (Nat.le_of_ble_eq_true rfl) rfl rfl)
theorem b231_1060 {d L : Nat} {σ : St} {Q : Option AV → AW → Prop} {y0 x3 : Int} {u1 : AV} (h1 : -2147483648 ≤ x3 + 1 ∧ x3 + 1 ≤ 2147483647) (h2 : 0 ≤ x3 + 1) (h3 : (x3 + 1) < (L : Int)) (h4 : -2147483648 ≤ x3 + 2 ∧ x3 + 2 ≤ 2147483647) (h5 : 0 ≤ x3 + 2) (h6 : (x3 + 2) < (L : Int)) (h7 : -2147483648 ≤ x3 + 3 ∧ x3 + 3 ≤ 2147483647) (h8 : 0 ≤ x3 + 3) (h9 : (x3 + 3) < (L : Int)) : R (d + 1) 231 1060 [vR 0, u1, vR 153, vI x3] [vI y0] (WS L σ) Q = R d 217 0 [vR 153, vI (σ 0 (x3 + 1)), vI (σ 0 (x3 + 2)), vI (σ 0 (x3 + 3)), vX 9] [] (WS L σ) (fun r w => R (d + 1) 231 1079 [vR 0, u1, vR 153, vI x3] (am_push r [vI y0]) w Q) := K_aload_n fi_231_1060 rfl <| K_aload_n fi_231_1061 rfl <| K_iload_n fi_231_1062 rfl <| K_iconst fi_231_1063 <| K_iaddx fi_231_1064 h1 <| K_iascr fi_231_1065 h2 h3 <| K_aload_n fi_231_1066 rfl <| K_iload_n fi_231_1067 rfl <| K_iconst fi_231_1068 <| K_iaddx fi_231_1069 h4 <| K_iascr fi_231_1070 h5 h6 <| K_aload_n fi_231_1071 rfl <| K_iload_n fi_231_1072 rfl <| K_iconst fi_231_1073 <| K_iaddx fi_231_1074 h7 <| K_iascr fi_231_1075 h8 h9 <| R_invV fi_231_1076 (am_invV_of rfl (kd_153) (Nat.le_of_ble_eq_true rfl) (Nat.le_of_ble_eq_true rfl) rfl rfl)
theorem b231_1079 {d L : Nat} {σ : St} {Q : Option AV → AW → Prop} {y0 y1 : Int} {u0 u1 u2 u3 : AV} : R d 231 1079 [u0, u1, u2, u3] [vI y0, vI y1] (WS L σ) Q = if y1 = y0 then R d 231 1189 [u0, u1, u2, u3] [] (WS L σ) Q else R d 231 1082 [u0, u1, u2, u3] [] (WS L σ) Q := R_icmp_eq fi_231_1079 rfl
theorem b231_1082 {d L : Nat} {σ : St} {Q : Option AV → AW → Prop} {u0 u1 u2 u3 : AV} : R d 231 1082 [u0, u1, u2, u3] [] (WS L σ) Q = Q (some (vI 0)) (WS L σ) := K_iconst fi_231_1082 <| R_ireti fi_231_1083 rfl
theorem b231_1084 {d L : Nat} {σ : St} {Q : Option AV → AW → Prop} {x3 : Int} {u2 : AV} (h1 : -2147483648 ≤ x3 + 1 ∧ x3 + 1 ≤ 2147483647) (h2 : 0 ≤ x3 + 1) (h3 : (x3 + 1) < (L : Int)) : R (d + 1) 231 1084 [vR 0, vR 19, u2, vI x3] [] (WS L σ) Q = R d 135 0 [vR 19, vI (σ 0 (x3 + 1))] [] (WS L σ) (fun r w => R (d + 1) 231 1093 [vR 0, vR 19, u2, vI x3] (am_push r []) w Q) := K_aload_n fi_231_1084 rfl <| K_aload_n fi_231_1085 rfl <| K_iload_n fi_231_1086 rfl <| K_iconst fi_231_1087 <| K_iaddx fi_231_1088 h1 <| K_iascr fi_231_1089 h2 h3 <| R_invV fi_231_1090 (am_invV_of rfl (kd_19) (Nat.le_of_ble_eq_true rfl) (Nat.le_of_ble_eq_true rfl) rfl rfl)
theorem b231_1093 {d L : Nat} {σ : St} {Q : Option AV → AW → Prop} {y0 x3 : Int} {u1 : AV} (h1 : -2147483648 ≤ x3 + 1 ∧ x3 + 1 ≤ 2147483647) (h2 : 0 ≤ x3 + 1) (h3 : (x3 + 1) < (L : Int)) : R (d + 1) 231 1093 [vR 0, u1, vR 153, vI x3] [vI y0] (WS L σ) Q = R d 226 0 [vR 153, vI (σ 0 (x3 + 1))] [] (WS L σ) (fun r w => R (d + 1) 231 1102 [vR 0, u1, vR 153, vI x3] (am_push r [vI y0]) w Q) := K_aload_n fi_231_1093 rfl <| K_aload_n fi_231_1094 rfl <| K_iload_n fi_231_1095 rfl <| K_iconst fi_231_1096 <| K_iaddx fi_231_1097 h1 <| K_iascr fi_231_1098 h2 h3 <| R_invV fi_231_1099 (am_invV_of rfl (kd_153) (Nat.le_of_ble_eq_true rfl) (Nat.le_of_ble_eq_true rfl) rfl rfl)
theorem b231_1102 {d L : Nat} {σ : St} {Q : Option AV → AW → Prop} {y0 y1 : Int} {u0 u1 u2 u3 : AV} : R d 231 1102 [u0, u1, u2, u3] [vI y0, vI y1] (WS L σ) Q = if y1 = y0 then R d 231 1189 [u0, u1, u2, u3] [] (WS L σ) Q else R d 231 1105 [u0, u1, u2, u3] [] (WS L σ) Q := R_icmp_eq fi_231_1102 rfl
theorem b231_1105 {d L : Nat} {σ : St} {Q : Option AV → AW → Prop} {u0 u1 u2 u3 : AV} : R d 231 1105 [u0, u1, u2, u3] [] (WS L σ) Q = Q (some (vI 0)) (WS L σ) := K_iconst fi_231_1105 <| R_ireti fi_231_1106 rfl
theorem b231_1107 {d L : Nat} {σ : St} {Q : Option AV → AW → Prop} {x3 : Int} {u2 : AV} (h1 : -2147483648 ≤ x3 + 1 ∧ x3 + 1 ≤ 2147483647) (h2 : 0 ≤ x3 + 1) (h3 : (x3 + 1) < (L : Int)) (h4 : -2147483648 ≤ x3 + 2 ∧ x3 + 2 ≤ 2147483647) (h5 : 0 ≤ x3 + 2) (h6 : (x3 + 2) < (L : Int)) : R (d + 1) 231 1107 [vR 0, vR 19, u2, vI x3] [] (WS L σ) Q = R d 136 0 [vR 19, vI (σ 0 (x3 + 1)), vI (σ 0 (x3 + 2)), vX 9] [] (WS L σ) (fun r w => R (d + 1) 231 1121 [vR 0, vR 19, u2, vI x3] (am_push r []) w Q) := K_aload_n fi_231_1107 rfl <| K_aload_n fi_231_1108 rfl <| K_iload_n fi_231_1109 rfl <| K_iconst fi_231_1110 <| K_iaddx fi_231_1111 h1 <| K_iascr fi_231_1112 h2 h3 <| K_aload_n fi_231_1113 rfl <| K_iload_n fi_231_1114 rfl <| K_iconst fi_231_1115 <| K_iaddx fi_231_1116 h4 <| K_iascr fi_231_1117 h5 h6 <| R_invV fi_231_1118 (am_invV_of rfl (kd_19) (Nat.le_of_ble_eq_true rfl) (Nat.le_of_ble_eq_true rfl) rfl rfl)
theorem b231_1121 {d L : Nat} {σ : St} {Q : Option AV → AW → Prop} {y0 x3 : Int} {u1 : AV} (h1 : -2147483648 ≤ x3 + 1 ∧ x3 + 1 ≤ 2147483647) (h2 : 0 ≤ x3 + 1) (h3 : (x3 + 1) < (L : Int)) (h4 : -2147483648 ≤ x3 + 2 ∧ x3 + 2 ≤ 2147483647) (h5 : 0 ≤ x3 + 2) (h6 : (x3 + 2) < (L : Int)) : R (d + 1) 231 1121 [vR 0, u1, vR 153, vI x3] [vI y0] (WS L σ) Q = R d 227 0 [vR 153, vI (σ 0 (x3 + 1)), vI (σ 0 (x3 + 2))] [] (WS L σ) (fun r w => R (d + 1) 231 1135 [vR 0, u1, vR 153, vI x3] (am_push r [vI y0]) w Q) := K_aload_n fi_231_1121 rfl <| K_aload_n fi_231_1122 rfl <| K_iload_n fi_231_1123 rfl <| K_iconst fi_231_1124 <| K_iaddx fi_231_1125 h1 <| K_iascr fi_231_1126 h2 h3 <| K_aload_n fi_231_1127 rfl <| K_iload_n fi_231_1128 rfl <| K_iconst fi_231_1129 <| K_iaddx fi_231_1130 h4 <| K_iascr fi_231_1131 h5 h6 <| R_invV fi_231_1132 (am_invV_of rfl (kd_153) (Nat.le_of_ble_eq_true rfl) (Nat.le_of_ble_eq_true rfl) rfl rfl)
theorem b231_1135 {d L : Nat} {σ : St} {Q : Option AV → AW → Prop} {y0 y1 : Int} {u0 u1 u2 u3 : AV} : R d 231 1135 [u0, u1, u2, u3] [vI y0, vI y1] (WS L σ) Q = if y1 = y0 then R d 231 1189 [u0, u1, u2, u3] [] (WS L σ) Q else R d 231 1138 [u0, u1, u2, u3] [] (WS L σ) Q := R_icmp_eq fi_231_1135 rfl
theorem b231_1138 {d L : Nat} {σ : St} {Q : Option AV → AW → Prop} {u0 u1 u2 u3 : AV} : R d 231 1138 [u0, u1, u2, u3] [] (WS L σ) Q = Q (some (vI 0)) (WS L σ) := K_iconst fi_231_1138 <| R_ireti fi_231_1139 rfl
theorem b231_1140 {d L : Nat} {σ : St} {Q : Option AV → AW → Prop} {u0 u2 u3 : AV} : R (d + 1) 231 1140 [u0, vR 19, u2, u3] [] (WS L σ) Q = R d 138 0 [vR 19] [] (WS L σ) (fun r w => R (d + 1) 231 1144 [u0, vR 19, u2, u3] (am_push r []) w Q) := K_aload_n fi_231_1140 rfl <| R_invV fi_231_1141 (am_invV_of rfl (kd_19) (Nat.le_of_ble_eq_true rfl) (Nat.le_of_ble_eq_true rfl) rfl rfl)
theorem b231_1144 {d L : Nat} {σ : St} {Q : Option AV → AW → Prop} {y0 : Int} {u0 u1 u3 : AV} : R (d + 1) 231 1144 [u0, u1, vR 153, u3] [vI y0] (WS L σ) Q = R d 228 0 [vR 153, vX 9] [] (WS L σ) (fun r w => R (d + 1) 231 1148 [u0, u1, vR 153, u3] (am_push r [vI y0]) w Q) := K_aload_n fi_231_1144 rfl <| R_invV fi_231_1145 (am_invV_of rfl (kd_153) (Nat.le_of_ble_eq_true rfl) (Nat.le_of_ble_eq_true rfl) rfl rfl)
theorem b231_1148 {d L : Nat} {σ : St} {Q : Option AV → AW → Prop} {y0 y1 : Int} {u0 u1 u2 u3 : AV} : R d 231 1148 [u0, u1, u2, u3] [vI y0, vI y1] (WS L σ) Q = if y1 = y0 then R d 231 1189 [u0, u1, u2, u3] [] (WS L σ) Q else R d 231 1151 [u0, u1, u2, u3] [] (WS L σ) Q := R_icmp_eq fi_231_1148 rfl
theorem b231_1151 {d L : Nat} {σ : St} {Q : Option AV → AW → Prop} {u0 u1 u2 u3 : AV} : R d 231 1151 [u0, u1, u2, u3] [] (WS L σ) Q = Q (some (vI 0)) (WS L σ) := K_iconst fi_231_1151 <| R_ireti fi_231_1152 rfl
theorem b231_1153 {d L : Nat} {σ : St} {Q : Option AV → AW → Prop} {u0 u2 u3 : AV} : R (d + 1) 231 1153 [u0, vR 19, u2, u3] [] (WS L σ) Q = R d 141 0 [vR 19] [] (WS L σ) (fun r w => R (d + 1) 231 1157 [u0, vR 19, u2, u3] (am_push r []) w Q) := K_aload_n fi_231_1153 rfl <| R_invV fi_231_1154 (am_invV_of rfl (kd_19) (Nat.le_of_ble_eq_true rfl) (Nat.le_of_ble_eq_true rfl) rfl rfl)
theorem b231_1157 {d L : Nat} {σ : St} {Q : Option AV → AW → Prop} {y0 : Int} {u0 u1 u3 : AV} : R (d + 1) 231 1157 [u0, u1, vR 153, u3] [vI y0] (WS L σ) Q = R d 229 0 [vR 153, vX 9] [] (WS L σ) (fun r w => R (d + 1) 231 1161 [u0, u1, vR 153, u3] (am_push r [vI y0]) w Q) := K_aload_n fi_231_1157 rfl <| R_invV fi_231_1158 (am_invV_of rfl (kd_153) (Nat.le_of_ble_eq_true rfl) (Nat.le_of_ble_eq_true rfl) rfl rfl)
theorem b231_1161 {d L : Nat} {σ : St} {Q : Option AV → AW → Prop} {y0 y1 : Int} {u0 u1 u2 u3 : AV} : R d 231 1161 [u0, u1, u2, u3] [vI y0, vI y1] (WS L σ) Q = if y1 = y0 then R d 231 1189 [u0, u1, u2, u3] [] (WS L σ) Q else R d 231 1164 [u0, u1, u2, u3] [] (WS L σ) Q := R_icmp_eq fi_231_1161 rfl
theorem b231_1164 {d L : Nat} {σ : St} {Q : Option AV → AW → Prop} {u0 u1 u2 u3 : AV} : R d 231 1164 [u0, u1, u2, u3] [] (WS L σ) Q = Q (some (vI 0)) (WS L σ) := K_iconst fi_231_1164 <| R_ireti fi_231_1165 rfl
theorem b231_1166 {d L : Nat} {σ : St} {Q : Option AV → AW → Prop} {x3 : Int} {u2 : AV} (h1 : -2147483648 ≤ x3 + 1 ∧ x3 + 1 ≤ 2147483647) (h2 : 0 ≤ x3 + 1) (h3 : (x3 + 1) < (L : Int)) : R (d + 1) 231 1166 [vR 0, vR 19, u2, vI x3] [] (WS L σ) Q = R d 142 0 [vR 19, vI (σ 0 (x3 + 1))] [] (WS L σ) (fun r w => R (d + 1) 231 1175 [vR 0, vR 19, u2, vI x3] (am_push r []) w Q) := K_aload_n fi_231_1166 rfl <| K_aload_n fi_231_1167 rfl <| K_iload_n fi_231_1168 rfl <| K_iconst fi_231_1169 <| K_iaddx fi_231_1170 h1 <| K_iascr fi_231_1171 h2 h3 <| R_invV fi_231_1172 (am_invV_of rfl (kd_19) (Nat.le_of_ble_eq_true rfl) (Nat.le_of_ble_eq_true rfl) rfl rfl)
theorem b231_1175 {d L : Nat} {σ : St} {Q : Option AV → AW → Prop} {y0 x3 : Int} {u1 : AV} (h1 : -2147483648 ≤ x3 + 1 ∧ x3 + 1 ≤ 2147483647) (h2 : 0 ≤ x3 + 1) (h3 : (x3 + 1) < (L : Int)) : R (d + 1) 231 1175 [vR 0, u1, vR 153, vI x3] [vI y0] (WS L σ) Q = R d 230 0 [vR 153, vI (σ 0 (x3 + 1))] [] (WS L σ) (fun r w => R (d + 1) 231 1184 [vR 0, u1, vR 153, vI x3] (am_push r [vI y0]) w Q) := K_aload_n fi_231_1175 rfl <| K_aload_n fi_231_1176 rfl <| K_iload_n fi_231_1177 rfl <| K_iconst fi_231_1178 <| K_iaddx fi_231_1179 h1 <| K_iascr fi_231_1180 h2 h3 <| R_invV fi_231_1181 (am_invV_of rfl (kd_153) (Nat.le_of_ble_eq_true rfl) (Nat.le_of_ble_eq_true rfl) rfl rfl)
theorem b231_1184 {d L : Nat} {σ : St} {Q : Option AV → AW → Prop} {y0 y1 : Int} {u0 u1 u2 u3 : AV} : R d 231 1184 [u0, u1, u2, u3] [vI y0, vI y1] (WS L σ) Q = if y1 = y0 then R d 231 1189 [u0, u1, u2, u3] [] (WS L σ) Q else R d 231 1187 [u0, u1, u2, u3] [] (WS L σ) Q := R_icmp_eq fi_231_1184 rfl
theorem b231_1187 {d L : Nat} {σ : St} {Q : Option AV → AW → Prop} {u0 u1 u2 u3 : AV} : R d 231 1187 [u0, u1, u2, u3] [] (WS L σ) Q = Q (some (vI 0)) (WS L σ) := K_iconst fi_231_1187 <| R_ireti fi_231_1188 rfl
theorem b231_1189 {d L : Nat} {σ : St} {Q : Option AV → AW → Prop} {x3 : Int} {u0 u1 u2 : AV} (h1 : -2147483648 ≤ x3 + 4 ∧ x3 + 4 ≤ 2147483647) : R d 231 1189 [u0, u1, u2, vI x3] [] (WS L σ) Q = R d 231 18 [u0, u1, u2, vI (x3 + 4)] [] (WS L σ) Q := K_iincx fi_231_1189 rfl (Nat.le_of_ble_eq_true rfl) rfl h1 rfl <| R_goto fi_231_1192 rfl
theorem b231_1195 {d L : Nat} {σ : St} {Q : Option AV → AW → Prop} {u0 u1 u2 u3 : AV} : R d 231 1195 [u0, u1, u2, u3] [] (WS L σ) Q = Q (some (vI 1)) (WS L σ) := K_iconst fi_231_1195 <| R_ireti fi_231_1196 rfl
