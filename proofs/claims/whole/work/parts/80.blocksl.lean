/-! block lemmas of the law (printed by wip/whole/gen_law.py) -/
theorem kd_0 : KD 0 = 110 := rfl
theorem fi_232_0 : am_find 232 0 = some (.new 7, 3, 9, 0, 90) := by decide +kernel
theorem fi_232_3 : am_find 232 3 = some (.dup, 1, 0, 0, 0) := by decide +kernel
theorem fi_232_4 : am_find 232 4 = some (.invokespecial 9, 3, 0, 0, 226) := by decide +kernel
theorem fi_232_7 : am_find 232 7 = some (.astore_n 1, 1, 0, 0, 0) := by decide +kernel
theorem fi_232_8 : am_find 232 8 = some (.new 10, 3, 10, 0, 1040) := by decide +kernel
theorem fi_232_11 : am_find 232 11 = some (.dup, 1, 0, 0, 0) := by decide +kernel
theorem fi_232_12 : am_find 232 12 = some (.invokespecial 12, 3, 143, 0, 227) := by decide +kernel
theorem fi_232_15 : am_find 232 15 = some (.astore_n 2, 1, 0, 0, 0) := by decide +kernel
theorem fi_232_16 : am_find 232 16 = some (.iconst 0, 1, 0, 0, 0) := by decide +kernel
theorem fi_232_17 : am_find 232 17 = some (.istore_n 3, 1, 0, 0, 0) := by decide +kernel
theorem fi_232_18 : am_find 232 18 = some (.iload_n 3, 1, 0, 0, 0) := by decide +kernel
theorem fi_232_19 : am_find 232 19 = some (.aload_n 0, 1, 0, 0, 0) := by decide +kernel
theorem fi_232_20 : am_find 232 20 = some (.arraylength, 1, 0, 0, 0) := by decide +kernel
theorem fi_232_21 : am_find 232 21 = some (.iconst 4, 1, 0, 4, 0) := by decide +kernel
theorem fi_232_22 : am_find 232 22 = some (.isub, 1, 0, 0, 0) := by decide +kernel
theorem fi_232_23 : am_find 232 23 = some (.if_icmp .gt 1172, 3, 0, 0, 0) := by decide +kernel
theorem fi_232_26 : am_find 232 26 = some (.aload_n 0, 1, 0, 0, 0) := by decide +kernel
theorem fi_232_27 : am_find 232 27 = some (.iload_n 3, 1, 0, 0, 0) := by decide +kernel
theorem fi_232_28 : am_find 232 28 = some (.iaload, 1, 0, 0, 0) := by decide +kernel
theorem fi_232_29 : am_find 232 29 = some (.bipush 63, 2, 0, 63, 0) := by decide +kernel
theorem fi_232_31 : am_find 232 31 = some (.iand, 1, 0, 0, 0) := by decide +kernel
theorem fi_232_32 : am_find 232 32 = some (.tableswitch 1157 0 34 #[156, 199, 232, 255, 318, 331, 364, 397, 420, 443, 466, 499, 532, 565, 588, 611, 650, 663, 686, 709, 732, 755, 768, 791, 834, 877, 910, 953, 986, 1009, 1052, 1075, 1108, 1121, 1134], 156, 0, 0, 0) := by decide +kernel
theorem fi_232_188 : am_find 232 188 = some (.aload_n 1, 1, 0, 0, 0) := by decide +kernel
theorem fi_232_189 : am_find 232 189 = some (.aload_n 0, 1, 0, 0, 0) := by decide +kernel
theorem fi_232_190 : am_find 232 190 = some (.iload_n 3, 1, 0, 0, 0) := by decide +kernel
theorem fi_232_191 : am_find 232 191 = some (.iconst 1, 1, 0, 1, 0) := by decide +kernel
theorem fi_232_192 : am_find 232 192 = some (.iadd, 1, 0, 0, 0) := by decide +kernel
theorem fi_232_193 : am_find 232 193 = some (.iaload, 1, 0, 0, 0) := by decide +kernel
theorem fi_232_194 : am_find 232 194 = some (.aload_n 0, 1, 0, 0, 0) := by decide +kernel
theorem fi_232_195 : am_find 232 195 = some (.iload_n 3, 1, 0, 0, 0) := by decide +kernel
theorem fi_232_196 : am_find 232 196 = some (.iconst 2, 1, 0, 2, 0) := by decide +kernel
theorem fi_232_197 : am_find 232 197 = some (.iadd, 1, 0, 0, 0) := by decide +kernel
theorem fi_232_198 : am_find 232 198 = some (.iaload, 1, 0, 0, 0) := by decide +kernel
theorem fi_232_199 : am_find 232 199 = some (.aload_n 0, 1, 0, 0, 0) := by decide +kernel
theorem fi_232_200 : am_find 232 200 = some (.iload_n 3, 1, 0, 0, 0) := by decide +kernel
theorem fi_232_201 : am_find 232 201 = some (.iconst 3, 1, 0, 3, 0) := by decide +kernel
theorem fi_232_202 : am_find 232 202 = some (.iadd, 1, 0, 0, 0) := by decide +kernel
theorem fi_232_203 : am_find 232 203 = some (.iaload, 1, 0, 0, 0) := by decide +kernel
theorem fi_232_204 : am_find 232 204 = some (.invokevirtual 13, 3, 12, 3, 228) := by decide +kernel
theorem fi_232_207 : am_find 232 207 = some (.aload_n 2, 1, 0, 0, 0) := by decide +kernel
theorem fi_232_208 : am_find 232 208 = some (.aload_n 0, 1, 0, 0, 0) := by decide +kernel
theorem fi_232_209 : am_find 232 209 = some (.iload_n 3, 1, 0, 0, 0) := by decide +kernel
theorem fi_232_210 : am_find 232 210 = some (.iconst 1, 1, 0, 1, 0) := by decide +kernel
theorem fi_232_211 : am_find 232 211 = some (.iadd, 1, 0, 0, 0) := by decide +kernel
theorem fi_232_212 : am_find 232 212 = some (.iaload, 1, 0, 0, 0) := by decide +kernel
theorem fi_232_213 : am_find 232 213 = some (.aload_n 0, 1, 0, 0, 0) := by decide +kernel
theorem fi_232_214 : am_find 232 214 = some (.iload_n 3, 1, 0, 0, 0) := by decide +kernel
theorem fi_232_215 : am_find 232 215 = some (.iconst 2, 1, 0, 2, 0) := by decide +kernel
theorem fi_232_216 : am_find 232 216 = some (.iadd, 1, 0, 0, 0) := by decide +kernel
theorem fi_232_217 : am_find 232 217 = some (.iaload, 1, 0, 0, 0) := by decide +kernel
theorem fi_232_218 : am_find 232 218 = some (.aload_n 0, 1, 0, 0, 0) := by decide +kernel
theorem fi_232_219 : am_find 232 219 = some (.iload_n 3, 1, 0, 0, 0) := by decide +kernel
theorem fi_232_220 : am_find 232 220 = some (.iconst 3, 1, 0, 3, 0) := by decide +kernel
theorem fi_232_221 : am_find 232 221 = some (.iadd, 1, 0, 0, 0) := by decide +kernel
theorem fi_232_222 : am_find 232 222 = some (.iaload, 1, 0, 0, 0) := by decide +kernel
theorem fi_232_223 : am_find 232 223 = some (.invokevirtual 17, 3, 144, 3, 229) := by decide +kernel
theorem fi_232_226 : am_find 232 226 = some (.if_icmp .eq 963, 3, 0, 0, 0) := by decide +kernel
theorem fi_232_229 : am_find 232 229 = some (.iconst 0, 1, 0, 0, 0) := by decide +kernel
theorem fi_232_230 : am_find 232 230 = some (.ireturn, 1, 1, 0, 0) := by decide +kernel
theorem fi_232_231 : am_find 232 231 = some (.aload_n 1, 1, 0, 0, 0) := by decide +kernel
theorem fi_232_232 : am_find 232 232 = some (.aload_n 0, 1, 0, 0, 0) := by decide +kernel
theorem fi_232_233 : am_find 232 233 = some (.iload_n 3, 1, 0, 0, 0) := by decide +kernel
theorem fi_232_234 : am_find 232 234 = some (.iconst 1, 1, 0, 1, 0) := by decide +kernel
theorem fi_232_235 : am_find 232 235 = some (.iadd, 1, 0, 0, 0) := by decide +kernel
theorem fi_232_236 : am_find 232 236 = some (.iaload, 1, 0, 0, 0) := by decide +kernel
theorem fi_232_237 : am_find 232 237 = some (.aload_n 0, 1, 0, 0, 0) := by decide +kernel
theorem fi_232_238 : am_find 232 238 = some (.iload_n 3, 1, 0, 0, 0) := by decide +kernel
theorem fi_232_239 : am_find 232 239 = some (.iconst 2, 1, 0, 2, 0) := by decide +kernel
theorem fi_232_240 : am_find 232 240 = some (.iadd, 1, 0, 0, 0) := by decide +kernel
theorem fi_232_241 : am_find 232 241 = some (.iaload, 1, 0, 0, 0) := by decide +kernel
theorem fi_232_242 : am_find 232 242 = some (.invokevirtual 18, 3, 44, 2, 230) := by decide +kernel
theorem fi_232_245 : am_find 232 245 = some (.aload_n 2, 1, 0, 0, 0) := by decide +kernel
theorem fi_232_246 : am_find 232 246 = some (.aload_n 0, 1, 0, 0, 0) := by decide +kernel
theorem fi_232_247 : am_find 232 247 = some (.iload_n 3, 1, 0, 0, 0) := by decide +kernel
theorem fi_232_248 : am_find 232 248 = some (.iconst 1, 1, 0, 1, 0) := by decide +kernel
theorem fi_232_249 : am_find 232 249 = some (.iadd, 1, 0, 0, 0) := by decide +kernel
theorem fi_232_250 : am_find 232 250 = some (.iaload, 1, 0, 0, 0) := by decide +kernel
theorem fi_232_251 : am_find 232 251 = some (.aload_n 0, 1, 0, 0, 0) := by decide +kernel
theorem fi_232_252 : am_find 232 252 = some (.iload_n 3, 1, 0, 0, 0) := by decide +kernel
theorem fi_232_253 : am_find 232 253 = some (.iconst 2, 1, 0, 2, 0) := by decide +kernel
theorem fi_232_254 : am_find 232 254 = some (.iadd, 1, 0, 0, 0) := by decide +kernel
theorem fi_232_255 : am_find 232 255 = some (.iaload, 1, 0, 0, 0) := by decide +kernel
theorem fi_232_256 : am_find 232 256 = some (.invokevirtual 22, 3, 146, 2, 231) := by decide +kernel
theorem fi_232_259 : am_find 232 259 = some (.if_icmp .eq 930, 3, 0, 0, 0) := by decide +kernel
theorem fi_232_262 : am_find 232 262 = some (.iconst 0, 1, 0, 0, 0) := by decide +kernel
theorem fi_232_263 : am_find 232 263 = some (.ireturn, 1, 1, 0, 0) := by decide +kernel
theorem fi_232_264 : am_find 232 264 = some (.aload_n 1, 1, 0, 0, 0) := by decide +kernel
theorem fi_232_265 : am_find 232 265 = some (.aload_n 0, 1, 0, 0, 0) := by decide +kernel
theorem fi_232_266 : am_find 232 266 = some (.iload_n 3, 1, 0, 0, 0) := by decide +kernel
theorem fi_232_267 : am_find 232 267 = some (.iconst 1, 1, 0, 1, 0) := by decide +kernel
theorem fi_232_268 : am_find 232 268 = some (.iadd, 1, 0, 0, 0) := by decide +kernel
theorem fi_232_269 : am_find 232 269 = some (.iaload, 1, 0, 0, 0) := by decide +kernel
theorem fi_232_270 : am_find 232 270 = some (.invokevirtual 23, 3, 45, 1, 232) := by decide +kernel
theorem fi_232_273 : am_find 232 273 = some (.aload_n 2, 1, 0, 0, 0) := by decide +kernel
theorem fi_232_274 : am_find 232 274 = some (.aload_n 0, 1, 0, 0, 0) := by decide +kernel
theorem fi_232_275 : am_find 232 275 = some (.iload_n 3, 1, 0, 0, 0) := by decide +kernel
theorem fi_232_276 : am_find 232 276 = some (.iconst 1, 1, 0, 1, 0) := by decide +kernel
theorem fi_232_277 : am_find 232 277 = some (.iadd, 1, 0, 0, 0) := by decide +kernel
theorem fi_232_278 : am_find 232 278 = some (.iaload, 1, 0, 0, 0) := by decide +kernel
theorem fi_232_279 : am_find 232 279 = some (.invokevirtual 27, 3, 148, 1, 233) := by decide +kernel
theorem fi_232_282 : am_find 232 282 = some (.if_icmp .eq 907, 3, 0, 0, 0) := by decide +kernel
theorem fi_232_285 : am_find 232 285 = some (.iconst 0, 1, 0, 0, 0) := by decide +kernel
theorem fi_232_286 : am_find 232 286 = some (.ireturn, 1, 1, 0, 0) := by decide +kernel
theorem fi_232_287 : am_find 232 287 = some (.aload_n 1, 1, 0, 0, 0) := by decide +kernel
theorem fi_232_288 : am_find 232 288 = some (.aload_n 0, 1, 0, 0, 0) := by decide +kernel
theorem fi_232_289 : am_find 232 289 = some (.iload_n 3, 1, 0, 0, 0) := by decide +kernel
theorem fi_232_290 : am_find 232 290 = some (.iconst 1, 1, 0, 1, 0) := by decide +kernel
theorem fi_232_291 : am_find 232 291 = some (.iadd, 1, 0, 0, 0) := by decide +kernel
theorem fi_232_292 : am_find 232 292 = some (.iaload, 1, 0, 0, 0) := by decide +kernel
theorem fi_232_293 : am_find 232 293 = some (.i2l, 1, 0, 0, 0) := by decide +kernel
theorem fi_232_294 : am_find 232 294 = some (.bipush 32, 2, 0, 32, 0) := by decide +kernel
theorem fi_232_296 : am_find 232 296 = some (.lshl, 1, 0, 0, 0) := by decide +kernel
theorem fi_232_297 : am_find 232 297 = some (.aload_n 0, 1, 0, 0, 0) := by decide +kernel
theorem fi_232_298 : am_find 232 298 = some (.iload_n 3, 1, 0, 0, 0) := by decide +kernel
theorem fi_232_299 : am_find 232 299 = some (.iconst 2, 1, 0, 2, 0) := by decide +kernel
theorem fi_232_300 : am_find 232 300 = some (.iadd, 1, 0, 0, 0) := by decide +kernel
theorem fi_232_301 : am_find 232 301 = some (.iaload, 1, 0, 0, 0) := by decide +kernel
theorem fi_232_302 : am_find 232 302 = some (.i2l, 1, 0, 0, 0) := by decide +kernel
theorem fi_232_303 : am_find 232 303 = some (.ldc2_w 28, 3, 0, 4294967295, 1484) := by decide +kernel
theorem fi_232_306 : am_find 232 306 = some (.land, 1, 0, 0, 0) := by decide +kernel
theorem fi_232_307 : am_find 232 307 = some (.lor, 1, 0, 0, 0) := by decide +kernel
theorem fi_232_308 : am_find 232 308 = some (.aload_n 0, 1, 0, 0, 0) := by decide +kernel
theorem fi_232_309 : am_find 232 309 = some (.iload_n 3, 1, 0, 0, 0) := by decide +kernel
theorem fi_232_310 : am_find 232 310 = some (.iconst 3, 1, 0, 3, 0) := by decide +kernel
theorem fi_232_311 : am_find 232 311 = some (.iadd, 1, 0, 0, 0) := by decide +kernel
theorem fi_232_312 : am_find 232 312 = some (.iaload, 1, 0, 0, 0) := by decide +kernel
theorem fi_232_313 : am_find 232 313 = some (.invokevirtual 30, 3, 47, 2, 234) := by decide +kernel
theorem fi_232_316 : am_find 232 316 = some (.aload_n 2, 1, 0, 0, 0) := by decide +kernel
theorem fi_232_317 : am_find 232 317 = some (.aload_n 0, 1, 0, 0, 0) := by decide +kernel
theorem fi_232_318 : am_find 232 318 = some (.iload_n 3, 1, 0, 0, 0) := by decide +kernel
theorem fi_232_319 : am_find 232 319 = some (.iconst 1, 1, 0, 1, 0) := by decide +kernel
theorem fi_232_320 : am_find 232 320 = some (.iadd, 1, 0, 0, 0) := by decide +kernel
theorem fi_232_321 : am_find 232 321 = some (.iaload, 1, 0, 0, 0) := by decide +kernel
theorem fi_232_322 : am_find 232 322 = some (.i2l, 1, 0, 0, 0) := by decide +kernel
theorem fi_232_323 : am_find 232 323 = some (.bipush 32, 2, 0, 32, 0) := by decide +kernel
theorem fi_232_325 : am_find 232 325 = some (.lshl, 1, 0, 0, 0) := by decide +kernel
theorem fi_232_326 : am_find 232 326 = some (.aload_n 0, 1, 0, 0, 0) := by decide +kernel
theorem fi_232_327 : am_find 232 327 = some (.iload_n 3, 1, 0, 0, 0) := by decide +kernel
theorem fi_232_328 : am_find 232 328 = some (.iconst 2, 1, 0, 2, 0) := by decide +kernel
theorem fi_232_329 : am_find 232 329 = some (.iadd, 1, 0, 0, 0) := by decide +kernel
theorem fi_232_330 : am_find 232 330 = some (.iaload, 1, 0, 0, 0) := by decide +kernel
theorem fi_232_331 : am_find 232 331 = some (.i2l, 1, 0, 0, 0) := by decide +kernel
theorem fi_232_332 : am_find 232 332 = some (.ldc2_w 28, 3, 0, 4294967295, 1484) := by decide +kernel
theorem fi_232_335 : am_find 232 335 = some (.land, 1, 0, 0, 0) := by decide +kernel
theorem fi_232_336 : am_find 232 336 = some (.lor, 1, 0, 0, 0) := by decide +kernel
theorem fi_232_337 : am_find 232 337 = some (.aload_n 0, 1, 0, 0, 0) := by decide +kernel
theorem fi_232_338 : am_find 232 338 = some (.iload_n 3, 1, 0, 0, 0) := by decide +kernel
theorem fi_232_339 : am_find 232 339 = some (.iconst 3, 1, 0, 3, 0) := by decide +kernel
theorem fi_232_340 : am_find 232 340 = some (.iadd, 1, 0, 0, 0) := by decide +kernel
theorem fi_232_341 : am_find 232 341 = some (.iaload, 1, 0, 0, 0) := by decide +kernel
theorem fi_232_342 : am_find 232 342 = some (.invokevirtual 34, 3, 150, 2, 235) := by decide +kernel
theorem fi_232_345 : am_find 232 345 = some (.if_icmp .eq 844, 3, 0, 0, 0) := by decide +kernel
theorem fi_232_348 : am_find 232 348 = some (.iconst 0, 1, 0, 0, 0) := by decide +kernel
theorem fi_232_349 : am_find 232 349 = some (.ireturn, 1, 1, 0, 0) := by decide +kernel
theorem fi_232_350 : am_find 232 350 = some (.aload_n 1, 1, 0, 0, 0) := by decide +kernel
theorem fi_232_351 : am_find 232 351 = some (.invokevirtual 35, 3, 49, 0, 236) := by decide +kernel
theorem fi_232_354 : am_find 232 354 = some (.aload_n 2, 1, 0, 0, 0) := by decide +kernel
theorem fi_232_355 : am_find 232 355 = some (.invokevirtual 39, 3, 151, 0, 237) := by decide +kernel
theorem fi_232_358 : am_find 232 358 = some (.if_icmp .eq 831, 3, 0, 0, 0) := by decide +kernel
theorem fi_232_361 : am_find 232 361 = some (.iconst 0, 1, 0, 0, 0) := by decide +kernel
theorem fi_232_362 : am_find 232 362 = some (.ireturn, 1, 1, 0, 0) := by decide +kernel
theorem fi_232_363 : am_find 232 363 = some (.aload_n 1, 1, 0, 0, 0) := by decide +kernel
theorem fi_232_364 : am_find 232 364 = some (.aload_n 0, 1, 0, 0, 0) := by decide +kernel
theorem fi_232_365 : am_find 232 365 = some (.iload_n 3, 1, 0, 0, 0) := by decide +kernel
theorem fi_232_366 : am_find 232 366 = some (.iconst 1, 1, 0, 1, 0) := by decide +kernel
theorem fi_232_367 : am_find 232 367 = some (.iadd, 1, 0, 0, 0) := by decide +kernel
theorem fi_232_368 : am_find 232 368 = some (.iaload, 1, 0, 0, 0) := by decide +kernel
theorem fi_232_369 : am_find 232 369 = some (.aload_n 0, 1, 0, 0, 0) := by decide +kernel
theorem fi_232_370 : am_find 232 370 = some (.iload_n 3, 1, 0, 0, 0) := by decide +kernel
theorem fi_232_371 : am_find 232 371 = some (.iconst 2, 1, 0, 2, 0) := by decide +kernel
theorem fi_232_372 : am_find 232 372 = some (.iadd, 1, 0, 0, 0) := by decide +kernel
theorem fi_232_373 : am_find 232 373 = some (.iaload, 1, 0, 0, 0) := by decide +kernel
theorem fi_232_374 : am_find 232 374 = some (.invokevirtual 40, 3, 54, 2, 238) := by decide +kernel
theorem fi_232_377 : am_find 232 377 = some (.aload_n 2, 1, 0, 0, 0) := by decide +kernel
theorem fi_232_378 : am_find 232 378 = some (.aload_n 0, 1, 0, 0, 0) := by decide +kernel
theorem fi_232_379 : am_find 232 379 = some (.iload_n 3, 1, 0, 0, 0) := by decide +kernel
theorem fi_232_380 : am_find 232 380 = some (.iconst 1, 1, 0, 1, 0) := by decide +kernel
theorem fi_232_381 : am_find 232 381 = some (.iadd, 1, 0, 0, 0) := by decide +kernel
theorem fi_232_382 : am_find 232 382 = some (.iaload, 1, 0, 0, 0) := by decide +kernel
theorem fi_232_383 : am_find 232 383 = some (.aload_n 0, 1, 0, 0, 0) := by decide +kernel
theorem fi_232_384 : am_find 232 384 = some (.iload_n 3, 1, 0, 0, 0) := by decide +kernel
theorem fi_232_385 : am_find 232 385 = some (.iconst 2, 1, 0, 2, 0) := by decide +kernel
theorem fi_232_386 : am_find 232 386 = some (.iadd, 1, 0, 0, 0) := by decide +kernel
theorem fi_232_387 : am_find 232 387 = some (.iaload, 1, 0, 0, 0) := by decide +kernel
theorem fi_232_388 : am_find 232 388 = some (.invokevirtual 43, 3, 166, 2, 239) := by decide +kernel
theorem fi_232_391 : am_find 232 391 = some (.if_icmp .eq 798, 3, 0, 0, 0) := by decide +kernel
theorem fi_232_394 : am_find 232 394 = some (.iconst 0, 1, 0, 0, 0) := by decide +kernel
theorem fi_232_395 : am_find 232 395 = some (.ireturn, 1, 1, 0, 0) := by decide +kernel
theorem fi_232_396 : am_find 232 396 = some (.aload_n 1, 1, 0, 0, 0) := by decide +kernel
theorem fi_232_397 : am_find 232 397 = some (.aload_n 0, 1, 0, 0, 0) := by decide +kernel
theorem fi_232_398 : am_find 232 398 = some (.iload_n 3, 1, 0, 0, 0) := by decide +kernel
theorem fi_232_399 : am_find 232 399 = some (.iconst 1, 1, 0, 1, 0) := by decide +kernel
theorem fi_232_400 : am_find 232 400 = some (.iadd, 1, 0, 0, 0) := by decide +kernel
theorem fi_232_401 : am_find 232 401 = some (.iaload, 1, 0, 0, 0) := by decide +kernel
theorem fi_232_402 : am_find 232 402 = some (.aload_n 0, 1, 0, 0, 0) := by decide +kernel
theorem fi_232_403 : am_find 232 403 = some (.iload_n 3, 1, 0, 0, 0) := by decide +kernel
theorem fi_232_404 : am_find 232 404 = some (.iconst 2, 1, 0, 2, 0) := by decide +kernel
theorem fi_232_405 : am_find 232 405 = some (.iadd, 1, 0, 0, 0) := by decide +kernel
theorem fi_232_406 : am_find 232 406 = some (.iaload, 1, 0, 0, 0) := by decide +kernel
theorem fi_232_407 : am_find 232 407 = some (.invokevirtual 44, 3, 56, 2, 240) := by decide +kernel
theorem fi_232_410 : am_find 232 410 = some (.aload_n 2, 1, 0, 0, 0) := by decide +kernel
theorem fi_232_411 : am_find 232 411 = some (.aload_n 0, 1, 0, 0, 0) := by decide +kernel
theorem fi_232_412 : am_find 232 412 = some (.iload_n 3, 1, 0, 0, 0) := by decide +kernel
theorem fi_232_413 : am_find 232 413 = some (.iconst 1, 1, 0, 1, 0) := by decide +kernel
theorem fi_232_414 : am_find 232 414 = some (.iadd, 1, 0, 0, 0) := by decide +kernel
theorem fi_232_415 : am_find 232 415 = some (.iaload, 1, 0, 0, 0) := by decide +kernel
theorem fi_232_416 : am_find 232 416 = some (.aload_n 0, 1, 0, 0, 0) := by decide +kernel
theorem fi_232_417 : am_find 232 417 = some (.iload_n 3, 1, 0, 0, 0) := by decide +kernel
theorem fi_232_418 : am_find 232 418 = some (.iconst 2, 1, 0, 2, 0) := by decide +kernel
theorem fi_232_419 : am_find 232 419 = some (.iadd, 1, 0, 0, 0) := by decide +kernel
theorem fi_232_420 : am_find 232 420 = some (.iaload, 1, 0, 0, 0) := by decide +kernel
theorem fi_232_421 : am_find 232 421 = some (.invokevirtual 47, 3, 168, 2, 241) := by decide +kernel
theorem fi_232_424 : am_find 232 424 = some (.if_icmp .eq 765, 3, 0, 0, 0) := by decide +kernel
theorem fi_232_427 : am_find 232 427 = some (.iconst 0, 1, 0, 0, 0) := by decide +kernel
theorem fi_232_428 : am_find 232 428 = some (.ireturn, 1, 1, 0, 0) := by decide +kernel
theorem fi_232_429 : am_find 232 429 = some (.aload_n 1, 1, 0, 0, 0) := by decide +kernel
theorem fi_232_430 : am_find 232 430 = some (.aload_n 0, 1, 0, 0, 0) := by decide +kernel
theorem fi_232_431 : am_find 232 431 = some (.iload_n 3, 1, 0, 0, 0) := by decide +kernel
theorem fi_232_432 : am_find 232 432 = some (.iconst 1, 1, 0, 1, 0) := by decide +kernel
theorem fi_232_433 : am_find 232 433 = some (.iadd, 1, 0, 0, 0) := by decide +kernel
theorem fi_232_434 : am_find 232 434 = some (.iaload, 1, 0, 0, 0) := by decide +kernel
theorem fi_232_435 : am_find 232 435 = some (.invokevirtual 48, 3, 58, 1, 242) := by decide +kernel
theorem fi_232_438 : am_find 232 438 = some (.aload_n 2, 1, 0, 0, 0) := by decide +kernel
theorem fi_232_439 : am_find 232 439 = some (.aload_n 0, 1, 0, 0, 0) := by decide +kernel
theorem fi_232_440 : am_find 232 440 = some (.iload_n 3, 1, 0, 0, 0) := by decide +kernel
theorem fi_232_441 : am_find 232 441 = some (.iconst 1, 1, 0, 1, 0) := by decide +kernel
theorem fi_232_442 : am_find 232 442 = some (.iadd, 1, 0, 0, 0) := by decide +kernel
theorem fi_232_443 : am_find 232 443 = some (.iaload, 1, 0, 0, 0) := by decide +kernel
theorem fi_232_444 : am_find 232 444 = some (.invokevirtual 51, 3, 172, 1, 243) := by decide +kernel
theorem fi_232_447 : am_find 232 447 = some (.if_icmp .eq 742, 3, 0, 0, 0) := by decide +kernel
theorem fi_232_450 : am_find 232 450 = some (.iconst 0, 1, 0, 0, 0) := by decide +kernel
theorem fi_232_451 : am_find 232 451 = some (.ireturn, 1, 1, 0, 0) := by decide +kernel
theorem fi_232_452 : am_find 232 452 = some (.aload_n 1, 1, 0, 0, 0) := by decide +kernel
theorem fi_232_453 : am_find 232 453 = some (.aload_n 0, 1, 0, 0, 0) := by decide +kernel
theorem fi_232_454 : am_find 232 454 = some (.iload_n 3, 1, 0, 0, 0) := by decide +kernel
theorem fi_232_455 : am_find 232 455 = some (.iconst 1, 1, 0, 1, 0) := by decide +kernel
theorem fi_232_456 : am_find 232 456 = some (.iadd, 1, 0, 0, 0) := by decide +kernel
theorem fi_232_457 : am_find 232 457 = some (.iaload, 1, 0, 0, 0) := by decide +kernel
theorem fi_232_458 : am_find 232 458 = some (.invokevirtual 52, 3, 59, 1, 244) := by decide +kernel
theorem fi_232_461 : am_find 232 461 = some (.aload_n 2, 1, 0, 0, 0) := by decide +kernel
theorem fi_232_462 : am_find 232 462 = some (.aload_n 0, 1, 0, 0, 0) := by decide +kernel
theorem fi_232_463 : am_find 232 463 = some (.iload_n 3, 1, 0, 0, 0) := by decide +kernel
theorem fi_232_464 : am_find 232 464 = some (.iconst 1, 1, 0, 1, 0) := by decide +kernel
theorem fi_232_465 : am_find 232 465 = some (.iadd, 1, 0, 0, 0) := by decide +kernel
theorem fi_232_466 : am_find 232 466 = some (.iaload, 1, 0, 0, 0) := by decide +kernel
theorem fi_232_467 : am_find 232 467 = some (.invokevirtual 55, 3, 173, 1, 245) := by decide +kernel
theorem fi_232_470 : am_find 232 470 = some (.if_icmp .eq 719, 3, 0, 0, 0) := by decide +kernel
theorem fi_232_473 : am_find 232 473 = some (.iconst 0, 1, 0, 0, 0) := by decide +kernel
theorem fi_232_474 : am_find 232 474 = some (.ireturn, 1, 1, 0, 0) := by decide +kernel
theorem fi_232_475 : am_find 232 475 = some (.aload_n 1, 1, 0, 0, 0) := by decide +kernel
theorem fi_232_476 : am_find 232 476 = some (.aload_n 0, 1, 0, 0, 0) := by decide +kernel
theorem fi_232_477 : am_find 232 477 = some (.iload_n 3, 1, 0, 0, 0) := by decide +kernel
theorem fi_232_478 : am_find 232 478 = some (.iconst 1, 1, 0, 1, 0) := by decide +kernel
theorem fi_232_479 : am_find 232 479 = some (.iadd, 1, 0, 0, 0) := by decide +kernel
theorem fi_232_480 : am_find 232 480 = some (.iaload, 1, 0, 0, 0) := by decide +kernel
theorem fi_232_481 : am_find 232 481 = some (.invokevirtual 56, 3, 62, 1, 246) := by decide +kernel
theorem fi_232_484 : am_find 232 484 = some (.aload_n 2, 1, 0, 0, 0) := by decide +kernel
theorem fi_232_485 : am_find 232 485 = some (.aload_n 0, 1, 0, 0, 0) := by decide +kernel
theorem fi_232_486 : am_find 232 486 = some (.iload_n 3, 1, 0, 0, 0) := by decide +kernel
theorem fi_232_487 : am_find 232 487 = some (.iconst 1, 1, 0, 1, 0) := by decide +kernel
theorem fi_232_488 : am_find 232 488 = some (.iadd, 1, 0, 0, 0) := by decide +kernel
theorem fi_232_489 : am_find 232 489 = some (.iaload, 1, 0, 0, 0) := by decide +kernel
theorem fi_232_490 : am_find 232 490 = some (.invokevirtual 59, 3, 174, 1, 247) := by decide +kernel
theorem fi_232_493 : am_find 232 493 = some (.if_icmp .eq 696, 3, 0, 0, 0) := by decide +kernel
theorem fi_232_496 : am_find 232 496 = some (.iconst 0, 1, 0, 0, 0) := by decide +kernel
theorem fi_232_497 : am_find 232 497 = some (.ireturn, 1, 1, 0, 0) := by decide +kernel
theorem fi_232_498 : am_find 232 498 = some (.aload_n 1, 1, 0, 0, 0) := by decide +kernel
theorem fi_232_499 : am_find 232 499 = some (.aload_n 0, 1, 0, 0, 0) := by decide +kernel
theorem fi_232_500 : am_find 232 500 = some (.iload_n 3, 1, 0, 0, 0) := by decide +kernel
theorem fi_232_501 : am_find 232 501 = some (.iconst 1, 1, 0, 1, 0) := by decide +kernel
theorem fi_232_502 : am_find 232 502 = some (.iadd, 1, 0, 0, 0) := by decide +kernel
theorem fi_232_503 : am_find 232 503 = some (.iaload, 1, 0, 0, 0) := by decide +kernel
theorem fi_232_504 : am_find 232 504 = some (.aload_n 0, 1, 0, 0, 0) := by decide +kernel
theorem fi_232_505 : am_find 232 505 = some (.iload_n 3, 1, 0, 0, 0) := by decide +kernel
theorem fi_232_506 : am_find 232 506 = some (.iconst 2, 1, 0, 2, 0) := by decide +kernel
theorem fi_232_507 : am_find 232 507 = some (.iadd, 1, 0, 0, 0) := by decide +kernel
theorem fi_232_508 : am_find 232 508 = some (.iaload, 1, 0, 0, 0) := by decide +kernel
theorem fi_232_509 : am_find 232 509 = some (.invokevirtual 60, 3, 65, 2, 248) := by decide +kernel
theorem fi_232_512 : am_find 232 512 = some (.aload_n 2, 1, 0, 0, 0) := by decide +kernel
theorem fi_232_513 : am_find 232 513 = some (.aload_n 0, 1, 0, 0, 0) := by decide +kernel
theorem fi_232_514 : am_find 232 514 = some (.iload_n 3, 1, 0, 0, 0) := by decide +kernel
theorem fi_232_515 : am_find 232 515 = some (.iconst 1, 1, 0, 1, 0) := by decide +kernel
theorem fi_232_516 : am_find 232 516 = some (.iadd, 1, 0, 0, 0) := by decide +kernel
theorem fi_232_517 : am_find 232 517 = some (.iaload, 1, 0, 0, 0) := by decide +kernel
theorem fi_232_518 : am_find 232 518 = some (.aload_n 0, 1, 0, 0, 0) := by decide +kernel
theorem fi_232_519 : am_find 232 519 = some (.iload_n 3, 1, 0, 0, 0) := by decide +kernel
theorem fi_232_520 : am_find 232 520 = some (.iconst 2, 1, 0, 2, 0) := by decide +kernel
theorem fi_232_521 : am_find 232 521 = some (.iadd, 1, 0, 0, 0) := by decide +kernel
theorem fi_232_522 : am_find 232 522 = some (.iaload, 1, 0, 0, 0) := by decide +kernel
theorem fi_232_523 : am_find 232 523 = some (.invokevirtual 63, 3, 176, 2, 249) := by decide +kernel
theorem fi_232_526 : am_find 232 526 = some (.if_icmp .eq 663, 3, 0, 0, 0) := by decide +kernel
theorem fi_232_529 : am_find 232 529 = some (.iconst 0, 1, 0, 0, 0) := by decide +kernel
theorem fi_232_530 : am_find 232 530 = some (.ireturn, 1, 1, 0, 0) := by decide +kernel
theorem fi_232_531 : am_find 232 531 = some (.aload_n 1, 1, 0, 0, 0) := by decide +kernel
theorem fi_232_532 : am_find 232 532 = some (.aload_n 0, 1, 0, 0, 0) := by decide +kernel
theorem fi_232_533 : am_find 232 533 = some (.iload_n 3, 1, 0, 0, 0) := by decide +kernel
theorem fi_232_534 : am_find 232 534 = some (.iconst 1, 1, 0, 1, 0) := by decide +kernel
theorem fi_232_535 : am_find 232 535 = some (.iadd, 1, 0, 0, 0) := by decide +kernel
theorem fi_232_536 : am_find 232 536 = some (.iaload, 1, 0, 0, 0) := by decide +kernel
theorem fi_232_537 : am_find 232 537 = some (.aload_n 0, 1, 0, 0, 0) := by decide +kernel
theorem fi_232_538 : am_find 232 538 = some (.iload_n 3, 1, 0, 0, 0) := by decide +kernel
theorem fi_232_539 : am_find 232 539 = some (.iconst 2, 1, 0, 2, 0) := by decide +kernel
theorem fi_232_540 : am_find 232 540 = some (.iadd, 1, 0, 0, 0) := by decide +kernel
theorem fi_232_541 : am_find 232 541 = some (.iaload, 1, 0, 0, 0) := by decide +kernel
theorem fi_232_542 : am_find 232 542 = some (.invokevirtual 64, 3, 68, 2, 250) := by decide +kernel
theorem fi_232_545 : am_find 232 545 = some (.aload_n 2, 1, 0, 0, 0) := by decide +kernel
theorem fi_232_546 : am_find 232 546 = some (.aload_n 0, 1, 0, 0, 0) := by decide +kernel
theorem fi_232_547 : am_find 232 547 = some (.iload_n 3, 1, 0, 0, 0) := by decide +kernel
theorem fi_232_548 : am_find 232 548 = some (.iconst 1, 1, 0, 1, 0) := by decide +kernel
theorem fi_232_549 : am_find 232 549 = some (.iadd, 1, 0, 0, 0) := by decide +kernel
theorem fi_232_550 : am_find 232 550 = some (.iaload, 1, 0, 0, 0) := by decide +kernel
theorem fi_232_551 : am_find 232 551 = some (.aload_n 0, 1, 0, 0, 0) := by decide +kernel
theorem fi_232_552 : am_find 232 552 = some (.iload_n 3, 1, 0, 0, 0) := by decide +kernel
theorem fi_232_553 : am_find 232 553 = some (.iconst 2, 1, 0, 2, 0) := by decide +kernel
theorem fi_232_554 : am_find 232 554 = some (.iadd, 1, 0, 0, 0) := by decide +kernel
theorem fi_232_555 : am_find 232 555 = some (.iaload, 1, 0, 0, 0) := by decide +kernel
theorem fi_232_556 : am_find 232 556 = some (.invokevirtual 67, 3, 177, 2, 251) := by decide +kernel
theorem fi_232_559 : am_find 232 559 = some (.if_icmp .eq 630, 3, 0, 0, 0) := by decide +kernel
theorem fi_232_562 : am_find 232 562 = some (.iconst 0, 1, 0, 0, 0) := by decide +kernel
theorem fi_232_563 : am_find 232 563 = some (.ireturn, 1, 1, 0, 0) := by decide +kernel
theorem fi_232_564 : am_find 232 564 = some (.aload_n 1, 1, 0, 0, 0) := by decide +kernel
theorem fi_232_565 : am_find 232 565 = some (.aload_n 0, 1, 0, 0, 0) := by decide +kernel
theorem fi_232_566 : am_find 232 566 = some (.iload_n 3, 1, 0, 0, 0) := by decide +kernel
theorem fi_232_567 : am_find 232 567 = some (.iconst 1, 1, 0, 1, 0) := by decide +kernel
theorem fi_232_568 : am_find 232 568 = some (.iadd, 1, 0, 0, 0) := by decide +kernel
theorem fi_232_569 : am_find 232 569 = some (.iaload, 1, 0, 0, 0) := by decide +kernel
theorem fi_232_570 : am_find 232 570 = some (.aload_n 0, 1, 0, 0, 0) := by decide +kernel
theorem fi_232_571 : am_find 232 571 = some (.iload_n 3, 1, 0, 0, 0) := by decide +kernel
theorem fi_232_572 : am_find 232 572 = some (.iconst 2, 1, 0, 2, 0) := by decide +kernel
theorem fi_232_573 : am_find 232 573 = some (.iadd, 1, 0, 0, 0) := by decide +kernel
theorem fi_232_574 : am_find 232 574 = some (.iaload, 1, 0, 0, 0) := by decide +kernel
theorem fi_232_575 : am_find 232 575 = some (.invokevirtual 68, 3, 70, 2, 252) := by decide +kernel
theorem fi_232_578 : am_find 232 578 = some (.aload_n 2, 1, 0, 0, 0) := by decide +kernel
theorem fi_232_579 : am_find 232 579 = some (.aload_n 0, 1, 0, 0, 0) := by decide +kernel
theorem fi_232_580 : am_find 232 580 = some (.iload_n 3, 1, 0, 0, 0) := by decide +kernel
theorem fi_232_581 : am_find 232 581 = some (.iconst 1, 1, 0, 1, 0) := by decide +kernel
theorem fi_232_582 : am_find 232 582 = some (.iadd, 1, 0, 0, 0) := by decide +kernel
theorem fi_232_583 : am_find 232 583 = some (.iaload, 1, 0, 0, 0) := by decide +kernel
theorem fi_232_584 : am_find 232 584 = some (.aload_n 0, 1, 0, 0, 0) := by decide +kernel
theorem fi_232_585 : am_find 232 585 = some (.iload_n 3, 1, 0, 0, 0) := by decide +kernel
theorem fi_232_586 : am_find 232 586 = some (.iconst 2, 1, 0, 2, 0) := by decide +kernel
theorem fi_232_587 : am_find 232 587 = some (.iadd, 1, 0, 0, 0) := by decide +kernel
theorem fi_232_588 : am_find 232 588 = some (.iaload, 1, 0, 0, 0) := by decide +kernel
theorem fi_232_589 : am_find 232 589 = some (.invokevirtual 71, 3, 178, 2, 253) := by decide +kernel
theorem fi_232_592 : am_find 232 592 = some (.if_icmp .eq 597, 3, 0, 0, 0) := by decide +kernel
theorem fi_232_595 : am_find 232 595 = some (.iconst 0, 1, 0, 0, 0) := by decide +kernel
theorem fi_232_596 : am_find 232 596 = some (.ireturn, 1, 1, 0, 0) := by decide +kernel
theorem fi_232_597 : am_find 232 597 = some (.aload_n 1, 1, 0, 0, 0) := by decide +kernel
theorem fi_232_598 : am_find 232 598 = some (.aload_n 0, 1, 0, 0, 0) := by decide +kernel
theorem fi_232_599 : am_find 232 599 = some (.iload_n 3, 1, 0, 0, 0) := by decide +kernel
theorem fi_232_600 : am_find 232 600 = some (.iconst 1, 1, 0, 1, 0) := by decide +kernel
theorem fi_232_601 : am_find 232 601 = some (.iadd, 1, 0, 0, 0) := by decide +kernel
theorem fi_232_602 : am_find 232 602 = some (.iaload, 1, 0, 0, 0) := by decide +kernel
theorem fi_232_603 : am_find 232 603 = some (.invokevirtual 72, 3, 74, 1, 254) := by decide +kernel
theorem fi_232_606 : am_find 232 606 = some (.aload_n 2, 1, 0, 0, 0) := by decide +kernel
theorem fi_232_607 : am_find 232 607 = some (.aload_n 0, 1, 0, 0, 0) := by decide +kernel
theorem fi_232_608 : am_find 232 608 = some (.iload_n 3, 1, 0, 0, 0) := by decide +kernel
theorem fi_232_609 : am_find 232 609 = some (.iconst 1, 1, 0, 1, 0) := by decide +kernel
theorem fi_232_610 : am_find 232 610 = some (.iadd, 1, 0, 0, 0) := by decide +kernel
theorem fi_232_611 : am_find 232 611 = some (.iaload, 1, 0, 0, 0) := by decide +kernel
theorem fi_232_612 : am_find 232 612 = some (.invokevirtual 75, 3, 180, 1, 255) := by decide +kernel
theorem fi_232_615 : am_find 232 615 = some (.if_icmp .eq 574, 3, 0, 0, 0) := by decide +kernel
theorem fi_232_618 : am_find 232 618 = some (.iconst 0, 1, 0, 0, 0) := by decide +kernel
theorem fi_232_619 : am_find 232 619 = some (.ireturn, 1, 1, 0, 0) := by decide +kernel
theorem fi_232_620 : am_find 232 620 = some (.aload_n 1, 1, 0, 0, 0) := by decide +kernel
theorem fi_232_621 : am_find 232 621 = some (.aload_n 0, 1, 0, 0, 0) := by decide +kernel
theorem fi_232_622 : am_find 232 622 = some (.iload_n 3, 1, 0, 0, 0) := by decide +kernel
theorem fi_232_623 : am_find 232 623 = some (.iconst 1, 1, 0, 1, 0) := by decide +kernel
theorem fi_232_624 : am_find 232 624 = some (.iadd, 1, 0, 0, 0) := by decide +kernel
theorem fi_232_625 : am_find 232 625 = some (.iaload, 1, 0, 0, 0) := by decide +kernel
theorem fi_232_626 : am_find 232 626 = some (.invokevirtual 76, 3, 75, 1, 256) := by decide +kernel
theorem fi_232_629 : am_find 232 629 = some (.aload_n 2, 1, 0, 0, 0) := by decide +kernel
theorem fi_232_630 : am_find 232 630 = some (.aload_n 0, 1, 0, 0, 0) := by decide +kernel
theorem fi_232_631 : am_find 232 631 = some (.iload_n 3, 1, 0, 0, 0) := by decide +kernel
theorem fi_232_632 : am_find 232 632 = some (.iconst 1, 1, 0, 1, 0) := by decide +kernel
theorem fi_232_633 : am_find 232 633 = some (.iadd, 1, 0, 0, 0) := by decide +kernel
theorem fi_232_634 : am_find 232 634 = some (.iaload, 1, 0, 0, 0) := by decide +kernel
theorem fi_232_635 : am_find 232 635 = some (.invokevirtual 79, 3, 196, 1, 257) := by decide +kernel
theorem fi_232_638 : am_find 232 638 = some (.if_icmp .eq 551, 3, 0, 0, 0) := by decide +kernel
theorem fi_232_641 : am_find 232 641 = some (.iconst 0, 1, 0, 0, 0) := by decide +kernel
theorem fi_232_642 : am_find 232 642 = some (.ireturn, 1, 1, 0, 0) := by decide +kernel
theorem fi_232_643 : am_find 232 643 = some (.aload_n 1, 1, 0, 0, 0) := by decide +kernel
theorem fi_232_644 : am_find 232 644 = some (.aload_n 0, 1, 0, 0, 0) := by decide +kernel
theorem fi_232_645 : am_find 232 645 = some (.iload_n 3, 1, 0, 0, 0) := by decide +kernel
theorem fi_232_646 : am_find 232 646 = some (.iconst 1, 1, 0, 1, 0) := by decide +kernel
theorem fi_232_647 : am_find 232 647 = some (.iadd, 1, 0, 0, 0) := by decide +kernel
theorem fi_232_648 : am_find 232 648 = some (.iaload, 1, 0, 0, 0) := by decide +kernel
theorem fi_232_649 : am_find 232 649 = some (.ifCond .eq 7, 3, 0, 0, 0) := by decide +kernel
theorem fi_232_652 : am_find 232 652 = some (.iconst 1, 1, 0, 1, 0) := by decide +kernel
theorem fi_232_653 : am_find 232 653 = some (.goto 4, 3, 0, 0, 0) := by decide +kernel
theorem fi_232_656 : am_find 232 656 = some (.iconst 0, 1, 0, 0, 0) := by decide +kernel
theorem fi_232_657 : am_find 232 657 = some (.invokevirtual 80, 3, 96, 1, 258) := by decide +kernel
theorem fi_232_660 : am_find 232 660 = some (.aload_n 2, 1, 0, 0, 0) := by decide +kernel
theorem fi_232_661 : am_find 232 661 = some (.aload_n 0, 1, 0, 0, 0) := by decide +kernel
theorem fi_232_662 : am_find 232 662 = some (.iload_n 3, 1, 0, 0, 0) := by decide +kernel
theorem fi_232_663 : am_find 232 663 = some (.iconst 1, 1, 0, 1, 0) := by decide +kernel
theorem fi_232_664 : am_find 232 664 = some (.iadd, 1, 0, 0, 0) := by decide +kernel
theorem fi_232_665 : am_find 232 665 = some (.iaload, 1, 0, 0, 0) := by decide +kernel
theorem fi_232_666 : am_find 232 666 = some (.ifCond .eq 7, 3, 0, 0, 0) := by decide +kernel
theorem fi_232_669 : am_find 232 669 = some (.iconst 1, 1, 0, 1, 0) := by decide +kernel
theorem fi_232_670 : am_find 232 670 = some (.goto 4, 3, 0, 0, 0) := by decide +kernel
theorem fi_232_673 : am_find 232 673 = some (.iconst 0, 1, 0, 0, 0) := by decide +kernel
theorem fi_232_674 : am_find 232 674 = some (.invokevirtual 84, 3, 206, 1, 259) := by decide +kernel
theorem fi_232_677 : am_find 232 677 = some (.if_icmp .eq 512, 3, 0, 0, 0) := by decide +kernel
theorem fi_232_680 : am_find 232 680 = some (.iconst 0, 1, 0, 0, 0) := by decide +kernel
theorem fi_232_681 : am_find 232 681 = some (.ireturn, 1, 1, 0, 0) := by decide +kernel
theorem fi_232_682 : am_find 232 682 = some (.aload_n 1, 1, 0, 0, 0) := by decide +kernel
theorem fi_232_683 : am_find 232 683 = some (.invokevirtual 85, 3, 99, 0, 260) := by decide +kernel
theorem fi_232_686 : am_find 232 686 = some (.aload_n 2, 1, 0, 0, 0) := by decide +kernel
theorem fi_232_687 : am_find 232 687 = some (.invokevirtual 88, 3, 182, 0, 261) := by decide +kernel
theorem fi_232_690 : am_find 232 690 = some (.if_icmp .eq 499, 3, 0, 0, 0) := by decide +kernel
theorem fi_232_693 : am_find 232 693 = some (.iconst 0, 1, 0, 0, 0) := by decide +kernel
theorem fi_232_694 : am_find 232 694 = some (.ireturn, 1, 1, 0, 0) := by decide +kernel
theorem fi_232_695 : am_find 232 695 = some (.aload_n 1, 1, 0, 0, 0) := by decide +kernel
theorem fi_232_696 : am_find 232 696 = some (.aload_n 0, 1, 0, 0, 0) := by decide +kernel
theorem fi_232_697 : am_find 232 697 = some (.iload_n 3, 1, 0, 0, 0) := by decide +kernel
theorem fi_232_698 : am_find 232 698 = some (.iconst 1, 1, 0, 1, 0) := by decide +kernel
theorem fi_232_699 : am_find 232 699 = some (.iadd, 1, 0, 0, 0) := by decide +kernel
theorem fi_232_700 : am_find 232 700 = some (.iaload, 1, 0, 0, 0) := by decide +kernel
theorem fi_232_701 : am_find 232 701 = some (.invokevirtual 89, 3, 100, 1, 262) := by decide +kernel
theorem fi_232_704 : am_find 232 704 = some (.aload_n 2, 1, 0, 0, 0) := by decide +kernel
theorem fi_232_705 : am_find 232 705 = some (.aload_n 0, 1, 0, 0, 0) := by decide +kernel
theorem fi_232_706 : am_find 232 706 = some (.iload_n 3, 1, 0, 0, 0) := by decide +kernel
theorem fi_232_707 : am_find 232 707 = some (.iconst 1, 1, 0, 1, 0) := by decide +kernel
theorem fi_232_708 : am_find 232 708 = some (.iadd, 1, 0, 0, 0) := by decide +kernel
theorem fi_232_709 : am_find 232 709 = some (.iaload, 1, 0, 0, 0) := by decide +kernel
theorem fi_232_710 : am_find 232 710 = some (.invokevirtual 92, 3, 190, 1, 263) := by decide +kernel
theorem fi_232_713 : am_find 232 713 = some (.if_icmp .eq 476, 3, 0, 0, 0) := by decide +kernel
theorem fi_232_716 : am_find 232 716 = some (.iconst 0, 1, 0, 0, 0) := by decide +kernel
theorem fi_232_717 : am_find 232 717 = some (.ireturn, 1, 1, 0, 0) := by decide +kernel
theorem fi_232_718 : am_find 232 718 = some (.aload_n 1, 1, 0, 0, 0) := by decide +kernel
theorem fi_232_719 : am_find 232 719 = some (.aload_n 0, 1, 0, 0, 0) := by decide +kernel
theorem fi_232_720 : am_find 232 720 = some (.iload_n 3, 1, 0, 0, 0) := by decide +kernel
theorem fi_232_721 : am_find 232 721 = some (.iconst 1, 1, 0, 1, 0) := by decide +kernel
theorem fi_232_722 : am_find 232 722 = some (.iadd, 1, 0, 0, 0) := by decide +kernel
theorem fi_232_723 : am_find 232 723 = some (.iaload, 1, 0, 0, 0) := by decide +kernel
theorem fi_232_724 : am_find 232 724 = some (.invokevirtual 93, 3, 102, 1, 264) := by decide +kernel
theorem fi_232_727 : am_find 232 727 = some (.aload_n 2, 1, 0, 0, 0) := by decide +kernel
theorem fi_232_728 : am_find 232 728 = some (.aload_n 0, 1, 0, 0, 0) := by decide +kernel
theorem fi_232_729 : am_find 232 729 = some (.iload_n 3, 1, 0, 0, 0) := by decide +kernel
theorem fi_232_730 : am_find 232 730 = some (.iconst 1, 1, 0, 1, 0) := by decide +kernel
theorem fi_232_731 : am_find 232 731 = some (.iadd, 1, 0, 0, 0) := by decide +kernel
theorem fi_232_732 : am_find 232 732 = some (.iaload, 1, 0, 0, 0) := by decide +kernel
theorem fi_232_733 : am_find 232 733 = some (.invokevirtual 96, 3, 191, 1, 265) := by decide +kernel
theorem fi_232_736 : am_find 232 736 = some (.if_icmp .eq 453, 3, 0, 0, 0) := by decide +kernel
theorem fi_232_739 : am_find 232 739 = some (.iconst 0, 1, 0, 0, 0) := by decide +kernel
theorem fi_232_740 : am_find 232 740 = some (.ireturn, 1, 1, 0, 0) := by decide +kernel
theorem fi_232_741 : am_find 232 741 = some (.aload_n 1, 1, 0, 0, 0) := by decide +kernel
theorem fi_232_742 : am_find 232 742 = some (.aload_n 0, 1, 0, 0, 0) := by decide +kernel
theorem fi_232_743 : am_find 232 743 = some (.iload_n 3, 1, 0, 0, 0) := by decide +kernel
theorem fi_232_744 : am_find 232 744 = some (.iconst 1, 1, 0, 1, 0) := by decide +kernel
theorem fi_232_745 : am_find 232 745 = some (.iadd, 1, 0, 0, 0) := by decide +kernel
theorem fi_232_746 : am_find 232 746 = some (.iaload, 1, 0, 0, 0) := by decide +kernel
theorem fi_232_747 : am_find 232 747 = some (.invokevirtual 97, 3, 103, 1, 266) := by decide +kernel
theorem fi_232_750 : am_find 232 750 = some (.aload_n 2, 1, 0, 0, 0) := by decide +kernel
theorem fi_232_751 : am_find 232 751 = some (.aload_n 0, 1, 0, 0, 0) := by decide +kernel
theorem fi_232_752 : am_find 232 752 = some (.iload_n 3, 1, 0, 0, 0) := by decide +kernel
theorem fi_232_753 : am_find 232 753 = some (.iconst 1, 1, 0, 1, 0) := by decide +kernel
theorem fi_232_754 : am_find 232 754 = some (.iadd, 1, 0, 0, 0) := by decide +kernel
theorem fi_232_755 : am_find 232 755 = some (.iaload, 1, 0, 0, 0) := by decide +kernel
theorem fi_232_756 : am_find 232 756 = some (.invokevirtual 100, 3, 192, 1, 267) := by decide +kernel
theorem fi_232_759 : am_find 232 759 = some (.if_icmp .eq 430, 3, 0, 0, 0) := by decide +kernel
theorem fi_232_762 : am_find 232 762 = some (.iconst 0, 1, 0, 0, 0) := by decide +kernel
theorem fi_232_763 : am_find 232 763 = some (.ireturn, 1, 1, 0, 0) := by decide +kernel
theorem fi_232_764 : am_find 232 764 = some (.aload_n 1, 1, 0, 0, 0) := by decide +kernel
theorem fi_232_765 : am_find 232 765 = some (.aload_n 0, 1, 0, 0, 0) := by decide +kernel
theorem fi_232_766 : am_find 232 766 = some (.iload_n 3, 1, 0, 0, 0) := by decide +kernel
theorem fi_232_767 : am_find 232 767 = some (.iconst 1, 1, 0, 1, 0) := by decide +kernel
theorem fi_232_768 : am_find 232 768 = some (.iadd, 1, 0, 0, 0) := by decide +kernel
theorem fi_232_769 : am_find 232 769 = some (.iaload, 1, 0, 0, 0) := by decide +kernel
theorem fi_232_770 : am_find 232 770 = some (.invokevirtual 101, 3, 106, 1, 268) := by decide +kernel
theorem fi_232_773 : am_find 232 773 = some (.aload_n 2, 1, 0, 0, 0) := by decide +kernel
theorem fi_232_774 : am_find 232 774 = some (.aload_n 0, 1, 0, 0, 0) := by decide +kernel
theorem fi_232_775 : am_find 232 775 = some (.iload_n 3, 1, 0, 0, 0) := by decide +kernel
theorem fi_232_776 : am_find 232 776 = some (.iconst 1, 1, 0, 1, 0) := by decide +kernel
theorem fi_232_777 : am_find 232 777 = some (.iadd, 1, 0, 0, 0) := by decide +kernel
theorem fi_232_778 : am_find 232 778 = some (.iaload, 1, 0, 0, 0) := by decide +kernel
theorem fi_232_779 : am_find 232 779 = some (.invokevirtual 104, 3, 193, 1, 269) := by decide +kernel
theorem fi_232_782 : am_find 232 782 = some (.if_icmp .eq 407, 3, 0, 0, 0) := by decide +kernel
theorem fi_232_785 : am_find 232 785 = some (.iconst 0, 1, 0, 0, 0) := by decide +kernel
theorem fi_232_786 : am_find 232 786 = some (.ireturn, 1, 1, 0, 0) := by decide +kernel
theorem fi_232_787 : am_find 232 787 = some (.aload_n 1, 1, 0, 0, 0) := by decide +kernel
theorem fi_232_788 : am_find 232 788 = some (.invokevirtual 105, 3, 108, 0, 270) := by decide +kernel
theorem fi_232_791 : am_find 232 791 = some (.aload_n 2, 1, 0, 0, 0) := by decide +kernel
theorem fi_232_792 : am_find 232 792 = some (.invokevirtual 108, 3, 195, 0, 271) := by decide +kernel
theorem fi_232_795 : am_find 232 795 = some (.if_icmp .eq 394, 3, 0, 0, 0) := by decide +kernel
theorem fi_232_798 : am_find 232 798 = some (.iconst 0, 1, 0, 0, 0) := by decide +kernel
theorem fi_232_799 : am_find 232 799 = some (.ireturn, 1, 1, 0, 0) := by decide +kernel
theorem fi_232_800 : am_find 232 800 = some (.aload_n 1, 1, 0, 0, 0) := by decide +kernel
theorem fi_232_801 : am_find 232 801 = some (.aload_n 0, 1, 0, 0, 0) := by decide +kernel
theorem fi_232_802 : am_find 232 802 = some (.iload_n 3, 1, 0, 0, 0) := by decide +kernel
theorem fi_232_803 : am_find 232 803 = some (.iconst 1, 1, 0, 1, 0) := by decide +kernel
theorem fi_232_804 : am_find 232 804 = some (.iadd, 1, 0, 0, 0) := by decide +kernel
theorem fi_232_805 : am_find 232 805 = some (.iaload, 1, 0, 0, 0) := by decide +kernel
theorem fi_232_806 : am_find 232 806 = some (.invokevirtual 109, 3, 109, 1, 272) := by decide +kernel
theorem fi_232_809 : am_find 232 809 = some (.aload_n 2, 1, 0, 0, 0) := by decide +kernel
theorem fi_232_810 : am_find 232 810 = some (.aload_n 0, 1, 0, 0, 0) := by decide +kernel
theorem fi_232_811 : am_find 232 811 = some (.iload_n 3, 1, 0, 0, 0) := by decide +kernel
theorem fi_232_812 : am_find 232 812 = some (.iconst 1, 1, 0, 1, 0) := by decide +kernel
theorem fi_232_813 : am_find 232 813 = some (.iadd, 1, 0, 0, 0) := by decide +kernel
theorem fi_232_814 : am_find 232 814 = some (.iaload, 1, 0, 0, 0) := by decide +kernel
theorem fi_232_815 : am_find 232 815 = some (.invokevirtual 112, 3, 207, 1, 273) := by decide +kernel
theorem fi_232_818 : am_find 232 818 = some (.if_icmp .eq 371, 3, 0, 0, 0) := by decide +kernel
theorem fi_232_821 : am_find 232 821 = some (.iconst 0, 1, 0, 0, 0) := by decide +kernel
theorem fi_232_822 : am_find 232 822 = some (.ireturn, 1, 1, 0, 0) := by decide +kernel
theorem fi_232_823 : am_find 232 823 = some (.aload_n 1, 1, 0, 0, 0) := by decide +kernel
theorem fi_232_824 : am_find 232 824 = some (.aload_n 0, 1, 0, 0, 0) := by decide +kernel
theorem fi_232_825 : am_find 232 825 = some (.iload_n 3, 1, 0, 0, 0) := by decide +kernel
theorem fi_232_826 : am_find 232 826 = some (.iconst 1, 1, 0, 1, 0) := by decide +kernel
theorem fi_232_827 : am_find 232 827 = some (.iadd, 1, 0, 0, 0) := by decide +kernel
theorem fi_232_828 : am_find 232 828 = some (.iaload, 1, 0, 0, 0) := by decide +kernel
theorem fi_232_829 : am_find 232 829 = some (.aload_n 0, 1, 0, 0, 0) := by decide +kernel
theorem fi_232_830 : am_find 232 830 = some (.iload_n 3, 1, 0, 0, 0) := by decide +kernel
theorem fi_232_831 : am_find 232 831 = some (.iconst 2, 1, 0, 2, 0) := by decide +kernel
theorem fi_232_832 : am_find 232 832 = some (.iadd, 1, 0, 0, 0) := by decide +kernel
theorem fi_232_833 : am_find 232 833 = some (.iaload, 1, 0, 0, 0) := by decide +kernel
theorem fi_232_834 : am_find 232 834 = some (.aload_n 0, 1, 0, 0, 0) := by decide +kernel
theorem fi_232_835 : am_find 232 835 = some (.iload_n 3, 1, 0, 0, 0) := by decide +kernel
theorem fi_232_836 : am_find 232 836 = some (.iconst 3, 1, 0, 3, 0) := by decide +kernel
theorem fi_232_837 : am_find 232 837 = some (.iadd, 1, 0, 0, 0) := by decide +kernel
theorem fi_232_838 : am_find 232 838 = some (.iaload, 1, 0, 0, 0) := by decide +kernel
theorem fi_232_839 : am_find 232 839 = some (.invokevirtual 113, 3, 111, 3, 274) := by decide +kernel
theorem fi_232_842 : am_find 232 842 = some (.aload_n 2, 1, 0, 0, 0) := by decide +kernel
theorem fi_232_843 : am_find 232 843 = some (.aload_n 0, 1, 0, 0, 0) := by decide +kernel
theorem fi_232_844 : am_find 232 844 = some (.iload_n 3, 1, 0, 0, 0) := by decide +kernel
theorem fi_232_845 : am_find 232 845 = some (.iconst 1, 1, 0, 1, 0) := by decide +kernel
theorem fi_232_846 : am_find 232 846 = some (.iadd, 1, 0, 0, 0) := by decide +kernel
theorem fi_232_847 : am_find 232 847 = some (.iaload, 1, 0, 0, 0) := by decide +kernel
theorem fi_232_848 : am_find 232 848 = some (.aload_n 0, 1, 0, 0, 0) := by decide +kernel
theorem fi_232_849 : am_find 232 849 = some (.iload_n 3, 1, 0, 0, 0) := by decide +kernel
theorem fi_232_850 : am_find 232 850 = some (.iconst 2, 1, 0, 2, 0) := by decide +kernel
theorem fi_232_851 : am_find 232 851 = some (.iadd, 1, 0, 0, 0) := by decide +kernel
theorem fi_232_852 : am_find 232 852 = some (.iaload, 1, 0, 0, 0) := by decide +kernel
theorem fi_232_853 : am_find 232 853 = some (.aload_n 0, 1, 0, 0, 0) := by decide +kernel
theorem fi_232_854 : am_find 232 854 = some (.iload_n 3, 1, 0, 0, 0) := by decide +kernel
theorem fi_232_855 : am_find 232 855 = some (.iconst 3, 1, 0, 3, 0) := by decide +kernel
theorem fi_232_856 : am_find 232 856 = some (.iadd, 1, 0, 0, 0) := by decide +kernel
theorem fi_232_857 : am_find 232 857 = some (.iaload, 1, 0, 0, 0) := by decide +kernel
theorem fi_232_858 : am_find 232 858 = some (.invokevirtual 116, 3, 208, 3, 275) := by decide +kernel
theorem fi_232_861 : am_find 232 861 = some (.if_icmp .eq 328, 3, 0, 0, 0) := by decide +kernel
theorem fi_232_864 : am_find 232 864 = some (.iconst 0, 1, 0, 0, 0) := by decide +kernel
theorem fi_232_865 : am_find 232 865 = some (.ireturn, 1, 1, 0, 0) := by decide +kernel
theorem fi_232_866 : am_find 232 866 = some (.aload_n 1, 1, 0, 0, 0) := by decide +kernel
theorem fi_232_867 : am_find 232 867 = some (.aload_n 0, 1, 0, 0, 0) := by decide +kernel
theorem fi_232_868 : am_find 232 868 = some (.iload_n 3, 1, 0, 0, 0) := by decide +kernel
theorem fi_232_869 : am_find 232 869 = some (.iconst 1, 1, 0, 1, 0) := by decide +kernel
theorem fi_232_870 : am_find 232 870 = some (.iadd, 1, 0, 0, 0) := by decide +kernel
theorem fi_232_871 : am_find 232 871 = some (.iaload, 1, 0, 0, 0) := by decide +kernel
theorem fi_232_872 : am_find 232 872 = some (.aload_n 0, 1, 0, 0, 0) := by decide +kernel
theorem fi_232_873 : am_find 232 873 = some (.iload_n 3, 1, 0, 0, 0) := by decide +kernel
theorem fi_232_874 : am_find 232 874 = some (.iconst 2, 1, 0, 2, 0) := by decide +kernel
theorem fi_232_875 : am_find 232 875 = some (.iadd, 1, 0, 0, 0) := by decide +kernel
theorem fi_232_876 : am_find 232 876 = some (.iaload, 1, 0, 0, 0) := by decide +kernel
theorem fi_232_877 : am_find 232 877 = some (.aload_n 0, 1, 0, 0, 0) := by decide +kernel
theorem fi_232_878 : am_find 232 878 = some (.iload_n 3, 1, 0, 0, 0) := by decide +kernel
theorem fi_232_879 : am_find 232 879 = some (.iconst 3, 1, 0, 3, 0) := by decide +kernel
theorem fi_232_880 : am_find 232 880 = some (.iadd, 1, 0, 0, 0) := by decide +kernel
theorem fi_232_881 : am_find 232 881 = some (.iaload, 1, 0, 0, 0) := by decide +kernel
theorem fi_232_882 : am_find 232 882 = some (.invokevirtual 117, 3, 113, 3, 276) := by decide +kernel
theorem fi_232_885 : am_find 232 885 = some (.aload_n 2, 1, 0, 0, 0) := by decide +kernel
theorem fi_232_886 : am_find 232 886 = some (.aload_n 0, 1, 0, 0, 0) := by decide +kernel
theorem fi_232_887 : am_find 232 887 = some (.iload_n 3, 1, 0, 0, 0) := by decide +kernel
theorem fi_232_888 : am_find 232 888 = some (.iconst 1, 1, 0, 1, 0) := by decide +kernel
theorem fi_232_889 : am_find 232 889 = some (.iadd, 1, 0, 0, 0) := by decide +kernel
theorem fi_232_890 : am_find 232 890 = some (.iaload, 1, 0, 0, 0) := by decide +kernel
theorem fi_232_891 : am_find 232 891 = some (.aload_n 0, 1, 0, 0, 0) := by decide +kernel
theorem fi_232_892 : am_find 232 892 = some (.iload_n 3, 1, 0, 0, 0) := by decide +kernel
theorem fi_232_893 : am_find 232 893 = some (.iconst 2, 1, 0, 2, 0) := by decide +kernel
theorem fi_232_894 : am_find 232 894 = some (.iadd, 1, 0, 0, 0) := by decide +kernel
theorem fi_232_895 : am_find 232 895 = some (.iaload, 1, 0, 0, 0) := by decide +kernel
theorem fi_232_896 : am_find 232 896 = some (.aload_n 0, 1, 0, 0, 0) := by decide +kernel
theorem fi_232_897 : am_find 232 897 = some (.iload_n 3, 1, 0, 0, 0) := by decide +kernel
theorem fi_232_898 : am_find 232 898 = some (.iconst 3, 1, 0, 3, 0) := by decide +kernel
theorem fi_232_899 : am_find 232 899 = some (.iadd, 1, 0, 0, 0) := by decide +kernel
theorem fi_232_900 : am_find 232 900 = some (.iaload, 1, 0, 0, 0) := by decide +kernel
theorem fi_232_901 : am_find 232 901 = some (.invokevirtual 120, 3, 209, 3, 277) := by decide +kernel
theorem fi_232_904 : am_find 232 904 = some (.if_icmp .eq 285, 3, 0, 0, 0) := by decide +kernel
theorem fi_232_907 : am_find 232 907 = some (.iconst 0, 1, 0, 0, 0) := by decide +kernel
theorem fi_232_908 : am_find 232 908 = some (.ireturn, 1, 1, 0, 0) := by decide +kernel
theorem fi_232_909 : am_find 232 909 = some (.aload_n 1, 1, 0, 0, 0) := by decide +kernel
theorem fi_232_910 : am_find 232 910 = some (.aload_n 0, 1, 0, 0, 0) := by decide +kernel
theorem fi_232_911 : am_find 232 911 = some (.iload_n 3, 1, 0, 0, 0) := by decide +kernel
theorem fi_232_912 : am_find 232 912 = some (.iconst 1, 1, 0, 1, 0) := by decide +kernel
theorem fi_232_913 : am_find 232 913 = some (.iadd, 1, 0, 0, 0) := by decide +kernel
theorem fi_232_914 : am_find 232 914 = some (.iaload, 1, 0, 0, 0) := by decide +kernel
theorem fi_232_915 : am_find 232 915 = some (.aload_n 0, 1, 0, 0, 0) := by decide +kernel
theorem fi_232_916 : am_find 232 916 = some (.iload_n 3, 1, 0, 0, 0) := by decide +kernel
theorem fi_232_917 : am_find 232 917 = some (.iconst 2, 1, 0, 2, 0) := by decide +kernel
theorem fi_232_918 : am_find 232 918 = some (.iadd, 1, 0, 0, 0) := by decide +kernel
theorem fi_232_919 : am_find 232 919 = some (.iaload, 1, 0, 0, 0) := by decide +kernel
theorem fi_232_920 : am_find 232 920 = some (.invokevirtual 121, 3, 116, 2, 278) := by decide +kernel
theorem fi_232_923 : am_find 232 923 = some (.aload_n 2, 1, 0, 0, 0) := by decide +kernel
theorem fi_232_924 : am_find 232 924 = some (.aload_n 0, 1, 0, 0, 0) := by decide +kernel
theorem fi_232_925 : am_find 232 925 = some (.iload_n 3, 1, 0, 0, 0) := by decide +kernel
theorem fi_232_926 : am_find 232 926 = some (.iconst 1, 1, 0, 1, 0) := by decide +kernel
theorem fi_232_927 : am_find 232 927 = some (.iadd, 1, 0, 0, 0) := by decide +kernel
theorem fi_232_928 : am_find 232 928 = some (.iaload, 1, 0, 0, 0) := by decide +kernel
theorem fi_232_929 : am_find 232 929 = some (.aload_n 0, 1, 0, 0, 0) := by decide +kernel
theorem fi_232_930 : am_find 232 930 = some (.iload_n 3, 1, 0, 0, 0) := by decide +kernel
theorem fi_232_931 : am_find 232 931 = some (.iconst 2, 1, 0, 2, 0) := by decide +kernel
theorem fi_232_932 : am_find 232 932 = some (.iadd, 1, 0, 0, 0) := by decide +kernel
theorem fi_232_933 : am_find 232 933 = some (.iaload, 1, 0, 0, 0) := by decide +kernel
theorem fi_232_934 : am_find 232 934 = some (.invokevirtual 124, 3, 211, 2, 279) := by decide +kernel
theorem fi_232_937 : am_find 232 937 = some (.if_icmp .eq 252, 3, 0, 0, 0) := by decide +kernel
theorem fi_232_940 : am_find 232 940 = some (.iconst 0, 1, 0, 0, 0) := by decide +kernel
theorem fi_232_941 : am_find 232 941 = some (.ireturn, 1, 1, 0, 0) := by decide +kernel
theorem fi_232_942 : am_find 232 942 = some (.aload_n 1, 1, 0, 0, 0) := by decide +kernel
theorem fi_232_943 : am_find 232 943 = some (.aload_n 0, 1, 0, 0, 0) := by decide +kernel
theorem fi_232_944 : am_find 232 944 = some (.iload_n 3, 1, 0, 0, 0) := by decide +kernel
theorem fi_232_945 : am_find 232 945 = some (.iconst 1, 1, 0, 1, 0) := by decide +kernel
theorem fi_232_946 : am_find 232 946 = some (.iadd, 1, 0, 0, 0) := by decide +kernel
theorem fi_232_947 : am_find 232 947 = some (.iaload, 1, 0, 0, 0) := by decide +kernel
theorem fi_232_948 : am_find 232 948 = some (.aload_n 0, 1, 0, 0, 0) := by decide +kernel
theorem fi_232_949 : am_find 232 949 = some (.iload_n 3, 1, 0, 0, 0) := by decide +kernel
theorem fi_232_950 : am_find 232 950 = some (.iconst 2, 1, 0, 2, 0) := by decide +kernel
theorem fi_232_951 : am_find 232 951 = some (.iadd, 1, 0, 0, 0) := by decide +kernel
theorem fi_232_952 : am_find 232 952 = some (.iaload, 1, 0, 0, 0) := by decide +kernel
theorem fi_232_953 : am_find 232 953 = some (.aload_n 0, 1, 0, 0, 0) := by decide +kernel
theorem fi_232_954 : am_find 232 954 = some (.iload_n 3, 1, 0, 0, 0) := by decide +kernel
theorem fi_232_955 : am_find 232 955 = some (.iconst 3, 1, 0, 3, 0) := by decide +kernel
theorem fi_232_956 : am_find 232 956 = some (.iadd, 1, 0, 0, 0) := by decide +kernel
theorem fi_232_957 : am_find 232 957 = some (.iaload, 1, 0, 0, 0) := by decide +kernel
theorem fi_232_958 : am_find 232 958 = some (.invokevirtual 125, 3, 118, 3, 280) := by decide +kernel
theorem fi_232_961 : am_find 232 961 = some (.aload_n 2, 1, 0, 0, 0) := by decide +kernel
theorem fi_232_962 : am_find 232 962 = some (.aload_n 0, 1, 0, 0, 0) := by decide +kernel
theorem fi_232_963 : am_find 232 963 = some (.iload_n 3, 1, 0, 0, 0) := by decide +kernel
theorem fi_232_964 : am_find 232 964 = some (.iconst 1, 1, 0, 1, 0) := by decide +kernel
theorem fi_232_965 : am_find 232 965 = some (.iadd, 1, 0, 0, 0) := by decide +kernel
theorem fi_232_966 : am_find 232 966 = some (.iaload, 1, 0, 0, 0) := by decide +kernel
theorem fi_232_967 : am_find 232 967 = some (.aload_n 0, 1, 0, 0, 0) := by decide +kernel
theorem fi_232_968 : am_find 232 968 = some (.iload_n 3, 1, 0, 0, 0) := by decide +kernel
theorem fi_232_969 : am_find 232 969 = some (.iconst 2, 1, 0, 2, 0) := by decide +kernel
theorem fi_232_970 : am_find 232 970 = some (.iadd, 1, 0, 0, 0) := by decide +kernel
theorem fi_232_971 : am_find 232 971 = some (.iaload, 1, 0, 0, 0) := by decide +kernel
theorem fi_232_972 : am_find 232 972 = some (.aload_n 0, 1, 0, 0, 0) := by decide +kernel
theorem fi_232_973 : am_find 232 973 = some (.iload_n 3, 1, 0, 0, 0) := by decide +kernel
theorem fi_232_974 : am_find 232 974 = some (.iconst 3, 1, 0, 3, 0) := by decide +kernel
theorem fi_232_975 : am_find 232 975 = some (.iadd, 1, 0, 0, 0) := by decide +kernel
theorem fi_232_976 : am_find 232 976 = some (.iaload, 1, 0, 0, 0) := by decide +kernel
theorem fi_232_977 : am_find 232 977 = some (.invokevirtual 128, 3, 212, 3, 281) := by decide +kernel
theorem fi_232_980 : am_find 232 980 = some (.if_icmp .eq 209, 3, 0, 0, 0) := by decide +kernel
theorem fi_232_983 : am_find 232 983 = some (.iconst 0, 1, 0, 0, 0) := by decide +kernel
theorem fi_232_984 : am_find 232 984 = some (.ireturn, 1, 1, 0, 0) := by decide +kernel
theorem fi_232_985 : am_find 232 985 = some (.aload_n 1, 1, 0, 0, 0) := by decide +kernel
theorem fi_232_986 : am_find 232 986 = some (.aload_n 0, 1, 0, 0, 0) := by decide +kernel
theorem fi_232_987 : am_find 232 987 = some (.iload_n 3, 1, 0, 0, 0) := by decide +kernel
theorem fi_232_988 : am_find 232 988 = some (.iconst 1, 1, 0, 1, 0) := by decide +kernel
theorem fi_232_989 : am_find 232 989 = some (.iadd, 1, 0, 0, 0) := by decide +kernel
theorem fi_232_990 : am_find 232 990 = some (.iaload, 1, 0, 0, 0) := by decide +kernel
theorem fi_232_991 : am_find 232 991 = some (.aload_n 0, 1, 0, 0, 0) := by decide +kernel
theorem fi_232_992 : am_find 232 992 = some (.iload_n 3, 1, 0, 0, 0) := by decide +kernel
theorem fi_232_993 : am_find 232 993 = some (.iconst 2, 1, 0, 2, 0) := by decide +kernel
theorem fi_232_994 : am_find 232 994 = some (.iadd, 1, 0, 0, 0) := by decide +kernel
theorem fi_232_995 : am_find 232 995 = some (.iaload, 1, 0, 0, 0) := by decide +kernel
theorem fi_232_996 : am_find 232 996 = some (.invokevirtual 129, 3, 121, 2, 282) := by decide +kernel
theorem fi_232_999 : am_find 232 999 = some (.aload_n 2, 1, 0, 0, 0) := by decide +kernel
theorem fi_232_1000 : am_find 232 1000 = some (.aload_n 0, 1, 0, 0, 0) := by decide +kernel
theorem fi_232_1001 : am_find 232 1001 = some (.iload_n 3, 1, 0, 0, 0) := by decide +kernel
theorem fi_232_1002 : am_find 232 1002 = some (.iconst 1, 1, 0, 1, 0) := by decide +kernel
theorem fi_232_1003 : am_find 232 1003 = some (.iadd, 1, 0, 0, 0) := by decide +kernel
theorem fi_232_1004 : am_find 232 1004 = some (.iaload, 1, 0, 0, 0) := by decide +kernel
theorem fi_232_1005 : am_find 232 1005 = some (.aload_n 0, 1, 0, 0, 0) := by decide +kernel
theorem fi_232_1006 : am_find 232 1006 = some (.iload_n 3, 1, 0, 0, 0) := by decide +kernel
theorem fi_232_1007 : am_find 232 1007 = some (.iconst 2, 1, 0, 2, 0) := by decide +kernel
theorem fi_232_1008 : am_find 232 1008 = some (.iadd, 1, 0, 0, 0) := by decide +kernel
theorem fi_232_1009 : am_find 232 1009 = some (.iaload, 1, 0, 0, 0) := by decide +kernel
theorem fi_232_1010 : am_find 232 1010 = some (.invokevirtual 132, 3, 213, 2, 283) := by decide +kernel
theorem fi_232_1013 : am_find 232 1013 = some (.if_icmp .eq 176, 3, 0, 0, 0) := by decide +kernel
theorem fi_232_1016 : am_find 232 1016 = some (.iconst 0, 1, 0, 0, 0) := by decide +kernel
theorem fi_232_1017 : am_find 232 1017 = some (.ireturn, 1, 1, 0, 0) := by decide +kernel
theorem fi_232_1018 : am_find 232 1018 = some (.aload_n 1, 1, 0, 0, 0) := by decide +kernel
theorem fi_232_1019 : am_find 232 1019 = some (.aload_n 0, 1, 0, 0, 0) := by decide +kernel
theorem fi_232_1020 : am_find 232 1020 = some (.iload_n 3, 1, 0, 0, 0) := by decide +kernel
theorem fi_232_1021 : am_find 232 1021 = some (.iconst 1, 1, 0, 1, 0) := by decide +kernel
theorem fi_232_1022 : am_find 232 1022 = some (.iadd, 1, 0, 0, 0) := by decide +kernel
theorem fi_232_1023 : am_find 232 1023 = some (.iaload, 1, 0, 0, 0) := by decide +kernel
theorem fi_232_1024 : am_find 232 1024 = some (.invokevirtual 133, 3, 127, 1, 284) := by decide +kernel
theorem fi_232_1027 : am_find 232 1027 = some (.aload_n 2, 1, 0, 0, 0) := by decide +kernel
theorem fi_232_1028 : am_find 232 1028 = some (.aload_n 0, 1, 0, 0, 0) := by decide +kernel
theorem fi_232_1029 : am_find 232 1029 = some (.iload_n 3, 1, 0, 0, 0) := by decide +kernel
theorem fi_232_1030 : am_find 232 1030 = some (.iconst 1, 1, 0, 1, 0) := by decide +kernel
theorem fi_232_1031 : am_find 232 1031 = some (.iadd, 1, 0, 0, 0) := by decide +kernel
theorem fi_232_1032 : am_find 232 1032 = some (.iaload, 1, 0, 0, 0) := by decide +kernel
theorem fi_232_1033 : am_find 232 1033 = some (.invokevirtual 136, 3, 216, 1, 285) := by decide +kernel
theorem fi_232_1036 : am_find 232 1036 = some (.if_icmp .eq 153, 3, 0, 0, 0) := by decide +kernel
theorem fi_232_1039 : am_find 232 1039 = some (.iconst 0, 1, 0, 0, 0) := by decide +kernel
theorem fi_232_1040 : am_find 232 1040 = some (.ireturn, 1, 1, 0, 0) := by decide +kernel
theorem fi_232_1041 : am_find 232 1041 = some (.aload_n 1, 1, 0, 0, 0) := by decide +kernel
theorem fi_232_1042 : am_find 232 1042 = some (.aload_n 0, 1, 0, 0, 0) := by decide +kernel
theorem fi_232_1043 : am_find 232 1043 = some (.iload_n 3, 1, 0, 0, 0) := by decide +kernel
theorem fi_232_1044 : am_find 232 1044 = some (.iconst 1, 1, 0, 1, 0) := by decide +kernel
theorem fi_232_1045 : am_find 232 1045 = some (.iadd, 1, 0, 0, 0) := by decide +kernel
theorem fi_232_1046 : am_find 232 1046 = some (.iaload, 1, 0, 0, 0) := by decide +kernel
theorem fi_232_1047 : am_find 232 1047 = some (.aload_n 0, 1, 0, 0, 0) := by decide +kernel
theorem fi_232_1048 : am_find 232 1048 = some (.iload_n 3, 1, 0, 0, 0) := by decide +kernel
theorem fi_232_1049 : am_find 232 1049 = some (.iconst 2, 1, 0, 2, 0) := by decide +kernel
theorem fi_232_1050 : am_find 232 1050 = some (.iadd, 1, 0, 0, 0) := by decide +kernel
theorem fi_232_1051 : am_find 232 1051 = some (.iaload, 1, 0, 0, 0) := by decide +kernel
theorem fi_232_1052 : am_find 232 1052 = some (.aload_n 0, 1, 0, 0, 0) := by decide +kernel
theorem fi_232_1053 : am_find 232 1053 = some (.iload_n 3, 1, 0, 0, 0) := by decide +kernel
theorem fi_232_1054 : am_find 232 1054 = some (.iconst 3, 1, 0, 3, 0) := by decide +kernel
theorem fi_232_1055 : am_find 232 1055 = some (.iadd, 1, 0, 0, 0) := by decide +kernel
theorem fi_232_1056 : am_find 232 1056 = some (.iaload, 1, 0, 0, 0) := by decide +kernel
theorem fi_232_1057 : am_find 232 1057 = some (.invokevirtual 137, 3, 128, 3, 286) := by decide +kernel
theorem fi_232_1060 : am_find 232 1060 = some (.aload_n 2, 1, 0, 0, 0) := by decide +kernel
theorem fi_232_1061 : am_find 232 1061 = some (.aload_n 0, 1, 0, 0, 0) := by decide +kernel
theorem fi_232_1062 : am_find 232 1062 = some (.iload_n 3, 1, 0, 0, 0) := by decide +kernel
theorem fi_232_1063 : am_find 232 1063 = some (.iconst 1, 1, 0, 1, 0) := by decide +kernel
theorem fi_232_1064 : am_find 232 1064 = some (.iadd, 1, 0, 0, 0) := by decide +kernel
theorem fi_232_1065 : am_find 232 1065 = some (.iaload, 1, 0, 0, 0) := by decide +kernel
theorem fi_232_1066 : am_find 232 1066 = some (.aload_n 0, 1, 0, 0, 0) := by decide +kernel
theorem fi_232_1067 : am_find 232 1067 = some (.iload_n 3, 1, 0, 0, 0) := by decide +kernel
theorem fi_232_1068 : am_find 232 1068 = some (.iconst 2, 1, 0, 2, 0) := by decide +kernel
theorem fi_232_1069 : am_find 232 1069 = some (.iadd, 1, 0, 0, 0) := by decide +kernel
theorem fi_232_1070 : am_find 232 1070 = some (.iaload, 1, 0, 0, 0) := by decide +kernel
theorem fi_232_1071 : am_find 232 1071 = some (.aload_n 0, 1, 0, 0, 0) := by decide +kernel
theorem fi_232_1072 : am_find 232 1072 = some (.iload_n 3, 1, 0, 0, 0) := by decide +kernel
theorem fi_232_1073 : am_find 232 1073 = some (.iconst 3, 1, 0, 3, 0) := by decide +kernel
theorem fi_232_1074 : am_find 232 1074 = some (.iadd, 1, 0, 0, 0) := by decide +kernel
theorem fi_232_1075 : am_find 232 1075 = some (.iaload, 1, 0, 0, 0) := by decide +kernel
theorem fi_232_1076 : am_find 232 1076 = some (.invokevirtual 140, 3, 217, 3, 287) := by decide +kernel
theorem fi_232_1079 : am_find 232 1079 = some (.if_icmp .eq 110, 3, 0, 0, 0) := by decide +kernel
theorem fi_232_1082 : am_find 232 1082 = some (.iconst 0, 1, 0, 0, 0) := by decide +kernel
theorem fi_232_1083 : am_find 232 1083 = some (.ireturn, 1, 1, 0, 0) := by decide +kernel
theorem fi_232_1084 : am_find 232 1084 = some (.aload_n 1, 1, 0, 0, 0) := by decide +kernel
theorem fi_232_1085 : am_find 232 1085 = some (.aload_n 0, 1, 0, 0, 0) := by decide +kernel
theorem fi_232_1086 : am_find 232 1086 = some (.iload_n 3, 1, 0, 0, 0) := by decide +kernel
theorem fi_232_1087 : am_find 232 1087 = some (.iconst 1, 1, 0, 1, 0) := by decide +kernel
theorem fi_232_1088 : am_find 232 1088 = some (.iadd, 1, 0, 0, 0) := by decide +kernel
theorem fi_232_1089 : am_find 232 1089 = some (.iaload, 1, 0, 0, 0) := by decide +kernel
theorem fi_232_1090 : am_find 232 1090 = some (.invokevirtual 141, 3, 135, 1, 288) := by decide +kernel
theorem fi_232_1093 : am_find 232 1093 = some (.aload_n 2, 1, 0, 0, 0) := by decide +kernel
theorem fi_232_1094 : am_find 232 1094 = some (.aload_n 0, 1, 0, 0, 0) := by decide +kernel
theorem fi_232_1095 : am_find 232 1095 = some (.iload_n 3, 1, 0, 0, 0) := by decide +kernel
theorem fi_232_1096 : am_find 232 1096 = some (.iconst 1, 1, 0, 1, 0) := by decide +kernel
theorem fi_232_1097 : am_find 232 1097 = some (.iadd, 1, 0, 0, 0) := by decide +kernel
theorem fi_232_1098 : am_find 232 1098 = some (.iaload, 1, 0, 0, 0) := by decide +kernel
theorem fi_232_1099 : am_find 232 1099 = some (.invokevirtual 144, 3, 226, 1, 289) := by decide +kernel
theorem fi_232_1102 : am_find 232 1102 = some (.if_icmp .eq 87, 3, 0, 0, 0) := by decide +kernel
theorem fi_232_1105 : am_find 232 1105 = some (.iconst 0, 1, 0, 0, 0) := by decide +kernel
theorem fi_232_1106 : am_find 232 1106 = some (.ireturn, 1, 1, 0, 0) := by decide +kernel
theorem fi_232_1107 : am_find 232 1107 = some (.aload_n 1, 1, 0, 0, 0) := by decide +kernel
theorem fi_232_1108 : am_find 232 1108 = some (.aload_n 0, 1, 0, 0, 0) := by decide +kernel
theorem fi_232_1109 : am_find 232 1109 = some (.iload_n 3, 1, 0, 0, 0) := by decide +kernel
theorem fi_232_1110 : am_find 232 1110 = some (.iconst 1, 1, 0, 1, 0) := by decide +kernel
theorem fi_232_1111 : am_find 232 1111 = some (.iadd, 1, 0, 0, 0) := by decide +kernel
theorem fi_232_1112 : am_find 232 1112 = some (.iaload, 1, 0, 0, 0) := by decide +kernel
theorem fi_232_1113 : am_find 232 1113 = some (.aload_n 0, 1, 0, 0, 0) := by decide +kernel
theorem fi_232_1114 : am_find 232 1114 = some (.iload_n 3, 1, 0, 0, 0) := by decide +kernel
theorem fi_232_1115 : am_find 232 1115 = some (.iconst 2, 1, 0, 2, 0) := by decide +kernel
theorem fi_232_1116 : am_find 232 1116 = some (.iadd, 1, 0, 0, 0) := by decide +kernel
theorem fi_232_1117 : am_find 232 1117 = some (.iaload, 1, 0, 0, 0) := by decide +kernel
theorem fi_232_1118 : am_find 232 1118 = some (.invokevirtual 145, 3, 136, 2, 290) := by decide +kernel
theorem fi_232_1121 : am_find 232 1121 = some (.aload_n 2, 1, 0, 0, 0) := by decide +kernel
theorem fi_232_1122 : am_find 232 1122 = some (.aload_n 0, 1, 0, 0, 0) := by decide +kernel
theorem fi_232_1123 : am_find 232 1123 = some (.iload_n 3, 1, 0, 0, 0) := by decide +kernel
theorem fi_232_1124 : am_find 232 1124 = some (.iconst 1, 1, 0, 1, 0) := by decide +kernel
theorem fi_232_1125 : am_find 232 1125 = some (.iadd, 1, 0, 0, 0) := by decide +kernel
theorem fi_232_1126 : am_find 232 1126 = some (.iaload, 1, 0, 0, 0) := by decide +kernel
theorem fi_232_1127 : am_find 232 1127 = some (.aload_n 0, 1, 0, 0, 0) := by decide +kernel
theorem fi_232_1128 : am_find 232 1128 = some (.iload_n 3, 1, 0, 0, 0) := by decide +kernel
theorem fi_232_1129 : am_find 232 1129 = some (.iconst 2, 1, 0, 2, 0) := by decide +kernel
theorem fi_232_1130 : am_find 232 1130 = some (.iadd, 1, 0, 0, 0) := by decide +kernel
theorem fi_232_1131 : am_find 232 1131 = some (.iaload, 1, 0, 0, 0) := by decide +kernel
theorem fi_232_1132 : am_find 232 1132 = some (.invokevirtual 148, 3, 227, 2, 291) := by decide +kernel
theorem fi_232_1135 : am_find 232 1135 = some (.if_icmp .eq 54, 3, 0, 0, 0) := by decide +kernel
theorem fi_232_1138 : am_find 232 1138 = some (.iconst 0, 1, 0, 0, 0) := by decide +kernel
theorem fi_232_1139 : am_find 232 1139 = some (.ireturn, 1, 1, 0, 0) := by decide +kernel
theorem fi_232_1140 : am_find 232 1140 = some (.aload_n 1, 1, 0, 0, 0) := by decide +kernel
theorem fi_232_1141 : am_find 232 1141 = some (.invokevirtual 149, 3, 138, 0, 292) := by decide +kernel
theorem fi_232_1144 : am_find 232 1144 = some (.aload_n 2, 1, 0, 0, 0) := by decide +kernel
theorem fi_232_1145 : am_find 232 1145 = some (.invokevirtual 152, 3, 228, 0, 293) := by decide +kernel
theorem fi_232_1148 : am_find 232 1148 = some (.if_icmp .eq 41, 3, 0, 0, 0) := by decide +kernel
theorem fi_232_1151 : am_find 232 1151 = some (.iconst 0, 1, 0, 0, 0) := by decide +kernel
theorem fi_232_1152 : am_find 232 1152 = some (.ireturn, 1, 1, 0, 0) := by decide +kernel
theorem fi_232_1153 : am_find 232 1153 = some (.aload_n 1, 1, 0, 0, 0) := by decide +kernel
theorem fi_232_1154 : am_find 232 1154 = some (.invokevirtual 153, 3, 141, 0, 294) := by decide +kernel
theorem fi_232_1157 : am_find 232 1157 = some (.aload_n 2, 1, 0, 0, 0) := by decide +kernel
theorem fi_232_1158 : am_find 232 1158 = some (.invokevirtual 156, 3, 229, 0, 295) := by decide +kernel
theorem fi_232_1161 : am_find 232 1161 = some (.if_icmp .eq 28, 3, 0, 0, 0) := by decide +kernel
theorem fi_232_1164 : am_find 232 1164 = some (.iconst 0, 1, 0, 0, 0) := by decide +kernel
theorem fi_232_1165 : am_find 232 1165 = some (.ireturn, 1, 1, 0, 0) := by decide +kernel
theorem fi_232_1166 : am_find 232 1166 = some (.aload_n 1, 1, 0, 0, 0) := by decide +kernel
theorem fi_232_1167 : am_find 232 1167 = some (.aload_n 0, 1, 0, 0, 0) := by decide +kernel
theorem fi_232_1168 : am_find 232 1168 = some (.iload_n 3, 1, 0, 0, 0) := by decide +kernel
theorem fi_232_1169 : am_find 232 1169 = some (.iconst 1, 1, 0, 1, 0) := by decide +kernel
theorem fi_232_1170 : am_find 232 1170 = some (.iadd, 1, 0, 0, 0) := by decide +kernel
theorem fi_232_1171 : am_find 232 1171 = some (.iaload, 1, 0, 0, 0) := by decide +kernel
theorem fi_232_1172 : am_find 232 1172 = some (.invokevirtual 157, 3, 142, 1, 296) := by decide +kernel
theorem fi_232_1175 : am_find 232 1175 = some (.aload_n 2, 1, 0, 0, 0) := by decide +kernel
theorem fi_232_1176 : am_find 232 1176 = some (.aload_n 0, 1, 0, 0, 0) := by decide +kernel
theorem fi_232_1177 : am_find 232 1177 = some (.iload_n 3, 1, 0, 0, 0) := by decide +kernel
theorem fi_232_1178 : am_find 232 1178 = some (.iconst 1, 1, 0, 1, 0) := by decide +kernel
theorem fi_232_1179 : am_find 232 1179 = some (.iadd, 1, 0, 0, 0) := by decide +kernel
theorem fi_232_1180 : am_find 232 1180 = some (.iaload, 1, 0, 0, 0) := by decide +kernel
theorem fi_232_1181 : am_find 232 1181 = some (.invokevirtual 160, 3, 230, 1, 297) := by decide +kernel
theorem fi_232_1184 : am_find 232 1184 = some (.if_icmp .eq 5, 3, 0, 0, 0) := by decide +kernel
theorem fi_232_1187 : am_find 232 1187 = some (.iconst 0, 1, 0, 0, 0) := by decide +kernel
theorem fi_232_1188 : am_find 232 1188 = some (.ireturn, 1, 1, 0, 0) := by decide +kernel
theorem fi_232_1189 : am_find 232 1189 = some (.iinc 3 4, 3, 0, 0, 0) := by decide +kernel
theorem fi_232_1192 : am_find 232 1192 = some (.goto (-1174), 3, 0, 0, 0) := by decide +kernel
theorem fi_232_1195 : am_find 232 1195 = some (.iconst 1, 1, 0, 1, 0) := by decide +kernel
theorem fi_232_1196 : am_find 232 1196 = some (.ireturn, 1, 1, 0, 0) := by decide +kernel
theorem b232_16 {d L : Nat} {σ : St} {Q : Option AV → AW → Prop} {u0 u1 u2 u3 : AV} : R d 232 16 [u0, u1, u2, u3] [] (WS L σ) Q = R d 232 18 [u0, u1, u2, vI 0] [] (WS L σ) Q := K_iconst fi_232_16 <| K_istore_n fi_232_17 (Nat.le_of_ble_eq_true rfl) rfl rfl <| rfl
theorem b232_18 {d L : Nat} {σ : St} {Q : Option AV → AW → Prop} {x3 : Int} {u1 u2 : AV} (h1 : -2147483648 ≤ (L : Int) - 4 ∧ (L : Int) - 4 ≤ 2147483647) : R d 232 18 [vR 0, u1, u2, vI x3] [] (WS L σ) Q = if ((L : Int) - 4) < x3 then R d 232 1195 [vR 0, u1, u2, vI x3] [] (WS L σ) Q else R d 232 26 [vR 0, u1, u2, vI x3] [] (WS L σ) Q := K_iload_n fi_232_18 rfl <| K_aload_n fi_232_19 rfl <| K_alenx fi_232_20 (Or.inr (Or.inr (Or.inr (Or.inl kd_0)))) rfl <| K_iconst fi_232_21 <| K_isubx fi_232_22 h1 <| R_icmp_gt fi_232_23 rfl
theorem sw232_26 {d L : Nat} {σ : St} {Q : Option AV → AW → Prop} {x : Int} {ls st : List AV} : R d 232 32 ls (vI x :: st) (WS L σ) Q = if x = 0 then R d 232 188 ls st (WS L σ) Q else if x = 1 then R d 232 231 ls st (WS L σ) Q else if x = 2 then R d 232 264 ls st (WS L σ) Q else if x = 3 then R d 232 287 ls st (WS L σ) Q else if x = 4 then R d 232 350 ls st (WS L σ) Q else if x = 5 then R d 232 363 ls st (WS L σ) Q else if x = 6 then R d 232 396 ls st (WS L σ) Q else if x = 7 then R d 232 429 ls st (WS L σ) Q else if x = 8 then R d 232 452 ls st (WS L σ) Q else if x = 9 then R d 232 475 ls st (WS L σ) Q else if x = 10 then R d 232 498 ls st (WS L σ) Q else if x = 11 then R d 232 531 ls st (WS L σ) Q else if x = 12 then R d 232 564 ls st (WS L σ) Q else if x = 13 then R d 232 597 ls st (WS L σ) Q else if x = 14 then R d 232 620 ls st (WS L σ) Q else if x = 15 then R d 232 643 ls st (WS L σ) Q else if x = 16 then R d 232 682 ls st (WS L σ) Q else if x = 17 then R d 232 695 ls st (WS L σ) Q else if x = 18 then R d 232 718 ls st (WS L σ) Q else if x = 19 then R d 232 741 ls st (WS L σ) Q else if x = 20 then R d 232 764 ls st (WS L σ) Q else if x = 21 then R d 232 787 ls st (WS L σ) Q else if x = 22 then R d 232 800 ls st (WS L σ) Q else if x = 23 then R d 232 823 ls st (WS L σ) Q else if x = 24 then R d 232 866 ls st (WS L σ) Q else if x = 25 then R d 232 909 ls st (WS L σ) Q else if x = 26 then R d 232 942 ls st (WS L σ) Q else if x = 27 then R d 232 985 ls st (WS L σ) Q else if x = 28 then R d 232 1018 ls st (WS L σ) Q else if x = 29 then R d 232 1041 ls st (WS L σ) Q else if x = 30 then R d 232 1084 ls st (WS L σ) Q else if x = 31 then R d 232 1107 ls st (WS L σ) Q else if x = 32 then R d 232 1140 ls st (WS L σ) Q else if x = 33 then R d 232 1153 ls st (WS L σ) Q else if x = 34 then R d 232 1166 ls st (WS L σ) Q else R d 232 1189 ls st (WS L σ) Q := by
  by_cases h0 : x = 0
  · subst h0; exact (R_tsw (t := 188) fi_232_32 rfl).trans (by simp)
  by_cases h1 : x = 1
  · subst h1; exact (R_tsw (t := 231) fi_232_32 rfl).trans (by simp)
  by_cases h2 : x = 2
  · subst h2; exact (R_tsw (t := 264) fi_232_32 rfl).trans (by simp)
  by_cases h3 : x = 3
  · subst h3; exact (R_tsw (t := 287) fi_232_32 rfl).trans (by simp)
  by_cases h4 : x = 4
  · subst h4; exact (R_tsw (t := 350) fi_232_32 rfl).trans (by simp)
  by_cases h5 : x = 5
  · subst h5; exact (R_tsw (t := 363) fi_232_32 rfl).trans (by simp)
  by_cases h6 : x = 6
  · subst h6; exact (R_tsw (t := 396) fi_232_32 rfl).trans (by simp)
  by_cases h7 : x = 7
  · subst h7; exact (R_tsw (t := 429) fi_232_32 rfl).trans (by simp)
  by_cases h8 : x = 8
  · subst h8; exact (R_tsw (t := 452) fi_232_32 rfl).trans (by simp)
  by_cases h9 : x = 9
  · subst h9; exact (R_tsw (t := 475) fi_232_32 rfl).trans (by simp)
  by_cases h10 : x = 10
  · subst h10; exact (R_tsw (t := 498) fi_232_32 rfl).trans (by simp)
  by_cases h11 : x = 11
  · subst h11; exact (R_tsw (t := 531) fi_232_32 rfl).trans (by simp)
  by_cases h12 : x = 12
  · subst h12; exact (R_tsw (t := 564) fi_232_32 rfl).trans (by simp)
  by_cases h13 : x = 13
  · subst h13; exact (R_tsw (t := 597) fi_232_32 rfl).trans (by simp)
  by_cases h14 : x = 14
  · subst h14; exact (R_tsw (t := 620) fi_232_32 rfl).trans (by simp)
  by_cases h15 : x = 15
  · subst h15; exact (R_tsw (t := 643) fi_232_32 rfl).trans (by simp)
  by_cases h16 : x = 16
  · subst h16; exact (R_tsw (t := 682) fi_232_32 rfl).trans (by simp)
  by_cases h17 : x = 17
  · subst h17; exact (R_tsw (t := 695) fi_232_32 rfl).trans (by simp)
  by_cases h18 : x = 18
  · subst h18; exact (R_tsw (t := 718) fi_232_32 rfl).trans (by simp)
  by_cases h19 : x = 19
  · subst h19; exact (R_tsw (t := 741) fi_232_32 rfl).trans (by simp)
  by_cases h20 : x = 20
  · subst h20; exact (R_tsw (t := 764) fi_232_32 rfl).trans (by simp)
  by_cases h21 : x = 21
  · subst h21; exact (R_tsw (t := 787) fi_232_32 rfl).trans (by simp)
  by_cases h22 : x = 22
  · subst h22; exact (R_tsw (t := 800) fi_232_32 rfl).trans (by simp)
  by_cases h23 : x = 23
  · subst h23; exact (R_tsw (t := 823) fi_232_32 rfl).trans (by simp)
  by_cases h24 : x = 24
  · subst h24; exact (R_tsw (t := 866) fi_232_32 rfl).trans (by simp)
  by_cases h25 : x = 25
  · subst h25; exact (R_tsw (t := 909) fi_232_32 rfl).trans (by simp)
  by_cases h26 : x = 26
  · subst h26; exact (R_tsw (t := 942) fi_232_32 rfl).trans (by simp)
  by_cases h27 : x = 27
  · subst h27; exact (R_tsw (t := 985) fi_232_32 rfl).trans (by simp)
  by_cases h28 : x = 28
  · subst h28; exact (R_tsw (t := 1018) fi_232_32 rfl).trans (by simp)
  by_cases h29 : x = 29
  · subst h29; exact (R_tsw (t := 1041) fi_232_32 rfl).trans (by simp)
  by_cases h30 : x = 30
  · subst h30; exact (R_tsw (t := 1084) fi_232_32 rfl).trans (by simp)
  by_cases h31 : x = 31
  · subst h31; exact (R_tsw (t := 1107) fi_232_32 rfl).trans (by simp)
  by_cases h32 : x = 32
  · subst h32; exact (R_tsw (t := 1140) fi_232_32 rfl).trans (by simp)
  by_cases h33 : x = 33
  · subst h33; exact (R_tsw (t := 1153) fi_232_32 rfl).trans (by simp)
  by_cases h34 : x = 34
  · subst h34; exact (R_tsw (t := 1166) fi_232_32 rfl).trans (by simp)
  rw [R_tsw (t := 1189) fi_232_32 (by show (if x < 0 ∨ 34 < x then _ else _) = _; rw [if_pos (by omega)]; rfl)]
  rw [if_neg h0, if_neg h1, if_neg h2, if_neg h3, if_neg h4, if_neg h5, if_neg h6, if_neg h7, if_neg h8, if_neg h9, if_neg h10, if_neg h11, if_neg h12, if_neg h13, if_neg h14, if_neg h15, if_neg h16, if_neg h17, if_neg h18, if_neg h19, if_neg h20, if_neg h21, if_neg h22, if_neg h23, if_neg h24, if_neg h25, if_neg h26, if_neg h27, if_neg h28, if_neg h29, if_neg h30, if_neg h31, if_neg h32, if_neg h33, if_neg h34]
theorem b232_26 {d L : Nat} {σ : St} {Q : Option AV → AW → Prop} {x3 : Int} {u1 u2 : AV} (h1 : 0 ≤ x3) (h2 : x3 < (L : Int)) : R d 232 26 [vR 0, u1, u2, vI x3] [] (WS L σ) Q = if (i_and (σ 0 x3) 63) = 0 then R d 232 188 [vR 0, u1, u2, vI x3] [] (WS L σ) Q else if (i_and (σ 0 x3) 63) = 1 then R d 232 231 [vR 0, u1, u2, vI x3] [] (WS L σ) Q else if (i_and (σ 0 x3) 63) = 2 then R d 232 264 [vR 0, u1, u2, vI x3] [] (WS L σ) Q else if (i_and (σ 0 x3) 63) = 3 then R d 232 287 [vR 0, u1, u2, vI x3] [] (WS L σ) Q else if (i_and (σ 0 x3) 63) = 4 then R d 232 350 [vR 0, u1, u2, vI x3] [] (WS L σ) Q else if (i_and (σ 0 x3) 63) = 5 then R d 232 363 [vR 0, u1, u2, vI x3] [] (WS L σ) Q else if (i_and (σ 0 x3) 63) = 6 then R d 232 396 [vR 0, u1, u2, vI x3] [] (WS L σ) Q else if (i_and (σ 0 x3) 63) = 7 then R d 232 429 [vR 0, u1, u2, vI x3] [] (WS L σ) Q else if (i_and (σ 0 x3) 63) = 8 then R d 232 452 [vR 0, u1, u2, vI x3] [] (WS L σ) Q else if (i_and (σ 0 x3) 63) = 9 then R d 232 475 [vR 0, u1, u2, vI x3] [] (WS L σ) Q else if (i_and (σ 0 x3) 63) = 10 then R d 232 498 [vR 0, u1, u2, vI x3] [] (WS L σ) Q else if (i_and (σ 0 x3) 63) = 11 then R d 232 531 [vR 0, u1, u2, vI x3] [] (WS L σ) Q else if (i_and (σ 0 x3) 63) = 12 then R d 232 564 [vR 0, u1, u2, vI x3] [] (WS L σ) Q else if (i_and (σ 0 x3) 63) = 13 then R d 232 597 [vR 0, u1, u2, vI x3] [] (WS L σ) Q else if (i_and (σ 0 x3) 63) = 14 then R d 232 620 [vR 0, u1, u2, vI x3] [] (WS L σ) Q else if (i_and (σ 0 x3) 63) = 15 then R d 232 643 [vR 0, u1, u2, vI x3] [] (WS L σ) Q else if (i_and (σ 0 x3) 63) = 16 then R d 232 682 [vR 0, u1, u2, vI x3] [] (WS L σ) Q else if (i_and (σ 0 x3) 63) = 17 then R d 232 695 [vR 0, u1, u2, vI x3] [] (WS L σ) Q else if (i_and (σ 0 x3) 63) = 18 then R d 232 718 [vR 0, u1, u2, vI x3] [] (WS L σ) Q else if (i_and (σ 0 x3) 63) = 19 then R d 232 741 [vR 0, u1, u2, vI x3] [] (WS L σ) Q else if (i_and (σ 0 x3) 63) = 20 then R d 232 764 [vR 0, u1, u2, vI x3] [] (WS L σ) Q else if (i_and (σ 0 x3) 63) = 21 then R d 232 787 [vR 0, u1, u2, vI x3] [] (WS L σ) Q else if (i_and (σ 0 x3) 63) = 22 then R d 232 800 [vR 0, u1, u2, vI x3] [] (WS L σ) Q else if (i_and (σ 0 x3) 63) = 23 then R d 232 823 [vR 0, u1, u2, vI x3] [] (WS L σ) Q else if (i_and (σ 0 x3) 63) = 24 then R d 232 866 [vR 0, u1, u2, vI x3] [] (WS L σ) Q else if (i_and (σ 0 x3) 63) = 25 then R d 232 909 [vR 0, u1, u2, vI x3] [] (WS L σ) Q else if (i_and (σ 0 x3) 63) = 26 then R d 232 942 [vR 0, u1, u2, vI x3] [] (WS L σ) Q else if (i_and (σ 0 x3) 63) = 27 then R d 232 985 [vR 0, u1, u2, vI x3] [] (WS L σ) Q else if (i_and (σ 0 x3) 63) = 28 then R d 232 1018 [vR 0, u1, u2, vI x3] [] (WS L σ) Q else if (i_and (σ 0 x3) 63) = 29 then R d 232 1041 [vR 0, u1, u2, vI x3] [] (WS L σ) Q else if (i_and (σ 0 x3) 63) = 30 then R d 232 1084 [vR 0, u1, u2, vI x3] [] (WS L σ) Q else if (i_and (σ 0 x3) 63) = 31 then R d 232 1107 [vR 0, u1, u2, vI x3] [] (WS L σ) Q else if (i_and (σ 0 x3) 63) = 32 then R d 232 1140 [vR 0, u1, u2, vI x3] [] (WS L σ) Q else if (i_and (σ 0 x3) 63) = 33 then R d 232 1153 [vR 0, u1, u2, vI x3] [] (WS L σ) Q else if (i_and (σ 0 x3) 63) = 34 then R d 232 1166 [vR 0, u1, u2, vI x3] [] (WS L σ) Q else R d 232 1189 [vR 0, u1, u2, vI x3] [] (WS L σ) Q := K_aload_n fi_232_26 rfl <| K_iload_n fi_232_27 rfl <| K_iascr fi_232_28 h1 h2 <| K_bipush fi_232_29 <| K_iand fi_232_31 <| sw232_26
theorem b232_188 {d L : Nat} {σ : St} {Q : Option AV → AW → Prop} {x3 : Int} {u2 : AV} (h1 : -2147483648 ≤ x3 + 1 ∧ x3 + 1 ≤ 2147483647) (h2 : 0 ≤ x3 + 1) (h3 : (x3 + 1) < (L : Int)) (h4 : -2147483648 ≤ x3 + 2 ∧ x3 + 2 ≤ 2147483647) (h5 : 0 ≤ x3 + 2) (h6 : (x3 + 2) < (L : Int)) (h7 : -2147483648 ≤ x3 + 3 ∧ x3 + 3 ≤ 2147483647) (h8 : 0 ≤ x3 + 3) (h9 : (x3 + 3) < (L : Int)) : R (d + 1) 232 188 [vR 0, vR 19, u2, vI x3] [] (WS L σ) Q = R d 12 0 [vR 19, vI (σ 0 (x3 + 1)), vI (σ 0 (x3 + 2)), vI (σ 0 (x3 + 3)), vX 9, vX 9] [] (WS L σ) (fun r w => R (d + 1) 232 207 [vR 0, vR 19, u2, vI x3] (am_push r []) w Q) := K_aload_n fi_232_188 rfl <| K_aload_n fi_232_189 rfl <| K_iload_n fi_232_190 rfl <| K_iconst fi_232_191 <| K_iaddx fi_232_192 h1 <| K_iascr fi_232_193 h2 h3 <| K_aload_n fi_232_194 rfl <| K_iload_n fi_232_195 rfl <| K_iconst fi_232_196 <| K_iaddx fi_232_197 h4 <| K_iascr fi_232_198 h5 h6 <| K_aload_n fi_232_199 rfl <| K_iload_n fi_232_200 rfl <| K_iconst fi_232_201 <| K_iaddx fi_232_202 h7 <| K_iascr fi_232_203 h8 h9 <| R_invV fi_232_204 (am_invV_of rfl (kd_19) (Nat.le_of_ble_eq_true rfl) (Nat.le_of_ble_eq_true rfl) rfl rfl)
theorem b232_207 {d L : Nat} {σ : St} {Q : Option AV → AW → Prop} {y0 x3 : Int} {u1 : AV} (h1 : -2147483648 ≤ x3 + 1 ∧ x3 + 1 ≤ 2147483647) (h2 : 0 ≤ x3 + 1) (h3 : (x3 + 1) < (L : Int)) (h4 : -2147483648 ≤ x3 + 2 ∧ x3 + 2 ≤ 2147483647) (h5 : 0 ≤ x3 + 2) (h6 : (x3 + 2) < (L : Int)) (h7 : -2147483648 ≤ x3 + 3 ∧ x3 + 3 ≤ 2147483647) (h8 : 0 ≤ x3 + 3) (h9 : (x3 + 3) < (L : Int)) : R (d + 1) 232 207 [vR 0, u1, vR 153, vI x3] [vI y0] (WS L σ) Q = R d 144 0 [vR 153, vI (σ 0 (x3 + 1)), vI (σ 0 (x3 + 2)), vI (σ 0 (x3 + 3)), vX 9] [] (WS L σ) (fun r w => R (d + 1) 232 226 [vR 0, u1, vR 153, vI x3] (am_push r [vI y0]) w Q) := K_aload_n fi_232_207 rfl <| K_aload_n fi_232_208 rfl <| K_iload_n fi_232_209 rfl <| K_iconst fi_232_210 <| K_iaddx fi_232_211 h1 <| K_iascr fi_232_212 h2 h3 <| K_aload_n fi_232_213 rfl <| K_iload_n fi_232_214 rfl <| K_iconst fi_232_215 <| K_iaddx fi_232_216 h4 <| K_iascr fi_232_217 h5 h6 <| K_aload_n fi_232_218 rfl <| K_iload_n fi_232_219 rfl <| K_iconst fi_232_220 <| K_iaddx fi_232_221 h7 <| K_iascr fi_232_222 h8 h9 <| R_invV fi_232_223 (am_invV_of rfl (kd_153) (Nat.le_of_ble_eq_true rfl) (Nat.le_of_ble_eq_true rfl) rfl rfl)
theorem b232_226 {d L : Nat} {σ : St} {Q : Option AV → AW → Prop} {y0 y1 : Int} {u0 u1 u2 u3 : AV} : R d 232 226 [u0, u1, u2, u3] [vI y0, vI y1] (WS L σ) Q = if y1 = y0 then R d 232 1189 [u0, u1, u2, u3] [] (WS L σ) Q else R d 232 229 [u0, u1, u2, u3] [] (WS L σ) Q := R_icmp_eq fi_232_226 rfl
theorem b232_229 {d L : Nat} {σ : St} {Q : Option AV → AW → Prop} {u0 u1 u2 u3 : AV} : R d 232 229 [u0, u1, u2, u3] [] (WS L σ) Q = Q (some (vI 0)) (WS L σ) := K_iconst fi_232_229 <| R_ireti fi_232_230 rfl
theorem b232_231 {d L : Nat} {σ : St} {Q : Option AV → AW → Prop} {x3 : Int} {u2 : AV} (h1 : -2147483648 ≤ x3 + 1 ∧ x3 + 1 ≤ 2147483647) (h2 : 0 ≤ x3 + 1) (h3 : (x3 + 1) < (L : Int)) (h4 : -2147483648 ≤ x3 + 2 ∧ x3 + 2 ≤ 2147483647) (h5 : 0 ≤ x3 + 2) (h6 : (x3 + 2) < (L : Int)) : R (d + 1) 232 231 [vR 0, vR 19, u2, vI x3] [] (WS L σ) Q = R d 44 0 [vR 19, vI (σ 0 (x3 + 1)), vI (σ 0 (x3 + 2)), vX 9] [] (WS L σ) (fun r w => R (d + 1) 232 245 [vR 0, vR 19, u2, vI x3] (am_push r []) w Q) := K_aload_n fi_232_231 rfl <| K_aload_n fi_232_232 rfl <| K_iload_n fi_232_233 rfl <| K_iconst fi_232_234 <| K_iaddx fi_232_235 h1 <| K_iascr fi_232_236 h2 h3 <| K_aload_n fi_232_237 rfl <| K_iload_n fi_232_238 rfl <| K_iconst fi_232_239 <| K_iaddx fi_232_240 h4 <| K_iascr fi_232_241 h5 h6 <| R_invV fi_232_242 (am_invV_of rfl (kd_19) (Nat.le_of_ble_eq_true rfl) (Nat.le_of_ble_eq_true rfl) rfl rfl)
theorem b232_245 {d L : Nat} {σ : St} {Q : Option AV → AW → Prop} {y0 x3 : Int} {u1 : AV} (h1 : -2147483648 ≤ x3 + 1 ∧ x3 + 1 ≤ 2147483647) (h2 : 0 ≤ x3 + 1) (h3 : (x3 + 1) < (L : Int)) (h4 : -2147483648 ≤ x3 + 2 ∧ x3 + 2 ≤ 2147483647) (h5 : 0 ≤ x3 + 2) (h6 : (x3 + 2) < (L : Int)) : R (d + 1) 232 245 [vR 0, u1, vR 153, vI x3] [vI y0] (WS L σ) Q = R d 146 0 [vR 153, vI (σ 0 (x3 + 1)), vI (σ 0 (x3 + 2))] [] (WS L σ) (fun r w => R (d + 1) 232 259 [vR 0, u1, vR 153, vI x3] (am_push r [vI y0]) w Q) := K_aload_n fi_232_245 rfl <| K_aload_n fi_232_246 rfl <| K_iload_n fi_232_247 rfl <| K_iconst fi_232_248 <| K_iaddx fi_232_249 h1 <| K_iascr fi_232_250 h2 h3 <| K_aload_n fi_232_251 rfl <| K_iload_n fi_232_252 rfl <| K_iconst fi_232_253 <| K_iaddx fi_232_254 h4 <| K_iascr fi_232_255 h5 h6 <| R_invV fi_232_256 (am_invV_of rfl (kd_153) (Nat.le_of_ble_eq_true rfl) (Nat.le_of_ble_eq_true rfl) rfl rfl)
theorem b232_259 {d L : Nat} {σ : St} {Q : Option AV → AW → Prop} {y0 y1 : Int} {u0 u1 u2 u3 : AV} : R d 232 259 [u0, u1, u2, u3] [vI y0, vI y1] (WS L σ) Q = if y1 = y0 then R d 232 1189 [u0, u1, u2, u3] [] (WS L σ) Q else R d 232 262 [u0, u1, u2, u3] [] (WS L σ) Q := R_icmp_eq fi_232_259 rfl
theorem b232_262 {d L : Nat} {σ : St} {Q : Option AV → AW → Prop} {u0 u1 u2 u3 : AV} : R d 232 262 [u0, u1, u2, u3] [] (WS L σ) Q = Q (some (vI 0)) (WS L σ) := K_iconst fi_232_262 <| R_ireti fi_232_263 rfl
theorem b232_264 {d L : Nat} {σ : St} {Q : Option AV → AW → Prop} {x3 : Int} {u2 : AV} (h1 : -2147483648 ≤ x3 + 1 ∧ x3 + 1 ≤ 2147483647) (h2 : 0 ≤ x3 + 1) (h3 : (x3 + 1) < (L : Int)) : R (d + 1) 232 264 [vR 0, vR 19, u2, vI x3] [] (WS L σ) Q = R d 45 0 [vR 19, vI (σ 0 (x3 + 1)), vX 9] [] (WS L σ) (fun r w => R (d + 1) 232 273 [vR 0, vR 19, u2, vI x3] (am_push r []) w Q) := K_aload_n fi_232_264 rfl <| K_aload_n fi_232_265 rfl <| K_iload_n fi_232_266 rfl <| K_iconst fi_232_267 <| K_iaddx fi_232_268 h1 <| K_iascr fi_232_269 h2 h3 <| R_invV fi_232_270 (am_invV_of rfl (kd_19) (Nat.le_of_ble_eq_true rfl) (Nat.le_of_ble_eq_true rfl) rfl rfl)
theorem b232_273 {d L : Nat} {σ : St} {Q : Option AV → AW → Prop} {y0 x3 : Int} {u1 : AV} (h1 : -2147483648 ≤ x3 + 1 ∧ x3 + 1 ≤ 2147483647) (h2 : 0 ≤ x3 + 1) (h3 : (x3 + 1) < (L : Int)) : R (d + 1) 232 273 [vR 0, u1, vR 153, vI x3] [vI y0] (WS L σ) Q = R d 148 0 [vR 153, vI (σ 0 (x3 + 1)), vX 9] [] (WS L σ) (fun r w => R (d + 1) 232 282 [vR 0, u1, vR 153, vI x3] (am_push r [vI y0]) w Q) := K_aload_n fi_232_273 rfl <| K_aload_n fi_232_274 rfl <| K_iload_n fi_232_275 rfl <| K_iconst fi_232_276 <| K_iaddx fi_232_277 h1 <| K_iascr fi_232_278 h2 h3 <| R_invV fi_232_279 (am_invV_of rfl (kd_153) (Nat.le_of_ble_eq_true rfl) (Nat.le_of_ble_eq_true rfl) rfl rfl)
theorem b232_282 {d L : Nat} {σ : St} {Q : Option AV → AW → Prop} {y0 y1 : Int} {u0 u1 u2 u3 : AV} : R d 232 282 [u0, u1, u2, u3] [vI y0, vI y1] (WS L σ) Q = if y1 = y0 then R d 232 1189 [u0, u1, u2, u3] [] (WS L σ) Q else R d 232 285 [u0, u1, u2, u3] [] (WS L σ) Q := R_icmp_eq fi_232_282 rfl
theorem b232_285 {d L : Nat} {σ : St} {Q : Option AV → AW → Prop} {u0 u1 u2 u3 : AV} : R d 232 285 [u0, u1, u2, u3] [] (WS L σ) Q = Q (some (vI 0)) (WS L σ) := K_iconst fi_232_285 <| R_ireti fi_232_286 rfl
theorem b232_287 {d L : Nat} {σ : St} {Q : Option AV → AW → Prop} {x3 : Int} {u2 : AV} (h1 : -2147483648 ≤ x3 + 1 ∧ x3 + 1 ≤ 2147483647) (h2 : 0 ≤ x3 + 1) (h3 : (x3 + 1) < (L : Int)) (h4 : -2147483648 ≤ x3 + 2 ∧ x3 + 2 ≤ 2147483647) (h5 : 0 ≤ x3 + 2) (h6 : (x3 + 2) < (L : Int)) (h7 : -2147483648 ≤ x3 + 3 ∧ x3 + 3 ≤ 2147483647) (h8 : 0 ≤ x3 + 3) (h9 : (x3 + 3) < (L : Int)) : R (d + 1) 232 287 [vR 0, vR 19, u2, vI x3] [] (WS L σ) Q = R d 47 0 [vR 19, vL ((l_shl (i_l (σ 0 (x3 + 1))) 32) ||| ((i_l (σ 0 (x3 + 2))) &&& (Int64.ofInt 4294967295))), vX 9, vI (σ 0 (x3 + 3)), vX 9] [] (WS L σ) (fun r w => R (d + 1) 232 316 [vR 0, vR 19, u2, vI x3] (am_push r []) w Q) := K_aload_n fi_232_287 rfl <| K_aload_n fi_232_288 rfl <| K_iload_n fi_232_289 rfl <| K_iconst fi_232_290 <| K_iaddx fi_232_291 h1 <| K_iascr fi_232_292 h2 h3 <| K_i2l fi_232_293 <| K_bipush fi_232_294 <| K_lshl fi_232_296 <| K_aload_n fi_232_297 rfl <| K_iload_n fi_232_298 rfl <| K_iconst fi_232_299 <| K_iaddx fi_232_300 h4 <| K_iascr fi_232_301 h5 h6 <| K_i2l fi_232_302 <| K_ldc2 fi_232_303 <| K_land fi_232_306 <| K_lor fi_232_307 <| K_aload_n fi_232_308 rfl <| K_iload_n fi_232_309 rfl <| K_iconst fi_232_310 <| K_iaddx fi_232_311 h7 <| K_iascr fi_232_312 h8 h9 <| R_invV fi_232_313 (am_invV_of rfl (kd_19) (Nat.le_of_ble_eq_true rfl) (Nat.le_of_ble_eq_true rfl) rfl rfl)
theorem b232_316 {d L : Nat} {σ : St} {Q : Option AV → AW → Prop} {y0 x3 : Int} {u1 : AV} (h1 : -2147483648 ≤ x3 + 1 ∧ x3 + 1 ≤ 2147483647) (h2 : 0 ≤ x3 + 1) (h3 : (x3 + 1) < (L : Int)) (h4 : -2147483648 ≤ x3 + 2 ∧ x3 + 2 ≤ 2147483647) (h5 : 0 ≤ x3 + 2) (h6 : (x3 + 2) < (L : Int)) (h7 : -2147483648 ≤ x3 + 3 ∧ x3 + 3 ≤ 2147483647) (h8 : 0 ≤ x3 + 3) (h9 : (x3 + 3) < (L : Int)) : R (d + 1) 232 316 [vR 0, u1, vR 153, vI x3] [vI y0] (WS L σ) Q = R d 150 0 [vR 153, vL ((l_shl (i_l (σ 0 (x3 + 1))) 32) ||| ((i_l (σ 0 (x3 + 2))) &&& (Int64.ofInt 4294967295))), vX 9, vI (σ 0 (x3 + 3)), vX 9] [] (WS L σ) (fun r w => R (d + 1) 232 345 [vR 0, u1, vR 153, vI x3] (am_push r [vI y0]) w Q) := K_aload_n fi_232_316 rfl <| K_aload_n fi_232_317 rfl <| K_iload_n fi_232_318 rfl <| K_iconst fi_232_319 <| K_iaddx fi_232_320 h1 <| K_iascr fi_232_321 h2 h3 <| K_i2l fi_232_322 <| K_bipush fi_232_323 <| K_lshl fi_232_325 <| K_aload_n fi_232_326 rfl <| K_iload_n fi_232_327 rfl <| K_iconst fi_232_328 <| K_iaddx fi_232_329 h4 <| K_iascr fi_232_330 h5 h6 <| K_i2l fi_232_331 <| K_ldc2 fi_232_332 <| K_land fi_232_335 <| K_lor fi_232_336 <| K_aload_n fi_232_337 rfl <| K_iload_n fi_232_338 rfl <| K_iconst fi_232_339 <| K_iaddx fi_232_340 h7 <| K_iascr fi_232_341 h8 h9 <| R_invV fi_232_342 (am_invV_of rfl (kd_153) (Nat.le_of_ble_eq_true rfl) (Nat.le_of_ble_eq_true rfl) rfl rfl)
theorem b232_345 {d L : Nat} {σ : St} {Q : Option AV → AW → Prop} {y0 y1 : Int} {u0 u1 u2 u3 : AV} : R d 232 345 [u0, u1, u2, u3] [vI y0, vI y1] (WS L σ) Q = if y1 = y0 then R d 232 1189 [u0, u1, u2, u3] [] (WS L σ) Q else R d 232 348 [u0, u1, u2, u3] [] (WS L σ) Q := R_icmp_eq fi_232_345 rfl
theorem b232_348 {d L : Nat} {σ : St} {Q : Option AV → AW → Prop} {u0 u1 u2 u3 : AV} : R d 232 348 [u0, u1, u2, u3] [] (WS L σ) Q = Q (some (vI 0)) (WS L σ) := K_iconst fi_232_348 <| R_ireti fi_232_349 rfl
theorem b232_350 {d L : Nat} {σ : St} {Q : Option AV → AW → Prop} {u0 u2 u3 : AV} : R (d + 1) 232 350 [u0, vR 19, u2, u3] [] (WS L σ) Q = R d 49 0 [vR 19, vX 9, vX 9] [] (WS L σ) (fun r w => R (d + 1) 232 354 [u0, vR 19, u2, u3] (am_push r []) w Q) := K_aload_n fi_232_350 rfl <| R_invV fi_232_351 (am_invV_of rfl (kd_19) (Nat.le_of_ble_eq_true rfl) (Nat.le_of_ble_eq_true rfl) rfl rfl)
theorem b232_354 {d L : Nat} {σ : St} {Q : Option AV → AW → Prop} {y0 : Int} {u0 u1 u3 : AV} : R (d + 1) 232 354 [u0, u1, vR 153, u3] [vI y0] (WS L σ) Q = R d 151 0 [vR 153, vX 9] [] (WS L σ) (fun r w => R (d + 1) 232 358 [u0, u1, vR 153, u3] (am_push r [vI y0]) w Q) := K_aload_n fi_232_354 rfl <| R_invV fi_232_355 (am_invV_of rfl (kd_153) (Nat.le_of_ble_eq_true rfl) (Nat.le_of_ble_eq_true rfl) rfl rfl)
theorem b232_358 {d L : Nat} {σ : St} {Q : Option AV → AW → Prop} {y0 y1 : Int} {u0 u1 u2 u3 : AV} : R d 232 358 [u0, u1, u2, u3] [vI y0, vI y1] (WS L σ) Q = if y1 = y0 then R d 232 1189 [u0, u1, u2, u3] [] (WS L σ) Q else R d 232 361 [u0, u1, u2, u3] [] (WS L σ) Q := R_icmp_eq fi_232_358 rfl
theorem b232_361 {d L : Nat} {σ : St} {Q : Option AV → AW → Prop} {u0 u1 u2 u3 : AV} : R d 232 361 [u0, u1, u2, u3] [] (WS L σ) Q = Q (some (vI 0)) (WS L σ) := K_iconst fi_232_361 <| R_ireti fi_232_362 rfl
theorem b232_363 {d L : Nat} {σ : St} {Q : Option AV → AW → Prop} {x3 : Int} {u2 : AV} (h1 : -2147483648 ≤ x3 + 1 ∧ x3 + 1 ≤ 2147483647) (h2 : 0 ≤ x3 + 1) (h3 : (x3 + 1) < (L : Int)) (h4 : -2147483648 ≤ x3 + 2 ∧ x3 + 2 ≤ 2147483647) (h5 : 0 ≤ x3 + 2) (h6 : (x3 + 2) < (L : Int)) : R (d + 1) 232 363 [vR 0, vR 19, u2, vI x3] [] (WS L σ) Q = R d 54 0 [vR 19, vI (σ 0 (x3 + 1)), vI (σ 0 (x3 + 2)), vX 9] [] (WS L σ) (fun r w => R (d + 1) 232 377 [vR 0, vR 19, u2, vI x3] (am_push r []) w Q) := K_aload_n fi_232_363 rfl <| K_aload_n fi_232_364 rfl <| K_iload_n fi_232_365 rfl <| K_iconst fi_232_366 <| K_iaddx fi_232_367 h1 <| K_iascr fi_232_368 h2 h3 <| K_aload_n fi_232_369 rfl <| K_iload_n fi_232_370 rfl <| K_iconst fi_232_371 <| K_iaddx fi_232_372 h4 <| K_iascr fi_232_373 h5 h6 <| R_invV fi_232_374 (am_invV_of rfl (kd_19) (Nat.le_of_ble_eq_true rfl) (Nat.le_of_ble_eq_true rfl) rfl rfl)
theorem b232_377 {d L : Nat} {σ : St} {Q : Option AV → AW → Prop} {y0 x3 : Int} {u1 : AV} (h1 : -2147483648 ≤ x3 + 1 ∧ x3 + 1 ≤ 2147483647) (h2 : 0 ≤ x3 + 1) (h3 : (x3 + 1) < (L : Int)) (h4 : -2147483648 ≤ x3 + 2 ∧ x3 + 2 ≤ 2147483647) (h5 : 0 ≤ x3 + 2) (h6 : (x3 + 2) < (L : Int)) : R (d + 1) 232 377 [vR 0, u1, vR 153, vI x3] [vI y0] (WS L σ) Q = R d 166 0 [vR 153, vI (σ 0 (x3 + 1)), vI (σ 0 (x3 + 2)), vX 9] [] (WS L σ) (fun r w => R (d + 1) 232 391 [vR 0, u1, vR 153, vI x3] (am_push r [vI y0]) w Q) := K_aload_n fi_232_377 rfl <| K_aload_n fi_232_378 rfl <| K_iload_n fi_232_379 rfl <| K_iconst fi_232_380 <| K_iaddx fi_232_381 h1 <| K_iascr fi_232_382 h2 h3 <| K_aload_n fi_232_383 rfl <| K_iload_n fi_232_384 rfl <| K_iconst fi_232_385 <| K_iaddx fi_232_386 h4 <| K_iascr fi_232_387 h5 h6 <| R_invV fi_232_388 (am_invV_of rfl (kd_153) (Nat.le_of_ble_eq_true rfl) (Nat.le_of_ble_eq_true rfl) rfl rfl)
theorem b232_391 {d L : Nat} {σ : St} {Q : Option AV → AW → Prop} {y0 y1 : Int} {u0 u1 u2 u3 : AV} : R d 232 391 [u0, u1, u2, u3] [vI y0, vI y1] (WS L σ) Q = if y1 = y0 then R d 232 1189 [u0, u1, u2, u3] [] (WS L σ) Q else R d 232 394 [u0, u1, u2, u3] [] (WS L σ) Q := R_icmp_eq fi_232_391 rfl
theorem b232_394 {d L : Nat} {σ : St} {Q : Option AV → AW → Prop} {u0 u1 u2 u3 : AV} : R d 232 394 [u0, u1, u2, u3] [] (WS L σ) Q = Q (some (vI 0)) (WS L σ) := K_iconst fi_232_394 <| R_ireti fi_232_395 rfl
theorem b232_396 {d L : Nat} {σ : St} {Q : Option AV → AW → Prop} {x3 : Int} {u2 : AV} (h1 : -2147483648 ≤ x3 + 1 ∧ x3 + 1 ≤ 2147483647) (h2 : 0 ≤ x3 + 1) (h3 : (x3 + 1) < (L : Int)) (h4 : -2147483648 ≤ x3 + 2 ∧ x3 + 2 ≤ 2147483647) (h5 : 0 ≤ x3 + 2) (h6 : (x3 + 2) < (L : Int)) : R (d + 1) 232 396 [vR 0, vR 19, u2, vI x3] [] (WS L σ) Q = R d 56 0 [vR 19, vI (σ 0 (x3 + 1)), vI (σ 0 (x3 + 2))] [] (WS L σ) (fun r w => R (d + 1) 232 410 [vR 0, vR 19, u2, vI x3] (am_push r []) w Q) := K_aload_n fi_232_396 rfl <| K_aload_n fi_232_397 rfl <| K_iload_n fi_232_398 rfl <| K_iconst fi_232_399 <| K_iaddx fi_232_400 h1 <| K_iascr fi_232_401 h2 h3 <| K_aload_n fi_232_402 rfl <| K_iload_n fi_232_403 rfl <| K_iconst fi_232_404 <| K_iaddx fi_232_405 h4 <| K_iascr fi_232_406 h5 h6 <| R_invV fi_232_407 (am_invV_of rfl (kd_19) (Nat.le_of_ble_eq_true rfl) (Nat.le_of_ble_eq_true rfl) rfl rfl)
theorem b232_410 {d L : Nat} {σ : St} {Q : Option AV → AW → Prop} {y0 x3 : Int} {u1 : AV} (h1 : -2147483648 ≤ x3 + 1 ∧ x3 + 1 ≤ 2147483647) (h2 : 0 ≤ x3 + 1) (h3 : (x3 + 1) < (L : Int)) (h4 : -2147483648 ≤ x3 + 2 ∧ x3 + 2 ≤ 2147483647) (h5 : 0 ≤ x3 + 2) (h6 : (x3 + 2) < (L : Int)) : R (d + 1) 232 410 [vR 0, u1, vR 153, vI x3] [vI y0] (WS L σ) Q = R d 168 0 [vR 153, vI (σ 0 (x3 + 1)), vI (σ 0 (x3 + 2))] [] (WS L σ) (fun r w => R (d + 1) 232 424 [vR 0, u1, vR 153, vI x3] (am_push r [vI y0]) w Q) := K_aload_n fi_232_410 rfl <| K_aload_n fi_232_411 rfl <| K_iload_n fi_232_412 rfl <| K_iconst fi_232_413 <| K_iaddx fi_232_414 h1 <| K_iascr fi_232_415 h2 h3 <| K_aload_n fi_232_416 rfl <| K_iload_n fi_232_417 rfl <| K_iconst fi_232_418 <| K_iaddx fi_232_419 h4 <| K_iascr fi_232_420 h5 h6 <| R_invV fi_232_421 (am_invV_of rfl (kd_153) (Nat.le_of_ble_eq_true rfl) (Nat.le_of_ble_eq_true rfl) rfl rfl)
theorem b232_424 {d L : Nat} {σ : St} {Q : Option AV → AW → Prop} {y0 y1 : Int} {u0 u1 u2 u3 : AV} : R d 232 424 [u0, u1, u2, u3] [vI y0, vI y1] (WS L σ) Q = if y1 = y0 then R d 232 1189 [u0, u1, u2, u3] [] (WS L σ) Q else R d 232 427 [u0, u1, u2, u3] [] (WS L σ) Q := R_icmp_eq fi_232_424 rfl
theorem b232_427 {d L : Nat} {σ : St} {Q : Option AV → AW → Prop} {u0 u1 u2 u3 : AV} : R d 232 427 [u0, u1, u2, u3] [] (WS L σ) Q = Q (some (vI 0)) (WS L σ) := K_iconst fi_232_427 <| R_ireti fi_232_428 rfl
theorem b232_429 {d L : Nat} {σ : St} {Q : Option AV → AW → Prop} {x3 : Int} {u2 : AV} (h1 : -2147483648 ≤ x3 + 1 ∧ x3 + 1 ≤ 2147483647) (h2 : 0 ≤ x3 + 1) (h3 : (x3 + 1) < (L : Int)) : R (d + 1) 232 429 [vR 0, vR 19, u2, vI x3] [] (WS L σ) Q = R d 58 0 [vR 19, vI (σ 0 (x3 + 1)), vX 9] [] (WS L σ) (fun r w => R (d + 1) 232 438 [vR 0, vR 19, u2, vI x3] (am_push r []) w Q) := K_aload_n fi_232_429 rfl <| K_aload_n fi_232_430 rfl <| K_iload_n fi_232_431 rfl <| K_iconst fi_232_432 <| K_iaddx fi_232_433 h1 <| K_iascr fi_232_434 h2 h3 <| R_invV fi_232_435 (am_invV_of rfl (kd_19) (Nat.le_of_ble_eq_true rfl) (Nat.le_of_ble_eq_true rfl) rfl rfl)
theorem b232_438 {d L : Nat} {σ : St} {Q : Option AV → AW → Prop} {y0 x3 : Int} {u1 : AV} (h1 : -2147483648 ≤ x3 + 1 ∧ x3 + 1 ≤ 2147483647) (h2 : 0 ≤ x3 + 1) (h3 : (x3 + 1) < (L : Int)) : R (d + 1) 232 438 [vR 0, u1, vR 153, vI x3] [vI y0] (WS L σ) Q = R d 172 0 [vR 153, vI (σ 0 (x3 + 1)), vX 9] [] (WS L σ) (fun r w => R (d + 1) 232 447 [vR 0, u1, vR 153, vI x3] (am_push r [vI y0]) w Q) := K_aload_n fi_232_438 rfl <| K_aload_n fi_232_439 rfl <| K_iload_n fi_232_440 rfl <| K_iconst fi_232_441 <| K_iaddx fi_232_442 h1 <| K_iascr fi_232_443 h2 h3 <| R_invV fi_232_444 (am_invV_of rfl (kd_153) (Nat.le_of_ble_eq_true rfl) (Nat.le_of_ble_eq_true rfl) rfl rfl)
theorem b232_447 {d L : Nat} {σ : St} {Q : Option AV → AW → Prop} {y0 y1 : Int} {u0 u1 u2 u3 : AV} : R d 232 447 [u0, u1, u2, u3] [vI y0, vI y1] (WS L σ) Q = if y1 = y0 then R d 232 1189 [u0, u1, u2, u3] [] (WS L σ) Q else R d 232 450 [u0, u1, u2, u3] [] (WS L σ) Q := R_icmp_eq fi_232_447 rfl
theorem b232_450 {d L : Nat} {σ : St} {Q : Option AV → AW → Prop} {u0 u1 u2 u3 : AV} : R d 232 450 [u0, u1, u2, u3] [] (WS L σ) Q = Q (some (vI 0)) (WS L σ) := K_iconst fi_232_450 <| R_ireti fi_232_451 rfl
theorem b232_452 {d L : Nat} {σ : St} {Q : Option AV → AW → Prop} {x3 : Int} {u2 : AV} (h1 : -2147483648 ≤ x3 + 1 ∧ x3 + 1 ≤ 2147483647) (h2 : 0 ≤ x3 + 1) (h3 : (x3 + 1) < (L : Int)) : R (d + 1) 232 452 [vR 0, vR 19, u2, vI x3] [] (WS L σ) Q = R d 59 0 [vR 19, vI (σ 0 (x3 + 1))] [] (WS L σ) (fun r w => R (d + 1) 232 461 [vR 0, vR 19, u2, vI x3] (am_push r []) w Q) := K_aload_n fi_232_452 rfl <| K_aload_n fi_232_453 rfl <| K_iload_n fi_232_454 rfl <| K_iconst fi_232_455 <| K_iaddx fi_232_456 h1 <| K_iascr fi_232_457 h2 h3 <| R_invV fi_232_458 (am_invV_of rfl (kd_19) (Nat.le_of_ble_eq_true rfl) (Nat.le_of_ble_eq_true rfl) rfl rfl)
theorem b232_461 {d L : Nat} {σ : St} {Q : Option AV → AW → Prop} {y0 x3 : Int} {u1 : AV} (h1 : -2147483648 ≤ x3 + 1 ∧ x3 + 1 ≤ 2147483647) (h2 : 0 ≤ x3 + 1) (h3 : (x3 + 1) < (L : Int)) : R (d + 1) 232 461 [vR 0, u1, vR 153, vI x3] [vI y0] (WS L σ) Q = R d 173 0 [vR 153, vI (σ 0 (x3 + 1))] [] (WS L σ) (fun r w => R (d + 1) 232 470 [vR 0, u1, vR 153, vI x3] (am_push r [vI y0]) w Q) := K_aload_n fi_232_461 rfl <| K_aload_n fi_232_462 rfl <| K_iload_n fi_232_463 rfl <| K_iconst fi_232_464 <| K_iaddx fi_232_465 h1 <| K_iascr fi_232_466 h2 h3 <| R_invV fi_232_467 (am_invV_of rfl (kd_153) (Nat.le_of_ble_eq_true rfl) (Nat.le_of_ble_eq_true rfl) rfl rfl)
theorem b232_470 {d L : Nat} {σ : St} {Q : Option AV → AW → Prop} {y0 y1 : Int} {u0 u1 u2 u3 : AV} : R d 232 470 [u0, u1, u2, u3] [vI y0, vI y1] (WS L σ) Q = if y1 = y0 then R d 232 1189 [u0, u1, u2, u3] [] (WS L σ) Q else R d 232 473 [u0, u1, u2, u3] [] (WS L σ) Q := R_icmp_eq fi_232_470 rfl
theorem b232_473 {d L : Nat} {σ : St} {Q : Option AV → AW → Prop} {u0 u1 u2 u3 : AV} : R d 232 473 [u0, u1, u2, u3] [] (WS L σ) Q = Q (some (vI 0)) (WS L σ) := K_iconst fi_232_473 <| R_ireti fi_232_474 rfl
theorem b232_475 {d L : Nat} {σ : St} {Q : Option AV → AW → Prop} {x3 : Int} {u2 : AV} (h1 : -2147483648 ≤ x3 + 1 ∧ x3 + 1 ≤ 2147483647) (h2 : 0 ≤ x3 + 1) (h3 : (x3 + 1) < (L : Int)) : R (d + 1) 232 475 [vR 0, vR 19, u2, vI x3] [] (WS L σ) Q = R d 62 0 [vR 19, vI (σ 0 (x3 + 1))] [] (WS L σ) (fun r w => R (d + 1) 232 484 [vR 0, vR 19, u2, vI x3] (am_push r []) w Q) := K_aload_n fi_232_475 rfl <| K_aload_n fi_232_476 rfl <| K_iload_n fi_232_477 rfl <| K_iconst fi_232_478 <| K_iaddx fi_232_479 h1 <| K_iascr fi_232_480 h2 h3 <| R_invV fi_232_481 (am_invV_of rfl (kd_19) (Nat.le_of_ble_eq_true rfl) (Nat.le_of_ble_eq_true rfl) rfl rfl)
theorem b232_484 {d L : Nat} {σ : St} {Q : Option AV → AW → Prop} {y0 x3 : Int} {u1 : AV} (h1 : -2147483648 ≤ x3 + 1 ∧ x3 + 1 ≤ 2147483647) (h2 : 0 ≤ x3 + 1) (h3 : (x3 + 1) < (L : Int)) : R (d + 1) 232 484 [vR 0, u1, vR 153, vI x3] [vI y0] (WS L σ) Q = R d 174 0 [vR 153, vI (σ 0 (x3 + 1))] [] (WS L σ) (fun r w => R (d + 1) 232 493 [vR 0, u1, vR 153, vI x3] (am_push r [vI y0]) w Q) := K_aload_n fi_232_484 rfl <| K_aload_n fi_232_485 rfl <| K_iload_n fi_232_486 rfl <| K_iconst fi_232_487 <| K_iaddx fi_232_488 h1 <| K_iascr fi_232_489 h2 h3 <| R_invV fi_232_490 (am_invV_of rfl (kd_153) (Nat.le_of_ble_eq_true rfl) (Nat.le_of_ble_eq_true rfl) rfl rfl)
theorem b232_493 {d L : Nat} {σ : St} {Q : Option AV → AW → Prop} {y0 y1 : Int} {u0 u1 u2 u3 : AV} : R d 232 493 [u0, u1, u2, u3] [vI y0, vI y1] (WS L σ) Q = if y1 = y0 then R d 232 1189 [u0, u1, u2, u3] [] (WS L σ) Q else R d 232 496 [u0, u1, u2, u3] [] (WS L σ) Q := R_icmp_eq fi_232_493 rfl
theorem b232_496 {d L : Nat} {σ : St} {Q : Option AV → AW → Prop} {u0 u1 u2 u3 : AV} : R d 232 496 [u0, u1, u2, u3] [] (WS L σ) Q = Q (some (vI 0)) (WS L σ) := K_iconst fi_232_496 <| R_ireti fi_232_497 rfl
theorem b232_498 {d L : Nat} {σ : St} {Q : Option AV → AW → Prop} {x3 : Int} {u2 : AV} (h1 : -2147483648 ≤ x3 + 1 ∧ x3 + 1 ≤ 2147483647) (h2 : 0 ≤ x3 + 1) (h3 : (x3 + 1) < (L : Int)) (h4 : -2147483648 ≤ x3 + 2 ∧ x3 + 2 ≤ 2147483647) (h5 : 0 ≤ x3 + 2) (h6 : (x3 + 2) < (L : Int)) : R (d + 1) 232 498 [vR 0, vR 19, u2, vI x3] [] (WS L σ) Q = R d 65 0 [vR 19, vI (σ 0 (x3 + 1)), vI (σ 0 (x3 + 2)), vX 9] [] (WS L σ) (fun r w => R (d + 1) 232 512 [vR 0, vR 19, u2, vI x3] (am_push r []) w Q) := K_aload_n fi_232_498 rfl <| K_aload_n fi_232_499 rfl <| K_iload_n fi_232_500 rfl <| K_iconst fi_232_501 <| K_iaddx fi_232_502 h1 <| K_iascr fi_232_503 h2 h3 <| K_aload_n fi_232_504 rfl <| K_iload_n fi_232_505 rfl <| K_iconst fi_232_506 <| K_iaddx fi_232_507 h4 <| K_iascr fi_232_508 h5 h6 <| R_invV fi_232_509 (am_invV_of rfl (kd_19) (Nat.le_of_ble_eq_true rfl) (Nat.le_of_ble_eq_true rfl) rfl rfl)
theorem b232_512 {d L : Nat} {σ : St} {Q : Option AV → AW → Prop} {y0 x3 : Int} {u1 : AV} (h1 : -2147483648 ≤ x3 + 1 ∧ x3 + 1 ≤ 2147483647) (h2 : 0 ≤ x3 + 1) (h3 : (x3 + 1) < (L : Int)) (h4 : -2147483648 ≤ x3 + 2 ∧ x3 + 2 ≤ 2147483647) (h5 : 0 ≤ x3 + 2) (h6 : (x3 + 2) < (L : Int)) : R (d + 1) 232 512 [vR 0, u1, vR 153, vI x3] [vI y0] (WS L σ) Q = R d 176 0 [vR 153, vI (σ 0 (x3 + 1)), vI (σ 0 (x3 + 2)), vX 9] [] (WS L σ) (fun r w => R (d + 1) 232 526 [vR 0, u1, vR 153, vI x3] (am_push r [vI y0]) w Q) := K_aload_n fi_232_512 rfl <| K_aload_n fi_232_513 rfl <| K_iload_n fi_232_514 rfl <| K_iconst fi_232_515 <| K_iaddx fi_232_516 h1 <| K_iascr fi_232_517 h2 h3 <| K_aload_n fi_232_518 rfl <| K_iload_n fi_232_519 rfl <| K_iconst fi_232_520 <| K_iaddx fi_232_521 h4 <| K_iascr fi_232_522 h5 h6 <| R_invV fi_232_523 (am_invV_of rfl (kd_153) (Nat.le_of_ble_eq_true rfl) (Nat.le_of_ble_eq_true rfl) rfl rfl)
theorem b232_526 {d L : Nat} {σ : St} {Q : Option AV → AW → Prop} {y0 y1 : Int} {u0 u1 u2 u3 : AV} : R d 232 526 [u0, u1, u2, u3] [vI y0, vI y1] (WS L σ) Q = if y1 = y0 then R d 232 1189 [u0, u1, u2, u3] [] (WS L σ) Q else R d 232 529 [u0, u1, u2, u3] [] (WS L σ) Q := R_icmp_eq fi_232_526 rfl
theorem b232_529 {d L : Nat} {σ : St} {Q : Option AV → AW → Prop} {u0 u1 u2 u3 : AV} : R d 232 529 [u0, u1, u2, u3] [] (WS L σ) Q = Q (some (vI 0)) (WS L σ) := K_iconst fi_232_529 <| R_ireti fi_232_530 rfl
theorem b232_531 {d L : Nat} {σ : St} {Q : Option AV → AW → Prop} {x3 : Int} {u2 : AV} (h1 : -2147483648 ≤ x3 + 1 ∧ x3 + 1 ≤ 2147483647) (h2 : 0 ≤ x3 + 1) (h3 : (x3 + 1) < (L : Int)) (h4 : -2147483648 ≤ x3 + 2 ∧ x3 + 2 ≤ 2147483647) (h5 : 0 ≤ x3 + 2) (h6 : (x3 + 2) < (L : Int)) : R (d + 1) 232 531 [vR 0, vR 19, u2, vI x3] [] (WS L σ) Q = R d 68 0 [vR 19, vI (σ 0 (x3 + 1)), vI (σ 0 (x3 + 2))] [] (WS L σ) (fun r w => R (d + 1) 232 545 [vR 0, vR 19, u2, vI x3] (am_push r []) w Q) := K_aload_n fi_232_531 rfl <| K_aload_n fi_232_532 rfl <| K_iload_n fi_232_533 rfl <| K_iconst fi_232_534 <| K_iaddx fi_232_535 h1 <| K_iascr fi_232_536 h2 h3 <| K_aload_n fi_232_537 rfl <| K_iload_n fi_232_538 rfl <| K_iconst fi_232_539 <| K_iaddx fi_232_540 h4 <| K_iascr fi_232_541 h5 h6 <| R_invV fi_232_542 (am_invV_of rfl (kd_19) (Nat.le_of_ble_eq_true rfl) (Nat.le_of_ble_eq_true rfl) rfl rfl)
theorem b232_545 {d L : Nat} {σ : St} {Q : Option AV → AW → Prop} {y0 x3 : Int} {u1 : AV} (h1 : -2147483648 ≤ x3 + 1 ∧ x3 + 1 ≤ 2147483647) (h2 : 0 ≤ x3 + 1) (h3 : (x3 + 1) < (L : Int)) (h4 : -2147483648 ≤ x3 + 2 ∧ x3 + 2 ≤ 2147483647) (h5 : 0 ≤ x3 + 2) (h6 : (x3 + 2) < (L : Int)) : R (d + 1) 232 545 [vR 0, u1, vR 153, vI x3] [vI y0] (WS L σ) Q = R d 177 0 [vR 153, vI (σ 0 (x3 + 1)), vI (σ 0 (x3 + 2))] [] (WS L σ) (fun r w => R (d + 1) 232 559 [vR 0, u1, vR 153, vI x3] (am_push r [vI y0]) w Q) := K_aload_n fi_232_545 rfl <| K_aload_n fi_232_546 rfl <| K_iload_n fi_232_547 rfl <| K_iconst fi_232_548 <| K_iaddx fi_232_549 h1 <| K_iascr fi_232_550 h2 h3 <| K_aload_n fi_232_551 rfl <| K_iload_n fi_232_552 rfl <| K_iconst fi_232_553 <| K_iaddx fi_232_554 h4 <| K_iascr fi_232_555 h5 h6 <| R_invV fi_232_556 (am_invV_of rfl (kd_153) (Nat.le_of_ble_eq_true rfl) (Nat.le_of_ble_eq_true rfl) rfl rfl)
theorem b232_559 {d L : Nat} {σ : St} {Q : Option AV → AW → Prop} {y0 y1 : Int} {u0 u1 u2 u3 : AV} : R d 232 559 [u0, u1, u2, u3] [vI y0, vI y1] (WS L σ) Q = if y1 = y0 then R d 232 1189 [u0, u1, u2, u3] [] (WS L σ) Q else R d 232 562 [u0, u1, u2, u3] [] (WS L σ) Q := R_icmp_eq fi_232_559 rfl
theorem b232_562 {d L : Nat} {σ : St} {Q : Option AV → AW → Prop} {u0 u1 u2 u3 : AV} : R d 232 562 [u0, u1, u2, u3] [] (WS L σ) Q = Q (some (vI 0)) (WS L σ) := K_iconst fi_232_562 <| R_ireti fi_232_563 rfl
theorem b232_564 {d L : Nat} {σ : St} {Q : Option AV → AW → Prop} {x3 : Int} {u2 : AV} (h1 : -2147483648 ≤ x3 + 1 ∧ x3 + 1 ≤ 2147483647) (h2 : 0 ≤ x3 + 1) (h3 : (x3 + 1) < (L : Int)) (h4 : -2147483648 ≤ x3 + 2 ∧ x3 + 2 ≤ 2147483647) (h5 : 0 ≤ x3 + 2) (h6 : (x3 + 2) < (L : Int)) : R (d + 1) 232 564 [vR 0, vR 19, u2, vI x3] [] (WS L σ) Q = R d 70 0 [vR 19, vI (σ 0 (x3 + 1)), vI (σ 0 (x3 + 2)), vX 9] [] (WS L σ) (fun r w => R (d + 1) 232 578 [vR 0, vR 19, u2, vI x3] (am_push r []) w Q) := K_aload_n fi_232_564 rfl <| K_aload_n fi_232_565 rfl <| K_iload_n fi_232_566 rfl <| K_iconst fi_232_567 <| K_iaddx fi_232_568 h1 <| K_iascr fi_232_569 h2 h3 <| K_aload_n fi_232_570 rfl <| K_iload_n fi_232_571 rfl <| K_iconst fi_232_572 <| K_iaddx fi_232_573 h4 <| K_iascr fi_232_574 h5 h6 <| R_invV fi_232_575 (am_invV_of rfl (kd_19) (Nat.le_of_ble_eq_true rfl) (Nat.le_of_ble_eq_true rfl) rfl rfl)
theorem b232_578 {d L : Nat} {σ : St} {Q : Option AV → AW → Prop} {y0 x3 : Int} {u1 : AV} (h1 : -2147483648 ≤ x3 + 1 ∧ x3 + 1 ≤ 2147483647) (h2 : 0 ≤ x3 + 1) (h3 : (x3 + 1) < (L : Int)) (h4 : -2147483648 ≤ x3 + 2 ∧ x3 + 2 ≤ 2147483647) (h5 : 0 ≤ x3 + 2) (h6 : (x3 + 2) < (L : Int)) : R (d + 1) 232 578 [vR 0, u1, vR 153, vI x3] [vI y0] (WS L σ) Q = R d 178 0 [vR 153, vI (σ 0 (x3 + 1)), vI (σ 0 (x3 + 2)), vX 9] [] (WS L σ) (fun r w => R (d + 1) 232 592 [vR 0, u1, vR 153, vI x3] (am_push r [vI y0]) w Q) := K_aload_n fi_232_578 rfl <| K_aload_n fi_232_579 rfl <| K_iload_n fi_232_580 rfl <| K_iconst fi_232_581 <| K_iaddx fi_232_582 h1 <| K_iascr fi_232_583 h2 h3 <| K_aload_n fi_232_584 rfl <| K_iload_n fi_232_585 rfl <| K_iconst fi_232_586 <| K_iaddx fi_232_587 h4 <| K_iascr fi_232_588 h5 h6 <| R_invV fi_232_589 (am_invV_of rfl (kd_153) (Nat.le_of_ble_eq_true rfl) (Nat.le_of_ble_eq_true rfl) rfl rfl)
theorem b232_592 {d L : Nat} {σ : St} {Q : Option AV → AW → Prop} {y0 y1 : Int} {u0 u1 u2 u3 : AV} : R d 232 592 [u0, u1, u2, u3] [vI y0, vI y1] (WS L σ) Q = if y1 = y0 then R d 232 1189 [u0, u1, u2, u3] [] (WS L σ) Q else R d 232 595 [u0, u1, u2, u3] [] (WS L σ) Q := R_icmp_eq fi_232_592 rfl
theorem b232_595 {d L : Nat} {σ : St} {Q : Option AV → AW → Prop} {u0 u1 u2 u3 : AV} : R d 232 595 [u0, u1, u2, u3] [] (WS L σ) Q = Q (some (vI 0)) (WS L σ) := K_iconst fi_232_595 <| R_ireti fi_232_596 rfl
theorem b232_597 {d L : Nat} {σ : St} {Q : Option AV → AW → Prop} {x3 : Int} {u2 : AV} (h1 : -2147483648 ≤ x3 + 1 ∧ x3 + 1 ≤ 2147483647) (h2 : 0 ≤ x3 + 1) (h3 : (x3 + 1) < (L : Int)) : R (d + 1) 232 597 [vR 0, vR 19, u2, vI x3] [] (WS L σ) Q = R d 74 0 [vR 19, vI (σ 0 (x3 + 1))] [] (WS L σ) (fun r w => R (d + 1) 232 606 [vR 0, vR 19, u2, vI x3] (am_push r []) w Q) := K_aload_n fi_232_597 rfl <| K_aload_n fi_232_598 rfl <| K_iload_n fi_232_599 rfl <| K_iconst fi_232_600 <| K_iaddx fi_232_601 h1 <| K_iascr fi_232_602 h2 h3 <| R_invV fi_232_603 (am_invV_of rfl (kd_19) (Nat.le_of_ble_eq_true rfl) (Nat.le_of_ble_eq_true rfl) rfl rfl)
theorem b232_606 {d L : Nat} {σ : St} {Q : Option AV → AW → Prop} {y0 x3 : Int} {u1 : AV} (h1 : -2147483648 ≤ x3 + 1 ∧ x3 + 1 ≤ 2147483647) (h2 : 0 ≤ x3 + 1) (h3 : (x3 + 1) < (L : Int)) : R (d + 1) 232 606 [vR 0, u1, vR 153, vI x3] [vI y0] (WS L σ) Q = R d 180 0 [vR 153, vI (σ 0 (x3 + 1))] [] (WS L σ) (fun r w => R (d + 1) 232 615 [vR 0, u1, vR 153, vI x3] (am_push r [vI y0]) w Q) := K_aload_n fi_232_606 rfl <| K_aload_n fi_232_607 rfl <| K_iload_n fi_232_608 rfl <| K_iconst fi_232_609 <| K_iaddx fi_232_610 h1 <| K_iascr fi_232_611 h2 h3 <| R_invV fi_232_612 (am_invV_of rfl (kd_153) (Nat.le_of_ble_eq_true rfl) (Nat.le_of_ble_eq_true rfl) rfl rfl)
theorem b232_615 {d L : Nat} {σ : St} {Q : Option AV → AW → Prop} {y0 y1 : Int} {u0 u1 u2 u3 : AV} : R d 232 615 [u0, u1, u2, u3] [vI y0, vI y1] (WS L σ) Q = if y1 = y0 then R d 232 1189 [u0, u1, u2, u3] [] (WS L σ) Q else R d 232 618 [u0, u1, u2, u3] [] (WS L σ) Q := R_icmp_eq fi_232_615 rfl
theorem b232_618 {d L : Nat} {σ : St} {Q : Option AV → AW → Prop} {u0 u1 u2 u3 : AV} : R d 232 618 [u0, u1, u2, u3] [] (WS L σ) Q = Q (some (vI 0)) (WS L σ) := K_iconst fi_232_618 <| R_ireti fi_232_619 rfl
theorem b232_620 {d L : Nat} {σ : St} {Q : Option AV → AW → Prop} {x3 : Int} {u2 : AV} (h1 : -2147483648 ≤ x3 + 1 ∧ x3 + 1 ≤ 2147483647) (h2 : 0 ≤ x3 + 1) (h3 : (x3 + 1) < (L : Int)) : R (d + 1) 232 620 [vR 0, vR 19, u2, vI x3] [] (WS L σ) Q = R d 75 0 [vR 19, vI (σ 0 (x3 + 1))] [] (WS L σ) (fun r w => R (d + 1) 232 629 [vR 0, vR 19, u2, vI x3] (am_push r []) w Q) := K_aload_n fi_232_620 rfl <| K_aload_n fi_232_621 rfl <| K_iload_n fi_232_622 rfl <| K_iconst fi_232_623 <| K_iaddx fi_232_624 h1 <| K_iascr fi_232_625 h2 h3 <| R_invV fi_232_626 (am_invV_of rfl (kd_19) (Nat.le_of_ble_eq_true rfl) (Nat.le_of_ble_eq_true rfl) rfl rfl)
theorem b232_629 {d L : Nat} {σ : St} {Q : Option AV → AW → Prop} {y0 x3 : Int} {u1 : AV} (h1 : -2147483648 ≤ x3 + 1 ∧ x3 + 1 ≤ 2147483647) (h2 : 0 ≤ x3 + 1) (h3 : (x3 + 1) < (L : Int)) : R (d + 1) 232 629 [vR 0, u1, vR 153, vI x3] [vI y0] (WS L σ) Q = R d 196 0 [vR 153, vI (σ 0 (x3 + 1))] [] (WS L σ) (fun r w => R (d + 1) 232 638 [vR 0, u1, vR 153, vI x3] (am_push r [vI y0]) w Q) := K_aload_n fi_232_629 rfl <| K_aload_n fi_232_630 rfl <| K_iload_n fi_232_631 rfl <| K_iconst fi_232_632 <| K_iaddx fi_232_633 h1 <| K_iascr fi_232_634 h2 h3 <| R_invV fi_232_635 (am_invV_of rfl (kd_153) (Nat.le_of_ble_eq_true rfl) (Nat.le_of_ble_eq_true rfl) rfl rfl)
theorem b232_638 {d L : Nat} {σ : St} {Q : Option AV → AW → Prop} {y0 y1 : Int} {u0 u1 u2 u3 : AV} : R d 232 638 [u0, u1, u2, u3] [vI y0, vI y1] (WS L σ) Q = if y1 = y0 then R d 232 1189 [u0, u1, u2, u3] [] (WS L σ) Q else R d 232 641 [u0, u1, u2, u3] [] (WS L σ) Q := R_icmp_eq fi_232_638 rfl
theorem b232_641 {d L : Nat} {σ : St} {Q : Option AV → AW → Prop} {u0 u1 u2 u3 : AV} : R d 232 641 [u0, u1, u2, u3] [] (WS L σ) Q = Q (some (vI 0)) (WS L σ) := K_iconst fi_232_641 <| R_ireti fi_232_642 rfl
theorem b232_643 {d L : Nat} {σ : St} {Q : Option AV → AW → Prop} {x3 : Int} {u2 : AV} (h1 : -2147483648 ≤ x3 + 1 ∧ x3 + 1 ≤ 2147483647) (h2 : 0 ≤ x3 + 1) (h3 : (x3 + 1) < (L : Int)) : R d 232 643 [vR 0, vR 19, u2, vI x3] [] (WS L σ) Q = if (σ 0 (x3 + 1)) = 0 then R d 232 656 [vR 0, vR 19, u2, vI x3] [vR 19] (WS L σ) Q else R d 232 652 [vR 0, vR 19, u2, vI x3] [vR 19] (WS L σ) Q := K_aload_n fi_232_643 rfl <| K_aload_n fi_232_644 rfl <| K_iload_n fi_232_645 rfl <| K_iconst fi_232_646 <| K_iaddx fi_232_647 h1 <| K_iascr fi_232_648 h2 h3 <| R_if_eq fi_232_649 rfl
theorem b232_652 {d L : Nat} {σ : St} {Q : Option AV → AW → Prop} {u0 u1 u2 u3 : AV} : R d 232 652 [u0, u1, u2, u3] [vR 19] (WS L σ) Q = R d 232 657 [u0, u1, u2, u3] [vI 1, vR 19] (WS L σ) Q := K_iconst fi_232_652 <| R_goto fi_232_653 rfl
theorem b232_656 {d L : Nat} {σ : St} {Q : Option AV → AW → Prop} {u0 u1 u2 u3 : AV} : R d 232 656 [u0, u1, u2, u3] [vR 19] (WS L σ) Q = R d 232 657 [u0, u1, u2, u3] [vI 0, vR 19] (WS L σ) Q := K_iconst fi_232_656 <| rfl
theorem b232_657 {d L : Nat} {σ : St} {Q : Option AV → AW → Prop} {y0 : Int} {u0 u1 u2 u3 : AV} : R (d + 1) 232 657 [u0, u1, u2, u3] [vI y0, vR 19] (WS L σ) Q = R d 96 0 [vR 19, vI y0] [] (WS L σ) (fun r w => R (d + 1) 232 660 [u0, u1, u2, u3] (am_push r []) w Q) := R_invV fi_232_657 (am_invV_of rfl (kd_19) (Nat.le_of_ble_eq_true rfl) (Nat.le_of_ble_eq_true rfl) rfl rfl)
theorem b232_660 {d L : Nat} {σ : St} {Q : Option AV → AW → Prop} {y0 x3 : Int} {u1 : AV} (h1 : -2147483648 ≤ x3 + 1 ∧ x3 + 1 ≤ 2147483647) (h2 : 0 ≤ x3 + 1) (h3 : (x3 + 1) < (L : Int)) : R d 232 660 [vR 0, u1, vR 153, vI x3] [vI y0] (WS L σ) Q = if (σ 0 (x3 + 1)) = 0 then R d 232 673 [vR 0, u1, vR 153, vI x3] [vR 153, vI y0] (WS L σ) Q else R d 232 669 [vR 0, u1, vR 153, vI x3] [vR 153, vI y0] (WS L σ) Q := K_aload_n fi_232_660 rfl <| K_aload_n fi_232_661 rfl <| K_iload_n fi_232_662 rfl <| K_iconst fi_232_663 <| K_iaddx fi_232_664 h1 <| K_iascr fi_232_665 h2 h3 <| R_if_eq fi_232_666 rfl
theorem b232_669 {d L : Nat} {σ : St} {Q : Option AV → AW → Prop} {y1 : Int} {u0 u1 u2 u3 : AV} : R d 232 669 [u0, u1, u2, u3] [vR 153, vI y1] (WS L σ) Q = R d 232 674 [u0, u1, u2, u3] [vI 1, vR 153, vI y1] (WS L σ) Q := K_iconst fi_232_669 <| R_goto fi_232_670 rfl
theorem b232_673 {d L : Nat} {σ : St} {Q : Option AV → AW → Prop} {y1 : Int} {u0 u1 u2 u3 : AV} : R d 232 673 [u0, u1, u2, u3] [vR 153, vI y1] (WS L σ) Q = R d 232 674 [u0, u1, u2, u3] [vI 0, vR 153, vI y1] (WS L σ) Q := K_iconst fi_232_673 <| rfl
theorem b232_674 {d L : Nat} {σ : St} {Q : Option AV → AW → Prop} {y0 y2 : Int} {u0 u1 u2 u3 : AV} : R (d + 1) 232 674 [u0, u1, u2, u3] [vI y0, vR 153, vI y2] (WS L σ) Q = R d 206 0 [vR 153, vI y0, vX 9, vX 9, vX 9, vX 9, vX 9] [] (WS L σ) (fun r w => R (d + 1) 232 677 [u0, u1, u2, u3] (am_push r [vI y2]) w Q) := R_invV fi_232_674 (am_invV_of rfl (kd_153) (Nat.le_of_ble_eq_true rfl) (Nat.le_of_ble_eq_true rfl) rfl rfl)
theorem b232_677 {d L : Nat} {σ : St} {Q : Option AV → AW → Prop} {y0 y1 : Int} {u0 u1 u2 u3 : AV} : R d 232 677 [u0, u1, u2, u3] [vI y0, vI y1] (WS L σ) Q = if y1 = y0 then R d 232 1189 [u0, u1, u2, u3] [] (WS L σ) Q else R d 232 680 [u0, u1, u2, u3] [] (WS L σ) Q := R_icmp_eq fi_232_677 rfl
theorem b232_680 {d L : Nat} {σ : St} {Q : Option AV → AW → Prop} {u0 u1 u2 u3 : AV} : R d 232 680 [u0, u1, u2, u3] [] (WS L σ) Q = Q (some (vI 0)) (WS L σ) := K_iconst fi_232_680 <| R_ireti fi_232_681 rfl
theorem b232_682 {d L : Nat} {σ : St} {Q : Option AV → AW → Prop} {u0 u2 u3 : AV} : R (d + 1) 232 682 [u0, vR 19, u2, u3] [] (WS L σ) Q = R d 99 0 [vR 19] [] (WS L σ) (fun r w => R (d + 1) 232 686 [u0, vR 19, u2, u3] (am_push r []) w Q) := K_aload_n fi_232_682 rfl <| R_invV fi_232_683 (am_invV_of rfl (kd_19) (Nat.le_of_ble_eq_true rfl) (Nat.le_of_ble_eq_true rfl) rfl rfl)
theorem b232_686 {d L : Nat} {σ : St} {Q : Option AV → AW → Prop} {y0 : Int} {u0 u1 u3 : AV} : R (d + 1) 232 686 [u0, u1, vR 153, u3] [vI y0] (WS L σ) Q = R d 182 0 [vR 153, vX 9, vX 9] [] (WS L σ) (fun r w => R (d + 1) 232 690 [u0, u1, vR 153, u3] (am_push r [vI y0]) w Q) := K_aload_n fi_232_686 rfl <| R_invV fi_232_687 (am_invV_of rfl (kd_153) (Nat.le_of_ble_eq_true rfl) (Nat.le_of_ble_eq_true rfl) rfl rfl)
theorem b232_690 {d L : Nat} {σ : St} {Q : Option AV → AW → Prop} {y0 y1 : Int} {u0 u1 u2 u3 : AV} : R d 232 690 [u0, u1, u2, u3] [vI y0, vI y1] (WS L σ) Q = if y1 = y0 then R d 232 1189 [u0, u1, u2, u3] [] (WS L σ) Q else R d 232 693 [u0, u1, u2, u3] [] (WS L σ) Q := R_icmp_eq fi_232_690 rfl
theorem b232_693 {d L : Nat} {σ : St} {Q : Option AV → AW → Prop} {u0 u1 u2 u3 : AV} : R d 232 693 [u0, u1, u2, u3] [] (WS L σ) Q = Q (some (vI 0)) (WS L σ) := K_iconst fi_232_693 <| R_ireti fi_232_694 rfl
theorem b232_695 {d L : Nat} {σ : St} {Q : Option AV → AW → Prop} {x3 : Int} {u2 : AV} (h1 : -2147483648 ≤ x3 + 1 ∧ x3 + 1 ≤ 2147483647) (h2 : 0 ≤ x3 + 1) (h3 : (x3 + 1) < (L : Int)) : R (d + 1) 232 695 [vR 0, vR 19, u2, vI x3] [] (WS L σ) Q = R d 100 0 [vR 19, vI (σ 0 (x3 + 1))] [] (WS L σ) (fun r w => R (d + 1) 232 704 [vR 0, vR 19, u2, vI x3] (am_push r []) w Q) := K_aload_n fi_232_695 rfl <| K_aload_n fi_232_696 rfl <| K_iload_n fi_232_697 rfl <| K_iconst fi_232_698 <| K_iaddx fi_232_699 h1 <| K_iascr fi_232_700 h2 h3 <| R_invV fi_232_701 (am_invV_of rfl (kd_19) (Nat.le_of_ble_eq_true rfl) (Nat.le_of_ble_eq_true rfl) rfl rfl)
theorem b232_704 {d L : Nat} {σ : St} {Q : Option AV → AW → Prop} {y0 x3 : Int} {u1 : AV} (h1 : -2147483648 ≤ x3 + 1 ∧ x3 + 1 ≤ 2147483647) (h2 : 0 ≤ x3 + 1) (h3 : (x3 + 1) < (L : Int)) : R (d + 1) 232 704 [vR 0, u1, vR 153, vI x3] [vI y0] (WS L σ) Q = R d 190 0 [vR 153, vI (σ 0 (x3 + 1))] [] (WS L σ) (fun r w => R (d + 1) 232 713 [vR 0, u1, vR 153, vI x3] (am_push r [vI y0]) w Q) := K_aload_n fi_232_704 rfl <| K_aload_n fi_232_705 rfl <| K_iload_n fi_232_706 rfl <| K_iconst fi_232_707 <| K_iaddx fi_232_708 h1 <| K_iascr fi_232_709 h2 h3 <| R_invV fi_232_710 (am_invV_of rfl (kd_153) (Nat.le_of_ble_eq_true rfl) (Nat.le_of_ble_eq_true rfl) rfl rfl)
theorem b232_713 {d L : Nat} {σ : St} {Q : Option AV → AW → Prop} {y0 y1 : Int} {u0 u1 u2 u3 : AV} : R d 232 713 [u0, u1, u2, u3] [vI y0, vI y1] (WS L σ) Q = if y1 = y0 then R d 232 1189 [u0, u1, u2, u3] [] (WS L σ) Q else R d 232 716 [u0, u1, u2, u3] [] (WS L σ) Q := R_icmp_eq fi_232_713 rfl
theorem b232_716 {d L : Nat} {σ : St} {Q : Option AV → AW → Prop} {u0 u1 u2 u3 : AV} : R d 232 716 [u0, u1, u2, u3] [] (WS L σ) Q = Q (some (vI 0)) (WS L σ) := K_iconst fi_232_716 <| R_ireti fi_232_717 rfl
theorem b232_718 {d L : Nat} {σ : St} {Q : Option AV → AW → Prop} {x3 : Int} {u2 : AV} (h1 : -2147483648 ≤ x3 + 1 ∧ x3 + 1 ≤ 2147483647) (h2 : 0 ≤ x3 + 1) (h3 : (x3 + 1) < (L : Int)) : R (d + 1) 232 718 [vR 0, vR 19, u2, vI x3] [] (WS L σ) Q = R d 102 0 [vR 19, vI (σ 0 (x3 + 1))] [] (WS L σ) (fun r w => R (d + 1) 232 727 [vR 0, vR 19, u2, vI x3] (am_push r []) w Q) := K_aload_n fi_232_718 rfl <| K_aload_n fi_232_719 rfl <| K_iload_n fi_232_720 rfl <| K_iconst fi_232_721 <| K_iaddx fi_232_722 h1 <| K_iascr fi_232_723 h2 h3 <| R_invV fi_232_724 (am_invV_of rfl (kd_19) (Nat.le_of_ble_eq_true rfl) (Nat.le_of_ble_eq_true rfl) rfl rfl)
theorem b232_727 {d L : Nat} {σ : St} {Q : Option AV → AW → Prop} {y0 x3 : Int} {u1 : AV} (h1 : -2147483648 ≤ x3 + 1 ∧ x3 + 1 ≤ 2147483647) (h2 : 0 ≤ x3 + 1) (h3 : (x3 + 1) < (L : Int)) : R (d + 1) 232 727 [vR 0, u1, vR 153, vI x3] [vI y0] (WS L σ) Q = R d 191 0 [vR 153, vI (σ 0 (x3 + 1))] [] (WS L σ) (fun r w => R (d + 1) 232 736 [vR 0, u1, vR 153, vI x3] (am_push r [vI y0]) w Q) := K_aload_n fi_232_727 rfl <| K_aload_n fi_232_728 rfl <| K_iload_n fi_232_729 rfl <| K_iconst fi_232_730 <| K_iaddx fi_232_731 h1 <| K_iascr fi_232_732 h2 h3 <| R_invV fi_232_733 (am_invV_of rfl (kd_153) (Nat.le_of_ble_eq_true rfl) (Nat.le_of_ble_eq_true rfl) rfl rfl)
theorem b232_736 {d L : Nat} {σ : St} {Q : Option AV → AW → Prop} {y0 y1 : Int} {u0 u1 u2 u3 : AV} : R d 232 736 [u0, u1, u2, u3] [vI y0, vI y1] (WS L σ) Q = if y1 = y0 then R d 232 1189 [u0, u1, u2, u3] [] (WS L σ) Q else R d 232 739 [u0, u1, u2, u3] [] (WS L σ) Q := R_icmp_eq fi_232_736 rfl
theorem b232_739 {d L : Nat} {σ : St} {Q : Option AV → AW → Prop} {u0 u1 u2 u3 : AV} : R d 232 739 [u0, u1, u2, u3] [] (WS L σ) Q = Q (some (vI 0)) (WS L σ) := K_iconst fi_232_739 <| R_ireti fi_232_740 rfl
theorem b232_741 {d L : Nat} {σ : St} {Q : Option AV → AW → Prop} {x3 : Int} {u2 : AV} (h1 : -2147483648 ≤ x3 + 1 ∧ x3 + 1 ≤ 2147483647) (h2 : 0 ≤ x3 + 1) (h3 : (x3 + 1) < (L : Int)) : R (d + 1) 232 741 [vR 0, vR 19, u2, vI x3] [] (WS L σ) Q = R d 103 0 [vR 19, vI (σ 0 (x3 + 1))] [] (WS L σ) (fun r w => R (d + 1) 232 750 [vR 0, vR 19, u2, vI x3] (am_push r []) w Q) := K_aload_n fi_232_741 rfl <| K_aload_n fi_232_742 rfl <| K_iload_n fi_232_743 rfl <| K_iconst fi_232_744 <| K_iaddx fi_232_745 h1 <| K_iascr fi_232_746 h2 h3 <| R_invV fi_232_747 (am_invV_of rfl (kd_19) (Nat.le_of_ble_eq_true rfl) (Nat.le_of_ble_eq_true rfl) rfl rfl)
theorem b232_750 {d L : Nat} {σ : St} {Q : Option AV → AW → Prop} {y0 x3 : Int} {u1 : AV} (h1 : -2147483648 ≤ x3 + 1 ∧ x3 + 1 ≤ 2147483647) (h2 : 0 ≤ x3 + 1) (h3 : (x3 + 1) < (L : Int)) : R (d + 1) 232 750 [vR 0, u1, vR 153, vI x3] [vI y0] (WS L σ) Q = R d 192 0 [vR 153, vI (σ 0 (x3 + 1)), vX 9, vX 9, vX 9, vX 9, vX 9, vX 9, vX 9, vX 9, vX 9] [] (WS L σ) (fun r w => R (d + 1) 232 759 [vR 0, u1, vR 153, vI x3] (am_push r [vI y0]) w Q) := K_aload_n fi_232_750 rfl <| K_aload_n fi_232_751 rfl <| K_iload_n fi_232_752 rfl <| K_iconst fi_232_753 <| K_iaddx fi_232_754 h1 <| K_iascr fi_232_755 h2 h3 <| R_invV fi_232_756 (am_invV_of rfl (kd_153) (Nat.le_of_ble_eq_true rfl) (Nat.le_of_ble_eq_true rfl) rfl rfl)
theorem b232_759 {d L : Nat} {σ : St} {Q : Option AV → AW → Prop} {y0 y1 : Int} {u0 u1 u2 u3 : AV} : R d 232 759 [u0, u1, u2, u3] [vI y0, vI y1] (WS L σ) Q = if y1 = y0 then R d 232 1189 [u0, u1, u2, u3] [] (WS L σ) Q else R d 232 762 [u0, u1, u2, u3] [] (WS L σ) Q := R_icmp_eq fi_232_759 rfl
theorem b232_762 {d L : Nat} {σ : St} {Q : Option AV → AW → Prop} {u0 u1 u2 u3 : AV} : R d 232 762 [u0, u1, u2, u3] [] (WS L σ) Q = Q (some (vI 0)) (WS L σ) := K_iconst fi_232_762 <| R_ireti fi_232_763 rfl
theorem b232_764 {d L : Nat} {σ : St} {Q : Option AV → AW → Prop} {x3 : Int} {u2 : AV} (h1 : -2147483648 ≤ x3 + 1 ∧ x3 + 1 ≤ 2147483647) (h2 : 0 ≤ x3 + 1) (h3 : (x3 + 1) < (L : Int)) : R (d + 1) 232 764 [vR 0, vR 19, u2, vI x3] [] (WS L σ) Q = R d 106 0 [vR 19, vI (σ 0 (x3 + 1))] [] (WS L σ) (fun r w => R (d + 1) 232 773 [vR 0, vR 19, u2, vI x3] (am_push r []) w Q) := K_aload_n fi_232_764 rfl <| K_aload_n fi_232_765 rfl <| K_iload_n fi_232_766 rfl <| K_iconst fi_232_767 <| K_iaddx fi_232_768 h1 <| K_iascr fi_232_769 h2 h3 <| R_invV fi_232_770 (am_invV_of rfl (kd_19) (Nat.le_of_ble_eq_true rfl) (Nat.le_of_ble_eq_true rfl) rfl rfl)
theorem b232_773 {d L : Nat} {σ : St} {Q : Option AV → AW → Prop} {y0 x3 : Int} {u1 : AV} (h1 : -2147483648 ≤ x3 + 1 ∧ x3 + 1 ≤ 2147483647) (h2 : 0 ≤ x3 + 1) (h3 : (x3 + 1) < (L : Int)) : R (d + 1) 232 773 [vR 0, u1, vR 153, vI x3] [vI y0] (WS L σ) Q = R d 193 0 [vR 153, vI (σ 0 (x3 + 1))] [] (WS L σ) (fun r w => R (d + 1) 232 782 [vR 0, u1, vR 153, vI x3] (am_push r [vI y0]) w Q) := K_aload_n fi_232_773 rfl <| K_aload_n fi_232_774 rfl <| K_iload_n fi_232_775 rfl <| K_iconst fi_232_776 <| K_iaddx fi_232_777 h1 <| K_iascr fi_232_778 h2 h3 <| R_invV fi_232_779 (am_invV_of rfl (kd_153) (Nat.le_of_ble_eq_true rfl) (Nat.le_of_ble_eq_true rfl) rfl rfl)
theorem b232_782 {d L : Nat} {σ : St} {Q : Option AV → AW → Prop} {y0 y1 : Int} {u0 u1 u2 u3 : AV} : R d 232 782 [u0, u1, u2, u3] [vI y0, vI y1] (WS L σ) Q = if y1 = y0 then R d 232 1189 [u0, u1, u2, u3] [] (WS L σ) Q else R d 232 785 [u0, u1, u2, u3] [] (WS L σ) Q := R_icmp_eq fi_232_782 rfl
theorem b232_785 {d L : Nat} {σ : St} {Q : Option AV → AW → Prop} {u0 u1 u2 u3 : AV} : R d 232 785 [u0, u1, u2, u3] [] (WS L σ) Q = Q (some (vI 0)) (WS L σ) := K_iconst fi_232_785 <| R_ireti fi_232_786 rfl
theorem b232_787 {d L : Nat} {σ : St} {Q : Option AV → AW → Prop} {u0 u2 u3 : AV} : R (d + 1) 232 787 [u0, vR 19, u2, u3] [] (WS L σ) Q = R d 108 0 [vR 19, vX 9, vX 9, vX 9, vX 9] [] (WS L σ) (fun r w => R (d + 1) 232 791 [u0, vR 19, u2, u3] (am_push r []) w Q) := K_aload_n fi_232_787 rfl <| R_invV fi_232_788 (am_invV_of rfl (kd_19) (Nat.le_of_ble_eq_true rfl) (Nat.le_of_ble_eq_true rfl) rfl rfl)
theorem b232_791 {d L : Nat} {σ : St} {Q : Option AV → AW → Prop} {y0 : Int} {u0 u1 u3 : AV} : R (d + 1) 232 791 [u0, u1, vR 153, u3] [vI y0] (WS L σ) Q = R d 195 0 [vR 153, vX 9, vX 9, vX 9, vX 9] [] (WS L σ) (fun r w => R (d + 1) 232 795 [u0, u1, vR 153, u3] (am_push r [vI y0]) w Q) := K_aload_n fi_232_791 rfl <| R_invV fi_232_792 (am_invV_of rfl (kd_153) (Nat.le_of_ble_eq_true rfl) (Nat.le_of_ble_eq_true rfl) rfl rfl)
theorem b232_795 {d L : Nat} {σ : St} {Q : Option AV → AW → Prop} {y0 y1 : Int} {u0 u1 u2 u3 : AV} : R d 232 795 [u0, u1, u2, u3] [vI y0, vI y1] (WS L σ) Q = if y1 = y0 then R d 232 1189 [u0, u1, u2, u3] [] (WS L σ) Q else R d 232 798 [u0, u1, u2, u3] [] (WS L σ) Q := R_icmp_eq fi_232_795 rfl
theorem b232_798 {d L : Nat} {σ : St} {Q : Option AV → AW → Prop} {u0 u1 u2 u3 : AV} : R d 232 798 [u0, u1, u2, u3] [] (WS L σ) Q = Q (some (vI 0)) (WS L σ) := K_iconst fi_232_798 <| R_ireti fi_232_799 rfl
theorem b232_800 {d L : Nat} {σ : St} {Q : Option AV → AW → Prop} {x3 : Int} {u2 : AV} (h1 : -2147483648 ≤ x3 + 1 ∧ x3 + 1 ≤ 2147483647) (h2 : 0 ≤ x3 + 1) (h3 : (x3 + 1) < (L : Int)) : R (d + 1) 232 800 [vR 0, vR 19, u2, vI x3] [] (WS L σ) Q = R d 109 0 [vR 19, vI (σ 0 (x3 + 1))] [] (WS L σ) (fun r w => R (d + 1) 232 809 [vR 0, vR 19, u2, vI x3] (am_push r []) w Q) := K_aload_n fi_232_800 rfl <| K_aload_n fi_232_801 rfl <| K_iload_n fi_232_802 rfl <| K_iconst fi_232_803 <| K_iaddx fi_232_804 h1 <| K_iascr fi_232_805 h2 h3 <| R_invV fi_232_806 (am_invV_of rfl (kd_19) (Nat.le_of_ble_eq_true rfl) (Nat.le_of_ble_eq_true rfl) rfl rfl)
theorem b232_809 {d L : Nat} {σ : St} {Q : Option AV → AW → Prop} {y0 x3 : Int} {u1 : AV} (h1 : -2147483648 ≤ x3 + 1 ∧ x3 + 1 ≤ 2147483647) (h2 : 0 ≤ x3 + 1) (h3 : (x3 + 1) < (L : Int)) : R (d + 1) 232 809 [vR 0, u1, vR 153, vI x3] [vI y0] (WS L σ) Q = R d 207 0 [vR 153, vI (σ 0 (x3 + 1)), vX 9, vX 9, vX 9, vX 9, vX 9, vX 9, vX 9] [] (WS L σ) (fun r w => R (d + 1) 232 818 [vR 0, u1, vR 153, vI x3] (am_push r [vI y0]) w Q) := K_aload_n fi_232_809 rfl <| K_aload_n fi_232_810 rfl <| K_iload_n fi_232_811 rfl <| K_iconst fi_232_812 <| K_iaddx fi_232_813 h1 <| K_iascr fi_232_814 h2 h3 <| R_invV fi_232_815 (am_invV_of rfl (kd_153) (Nat.le_of_ble_eq_true rfl) (Nat.le_of_ble_eq_true rfl) rfl rfl)
theorem b232_818 {d L : Nat} {σ : St} {Q : Option AV → AW → Prop} {y0 y1 : Int} {u0 u1 u2 u3 : AV} : R d 232 818 [u0, u1, u2, u3] [vI y0, vI y1] (WS L σ) Q = if y1 = y0 then R d 232 1189 [u0, u1, u2, u3] [] (WS L σ) Q else R d 232 821 [u0, u1, u2, u3] [] (WS L σ) Q := R_icmp_eq fi_232_818 rfl
theorem b232_821 {d L : Nat} {σ : St} {Q : Option AV → AW → Prop} {u0 u1 u2 u3 : AV} : R d 232 821 [u0, u1, u2, u3] [] (WS L σ) Q = Q (some (vI 0)) (WS L σ) := K_iconst fi_232_821 <| R_ireti fi_232_822 rfl
theorem b232_823 {d L : Nat} {σ : St} {Q : Option AV → AW → Prop} {x3 : Int} {u2 : AV} (h1 : -2147483648 ≤ x3 + 1 ∧ x3 + 1 ≤ 2147483647) (h2 : 0 ≤ x3 + 1) (h3 : (x3 + 1) < (L : Int)) (h4 : -2147483648 ≤ x3 + 2 ∧ x3 + 2 ≤ 2147483647) (h5 : 0 ≤ x3 + 2) (h6 : (x3 + 2) < (L : Int)) (h7 : -2147483648 ≤ x3 + 3 ∧ x3 + 3 ≤ 2147483647) (h8 : 0 ≤ x3 + 3) (h9 : (x3 + 3) < (L : Int)) : R (d + 1) 232 823 [vR 0, vR 19, u2, vI x3] [] (WS L σ) Q = R d 111 0 [vR 19, vI (σ 0 (x3 + 1)), vI (σ 0 (x3 + 2)), vI (σ 0 (x3 + 3))] [] (WS L σ) (fun r w => R (d + 1) 232 842 [vR 0, vR 19, u2, vI x3] (am_push r []) w Q) := K_aload_n fi_232_823 rfl <| K_aload_n fi_232_824 rfl <| K_iload_n fi_232_825 rfl <| K_iconst fi_232_826 <| K_iaddx fi_232_827 h1 <| K_iascr fi_232_828 h2 h3 <| K_aload_n fi_232_829 rfl <| K_iload_n fi_232_830 rfl <| K_iconst fi_232_831 <| K_iaddx fi_232_832 h4 <| K_iascr fi_232_833 h5 h6 <| K_aload_n fi_232_834 rfl <| K_iload_n fi_232_835 rfl <| K_iconst fi_232_836 <| K_iaddx fi_232_837 h7 <| K_iascr fi_232_838 h8 h9 <| R_invV fi_232_839 (am_invV_of rfl (kd_19) (Nat.le_of_ble_eq_true rfl) (Nat.le_of_ble_eq_true rfl) rfl rfl)
theorem b232_842 {d L : Nat} {σ : St} {Q : Option AV → AW → Prop} {y0 x3 : Int} {u1 : AV} (h1 : -2147483648 ≤ x3 + 1 ∧ x3 + 1 ≤ 2147483647) (h2 : 0 ≤ x3 + 1) (h3 : (x3 + 1) < (L : Int)) (h4 : -2147483648 ≤ x3 + 2 ∧ x3 + 2 ≤ 2147483647) (h5 : 0 ≤ x3 + 2) (h6 : (x3 + 2) < (L : Int)) (h7 : -2147483648 ≤ x3 + 3 ∧ x3 + 3 ≤ 2147483647) (h8 : 0 ≤ x3 + 3) (h9 : (x3 + 3) < (L : Int)) : R (d + 1) 232 842 [vR 0, u1, vR 153, vI x3] [vI y0] (WS L σ) Q = R d 208 0 [vR 153, vI (σ 0 (x3 + 1)), vI (σ 0 (x3 + 2)), vI (σ 0 (x3 + 3)), vX 9, vX 9, vX 9, vX 9, vX 9, vX 9, vX 9, vX 9, vX 9] [] (WS L σ) (fun r w => R (d + 1) 232 861 [vR 0, u1, vR 153, vI x3] (am_push r [vI y0]) w Q) := K_aload_n fi_232_842 rfl <| K_aload_n fi_232_843 rfl <| K_iload_n fi_232_844 rfl <| K_iconst fi_232_845 <| K_iaddx fi_232_846 h1 <| K_iascr fi_232_847 h2 h3 <| K_aload_n fi_232_848 rfl <| K_iload_n fi_232_849 rfl <| K_iconst fi_232_850 <| K_iaddx fi_232_851 h4 <| K_iascr fi_232_852 h5 h6 <| K_aload_n fi_232_853 rfl <| K_iload_n fi_232_854 rfl <| K_iconst fi_232_855 <| K_iaddx fi_232_856 h7 <| K_iascr fi_232_857 h8 h9 <| R_invV fi_232_858 (am_invV_of rfl (kd_153) (Nat.le_of_ble_eq_true rfl) (Nat.le_of_ble_eq_true rfl) rfl rfl)
theorem b232_861 {d L : Nat} {σ : St} {Q : Option AV → AW → Prop} {y0 y1 : Int} {u0 u1 u2 u3 : AV} : R d 232 861 [u0, u1, u2, u3] [vI y0, vI y1] (WS L σ) Q = if y1 = y0 then R d 232 1189 [u0, u1, u2, u3] [] (WS L σ) Q else R d 232 864 [u0, u1, u2, u3] [] (WS L σ) Q := R_icmp_eq fi_232_861 rfl
theorem b232_864 {d L : Nat} {σ : St} {Q : Option AV → AW → Prop} {u0 u1 u2 u3 : AV} : R d 232 864 [u0, u1, u2, u3] [] (WS L σ) Q = Q (some (vI 0)) (WS L σ) := K_iconst fi_232_864 <| R_ireti fi_232_865 rfl
theorem b232_866 {d L : Nat} {σ : St} {Q : Option AV → AW → Prop} {x3 : Int} {u2 : AV} (h1 : -2147483648 ≤ x3 + 1 ∧ x3 + 1 ≤ 2147483647) (h2 : 0 ≤ x3 + 1) (h3 : (x3 + 1) < (L : Int)) (h4 : -2147483648 ≤ x3 + 2 ∧ x3 + 2 ≤ 2147483647) (h5 : 0 ≤ x3 + 2) (h6 : (x3 + 2) < (L : Int)) (h7 : -2147483648 ≤ x3 + 3 ∧ x3 + 3 ≤ 2147483647) (h8 : 0 ≤ x3 + 3) (h9 : (x3 + 3) < (L : Int)) : R (d + 1) 232 866 [vR 0, vR 19, u2, vI x3] [] (WS L σ) Q = R d 113 0 [vR 19, vI (σ 0 (x3 + 1)), vI (σ 0 (x3 + 2)), vI (σ 0 (x3 + 3))] [] (WS L σ) (fun r w => R (d + 1) 232 885 [vR 0, vR 19, u2, vI x3] (am_push r []) w Q) := K_aload_n fi_232_866 rfl <| K_aload_n fi_232_867 rfl <| K_iload_n fi_232_868 rfl <| K_iconst fi_232_869 <| K_iaddx fi_232_870 h1 <| K_iascr fi_232_871 h2 h3 <| K_aload_n fi_232_872 rfl <| K_iload_n fi_232_873 rfl <| K_iconst fi_232_874 <| K_iaddx fi_232_875 h4 <| K_iascr fi_232_876 h5 h6 <| K_aload_n fi_232_877 rfl <| K_iload_n fi_232_878 rfl <| K_iconst fi_232_879 <| K_iaddx fi_232_880 h7 <| K_iascr fi_232_881 h8 h9 <| R_invV fi_232_882 (am_invV_of rfl (kd_19) (Nat.le_of_ble_eq_true rfl) (Nat.le_of_ble_eq_true rfl) rfl rfl)
theorem b232_885 {d L : Nat} {σ : St} {Q : Option AV → AW → Prop} {y0 x3 : Int} {u1 : AV} (h1 : -2147483648 ≤ x3 + 1 ∧ x3 + 1 ≤ 2147483647) (h2 : 0 ≤ x3 + 1) (h3 : (x3 + 1) < (L : Int)) (h4 : -2147483648 ≤ x3 + 2 ∧ x3 + 2 ≤ 2147483647) (h5 : 0 ≤ x3 + 2) (h6 : (x3 + 2) < (L : Int)) (h7 : -2147483648 ≤ x3 + 3 ∧ x3 + 3 ≤ 2147483647) (h8 : 0 ≤ x3 + 3) (h9 : (x3 + 3) < (L : Int)) : R (d + 1) 232 885 [vR 0, u1, vR 153, vI x3] [vI y0] (WS L σ) Q = R d 209 0 [vR 153, vI (σ 0 (x3 + 1)), vI (σ 0 (x3 + 2)), vI (σ 0 (x3 + 3))] [] (WS L σ) (fun r w => R (d + 1) 232 904 [vR 0, u1, vR 153, vI x3] (am_push r [vI y0]) w Q) := K_aload_n fi_232_885 rfl <| K_aload_n fi_232_886 rfl <| K_iload_n fi_232_887 rfl <| K_iconst fi_232_888 <| K_iaddx fi_232_889 h1 <| K_iascr fi_232_890 h2 h3 <| K_aload_n fi_232_891 rfl <| K_iload_n fi_232_892 rfl <| K_iconst fi_232_893 <| K_iaddx fi_232_894 h4 <| K_iascr fi_232_895 h5 h6 <| K_aload_n fi_232_896 rfl <| K_iload_n fi_232_897 rfl <| K_iconst fi_232_898 <| K_iaddx fi_232_899 h7 <| K_iascr fi_232_900 h8 h9 <| R_invV fi_232_901 (am_invV_of rfl (kd_153) (Nat.le_of_ble_eq_true rfl) (Nat.le_of_ble_eq_true rfl) rfl rfl)
theorem b232_904 {d L : Nat} {σ : St} {Q : Option AV → AW → Prop} {y0 y1 : Int} {u0 u1 u2 u3 : AV} : R d 232 904 [u0, u1, u2, u3] [vI y0, vI y1] (WS L σ) Q = if y1 = y0 then R d 232 1189 [u0, u1, u2, u3] [] (WS L σ) Q else R d 232 907 [u0, u1, u2, u3] [] (WS L σ) Q := R_icmp_eq fi_232_904 rfl
theorem b232_907 {d L : Nat} {σ : St} {Q : Option AV → AW → Prop} {u0 u1 u2 u3 : AV} : R d 232 907 [u0, u1, u2, u3] [] (WS L σ) Q = Q (some (vI 0)) (WS L σ) := K_iconst fi_232_907 <| R_ireti fi_232_908 rfl
theorem b232_909 {d L : Nat} {σ : St} {Q : Option AV → AW → Prop} {x3 : Int} {u2 : AV} (h1 : -2147483648 ≤ x3 + 1 ∧ x3 + 1 ≤ 2147483647) (h2 : 0 ≤ x3 + 1) (h3 : (x3 + 1) < (L : Int)) (h4 : -2147483648 ≤ x3 + 2 ∧ x3 + 2 ≤ 2147483647) (h5 : 0 ≤ x3 + 2) (h6 : (x3 + 2) < (L : Int)) : R (d + 1) 232 909 [vR 0, vR 19, u2, vI x3] [] (WS L σ) Q = R d 116 0 [vR 19, vI (σ 0 (x3 + 1)), vI (σ 0 (x3 + 2))] [] (WS L σ) (fun r w => R (d + 1) 232 923 [vR 0, vR 19, u2, vI x3] (am_push r []) w Q) := K_aload_n fi_232_909 rfl <| K_aload_n fi_232_910 rfl <| K_iload_n fi_232_911 rfl <| K_iconst fi_232_912 <| K_iaddx fi_232_913 h1 <| K_iascr fi_232_914 h2 h3 <| K_aload_n fi_232_915 rfl <| K_iload_n fi_232_916 rfl <| K_iconst fi_232_917 <| K_iaddx fi_232_918 h4 <| K_iascr fi_232_919 h5 h6 <| R_invV fi_232_920 (am_invV_of rfl (kd_19) (Nat.le_of_ble_eq_true rfl) (Nat.le_of_ble_eq_true rfl) rfl rfl)
theorem b232_923 {d L : Nat} {σ : St} {Q : Option AV → AW → Prop} {y0 x3 : Int} {u1 : AV} (h1 : -2147483648 ≤ x3 + 1 ∧ x3 + 1 ≤ 2147483647) (h2 : 0 ≤ x3 + 1) (h3 : (x3 + 1) < (L : Int)) (h4 : -2147483648 ≤ x3 + 2 ∧ x3 + 2 ≤ 2147483647) (h5 : 0 ≤ x3 + 2) (h6 : (x3 + 2) < (L : Int)) : R (d + 1) 232 923 [vR 0, u1, vR 153, vI x3] [vI y0] (WS L σ) Q = R d 211 0 [vR 153, vI (σ 0 (x3 + 1)), vI (σ 0 (x3 + 2)), vX 9] [] (WS L σ) (fun r w => R (d + 1) 232 937 [vR 0, u1, vR 153, vI x3] (am_push r [vI y0]) w Q) := K_aload_n fi_232_923 rfl <| K_aload_n fi_232_924 rfl <| K_iload_n fi_232_925 rfl <| K_iconst fi_232_926 <| K_iaddx fi_232_927 h1 <| K_iascr fi_232_928 h2 h3 <| K_aload_n fi_232_929 rfl <| K_iload_n fi_232_930 rfl <| K_iconst fi_232_931 <| K_iaddx fi_232_932 h4 <| K_iascr fi_232_933 h5 h6 <| R_invV fi_232_934 (am_invV_of rfl (kd_153) (Nat.le_of_ble_eq_true rfl) (Nat.le_of_ble_eq_true rfl) rfl rfl)
theorem b232_937 {d L : Nat} {σ : St} {Q : Option AV → AW → Prop} {y0 y1 : Int} {u0 u1 u2 u3 : AV} : R d 232 937 [u0, u1, u2, u3] [vI y0, vI y1] (WS L σ) Q = if y1 = y0 then R d 232 1189 [u0, u1, u2, u3] [] (WS L σ) Q else R d 232 940 [u0, u1, u2, u3] [] (WS L σ) Q := R_icmp_eq fi_232_937 rfl
theorem b232_940 {d L : Nat} {σ : St} {Q : Option AV → AW → Prop} {u0 u1 u2 u3 : AV} : R d 232 940 [u0, u1, u2, u3] [] (WS L σ) Q = Q (some (vI 0)) (WS L σ) := K_iconst fi_232_940 <| R_ireti fi_232_941 rfl
theorem b232_942 {d L : Nat} {σ : St} {Q : Option AV → AW → Prop} {x3 : Int} {u2 : AV} (h1 : -2147483648 ≤ x3 + 1 ∧ x3 + 1 ≤ 2147483647) (h2 : 0 ≤ x3 + 1) (h3 : (x3 + 1) < (L : Int)) (h4 : -2147483648 ≤ x3 + 2 ∧ x3 + 2 ≤ 2147483647) (h5 : 0 ≤ x3 + 2) (h6 : (x3 + 2) < (L : Int)) (h7 : -2147483648 ≤ x3 + 3 ∧ x3 + 3 ≤ 2147483647) (h8 : 0 ≤ x3 + 3) (h9 : (x3 + 3) < (L : Int)) : R (d + 1) 232 942 [vR 0, vR 19, u2, vI x3] [] (WS L σ) Q = R d 118 0 [vR 19, vI (σ 0 (x3 + 1)), vI (σ 0 (x3 + 2)), vI (σ 0 (x3 + 3))] [] (WS L σ) (fun r w => R (d + 1) 232 961 [vR 0, vR 19, u2, vI x3] (am_push r []) w Q) := K_aload_n fi_232_942 rfl <| K_aload_n fi_232_943 rfl <| K_iload_n fi_232_944 rfl <| K_iconst fi_232_945 <| K_iaddx fi_232_946 h1 <| K_iascr fi_232_947 h2 h3 <| K_aload_n fi_232_948 rfl <| K_iload_n fi_232_949 rfl <| K_iconst fi_232_950 <| K_iaddx fi_232_951 h4 <| K_iascr fi_232_952 h5 h6 <| K_aload_n fi_232_953 rfl <| K_iload_n fi_232_954 rfl <| K_iconst fi_232_955 <| K_iaddx fi_232_956 h7 <| K_iascr fi_232_957 h8 h9 <| R_invV fi_232_958 (am_invV_of rfl (kd_19) (Nat.le_of_ble_eq_true rfl) (Nat.le_of_ble_eq_true rfl) rfl rfl)
theorem b232_961 {d L : Nat} {σ : St} {Q : Option AV → AW → Prop} {y0 x3 : Int} {u1 : AV} (h1 : -2147483648 ≤ x3 + 1 ∧ x3 + 1 ≤ 2147483647) (h2 : 0 ≤ x3 + 1) (h3 : (x3 + 1) < (L : Int)) (h4 : -2147483648 ≤ x3 + 2 ∧ x3 + 2 ≤ 2147483647) (h5 : 0 ≤ x3 + 2) (h6 : (x3 + 2) < (L : Int)) (h7 : -2147483648 ≤ x3 + 3 ∧ x3 + 3 ≤ 2147483647) (h8 : 0 ≤ x3 + 3) (h9 : (x3 + 3) < (L : Int)) : R (d + 1) 232 961 [vR 0, u1, vR 153, vI x3] [vI y0] (WS L σ) Q = R d 212 0 [vR 153, vI (σ 0 (x3 + 1)), vI (σ 0 (x3 + 2)), vI (σ 0 (x3 + 3)), vX 9, vX 9, vX 9, vX 9, vX 9] [] (WS L σ) (fun r w => R (d + 1) 232 980 [vR 0, u1, vR 153, vI x3] (am_push r [vI y0]) w Q) := K_aload_n fi_232_961 rfl <| K_aload_n fi_232_962 rfl <| K_iload_n fi_232_963 rfl <| K_iconst fi_232_964 <| K_iaddx fi_232_965 h1 <| K_iascr fi_232_966 h2 h3 <| K_aload_n fi_232_967 rfl <| K_iload_n fi_232_968 rfl <| K_iconst fi_232_969 <| K_iaddx fi_232_970 h4 <| K_iascr fi_232_971 h5 h6 <| K_aload_n fi_232_972 rfl <| K_iload_n fi_232_973 rfl <| K_iconst fi_232_974 <| K_iaddx fi_232_975 h7 <| K_iascr fi_232_976 h8 h9 <| R_invV fi_232_977 (am_invV_of rfl (kd_153) (Nat.le_of_ble_eq_true rfl) (Nat.le_of_ble_eq_true rfl) rfl rfl)
theorem b232_980 {d L : Nat} {σ : St} {Q : Option AV → AW → Prop} {y0 y1 : Int} {u0 u1 u2 u3 : AV} : R d 232 980 [u0, u1, u2, u3] [vI y0, vI y1] (WS L σ) Q = if y1 = y0 then R d 232 1189 [u0, u1, u2, u3] [] (WS L σ) Q else R d 232 983 [u0, u1, u2, u3] [] (WS L σ) Q := R_icmp_eq fi_232_980 rfl
theorem b232_983 {d L : Nat} {σ : St} {Q : Option AV → AW → Prop} {u0 u1 u2 u3 : AV} : R d 232 983 [u0, u1, u2, u3] [] (WS L σ) Q = Q (some (vI 0)) (WS L σ) := K_iconst fi_232_983 <| R_ireti fi_232_984 rfl
theorem b232_985 {d L : Nat} {σ : St} {Q : Option AV → AW → Prop} {x3 : Int} {u2 : AV} (h1 : -2147483648 ≤ x3 + 1 ∧ x3 + 1 ≤ 2147483647) (h2 : 0 ≤ x3 + 1) (h3 : (x3 + 1) < (L : Int)) (h4 : -2147483648 ≤ x3 + 2 ∧ x3 + 2 ≤ 2147483647) (h5 : 0 ≤ x3 + 2) (h6 : (x3 + 2) < (L : Int)) : R (d + 1) 232 985 [vR 0, vR 19, u2, vI x3] [] (WS L σ) Q = R d 121 0 [vR 19, vI (σ 0 (x3 + 1)), vI (σ 0 (x3 + 2))] [] (WS L σ) (fun r w => R (d + 1) 232 999 [vR 0, vR 19, u2, vI x3] (am_push r []) w Q) := K_aload_n fi_232_985 rfl <| K_aload_n fi_232_986 rfl <| K_iload_n fi_232_987 rfl <| K_iconst fi_232_988 <| K_iaddx fi_232_989 h1 <| K_iascr fi_232_990 h2 h3 <| K_aload_n fi_232_991 rfl <| K_iload_n fi_232_992 rfl <| K_iconst fi_232_993 <| K_iaddx fi_232_994 h4 <| K_iascr fi_232_995 h5 h6 <| R_invV fi_232_996 (am_invV_of rfl (kd_19) (Nat.le_of_ble_eq_true rfl) (Nat.le_of_ble_eq_true rfl) rfl rfl)
theorem b232_999 {d L : Nat} {σ : St} {Q : Option AV → AW → Prop} {y0 x3 : Int} {u1 : AV} (h1 : -2147483648 ≤ x3 + 1 ∧ x3 + 1 ≤ 2147483647) (h2 : 0 ≤ x3 + 1) (h3 : (x3 + 1) < (L : Int)) (h4 : -2147483648 ≤ x3 + 2 ∧ x3 + 2 ≤ 2147483647) (h5 : 0 ≤ x3 + 2) (h6 : (x3 + 2) < (L : Int)) : R (d + 1) 232 999 [vR 0, u1, vR 153, vI x3] [vI y0] (WS L σ) Q = R d 213 0 [vR 153, vI (σ 0 (x3 + 1)), vI (σ 0 (x3 + 2))] [] (WS L σ) (fun r w => R (d + 1) 232 1013 [vR 0, u1, vR 153, vI x3] (am_push r [vI y0]) w Q) := K_aload_n fi_232_999 rfl <| K_aload_n fi_232_1000 rfl <| K_iload_n fi_232_1001 rfl <| K_iconst fi_232_1002 <| K_iaddx fi_232_1003 h1 <| K_iascr fi_232_1004 h2 h3 <| K_aload_n fi_232_1005 rfl <| K_iload_n fi_232_1006 rfl <| K_iconst fi_232_1007 <| K_iaddx fi_232_1008 h4 <| K_iascr fi_232_1009 h5 h6 <| R_invV fi_232_1010 (am_invV_of rfl (kd_153) (Nat.le_of_ble_eq_true rfl) (Nat.le_of_ble_eq_true rfl) rfl rfl)
theorem b232_1013 {d L : Nat} {σ : St} {Q : Option AV → AW → Prop} {y0 y1 : Int} {u0 u1 u2 u3 : AV} : R d 232 1013 [u0, u1, u2, u3] [vI y0, vI y1] (WS L σ) Q = if y1 = y0 then R d 232 1189 [u0, u1, u2, u3] [] (WS L σ) Q else R d 232 1016 [u0, u1, u2, u3] [] (WS L σ) Q := R_icmp_eq fi_232_1013 rfl
theorem b232_1016 {d L : Nat} {σ : St} {Q : Option AV → AW → Prop} {u0 u1 u2 u3 : AV} : R d 232 1016 [u0, u1, u2, u3] [] (WS L σ) Q = Q (some (vI 0)) (WS L σ) := K_iconst fi_232_1016 <| R_ireti fi_232_1017 rfl
theorem b232_1018 {d L : Nat} {σ : St} {Q : Option AV → AW → Prop} {x3 : Int} {u2 : AV} (h1 : -2147483648 ≤ x3 + 1 ∧ x3 + 1 ≤ 2147483647) (h2 : 0 ≤ x3 + 1) (h3 : (x3 + 1) < (L : Int)) : R (d + 1) 232 1018 [vR 0, vR 19, u2, vI x3] [] (WS L σ) Q = R d 127 0 [vR 19, vI (σ 0 (x3 + 1))] [] (WS L σ) (fun r w => R (d + 1) 232 1027 [vR 0, vR 19, u2, vI x3] (am_push r []) w Q) := K_aload_n fi_232_1018 rfl <| K_aload_n fi_232_1019 rfl <| K_iload_n fi_232_1020 rfl <| K_iconst fi_232_1021 <| K_iaddx fi_232_1022 h1 <| K_iascr fi_232_1023 h2 h3 <| R_invV fi_232_1024 (am_invV_of rfl (kd_19) (Nat.le_of_ble_eq_true rfl) (Nat.le_of_ble_eq_true rfl) rfl rfl)
theorem b232_1027 {d L : Nat} {σ : St} {Q : Option AV → AW → Prop} {y0 x3 : Int} {u1 : AV} (h1 : -2147483648 ≤ x3 + 1 ∧ x3 + 1 ≤ 2147483647) (h2 : 0 ≤ x3 + 1) (h3 : (x3 + 1) < (L : Int)) : R (d + 1) 232 1027 [vR 0, u1, vR 153, vI x3] [vI y0] (WS L σ) Q = R d 216 0 [vR 153, vI (σ 0 (x3 + 1))] [] (WS L σ) (fun r w => R (d + 1) 232 1036 [vR 0, u1, vR 153, vI x3] (am_push r [vI y0]) w Q) := K_aload_n fi_232_1027 rfl <| K_aload_n fi_232_1028 rfl <| K_iload_n fi_232_1029 rfl <| K_iconst fi_232_1030 <| K_iaddx fi_232_1031 h1 <| K_iascr fi_232_1032 h2 h3 <| R_invV fi_232_1033 (am_invV_of rfl (kd_153) (Nat.le_of_ble_eq_true rfl) (Nat.le_of_ble_eq_true rfl) rfl rfl)
theorem b232_1036 {d L : Nat} {σ : St} {Q : Option AV → AW → Prop} {y0 y1 : Int} {u0 u1 u2 u3 : AV} : R d 232 1036 [u0, u1, u2, u3] [vI y0, vI y1] (WS L σ) Q = if y1 = y0 then R d 232 1189 [u0, u1, u2, u3] [] (WS L σ) Q else R d 232 1039 [u0, u1, u2, u3] [] (WS L σ) Q := R_icmp_eq fi_232_1036 rfl
theorem b232_1039 {d L : Nat} {σ : St} {Q : Option AV → AW → Prop} {u0 u1 u2 u3 : AV} : R d 232 1039 [u0, u1, u2, u3] [] (WS L σ) Q = Q (some (vI 0)) (WS L σ) := K_iconst fi_232_1039 <| R_ireti fi_232_1040 rfl
theorem b232_1041 {d L : Nat} {σ : St} {Q : Option AV → AW → Prop} {x3 : Int} {u2 : AV} (h1 : -2147483648 ≤ x3 + 1 ∧ x3 + 1 ≤ 2147483647) (h2 : 0 ≤ x3 + 1) (h3 : (x3 + 1) < (L : Int)) (h4 : -2147483648 ≤ x3 + 2 ∧ x3 + 2 ≤ 2147483647) (h5 : 0 ≤ x3 + 2) (h6 : (x3 + 2) < (L : Int)) (h7 : -2147483648 ≤ x3 + 3 ∧ x3 + 3 ≤ 2147483647) (h8 : 0 ≤ x3 + 3) (h9 : (x3 + 3) < (L : Int)) : R (d + 1) 232 1041 [vR 0, vR 19, u2, vI x3] [] (WS L σ) Q = R d 128 0 [vR 19, vI (σ 0 (x3 + 1)), vI (σ 0 (x3 + 2)), vI (σ 0 (x3 + 3)), vX 9] [] (WS L σ) (fun r w => R (d + 1) 232 1060 [vR 0, vR 19, u2, vI x3] (am_push r []) w Q) := K_aload_n fi_232_1041 rfl <| K_aload_n fi_232_1042 rfl <| K_iload_n fi_232_1043 rfl <| K_iconst fi_232_1044 <| K_iaddx fi_232_1045 h1 <| K_iascr fi_232_1046 h2 h3 <| K_aload_n fi_232_1047 rfl <| K_iload_n fi_232_1048 rfl <| K_iconst fi_232_1049 <| K_iaddx fi_232_1050 h4 <| K_iascr fi_232_1051 h5 h6 <| K_aload_n fi_232_1052 rfl <| K_iload_n fi_232_1053 rfl <| K_iconst fi_232_1054 <| K_iaddx fi_232_1055 h7 <| K_iascr fi_232_1056 h8 h9 <| R_invV fi_232_1057 (am_invV_of rfl (kd_19) (Nat.le_of_ble_eq_true rfl) (Nat.le_of_ble_eq_true rfl) rfl rfl)
theorem b232_1060 {d L : Nat} {σ : St} {Q : Option AV → AW → Prop} {y0 x3 : Int} {u1 : AV} (h1 : -2147483648 ≤ x3 + 1 ∧ x3 + 1 ≤ 2147483647) (h2 : 0 ≤ x3 + 1) (h3 : (x3 + 1) < (L : Int)) (h4 : -2147483648 ≤ x3 + 2 ∧ x3 + 2 ≤ 2147483647) (h5 : 0 ≤ x3 + 2) (h6 : (x3 + 2) < (L : Int)) (h7 : -2147483648 ≤ x3 + 3 ∧ x3 + 3 ≤ 2147483647) (h8 : 0 ≤ x3 + 3) (h9 : (x3 + 3) < (L : Int)) : R (d + 1) 232 1060 [vR 0, u1, vR 153, vI x3] [vI y0] (WS L σ) Q = R d 217 0 [vR 153, vI (σ 0 (x3 + 1)), vI (σ 0 (x3 + 2)), vI (σ 0 (x3 + 3)), vX 9] [] (WS L σ) (fun r w => R (d + 1) 232 1079 [vR 0, u1, vR 153, vI x3] (am_push r [vI y0]) w Q) := K_aload_n fi_232_1060 rfl <| K_aload_n fi_232_1061 rfl <| K_iload_n fi_232_1062 rfl <| K_iconst fi_232_1063 <| K_iaddx fi_232_1064 h1 <| K_iascr fi_232_1065 h2 h3 <| K_aload_n fi_232_1066 rfl <| K_iload_n fi_232_1067 rfl <| K_iconst fi_232_1068 <| K_iaddx fi_232_1069 h4 <| K_iascr fi_232_1070 h5 h6 <| K_aload_n fi_232_1071 rfl <| K_iload_n fi_232_1072 rfl <| K_iconst fi_232_1073 <| K_iaddx fi_232_1074 h7 <| K_iascr fi_232_1075 h8 h9 <| R_invV fi_232_1076 (am_invV_of rfl (kd_153) (Nat.le_of_ble_eq_true rfl) (Nat.le_of_ble_eq_true rfl) rfl rfl)
theorem b232_1079 {d L : Nat} {σ : St} {Q : Option AV → AW → Prop} {y0 y1 : Int} {u0 u1 u2 u3 : AV} : R d 232 1079 [u0, u1, u2, u3] [vI y0, vI y1] (WS L σ) Q = if y1 = y0 then R d 232 1189 [u0, u1, u2, u3] [] (WS L σ) Q else R d 232 1082 [u0, u1, u2, u3] [] (WS L σ) Q := R_icmp_eq fi_232_1079 rfl
theorem b232_1082 {d L : Nat} {σ : St} {Q : Option AV → AW → Prop} {u0 u1 u2 u3 : AV} : R d 232 1082 [u0, u1, u2, u3] [] (WS L σ) Q = Q (some (vI 0)) (WS L σ) := K_iconst fi_232_1082 <| R_ireti fi_232_1083 rfl
theorem b232_1084 {d L : Nat} {σ : St} {Q : Option AV → AW → Prop} {x3 : Int} {u2 : AV} (h1 : -2147483648 ≤ x3 + 1 ∧ x3 + 1 ≤ 2147483647) (h2 : 0 ≤ x3 + 1) (h3 : (x3 + 1) < (L : Int)) : R (d + 1) 232 1084 [vR 0, vR 19, u2, vI x3] [] (WS L σ) Q = R d 135 0 [vR 19, vI (σ 0 (x3 + 1))] [] (WS L σ) (fun r w => R (d + 1) 232 1093 [vR 0, vR 19, u2, vI x3] (am_push r []) w Q) := K_aload_n fi_232_1084 rfl <| K_aload_n fi_232_1085 rfl <| K_iload_n fi_232_1086 rfl <| K_iconst fi_232_1087 <| K_iaddx fi_232_1088 h1 <| K_iascr fi_232_1089 h2 h3 <| R_invV fi_232_1090 (am_invV_of rfl (kd_19) (Nat.le_of_ble_eq_true rfl) (Nat.le_of_ble_eq_true rfl) rfl rfl)
theorem b232_1093 {d L : Nat} {σ : St} {Q : Option AV → AW → Prop} {y0 x3 : Int} {u1 : AV} (h1 : -2147483648 ≤ x3 + 1 ∧ x3 + 1 ≤ 2147483647) (h2 : 0 ≤ x3 + 1) (h3 : (x3 + 1) < (L : Int)) : R (d + 1) 232 1093 [vR 0, u1, vR 153, vI x3] [vI y0] (WS L σ) Q = R d 226 0 [vR 153, vI (σ 0 (x3 + 1))] [] (WS L σ) (fun r w => R (d + 1) 232 1102 [vR 0, u1, vR 153, vI x3] (am_push r [vI y0]) w Q) := K_aload_n fi_232_1093 rfl <| K_aload_n fi_232_1094 rfl <| K_iload_n fi_232_1095 rfl <| K_iconst fi_232_1096 <| K_iaddx fi_232_1097 h1 <| K_iascr fi_232_1098 h2 h3 <| R_invV fi_232_1099 (am_invV_of rfl (kd_153) (Nat.le_of_ble_eq_true rfl) (Nat.le_of_ble_eq_true rfl) rfl rfl)
theorem b232_1102 {d L : Nat} {σ : St} {Q : Option AV → AW → Prop} {y0 y1 : Int} {u0 u1 u2 u3 : AV} : R d 232 1102 [u0, u1, u2, u3] [vI y0, vI y1] (WS L σ) Q = if y1 = y0 then R d 232 1189 [u0, u1, u2, u3] [] (WS L σ) Q else R d 232 1105 [u0, u1, u2, u3] [] (WS L σ) Q := R_icmp_eq fi_232_1102 rfl
theorem b232_1105 {d L : Nat} {σ : St} {Q : Option AV → AW → Prop} {u0 u1 u2 u3 : AV} : R d 232 1105 [u0, u1, u2, u3] [] (WS L σ) Q = Q (some (vI 0)) (WS L σ) := K_iconst fi_232_1105 <| R_ireti fi_232_1106 rfl
theorem b232_1107 {d L : Nat} {σ : St} {Q : Option AV → AW → Prop} {x3 : Int} {u2 : AV} (h1 : -2147483648 ≤ x3 + 1 ∧ x3 + 1 ≤ 2147483647) (h2 : 0 ≤ x3 + 1) (h3 : (x3 + 1) < (L : Int)) (h4 : -2147483648 ≤ x3 + 2 ∧ x3 + 2 ≤ 2147483647) (h5 : 0 ≤ x3 + 2) (h6 : (x3 + 2) < (L : Int)) : R (d + 1) 232 1107 [vR 0, vR 19, u2, vI x3] [] (WS L σ) Q = R d 136 0 [vR 19, vI (σ 0 (x3 + 1)), vI (σ 0 (x3 + 2)), vX 9] [] (WS L σ) (fun r w => R (d + 1) 232 1121 [vR 0, vR 19, u2, vI x3] (am_push r []) w Q) := K_aload_n fi_232_1107 rfl <| K_aload_n fi_232_1108 rfl <| K_iload_n fi_232_1109 rfl <| K_iconst fi_232_1110 <| K_iaddx fi_232_1111 h1 <| K_iascr fi_232_1112 h2 h3 <| K_aload_n fi_232_1113 rfl <| K_iload_n fi_232_1114 rfl <| K_iconst fi_232_1115 <| K_iaddx fi_232_1116 h4 <| K_iascr fi_232_1117 h5 h6 <| R_invV fi_232_1118 (am_invV_of rfl (kd_19) (Nat.le_of_ble_eq_true rfl) (Nat.le_of_ble_eq_true rfl) rfl rfl)
theorem b232_1121 {d L : Nat} {σ : St} {Q : Option AV → AW → Prop} {y0 x3 : Int} {u1 : AV} (h1 : -2147483648 ≤ x3 + 1 ∧ x3 + 1 ≤ 2147483647) (h2 : 0 ≤ x3 + 1) (h3 : (x3 + 1) < (L : Int)) (h4 : -2147483648 ≤ x3 + 2 ∧ x3 + 2 ≤ 2147483647) (h5 : 0 ≤ x3 + 2) (h6 : (x3 + 2) < (L : Int)) : R (d + 1) 232 1121 [vR 0, u1, vR 153, vI x3] [vI y0] (WS L σ) Q = R d 227 0 [vR 153, vI (σ 0 (x3 + 1)), vI (σ 0 (x3 + 2))] [] (WS L σ) (fun r w => R (d + 1) 232 1135 [vR 0, u1, vR 153, vI x3] (am_push r [vI y0]) w Q) := K_aload_n fi_232_1121 rfl <| K_aload_n fi_232_1122 rfl <| K_iload_n fi_232_1123 rfl <| K_iconst fi_232_1124 <| K_iaddx fi_232_1125 h1 <| K_iascr fi_232_1126 h2 h3 <| K_aload_n fi_232_1127 rfl <| K_iload_n fi_232_1128 rfl <| K_iconst fi_232_1129 <| K_iaddx fi_232_1130 h4 <| K_iascr fi_232_1131 h5 h6 <| R_invV fi_232_1132 (am_invV_of rfl (kd_153) (Nat.le_of_ble_eq_true rfl) (Nat.le_of_ble_eq_true rfl) rfl rfl)
theorem b232_1135 {d L : Nat} {σ : St} {Q : Option AV → AW → Prop} {y0 y1 : Int} {u0 u1 u2 u3 : AV} : R d 232 1135 [u0, u1, u2, u3] [vI y0, vI y1] (WS L σ) Q = if y1 = y0 then R d 232 1189 [u0, u1, u2, u3] [] (WS L σ) Q else R d 232 1138 [u0, u1, u2, u3] [] (WS L σ) Q := R_icmp_eq fi_232_1135 rfl
theorem b232_1138 {d L : Nat} {σ : St} {Q : Option AV → AW → Prop} {u0 u1 u2 u3 : AV} : R d 232 1138 [u0, u1, u2, u3] [] (WS L σ) Q = Q (some (vI 0)) (WS L σ) := K_iconst fi_232_1138 <| R_ireti fi_232_1139 rfl
theorem b232_1140 {d L : Nat} {σ : St} {Q : Option AV → AW → Prop} {u0 u2 u3 : AV} : R (d + 1) 232 1140 [u0, vR 19, u2, u3] [] (WS L σ) Q = R d 138 0 [vR 19] [] (WS L σ) (fun r w => R (d + 1) 232 1144 [u0, vR 19, u2, u3] (am_push r []) w Q) := K_aload_n fi_232_1140 rfl <| R_invV fi_232_1141 (am_invV_of rfl (kd_19) (Nat.le_of_ble_eq_true rfl) (Nat.le_of_ble_eq_true rfl) rfl rfl)
theorem b232_1144 {d L : Nat} {σ : St} {Q : Option AV → AW → Prop} {y0 : Int} {u0 u1 u3 : AV} : R (d + 1) 232 1144 [u0, u1, vR 153, u3] [vI y0] (WS L σ) Q = R d 228 0 [vR 153, vX 9] [] (WS L σ) (fun r w => R (d + 1) 232 1148 [u0, u1, vR 153, u3] (am_push r [vI y0]) w Q) := K_aload_n fi_232_1144 rfl <| R_invV fi_232_1145 (am_invV_of rfl (kd_153) (Nat.le_of_ble_eq_true rfl) (Nat.le_of_ble_eq_true rfl) rfl rfl)
theorem b232_1148 {d L : Nat} {σ : St} {Q : Option AV → AW → Prop} {y0 y1 : Int} {u0 u1 u2 u3 : AV} : R d 232 1148 [u0, u1, u2, u3] [vI y0, vI y1] (WS L σ) Q = if y1 = y0 then R d 232 1189 [u0, u1, u2, u3] [] (WS L σ) Q else R d 232 1151 [u0, u1, u2, u3] [] (WS L σ) Q := R_icmp_eq fi_232_1148 rfl
theorem b232_1151 {d L : Nat} {σ : St} {Q : Option AV → AW → Prop} {u0 u1 u2 u3 : AV} : R d 232 1151 [u0, u1, u2, u3] [] (WS L σ) Q = Q (some (vI 0)) (WS L σ) := K_iconst fi_232_1151 <| R_ireti fi_232_1152 rfl
theorem b232_1153 {d L : Nat} {σ : St} {Q : Option AV → AW → Prop} {u0 u2 u3 : AV} : R (d + 1) 232 1153 [u0, vR 19, u2, u3] [] (WS L σ) Q = R d 141 0 [vR 19] [] (WS L σ) (fun r w => R (d + 1) 232 1157 [u0, vR 19, u2, u3] (am_push r []) w Q) := K_aload_n fi_232_1153 rfl <| R_invV fi_232_1154 (am_invV_of rfl (kd_19) (Nat.le_of_ble_eq_true rfl) (Nat.le_of_ble_eq_true rfl) rfl rfl)
theorem b232_1157 {d L : Nat} {σ : St} {Q : Option AV → AW → Prop} {y0 : Int} {u0 u1 u3 : AV} : R (d + 1) 232 1157 [u0, u1, vR 153, u3] [vI y0] (WS L σ) Q = R d 229 0 [vR 153, vX 9] [] (WS L σ) (fun r w => R (d + 1) 232 1161 [u0, u1, vR 153, u3] (am_push r [vI y0]) w Q) := K_aload_n fi_232_1157 rfl <| R_invV fi_232_1158 (am_invV_of rfl (kd_153) (Nat.le_of_ble_eq_true rfl) (Nat.le_of_ble_eq_true rfl) rfl rfl)
theorem b232_1161 {d L : Nat} {σ : St} {Q : Option AV → AW → Prop} {y0 y1 : Int} {u0 u1 u2 u3 : AV} : R d 232 1161 [u0, u1, u2, u3] [vI y0, vI y1] (WS L σ) Q = if y1 = y0 then R d 232 1189 [u0, u1, u2, u3] [] (WS L σ) Q else R d 232 1164 [u0, u1, u2, u3] [] (WS L σ) Q := R_icmp_eq fi_232_1161 rfl
theorem b232_1164 {d L : Nat} {σ : St} {Q : Option AV → AW → Prop} {u0 u1 u2 u3 : AV} : R d 232 1164 [u0, u1, u2, u3] [] (WS L σ) Q = Q (some (vI 0)) (WS L σ) := K_iconst fi_232_1164 <| R_ireti fi_232_1165 rfl
theorem b232_1166 {d L : Nat} {σ : St} {Q : Option AV → AW → Prop} {x3 : Int} {u2 : AV} (h1 : -2147483648 ≤ x3 + 1 ∧ x3 + 1 ≤ 2147483647) (h2 : 0 ≤ x3 + 1) (h3 : (x3 + 1) < (L : Int)) : R (d + 1) 232 1166 [vR 0, vR 19, u2, vI x3] [] (WS L σ) Q = R d 142 0 [vR 19, vI (σ 0 (x3 + 1))] [] (WS L σ) (fun r w => R (d + 1) 232 1175 [vR 0, vR 19, u2, vI x3] (am_push r []) w Q) := K_aload_n fi_232_1166 rfl <| K_aload_n fi_232_1167 rfl <| K_iload_n fi_232_1168 rfl <| K_iconst fi_232_1169 <| K_iaddx fi_232_1170 h1 <| K_iascr fi_232_1171 h2 h3 <| R_invV fi_232_1172 (am_invV_of rfl (kd_19) (Nat.le_of_ble_eq_true rfl) (Nat.le_of_ble_eq_true rfl) rfl rfl)
theorem b232_1175 {d L : Nat} {σ : St} {Q : Option AV → AW → Prop} {y0 x3 : Int} {u1 : AV} (h1 : -2147483648 ≤ x3 + 1 ∧ x3 + 1 ≤ 2147483647) (h2 : 0 ≤ x3 + 1) (h3 : (x3 + 1) < (L : Int)) : R (d + 1) 232 1175 [vR 0, u1, vR 153, vI x3] [vI y0] (WS L σ) Q = R d 230 0 [vR 153, vI (σ 0 (x3 + 1))] [] (WS L σ) (fun r w => R (d + 1) 232 1184 [vR 0, u1, vR 153, vI x3] (am_push r [vI y0]) w Q) := K_aload_n fi_232_1175 rfl <| K_aload_n fi_232_1176 rfl <| K_iload_n fi_232_1177 rfl <| K_iconst fi_232_1178 <| K_iaddx fi_232_1179 h1 <| K_iascr fi_232_1180 h2 h3 <| R_invV fi_232_1181 (am_invV_of rfl (kd_153) (Nat.le_of_ble_eq_true rfl) (Nat.le_of_ble_eq_true rfl) rfl rfl)
theorem b232_1184 {d L : Nat} {σ : St} {Q : Option AV → AW → Prop} {y0 y1 : Int} {u0 u1 u2 u3 : AV} : R d 232 1184 [u0, u1, u2, u3] [vI y0, vI y1] (WS L σ) Q = if y1 = y0 then R d 232 1189 [u0, u1, u2, u3] [] (WS L σ) Q else R d 232 1187 [u0, u1, u2, u3] [] (WS L σ) Q := R_icmp_eq fi_232_1184 rfl
theorem b232_1187 {d L : Nat} {σ : St} {Q : Option AV → AW → Prop} {u0 u1 u2 u3 : AV} : R d 232 1187 [u0, u1, u2, u3] [] (WS L σ) Q = Q (some (vI 0)) (WS L σ) := K_iconst fi_232_1187 <| R_ireti fi_232_1188 rfl
theorem b232_1189 {d L : Nat} {σ : St} {Q : Option AV → AW → Prop} {x3 : Int} {u0 u1 u2 : AV} (h1 : -2147483648 ≤ x3 + 4 ∧ x3 + 4 ≤ 2147483647) : R d 232 1189 [u0, u1, u2, vI x3] [] (WS L σ) Q = R d 232 18 [u0, u1, u2, vI (x3 + 4)] [] (WS L σ) Q := K_iincx fi_232_1189 rfl (Nat.le_of_ble_eq_true rfl) rfl h1 rfl <| R_goto fi_232_1192 rfl
theorem b232_1195 {d L : Nat} {σ : St} {Q : Option AV → AW → Prop} {u0 u1 u2 u3 : AV} : R d 232 1195 [u0, u1, u2, u3] [] (WS L σ) Q = Q (some (vI 1)) (WS L σ) := K_iconst fi_232_1195 <| R_ireti fi_232_1196 rfl
