/-! the cases of the law -/
def LV (i : Int32) (L : Nat) : Prop := vp_in (i + 1) L ∧ vp_in (i + 2) L ∧ vp_in (i + 3) L ∧ vp_in (i + 4) L ∧ vp_in (i + 5) L
def two (x y : Int32) : Int64 := (x.toInt64 <<< ((32 : Int32).toInt64 &&& 63)) ||| (y.toInt64 &&& 4294967295)
theorem LW_two {l : Launch} {D : va_G} {cy : Nat → ClassId} {al alM : Nat → Nat} {z : ZT} {b L : Nat} {xs : Nat → Int32} {Q : State → Prop} {μ : Mm} {ν : Ml} {μ' : Mm} {ν' : Ml} {pc : Nat} {lv : List (Nat × Value)} {st : List Value} {i x : Int32} (C : LC l D cy al alM z b L xs) (hin : vp_in (i + 4) L) (d0 : decode code pc = .ok (.i2l, 1)) (d1 : decode code (pc + 1) = .ok (.bipush 32, 2)) (d2 : decode code (pc + 3) = .ok (.lshl, 1)) (d3 : decode code (pc + 4) = .ok (.aload_n 0, 1)) (d4 : decode code (pc + 5) = .ok (.iload_n 3, 1)) (d5 : decode code (pc + 6) = .ok (.iconst 4, 1)) (d6 : decode code (pc + 7) = .ok (.iadd, 1)) (d7 : decode code (pc + 8) = .ok (.iaload, 1)) (d8 : decode code (pc + 9) = .ok (.i2l, 1)) (d9 : decode code (pc + 10) = .ok (.ldc2_w 156, 3)) (d10 : decode code (pc + 13) = .ok (.land, 1)) (d11 : decode code (pc + 14) = .ok (.lor, 1))
    (hb : lv[0]? = some (0, .ref b)) (hi : lv[3]? = some (3, .int i)) (k : LW l D cy al alM z Q μ ν μ' ν' (pc + 15) lv (.long (two x (xs (i + 4).toNatClampNeg)) :: st)) : LW l D cy al alM z Q μ ν μ' ν' pc lv (.int x :: st) := fun ls H locs hl hP hM hS =>
  lv_i2l C.1 C.2.1 d0 rfl (lv_bipush C.1 C.2.1 d1 (by decide) (lv_lshl C.1 C.2.1 d2 rfl ((LW_arg (pc := pc + 4) C (v := 4) (by decide) hin hb hi d3 d4 d5 d6 d7 (fun ls2 H2 locs2 hl2 hP2 hM2 hS2 => lv_i2l C.1 C.2.1 d8 rfl (W.ldc2 C.1 C.2.1 C.2.2.2.1 (C.2.2.2.2.1 _ k_Law_156) rfl d9 (lv_land C.1 C.2.1 d10 (lv_lor C.1 C.2.1 d11 (k ls2 H2 locs2 hl2 hP2 hM2 hS2)))))) ls H locs hl hP hM hS)))
theorem d_law_196 : decode code 196 = .ok (.aload_n 1, 1) := by decide +kernel
theorem d_law_197 : decode code 197 = .ok (.aload_n 0, 1) := by decide +kernel
theorem d_law_198 : decode code 198 = .ok (.iload_n 3, 1) := by decide +kernel
theorem d_law_199 : decode code 199 = .ok (.iconst 1, 1) := by decide +kernel
theorem d_law_200 : decode code 200 = .ok (.iadd, 1) := by decide +kernel
theorem d_law_201 : decode code 201 = .ok (.iaload, 1) := by decide +kernel
theorem d_law_202 : decode code 202 = .ok (.aload_n 0, 1) := by decide +kernel
theorem d_law_203 : decode code 203 = .ok (.iload_n 3, 1) := by decide +kernel
theorem d_law_204 : decode code 204 = .ok (.iconst 2, 1) := by decide +kernel
theorem d_law_205 : decode code 205 = .ok (.iadd, 1) := by decide +kernel
theorem d_law_206 : decode code 206 = .ok (.iaload, 1) := by decide +kernel
theorem d_law_207 : decode code 207 = .ok (.invokevirtual 13, 3) := by decide +kernel
theorem d_law_210 : decode code 210 = .ok (.aload_n 2, 1) := by decide +kernel
theorem d_law_211 : decode code 211 = .ok (.aload_n 0, 1) := by decide +kernel
theorem d_law_212 : decode code 212 = .ok (.iload_n 3, 1) := by decide +kernel
theorem d_law_213 : decode code 213 = .ok (.iconst 1, 1) := by decide +kernel
theorem d_law_214 : decode code 214 = .ok (.iadd, 1) := by decide +kernel
theorem d_law_215 : decode code 215 = .ok (.iaload, 1) := by decide +kernel
theorem d_law_216 : decode code 216 = .ok (.aload_n 0, 1) := by decide +kernel
theorem d_law_217 : decode code 217 = .ok (.iload_n 3, 1) := by decide +kernel
theorem d_law_218 : decode code 218 = .ok (.iconst 2, 1) := by decide +kernel
theorem d_law_219 : decode code 219 = .ok (.iadd, 1) := by decide +kernel
theorem d_law_220 : decode code 220 = .ok (.iaload, 1) := by decide +kernel
theorem d_law_221 : decode code 221 = .ok (.invokevirtual 17, 3) := by decide +kernel
theorem d_law_224 : decode code 224 = .ok (.if_icmp .eq 1092, 3) := by decide +kernel
theorem d_law_229 : decode code 229 = .ok (.aload_n 1, 1) := by decide +kernel
theorem d_law_230 : decode code 230 = .ok (.aload_n 0, 1) := by decide +kernel
theorem d_law_231 : decode code 231 = .ok (.iload_n 3, 1) := by decide +kernel
theorem d_law_232 : decode code 232 = .ok (.iconst 1, 1) := by decide +kernel
theorem d_law_233 : decode code 233 = .ok (.iadd, 1) := by decide +kernel
theorem d_law_234 : decode code 234 = .ok (.iaload, 1) := by decide +kernel
theorem d_law_235 : decode code 235 = .ok (.aload_n 0, 1) := by decide +kernel
theorem d_law_236 : decode code 236 = .ok (.iload_n 3, 1) := by decide +kernel
theorem d_law_237 : decode code 237 = .ok (.iconst 2, 1) := by decide +kernel
theorem d_law_238 : decode code 238 = .ok (.iadd, 1) := by decide +kernel
theorem d_law_239 : decode code 239 = .ok (.iaload, 1) := by decide +kernel
theorem d_law_240 : decode code 240 = .ok (.invokevirtual 18, 3) := by decide +kernel
theorem d_law_243 : decode code 243 = .ok (.aload_n 2, 1) := by decide +kernel
theorem d_law_244 : decode code 244 = .ok (.aload_n 0, 1) := by decide +kernel
theorem d_law_245 : decode code 245 = .ok (.iload_n 3, 1) := by decide +kernel
theorem d_law_246 : decode code 246 = .ok (.iconst 1, 1) := by decide +kernel
theorem d_law_247 : decode code 247 = .ok (.iadd, 1) := by decide +kernel
theorem d_law_248 : decode code 248 = .ok (.iaload, 1) := by decide +kernel
theorem d_law_249 : decode code 249 = .ok (.aload_n 0, 1) := by decide +kernel
theorem d_law_250 : decode code 250 = .ok (.iload_n 3, 1) := by decide +kernel
theorem d_law_251 : decode code 251 = .ok (.iconst 2, 1) := by decide +kernel
theorem d_law_252 : decode code 252 = .ok (.iadd, 1) := by decide +kernel
theorem d_law_253 : decode code 253 = .ok (.iaload, 1) := by decide +kernel
theorem d_law_254 : decode code 254 = .ok (.invokevirtual 21, 3) := by decide +kernel
theorem d_law_257 : decode code 257 = .ok (.if_icmp .eq 1059, 3) := by decide +kernel
theorem d_law_262 : decode code 262 = .ok (.aload_n 1, 1) := by decide +kernel
theorem d_law_263 : decode code 263 = .ok (.aload_n 0, 1) := by decide +kernel
theorem d_law_264 : decode code 264 = .ok (.iload_n 3, 1) := by decide +kernel
theorem d_law_265 : decode code 265 = .ok (.iconst 1, 1) := by decide +kernel
theorem d_law_266 : decode code 266 = .ok (.iadd, 1) := by decide +kernel
theorem d_law_267 : decode code 267 = .ok (.iaload, 1) := by decide +kernel
theorem d_law_268 : decode code 268 = .ok (.aload_n 0, 1) := by decide +kernel
theorem d_law_269 : decode code 269 = .ok (.iload_n 3, 1) := by decide +kernel
theorem d_law_270 : decode code 270 = .ok (.iconst 2, 1) := by decide +kernel
theorem d_law_271 : decode code 271 = .ok (.iadd, 1) := by decide +kernel
theorem d_law_272 : decode code 272 = .ok (.iaload, 1) := by decide +kernel
theorem d_law_273 : decode code 273 = .ok (.invokevirtual 22, 3) := by decide +kernel
theorem d_law_276 : decode code 276 = .ok (.aload_n 2, 1) := by decide +kernel
theorem d_law_277 : decode code 277 = .ok (.aload_n 0, 1) := by decide +kernel
theorem d_law_278 : decode code 278 = .ok (.iload_n 3, 1) := by decide +kernel
theorem d_law_279 : decode code 279 = .ok (.iconst 1, 1) := by decide +kernel
theorem d_law_280 : decode code 280 = .ok (.iadd, 1) := by decide +kernel
theorem d_law_281 : decode code 281 = .ok (.iaload, 1) := by decide +kernel
theorem d_law_282 : decode code 282 = .ok (.aload_n 0, 1) := by decide +kernel
theorem d_law_283 : decode code 283 = .ok (.iload_n 3, 1) := by decide +kernel
theorem d_law_284 : decode code 284 = .ok (.iconst 2, 1) := by decide +kernel
theorem d_law_285 : decode code 285 = .ok (.iadd, 1) := by decide +kernel
theorem d_law_286 : decode code 286 = .ok (.iaload, 1) := by decide +kernel
theorem d_law_287 : decode code 287 = .ok (.invokevirtual 25, 3) := by decide +kernel
theorem d_law_290 : decode code 290 = .ok (.if_icmp .eq 1026, 3) := by decide +kernel
theorem d_law_295 : decode code 295 = .ok (.aload_n 1, 1) := by decide +kernel
theorem d_law_296 : decode code 296 = .ok (.aload_n 0, 1) := by decide +kernel
theorem d_law_297 : decode code 297 = .ok (.iload_n 3, 1) := by decide +kernel
theorem d_law_298 : decode code 298 = .ok (.iconst 1, 1) := by decide +kernel
theorem d_law_299 : decode code 299 = .ok (.iadd, 1) := by decide +kernel
theorem d_law_300 : decode code 300 = .ok (.iaload, 1) := by decide +kernel
theorem d_law_301 : decode code 301 = .ok (.aload_n 0, 1) := by decide +kernel
theorem d_law_302 : decode code 302 = .ok (.iload_n 3, 1) := by decide +kernel
theorem d_law_303 : decode code 303 = .ok (.iconst 2, 1) := by decide +kernel
theorem d_law_304 : decode code 304 = .ok (.iadd, 1) := by decide +kernel
theorem d_law_305 : decode code 305 = .ok (.iaload, 1) := by decide +kernel
theorem d_law_306 : decode code 306 = .ok (.ifCond .eq 7, 3) := by decide +kernel
theorem d_law_309 : decode code 309 = .ok (.iconst 1, 1) := by decide +kernel
theorem d_law_310 : decode code 310 = .ok (.goto 4, 3) := by decide +kernel
theorem d_law_313 : decode code 313 = .ok (.iconst 0, 1) := by decide +kernel
theorem d_law_314 : decode code 314 = .ok (.invokevirtual 26, 3) := by decide +kernel
theorem d_law_317 : decode code 317 = .ok (.aload_n 2, 1) := by decide +kernel
theorem d_law_318 : decode code 318 = .ok (.aload_n 0, 1) := by decide +kernel
theorem d_law_319 : decode code 319 = .ok (.iload_n 3, 1) := by decide +kernel
theorem d_law_320 : decode code 320 = .ok (.iconst 1, 1) := by decide +kernel
theorem d_law_321 : decode code 321 = .ok (.iadd, 1) := by decide +kernel
theorem d_law_322 : decode code 322 = .ok (.iaload, 1) := by decide +kernel
theorem d_law_323 : decode code 323 = .ok (.aload_n 0, 1) := by decide +kernel
theorem d_law_324 : decode code 324 = .ok (.iload_n 3, 1) := by decide +kernel
theorem d_law_325 : decode code 325 = .ok (.iconst 2, 1) := by decide +kernel
theorem d_law_326 : decode code 326 = .ok (.iadd, 1) := by decide +kernel
theorem d_law_327 : decode code 327 = .ok (.iaload, 1) := by decide +kernel
theorem d_law_328 : decode code 328 = .ok (.ifCond .eq 7, 3) := by decide +kernel
theorem d_law_331 : decode code 331 = .ok (.iconst 1, 1) := by decide +kernel
theorem d_law_332 : decode code 332 = .ok (.goto 4, 3) := by decide +kernel
theorem d_law_335 : decode code 335 = .ok (.iconst 0, 1) := by decide +kernel
theorem d_law_336 : decode code 336 = .ok (.invokevirtual 30, 3) := by decide +kernel
theorem d_law_339 : decode code 339 = .ok (.if_icmp .eq 977, 3) := by decide +kernel
theorem d_law_344 : decode code 344 = .ok (.aload_n 1, 1) := by decide +kernel
theorem d_law_345 : decode code 345 = .ok (.aload_n 0, 1) := by decide +kernel
theorem d_law_346 : decode code 346 = .ok (.iload_n 3, 1) := by decide +kernel
theorem d_law_347 : decode code 347 = .ok (.iconst 1, 1) := by decide +kernel
theorem d_law_348 : decode code 348 = .ok (.iadd, 1) := by decide +kernel
theorem d_law_349 : decode code 349 = .ok (.iaload, 1) := by decide +kernel
theorem d_law_350 : decode code 350 = .ok (.aload_n 0, 1) := by decide +kernel
theorem d_law_351 : decode code 351 = .ok (.iload_n 3, 1) := by decide +kernel
theorem d_law_352 : decode code 352 = .ok (.iconst 2, 1) := by decide +kernel
theorem d_law_353 : decode code 353 = .ok (.iadd, 1) := by decide +kernel
theorem d_law_354 : decode code 354 = .ok (.iaload, 1) := by decide +kernel
theorem d_law_355 : decode code 355 = .ok (.invokevirtual 31, 3) := by decide +kernel
theorem d_law_358 : decode code 358 = .ok (.aload_n 2, 1) := by decide +kernel
theorem d_law_359 : decode code 359 = .ok (.aload_n 0, 1) := by decide +kernel
theorem d_law_360 : decode code 360 = .ok (.iload_n 3, 1) := by decide +kernel
theorem d_law_361 : decode code 361 = .ok (.iconst 1, 1) := by decide +kernel
theorem d_law_362 : decode code 362 = .ok (.iadd, 1) := by decide +kernel
theorem d_law_363 : decode code 363 = .ok (.iaload, 1) := by decide +kernel
theorem d_law_364 : decode code 364 = .ok (.aload_n 0, 1) := by decide +kernel
theorem d_law_365 : decode code 365 = .ok (.iload_n 3, 1) := by decide +kernel
theorem d_law_366 : decode code 366 = .ok (.iconst 2, 1) := by decide +kernel
theorem d_law_367 : decode code 367 = .ok (.iadd, 1) := by decide +kernel
theorem d_law_368 : decode code 368 = .ok (.iaload, 1) := by decide +kernel
theorem d_law_369 : decode code 369 = .ok (.invokevirtual 34, 3) := by decide +kernel
theorem d_law_372 : decode code 372 = .ok (.if_icmp .eq 944, 3) := by decide +kernel
theorem d_law_377 : decode code 377 = .ok (.aload_n 1, 1) := by decide +kernel
theorem d_law_378 : decode code 378 = .ok (.aload_n 0, 1) := by decide +kernel
theorem d_law_379 : decode code 379 = .ok (.iload_n 3, 1) := by decide +kernel
theorem d_law_380 : decode code 380 = .ok (.iconst 1, 1) := by decide +kernel
theorem d_law_381 : decode code 381 = .ok (.iadd, 1) := by decide +kernel
theorem d_law_382 : decode code 382 = .ok (.iaload, 1) := by decide +kernel
theorem d_law_383 : decode code 383 = .ok (.aload_n 0, 1) := by decide +kernel
theorem d_law_384 : decode code 384 = .ok (.iload_n 3, 1) := by decide +kernel
theorem d_law_385 : decode code 385 = .ok (.iconst 2, 1) := by decide +kernel
theorem d_law_386 : decode code 386 = .ok (.iadd, 1) := by decide +kernel
theorem d_law_387 : decode code 387 = .ok (.iaload, 1) := by decide +kernel
theorem d_law_388 : decode code 388 = .ok (.aload_n 0, 1) := by decide +kernel
theorem d_law_389 : decode code 389 = .ok (.iload_n 3, 1) := by decide +kernel
theorem d_law_390 : decode code 390 = .ok (.iconst 3, 1) := by decide +kernel
theorem d_law_391 : decode code 391 = .ok (.iadd, 1) := by decide +kernel
theorem d_law_392 : decode code 392 = .ok (.iaload, 1) := by decide +kernel
theorem d_law_393 : decode code 393 = .ok (.invokevirtual 35, 3) := by decide +kernel
theorem d_law_396 : decode code 396 = .ok (.aload_n 2, 1) := by decide +kernel
theorem d_law_397 : decode code 397 = .ok (.aload_n 0, 1) := by decide +kernel
theorem d_law_398 : decode code 398 = .ok (.iload_n 3, 1) := by decide +kernel
theorem d_law_399 : decode code 399 = .ok (.iconst 1, 1) := by decide +kernel
theorem d_law_400 : decode code 400 = .ok (.iadd, 1) := by decide +kernel
theorem d_law_401 : decode code 401 = .ok (.iaload, 1) := by decide +kernel
theorem d_law_402 : decode code 402 = .ok (.aload_n 0, 1) := by decide +kernel
theorem d_law_403 : decode code 403 = .ok (.iload_n 3, 1) := by decide +kernel
theorem d_law_404 : decode code 404 = .ok (.iconst 2, 1) := by decide +kernel
theorem d_law_405 : decode code 405 = .ok (.iadd, 1) := by decide +kernel
theorem d_law_406 : decode code 406 = .ok (.iaload, 1) := by decide +kernel
theorem d_law_407 : decode code 407 = .ok (.aload_n 0, 1) := by decide +kernel
theorem d_law_408 : decode code 408 = .ok (.iload_n 3, 1) := by decide +kernel
theorem d_law_409 : decode code 409 = .ok (.iconst 3, 1) := by decide +kernel
theorem d_law_410 : decode code 410 = .ok (.iadd, 1) := by decide +kernel
theorem d_law_411 : decode code 411 = .ok (.iaload, 1) := by decide +kernel
theorem d_law_412 : decode code 412 = .ok (.invokevirtual 39, 3) := by decide +kernel
theorem d_law_415 : decode code 415 = .ok (.if_icmp .eq 901, 3) := by decide +kernel
theorem d_law_420 : decode code 420 = .ok (.aload_n 1, 1) := by decide +kernel
theorem d_law_421 : decode code 421 = .ok (.aload_n 0, 1) := by decide +kernel
theorem d_law_422 : decode code 422 = .ok (.iload_n 3, 1) := by decide +kernel
theorem d_law_423 : decode code 423 = .ok (.iconst 1, 1) := by decide +kernel
theorem d_law_424 : decode code 424 = .ok (.iadd, 1) := by decide +kernel
theorem d_law_425 : decode code 425 = .ok (.iaload, 1) := by decide +kernel
theorem d_law_426 : decode code 426 = .ok (.invokevirtual 40, 3) := by decide +kernel
theorem d_law_429 : decode code 429 = .ok (.aload_n 2, 1) := by decide +kernel
theorem d_law_430 : decode code 430 = .ok (.aload_n 0, 1) := by decide +kernel
theorem d_law_431 : decode code 431 = .ok (.iload_n 3, 1) := by decide +kernel
theorem d_law_432 : decode code 432 = .ok (.iconst 1, 1) := by decide +kernel
theorem d_law_433 : decode code 433 = .ok (.iadd, 1) := by decide +kernel
theorem d_law_434 : decode code 434 = .ok (.iaload, 1) := by decide +kernel
theorem d_law_435 : decode code 435 = .ok (.invokevirtual 44, 3) := by decide +kernel
theorem d_law_438 : decode code 438 = .ok (.if_icmp .eq 878, 3) := by decide +kernel
theorem d_law_443 : decode code 443 = .ok (.aload_n 1, 1) := by decide +kernel
theorem d_law_444 : decode code 444 = .ok (.invokevirtual 45, 3) := by decide +kernel
theorem d_law_447 : decode code 447 = .ok (.aload_n 2, 1) := by decide +kernel
theorem d_law_448 : decode code 448 = .ok (.invokevirtual 49, 3) := by decide +kernel
theorem d_law_451 : decode code 451 = .ok (.if_icmp .eq 865, 3) := by decide +kernel
theorem d_law_456 : decode code 456 = .ok (.aload_n 1, 1) := by decide +kernel
theorem d_law_457 : decode code 457 = .ok (.aload_n 0, 1) := by decide +kernel
theorem d_law_458 : decode code 458 = .ok (.iload_n 3, 1) := by decide +kernel
theorem d_law_459 : decode code 459 = .ok (.iconst 1, 1) := by decide +kernel
theorem d_law_460 : decode code 460 = .ok (.iadd, 1) := by decide +kernel
theorem d_law_461 : decode code 461 = .ok (.iaload, 1) := by decide +kernel
theorem d_law_462 : decode code 462 = .ok (.invokevirtual 50, 3) := by decide +kernel
theorem d_law_465 : decode code 465 = .ok (.aload_n 2, 1) := by decide +kernel
theorem d_law_466 : decode code 466 = .ok (.aload_n 0, 1) := by decide +kernel
theorem d_law_467 : decode code 467 = .ok (.iload_n 3, 1) := by decide +kernel
theorem d_law_468 : decode code 468 = .ok (.iconst 1, 1) := by decide +kernel
theorem d_law_469 : decode code 469 = .ok (.iadd, 1) := by decide +kernel
theorem d_law_470 : decode code 470 = .ok (.iaload, 1) := by decide +kernel
theorem d_law_471 : decode code 471 = .ok (.invokevirtual 53, 3) := by decide +kernel
theorem d_law_474 : decode code 474 = .ok (.if_icmp .eq 842, 3) := by decide +kernel
theorem d_law_479 : decode code 479 = .ok (.aload_n 1, 1) := by decide +kernel
theorem d_law_480 : decode code 480 = .ok (.aload_n 0, 1) := by decide +kernel
theorem d_law_481 : decode code 481 = .ok (.iload_n 3, 1) := by decide +kernel
theorem d_law_482 : decode code 482 = .ok (.iconst 1, 1) := by decide +kernel
theorem d_law_483 : decode code 483 = .ok (.iadd, 1) := by decide +kernel
theorem d_law_484 : decode code 484 = .ok (.iaload, 1) := by decide +kernel
theorem d_law_485 : decode code 485 = .ok (.invokevirtual 54, 3) := by decide +kernel
theorem d_law_488 : decode code 488 = .ok (.aload_n 2, 1) := by decide +kernel
theorem d_law_489 : decode code 489 = .ok (.aload_n 0, 1) := by decide +kernel
theorem d_law_490 : decode code 490 = .ok (.iload_n 3, 1) := by decide +kernel
theorem d_law_491 : decode code 491 = .ok (.iconst 1, 1) := by decide +kernel
theorem d_law_492 : decode code 492 = .ok (.iadd, 1) := by decide +kernel
theorem d_law_493 : decode code 493 = .ok (.iaload, 1) := by decide +kernel
theorem d_law_494 : decode code 494 = .ok (.invokevirtual 57, 3) := by decide +kernel
theorem d_law_497 : decode code 497 = .ok (.if_icmp .eq 819, 3) := by decide +kernel
theorem d_law_502 : decode code 502 = .ok (.aload_n 1, 1) := by decide +kernel
theorem d_law_503 : decode code 503 = .ok (.aload_n 0, 1) := by decide +kernel
theorem d_law_504 : decode code 504 = .ok (.iload_n 3, 1) := by decide +kernel
theorem d_law_505 : decode code 505 = .ok (.iconst 1, 1) := by decide +kernel
theorem d_law_506 : decode code 506 = .ok (.iadd, 1) := by decide +kernel
theorem d_law_507 : decode code 507 = .ok (.iaload, 1) := by decide +kernel
theorem d_law_508 : decode code 508 = .ok (.aload_n 0, 1) := by decide +kernel
theorem d_law_509 : decode code 509 = .ok (.iload_n 3, 1) := by decide +kernel
theorem d_law_510 : decode code 510 = .ok (.iconst 2, 1) := by decide +kernel
theorem d_law_511 : decode code 511 = .ok (.iadd, 1) := by decide +kernel
theorem d_law_512 : decode code 512 = .ok (.iaload, 1) := by decide +kernel
theorem d_law_513 : decode code 513 = .ok (.invokevirtual 58, 3) := by decide +kernel
theorem d_law_516 : decode code 516 = .ok (.aload_n 2, 1) := by decide +kernel
theorem d_law_517 : decode code 517 = .ok (.aload_n 0, 1) := by decide +kernel
theorem d_law_518 : decode code 518 = .ok (.iload_n 3, 1) := by decide +kernel
theorem d_law_519 : decode code 519 = .ok (.iconst 1, 1) := by decide +kernel
theorem d_law_520 : decode code 520 = .ok (.iadd, 1) := by decide +kernel
theorem d_law_521 : decode code 521 = .ok (.iaload, 1) := by decide +kernel
theorem d_law_522 : decode code 522 = .ok (.aload_n 0, 1) := by decide +kernel
theorem d_law_523 : decode code 523 = .ok (.iload_n 3, 1) := by decide +kernel
theorem d_law_524 : decode code 524 = .ok (.iconst 2, 1) := by decide +kernel
theorem d_law_525 : decode code 525 = .ok (.iadd, 1) := by decide +kernel
theorem d_law_526 : decode code 526 = .ok (.iaload, 1) := by decide +kernel
theorem d_law_527 : decode code 527 = .ok (.invokevirtual 61, 3) := by decide +kernel
theorem d_law_530 : decode code 530 = .ok (.if_icmp .eq 786, 3) := by decide +kernel
theorem d_law_535 : decode code 535 = .ok (.aload_n 1, 1) := by decide +kernel
theorem d_law_536 : decode code 536 = .ok (.aload_n 0, 1) := by decide +kernel
theorem d_law_537 : decode code 537 = .ok (.iload_n 3, 1) := by decide +kernel
theorem d_law_538 : decode code 538 = .ok (.iconst 1, 1) := by decide +kernel
theorem d_law_539 : decode code 539 = .ok (.iadd, 1) := by decide +kernel
theorem d_law_540 : decode code 540 = .ok (.iaload, 1) := by decide +kernel
theorem d_law_541 : decode code 541 = .ok (.invokevirtual 62, 3) := by decide +kernel
theorem d_law_544 : decode code 544 = .ok (.aload_n 2, 1) := by decide +kernel
theorem d_law_545 : decode code 545 = .ok (.aload_n 0, 1) := by decide +kernel
theorem d_law_546 : decode code 546 = .ok (.iload_n 3, 1) := by decide +kernel
theorem d_law_547 : decode code 547 = .ok (.iconst 1, 1) := by decide +kernel
theorem d_law_548 : decode code 548 = .ok (.iadd, 1) := by decide +kernel
theorem d_law_549 : decode code 549 = .ok (.iaload, 1) := by decide +kernel
theorem d_law_550 : decode code 550 = .ok (.invokevirtual 65, 3) := by decide +kernel
theorem d_law_553 : decode code 553 = .ok (.if_icmp .eq 763, 3) := by decide +kernel
theorem d_law_558 : decode code 558 = .ok (.aload_n 1, 1) := by decide +kernel
theorem d_law_559 : decode code 559 = .ok (.aload_n 0, 1) := by decide +kernel
theorem d_law_560 : decode code 560 = .ok (.iload_n 3, 1) := by decide +kernel
theorem d_law_561 : decode code 561 = .ok (.iconst 1, 1) := by decide +kernel
theorem d_law_562 : decode code 562 = .ok (.iadd, 1) := by decide +kernel
theorem d_law_563 : decode code 563 = .ok (.iaload, 1) := by decide +kernel
theorem d_law_564 : decode code 564 = .ok (.invokevirtual 66, 3) := by decide +kernel
theorem d_law_567 : decode code 567 = .ok (.aload_n 2, 1) := by decide +kernel
theorem d_law_568 : decode code 568 = .ok (.aload_n 0, 1) := by decide +kernel
theorem d_law_569 : decode code 569 = .ok (.iload_n 3, 1) := by decide +kernel
theorem d_law_570 : decode code 570 = .ok (.iconst 1, 1) := by decide +kernel
theorem d_law_571 : decode code 571 = .ok (.iadd, 1) := by decide +kernel
theorem d_law_572 : decode code 572 = .ok (.iaload, 1) := by decide +kernel
theorem d_law_573 : decode code 573 = .ok (.invokevirtual 69, 3) := by decide +kernel
theorem d_law_576 : decode code 576 = .ok (.if_icmp .eq 740, 3) := by decide +kernel
theorem d_law_581 : decode code 581 = .ok (.aload_n 1, 1) := by decide +kernel
theorem d_law_582 : decode code 582 = .ok (.aload_n 0, 1) := by decide +kernel
theorem d_law_583 : decode code 583 = .ok (.iload_n 3, 1) := by decide +kernel
theorem d_law_584 : decode code 584 = .ok (.iconst 1, 1) := by decide +kernel
theorem d_law_585 : decode code 585 = .ok (.iadd, 1) := by decide +kernel
theorem d_law_586 : decode code 586 = .ok (.iaload, 1) := by decide +kernel
theorem d_law_587 : decode code 587 = .ok (.invokevirtual 70, 3) := by decide +kernel
theorem d_law_590 : decode code 590 = .ok (.aload_n 2, 1) := by decide +kernel
theorem d_law_591 : decode code 591 = .ok (.aload_n 0, 1) := by decide +kernel
theorem d_law_592 : decode code 592 = .ok (.iload_n 3, 1) := by decide +kernel
theorem d_law_593 : decode code 593 = .ok (.iconst 1, 1) := by decide +kernel
theorem d_law_594 : decode code 594 = .ok (.iadd, 1) := by decide +kernel
theorem d_law_595 : decode code 595 = .ok (.iaload, 1) := by decide +kernel
theorem d_law_596 : decode code 596 = .ok (.invokevirtual 73, 3) := by decide +kernel
theorem d_law_599 : decode code 599 = .ok (.if_icmp .eq 717, 3) := by decide +kernel
theorem d_law_604 : decode code 604 = .ok (.aload_n 1, 1) := by decide +kernel
theorem d_law_605 : decode code 605 = .ok (.aload_n 0, 1) := by decide +kernel
theorem d_law_606 : decode code 606 = .ok (.iload_n 3, 1) := by decide +kernel
theorem d_law_607 : decode code 607 = .ok (.iconst 1, 1) := by decide +kernel
theorem d_law_608 : decode code 608 = .ok (.iadd, 1) := by decide +kernel
theorem d_law_609 : decode code 609 = .ok (.iaload, 1) := by decide +kernel
theorem d_law_610 : decode code 610 = .ok (.invokevirtual 74, 3) := by decide +kernel
theorem d_law_613 : decode code 613 = .ok (.aload_n 2, 1) := by decide +kernel
theorem d_law_614 : decode code 614 = .ok (.aload_n 0, 1) := by decide +kernel
theorem d_law_615 : decode code 615 = .ok (.iload_n 3, 1) := by decide +kernel
theorem d_law_616 : decode code 616 = .ok (.iconst 1, 1) := by decide +kernel
theorem d_law_617 : decode code 617 = .ok (.iadd, 1) := by decide +kernel
theorem d_law_618 : decode code 618 = .ok (.iaload, 1) := by decide +kernel
theorem d_law_619 : decode code 619 = .ok (.invokevirtual 77, 3) := by decide +kernel
theorem d_law_622 : decode code 622 = .ok (.if_icmp .eq 694, 3) := by decide +kernel
theorem d_law_627 : decode code 627 = .ok (.aload_n 1, 1) := by decide +kernel
theorem d_law_628 : decode code 628 = .ok (.aload_n 0, 1) := by decide +kernel
theorem d_law_629 : decode code 629 = .ok (.iload_n 3, 1) := by decide +kernel
theorem d_law_630 : decode code 630 = .ok (.iconst 1, 1) := by decide +kernel
theorem d_law_631 : decode code 631 = .ok (.iadd, 1) := by decide +kernel
theorem d_law_632 : decode code 632 = .ok (.iaload, 1) := by decide +kernel
theorem d_law_633 : decode code 633 = .ok (.invokevirtual 78, 3) := by decide +kernel
theorem d_law_636 : decode code 636 = .ok (.aload_n 2, 1) := by decide +kernel
theorem d_law_637 : decode code 637 = .ok (.aload_n 0, 1) := by decide +kernel
theorem d_law_638 : decode code 638 = .ok (.iload_n 3, 1) := by decide +kernel
theorem d_law_639 : decode code 639 = .ok (.iconst 1, 1) := by decide +kernel
theorem d_law_640 : decode code 640 = .ok (.iadd, 1) := by decide +kernel
theorem d_law_641 : decode code 641 = .ok (.iaload, 1) := by decide +kernel
theorem d_law_642 : decode code 642 = .ok (.invokevirtual 81, 3) := by decide +kernel
theorem d_law_645 : decode code 645 = .ok (.if_icmp .eq 671, 3) := by decide +kernel
theorem d_law_650 : decode code 650 = .ok (.aload_n 1, 1) := by decide +kernel
theorem d_law_651 : decode code 651 = .ok (.aload_n 0, 1) := by decide +kernel
theorem d_law_652 : decode code 652 = .ok (.iload_n 3, 1) := by decide +kernel
theorem d_law_653 : decode code 653 = .ok (.iconst 1, 1) := by decide +kernel
theorem d_law_654 : decode code 654 = .ok (.iadd, 1) := by decide +kernel
theorem d_law_655 : decode code 655 = .ok (.iaload, 1) := by decide +kernel
theorem d_law_656 : decode code 656 = .ok (.invokevirtual 82, 3) := by decide +kernel
theorem d_law_659 : decode code 659 = .ok (.aload_n 2, 1) := by decide +kernel
theorem d_law_660 : decode code 660 = .ok (.aload_n 0, 1) := by decide +kernel
theorem d_law_661 : decode code 661 = .ok (.iload_n 3, 1) := by decide +kernel
theorem d_law_662 : decode code 662 = .ok (.iconst 1, 1) := by decide +kernel
theorem d_law_663 : decode code 663 = .ok (.iadd, 1) := by decide +kernel
theorem d_law_664 : decode code 664 = .ok (.iaload, 1) := by decide +kernel
theorem d_law_665 : decode code 665 = .ok (.invokevirtual 85, 3) := by decide +kernel
theorem d_law_668 : decode code 668 = .ok (.if_icmp .eq 648, 3) := by decide +kernel
theorem d_law_673 : decode code 673 = .ok (.aload_n 1, 1) := by decide +kernel
theorem d_law_674 : decode code 674 = .ok (.aload_n 0, 1) := by decide +kernel
theorem d_law_675 : decode code 675 = .ok (.iload_n 3, 1) := by decide +kernel
theorem d_law_676 : decode code 676 = .ok (.iconst 1, 1) := by decide +kernel
theorem d_law_677 : decode code 677 = .ok (.iadd, 1) := by decide +kernel
theorem d_law_678 : decode code 678 = .ok (.iaload, 1) := by decide +kernel
theorem d_law_679 : decode code 679 = .ok (.aload_n 0, 1) := by decide +kernel
theorem d_law_680 : decode code 680 = .ok (.iload_n 3, 1) := by decide +kernel
theorem d_law_681 : decode code 681 = .ok (.iconst 2, 1) := by decide +kernel
theorem d_law_682 : decode code 682 = .ok (.iadd, 1) := by decide +kernel
theorem d_law_683 : decode code 683 = .ok (.iaload, 1) := by decide +kernel
theorem d_law_684 : decode code 684 = .ok (.invokevirtual 86, 3) := by decide +kernel
theorem d_law_687 : decode code 687 = .ok (.aload_n 2, 1) := by decide +kernel
theorem d_law_688 : decode code 688 = .ok (.aload_n 0, 1) := by decide +kernel
theorem d_law_689 : decode code 689 = .ok (.iload_n 3, 1) := by decide +kernel
theorem d_law_690 : decode code 690 = .ok (.iconst 1, 1) := by decide +kernel
theorem d_law_691 : decode code 691 = .ok (.iadd, 1) := by decide +kernel
theorem d_law_692 : decode code 692 = .ok (.iaload, 1) := by decide +kernel
theorem d_law_693 : decode code 693 = .ok (.aload_n 0, 1) := by decide +kernel
theorem d_law_694 : decode code 694 = .ok (.iload_n 3, 1) := by decide +kernel
theorem d_law_695 : decode code 695 = .ok (.iconst 2, 1) := by decide +kernel
theorem d_law_696 : decode code 696 = .ok (.iadd, 1) := by decide +kernel
theorem d_law_697 : decode code 697 = .ok (.iaload, 1) := by decide +kernel
theorem d_law_698 : decode code 698 = .ok (.invokevirtual 89, 3) := by decide +kernel
theorem d_law_701 : decode code 701 = .ok (.if_icmp .eq 615, 3) := by decide +kernel
theorem d_law_706 : decode code 706 = .ok (.aload_n 1, 1) := by decide +kernel
theorem d_law_707 : decode code 707 = .ok (.aload_n 0, 1) := by decide +kernel
theorem d_law_708 : decode code 708 = .ok (.iload_n 3, 1) := by decide +kernel
theorem d_law_709 : decode code 709 = .ok (.iconst 1, 1) := by decide +kernel
theorem d_law_710 : decode code 710 = .ok (.iadd, 1) := by decide +kernel
theorem d_law_711 : decode code 711 = .ok (.iaload, 1) := by decide +kernel
theorem d_law_712 : decode code 712 = .ok (.invokevirtual 90, 3) := by decide +kernel
theorem d_law_715 : decode code 715 = .ok (.aload_n 2, 1) := by decide +kernel
theorem d_law_716 : decode code 716 = .ok (.aload_n 0, 1) := by decide +kernel
theorem d_law_717 : decode code 717 = .ok (.iload_n 3, 1) := by decide +kernel
theorem d_law_718 : decode code 718 = .ok (.iconst 1, 1) := by decide +kernel
theorem d_law_719 : decode code 719 = .ok (.iadd, 1) := by decide +kernel
theorem d_law_720 : decode code 720 = .ok (.iaload, 1) := by decide +kernel
theorem d_law_721 : decode code 721 = .ok (.invokevirtual 93, 3) := by decide +kernel
theorem d_law_724 : decode code 724 = .ok (.if_icmp .eq 592, 3) := by decide +kernel
theorem d_law_729 : decode code 729 = .ok (.aload_n 1, 1) := by decide +kernel
theorem d_law_730 : decode code 730 = .ok (.aload_n 0, 1) := by decide +kernel
theorem d_law_731 : decode code 731 = .ok (.iload_n 3, 1) := by decide +kernel
theorem d_law_732 : decode code 732 = .ok (.iconst 1, 1) := by decide +kernel
theorem d_law_733 : decode code 733 = .ok (.iadd, 1) := by decide +kernel
theorem d_law_734 : decode code 734 = .ok (.iaload, 1) := by decide +kernel
theorem d_law_735 : decode code 735 = .ok (.aload_n 0, 1) := by decide +kernel
theorem d_law_736 : decode code 736 = .ok (.iload_n 3, 1) := by decide +kernel
theorem d_law_737 : decode code 737 = .ok (.iconst 2, 1) := by decide +kernel
theorem d_law_738 : decode code 738 = .ok (.iadd, 1) := by decide +kernel
theorem d_law_739 : decode code 739 = .ok (.iaload, 1) := by decide +kernel
theorem d_law_740 : decode code 740 = .ok (.invokevirtual 94, 3) := by decide +kernel
theorem d_law_743 : decode code 743 = .ok (.aload_n 2, 1) := by decide +kernel
theorem d_law_744 : decode code 744 = .ok (.aload_n 0, 1) := by decide +kernel
theorem d_law_745 : decode code 745 = .ok (.iload_n 3, 1) := by decide +kernel
theorem d_law_746 : decode code 746 = .ok (.iconst 1, 1) := by decide +kernel
theorem d_law_747 : decode code 747 = .ok (.iadd, 1) := by decide +kernel
theorem d_law_748 : decode code 748 = .ok (.iaload, 1) := by decide +kernel
theorem d_law_749 : decode code 749 = .ok (.aload_n 0, 1) := by decide +kernel
theorem d_law_750 : decode code 750 = .ok (.iload_n 3, 1) := by decide +kernel
theorem d_law_751 : decode code 751 = .ok (.iconst 2, 1) := by decide +kernel
theorem d_law_752 : decode code 752 = .ok (.iadd, 1) := by decide +kernel
theorem d_law_753 : decode code 753 = .ok (.iaload, 1) := by decide +kernel
theorem d_law_754 : decode code 754 = .ok (.invokevirtual 97, 3) := by decide +kernel
theorem d_law_757 : decode code 757 = .ok (.if_icmp .eq 559, 3) := by decide +kernel
theorem d_law_762 : decode code 762 = .ok (.aload_n 1, 1) := by decide +kernel
theorem d_law_763 : decode code 763 = .ok (.aload_n 0, 1) := by decide +kernel
theorem d_law_764 : decode code 764 = .ok (.iload_n 3, 1) := by decide +kernel
theorem d_law_765 : decode code 765 = .ok (.iconst 1, 1) := by decide +kernel
theorem d_law_766 : decode code 766 = .ok (.iadd, 1) := by decide +kernel
theorem d_law_767 : decode code 767 = .ok (.iaload, 1) := by decide +kernel
theorem d_law_768 : decode code 768 = .ok (.aload_n 0, 1) := by decide +kernel
theorem d_law_769 : decode code 769 = .ok (.iload_n 3, 1) := by decide +kernel
theorem d_law_770 : decode code 770 = .ok (.iconst 2, 1) := by decide +kernel
theorem d_law_771 : decode code 771 = .ok (.iadd, 1) := by decide +kernel
theorem d_law_772 : decode code 772 = .ok (.iaload, 1) := by decide +kernel
theorem d_law_773 : decode code 773 = .ok (.invokevirtual 98, 3) := by decide +kernel
theorem d_law_776 : decode code 776 = .ok (.aload_n 2, 1) := by decide +kernel
theorem d_law_777 : decode code 777 = .ok (.aload_n 0, 1) := by decide +kernel
theorem d_law_778 : decode code 778 = .ok (.iload_n 3, 1) := by decide +kernel
theorem d_law_779 : decode code 779 = .ok (.iconst 1, 1) := by decide +kernel
theorem d_law_780 : decode code 780 = .ok (.iadd, 1) := by decide +kernel
theorem d_law_781 : decode code 781 = .ok (.iaload, 1) := by decide +kernel
theorem d_law_782 : decode code 782 = .ok (.aload_n 0, 1) := by decide +kernel
theorem d_law_783 : decode code 783 = .ok (.iload_n 3, 1) := by decide +kernel
theorem d_law_784 : decode code 784 = .ok (.iconst 2, 1) := by decide +kernel
theorem d_law_785 : decode code 785 = .ok (.iadd, 1) := by decide +kernel
theorem d_law_786 : decode code 786 = .ok (.iaload, 1) := by decide +kernel
theorem d_law_787 : decode code 787 = .ok (.invokevirtual 102, 3) := by decide +kernel
theorem d_law_790 : decode code 790 = .ok (.lcmp, 1) := by decide +kernel
theorem d_law_791 : decode code 791 = .ok (.ifCond .eq 525, 3) := by decide +kernel
theorem d_law_796 : decode code 796 = .ok (.aload_n 1, 1) := by decide +kernel
theorem d_law_797 : decode code 797 = .ok (.aload_n 0, 1) := by decide +kernel
theorem d_law_798 : decode code 798 = .ok (.iload_n 3, 1) := by decide +kernel
theorem d_law_799 : decode code 799 = .ok (.iconst 1, 1) := by decide +kernel
theorem d_law_800 : decode code 800 = .ok (.iadd, 1) := by decide +kernel
theorem d_law_801 : decode code 801 = .ok (.iaload, 1) := by decide +kernel
theorem d_law_802 : decode code 802 = .ok (.invokevirtual 103, 3) := by decide +kernel
theorem d_law_805 : decode code 805 = .ok (.aload_n 2, 1) := by decide +kernel
theorem d_law_806 : decode code 806 = .ok (.aload_n 0, 1) := by decide +kernel
theorem d_law_807 : decode code 807 = .ok (.iload_n 3, 1) := by decide +kernel
theorem d_law_808 : decode code 808 = .ok (.iconst 1, 1) := by decide +kernel
theorem d_law_809 : decode code 809 = .ok (.iadd, 1) := by decide +kernel
theorem d_law_810 : decode code 810 = .ok (.iaload, 1) := by decide +kernel
theorem d_law_811 : decode code 811 = .ok (.invokevirtual 107, 3) := by decide +kernel
theorem d_law_814 : decode code 814 = .ok (.lcmp, 1) := by decide +kernel
theorem d_law_815 : decode code 815 = .ok (.ifCond .eq 501, 3) := by decide +kernel
theorem d_law_820 : decode code 820 = .ok (.aload_n 1, 1) := by decide +kernel
theorem d_law_821 : decode code 821 = .ok (.aload_n 0, 1) := by decide +kernel
theorem d_law_822 : decode code 822 = .ok (.iload_n 3, 1) := by decide +kernel
theorem d_law_823 : decode code 823 = .ok (.iconst 1, 1) := by decide +kernel
theorem d_law_824 : decode code 824 = .ok (.iadd, 1) := by decide +kernel
theorem d_law_825 : decode code 825 = .ok (.iaload, 1) := by decide +kernel
theorem d_law_826 : decode code 826 = .ok (.aload_n 0, 1) := by decide +kernel
theorem d_law_827 : decode code 827 = .ok (.iload_n 3, 1) := by decide +kernel
theorem d_law_828 : decode code 828 = .ok (.iconst 2, 1) := by decide +kernel
theorem d_law_829 : decode code 829 = .ok (.iadd, 1) := by decide +kernel
theorem d_law_830 : decode code 830 = .ok (.iaload, 1) := by decide +kernel
theorem d_law_831 : decode code 831 = .ok (.invokevirtual 108, 3) := by decide +kernel
theorem d_law_834 : decode code 834 = .ok (.aload_n 2, 1) := by decide +kernel
theorem d_law_835 : decode code 835 = .ok (.aload_n 0, 1) := by decide +kernel
theorem d_law_836 : decode code 836 = .ok (.iload_n 3, 1) := by decide +kernel
theorem d_law_837 : decode code 837 = .ok (.iconst 1, 1) := by decide +kernel
theorem d_law_838 : decode code 838 = .ok (.iadd, 1) := by decide +kernel
theorem d_law_839 : decode code 839 = .ok (.iaload, 1) := by decide +kernel
theorem d_law_840 : decode code 840 = .ok (.aload_n 0, 1) := by decide +kernel
theorem d_law_841 : decode code 841 = .ok (.iload_n 3, 1) := by decide +kernel
theorem d_law_842 : decode code 842 = .ok (.iconst 2, 1) := by decide +kernel
theorem d_law_843 : decode code 843 = .ok (.iadd, 1) := by decide +kernel
theorem d_law_844 : decode code 844 = .ok (.iaload, 1) := by decide +kernel
theorem d_law_845 : decode code 845 = .ok (.invokevirtual 111, 3) := by decide +kernel
theorem d_law_848 : decode code 848 = .ok (.if_icmp .eq 468, 3) := by decide +kernel
theorem d_law_853 : decode code 853 = .ok (.aload_n 1, 1) := by decide +kernel
theorem d_law_854 : decode code 854 = .ok (.aload_n 0, 1) := by decide +kernel
theorem d_law_855 : decode code 855 = .ok (.iload_n 3, 1) := by decide +kernel
theorem d_law_856 : decode code 856 = .ok (.iconst 1, 1) := by decide +kernel
theorem d_law_857 : decode code 857 = .ok (.iadd, 1) := by decide +kernel
theorem d_law_858 : decode code 858 = .ok (.iaload, 1) := by decide +kernel
theorem d_law_859 : decode code 859 = .ok (.invokevirtual 112, 3) := by decide +kernel
theorem d_law_862 : decode code 862 = .ok (.aload_n 2, 1) := by decide +kernel
theorem d_law_863 : decode code 863 = .ok (.aload_n 0, 1) := by decide +kernel
theorem d_law_864 : decode code 864 = .ok (.iload_n 3, 1) := by decide +kernel
theorem d_law_865 : decode code 865 = .ok (.iconst 1, 1) := by decide +kernel
theorem d_law_866 : decode code 866 = .ok (.iadd, 1) := by decide +kernel
theorem d_law_867 : decode code 867 = .ok (.iaload, 1) := by decide +kernel
theorem d_law_868 : decode code 868 = .ok (.invokevirtual 115, 3) := by decide +kernel
theorem d_law_871 : decode code 871 = .ok (.if_icmp .eq 445, 3) := by decide +kernel
theorem d_law_876 : decode code 876 = .ok (.aload_n 1, 1) := by decide +kernel
theorem d_law_877 : decode code 877 = .ok (.aload_n 0, 1) := by decide +kernel
theorem d_law_878 : decode code 878 = .ok (.iload_n 3, 1) := by decide +kernel
theorem d_law_879 : decode code 879 = .ok (.iconst 1, 1) := by decide +kernel
theorem d_law_880 : decode code 880 = .ok (.iadd, 1) := by decide +kernel
theorem d_law_881 : decode code 881 = .ok (.iaload, 1) := by decide +kernel
theorem d_law_882 : decode code 882 = .ok (.aload_n 0, 1) := by decide +kernel
theorem d_law_883 : decode code 883 = .ok (.iload_n 3, 1) := by decide +kernel
theorem d_law_884 : decode code 884 = .ok (.iconst 2, 1) := by decide +kernel
theorem d_law_885 : decode code 885 = .ok (.iadd, 1) := by decide +kernel
theorem d_law_886 : decode code 886 = .ok (.iaload, 1) := by decide +kernel
theorem d_law_887 : decode code 887 = .ok (.invokevirtual 116, 3) := by decide +kernel
theorem d_law_890 : decode code 890 = .ok (.aload_n 2, 1) := by decide +kernel
theorem d_law_891 : decode code 891 = .ok (.aload_n 0, 1) := by decide +kernel
theorem d_law_892 : decode code 892 = .ok (.iload_n 3, 1) := by decide +kernel
theorem d_law_893 : decode code 893 = .ok (.iconst 1, 1) := by decide +kernel
theorem d_law_894 : decode code 894 = .ok (.iadd, 1) := by decide +kernel
theorem d_law_895 : decode code 895 = .ok (.iaload, 1) := by decide +kernel
theorem d_law_896 : decode code 896 = .ok (.aload_n 0, 1) := by decide +kernel
theorem d_law_897 : decode code 897 = .ok (.iload_n 3, 1) := by decide +kernel
theorem d_law_898 : decode code 898 = .ok (.iconst 2, 1) := by decide +kernel
theorem d_law_899 : decode code 899 = .ok (.iadd, 1) := by decide +kernel
theorem d_law_900 : decode code 900 = .ok (.iaload, 1) := by decide +kernel
theorem d_law_901 : decode code 901 = .ok (.invokevirtual 119, 3) := by decide +kernel
theorem d_law_904 : decode code 904 = .ok (.if_icmp .eq 412, 3) := by decide +kernel
theorem d_law_909 : decode code 909 = .ok (.aload_n 1, 1) := by decide +kernel
theorem d_law_910 : decode code 910 = .ok (.invokevirtual 120, 3) := by decide +kernel
theorem d_law_913 : decode code 913 = .ok (.aload_n 2, 1) := by decide +kernel
theorem d_law_914 : decode code 914 = .ok (.invokevirtual 123, 3) := by decide +kernel
theorem d_law_917 : decode code 917 = .ok (.if_icmp .eq 399, 3) := by decide +kernel
theorem d_law_922 : decode code 922 = .ok (.aload_n 1, 1) := by decide +kernel
theorem d_law_923 : decode code 923 = .ok (.aload_n 0, 1) := by decide +kernel
theorem d_law_924 : decode code 924 = .ok (.iload_n 3, 1) := by decide +kernel
theorem d_law_925 : decode code 925 = .ok (.iconst 1, 1) := by decide +kernel
theorem d_law_926 : decode code 926 = .ok (.iadd, 1) := by decide +kernel
theorem d_law_927 : decode code 927 = .ok (.iaload, 1) := by decide +kernel
theorem d_law_928 : decode code 928 = .ok (.aload_n 0, 1) := by decide +kernel
theorem d_law_929 : decode code 929 = .ok (.iload_n 3, 1) := by decide +kernel
theorem d_law_930 : decode code 930 = .ok (.iconst 2, 1) := by decide +kernel
theorem d_law_931 : decode code 931 = .ok (.iadd, 1) := by decide +kernel
theorem d_law_932 : decode code 932 = .ok (.iaload, 1) := by decide +kernel
theorem d_law_933 : decode code 933 = .ok (.invokevirtual 124, 3) := by decide +kernel
theorem d_law_936 : decode code 936 = .ok (.aload_n 2, 1) := by decide +kernel
theorem d_law_937 : decode code 937 = .ok (.aload_n 0, 1) := by decide +kernel
theorem d_law_938 : decode code 938 = .ok (.iload_n 3, 1) := by decide +kernel
theorem d_law_939 : decode code 939 = .ok (.iconst 1, 1) := by decide +kernel
theorem d_law_940 : decode code 940 = .ok (.iadd, 1) := by decide +kernel
theorem d_law_941 : decode code 941 = .ok (.iaload, 1) := by decide +kernel
theorem d_law_942 : decode code 942 = .ok (.aload_n 0, 1) := by decide +kernel
theorem d_law_943 : decode code 943 = .ok (.iload_n 3, 1) := by decide +kernel
theorem d_law_944 : decode code 944 = .ok (.iconst 2, 1) := by decide +kernel
theorem d_law_945 : decode code 945 = .ok (.iadd, 1) := by decide +kernel
theorem d_law_946 : decode code 946 = .ok (.iaload, 1) := by decide +kernel
theorem d_law_947 : decode code 947 = .ok (.invokevirtual 127, 3) := by decide +kernel
theorem d_law_950 : decode code 950 = .ok (.if_icmp .eq 366, 3) := by decide +kernel
theorem d_law_955 : decode code 955 = .ok (.aload_n 1, 1) := by decide +kernel
theorem d_law_956 : decode code 956 = .ok (.invokevirtual 128, 3) := by decide +kernel
theorem d_law_959 : decode code 959 = .ok (.aload_n 2, 1) := by decide +kernel
theorem d_law_960 : decode code 960 = .ok (.invokevirtual 131, 3) := by decide +kernel
theorem d_law_963 : decode code 963 = .ok (.if_icmp .eq 353, 3) := by decide +kernel
theorem d_law_968 : decode code 968 = .ok (.aload_n 1, 1) := by decide +kernel
theorem d_law_969 : decode code 969 = .ok (.invokevirtual 132, 3) := by decide +kernel
theorem d_law_972 : decode code 972 = .ok (.aload_n 2, 1) := by decide +kernel
theorem d_law_973 : decode code 973 = .ok (.invokevirtual 135, 3) := by decide +kernel
theorem d_law_976 : decode code 976 = .ok (.if_icmp .eq 340, 3) := by decide +kernel
theorem d_law_981 : decode code 981 = .ok (.aload_n 1, 1) := by decide +kernel
theorem d_law_982 : decode code 982 = .ok (.aload_n 0, 1) := by decide +kernel
theorem d_law_983 : decode code 983 = .ok (.iload_n 3, 1) := by decide +kernel
theorem d_law_984 : decode code 984 = .ok (.iconst 1, 1) := by decide +kernel
theorem d_law_985 : decode code 985 = .ok (.iadd, 1) := by decide +kernel
theorem d_law_986 : decode code 986 = .ok (.iaload, 1) := by decide +kernel
theorem d_law_987 : decode code 987 = .ok (.aload_n 0, 1) := by decide +kernel
theorem d_law_988 : decode code 988 = .ok (.iload_n 3, 1) := by decide +kernel
theorem d_law_989 : decode code 989 = .ok (.iconst 2, 1) := by decide +kernel
theorem d_law_990 : decode code 990 = .ok (.iadd, 1) := by decide +kernel
theorem d_law_991 : decode code 991 = .ok (.iaload, 1) := by decide +kernel
theorem d_law_992 : decode code 992 = .ok (.aload_n 0, 1) := by decide +kernel
theorem d_law_993 : decode code 993 = .ok (.iload_n 3, 1) := by decide +kernel
theorem d_law_994 : decode code 994 = .ok (.iconst 3, 1) := by decide +kernel
theorem d_law_995 : decode code 995 = .ok (.iadd, 1) := by decide +kernel
theorem d_law_996 : decode code 996 = .ok (.iaload, 1) := by decide +kernel
theorem d_law_997 : decode code 997 = .ok (.invokevirtual 136, 3) := by decide +kernel
theorem d_law_1000 : decode code 1000 = .ok (.aload_n 2, 1) := by decide +kernel
theorem d_law_1001 : decode code 1001 = .ok (.aload_n 0, 1) := by decide +kernel
theorem d_law_1002 : decode code 1002 = .ok (.iload_n 3, 1) := by decide +kernel
theorem d_law_1003 : decode code 1003 = .ok (.iconst 1, 1) := by decide +kernel
theorem d_law_1004 : decode code 1004 = .ok (.iadd, 1) := by decide +kernel
theorem d_law_1005 : decode code 1005 = .ok (.iaload, 1) := by decide +kernel
theorem d_law_1006 : decode code 1006 = .ok (.aload_n 0, 1) := by decide +kernel
theorem d_law_1007 : decode code 1007 = .ok (.iload_n 3, 1) := by decide +kernel
theorem d_law_1008 : decode code 1008 = .ok (.iconst 2, 1) := by decide +kernel
theorem d_law_1009 : decode code 1009 = .ok (.iadd, 1) := by decide +kernel
theorem d_law_1010 : decode code 1010 = .ok (.iaload, 1) := by decide +kernel
theorem d_law_1011 : decode code 1011 = .ok (.aload_n 0, 1) := by decide +kernel
theorem d_law_1012 : decode code 1012 = .ok (.iload_n 3, 1) := by decide +kernel
theorem d_law_1013 : decode code 1013 = .ok (.iconst 3, 1) := by decide +kernel
theorem d_law_1014 : decode code 1014 = .ok (.iadd, 1) := by decide +kernel
theorem d_law_1015 : decode code 1015 = .ok (.iaload, 1) := by decide +kernel
theorem d_law_1016 : decode code 1016 = .ok (.invokevirtual 139, 3) := by decide +kernel
theorem d_law_1019 : decode code 1019 = .ok (.if_icmp .eq 297, 3) := by decide +kernel
theorem d_law_1024 : decode code 1024 = .ok (.aload_n 1, 1) := by decide +kernel
theorem d_law_1025 : decode code 1025 = .ok (.aload_n 0, 1) := by decide +kernel
theorem d_law_1026 : decode code 1026 = .ok (.iload_n 3, 1) := by decide +kernel
theorem d_law_1027 : decode code 1027 = .ok (.iconst 1, 1) := by decide +kernel
theorem d_law_1028 : decode code 1028 = .ok (.iadd, 1) := by decide +kernel
theorem d_law_1029 : decode code 1029 = .ok (.iaload, 1) := by decide +kernel
theorem d_law_1030 : decode code 1030 = .ok (.invokevirtual 140, 3) := by decide +kernel
theorem d_law_1033 : decode code 1033 = .ok (.aload_n 2, 1) := by decide +kernel
theorem d_law_1034 : decode code 1034 = .ok (.aload_n 0, 1) := by decide +kernel
theorem d_law_1035 : decode code 1035 = .ok (.iload_n 3, 1) := by decide +kernel
theorem d_law_1036 : decode code 1036 = .ok (.iconst 1, 1) := by decide +kernel
theorem d_law_1037 : decode code 1037 = .ok (.iadd, 1) := by decide +kernel
theorem d_law_1038 : decode code 1038 = .ok (.iaload, 1) := by decide +kernel
theorem d_law_1039 : decode code 1039 = .ok (.invokevirtual 143, 3) := by decide +kernel
theorem d_law_1042 : decode code 1042 = .ok (.if_icmp .eq 274, 3) := by decide +kernel
theorem d_law_1047 : decode code 1047 = .ok (.aload_n 1, 1) := by decide +kernel
theorem d_law_1048 : decode code 1048 = .ok (.aload_n 0, 1) := by decide +kernel
theorem d_law_1049 : decode code 1049 = .ok (.iload_n 3, 1) := by decide +kernel
theorem d_law_1050 : decode code 1050 = .ok (.iconst 1, 1) := by decide +kernel
theorem d_law_1051 : decode code 1051 = .ok (.iadd, 1) := by decide +kernel
theorem d_law_1052 : decode code 1052 = .ok (.iaload, 1) := by decide +kernel
theorem d_law_1053 : decode code 1053 = .ok (.aload_n 0, 1) := by decide +kernel
theorem d_law_1054 : decode code 1054 = .ok (.iload_n 3, 1) := by decide +kernel
theorem d_law_1055 : decode code 1055 = .ok (.iconst 2, 1) := by decide +kernel
theorem d_law_1056 : decode code 1056 = .ok (.iadd, 1) := by decide +kernel
theorem d_law_1057 : decode code 1057 = .ok (.iaload, 1) := by decide +kernel
theorem d_law_1058 : decode code 1058 = .ok (.invokevirtual 144, 3) := by decide +kernel
theorem d_law_1061 : decode code 1061 = .ok (.aload_n 2, 1) := by decide +kernel
theorem d_law_1062 : decode code 1062 = .ok (.aload_n 0, 1) := by decide +kernel
theorem d_law_1063 : decode code 1063 = .ok (.iload_n 3, 1) := by decide +kernel
theorem d_law_1064 : decode code 1064 = .ok (.iconst 1, 1) := by decide +kernel
theorem d_law_1065 : decode code 1065 = .ok (.iadd, 1) := by decide +kernel
theorem d_law_1066 : decode code 1066 = .ok (.iaload, 1) := by decide +kernel
theorem d_law_1067 : decode code 1067 = .ok (.aload_n 0, 1) := by decide +kernel
theorem d_law_1068 : decode code 1068 = .ok (.iload_n 3, 1) := by decide +kernel
theorem d_law_1069 : decode code 1069 = .ok (.iconst 2, 1) := by decide +kernel
theorem d_law_1070 : decode code 1070 = .ok (.iadd, 1) := by decide +kernel
theorem d_law_1071 : decode code 1071 = .ok (.iaload, 1) := by decide +kernel
theorem d_law_1072 : decode code 1072 = .ok (.invokevirtual 147, 3) := by decide +kernel
theorem d_law_1075 : decode code 1075 = .ok (.if_icmp .eq 241, 3) := by decide +kernel
theorem d_law_1080 : decode code 1080 = .ok (.aload_n 1, 1) := by decide +kernel
theorem d_law_1081 : decode code 1081 = .ok (.aload_n 0, 1) := by decide +kernel
theorem d_law_1082 : decode code 1082 = .ok (.iload_n 3, 1) := by decide +kernel
theorem d_law_1083 : decode code 1083 = .ok (.iconst 1, 1) := by decide +kernel
theorem d_law_1084 : decode code 1084 = .ok (.iadd, 1) := by decide +kernel
theorem d_law_1085 : decode code 1085 = .ok (.iaload, 1) := by decide +kernel
theorem d_law_1086 : decode code 1086 = .ok (.invokevirtual 148, 3) := by decide +kernel
theorem d_law_1089 : decode code 1089 = .ok (.aload_n 2, 1) := by decide +kernel
theorem d_law_1090 : decode code 1090 = .ok (.aload_n 0, 1) := by decide +kernel
theorem d_law_1091 : decode code 1091 = .ok (.iload_n 3, 1) := by decide +kernel
theorem d_law_1092 : decode code 1092 = .ok (.iconst 1, 1) := by decide +kernel
theorem d_law_1093 : decode code 1093 = .ok (.iadd, 1) := by decide +kernel
theorem d_law_1094 : decode code 1094 = .ok (.iaload, 1) := by decide +kernel
theorem d_law_1095 : decode code 1095 = .ok (.invokevirtual 151, 3) := by decide +kernel
theorem d_law_1098 : decode code 1098 = .ok (.if_icmp .eq 218, 3) := by decide +kernel
theorem d_law_1103 : decode code 1103 = .ok (.aload_n 1, 1) := by decide +kernel
theorem d_law_1104 : decode code 1104 = .ok (.aload_n 0, 1) := by decide +kernel
theorem d_law_1105 : decode code 1105 = .ok (.iload_n 3, 1) := by decide +kernel
theorem d_law_1106 : decode code 1106 = .ok (.iconst 1, 1) := by decide +kernel
theorem d_law_1107 : decode code 1107 = .ok (.iadd, 1) := by decide +kernel
theorem d_law_1108 : decode code 1108 = .ok (.iaload, 1) := by decide +kernel
theorem d_law_1109 : decode code 1109 = .ok (.aload_n 0, 1) := by decide +kernel
theorem d_law_1110 : decode code 1110 = .ok (.iload_n 3, 1) := by decide +kernel
theorem d_law_1111 : decode code 1111 = .ok (.iconst 2, 1) := by decide +kernel
theorem d_law_1112 : decode code 1112 = .ok (.iadd, 1) := by decide +kernel
theorem d_law_1113 : decode code 1113 = .ok (.iaload, 1) := by decide +kernel
theorem d_law_1114 : decode code 1114 = .ok (.aload_n 0, 1) := by decide +kernel
theorem d_law_1115 : decode code 1115 = .ok (.iload_n 3, 1) := by decide +kernel
theorem d_law_1116 : decode code 1116 = .ok (.iconst 3, 1) := by decide +kernel
theorem d_law_1117 : decode code 1117 = .ok (.iadd, 1) := by decide +kernel
theorem d_law_1118 : decode code 1118 = .ok (.iaload, 1) := by decide +kernel
theorem d_law_1119 : decode code 1119 = .ok (.invokevirtual 152, 3) := by decide +kernel
theorem d_law_1122 : decode code 1122 = .ok (.aload_n 2, 1) := by decide +kernel
theorem d_law_1123 : decode code 1123 = .ok (.aload_n 0, 1) := by decide +kernel
theorem d_law_1124 : decode code 1124 = .ok (.iload_n 3, 1) := by decide +kernel
theorem d_law_1125 : decode code 1125 = .ok (.iconst 1, 1) := by decide +kernel
theorem d_law_1126 : decode code 1126 = .ok (.iadd, 1) := by decide +kernel
theorem d_law_1127 : decode code 1127 = .ok (.iaload, 1) := by decide +kernel
theorem d_law_1128 : decode code 1128 = .ok (.aload_n 0, 1) := by decide +kernel
theorem d_law_1129 : decode code 1129 = .ok (.iload_n 3, 1) := by decide +kernel
theorem d_law_1130 : decode code 1130 = .ok (.iconst 2, 1) := by decide +kernel
theorem d_law_1131 : decode code 1131 = .ok (.iadd, 1) := by decide +kernel
theorem d_law_1132 : decode code 1132 = .ok (.iaload, 1) := by decide +kernel
theorem d_law_1133 : decode code 1133 = .ok (.aload_n 0, 1) := by decide +kernel
theorem d_law_1134 : decode code 1134 = .ok (.iload_n 3, 1) := by decide +kernel
theorem d_law_1135 : decode code 1135 = .ok (.iconst 3, 1) := by decide +kernel
theorem d_law_1136 : decode code 1136 = .ok (.iadd, 1) := by decide +kernel
theorem d_law_1137 : decode code 1137 = .ok (.iaload, 1) := by decide +kernel
theorem d_law_1138 : decode code 1138 = .ok (.invokevirtual 155, 3) := by decide +kernel
theorem d_law_1141 : decode code 1141 = .ok (.if_icmp .eq 175, 3) := by decide +kernel
theorem d_law_1146 : decode code 1146 = .ok (.aload_n 1, 1) := by decide +kernel
theorem d_law_1147 : decode code 1147 = .ok (.aload_n 0, 1) := by decide +kernel
theorem d_law_1148 : decode code 1148 = .ok (.iload_n 3, 1) := by decide +kernel
theorem d_law_1149 : decode code 1149 = .ok (.iconst 1, 1) := by decide +kernel
theorem d_law_1150 : decode code 1150 = .ok (.iadd, 1) := by decide +kernel
theorem d_law_1151 : decode code 1151 = .ok (.iaload, 1) := by decide +kernel
theorem d_law_1152 : decode code 1152 = .ok (.aload_n 0, 1) := by decide +kernel
theorem d_law_1153 : decode code 1153 = .ok (.iload_n 3, 1) := by decide +kernel
theorem d_law_1154 : decode code 1154 = .ok (.iconst 2, 1) := by decide +kernel
theorem d_law_1155 : decode code 1155 = .ok (.iadd, 1) := by decide +kernel
theorem d_law_1156 : decode code 1156 = .ok (.iaload, 1) := by decide +kernel
theorem d_law_1157 : decode code 1157 = .ok (.aload_n 0, 1) := by decide +kernel
theorem d_law_1158 : decode code 1158 = .ok (.iload_n 3, 1) := by decide +kernel
theorem d_law_1159 : decode code 1159 = .ok (.iconst 3, 1) := by decide +kernel
theorem d_law_1160 : decode code 1160 = .ok (.iadd, 1) := by decide +kernel
theorem d_law_1161 : decode code 1161 = .ok (.iaload, 1) := by decide +kernel
theorem d_law_1162 : decode code 1162 = .ok (.i2l, 1) := by decide +kernel
theorem d_law_1163 : decode code 1163 = .ok (.bipush 32, 2) := by decide +kernel
theorem d_law_1165 : decode code 1165 = .ok (.lshl, 1) := by decide +kernel
theorem d_law_1166 : decode code 1166 = .ok (.aload_n 0, 1) := by decide +kernel
theorem d_law_1167 : decode code 1167 = .ok (.iload_n 3, 1) := by decide +kernel
theorem d_law_1168 : decode code 1168 = .ok (.iconst 4, 1) := by decide +kernel
theorem d_law_1169 : decode code 1169 = .ok (.iadd, 1) := by decide +kernel
theorem d_law_1170 : decode code 1170 = .ok (.iaload, 1) := by decide +kernel
theorem d_law_1171 : decode code 1171 = .ok (.i2l, 1) := by decide +kernel
theorem d_law_1172 : decode code 1172 = .ok (.ldc2_w 156, 3) := by decide +kernel
theorem d_law_1175 : decode code 1175 = .ok (.land, 1) := by decide +kernel
theorem d_law_1176 : decode code 1176 = .ok (.lor, 1) := by decide +kernel
theorem d_law_1177 : decode code 1177 = .ok (.invokevirtual 158, 3) := by decide +kernel
theorem d_law_1180 : decode code 1180 = .ok (.aload_n 2, 1) := by decide +kernel
theorem d_law_1181 : decode code 1181 = .ok (.aload_n 0, 1) := by decide +kernel
theorem d_law_1182 : decode code 1182 = .ok (.iload_n 3, 1) := by decide +kernel
theorem d_law_1183 : decode code 1183 = .ok (.iconst 1, 1) := by decide +kernel
theorem d_law_1184 : decode code 1184 = .ok (.iadd, 1) := by decide +kernel
theorem d_law_1185 : decode code 1185 = .ok (.iaload, 1) := by decide +kernel
theorem d_law_1186 : decode code 1186 = .ok (.aload_n 0, 1) := by decide +kernel
theorem d_law_1187 : decode code 1187 = .ok (.iload_n 3, 1) := by decide +kernel
theorem d_law_1188 : decode code 1188 = .ok (.iconst 2, 1) := by decide +kernel
theorem d_law_1189 : decode code 1189 = .ok (.iadd, 1) := by decide +kernel
theorem d_law_1190 : decode code 1190 = .ok (.iaload, 1) := by decide +kernel
theorem d_law_1191 : decode code 1191 = .ok (.aload_n 0, 1) := by decide +kernel
theorem d_law_1192 : decode code 1192 = .ok (.iload_n 3, 1) := by decide +kernel
theorem d_law_1193 : decode code 1193 = .ok (.iconst 3, 1) := by decide +kernel
theorem d_law_1194 : decode code 1194 = .ok (.iadd, 1) := by decide +kernel
theorem d_law_1195 : decode code 1195 = .ok (.iaload, 1) := by decide +kernel
theorem d_law_1196 : decode code 1196 = .ok (.i2l, 1) := by decide +kernel
theorem d_law_1197 : decode code 1197 = .ok (.bipush 32, 2) := by decide +kernel
theorem d_law_1199 : decode code 1199 = .ok (.lshl, 1) := by decide +kernel
theorem d_law_1200 : decode code 1200 = .ok (.aload_n 0, 1) := by decide +kernel
theorem d_law_1201 : decode code 1201 = .ok (.iload_n 3, 1) := by decide +kernel
theorem d_law_1202 : decode code 1202 = .ok (.iconst 4, 1) := by decide +kernel
theorem d_law_1203 : decode code 1203 = .ok (.iadd, 1) := by decide +kernel
theorem d_law_1204 : decode code 1204 = .ok (.iaload, 1) := by decide +kernel
theorem d_law_1205 : decode code 1205 = .ok (.i2l, 1) := by decide +kernel
theorem d_law_1206 : decode code 1206 = .ok (.ldc2_w 156, 3) := by decide +kernel
theorem d_law_1209 : decode code 1209 = .ok (.land, 1) := by decide +kernel
theorem d_law_1210 : decode code 1210 = .ok (.lor, 1) := by decide +kernel
theorem d_law_1211 : decode code 1211 = .ok (.invokevirtual 162, 3) := by decide +kernel
theorem d_law_1214 : decode code 1214 = .ok (.if_icmp .eq 102, 3) := by decide +kernel
theorem d_law_1219 : decode code 1219 = .ok (.aload_n 1, 1) := by decide +kernel
theorem d_law_1220 : decode code 1220 = .ok (.aload_n 0, 1) := by decide +kernel
theorem d_law_1221 : decode code 1221 = .ok (.iload_n 3, 1) := by decide +kernel
theorem d_law_1222 : decode code 1222 = .ok (.iconst 1, 1) := by decide +kernel
theorem d_law_1223 : decode code 1223 = .ok (.iadd, 1) := by decide +kernel
theorem d_law_1224 : decode code 1224 = .ok (.iaload, 1) := by decide +kernel
theorem d_law_1225 : decode code 1225 = .ok (.aload_n 0, 1) := by decide +kernel
theorem d_law_1226 : decode code 1226 = .ok (.iload_n 3, 1) := by decide +kernel
theorem d_law_1227 : decode code 1227 = .ok (.iconst 2, 1) := by decide +kernel
theorem d_law_1228 : decode code 1228 = .ok (.iadd, 1) := by decide +kernel
theorem d_law_1229 : decode code 1229 = .ok (.iaload, 1) := by decide +kernel
theorem d_law_1230 : decode code 1230 = .ok (.invokevirtual 163, 3) := by decide +kernel
theorem d_law_1233 : decode code 1233 = .ok (.aload_n 2, 1) := by decide +kernel
theorem d_law_1234 : decode code 1234 = .ok (.aload_n 0, 1) := by decide +kernel
theorem d_law_1235 : decode code 1235 = .ok (.iload_n 3, 1) := by decide +kernel
theorem d_law_1236 : decode code 1236 = .ok (.iconst 1, 1) := by decide +kernel
theorem d_law_1237 : decode code 1237 = .ok (.iadd, 1) := by decide +kernel
theorem d_law_1238 : decode code 1238 = .ok (.iaload, 1) := by decide +kernel
theorem d_law_1239 : decode code 1239 = .ok (.aload_n 0, 1) := by decide +kernel
theorem d_law_1240 : decode code 1240 = .ok (.iload_n 3, 1) := by decide +kernel
theorem d_law_1241 : decode code 1241 = .ok (.iconst 2, 1) := by decide +kernel
theorem d_law_1242 : decode code 1242 = .ok (.iadd, 1) := by decide +kernel
theorem d_law_1243 : decode code 1243 = .ok (.iaload, 1) := by decide +kernel
theorem d_law_1244 : decode code 1244 = .ok (.invokevirtual 166, 3) := by decide +kernel
theorem d_law_1247 : decode code 1247 = .ok (.lcmp, 1) := by decide +kernel
theorem d_law_1248 : decode code 1248 = .ok (.ifCond .eq 68, 3) := by decide +kernel
theorem d_law_1253 : decode code 1253 = .ok (.aload_n 1, 1) := by decide +kernel
theorem d_law_1254 : decode code 1254 = .ok (.aload_n 0, 1) := by decide +kernel
theorem d_law_1255 : decode code 1255 = .ok (.iload_n 3, 1) := by decide +kernel
theorem d_law_1256 : decode code 1256 = .ok (.iconst 1, 1) := by decide +kernel
theorem d_law_1257 : decode code 1257 = .ok (.iadd, 1) := by decide +kernel
theorem d_law_1258 : decode code 1258 = .ok (.iaload, 1) := by decide +kernel
theorem d_law_1259 : decode code 1259 = .ok (.aload_n 0, 1) := by decide +kernel
theorem d_law_1260 : decode code 1260 = .ok (.iload_n 3, 1) := by decide +kernel
theorem d_law_1261 : decode code 1261 = .ok (.iconst 2, 1) := by decide +kernel
theorem d_law_1262 : decode code 1262 = .ok (.iadd, 1) := by decide +kernel
theorem d_law_1263 : decode code 1263 = .ok (.iaload, 1) := by decide +kernel
theorem d_law_1264 : decode code 1264 = .ok (.aload_n 0, 1) := by decide +kernel
theorem d_law_1265 : decode code 1265 = .ok (.iload_n 3, 1) := by decide +kernel
theorem d_law_1266 : decode code 1266 = .ok (.iconst 3, 1) := by decide +kernel
theorem d_law_1267 : decode code 1267 = .ok (.iadd, 1) := by decide +kernel
theorem d_law_1268 : decode code 1268 = .ok (.iaload, 1) := by decide +kernel
theorem d_law_1269 : decode code 1269 = .ok (.aload_n 0, 1) := by decide +kernel
theorem d_law_1270 : decode code 1270 = .ok (.iload_n 3, 1) := by decide +kernel
theorem d_law_1271 : decode code 1271 = .ok (.iconst 4, 1) := by decide +kernel
theorem d_law_1272 : decode code 1272 = .ok (.iadd, 1) := by decide +kernel
theorem d_law_1273 : decode code 1273 = .ok (.iaload, 1) := by decide +kernel
theorem d_law_1274 : decode code 1274 = .ok (.aload_n 0, 1) := by decide +kernel
theorem d_law_1275 : decode code 1275 = .ok (.iload_n 3, 1) := by decide +kernel
theorem d_law_1276 : decode code 1276 = .ok (.iconst 5, 1) := by decide +kernel
theorem d_law_1277 : decode code 1277 = .ok (.iadd, 1) := by decide +kernel
theorem d_law_1278 : decode code 1278 = .ok (.iaload, 1) := by decide +kernel
theorem d_law_1279 : decode code 1279 = .ok (.invokevirtual 167, 3) := by decide +kernel
theorem d_law_1282 : decode code 1282 = .ok (.aload_n 2, 1) := by decide +kernel
theorem d_law_1283 : decode code 1283 = .ok (.aload_n 0, 1) := by decide +kernel
theorem d_law_1284 : decode code 1284 = .ok (.iload_n 3, 1) := by decide +kernel
theorem d_law_1285 : decode code 1285 = .ok (.iconst 1, 1) := by decide +kernel
theorem d_law_1286 : decode code 1286 = .ok (.iadd, 1) := by decide +kernel
theorem d_law_1287 : decode code 1287 = .ok (.iaload, 1) := by decide +kernel
theorem d_law_1288 : decode code 1288 = .ok (.aload_n 0, 1) := by decide +kernel
theorem d_law_1289 : decode code 1289 = .ok (.iload_n 3, 1) := by decide +kernel
theorem d_law_1290 : decode code 1290 = .ok (.iconst 2, 1) := by decide +kernel
theorem d_law_1291 : decode code 1291 = .ok (.iadd, 1) := by decide +kernel
theorem d_law_1292 : decode code 1292 = .ok (.iaload, 1) := by decide +kernel
theorem d_law_1293 : decode code 1293 = .ok (.aload_n 0, 1) := by decide +kernel
theorem d_law_1294 : decode code 1294 = .ok (.iload_n 3, 1) := by decide +kernel
theorem d_law_1295 : decode code 1295 = .ok (.iconst 3, 1) := by decide +kernel
theorem d_law_1296 : decode code 1296 = .ok (.iadd, 1) := by decide +kernel
theorem d_law_1297 : decode code 1297 = .ok (.iaload, 1) := by decide +kernel
theorem d_law_1298 : decode code 1298 = .ok (.aload_n 0, 1) := by decide +kernel
theorem d_law_1299 : decode code 1299 = .ok (.iload_n 3, 1) := by decide +kernel
theorem d_law_1300 : decode code 1300 = .ok (.iconst 4, 1) := by decide +kernel
theorem d_law_1301 : decode code 1301 = .ok (.iadd, 1) := by decide +kernel
theorem d_law_1302 : decode code 1302 = .ok (.iaload, 1) := by decide +kernel
theorem d_law_1303 : decode code 1303 = .ok (.aload_n 0, 1) := by decide +kernel
theorem d_law_1304 : decode code 1304 = .ok (.iload_n 3, 1) := by decide +kernel
theorem d_law_1305 : decode code 1305 = .ok (.iconst 5, 1) := by decide +kernel
theorem d_law_1306 : decode code 1306 = .ok (.iadd, 1) := by decide +kernel
theorem d_law_1307 : decode code 1307 = .ok (.iaload, 1) := by decide +kernel
theorem d_law_1308 : decode code 1308 = .ok (.invokevirtual 171, 3) := by decide +kernel
theorem d_law_1311 : decode code 1311 = .ok (.if_icmp .eq 5, 3) := by decide +kernel
set_option maxRecDepth 10000 in
theorem lc_0 {l : Launch} {D : va_G} {cy : Nat → ClassId} {al alM : Nat → Nat} {z : ZT} {b L : Nat} {xs : Nat → Int32} {Q : State → Prop} {μ : Mm} {ν : Ml} {μ' : Mm} {ν' : Ml} {i : Int32} (C : LC l D cy al alM z b L xs) (I : Inv μ ν μ' ν') (hv : LV i L) (k : ∀ μ1 ν1 μ1' ν1', Inv μ1 ν1 μ1' ν1' → LW l D cy al alM z Q μ1 ν1 μ1' ν1' 1316 [(0, .ref b), (1, .ref (al 0)), (2, .ref (alM 0)), (3, .int i)] []) : LW l D cy al alM z Q μ ν μ' ν' 196 [(0, .ref b), (1, .ref (al 0)), (2, .ref (alM 0)), (3, .int i)] [] := by
  obtain ⟨r, μ1, μ1', e1, e2, I1⟩ := st_pupil I (xs (i + 1).toNatClampNeg) (xs (i + 2).toNatClampNeg)
  refine LW_aload_n C 1 d_law_196 rfl rfl ?_
  refine LW_arg C (v := 1) (by decide) hv.1 rfl rfl d_law_197 d_law_198 d_law_199 d_law_200 d_law_201 ?_
  refine LW_arg C (v := 2) (by decide) hv.2.1 rfl rfl d_law_202 d_law_203 d_law_204 d_law_205 d_law_206 ?_
  refine LX_call C cf_BT_pupil rfl ml_Law_13 im_BT_pupil sl_BT_BT_pupil_BT_pupil (c_BT_pupil C.2.2.2.2.2.2.2.2.2.2.1 e1) (by decide) (by decide) rfl rfl (Nat.le_of_ble_eq_true rfl) d_law_207 ?_
  refine LW_aload_n C 2 d_law_210 rfl rfl ?_
  refine LW_arg C (v := 1) (by decide) hv.1 rfl rfl d_law_211 d_law_212 d_law_213 d_law_214 d_law_215 ?_
  refine LW_arg C (v := 2) (by decide) hv.2.1 rfl rfl d_law_216 d_law_217 d_law_218 d_law_219 d_law_220 ?_
  refine LM_call C cf_M_pupil rfl ml_Law_17 im_M_pupil sl_M_M_pupil_M_pupil (c_M_pupil C.2.2.2.2.2.2.2.2.2.2.2.1 e2) (by decide) (by decide) rfl rfl (Nat.le_of_ble_eq_true rfl) d_law_221 ?_
  refine LW_same C (tgt := 1316) d_law_224 (by decide) ?_
  exact k μ1 ν μ1' ν' I1
set_option maxRecDepth 10000 in
theorem lc_1 {l : Launch} {D : va_G} {cy : Nat → ClassId} {al alM : Nat → Nat} {z : ZT} {b L : Nat} {xs : Nat → Int32} {Q : State → Prop} {μ : Mm} {ν : Ml} {μ' : Mm} {ν' : Ml} {i : Int32} (C : LC l D cy al alM z b L xs) (I : Inv μ ν μ' ν') (hv : LV i L) (k : ∀ μ1 ν1 μ1' ν1', Inv μ1 ν1 μ1' ν1' → LW l D cy al alM z Q μ1 ν1 μ1' ν1' 1316 [(0, .ref b), (1, .ref (al 0)), (2, .ref (alM 0)), (3, .int i)] []) : LW l D cy al alM z Q μ ν μ' ν' 229 [(0, .ref b), (1, .ref (al 0)), (2, .ref (alM 0)), (3, .int i)] [] := by
  obtain ⟨r, μ1', e1, e2, I1⟩ := st_of I (xs (i + 1).toNatClampNeg) (xs (i + 2).toNatClampNeg)
  refine LW_aload_n C 1 d_law_229 rfl rfl ?_
  refine LW_arg C (v := 1) (by decide) hv.1 rfl rfl d_law_230 d_law_231 d_law_232 d_law_233 d_law_234 ?_
  refine LW_arg C (v := 2) (by decide) hv.2.1 rfl rfl d_law_235 d_law_236 d_law_237 d_law_238 d_law_239 ?_
  refine LX_call C cf_BT_of rfl ml_Law_18 im_BT_of sl_BT_BT_of_BT_of (c_BT_of C.2.2.2.2.2.2.2.2.2.2.1 e1) (by decide) (by decide) rfl rfl (Nat.le_of_ble_eq_true rfl) d_law_240 ?_
  refine LW_aload_n C 2 d_law_243 rfl rfl ?_
  refine LW_arg C (v := 1) (by decide) hv.1 rfl rfl d_law_244 d_law_245 d_law_246 d_law_247 d_law_248 ?_
  refine LW_arg C (v := 2) (by decide) hv.2.1 rfl rfl d_law_249 d_law_250 d_law_251 d_law_252 d_law_253 ?_
  refine LM_call C cf_M_of rfl ml_Law_21 im_M_of sl_M_M_of_M_of (c_M_of C.2.2.2.2.2.2.2.2.2.2.2.1 e2) (by decide) (by decide) rfl rfl (Nat.le_of_ble_eq_true rfl) d_law_254 ?_
  refine LW_same C (tgt := 1316) d_law_257 (by decide) ?_
  exact k μ ν μ1' ν' I1
set_option maxRecDepth 10000 in
theorem lc_2 {l : Launch} {D : va_G} {cy : Nat → ClassId} {al alM : Nat → Nat} {z : ZT} {b L : Nat} {xs : Nat → Int32} {Q : State → Prop} {μ : Mm} {ν : Ml} {μ' : Mm} {ν' : Ml} {i : Int32} (C : LC l D cy al alM z b L xs) (I : Inv μ ν μ' ν') (hv : LV i L) (k : ∀ μ1 ν1 μ1' ν1', Inv μ1 ν1 μ1' ν1' → LW l D cy al alM z Q μ1 ν1 μ1' ν1' 1316 [(0, .ref b), (1, .ref (al 0)), (2, .ref (alM 0)), (3, .int i)] []) : LW l D cy al alM z Q μ ν μ' ν' 262 [(0, .ref b), (1, .ref (al 0)), (2, .ref (alM 0)), (3, .int i)] [] := by
  obtain ⟨r, μ1, μ1', e1, e2, I1⟩ := st_move I (xs (i + 1).toNatClampNeg) (xs (i + 2).toNatClampNeg)
  refine LW_aload_n C 1 d_law_262 rfl rfl ?_
  refine LW_arg C (v := 1) (by decide) hv.1 rfl rfl d_law_263 d_law_264 d_law_265 d_law_266 d_law_267 ?_
  refine LW_arg C (v := 2) (by decide) hv.2.1 rfl rfl d_law_268 d_law_269 d_law_270 d_law_271 d_law_272 ?_
  refine LX_call C cf_BT_move rfl ml_Law_22 im_BT_move sl_BT_BT_move_BT_move (c_BT_move C.2.2.2.2.2.2.2.2.2.2.1 e1) (by decide) (by decide) rfl rfl (Nat.le_of_ble_eq_true rfl) d_law_273 ?_
  refine LW_aload_n C 2 d_law_276 rfl rfl ?_
  refine LW_arg C (v := 1) (by decide) hv.1 rfl rfl d_law_277 d_law_278 d_law_279 d_law_280 d_law_281 ?_
  refine LW_arg C (v := 2) (by decide) hv.2.1 rfl rfl d_law_282 d_law_283 d_law_284 d_law_285 d_law_286 ?_
  refine LM_call C cf_M_move rfl ml_Law_25 im_M_move sl_M_M_move_M_move (c_M_move C.2.2.2.2.2.2.2.2.2.2.2.1 e2) (by decide) (by decide) rfl rfl (Nat.le_of_ble_eq_true rfl) d_law_287 ?_
  refine LW_same C (tgt := 1316) d_law_290 (by decide) ?_
  exact k μ1 ν μ1' ν' I1
set_option maxRecDepth 10000 in
theorem lc_3 {l : Launch} {D : va_G} {cy : Nat → ClassId} {al alM : Nat → Nat} {z : ZT} {b L : Nat} {xs : Nat → Int32} {Q : State → Prop} {μ : Mm} {ν : Ml} {μ' : Mm} {ν' : Ml} {i : Int32} (C : LC l D cy al alM z b L xs) (I : Inv μ ν μ' ν') (hv : LV i L) (k : ∀ μ1 ν1 μ1' ν1', Inv μ1 ν1 μ1' ν1' → LW l D cy al alM z Q μ1 ν1 μ1' ν1' 1316 [(0, .ref b), (1, .ref (al 0)), (2, .ref (alM 0)), (3, .int i)] []) : LW l D cy al alM z Q μ ν μ' ν' 295 [(0, .ref b), (1, .ref (al 0)), (2, .ref (alM 0)), (3, .int i)] [] := by
  obtain ⟨r, μ1, μ1', e1, e2, I1⟩ := st_away I (xs (i + 1).toNatClampNeg) (if xs (i + 2).toNatClampNeg = 0 then 0 else 1)
  refine LW_aload_n C 1 d_law_295 rfl rfl ?_
  refine LW_arg C (v := 1) (by decide) hv.1 rfl rfl d_law_296 d_law_297 d_law_298 d_law_299 d_law_300 ?_
  refine LW_arg C (v := 2) (by decide) hv.2.1 rfl rfl d_law_301 d_law_302 d_law_303 d_law_304 d_law_305 ?_
  refine LW_flag C d_law_306 (by decide) d_law_309 d_law_310 (by decide) d_law_313 ?_
  refine LX_call C cf_BT_away rfl ml_Law_26 im_BT_away sl_BT_BT_away_BT_away (c_BT_away C.2.2.2.2.2.2.2.2.2.2.1 e1) (by decide) (by decide) rfl rfl (Nat.le_of_ble_eq_true rfl) d_law_314 ?_
  refine LW_aload_n C 2 d_law_317 rfl rfl ?_
  refine LW_arg C (v := 1) (by decide) hv.1 rfl rfl d_law_318 d_law_319 d_law_320 d_law_321 d_law_322 ?_
  refine LW_arg C (v := 2) (by decide) hv.2.1 rfl rfl d_law_323 d_law_324 d_law_325 d_law_326 d_law_327 ?_
  refine LW_flag C d_law_328 (by decide) d_law_331 d_law_332 (by decide) d_law_335 ?_
  refine LM_call C cf_M_away rfl ml_Law_30 im_M_away sl_M_M_away_M_away (c_M_away C.2.2.2.2.2.2.2.2.2.2.2.1 e2) (by decide) (by decide) rfl rfl (Nat.le_of_ble_eq_true rfl) d_law_336 ?_
  refine LW_same C (tgt := 1316) d_law_339 (by decide) ?_
  exact k μ1 ν μ1' ν' I1
set_option maxRecDepth 10000 in
theorem lc_4 {l : Launch} {D : va_G} {cy : Nat → ClassId} {al alM : Nat → Nat} {z : ZT} {b L : Nat} {xs : Nat → Int32} {Q : State → Prop} {μ : Mm} {ν : Ml} {μ' : Mm} {ν' : Ml} {i : Int32} (C : LC l D cy al alM z b L xs) (I : Inv μ ν μ' ν') (hv : LV i L) (k : ∀ μ1 ν1 μ1' ν1', Inv μ1 ν1 μ1' ν1' → LW l D cy al alM z Q μ1 ν1 μ1' ν1' 1316 [(0, .ref b), (1, .ref (al 0)), (2, .ref (alM 0)), (3, .int i)] []) : LW l D cy al alM z Q μ ν μ' ν' 344 [(0, .ref b), (1, .ref (al 0)), (2, .ref (alM 0)), (3, .int i)] [] := by
  obtain ⟨r, μ1, μ1', e1, e2, I1⟩ := st_knows I (xs (i + 1).toNatClampNeg) (xs (i + 2).toNatClampNeg)
  refine LW_aload_n C 1 d_law_344 rfl rfl ?_
  refine LW_arg C (v := 1) (by decide) hv.1 rfl rfl d_law_345 d_law_346 d_law_347 d_law_348 d_law_349 ?_
  refine LW_arg C (v := 2) (by decide) hv.2.1 rfl rfl d_law_350 d_law_351 d_law_352 d_law_353 d_law_354 ?_
  refine LX_call C cf_BT_knows rfl ml_Law_31 im_BT_knows sl_BT_BT_knows_BT_knows (c_BT_knows C.2.2.2.2.2.2.2.2.2.2.1 e1) (by decide) (by decide) rfl rfl (Nat.le_of_ble_eq_true rfl) d_law_355 ?_
  refine LW_aload_n C 2 d_law_358 rfl rfl ?_
  refine LW_arg C (v := 1) (by decide) hv.1 rfl rfl d_law_359 d_law_360 d_law_361 d_law_362 d_law_363 ?_
  refine LW_arg C (v := 2) (by decide) hv.2.1 rfl rfl d_law_364 d_law_365 d_law_366 d_law_367 d_law_368 ?_
  refine LM_call C cf_M_knows rfl ml_Law_34 im_M_knows sl_M_M_knows_M_knows (c_M_knows C.2.2.2.2.2.2.2.2.2.2.2.1 e2) (by decide) (by decide) rfl rfl (Nat.le_of_ble_eq_true rfl) d_law_369 ?_
  refine LW_same C (tgt := 1316) d_law_372 (by decide) ?_
  exact k μ1 ν μ1' ν' I1
set_option maxRecDepth 10000 in
theorem lc_5 {l : Launch} {D : va_G} {cy : Nat → ClassId} {al alM : Nat → Nat} {z : ZT} {b L : Nat} {xs : Nat → Int32} {Q : State → Prop} {μ : Mm} {ν : Ml} {μ' : Mm} {ν' : Ml} {i : Int32} (C : LC l D cy al alM z b L xs) (I : Inv μ ν μ' ν') (hv : LV i L) (k : ∀ μ1 ν1 μ1' ν1', Inv μ1 ν1 μ1' ν1' → LW l D cy al alM z Q μ1 ν1 μ1' ν1' 1316 [(0, .ref b), (1, .ref (al 0)), (2, .ref (alM 0)), (3, .int i)] []) : LW l D cy al alM z Q μ ν μ' ν' 377 [(0, .ref b), (1, .ref (al 0)), (2, .ref (alM 0)), (3, .int i)] [] := by
  obtain ⟨r, μ1, μ1', e1, e2, I1⟩ := st_line I (xs (i + 1).toNatClampNeg) (xs (i + 2).toNatClampNeg) (xs (i + 3).toNatClampNeg)
  refine LW_aload_n C 1 d_law_377 rfl rfl ?_
  refine LW_arg C (v := 1) (by decide) hv.1 rfl rfl d_law_378 d_law_379 d_law_380 d_law_381 d_law_382 ?_
  refine LW_arg C (v := 2) (by decide) hv.2.1 rfl rfl d_law_383 d_law_384 d_law_385 d_law_386 d_law_387 ?_
  refine LW_arg C (v := 3) (by decide) hv.2.2.1 rfl rfl d_law_388 d_law_389 d_law_390 d_law_391 d_law_392 ?_
  refine LX_call C cf_BT_line rfl ml_Law_35 im_BT_line sl_BT_BT_line_BT_line (c_BT_line C.2.2.2.2.2.2.2.2.2.2.1 e1) (by decide) (by decide) rfl rfl (Nat.le_of_ble_eq_true rfl) d_law_393 ?_
  refine LW_aload_n C 2 d_law_396 rfl rfl ?_
  refine LW_arg C (v := 1) (by decide) hv.1 rfl rfl d_law_397 d_law_398 d_law_399 d_law_400 d_law_401 ?_
  refine LW_arg C (v := 2) (by decide) hv.2.1 rfl rfl d_law_402 d_law_403 d_law_404 d_law_405 d_law_406 ?_
  refine LW_arg C (v := 3) (by decide) hv.2.2.1 rfl rfl d_law_407 d_law_408 d_law_409 d_law_410 d_law_411 ?_
  refine LM_call C cf_M_line rfl ml_Law_39 im_M_line sl_M_M_line_M_line (c_M_line C.2.2.2.2.2.2.2.2.2.2.2.1 e2) (by decide) (by decide) rfl rfl (Nat.le_of_ble_eq_true rfl) d_law_412 ?_
  refine LW_same C (tgt := 1316) d_law_415 (by decide) ?_
  exact k μ1 ν μ1' ν' I1
set_option maxRecDepth 10000 in
theorem lc_6 {l : Launch} {D : va_G} {cy : Nat → ClassId} {al alM : Nat → Nat} {z : ZT} {b L : Nat} {xs : Nat → Int32} {Q : State → Prop} {μ : Mm} {ν : Ml} {μ' : Mm} {ν' : Ml} {i : Int32} (C : LC l D cy al alM z b L xs) (I : Inv μ ν μ' ν') (hv : LV i L) (k : ∀ μ1 ν1 μ1' ν1', Inv μ1 ν1 μ1' ν1' → LW l D cy al alM z Q μ1 ν1 μ1' ν1' 1316 [(0, .ref b), (1, .ref (al 0)), (2, .ref (alM 0)), (3, .int i)] []) : LW l D cy al alM z Q μ ν μ' ν' 420 [(0, .ref b), (1, .ref (al 0)), (2, .ref (alM 0)), (3, .int i)] [] := by
  obtain ⟨r, μ1, μ1', e1, e2, I1⟩ := st_feed I (xs (i + 1).toNatClampNeg)
  refine LW_aload_n C 1 d_law_420 rfl rfl ?_
  refine LW_arg C (v := 1) (by decide) hv.1 rfl rfl d_law_421 d_law_422 d_law_423 d_law_424 d_law_425 ?_
  refine LX_call C cf_BT_feed rfl ml_Law_40 im_BT_feed sl_BT_BT_feed_BT_feed (c_BT_feed C.2.2.2.2.2.2.2.2.2.2.1 e1) (by decide) (by decide) rfl rfl (Nat.le_of_ble_eq_true rfl) d_law_426 ?_
  refine LW_aload_n C 2 d_law_429 rfl rfl ?_
  refine LW_arg C (v := 1) (by decide) hv.1 rfl rfl d_law_430 d_law_431 d_law_432 d_law_433 d_law_434 ?_
  refine LM_call C cf_M_feed rfl ml_Law_44 im_M_feed sl_M_M_feed_M_feed (c_M_feed C.2.2.2.2.2.2.2.2.2.2.2.1 e2) (by decide) (by decide) rfl rfl (Nat.le_of_ble_eq_true rfl) d_law_435 ?_
  refine LW_same C (tgt := 1316) d_law_438 (by decide) ?_
  exact k μ1 ν μ1' ν' I1
set_option maxRecDepth 10000 in
theorem lc_7 {l : Launch} {D : va_G} {cy : Nat → ClassId} {al alM : Nat → Nat} {z : ZT} {b L : Nat} {xs : Nat → Int32} {Q : State → Prop} {μ : Mm} {ν : Ml} {μ' : Mm} {ν' : Ml} {i : Int32} (C : LC l D cy al alM z b L xs) (I : Inv μ ν μ' ν') (hv : LV i L) (k : ∀ μ1 ν1 μ1' ν1', Inv μ1 ν1 μ1' ν1' → LW l D cy al alM z Q μ1 ν1 μ1' ν1' 1316 [(0, .ref b), (1, .ref (al 0)), (2, .ref (alM 0)), (3, .int i)] []) : LW l D cy al alM z Q μ ν μ' ν' 443 [(0, .ref b), (1, .ref (al 0)), (2, .ref (alM 0)), (3, .int i)] [] := by
  obtain ⟨r, μ1, μ1', e1, e2, I1⟩ := st_room I
  refine LW_aload_n C 1 d_law_443 rfl rfl ?_
  refine LX_call C cf_BT_room rfl ml_Law_45 im_BT_room sl_BT_BT_room_BT_room (c_BT_room C.2.2.2.2.2.2.2.2.2.2.1 e1) (by decide) (by decide) rfl rfl (Nat.le_of_ble_eq_true rfl) d_law_444 ?_
  refine LW_aload_n C 2 d_law_447 rfl rfl ?_
  refine LM_call C cf_M_room rfl ml_Law_49 im_M_room sl_M_M_room_M_room (c_M_room C.2.2.2.2.2.2.2.2.2.2.2.1 e2) (by decide) (by decide) rfl rfl (Nat.le_of_ble_eq_true rfl) d_law_448 ?_
  refine LW_same C (tgt := 1316) d_law_451 (by decide) ?_
  exact k μ1 ν μ1' ν' I1
set_option maxRecDepth 10000 in
theorem lc_8 {l : Launch} {D : va_G} {cy : Nat → ClassId} {al alM : Nat → Nat} {z : ZT} {b L : Nat} {xs : Nat → Int32} {Q : State → Prop} {μ : Mm} {ν : Ml} {μ' : Mm} {ν' : Ml} {i : Int32} (C : LC l D cy al alM z b L xs) (I : Inv μ ν μ' ν') (hv : LV i L) (k : ∀ μ1 ν1 μ1' ν1', Inv μ1 ν1 μ1' ν1' → LW l D cy al alM z Q μ1 ν1 μ1' ν1' 1316 [(0, .ref b), (1, .ref (al 0)), (2, .ref (alM 0)), (3, .int i)] []) : LW l D cy al alM z Q μ ν μ' ν' 456 [(0, .ref b), (1, .ref (al 0)), (2, .ref (alM 0)), (3, .int i)] [] := by
  obtain ⟨r, μ1', e1, e2, I1⟩ := st_told I (xs (i + 1).toNatClampNeg)
  refine LW_aload_n C 1 d_law_456 rfl rfl ?_
  refine LW_arg C (v := 1) (by decide) hv.1 rfl rfl d_law_457 d_law_458 d_law_459 d_law_460 d_law_461 ?_
  refine LX_call C cf_BT_told rfl ml_Law_50 im_BT_told sl_BT_BT_told_BT_told (c_BT_told C.2.2.2.2.2.2.2.2.2.2.1 e1) (by decide) (by decide) rfl rfl (Nat.le_of_ble_eq_true rfl) d_law_462 ?_
  refine LW_aload_n C 2 d_law_465 rfl rfl ?_
  refine LW_arg C (v := 1) (by decide) hv.1 rfl rfl d_law_466 d_law_467 d_law_468 d_law_469 d_law_470 ?_
  refine LM_call C cf_M_told rfl ml_Law_53 im_M_told sl_M_M_told_M_told (c_M_told C.2.2.2.2.2.2.2.2.2.2.2.1 e2) (by decide) (by decide) rfl rfl (Nat.le_of_ble_eq_true rfl) d_law_471 ?_
  refine LW_same C (tgt := 1316) d_law_474 (by decide) ?_
  exact k μ ν μ1' ν' I1
set_option maxRecDepth 10000 in
theorem lc_9 {l : Launch} {D : va_G} {cy : Nat → ClassId} {al alM : Nat → Nat} {z : ZT} {b L : Nat} {xs : Nat → Int32} {Q : State → Prop} {μ : Mm} {ν : Ml} {μ' : Mm} {ν' : Ml} {i : Int32} (C : LC l D cy al alM z b L xs) (I : Inv μ ν μ' ν') (hv : LV i L) (k : ∀ μ1 ν1 μ1' ν1', Inv μ1 ν1 μ1' ν1' → LW l D cy al alM z Q μ1 ν1 μ1' ν1' 1316 [(0, .ref b), (1, .ref (al 0)), (2, .ref (alM 0)), (3, .int i)] []) : LW l D cy al alM z Q μ ν μ' ν' 479 [(0, .ref b), (1, .ref (al 0)), (2, .ref (alM 0)), (3, .int i)] [] := by
  obtain ⟨r, μ1, μ1', e1, e2, I1⟩ := st_pass I (xs (i + 1).toNatClampNeg)
  refine LW_aload_n C 1 d_law_479 rfl rfl ?_
  refine LW_arg C (v := 1) (by decide) hv.1 rfl rfl d_law_480 d_law_481 d_law_482 d_law_483 d_law_484 ?_
  refine LX_call C cf_BT_pass rfl ml_Law_54 im_BT_pass sl_BT_BT_pass_BT_pass (c_BT_pass C.2.2.2.2.2.2.2.2.2.2.1 e1) (by decide) (by decide) rfl rfl (Nat.le_of_ble_eq_true rfl) d_law_485 ?_
  refine LW_aload_n C 2 d_law_488 rfl rfl ?_
  refine LW_arg C (v := 1) (by decide) hv.1 rfl rfl d_law_489 d_law_490 d_law_491 d_law_492 d_law_493 ?_
  refine LM_call C cf_M_pass rfl ml_Law_57 im_M_pass sl_M_M_pass_M_pass (c_M_pass C.2.2.2.2.2.2.2.2.2.2.2.1 e2) (by decide) (by decide) rfl rfl (Nat.le_of_ble_eq_true rfl) d_law_494 ?_
  refine LW_same C (tgt := 1316) d_law_497 (by decide) ?_
  exact k μ1 ν μ1' ν' I1
set_option maxRecDepth 10000 in
theorem lc_10 {l : Launch} {D : va_G} {cy : Nat → ClassId} {al alM : Nat → Nat} {z : ZT} {b L : Nat} {xs : Nat → Int32} {Q : State → Prop} {μ : Mm} {ν : Ml} {μ' : Mm} {ν' : Ml} {i : Int32} (C : LC l D cy al alM z b L xs) (I : Inv μ ν μ' ν') (hv : LV i L) (k : ∀ μ1 ν1 μ1' ν1', Inv μ1 ν1 μ1' ν1' → LW l D cy al alM z Q μ1 ν1 μ1' ν1' 1316 [(0, .ref b), (1, .ref (al 0)), (2, .ref (alM 0)), (3, .int i)] []) : LW l D cy al alM z Q μ ν μ' ν' 502 [(0, .ref b), (1, .ref (al 0)), (2, .ref (alM 0)), (3, .int i)] [] := by
  obtain ⟨r, μ1, μ1', e1, e2, I1⟩ := st_on I (xs (i + 1).toNatClampNeg) (xs (i + 2).toNatClampNeg)
  refine LW_aload_n C 1 d_law_502 rfl rfl ?_
  refine LW_arg C (v := 1) (by decide) hv.1 rfl rfl d_law_503 d_law_504 d_law_505 d_law_506 d_law_507 ?_
  refine LW_arg C (v := 2) (by decide) hv.2.1 rfl rfl d_law_508 d_law_509 d_law_510 d_law_511 d_law_512 ?_
  refine LX_call C cf_BT_on rfl ml_Law_58 im_BT_on sl_BT_BT_on_BT_on (c_BT_on C.2.2.2.2.2.2.2.2.2.2.1 e1) (by decide) (by decide) rfl rfl (Nat.le_of_ble_eq_true rfl) d_law_513 ?_
  refine LW_aload_n C 2 d_law_516 rfl rfl ?_
  refine LW_arg C (v := 1) (by decide) hv.1 rfl rfl d_law_517 d_law_518 d_law_519 d_law_520 d_law_521 ?_
  refine LW_arg C (v := 2) (by decide) hv.2.1 rfl rfl d_law_522 d_law_523 d_law_524 d_law_525 d_law_526 ?_
  refine LM_call C cf_M_on rfl ml_Law_61 im_M_on sl_M_M_on_M_on (c_M_on C.2.2.2.2.2.2.2.2.2.2.2.1 e2) (by decide) (by decide) rfl rfl (Nat.le_of_ble_eq_true rfl) d_law_527 ?_
  refine LW_same C (tgt := 1316) d_law_530 (by decide) ?_
  exact k μ1 ν μ1' ν' I1
set_option maxRecDepth 10000 in
theorem lc_11 {l : Launch} {D : va_G} {cy : Nat → ClassId} {al alM : Nat → Nat} {z : ZT} {b L : Nat} {xs : Nat → Int32} {Q : State → Prop} {μ : Mm} {ν : Ml} {μ' : Mm} {ν' : Ml} {i : Int32} (C : LC l D cy al alM z b L xs) (I : Inv μ ν μ' ν') (hv : LV i L) (k : ∀ μ1 ν1 μ1' ν1', Inv μ1 ν1 μ1' ν1' → LW l D cy al alM z Q μ1 ν1 μ1' ν1' 1316 [(0, .ref b), (1, .ref (al 0)), (2, .ref (alM 0)), (3, .int i)] []) : LW l D cy al alM z Q μ ν μ' ν' 535 [(0, .ref b), (1, .ref (al 0)), (2, .ref (alM 0)), (3, .int i)] [] := by
  obtain ⟨r, μ1', e1, e2, I1⟩ := st_loud I (xs (i + 1).toNatClampNeg)
  refine LW_aload_n C 1 d_law_535 rfl rfl ?_
  refine LW_arg C (v := 1) (by decide) hv.1 rfl rfl d_law_536 d_law_537 d_law_538 d_law_539 d_law_540 ?_
  refine LX_call C cf_BT_loud rfl ml_Law_62 im_BT_loud sl_BT_BT_loud_BT_loud (c_BT_loud C.2.2.2.2.2.2.2.2.2.2.1 e1) (by decide) (by decide) rfl rfl (Nat.le_of_ble_eq_true rfl) d_law_541 ?_
  refine LW_aload_n C 2 d_law_544 rfl rfl ?_
  refine LW_arg C (v := 1) (by decide) hv.1 rfl rfl d_law_545 d_law_546 d_law_547 d_law_548 d_law_549 ?_
  refine LM_call C cf_M_loud rfl ml_Law_65 im_M_loud sl_M_M_loud_M_loud (c_M_loud C.2.2.2.2.2.2.2.2.2.2.2.1 e2) (by decide) (by decide) rfl rfl (Nat.le_of_ble_eq_true rfl) d_law_550 ?_
  refine LW_same C (tgt := 1316) d_law_553 (by decide) ?_
  exact k μ ν μ1' ν' I1
set_option maxRecDepth 10000 in
theorem lc_12 {l : Launch} {D : va_G} {cy : Nat → ClassId} {al alM : Nat → Nat} {z : ZT} {b L : Nat} {xs : Nat → Int32} {Q : State → Prop} {μ : Mm} {ν : Ml} {μ' : Mm} {ν' : Ml} {i : Int32} (C : LC l D cy al alM z b L xs) (I : Inv μ ν μ' ν') (hv : LV i L) (k : ∀ μ1 ν1 μ1' ν1', Inv μ1 ν1 μ1' ν1' → LW l D cy al alM z Q μ1 ν1 μ1' ν1' 1316 [(0, .ref b), (1, .ref (al 0)), (2, .ref (alM 0)), (3, .int i)] []) : LW l D cy al alM z Q μ ν μ' ν' 558 [(0, .ref b), (1, .ref (al 0)), (2, .ref (alM 0)), (3, .int i)] [] := by
  obtain ⟨r, μ1, μ1', e1, e2, I1⟩ := st_quietest I (xs (i + 1).toNatClampNeg)
  refine LW_aload_n C 1 d_law_558 rfl rfl ?_
  refine LW_arg C (v := 1) (by decide) hv.1 rfl rfl d_law_559 d_law_560 d_law_561 d_law_562 d_law_563 ?_
  refine LX_call C cf_BT_quietest rfl ml_Law_66 im_BT_quietest sl_BT_BT_quietest_BT_quietest (c_BT_quietest C.2.2.2.2.2.2.2.2.2.2.1 e1) (by decide) (by decide) rfl rfl (Nat.le_of_ble_eq_true rfl) d_law_564 ?_
  refine LW_aload_n C 2 d_law_567 rfl rfl ?_
  refine LW_arg C (v := 1) (by decide) hv.1 rfl rfl d_law_568 d_law_569 d_law_570 d_law_571 d_law_572 ?_
  refine LM_call C cf_M_quietest rfl ml_Law_69 im_M_quietest sl_M_M_quietest_M_quietest (c_M_quietest C.2.2.2.2.2.2.2.2.2.2.2.1 e2) (by decide) (by decide) rfl rfl (Nat.le_of_ble_eq_true rfl) d_law_573 ?_
  refine LW_same C (tgt := 1316) d_law_576 (by decide) ?_
  exact k μ1 ν μ1' ν' I1
set_option maxRecDepth 10000 in
theorem lc_13 {l : Launch} {D : va_G} {cy : Nat → ClassId} {al alM : Nat → Nat} {z : ZT} {b L : Nat} {xs : Nat → Int32} {Q : State → Prop} {μ : Mm} {ν : Ml} {μ' : Mm} {ν' : Ml} {i : Int32} (C : LC l D cy al alM z b L xs) (I : Inv μ ν μ' ν') (hv : LV i L) (k : ∀ μ1 ν1 μ1' ν1', Inv μ1 ν1 μ1' ν1' → LW l D cy al alM z Q μ1 ν1 μ1' ν1' 1316 [(0, .ref b), (1, .ref (al 0)), (2, .ref (alM 0)), (3, .int i)] []) : LW l D cy al alM z Q μ ν μ' ν' 581 [(0, .ref b), (1, .ref (al 0)), (2, .ref (alM 0)), (3, .int i)] [] := by
  obtain ⟨r, μ1, μ1', e1, e2, I1⟩ := st_wisest I (xs (i + 1).toNatClampNeg)
  refine LW_aload_n C 1 d_law_581 rfl rfl ?_
  refine LW_arg C (v := 1) (by decide) hv.1 rfl rfl d_law_582 d_law_583 d_law_584 d_law_585 d_law_586 ?_
  refine LX_call C cf_BT_wisest rfl ml_Law_70 im_BT_wisest sl_BT_BT_wisest_BT_wisest (c_BT_wisest C.2.2.2.2.2.2.2.2.2.2.1 e1) (by decide) (by decide) rfl rfl (Nat.le_of_ble_eq_true rfl) d_law_587 ?_
  refine LW_aload_n C 2 d_law_590 rfl rfl ?_
  refine LW_arg C (v := 1) (by decide) hv.1 rfl rfl d_law_591 d_law_592 d_law_593 d_law_594 d_law_595 ?_
  refine LM_call C cf_M_wisest rfl ml_Law_73 im_M_wisest sl_M_M_wisest_M_wisest (c_M_wisest C.2.2.2.2.2.2.2.2.2.2.2.1 e2) (by decide) (by decide) rfl rfl (Nat.le_of_ble_eq_true rfl) d_law_596 ?_
  refine LW_same C (tgt := 1316) d_law_599 (by decide) ?_
  exact k μ1 ν μ1' ν' I1
set_option maxRecDepth 10000 in
theorem lc_14 {l : Launch} {D : va_G} {cy : Nat → ClassId} {al alM : Nat → Nat} {z : ZT} {b L : Nat} {xs : Nat → Int32} {Q : State → Prop} {μ : Mm} {ν : Ml} {μ' : Mm} {ν' : Ml} {i : Int32} (C : LC l D cy al alM z b L xs) (I : Inv μ ν μ' ν') (hv : LV i L) (k : ∀ μ1 ν1 μ1' ν1', Inv μ1 ν1 μ1' ν1' → LW l D cy al alM z Q μ1 ν1 μ1' ν1' 1316 [(0, .ref b), (1, .ref (al 0)), (2, .ref (alM 0)), (3, .int i)] []) : LW l D cy al alM z Q μ ν μ' ν' 604 [(0, .ref b), (1, .ref (al 0)), (2, .ref (alM 0)), (3, .int i)] [] := by
  obtain ⟨r, μ1, μ1', e1, e2, I1⟩ := st_seat I (xs (i + 1).toNatClampNeg)
  refine LW_aload_n C 1 d_law_604 rfl rfl ?_
  refine LW_arg C (v := 1) (by decide) hv.1 rfl rfl d_law_605 d_law_606 d_law_607 d_law_608 d_law_609 ?_
  refine LX_call C cf_BT_seat rfl ml_Law_74 im_BT_seat sl_BT_BT_seat_BT_seat (c_BT_seat C.2.2.2.2.2.2.2.2.2.2.1 e1) (by decide) (by decide) rfl rfl (Nat.le_of_ble_eq_true rfl) d_law_610 ?_
  refine LW_aload_n C 2 d_law_613 rfl rfl ?_
  refine LW_arg C (v := 1) (by decide) hv.1 rfl rfl d_law_614 d_law_615 d_law_616 d_law_617 d_law_618 ?_
  refine LM_call C cf_M_seat rfl ml_Law_77 im_M_seat sl_M_M_seat_M_seat (c_M_seat C.2.2.2.2.2.2.2.2.2.2.2.1 e2) (by decide) (by decide) rfl rfl (Nat.le_of_ble_eq_true rfl) d_law_619 ?_
  refine LW_same C (tgt := 1316) d_law_622 (by decide) ?_
  exact k μ1 ν μ1' ν' I1
set_option maxRecDepth 10000 in
theorem lc_15 {l : Launch} {D : va_G} {cy : Nat → ClassId} {al alM : Nat → Nat} {z : ZT} {b L : Nat} {xs : Nat → Int32} {Q : State → Prop} {μ : Mm} {ν : Ml} {μ' : Mm} {ν' : Ml} {i : Int32} (C : LC l D cy al alM z b L xs) (I : Inv μ ν μ' ν') (hv : LV i L) (k : ∀ μ1 ν1 μ1' ν1', Inv μ1 ν1 μ1' ν1' → LW l D cy al alM z Q μ1 ν1 μ1' ν1' 1316 [(0, .ref b), (1, .ref (al 0)), (2, .ref (alM 0)), (3, .int i)] []) : LW l D cy al alM z Q μ ν μ' ν' 627 [(0, .ref b), (1, .ref (al 0)), (2, .ref (alM 0)), (3, .int i)] [] := by
  obtain ⟨r, μ1, μ1', e1, e2, I1⟩ := st_best I (xs (i + 1).toNatClampNeg)
  refine LW_aload_n C 1 d_law_627 rfl rfl ?_
  refine LW_arg C (v := 1) (by decide) hv.1 rfl rfl d_law_628 d_law_629 d_law_630 d_law_631 d_law_632 ?_
  refine LX_call C cf_BT_best rfl ml_Law_78 im_BT_best sl_BT_BT_best_BT_best (c_BT_best C.2.2.2.2.2.2.2.2.2.2.1 e1) (by decide) (by decide) rfl rfl (Nat.le_of_ble_eq_true rfl) d_law_633 ?_
  refine LW_aload_n C 2 d_law_636 rfl rfl ?_
  refine LW_arg C (v := 1) (by decide) hv.1 rfl rfl d_law_637 d_law_638 d_law_639 d_law_640 d_law_641 ?_
  refine LM_call C cf_M_best rfl ml_Law_81 im_M_best sl_M_M_best_M_best (c_M_best C.2.2.2.2.2.2.2.2.2.2.2.1 e2) (by decide) (by decide) rfl rfl (Nat.le_of_ble_eq_true rfl) d_law_642 ?_
  refine LW_same C (tgt := 1316) d_law_645 (by decide) ?_
  exact k μ1 ν μ1' ν' I1
set_option maxRecDepth 10000 in
theorem lc_16 {l : Launch} {D : va_G} {cy : Nat → ClassId} {al alM : Nat → Nat} {z : ZT} {b L : Nat} {xs : Nat → Int32} {Q : State → Prop} {μ : Mm} {ν : Ml} {μ' : Mm} {ν' : Ml} {i : Int32} (C : LC l D cy al alM z b L xs) (I : Inv μ ν μ' ν') (hv : LV i L) (k : ∀ μ1 ν1 μ1' ν1', Inv μ1 ν1 μ1' ν1' → LW l D cy al alM z Q μ1 ν1 μ1' ν1' 1316 [(0, .ref b), (1, .ref (al 0)), (2, .ref (alM 0)), (3, .int i)] []) : LW l D cy al alM z Q μ ν μ' ν' 650 [(0, .ref b), (1, .ref (al 0)), (2, .ref (alM 0)), (3, .int i)] [] := by
  obtain ⟨r, μ1, μ1', e1, e2, I1⟩ := st_few I (xs (i + 1).toNatClampNeg)
  refine LW_aload_n C 1 d_law_650 rfl rfl ?_
  refine LW_arg C (v := 1) (by decide) hv.1 rfl rfl d_law_651 d_law_652 d_law_653 d_law_654 d_law_655 ?_
  refine LX_call C cf_BT_few rfl ml_Law_82 im_BT_few sl_BT_BT_few_BT_few (c_BT_few C.2.2.2.2.2.2.2.2.2.2.1 e1) (by decide) (by decide) rfl rfl (Nat.le_of_ble_eq_true rfl) d_law_656 ?_
  refine LW_aload_n C 2 d_law_659 rfl rfl ?_
  refine LW_arg C (v := 1) (by decide) hv.1 rfl rfl d_law_660 d_law_661 d_law_662 d_law_663 d_law_664 ?_
  refine LM_call C cf_M_few rfl ml_Law_85 im_M_few sl_M_M_few_M_few (c_M_few C.2.2.2.2.2.2.2.2.2.2.2.1 e2) (by decide) (by decide) rfl rfl (Nat.le_of_ble_eq_true rfl) d_law_665 ?_
  refine LW_same C (tgt := 1316) d_law_668 (by decide) ?_
  exact k μ1 ν μ1' ν' I1
set_option maxRecDepth 10000 in
theorem lc_17 {l : Launch} {D : va_G} {cy : Nat → ClassId} {al alM : Nat → Nat} {z : ZT} {b L : Nat} {xs : Nat → Int32} {Q : State → Prop} {μ : Mm} {ν : Ml} {μ' : Mm} {ν' : Ml} {i : Int32} (C : LC l D cy al alM z b L xs) (I : Inv μ ν μ' ν') (hv : LV i L) (k : ∀ μ1 ν1 μ1' ν1', Inv μ1 ν1 μ1' ν1' → LW l D cy al alM z Q μ1 ν1 μ1' ν1' 1316 [(0, .ref b), (1, .ref (al 0)), (2, .ref (alM 0)), (3, .int i)] []) : LW l D cy al alM z Q μ ν μ' ν' 673 [(0, .ref b), (1, .ref (al 0)), (2, .ref (alM 0)), (3, .int i)] [] := by
  obtain ⟨r, μ1, μ1', e1, e2, I1⟩ := st_hear I (xs (i + 1).toNatClampNeg) (xs (i + 2).toNatClampNeg)
  refine LW_aload_n C 1 d_law_673 rfl rfl ?_
  refine LW_arg C (v := 1) (by decide) hv.1 rfl rfl d_law_674 d_law_675 d_law_676 d_law_677 d_law_678 ?_
  refine LW_arg C (v := 2) (by decide) hv.2.1 rfl rfl d_law_679 d_law_680 d_law_681 d_law_682 d_law_683 ?_
  refine LX_call C cf_BT_hear rfl ml_Law_86 im_BT_hear sl_BT_BT_hear_BT_hear (c_BT_hear C.2.2.2.2.2.2.2.2.2.2.1 e1) (by decide) (by decide) rfl rfl (Nat.le_of_ble_eq_true rfl) d_law_684 ?_
  refine LW_aload_n C 2 d_law_687 rfl rfl ?_
  refine LW_arg C (v := 1) (by decide) hv.1 rfl rfl d_law_688 d_law_689 d_law_690 d_law_691 d_law_692 ?_
  refine LW_arg C (v := 2) (by decide) hv.2.1 rfl rfl d_law_693 d_law_694 d_law_695 d_law_696 d_law_697 ?_
  refine LM_call C cf_M_hear rfl ml_Law_89 im_M_hear sl_M_M_hear_M_hear (c_M_hear C.2.2.2.2.2.2.2.2.2.2.2.1 e2) (by decide) (by decide) rfl rfl (Nat.le_of_ble_eq_true rfl) d_law_698 ?_
  refine LW_same C (tgt := 1316) d_law_701 (by decide) ?_
  exact k μ1 ν μ1' ν' I1
set_option maxRecDepth 10000 in
theorem lc_18 {l : Launch} {D : va_G} {cy : Nat → ClassId} {al alM : Nat → Nat} {z : ZT} {b L : Nat} {xs : Nat → Int32} {Q : State → Prop} {μ : Mm} {ν : Ml} {μ' : Mm} {ν' : Ml} {i : Int32} (C : LC l D cy al alM z b L xs) (I : Inv μ ν μ' ν') (hv : LV i L) (k : ∀ μ1 ν1 μ1' ν1', Inv μ1 ν1 μ1' ν1' → LW l D cy al alM z Q μ1 ν1 μ1' ν1' 1316 [(0, .ref b), (1, .ref (al 0)), (2, .ref (alM 0)), (3, .int i)] []) : LW l D cy al alM z Q μ ν μ' ν' 706 [(0, .ref b), (1, .ref (al 0)), (2, .ref (alM 0)), (3, .int i)] [] := by
  obtain ⟨r, μ1, μ1', e1, e2, I1⟩ := st_where I (xs (i + 1).toNatClampNeg)
  refine LW_aload_n C 1 d_law_706 rfl rfl ?_
  refine LW_arg C (v := 1) (by decide) hv.1 rfl rfl d_law_707 d_law_708 d_law_709 d_law_710 d_law_711 ?_
  refine LX_call C cf_BT_where rfl ml_Law_90 im_BT_where sl_BT_BT_where_BT_where (c_BT_where C.2.2.2.2.2.2.2.2.2.2.1 e1) (by decide) (by decide) rfl rfl (Nat.le_of_ble_eq_true rfl) d_law_712 ?_
  refine LW_aload_n C 2 d_law_715 rfl rfl ?_
  refine LW_arg C (v := 1) (by decide) hv.1 rfl rfl d_law_716 d_law_717 d_law_718 d_law_719 d_law_720 ?_
  refine LM_call C cf_M_where rfl ml_Law_93 im_M_where sl_M_M_where_M_where (c_M_where C.2.2.2.2.2.2.2.2.2.2.2.1 e2) (by decide) (by decide) rfl rfl (Nat.le_of_ble_eq_true rfl) d_law_721 ?_
  refine LW_same C (tgt := 1316) d_law_724 (by decide) ?_
  exact k μ1 ν μ1' ν' I1
set_option maxRecDepth 10000 in
theorem lc_19 {l : Launch} {D : va_G} {cy : Nat → ClassId} {al alM : Nat → Nat} {z : ZT} {b L : Nat} {xs : Nat → Int32} {Q : State → Prop} {μ : Mm} {ν : Ml} {μ' : Mm} {ν' : Ml} {i : Int32} (C : LC l D cy al alM z b L xs) (I : Inv μ ν μ' ν') (hv : LV i L) (k : ∀ μ1 ν1 μ1' ν1', Inv μ1 ν1 μ1' ν1' → LW l D cy al alM z Q μ1 ν1 μ1' ν1' 1316 [(0, .ref b), (1, .ref (al 0)), (2, .ref (alM 0)), (3, .int i)] []) : LW l D cy al alM z Q μ ν μ' ν' 729 [(0, .ref b), (1, .ref (al 0)), (2, .ref (alM 0)), (3, .int i)] [] := by
  obtain ⟨r, μ1, μ1', e1, e2, I1⟩ := st_can I (xs (i + 1).toNatClampNeg) (xs (i + 2).toNatClampNeg)
  refine LW_aload_n C 1 d_law_729 rfl rfl ?_
  refine LW_arg C (v := 1) (by decide) hv.1 rfl rfl d_law_730 d_law_731 d_law_732 d_law_733 d_law_734 ?_
  refine LW_arg C (v := 2) (by decide) hv.2.1 rfl rfl d_law_735 d_law_736 d_law_737 d_law_738 d_law_739 ?_
  refine LX_call C cf_BT_can rfl ml_Law_94 im_BT_can sl_BT_BT_can_BT_can (c_BT_can C.2.2.2.2.2.2.2.2.2.2.1 e1) (by decide) (by decide) rfl rfl (Nat.le_of_ble_eq_true rfl) d_law_740 ?_
  refine LW_aload_n C 2 d_law_743 rfl rfl ?_
  refine LW_arg C (v := 1) (by decide) hv.1 rfl rfl d_law_744 d_law_745 d_law_746 d_law_747 d_law_748 ?_
  refine LW_arg C (v := 2) (by decide) hv.2.1 rfl rfl d_law_749 d_law_750 d_law_751 d_law_752 d_law_753 ?_
  refine LM_call C cf_M_can rfl ml_Law_97 im_M_can sl_M_M_can_M_can (c_M_can C.2.2.2.2.2.2.2.2.2.2.2.1 e2) (by decide) (by decide) rfl rfl (Nat.le_of_ble_eq_true rfl) d_law_754 ?_
  refine LW_same C (tgt := 1316) d_law_757 (by decide) ?_
  exact k μ1 ν μ1' ν' I1
set_option maxRecDepth 10000 in
theorem lc_20 {l : Launch} {D : va_G} {cy : Nat → ClassId} {al alM : Nat → Nat} {z : ZT} {b L : Nat} {xs : Nat → Int32} {Q : State → Prop} {μ : Mm} {ν : Ml} {μ' : Mm} {ν' : Ml} {i : Int32} (C : LC l D cy al alM z b L xs) (I : Inv μ ν μ' ν') (hv : LV i L) (k : ∀ μ1 ν1 μ1' ν1', Inv μ1 ν1 μ1' ν1' → LW l D cy al alM z Q μ1 ν1 μ1' ν1' 1316 [(0, .ref b), (1, .ref (al 0)), (2, .ref (alM 0)), (3, .int i)] []) : LW l D cy al alM z Q μ ν μ' ν' 762 [(0, .ref b), (1, .ref (al 0)), (2, .ref (alM 0)), (3, .int i)] [] := by
  obtain ⟨r, μ1, μ1', e1, e2, I1⟩ := st_odds I (xs (i + 1).toNatClampNeg) (xs (i + 2).toNatClampNeg)
  refine LW_aload_n C 1 d_law_762 rfl rfl ?_
  refine LW_arg C (v := 1) (by decide) hv.1 rfl rfl d_law_763 d_law_764 d_law_765 d_law_766 d_law_767 ?_
  refine LW_arg C (v := 2) (by decide) hv.2.1 rfl rfl d_law_768 d_law_769 d_law_770 d_law_771 d_law_772 ?_
  refine LX_call C cf_BT_odds rfl ml_Law_98 im_BT_odds sl_BT_BT_odds_BT_odds (c_BT_odds C.2.2.2.2.2.2.2.2.2.2.1 e1) (by decide) (by decide) rfl rfl (Nat.le_of_ble_eq_true rfl) d_law_773 ?_
  refine LW_aload_n C 2 d_law_776 rfl rfl ?_
  refine LW_arg C (v := 1) (by decide) hv.1 rfl rfl d_law_777 d_law_778 d_law_779 d_law_780 d_law_781 ?_
  refine LW_arg C (v := 2) (by decide) hv.2.1 rfl rfl d_law_782 d_law_783 d_law_784 d_law_785 d_law_786 ?_
  refine LM_call C cf_M_odds rfl ml_Law_102 im_M_odds sl_M_M_odds_M_odds (c_M_odds C.2.2.2.2.2.2.2.2.2.2.2.1 e2) (by decide) (by decide) rfl rfl (Nat.le_of_ble_eq_true rfl) d_law_787 ?_
  refine LW_lsame C (tgt := 1316) d_law_790 d_law_791 (by decide) ?_
  exact k μ1 ν μ1' ν' I1
set_option maxRecDepth 10000 in
theorem lc_21 {l : Launch} {D : va_G} {cy : Nat → ClassId} {al alM : Nat → Nat} {z : ZT} {b L : Nat} {xs : Nat → Int32} {Q : State → Prop} {μ : Mm} {ν : Ml} {μ' : Mm} {ν' : Ml} {i : Int32} (C : LC l D cy al alM z b L xs) (I : Inv μ ν μ' ν') (hv : LV i L) (k : ∀ μ1 ν1 μ1' ν1', Inv μ1 ν1 μ1' ν1' → LW l D cy al alM z Q μ1 ν1 μ1' ν1' 1316 [(0, .ref b), (1, .ref (al 0)), (2, .ref (alM 0)), (3, .int i)] []) : LW l D cy al alM z Q μ ν μ' ν' 796 [(0, .ref b), (1, .ref (al 0)), (2, .ref (alM 0)), (3, .int i)] [] := by
  obtain ⟨r, μ1', e1, e2, I1⟩ := st_mean I (xs (i + 1).toNatClampNeg)
  refine LW_aload_n C 1 d_law_796 rfl rfl ?_
  refine LW_arg C (v := 1) (by decide) hv.1 rfl rfl d_law_797 d_law_798 d_law_799 d_law_800 d_law_801 ?_
  refine LX_call C cf_BT_mean rfl ml_Law_103 im_BT_mean sl_BT_BT_mean_BT_mean (c_BT_mean C.2.2.2.2.2.2.2.2.2.2.1 e1) (by decide) (by decide) rfl rfl (Nat.le_of_ble_eq_true rfl) d_law_802 ?_
  refine LW_aload_n C 2 d_law_805 rfl rfl ?_
  refine LW_arg C (v := 1) (by decide) hv.1 rfl rfl d_law_806 d_law_807 d_law_808 d_law_809 d_law_810 ?_
  refine LM_call C cf_M_mean rfl ml_Law_107 im_M_mean sl_M_M_mean_M_mean (c_M_mean C.2.2.2.2.2.2.2.2.2.2.2.1 e2) (by decide) (by decide) rfl rfl (Nat.le_of_ble_eq_true rfl) d_law_811 ?_
  refine LW_lsame C (tgt := 1316) d_law_814 d_law_815 (by decide) ?_
  exact k μ ν μ1' ν' I1
set_option maxRecDepth 10000 in
theorem lc_22 {l : Launch} {D : va_G} {cy : Nat → ClassId} {al alM : Nat → Nat} {z : ZT} {b L : Nat} {xs : Nat → Int32} {Q : State → Prop} {μ : Mm} {ν : Ml} {μ' : Mm} {ν' : Ml} {i : Int32} (C : LC l D cy al alM z b L xs) (I : Inv μ ν μ' ν') (hv : LV i L) (k : ∀ μ1 ν1 μ1' ν1', Inv μ1 ν1 μ1' ν1' → LW l D cy al alM z Q μ1 ν1 μ1' ν1' 1316 [(0, .ref b), (1, .ref (al 0)), (2, .ref (alM 0)), (3, .int i)] []) : LW l D cy al alM z Q μ ν μ' ν' 820 [(0, .ref b), (1, .ref (al 0)), (2, .ref (alM 0)), (3, .int i)] [] := by
  obtain ⟨r, μ1, μ1', e1, e2, I1⟩ := st_term I (xs (i + 1).toNatClampNeg) (xs (i + 2).toNatClampNeg)
  refine LW_aload_n C 1 d_law_820 rfl rfl ?_
  refine LW_arg C (v := 1) (by decide) hv.1 rfl rfl d_law_821 d_law_822 d_law_823 d_law_824 d_law_825 ?_
  refine LW_arg C (v := 2) (by decide) hv.2.1 rfl rfl d_law_826 d_law_827 d_law_828 d_law_829 d_law_830 ?_
  refine LX_call C cf_BT_term rfl ml_Law_108 im_BT_term sl_BT_BT_term_BT_term (c_BT_term C.2.2.2.2.2.2.2.2.2.2.1 e1) (by decide) (by decide) rfl rfl (Nat.le_of_ble_eq_true rfl) d_law_831 ?_
  refine LW_aload_n C 2 d_law_834 rfl rfl ?_
  refine LW_arg C (v := 1) (by decide) hv.1 rfl rfl d_law_835 d_law_836 d_law_837 d_law_838 d_law_839 ?_
  refine LW_arg C (v := 2) (by decide) hv.2.1 rfl rfl d_law_840 d_law_841 d_law_842 d_law_843 d_law_844 ?_
  refine LM_call C cf_M_term rfl ml_Law_111 im_M_term sl_M_M_term_M_term (c_M_term C.2.2.2.2.2.2.2.2.2.2.2.1 e2) (by decide) (by decide) rfl rfl (Nat.le_of_ble_eq_true rfl) d_law_845 ?_
  refine LW_same C (tgt := 1316) d_law_848 (by decide) ?_
  exact k μ1 ν μ1' ν' I1
set_option maxRecDepth 10000 in
theorem lc_23 {l : Launch} {D : va_G} {cy : Nat → ClassId} {al alM : Nat → Nat} {z : ZT} {b L : Nat} {xs : Nat → Int32} {Q : State → Prop} {μ : Mm} {ν : Ml} {μ' : Mm} {ν' : Ml} {i : Int32} (C : LC l D cy al alM z b L xs) (I : Inv μ ν μ' ν') (hv : LV i L) (k : ∀ μ1 ν1 μ1' ν1', Inv μ1 ν1 μ1' ν1' → LW l D cy al alM z Q μ1 ν1 μ1' ν1' 1316 [(0, .ref b), (1, .ref (al 0)), (2, .ref (alM 0)), (3, .int i)] []) : LW l D cy al alM z Q μ ν μ' ν' 853 [(0, .ref b), (1, .ref (al 0)), (2, .ref (alM 0)), (3, .int i)] [] := by
  obtain ⟨r, μ1, μ1', e1, e2, I1⟩ := st_ends I (xs (i + 1).toNatClampNeg)
  refine LW_aload_n C 1 d_law_853 rfl rfl ?_
  refine LW_arg C (v := 1) (by decide) hv.1 rfl rfl d_law_854 d_law_855 d_law_856 d_law_857 d_law_858 ?_
  refine LX_call C cf_BT_ends rfl ml_Law_112 im_BT_ends sl_BT_BT_ends_BT_ends (c_BT_ends C.2.2.2.2.2.2.2.2.2.2.1 e1) (by decide) (by decide) rfl rfl (Nat.le_of_ble_eq_true rfl) d_law_859 ?_
  refine LW_aload_n C 2 d_law_862 rfl rfl ?_
  refine LW_arg C (v := 1) (by decide) hv.1 rfl rfl d_law_863 d_law_864 d_law_865 d_law_866 d_law_867 ?_
  refine LM_call C cf_M_ends rfl ml_Law_115 im_M_ends sl_M_M_ends_M_ends (c_M_ends C.2.2.2.2.2.2.2.2.2.2.2.1 e2) (by decide) (by decide) rfl rfl (Nat.le_of_ble_eq_true rfl) d_law_868 ?_
  refine LW_same C (tgt := 1316) d_law_871 (by decide) ?_
  exact k μ1 ν μ1' ν' I1
set_option maxRecDepth 10000 in
theorem lc_24 {l : Launch} {D : va_G} {cy : Nat → ClassId} {al alM : Nat → Nat} {z : ZT} {b L : Nat} {xs : Nat → Int32} {Q : State → Prop} {μ : Mm} {ν : Ml} {μ' : Mm} {ν' : Ml} {i : Int32} (C : LC l D cy al alM z b L xs) (I : Inv μ ν μ' ν') (hv : LV i L) (k : ∀ μ1 ν1 μ1' ν1', Inv μ1 ν1 μ1' ν1' → LW l D cy al alM z Q μ1 ν1 μ1' ν1' 1316 [(0, .ref b), (1, .ref (al 0)), (2, .ref (alM 0)), (3, .int i)] []) : LW l D cy al alM z Q μ ν μ' ν' 876 [(0, .ref b), (1, .ref (al 0)), (2, .ref (alM 0)), (3, .int i)] [] := by
  obtain ⟨r, μ1, μ1', e1, e2, I1⟩ := st_book I (xs (i + 1).toNatClampNeg) (xs (i + 2).toNatClampNeg)
  refine LW_aload_n C 1 d_law_876 rfl rfl ?_
  refine LW_arg C (v := 1) (by decide) hv.1 rfl rfl d_law_877 d_law_878 d_law_879 d_law_880 d_law_881 ?_
  refine LW_arg C (v := 2) (by decide) hv.2.1 rfl rfl d_law_882 d_law_883 d_law_884 d_law_885 d_law_886 ?_
  refine LX_call C cf_BT_book rfl ml_Law_116 im_BT_book sl_BT_BT_book_BT_book (c_BT_book C.2.2.2.2.2.2.2.2.2.2.1 e1) (by decide) (by decide) rfl rfl (Nat.le_of_ble_eq_true rfl) d_law_887 ?_
  refine LW_aload_n C 2 d_law_890 rfl rfl ?_
  refine LW_arg C (v := 1) (by decide) hv.1 rfl rfl d_law_891 d_law_892 d_law_893 d_law_894 d_law_895 ?_
  refine LW_arg C (v := 2) (by decide) hv.2.1 rfl rfl d_law_896 d_law_897 d_law_898 d_law_899 d_law_900 ?_
  refine LM_call C cf_M_book rfl ml_Law_119 im_M_book sl_M_M_book_M_book (c_M_book C.2.2.2.2.2.2.2.2.2.2.2.1 e2) (by decide) (by decide) rfl rfl (Nat.le_of_ble_eq_true rfl) d_law_901 ?_
  refine LW_same C (tgt := 1316) d_law_904 (by decide) ?_
  exact k μ1 ν μ1' ν' I1
set_option maxRecDepth 10000 in
theorem lc_25 {l : Launch} {D : va_G} {cy : Nat → ClassId} {al alM : Nat → Nat} {z : ZT} {b L : Nat} {xs : Nat → Int32} {Q : State → Prop} {μ : Mm} {ν : Ml} {μ' : Mm} {ν' : Ml} {i : Int32} (C : LC l D cy al alM z b L xs) (I : Inv μ ν μ' ν') (hv : LV i L) (k : ∀ μ1 ν1 μ1' ν1', Inv μ1 ν1 μ1' ν1' → LW l D cy al alM z Q μ1 ν1 μ1' ν1' 1316 [(0, .ref b), (1, .ref (al 0)), (2, .ref (alM 0)), (3, .int i)] []) : LW l D cy al alM z Q μ ν μ' ν' 909 [(0, .ref b), (1, .ref (al 0)), (2, .ref (alM 0)), (3, .int i)] [] := by
  obtain ⟨r, e1, e2⟩ := st_looked I
  refine LW_aload_n C 1 d_law_909 rfl rfl ?_
  refine LX_call C cf_BT_looked rfl ml_Law_120 im_BT_looked sl_BT_BT_looked_BT_looked (c_BT_looked C.2.2.2.2.2.2.2.2.2.2.1 e1) (by decide) (by decide) rfl rfl (Nat.le_of_ble_eq_true rfl) d_law_910 ?_
  refine LW_aload_n C 2 d_law_913 rfl rfl ?_
  refine LM_call C cf_M_looked rfl ml_Law_123 im_M_looked sl_M_M_looked_M_looked (c_M_looked C.2.2.2.2.2.2.2.2.2.2.2.1 e2) (by decide) (by decide) rfl rfl (Nat.le_of_ble_eq_true rfl) d_law_914 ?_
  refine LW_same C (tgt := 1316) d_law_917 (by decide) ?_
  exact k μ ν μ' ν' I
set_option maxRecDepth 10000 in
theorem lc_26 {l : Launch} {D : va_G} {cy : Nat → ClassId} {al alM : Nat → Nat} {z : ZT} {b L : Nat} {xs : Nat → Int32} {Q : State → Prop} {μ : Mm} {ν : Ml} {μ' : Mm} {ν' : Ml} {i : Int32} (C : LC l D cy al alM z b L xs) (I : Inv μ ν μ' ν') (hv : LV i L) (k : ∀ μ1 ν1 μ1' ν1', Inv μ1 ν1 μ1' ν1' → LW l D cy al alM z Q μ1 ν1 μ1' ν1' 1316 [(0, .ref b), (1, .ref (al 0)), (2, .ref (alM 0)), (3, .int i)] []) : LW l D cy al alM z Q μ ν μ' ν' 922 [(0, .ref b), (1, .ref (al 0)), (2, .ref (alM 0)), (3, .int i)] [] := by
  obtain ⟨r, e1, e2⟩ := st_judge I (xs (i + 1).toNatClampNeg) (xs (i + 2).toNatClampNeg)
  refine LW_aload_n C 1 d_law_922 rfl rfl ?_
  refine LW_arg C (v := 1) (by decide) hv.1 rfl rfl d_law_923 d_law_924 d_law_925 d_law_926 d_law_927 ?_
  refine LW_arg C (v := 2) (by decide) hv.2.1 rfl rfl d_law_928 d_law_929 d_law_930 d_law_931 d_law_932 ?_
  refine LX_call C cf_BT_judge rfl ml_Law_124 im_BT_judge sl_BT_BT_judge_BT_judge (c_BT_judge C.2.2.2.2.2.2.2.2.2.2.1 e1) (by decide) (by decide) rfl rfl (Nat.le_of_ble_eq_true rfl) d_law_933 ?_
  refine LW_aload_n C 2 d_law_936 rfl rfl ?_
  refine LW_arg C (v := 1) (by decide) hv.1 rfl rfl d_law_937 d_law_938 d_law_939 d_law_940 d_law_941 ?_
  refine LW_arg C (v := 2) (by decide) hv.2.1 rfl rfl d_law_942 d_law_943 d_law_944 d_law_945 d_law_946 ?_
  refine LM_call C cf_M_judge rfl ml_Law_127 im_M_judge sl_M_M_judge_M_judge (c_M_judge C.2.2.2.2.2.2.2.2.2.2.2.1 e2) (by decide) (by decide) rfl rfl (Nat.le_of_ble_eq_true rfl) d_law_947 ?_
  refine LW_same C (tgt := 1316) d_law_950 (by decide) ?_
  exact k μ ν μ' ν' I
set_option maxRecDepth 10000 in
theorem lc_27 {l : Launch} {D : va_G} {cy : Nat → ClassId} {al alM : Nat → Nat} {z : ZT} {b L : Nat} {xs : Nat → Int32} {Q : State → Prop} {μ : Mm} {ν : Ml} {μ' : Mm} {ν' : Ml} {i : Int32} (C : LC l D cy al alM z b L xs) (I : Inv μ ν μ' ν') (hv : LV i L) (k : ∀ μ1 ν1 μ1' ν1', Inv μ1 ν1 μ1' ν1' → LW l D cy al alM z Q μ1 ν1 μ1' ν1' 1316 [(0, .ref b), (1, .ref (al 0)), (2, .ref (alM 0)), (3, .int i)] []) : LW l D cy al alM z Q μ ν μ' ν' 955 [(0, .ref b), (1, .ref (al 0)), (2, .ref (alM 0)), (3, .int i)] [] := by
  obtain ⟨r, μ1, μ1', e1, e2, I1⟩ := st_image I
  refine LW_aload_n C 1 d_law_955 rfl rfl ?_
  refine LX_call C cf_BT_image rfl ml_Law_128 im_BT_image sl_BT_BT_image_BT_image (c_BT_image C.2.2.2.2.2.2.2.2.2.2.1 e1) (by decide) (by decide) rfl rfl (Nat.le_of_ble_eq_true rfl) d_law_956 ?_
  refine LW_aload_n C 2 d_law_959 rfl rfl ?_
  refine LM_call C cf_M_image rfl ml_Law_131 im_M_image sl_M_M_image_M_image (c_M_image C.2.2.2.2.2.2.2.2.2.2.2.1 e2) (by decide) (by decide) rfl rfl (Nat.le_of_ble_eq_true rfl) d_law_960 ?_
  refine LW_same C (tgt := 1316) d_law_963 (by decide) ?_
  exact k μ1 ν μ1' ν' I1
set_option maxRecDepth 10000 in
theorem lc_28 {l : Launch} {D : va_G} {cy : Nat → ClassId} {al alM : Nat → Nat} {z : ZT} {b L : Nat} {xs : Nat → Int32} {Q : State → Prop} {μ : Mm} {ν : Ml} {μ' : Mm} {ν' : Ml} {i : Int32} (C : LC l D cy al alM z b L xs) (I : Inv μ ν μ' ν') (hv : LV i L) (k : ∀ μ1 ν1 μ1' ν1', Inv μ1 ν1 μ1' ν1' → LW l D cy al alM z Q μ1 ν1 μ1' ν1' 1316 [(0, .ref b), (1, .ref (al 0)), (2, .ref (alM 0)), (3, .int i)] []) : LW l D cy al alM z Q μ ν μ' ν' 968 [(0, .ref b), (1, .ref (al 0)), (2, .ref (alM 0)), (3, .int i)] [] := by
  obtain ⟨r, μ1, μ1', e1, e2, I1⟩ := st_undo I
  refine LW_aload_n C 1 d_law_968 rfl rfl ?_
  refine LX_call C cf_BT_undo rfl ml_Law_132 im_BT_undo sl_BT_BT_undo_BT_undo (c_BT_undo C.2.2.2.2.2.2.2.2.2.2.1 e1) (by decide) (by decide) rfl rfl (Nat.le_of_ble_eq_true rfl) d_law_969 ?_
  refine LW_aload_n C 2 d_law_972 rfl rfl ?_
  refine LM_call C cf_M_undo rfl ml_Law_135 im_M_undo sl_M_M_undo_M_undo (c_M_undo C.2.2.2.2.2.2.2.2.2.2.2.1 e2) (by decide) (by decide) rfl rfl (Nat.le_of_ble_eq_true rfl) d_law_973 ?_
  refine LW_same C (tgt := 1316) d_law_976 (by decide) ?_
  exact k μ1 ν μ1' ν' I1
set_option maxRecDepth 10000 in
theorem lc_29 {l : Launch} {D : va_G} {cy : Nat → ClassId} {al alM : Nat → Nat} {z : ZT} {b L : Nat} {xs : Nat → Int32} {Q : State → Prop} {μ : Mm} {ν : Ml} {μ' : Mm} {ν' : Ml} {i : Int32} (C : LC l D cy al alM z b L xs) (I : Inv μ ν μ' ν') (hv : LV i L) (k : ∀ μ1 ν1 μ1' ν1', Inv μ1 ν1 μ1' ν1' → LW l D cy al alM z Q μ1 ν1 μ1' ν1' 1316 [(0, .ref b), (1, .ref (al 0)), (2, .ref (alM 0)), (3, .int i)] []) : LW l D cy al alM z Q μ ν μ' ν' 981 [(0, .ref b), (1, .ref (al 0)), (2, .ref (alM 0)), (3, .int i)] [] := by
  obtain ⟨r, μ1, μ1', e1, e2, I1⟩ := st_act I (xs (i + 1).toNatClampNeg) (xs (i + 2).toNatClampNeg) (xs (i + 3).toNatClampNeg)
  refine LW_aload_n C 1 d_law_981 rfl rfl ?_
  refine LW_arg C (v := 1) (by decide) hv.1 rfl rfl d_law_982 d_law_983 d_law_984 d_law_985 d_law_986 ?_
  refine LW_arg C (v := 2) (by decide) hv.2.1 rfl rfl d_law_987 d_law_988 d_law_989 d_law_990 d_law_991 ?_
  refine LW_arg C (v := 3) (by decide) hv.2.2.1 rfl rfl d_law_992 d_law_993 d_law_994 d_law_995 d_law_996 ?_
  refine LX_call C cf_BT_act rfl ml_Law_136 im_BT_act sl_BT_BT_act_BT_act (c_BT_act C.2.2.2.2.2.2.2.2.2.2.1 e1) (by decide) (by decide) rfl rfl (Nat.le_of_ble_eq_true rfl) d_law_997 ?_
  refine LW_aload_n C 2 d_law_1000 rfl rfl ?_
  refine LW_arg C (v := 1) (by decide) hv.1 rfl rfl d_law_1001 d_law_1002 d_law_1003 d_law_1004 d_law_1005 ?_
  refine LW_arg C (v := 2) (by decide) hv.2.1 rfl rfl d_law_1006 d_law_1007 d_law_1008 d_law_1009 d_law_1010 ?_
  refine LW_arg C (v := 3) (by decide) hv.2.2.1 rfl rfl d_law_1011 d_law_1012 d_law_1013 d_law_1014 d_law_1015 ?_
  refine LM_call C cf_M_act rfl ml_Law_139 im_M_act sl_M_M_act_M_act (c_M_act C.2.2.2.2.2.2.2.2.2.2.2.1 e2) (by decide) (by decide) rfl rfl (Nat.le_of_ble_eq_true rfl) d_law_1016 ?_
  refine LW_same C (tgt := 1316) d_law_1019 (by decide) ?_
  exact k μ1 ν μ1' ν' I1
set_option maxRecDepth 10000 in
theorem lc_30 {l : Launch} {D : va_G} {cy : Nat → ClassId} {al alM : Nat → Nat} {z : ZT} {b L : Nat} {xs : Nat → Int32} {Q : State → Prop} {μ : Mm} {ν : Ml} {μ' : Mm} {ν' : Ml} {i : Int32} (C : LC l D cy al alM z b L xs) (I : Inv μ ν μ' ν') (hv : LV i L) (k : ∀ μ1 ν1 μ1' ν1', Inv μ1 ν1 μ1' ν1' → LW l D cy al alM z Q μ1 ν1 μ1' ν1' 1316 [(0, .ref b), (1, .ref (al 0)), (2, .ref (alM 0)), (3, .int i)] []) : LW l D cy al alM z Q μ ν μ' ν' 1024 [(0, .ref b), (1, .ref (al 0)), (2, .ref (alM 0)), (3, .int i)] [] := by
  obtain ⟨r, e1, e2⟩ := st_trace I (xs (i + 1).toNatClampNeg)
  refine LW_aload_n C 1 d_law_1024 rfl rfl ?_
  refine LW_arg C (v := 1) (by decide) hv.1 rfl rfl d_law_1025 d_law_1026 d_law_1027 d_law_1028 d_law_1029 ?_
  refine LX_call C cf_BT_trace rfl ml_Law_140 im_BT_trace sl_BT_BT_trace_BT_trace (c_BT_trace C.2.2.2.2.2.2.2.2.2.2.1 e1) (by decide) (by decide) rfl rfl (Nat.le_of_ble_eq_true rfl) d_law_1030 ?_
  refine LW_aload_n C 2 d_law_1033 rfl rfl ?_
  refine LW_arg C (v := 1) (by decide) hv.1 rfl rfl d_law_1034 d_law_1035 d_law_1036 d_law_1037 d_law_1038 ?_
  refine LM_call C cf_M_trace rfl ml_Law_143 im_M_trace sl_M_M_trace_M_trace (c_M_trace C.2.2.2.2.2.2.2.2.2.2.2.1 e2) (by decide) (by decide) rfl rfl (Nat.le_of_ble_eq_true rfl) d_law_1039 ?_
  refine LW_same C (tgt := 1316) d_law_1042 (by decide) ?_
  exact k μ ν μ' ν' I
set_option maxRecDepth 10000 in
theorem lc_31 {l : Launch} {D : va_G} {cy : Nat → ClassId} {al alM : Nat → Nat} {z : ZT} {b L : Nat} {xs : Nat → Int32} {Q : State → Prop} {μ : Mm} {ν : Ml} {μ' : Mm} {ν' : Ml} {i : Int32} (C : LC l D cy al alM z b L xs) (I : Inv μ ν μ' ν') (hv : LV i L) (k : ∀ μ1 ν1 μ1' ν1', Inv μ1 ν1 μ1' ν1' → LW l D cy al alM z Q μ1 ν1 μ1' ν1' 1316 [(0, .ref b), (1, .ref (al 0)), (2, .ref (alM 0)), (3, .int i)] []) : LW l D cy al alM z Q μ ν μ' ν' 1047 [(0, .ref b), (1, .ref (al 0)), (2, .ref (alM 0)), (3, .int i)] [] := by
  obtain ⟨r, e1, e2⟩ := st_taken I (xs (i + 1).toNatClampNeg) (xs (i + 2).toNatClampNeg)
  refine LW_aload_n C 1 d_law_1047 rfl rfl ?_
  refine LW_arg C (v := 1) (by decide) hv.1 rfl rfl d_law_1048 d_law_1049 d_law_1050 d_law_1051 d_law_1052 ?_
  refine LW_arg C (v := 2) (by decide) hv.2.1 rfl rfl d_law_1053 d_law_1054 d_law_1055 d_law_1056 d_law_1057 ?_
  refine LX_call C cf_BT_taken rfl ml_Law_144 im_BT_taken sl_BT_BT_taken_BT_taken (c_BT_taken C.2.2.2.2.2.2.2.2.2.2.1 e1) (by decide) (by decide) rfl rfl (Nat.le_of_ble_eq_true rfl) d_law_1058 ?_
  refine LW_aload_n C 2 d_law_1061 rfl rfl ?_
  refine LW_arg C (v := 1) (by decide) hv.1 rfl rfl d_law_1062 d_law_1063 d_law_1064 d_law_1065 d_law_1066 ?_
  refine LW_arg C (v := 2) (by decide) hv.2.1 rfl rfl d_law_1067 d_law_1068 d_law_1069 d_law_1070 d_law_1071 ?_
  refine LM_call C cf_M_taken rfl ml_Law_147 im_M_taken sl_M_M_taken_M_taken (c_M_taken C.2.2.2.2.2.2.2.2.2.2.2.1 e2) (by decide) (by decide) rfl rfl (Nat.le_of_ble_eq_true rfl) d_law_1072 ?_
  refine LW_same C (tgt := 1316) d_law_1075 (by decide) ?_
  exact k μ ν μ' ν' I
set_option maxRecDepth 10000 in
theorem lc_32 {l : Launch} {D : va_G} {cy : Nat → ClassId} {al alM : Nat → Nat} {z : ZT} {b L : Nat} {xs : Nat → Int32} {Q : State → Prop} {μ : Mm} {ν : Ml} {μ' : Mm} {ν' : Ml} {i : Int32} (C : LC l D cy al alM z b L xs) (I : Inv μ ν μ' ν') (hv : LV i L) (k : ∀ μ1 ν1 μ1' ν1', Inv μ1 ν1 μ1' ν1' → LW l D cy al alM z Q μ1 ν1 μ1' ν1' 1316 [(0, .ref b), (1, .ref (al 0)), (2, .ref (alM 0)), (3, .int i)] []) : LW l D cy al alM z Q μ ν μ' ν' 1080 [(0, .ref b), (1, .ref (al 0)), (2, .ref (alM 0)), (3, .int i)] [] := by
  obtain ⟨r, e1, e2⟩ := st_count I (xs (i + 1).toNatClampNeg)
  refine LW_aload_n C 1 d_law_1080 rfl rfl ?_
  refine LW_arg C (v := 1) (by decide) hv.1 rfl rfl d_law_1081 d_law_1082 d_law_1083 d_law_1084 d_law_1085 ?_
  refine LX_call C cf_BT_count rfl ml_Law_148 im_BT_count sl_BT_BT_count_BT_count (c_BT_count C.2.2.2.2.2.2.2.2.2.2.1 e1) (by decide) (by decide) rfl rfl (Nat.le_of_ble_eq_true rfl) d_law_1086 ?_
  refine LW_aload_n C 2 d_law_1089 rfl rfl ?_
  refine LW_arg C (v := 1) (by decide) hv.1 rfl rfl d_law_1090 d_law_1091 d_law_1092 d_law_1093 d_law_1094 ?_
  refine LM_call C cf_M_count rfl ml_Law_151 im_M_count sl_M_M_count_M_count (c_M_count C.2.2.2.2.2.2.2.2.2.2.2.1 e2) (by decide) (by decide) rfl rfl (Nat.le_of_ble_eq_true rfl) d_law_1095 ?_
  refine LW_same C (tgt := 1316) d_law_1098 (by decide) ?_
  exact k μ ν μ' ν' I
set_option maxRecDepth 10000 in
theorem lc_33 {l : Launch} {D : va_G} {cy : Nat → ClassId} {al alM : Nat → Nat} {z : ZT} {b L : Nat} {xs : Nat → Int32} {Q : State → Prop} {μ : Mm} {ν : Ml} {μ' : Mm} {ν' : Ml} {i : Int32} (C : LC l D cy al alM z b L xs) (I : Inv μ ν μ' ν') (hv : LV i L) (k : ∀ μ1 ν1 μ1' ν1', Inv μ1 ν1 μ1' ν1' → LW l D cy al alM z Q μ1 ν1 μ1' ν1' 1316 [(0, .ref b), (1, .ref (al 0)), (2, .ref (alM 0)), (3, .int i)] []) : LW l D cy al alM z Q μ ν μ' ν' 1103 [(0, .ref b), (1, .ref (al 0)), (2, .ref (alM 0)), (3, .int i)] [] := by
  obtain ⟨r, μ1, ν1, μ1', ν1', e1, e2, I1⟩ := st_tape I (xs (i + 1).toNatClampNeg) (xs (i + 2).toNatClampNeg) (xs (i + 3).toNatClampNeg)
  refine LW_aload_n C 1 d_law_1103 rfl rfl ?_
  refine LW_arg C (v := 1) (by decide) hv.1 rfl rfl d_law_1104 d_law_1105 d_law_1106 d_law_1107 d_law_1108 ?_
  refine LW_arg C (v := 2) (by decide) hv.2.1 rfl rfl d_law_1109 d_law_1110 d_law_1111 d_law_1112 d_law_1113 ?_
  refine LW_arg C (v := 3) (by decide) hv.2.2.1 rfl rfl d_law_1114 d_law_1115 d_law_1116 d_law_1117 d_law_1118 ?_
  refine LX_call C cf_BT_tape rfl ml_Law_152 im_BT_tape sl_BT_BT_tape_BT_tape (c_BT_tape C.2.2.2.2.2.2.2.2.2.2.1 e1) (by decide) (by decide) rfl rfl (Nat.le_of_ble_eq_true rfl) d_law_1119 ?_
  refine LW_aload_n C 2 d_law_1122 rfl rfl ?_
  refine LW_arg C (v := 1) (by decide) hv.1 rfl rfl d_law_1123 d_law_1124 d_law_1125 d_law_1126 d_law_1127 ?_
  refine LW_arg C (v := 2) (by decide) hv.2.1 rfl rfl d_law_1128 d_law_1129 d_law_1130 d_law_1131 d_law_1132 ?_
  refine LW_arg C (v := 3) (by decide) hv.2.2.1 rfl rfl d_law_1133 d_law_1134 d_law_1135 d_law_1136 d_law_1137 ?_
  refine LM_call C cf_M_tape rfl ml_Law_155 im_M_tape sl_M_M_tape_M_tape (c_M_tape C.2.2.2.2.2.2.2.2.2.2.2.1 e2) (by decide) (by decide) rfl rfl (Nat.le_of_ble_eq_true rfl) d_law_1138 ?_
  refine LW_same C (tgt := 1316) d_law_1141 (by decide) ?_
  exact k μ1 ν1 μ1' ν1' I1
set_option maxRecDepth 10000 in
theorem lc_34 {l : Launch} {D : va_G} {cy : Nat → ClassId} {al alM : Nat → Nat} {z : ZT} {b L : Nat} {xs : Nat → Int32} {Q : State → Prop} {μ : Mm} {ν : Ml} {μ' : Mm} {ν' : Ml} {i : Int32} (C : LC l D cy al alM z b L xs) (I : Inv μ ν μ' ν') (hv : LV i L) (k : ∀ μ1 ν1 μ1' ν1', Inv μ1 ν1 μ1' ν1' → LW l D cy al alM z Q μ1 ν1 μ1' ν1' 1316 [(0, .ref b), (1, .ref (al 0)), (2, .ref (alM 0)), (3, .int i)] []) : LW l D cy al alM z Q μ ν μ' ν' 1146 [(0, .ref b), (1, .ref (al 0)), (2, .ref (alM 0)), (3, .int i)] [] := by
  obtain ⟨r, ν1, ν1', e1, e2, I1⟩ := st_item I (xs (i + 1).toNatClampNeg) (xs (i + 2).toNatClampNeg) (two (xs (i + 3).toNatClampNeg) (xs (i + 4).toNatClampNeg))
  refine LW_aload_n C 1 d_law_1146 rfl rfl ?_
  refine LW_arg C (v := 1) (by decide) hv.1 rfl rfl d_law_1147 d_law_1148 d_law_1149 d_law_1150 d_law_1151 ?_
  refine LW_arg C (v := 2) (by decide) hv.2.1 rfl rfl d_law_1152 d_law_1153 d_law_1154 d_law_1155 d_law_1156 ?_
  refine LW_arg C (v := 3) (by decide) hv.2.2.1 rfl rfl d_law_1157 d_law_1158 d_law_1159 d_law_1160 d_law_1161 ?_
  refine LW_two C hv.2.2.2.1 d_law_1162 d_law_1163 d_law_1165 d_law_1166 d_law_1167 d_law_1168 d_law_1169 d_law_1170 d_law_1171 d_law_1172 d_law_1175 d_law_1176 rfl rfl ?_
  refine LX_call C cf_BT_item rfl ml_Law_158 im_BT_item sl_BT_BT_item_BT_item (c_BT_item C.2.2.2.2.2.2.2.2.2.2.1 e1) (by decide) (by decide) rfl rfl (Nat.le_of_ble_eq_true rfl) d_law_1177 ?_
  refine LW_aload_n C 2 d_law_1180 rfl rfl ?_
  refine LW_arg C (v := 1) (by decide) hv.1 rfl rfl d_law_1181 d_law_1182 d_law_1183 d_law_1184 d_law_1185 ?_
  refine LW_arg C (v := 2) (by decide) hv.2.1 rfl rfl d_law_1186 d_law_1187 d_law_1188 d_law_1189 d_law_1190 ?_
  refine LW_arg C (v := 3) (by decide) hv.2.2.1 rfl rfl d_law_1191 d_law_1192 d_law_1193 d_law_1194 d_law_1195 ?_
  refine LW_two C hv.2.2.2.1 d_law_1196 d_law_1197 d_law_1199 d_law_1200 d_law_1201 d_law_1202 d_law_1203 d_law_1204 d_law_1205 d_law_1206 d_law_1209 d_law_1210 rfl rfl ?_
  refine LM_call C cf_M_item rfl ml_Law_162 im_M_item sl_M_M_item_M_item (c_M_item C.2.2.2.2.2.2.2.2.2.2.2.1 e2) (by decide) (by decide) rfl rfl (Nat.le_of_ble_eq_true rfl) d_law_1211 ?_
  refine LW_same C (tgt := 1316) d_law_1214 (by decide) ?_
  exact k μ ν1 μ' ν1' I1
set_option maxRecDepth 10000 in
theorem lc_35 {l : Launch} {D : va_G} {cy : Nat → ClassId} {al alM : Nat → Nat} {z : ZT} {b L : Nat} {xs : Nat → Int32} {Q : State → Prop} {μ : Mm} {ν : Ml} {μ' : Mm} {ν' : Ml} {i : Int32} (C : LC l D cy al alM z b L xs) (I : Inv μ ν μ' ν') (hv : LV i L) (k : ∀ μ1 ν1 μ1' ν1', Inv μ1 ν1 μ1' ν1' → LW l D cy al alM z Q μ1 ν1 μ1' ν1' 1316 [(0, .ref b), (1, .ref (al 0)), (2, .ref (alM 0)), (3, .int i)] []) : LW l D cy al alM z Q μ ν μ' ν' 1219 [(0, .ref b), (1, .ref (al 0)), (2, .ref (alM 0)), (3, .int i)] [] := by
  obtain ⟨r, e1, e2⟩ := st_read I (xs (i + 1).toNatClampNeg) (xs (i + 2).toNatClampNeg)
  refine LW_aload_n C 1 d_law_1219 rfl rfl ?_
  refine LW_arg C (v := 1) (by decide) hv.1 rfl rfl d_law_1220 d_law_1221 d_law_1222 d_law_1223 d_law_1224 ?_
  refine LW_arg C (v := 2) (by decide) hv.2.1 rfl rfl d_law_1225 d_law_1226 d_law_1227 d_law_1228 d_law_1229 ?_
  refine LX_call C cf_BT_read rfl ml_Law_163 im_BT_read sl_BT_BT_read_BT_read (c_BT_read C.2.2.2.2.2.2.2.2.2.2.1 e1) (by decide) (by decide) rfl rfl (Nat.le_of_ble_eq_true rfl) d_law_1230 ?_
  refine LW_aload_n C 2 d_law_1233 rfl rfl ?_
  refine LW_arg C (v := 1) (by decide) hv.1 rfl rfl d_law_1234 d_law_1235 d_law_1236 d_law_1237 d_law_1238 ?_
  refine LW_arg C (v := 2) (by decide) hv.2.1 rfl rfl d_law_1239 d_law_1240 d_law_1241 d_law_1242 d_law_1243 ?_
  refine LM_call C cf_M_read rfl ml_Law_166 im_M_read sl_M_M_read_M_read (c_M_read C.2.2.2.2.2.2.2.2.2.2.2.1 e2) (by decide) (by decide) rfl rfl (Nat.le_of_ble_eq_true rfl) d_law_1244 ?_
  refine LW_lsame C (tgt := 1316) d_law_1247 d_law_1248 (by decide) ?_
  exact k μ ν μ' ν' I
set_option maxRecDepth 10000 in
theorem lc_36 {l : Launch} {D : va_G} {cy : Nat → ClassId} {al alM : Nat → Nat} {z : ZT} {b L : Nat} {xs : Nat → Int32} {Q : State → Prop} {μ : Mm} {ν : Ml} {μ' : Mm} {ν' : Ml} {i : Int32} (C : LC l D cy al alM z b L xs) (I : Inv μ ν μ' ν') (hv : LV i L) (k : ∀ μ1 ν1 μ1' ν1', Inv μ1 ν1 μ1' ν1' → LW l D cy al alM z Q μ1 ν1 μ1' ν1' 1316 [(0, .ref b), (1, .ref (al 0)), (2, .ref (alM 0)), (3, .int i)] []) : LW l D cy al alM z Q μ ν μ' ν' 1253 [(0, .ref b), (1, .ref (al 0)), (2, .ref (alM 0)), (3, .int i)] [] := by
  obtain ⟨r, ν1, ν1', e1, e2, I1⟩ := st_shift I (xs (i + 1).toNatClampNeg) (xs (i + 2).toNatClampNeg) (xs (i + 3).toNatClampNeg) (xs (i + 4).toNatClampNeg) (xs (i + 5).toNatClampNeg)
  refine LW_aload_n C 1 d_law_1253 rfl rfl ?_
  refine LW_arg C (v := 1) (by decide) hv.1 rfl rfl d_law_1254 d_law_1255 d_law_1256 d_law_1257 d_law_1258 ?_
  refine LW_arg C (v := 2) (by decide) hv.2.1 rfl rfl d_law_1259 d_law_1260 d_law_1261 d_law_1262 d_law_1263 ?_
  refine LW_arg C (v := 3) (by decide) hv.2.2.1 rfl rfl d_law_1264 d_law_1265 d_law_1266 d_law_1267 d_law_1268 ?_
  refine LW_arg C (v := 4) (by decide) hv.2.2.2.1 rfl rfl d_law_1269 d_law_1270 d_law_1271 d_law_1272 d_law_1273 ?_
  refine LW_arg C (v := 5) (by decide) hv.2.2.2.2 rfl rfl d_law_1274 d_law_1275 d_law_1276 d_law_1277 d_law_1278 ?_
  refine LX_call C cf_BT_shift rfl ml_Law_167 im_BT_shift sl_BT_BT_shift_BT_shift (c_BT_shift C.2.2.2.2.2.2.2.2.2.2.1 e1) (by decide) (by decide) rfl rfl (Nat.le_of_ble_eq_true rfl) d_law_1279 ?_
  refine LW_aload_n C 2 d_law_1282 rfl rfl ?_
  refine LW_arg C (v := 1) (by decide) hv.1 rfl rfl d_law_1283 d_law_1284 d_law_1285 d_law_1286 d_law_1287 ?_
  refine LW_arg C (v := 2) (by decide) hv.2.1 rfl rfl d_law_1288 d_law_1289 d_law_1290 d_law_1291 d_law_1292 ?_
  refine LW_arg C (v := 3) (by decide) hv.2.2.1 rfl rfl d_law_1293 d_law_1294 d_law_1295 d_law_1296 d_law_1297 ?_
  refine LW_arg C (v := 4) (by decide) hv.2.2.2.1 rfl rfl d_law_1298 d_law_1299 d_law_1300 d_law_1301 d_law_1302 ?_
  refine LW_arg C (v := 5) (by decide) hv.2.2.2.2 rfl rfl d_law_1303 d_law_1304 d_law_1305 d_law_1306 d_law_1307 ?_
  refine LM_call C cf_M_shift rfl ml_Law_171 im_M_shift sl_M_M_shift_M_shift (c_M_shift C.2.2.2.2.2.2.2.2.2.2.2.1 e2) (by decide) (by decide) rfl rfl (Nat.le_of_ble_eq_true rfl) d_law_1308 ?_
  refine LW_same C (tgt := 1316) d_law_1311 (by decide) ?_
  exact k μ ν1 μ' ν1' I1
