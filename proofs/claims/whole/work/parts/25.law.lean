-- the law, by program (wip/whole/gen/extract.py)
def y_L_law : MethodName := { cls := "TriSplitsLaw", name := "law", desc := "([I)Z" }
def ay_Xs (g : ayG) (b L : Nat) (xs : Nat → Int32) (s : State) : Prop := va_X b L xs s s.heap ∧ b < s.heap.size ∧ b < g.1
section LW
variable {g : ayG} {b L : Nat} {xs : Nat → Int32} {y : MethodName} {cc : ByteArray} {nL : Nat} {rt : Option FieldType} {d pc : Nat} {l : List (Nat × Value)} {st : List Value} {w : Wd} {Q : Option Value → Wd → Prop}
theorem am_sld {i : Int32} (hd : decode cc pc = .ok (.iaload, 1)) (hi : vp_in i L) (k : wp g (ay_Xs g b L xs) y cc nL rt d (pc + 1) l (.int (xs i.toNatClampNeg) :: st) w Q) : wp g (ay_Xs g b L xs) y cc nL rt d pc l (.int i :: .ref b :: st) w Q :=
  fun p lc e R s m args below meth c H locs cells slots Z ls hc hP hS hl hf => va_sld hc.1 hc.2.1 hc.2.2.2.2.2.2.2.2.2.2.1 hc.2.2.2.2.2.2.2.2.2.2.2.1 (fun h => Nat.not_le.mpr hc.2.2.2.2.2.2.2.2.2.2.2.2 h) hS hi hd (k p lc e R s m args below meth c H locs cells slots Z ls hc hP hS hl hf)
theorem am_slen (hd : decode cc pc = .ok (.arraylength, 1)) (k : wp g (ay_Xs g b L xs) y cc nL rt d (pc + 1) l (.int (Int32.ofNat L) :: st) w Q) : wp g (ay_Xs g b L xs) y cc nL rt d pc l (.ref b :: st) w Q :=
  fun p lc e R s m args below meth c H locs cells slots Z ls hc hP hS hl hf => va_slen hc.1 hc.2.1 hc.2.2.2.2.2.2.2.2.2.2.1 hc.2.2.2.2.2.2.2.2.2.2.2.1 (fun h => Nat.not_le.mpr hc.2.2.2.2.2.2.2.2.2.2.2.2 h) hS hd (k p lc e R s m args below meth c H locs cells slots Z ls hc hP hS hl hf)
end LW
theorem d_L_law_0 : decode code 0 = .ok (.new 7, 3) := by decide +kernel
theorem d_L_law_3 : decode code 3 = .ok (.dup, 1) := by decide +kernel
theorem d_L_law_4 : decode code 4 = .ok (.invokespecial 9, 3) := by decide +kernel
theorem d_L_law_7 : decode code 7 = .ok (.astore_n 1, 1) := by decide +kernel
theorem d_L_law_8 : decode code 8 = .ok (.new 10, 3) := by decide +kernel
theorem d_L_law_11 : decode code 11 = .ok (.dup, 1) := by decide +kernel
theorem d_L_law_12 : decode code 12 = .ok (.invokespecial 12, 3) := by decide +kernel
theorem d_L_law_15 : decode code 15 = .ok (.astore_n 2, 1) := by decide +kernel
theorem d_L_law_16 : decode code 16 = .ok (.iconst 0, 1) := by decide +kernel
theorem d_L_law_17 : decode code 17 = .ok (.istore_n 3, 1) := by decide +kernel
theorem d_L_law_18 : decode code 18 = .ok (.iload_n 3, 1) := by decide +kernel
theorem d_L_law_19 : decode code 19 = .ok (.aload_n 0, 1) := by decide +kernel
theorem d_L_law_20 : decode code 20 = .ok (.arraylength, 1) := by decide +kernel
theorem d_L_law_21 : decode code 21 = .ok (.bipush 6, 2) := by decide +kernel
theorem d_L_law_23 : decode code 23 = .ok (.isub, 1) := by decide +kernel
theorem d_L_law_24 : decode code 24 = .ok (.if_icmp .gt 2050, 3) := by decide +kernel
theorem d_L_law_27 : decode code 27 = .ok (.aload_n 0, 1) := by decide +kernel
theorem d_L_law_28 : decode code 28 = .ok (.iload_n 3, 1) := by decide +kernel
theorem d_L_law_29 : decode code 29 = .ok (.iaload, 1) := by decide +kernel
theorem d_L_law_30 : decode code 30 = .ok (.bipush 63, 2) := by decide +kernel
theorem d_L_law_32 : decode code 32 = .ok (.iand, 1) := by decide +kernel
theorem d_L_law_33 : decode code 33 = .ok (.tableswitch 2035 0 48 #[211, 274, 297, 310, 333, 396, 439, 482, 525, 568, 611, 694, 727, 780, 823, 866, 929, 953, 977, 990, 1013, 1036, 1060, 1093, 1127, 1160, 1184, 1217, 1240, 1273, 1347, 1406, 1456, 1506, 1549, 1572, 1606, 1639, 1672, 1716, 1749, 1773, 1806, 1839, 1889, 1923, 1946, 1979, 2012], 211) := by decide +kernel
theorem d_L_law_244 : decode code 244 = .ok (.aload_n 1, 1) := by decide +kernel
theorem d_L_law_245 : decode code 245 = .ok (.aload_n 0, 1) := by decide +kernel
theorem d_L_law_246 : decode code 246 = .ok (.iload_n 3, 1) := by decide +kernel
theorem d_L_law_247 : decode code 247 = .ok (.iconst 1, 1) := by decide +kernel
theorem d_L_law_248 : decode code 248 = .ok (.iadd, 1) := by decide +kernel
theorem d_L_law_249 : decode code 249 = .ok (.iaload, 1) := by decide +kernel
theorem d_L_law_250 : decode code 250 = .ok (.aload_n 0, 1) := by decide +kernel
theorem d_L_law_251 : decode code 251 = .ok (.iload_n 3, 1) := by decide +kernel
theorem d_L_law_252 : decode code 252 = .ok (.iconst 2, 1) := by decide +kernel
theorem d_L_law_253 : decode code 253 = .ok (.iadd, 1) := by decide +kernel
theorem d_L_law_254 : decode code 254 = .ok (.iaload, 1) := by decide +kernel
theorem d_L_law_255 : decode code 255 = .ok (.aload_n 0, 1) := by decide +kernel
theorem d_L_law_256 : decode code 256 = .ok (.iload_n 3, 1) := by decide +kernel
theorem d_L_law_257 : decode code 257 = .ok (.iconst 3, 1) := by decide +kernel
theorem d_L_law_258 : decode code 258 = .ok (.iadd, 1) := by decide +kernel
theorem d_L_law_259 : decode code 259 = .ok (.iaload, 1) := by decide +kernel
theorem d_L_law_260 : decode code 260 = .ok (.aload_n 0, 1) := by decide +kernel
theorem d_L_law_261 : decode code 261 = .ok (.iload_n 3, 1) := by decide +kernel
theorem d_L_law_262 : decode code 262 = .ok (.iconst 4, 1) := by decide +kernel
theorem d_L_law_263 : decode code 263 = .ok (.iadd, 1) := by decide +kernel
theorem d_L_law_264 : decode code 264 = .ok (.iaload, 1) := by decide +kernel
theorem d_L_law_265 : decode code 265 = .ok (.aload_n 0, 1) := by decide +kernel
theorem d_L_law_266 : decode code 266 = .ok (.iload_n 3, 1) := by decide +kernel
theorem d_L_law_267 : decode code 267 = .ok (.iconst 5, 1) := by decide +kernel
theorem d_L_law_268 : decode code 268 = .ok (.iadd, 1) := by decide +kernel
theorem d_L_law_269 : decode code 269 = .ok (.iaload, 1) := by decide +kernel
theorem d_L_law_270 : decode code 270 = .ok (.invokevirtual 13, 3) := by decide +kernel
theorem d_L_law_273 : decode code 273 = .ok (.aload_n 2, 1) := by decide +kernel
theorem d_L_law_274 : decode code 274 = .ok (.aload_n 0, 1) := by decide +kernel
theorem d_L_law_275 : decode code 275 = .ok (.iload_n 3, 1) := by decide +kernel
theorem d_L_law_276 : decode code 276 = .ok (.iconst 1, 1) := by decide +kernel
theorem d_L_law_277 : decode code 277 = .ok (.iadd, 1) := by decide +kernel
theorem d_L_law_278 : decode code 278 = .ok (.iaload, 1) := by decide +kernel
theorem d_L_law_279 : decode code 279 = .ok (.aload_n 0, 1) := by decide +kernel
theorem d_L_law_280 : decode code 280 = .ok (.iload_n 3, 1) := by decide +kernel
theorem d_L_law_281 : decode code 281 = .ok (.iconst 2, 1) := by decide +kernel
theorem d_L_law_282 : decode code 282 = .ok (.iadd, 1) := by decide +kernel
theorem d_L_law_283 : decode code 283 = .ok (.iaload, 1) := by decide +kernel
theorem d_L_law_284 : decode code 284 = .ok (.aload_n 0, 1) := by decide +kernel
theorem d_L_law_285 : decode code 285 = .ok (.iload_n 3, 1) := by decide +kernel
theorem d_L_law_286 : decode code 286 = .ok (.iconst 3, 1) := by decide +kernel
theorem d_L_law_287 : decode code 287 = .ok (.iadd, 1) := by decide +kernel
theorem d_L_law_288 : decode code 288 = .ok (.iaload, 1) := by decide +kernel
theorem d_L_law_289 : decode code 289 = .ok (.aload_n 0, 1) := by decide +kernel
theorem d_L_law_290 : decode code 290 = .ok (.iload_n 3, 1) := by decide +kernel
theorem d_L_law_291 : decode code 291 = .ok (.iconst 4, 1) := by decide +kernel
theorem d_L_law_292 : decode code 292 = .ok (.iadd, 1) := by decide +kernel
theorem d_L_law_293 : decode code 293 = .ok (.iaload, 1) := by decide +kernel
theorem d_L_law_294 : decode code 294 = .ok (.aload_n 0, 1) := by decide +kernel
theorem d_L_law_295 : decode code 295 = .ok (.iload_n 3, 1) := by decide +kernel
theorem d_L_law_296 : decode code 296 = .ok (.iconst 5, 1) := by decide +kernel
theorem d_L_law_297 : decode code 297 = .ok (.iadd, 1) := by decide +kernel
theorem d_L_law_298 : decode code 298 = .ok (.iaload, 1) := by decide +kernel
theorem d_L_law_299 : decode code 299 = .ok (.invokevirtual 17, 3) := by decide +kernel
theorem d_L_law_302 : decode code 302 = .ok (.if_icmp .eq 1766, 3) := by decide +kernel
theorem d_L_law_305 : decode code 305 = .ok (.iconst 0, 1) := by decide +kernel
theorem d_L_law_306 : decode code 306 = .ok (.ireturn, 1) := by decide +kernel
theorem d_L_law_307 : decode code 307 = .ok (.aload_n 1, 1) := by decide +kernel
theorem d_L_law_308 : decode code 308 = .ok (.aload_n 0, 1) := by decide +kernel
theorem d_L_law_309 : decode code 309 = .ok (.iload_n 3, 1) := by decide +kernel
theorem d_L_law_310 : decode code 310 = .ok (.iconst 1, 1) := by decide +kernel
theorem d_L_law_311 : decode code 311 = .ok (.iadd, 1) := by decide +kernel
theorem d_L_law_312 : decode code 312 = .ok (.iaload, 1) := by decide +kernel
theorem d_L_law_313 : decode code 313 = .ok (.invokevirtual 18, 3) := by decide +kernel
theorem d_L_law_316 : decode code 316 = .ok (.aload_n 2, 1) := by decide +kernel
theorem d_L_law_317 : decode code 317 = .ok (.aload_n 0, 1) := by decide +kernel
theorem d_L_law_318 : decode code 318 = .ok (.iload_n 3, 1) := by decide +kernel
theorem d_L_law_319 : decode code 319 = .ok (.iconst 1, 1) := by decide +kernel
theorem d_L_law_320 : decode code 320 = .ok (.iadd, 1) := by decide +kernel
theorem d_L_law_321 : decode code 321 = .ok (.iaload, 1) := by decide +kernel
theorem d_L_law_322 : decode code 322 = .ok (.invokevirtual 22, 3) := by decide +kernel
theorem d_L_law_325 : decode code 325 = .ok (.if_icmp .eq 1743, 3) := by decide +kernel
theorem d_L_law_328 : decode code 328 = .ok (.iconst 0, 1) := by decide +kernel
theorem d_L_law_329 : decode code 329 = .ok (.ireturn, 1) := by decide +kernel
theorem d_L_law_330 : decode code 330 = .ok (.aload_n 1, 1) := by decide +kernel
theorem d_L_law_331 : decode code 331 = .ok (.invokevirtual 23, 3) := by decide +kernel
theorem d_L_law_334 : decode code 334 = .ok (.aload_n 2, 1) := by decide +kernel
theorem d_L_law_335 : decode code 335 = .ok (.invokevirtual 27, 3) := by decide +kernel
theorem d_L_law_338 : decode code 338 = .ok (.if_icmp .eq 1730, 3) := by decide +kernel
theorem d_L_law_341 : decode code 341 = .ok (.iconst 0, 1) := by decide +kernel
theorem d_L_law_342 : decode code 342 = .ok (.ireturn, 1) := by decide +kernel
theorem d_L_law_343 : decode code 343 = .ok (.aload_n 1, 1) := by decide +kernel
theorem d_L_law_344 : decode code 344 = .ok (.aload_n 0, 1) := by decide +kernel
theorem d_L_law_345 : decode code 345 = .ok (.iload_n 3, 1) := by decide +kernel
theorem d_L_law_346 : decode code 346 = .ok (.iconst 1, 1) := by decide +kernel
theorem d_L_law_347 : decode code 347 = .ok (.iadd, 1) := by decide +kernel
theorem d_L_law_348 : decode code 348 = .ok (.iaload, 1) := by decide +kernel
theorem d_L_law_349 : decode code 349 = .ok (.invokevirtual 28, 3) := by decide +kernel
theorem d_L_law_352 : decode code 352 = .ok (.aload_n 2, 1) := by decide +kernel
theorem d_L_law_353 : decode code 353 = .ok (.aload_n 0, 1) := by decide +kernel
theorem d_L_law_354 : decode code 354 = .ok (.iload_n 3, 1) := by decide +kernel
theorem d_L_law_355 : decode code 355 = .ok (.iconst 1, 1) := by decide +kernel
theorem d_L_law_356 : decode code 356 = .ok (.iadd, 1) := by decide +kernel
theorem d_L_law_357 : decode code 357 = .ok (.iaload, 1) := by decide +kernel
theorem d_L_law_358 : decode code 358 = .ok (.invokevirtual 31, 3) := by decide +kernel
theorem d_L_law_361 : decode code 361 = .ok (.if_icmp .eq 1707, 3) := by decide +kernel
theorem d_L_law_364 : decode code 364 = .ok (.iconst 0, 1) := by decide +kernel
theorem d_L_law_365 : decode code 365 = .ok (.ireturn, 1) := by decide +kernel
theorem d_L_law_366 : decode code 366 = .ok (.aload_n 1, 1) := by decide +kernel
theorem d_L_law_367 : decode code 367 = .ok (.aload_n 0, 1) := by decide +kernel
theorem d_L_law_368 : decode code 368 = .ok (.iload_n 3, 1) := by decide +kernel
theorem d_L_law_369 : decode code 369 = .ok (.iconst 1, 1) := by decide +kernel
theorem d_L_law_370 : decode code 370 = .ok (.iadd, 1) := by decide +kernel
theorem d_L_law_371 : decode code 371 = .ok (.iaload, 1) := by decide +kernel
theorem d_L_law_372 : decode code 372 = .ok (.aload_n 0, 1) := by decide +kernel
theorem d_L_law_373 : decode code 373 = .ok (.iload_n 3, 1) := by decide +kernel
theorem d_L_law_374 : decode code 374 = .ok (.iconst 2, 1) := by decide +kernel
theorem d_L_law_375 : decode code 375 = .ok (.iadd, 1) := by decide +kernel
theorem d_L_law_376 : decode code 376 = .ok (.iaload, 1) := by decide +kernel
theorem d_L_law_377 : decode code 377 = .ok (.i2l, 1) := by decide +kernel
theorem d_L_law_378 : decode code 378 = .ok (.bipush 32, 2) := by decide +kernel
theorem d_L_law_380 : decode code 380 = .ok (.lshl, 1) := by decide +kernel
theorem d_L_law_381 : decode code 381 = .ok (.aload_n 0, 1) := by decide +kernel
theorem d_L_law_382 : decode code 382 = .ok (.iload_n 3, 1) := by decide +kernel
theorem d_L_law_383 : decode code 383 = .ok (.iconst 3, 1) := by decide +kernel
theorem d_L_law_384 : decode code 384 = .ok (.iadd, 1) := by decide +kernel
theorem d_L_law_385 : decode code 385 = .ok (.iaload, 1) := by decide +kernel
theorem d_L_law_386 : decode code 386 = .ok (.i2l, 1) := by decide +kernel
theorem d_L_law_387 : decode code 387 = .ok (.ldc2_w 32, 3) := by decide +kernel
theorem d_L_law_390 : decode code 390 = .ok (.land, 1) := by decide +kernel
theorem d_L_law_391 : decode code 391 = .ok (.lor, 1) := by decide +kernel
theorem d_L_law_392 : decode code 392 = .ok (.invokevirtual 34, 3) := by decide +kernel
theorem d_L_law_395 : decode code 395 = .ok (.aload_n 2, 1) := by decide +kernel
theorem d_L_law_396 : decode code 396 = .ok (.aload_n 0, 1) := by decide +kernel
theorem d_L_law_397 : decode code 397 = .ok (.iload_n 3, 1) := by decide +kernel
theorem d_L_law_398 : decode code 398 = .ok (.iconst 1, 1) := by decide +kernel
theorem d_L_law_399 : decode code 399 = .ok (.iadd, 1) := by decide +kernel
theorem d_L_law_400 : decode code 400 = .ok (.iaload, 1) := by decide +kernel
theorem d_L_law_401 : decode code 401 = .ok (.aload_n 0, 1) := by decide +kernel
theorem d_L_law_402 : decode code 402 = .ok (.iload_n 3, 1) := by decide +kernel
theorem d_L_law_403 : decode code 403 = .ok (.iconst 2, 1) := by decide +kernel
theorem d_L_law_404 : decode code 404 = .ok (.iadd, 1) := by decide +kernel
theorem d_L_law_405 : decode code 405 = .ok (.iaload, 1) := by decide +kernel
theorem d_L_law_406 : decode code 406 = .ok (.i2l, 1) := by decide +kernel
theorem d_L_law_407 : decode code 407 = .ok (.bipush 32, 2) := by decide +kernel
theorem d_L_law_409 : decode code 409 = .ok (.lshl, 1) := by decide +kernel
theorem d_L_law_410 : decode code 410 = .ok (.aload_n 0, 1) := by decide +kernel
theorem d_L_law_411 : decode code 411 = .ok (.iload_n 3, 1) := by decide +kernel
theorem d_L_law_412 : decode code 412 = .ok (.iconst 3, 1) := by decide +kernel
theorem d_L_law_413 : decode code 413 = .ok (.iadd, 1) := by decide +kernel
theorem d_L_law_414 : decode code 414 = .ok (.iaload, 1) := by decide +kernel
theorem d_L_law_415 : decode code 415 = .ok (.i2l, 1) := by decide +kernel
theorem d_L_law_416 : decode code 416 = .ok (.ldc2_w 32, 3) := by decide +kernel
theorem d_L_law_419 : decode code 419 = .ok (.land, 1) := by decide +kernel
theorem d_L_law_420 : decode code 420 = .ok (.lor, 1) := by decide +kernel
theorem d_L_law_421 : decode code 421 = .ok (.invokevirtual 38, 3) := by decide +kernel
theorem d_L_law_424 : decode code 424 = .ok (.if_icmp .eq 1644, 3) := by decide +kernel
theorem d_L_law_427 : decode code 427 = .ok (.iconst 0, 1) := by decide +kernel
theorem d_L_law_428 : decode code 428 = .ok (.ireturn, 1) := by decide +kernel
theorem d_L_law_429 : decode code 429 = .ok (.aload_n 1, 1) := by decide +kernel
theorem d_L_law_430 : decode code 430 = .ok (.aload_n 0, 1) := by decide +kernel
theorem d_L_law_431 : decode code 431 = .ok (.iload_n 3, 1) := by decide +kernel
theorem d_L_law_432 : decode code 432 = .ok (.iconst 1, 1) := by decide +kernel
theorem d_L_law_433 : decode code 433 = .ok (.iadd, 1) := by decide +kernel
theorem d_L_law_434 : decode code 434 = .ok (.iaload, 1) := by decide +kernel
theorem d_L_law_435 : decode code 435 = .ok (.aload_n 0, 1) := by decide +kernel
theorem d_L_law_436 : decode code 436 = .ok (.iload_n 3, 1) := by decide +kernel
theorem d_L_law_437 : decode code 437 = .ok (.iconst 2, 1) := by decide +kernel
theorem d_L_law_438 : decode code 438 = .ok (.iadd, 1) := by decide +kernel
theorem d_L_law_439 : decode code 439 = .ok (.iaload, 1) := by decide +kernel
theorem d_L_law_440 : decode code 440 = .ok (.aload_n 0, 1) := by decide +kernel
theorem d_L_law_441 : decode code 441 = .ok (.iload_n 3, 1) := by decide +kernel
theorem d_L_law_442 : decode code 442 = .ok (.iconst 3, 1) := by decide +kernel
theorem d_L_law_443 : decode code 443 = .ok (.iadd, 1) := by decide +kernel
theorem d_L_law_444 : decode code 444 = .ok (.iaload, 1) := by decide +kernel
theorem d_L_law_445 : decode code 445 = .ok (.invokevirtual 39, 3) := by decide +kernel
theorem d_L_law_448 : decode code 448 = .ok (.aload_n 2, 1) := by decide +kernel
theorem d_L_law_449 : decode code 449 = .ok (.aload_n 0, 1) := by decide +kernel
theorem d_L_law_450 : decode code 450 = .ok (.iload_n 3, 1) := by decide +kernel
theorem d_L_law_451 : decode code 451 = .ok (.iconst 1, 1) := by decide +kernel
theorem d_L_law_452 : decode code 452 = .ok (.iadd, 1) := by decide +kernel
theorem d_L_law_453 : decode code 453 = .ok (.iaload, 1) := by decide +kernel
theorem d_L_law_454 : decode code 454 = .ok (.aload_n 0, 1) := by decide +kernel
theorem d_L_law_455 : decode code 455 = .ok (.iload_n 3, 1) := by decide +kernel
theorem d_L_law_456 : decode code 456 = .ok (.iconst 2, 1) := by decide +kernel
theorem d_L_law_457 : decode code 457 = .ok (.iadd, 1) := by decide +kernel
theorem d_L_law_458 : decode code 458 = .ok (.iaload, 1) := by decide +kernel
theorem d_L_law_459 : decode code 459 = .ok (.aload_n 0, 1) := by decide +kernel
theorem d_L_law_460 : decode code 460 = .ok (.iload_n 3, 1) := by decide +kernel
theorem d_L_law_461 : decode code 461 = .ok (.iconst 3, 1) := by decide +kernel
theorem d_L_law_462 : decode code 462 = .ok (.iadd, 1) := by decide +kernel
theorem d_L_law_463 : decode code 463 = .ok (.iaload, 1) := by decide +kernel
theorem d_L_law_464 : decode code 464 = .ok (.invokevirtual 43, 3) := by decide +kernel
theorem d_L_law_467 : decode code 467 = .ok (.if_icmp .eq 1601, 3) := by decide +kernel
theorem d_L_law_470 : decode code 470 = .ok (.iconst 0, 1) := by decide +kernel
theorem d_L_law_471 : decode code 471 = .ok (.ireturn, 1) := by decide +kernel
theorem d_L_law_472 : decode code 472 = .ok (.aload_n 1, 1) := by decide +kernel
theorem d_L_law_473 : decode code 473 = .ok (.aload_n 0, 1) := by decide +kernel
theorem d_L_law_474 : decode code 474 = .ok (.iload_n 3, 1) := by decide +kernel
theorem d_L_law_475 : decode code 475 = .ok (.iconst 1, 1) := by decide +kernel
theorem d_L_law_476 : decode code 476 = .ok (.iadd, 1) := by decide +kernel
theorem d_L_law_477 : decode code 477 = .ok (.iaload, 1) := by decide +kernel
theorem d_L_law_478 : decode code 478 = .ok (.aload_n 0, 1) := by decide +kernel
theorem d_L_law_479 : decode code 479 = .ok (.iload_n 3, 1) := by decide +kernel
theorem d_L_law_480 : decode code 480 = .ok (.iconst 2, 1) := by decide +kernel
theorem d_L_law_481 : decode code 481 = .ok (.iadd, 1) := by decide +kernel
theorem d_L_law_482 : decode code 482 = .ok (.iaload, 1) := by decide +kernel
theorem d_L_law_483 : decode code 483 = .ok (.aload_n 0, 1) := by decide +kernel
theorem d_L_law_484 : decode code 484 = .ok (.iload_n 3, 1) := by decide +kernel
theorem d_L_law_485 : decode code 485 = .ok (.iconst 3, 1) := by decide +kernel
theorem d_L_law_486 : decode code 486 = .ok (.iadd, 1) := by decide +kernel
theorem d_L_law_487 : decode code 487 = .ok (.iaload, 1) := by decide +kernel
theorem d_L_law_488 : decode code 488 = .ok (.invokevirtual 44, 3) := by decide +kernel
theorem d_L_law_491 : decode code 491 = .ok (.aload_n 2, 1) := by decide +kernel
theorem d_L_law_492 : decode code 492 = .ok (.aload_n 0, 1) := by decide +kernel
theorem d_L_law_493 : decode code 493 = .ok (.iload_n 3, 1) := by decide +kernel
theorem d_L_law_494 : decode code 494 = .ok (.iconst 1, 1) := by decide +kernel
theorem d_L_law_495 : decode code 495 = .ok (.iadd, 1) := by decide +kernel
theorem d_L_law_496 : decode code 496 = .ok (.iaload, 1) := by decide +kernel
theorem d_L_law_497 : decode code 497 = .ok (.aload_n 0, 1) := by decide +kernel
theorem d_L_law_498 : decode code 498 = .ok (.iload_n 3, 1) := by decide +kernel
theorem d_L_law_499 : decode code 499 = .ok (.iconst 2, 1) := by decide +kernel
theorem d_L_law_500 : decode code 500 = .ok (.iadd, 1) := by decide +kernel
theorem d_L_law_501 : decode code 501 = .ok (.iaload, 1) := by decide +kernel
theorem d_L_law_502 : decode code 502 = .ok (.aload_n 0, 1) := by decide +kernel
theorem d_L_law_503 : decode code 503 = .ok (.iload_n 3, 1) := by decide +kernel
theorem d_L_law_504 : decode code 504 = .ok (.iconst 3, 1) := by decide +kernel
theorem d_L_law_505 : decode code 505 = .ok (.iadd, 1) := by decide +kernel
theorem d_L_law_506 : decode code 506 = .ok (.iaload, 1) := by decide +kernel
theorem d_L_law_507 : decode code 507 = .ok (.invokevirtual 47, 3) := by decide +kernel
theorem d_L_law_510 : decode code 510 = .ok (.if_icmp .eq 1558, 3) := by decide +kernel
theorem d_L_law_513 : decode code 513 = .ok (.iconst 0, 1) := by decide +kernel
theorem d_L_law_514 : decode code 514 = .ok (.ireturn, 1) := by decide +kernel
theorem d_L_law_515 : decode code 515 = .ok (.aload_n 1, 1) := by decide +kernel
theorem d_L_law_516 : decode code 516 = .ok (.aload_n 0, 1) := by decide +kernel
theorem d_L_law_517 : decode code 517 = .ok (.iload_n 3, 1) := by decide +kernel
theorem d_L_law_518 : decode code 518 = .ok (.iconst 1, 1) := by decide +kernel
theorem d_L_law_519 : decode code 519 = .ok (.iadd, 1) := by decide +kernel
theorem d_L_law_520 : decode code 520 = .ok (.iaload, 1) := by decide +kernel
theorem d_L_law_521 : decode code 521 = .ok (.aload_n 0, 1) := by decide +kernel
theorem d_L_law_522 : decode code 522 = .ok (.iload_n 3, 1) := by decide +kernel
theorem d_L_law_523 : decode code 523 = .ok (.iconst 2, 1) := by decide +kernel
theorem d_L_law_524 : decode code 524 = .ok (.iadd, 1) := by decide +kernel
theorem d_L_law_525 : decode code 525 = .ok (.iaload, 1) := by decide +kernel
theorem d_L_law_526 : decode code 526 = .ok (.aload_n 0, 1) := by decide +kernel
theorem d_L_law_527 : decode code 527 = .ok (.iload_n 3, 1) := by decide +kernel
theorem d_L_law_528 : decode code 528 = .ok (.iconst 3, 1) := by decide +kernel
theorem d_L_law_529 : decode code 529 = .ok (.iadd, 1) := by decide +kernel
theorem d_L_law_530 : decode code 530 = .ok (.iaload, 1) := by decide +kernel
theorem d_L_law_531 : decode code 531 = .ok (.invokevirtual 48, 3) := by decide +kernel
theorem d_L_law_534 : decode code 534 = .ok (.aload_n 2, 1) := by decide +kernel
theorem d_L_law_535 : decode code 535 = .ok (.aload_n 0, 1) := by decide +kernel
theorem d_L_law_536 : decode code 536 = .ok (.iload_n 3, 1) := by decide +kernel
theorem d_L_law_537 : decode code 537 = .ok (.iconst 1, 1) := by decide +kernel
theorem d_L_law_538 : decode code 538 = .ok (.iadd, 1) := by decide +kernel
theorem d_L_law_539 : decode code 539 = .ok (.iaload, 1) := by decide +kernel
theorem d_L_law_540 : decode code 540 = .ok (.aload_n 0, 1) := by decide +kernel
theorem d_L_law_541 : decode code 541 = .ok (.iload_n 3, 1) := by decide +kernel
theorem d_L_law_542 : decode code 542 = .ok (.iconst 2, 1) := by decide +kernel
theorem d_L_law_543 : decode code 543 = .ok (.iadd, 1) := by decide +kernel
theorem d_L_law_544 : decode code 544 = .ok (.iaload, 1) := by decide +kernel
theorem d_L_law_545 : decode code 545 = .ok (.aload_n 0, 1) := by decide +kernel
theorem d_L_law_546 : decode code 546 = .ok (.iload_n 3, 1) := by decide +kernel
theorem d_L_law_547 : decode code 547 = .ok (.iconst 3, 1) := by decide +kernel
theorem d_L_law_548 : decode code 548 = .ok (.iadd, 1) := by decide +kernel
theorem d_L_law_549 : decode code 549 = .ok (.iaload, 1) := by decide +kernel
theorem d_L_law_550 : decode code 550 = .ok (.invokevirtual 51, 3) := by decide +kernel
theorem d_L_law_553 : decode code 553 = .ok (.if_icmp .eq 1515, 3) := by decide +kernel
theorem d_L_law_556 : decode code 556 = .ok (.iconst 0, 1) := by decide +kernel
theorem d_L_law_557 : decode code 557 = .ok (.ireturn, 1) := by decide +kernel
theorem d_L_law_558 : decode code 558 = .ok (.aload_n 1, 1) := by decide +kernel
theorem d_L_law_559 : decode code 559 = .ok (.aload_n 0, 1) := by decide +kernel
theorem d_L_law_560 : decode code 560 = .ok (.iload_n 3, 1) := by decide +kernel
theorem d_L_law_561 : decode code 561 = .ok (.iconst 1, 1) := by decide +kernel
theorem d_L_law_562 : decode code 562 = .ok (.iadd, 1) := by decide +kernel
theorem d_L_law_563 : decode code 563 = .ok (.iaload, 1) := by decide +kernel
theorem d_L_law_564 : decode code 564 = .ok (.aload_n 0, 1) := by decide +kernel
theorem d_L_law_565 : decode code 565 = .ok (.iload_n 3, 1) := by decide +kernel
theorem d_L_law_566 : decode code 566 = .ok (.iconst 2, 1) := by decide +kernel
theorem d_L_law_567 : decode code 567 = .ok (.iadd, 1) := by decide +kernel
theorem d_L_law_568 : decode code 568 = .ok (.iaload, 1) := by decide +kernel
theorem d_L_law_569 : decode code 569 = .ok (.aload_n 0, 1) := by decide +kernel
theorem d_L_law_570 : decode code 570 = .ok (.iload_n 3, 1) := by decide +kernel
theorem d_L_law_571 : decode code 571 = .ok (.iconst 3, 1) := by decide +kernel
theorem d_L_law_572 : decode code 572 = .ok (.iadd, 1) := by decide +kernel
theorem d_L_law_573 : decode code 573 = .ok (.iaload, 1) := by decide +kernel
theorem d_L_law_574 : decode code 574 = .ok (.invokevirtual 52, 3) := by decide +kernel
theorem d_L_law_577 : decode code 577 = .ok (.aload_n 2, 1) := by decide +kernel
theorem d_L_law_578 : decode code 578 = .ok (.aload_n 0, 1) := by decide +kernel
theorem d_L_law_579 : decode code 579 = .ok (.iload_n 3, 1) := by decide +kernel
theorem d_L_law_580 : decode code 580 = .ok (.iconst 1, 1) := by decide +kernel
theorem d_L_law_581 : decode code 581 = .ok (.iadd, 1) := by decide +kernel
theorem d_L_law_582 : decode code 582 = .ok (.iaload, 1) := by decide +kernel
theorem d_L_law_583 : decode code 583 = .ok (.aload_n 0, 1) := by decide +kernel
theorem d_L_law_584 : decode code 584 = .ok (.iload_n 3, 1) := by decide +kernel
theorem d_L_law_585 : decode code 585 = .ok (.iconst 2, 1) := by decide +kernel
theorem d_L_law_586 : decode code 586 = .ok (.iadd, 1) := by decide +kernel
theorem d_L_law_587 : decode code 587 = .ok (.iaload, 1) := by decide +kernel
theorem d_L_law_588 : decode code 588 = .ok (.aload_n 0, 1) := by decide +kernel
theorem d_L_law_589 : decode code 589 = .ok (.iload_n 3, 1) := by decide +kernel
theorem d_L_law_590 : decode code 590 = .ok (.iconst 3, 1) := by decide +kernel
theorem d_L_law_591 : decode code 591 = .ok (.iadd, 1) := by decide +kernel
theorem d_L_law_592 : decode code 592 = .ok (.iaload, 1) := by decide +kernel
theorem d_L_law_593 : decode code 593 = .ok (.invokevirtual 55, 3) := by decide +kernel
theorem d_L_law_596 : decode code 596 = .ok (.if_icmp .eq 1472, 3) := by decide +kernel
theorem d_L_law_599 : decode code 599 = .ok (.iconst 0, 1) := by decide +kernel
theorem d_L_law_600 : decode code 600 = .ok (.ireturn, 1) := by decide +kernel
theorem d_L_law_601 : decode code 601 = .ok (.aload_n 1, 1) := by decide +kernel
theorem d_L_law_602 : decode code 602 = .ok (.aload_n 0, 1) := by decide +kernel
theorem d_L_law_603 : decode code 603 = .ok (.iload_n 3, 1) := by decide +kernel
theorem d_L_law_604 : decode code 604 = .ok (.iconst 1, 1) := by decide +kernel
theorem d_L_law_605 : decode code 605 = .ok (.iadd, 1) := by decide +kernel
theorem d_L_law_606 : decode code 606 = .ok (.iaload, 1) := by decide +kernel
theorem d_L_law_607 : decode code 607 = .ok (.aload_n 0, 1) := by decide +kernel
theorem d_L_law_608 : decode code 608 = .ok (.iload_n 3, 1) := by decide +kernel
theorem d_L_law_609 : decode code 609 = .ok (.iconst 2, 1) := by decide +kernel
theorem d_L_law_610 : decode code 610 = .ok (.iadd, 1) := by decide +kernel
theorem d_L_law_611 : decode code 611 = .ok (.iaload, 1) := by decide +kernel
theorem d_L_law_612 : decode code 612 = .ok (.aload_n 0, 1) := by decide +kernel
theorem d_L_law_613 : decode code 613 = .ok (.iload_n 3, 1) := by decide +kernel
theorem d_L_law_614 : decode code 614 = .ok (.iconst 3, 1) := by decide +kernel
theorem d_L_law_615 : decode code 615 = .ok (.iadd, 1) := by decide +kernel
theorem d_L_law_616 : decode code 616 = .ok (.iaload, 1) := by decide +kernel
theorem d_L_law_617 : decode code 617 = .ok (.invokevirtual 56, 3) := by decide +kernel
theorem d_L_law_620 : decode code 620 = .ok (.aload_n 2, 1) := by decide +kernel
theorem d_L_law_621 : decode code 621 = .ok (.aload_n 0, 1) := by decide +kernel
theorem d_L_law_622 : decode code 622 = .ok (.iload_n 3, 1) := by decide +kernel
theorem d_L_law_623 : decode code 623 = .ok (.iconst 1, 1) := by decide +kernel
theorem d_L_law_624 : decode code 624 = .ok (.iadd, 1) := by decide +kernel
theorem d_L_law_625 : decode code 625 = .ok (.iaload, 1) := by decide +kernel
theorem d_L_law_626 : decode code 626 = .ok (.aload_n 0, 1) := by decide +kernel
theorem d_L_law_627 : decode code 627 = .ok (.iload_n 3, 1) := by decide +kernel
theorem d_L_law_628 : decode code 628 = .ok (.iconst 2, 1) := by decide +kernel
theorem d_L_law_629 : decode code 629 = .ok (.iadd, 1) := by decide +kernel
theorem d_L_law_630 : decode code 630 = .ok (.iaload, 1) := by decide +kernel
theorem d_L_law_631 : decode code 631 = .ok (.aload_n 0, 1) := by decide +kernel
theorem d_L_law_632 : decode code 632 = .ok (.iload_n 3, 1) := by decide +kernel
theorem d_L_law_633 : decode code 633 = .ok (.iconst 3, 1) := by decide +kernel
theorem d_L_law_634 : decode code 634 = .ok (.iadd, 1) := by decide +kernel
theorem d_L_law_635 : decode code 635 = .ok (.iaload, 1) := by decide +kernel
theorem d_L_law_636 : decode code 636 = .ok (.invokevirtual 59, 3) := by decide +kernel
theorem d_L_law_639 : decode code 639 = .ok (.if_icmp .eq 1429, 3) := by decide +kernel
theorem d_L_law_642 : decode code 642 = .ok (.iconst 0, 1) := by decide +kernel
theorem d_L_law_643 : decode code 643 = .ok (.ireturn, 1) := by decide +kernel
theorem d_L_law_644 : decode code 644 = .ok (.aload_n 1, 1) := by decide +kernel
theorem d_L_law_645 : decode code 645 = .ok (.aload_n 0, 1) := by decide +kernel
theorem d_L_law_646 : decode code 646 = .ok (.iload_n 3, 1) := by decide +kernel
theorem d_L_law_647 : decode code 647 = .ok (.iconst 1, 1) := by decide +kernel
theorem d_L_law_648 : decode code 648 = .ok (.iadd, 1) := by decide +kernel
theorem d_L_law_649 : decode code 649 = .ok (.iaload, 1) := by decide +kernel
theorem d_L_law_650 : decode code 650 = .ok (.aload_n 0, 1) := by decide +kernel
theorem d_L_law_651 : decode code 651 = .ok (.iload_n 3, 1) := by decide +kernel
theorem d_L_law_652 : decode code 652 = .ok (.iconst 2, 1) := by decide +kernel
theorem d_L_law_653 : decode code 653 = .ok (.iadd, 1) := by decide +kernel
theorem d_L_law_654 : decode code 654 = .ok (.iaload, 1) := by decide +kernel
theorem d_L_law_655 : decode code 655 = .ok (.i2l, 1) := by decide +kernel
theorem d_L_law_656 : decode code 656 = .ok (.bipush 32, 2) := by decide +kernel
theorem d_L_law_658 : decode code 658 = .ok (.lshl, 1) := by decide +kernel
theorem d_L_law_659 : decode code 659 = .ok (.aload_n 0, 1) := by decide +kernel
theorem d_L_law_660 : decode code 660 = .ok (.iload_n 3, 1) := by decide +kernel
theorem d_L_law_661 : decode code 661 = .ok (.iconst 3, 1) := by decide +kernel
theorem d_L_law_662 : decode code 662 = .ok (.iadd, 1) := by decide +kernel
theorem d_L_law_663 : decode code 663 = .ok (.iaload, 1) := by decide +kernel
theorem d_L_law_664 : decode code 664 = .ok (.i2l, 1) := by decide +kernel
theorem d_L_law_665 : decode code 665 = .ok (.ldc2_w 32, 3) := by decide +kernel
theorem d_L_law_668 : decode code 668 = .ok (.land, 1) := by decide +kernel
theorem d_L_law_669 : decode code 669 = .ok (.lor, 1) := by decide +kernel
theorem d_L_law_670 : decode code 670 = .ok (.aload_n 0, 1) := by decide +kernel
theorem d_L_law_671 : decode code 671 = .ok (.iload_n 3, 1) := by decide +kernel
theorem d_L_law_672 : decode code 672 = .ok (.iconst 4, 1) := by decide +kernel
theorem d_L_law_673 : decode code 673 = .ok (.iadd, 1) := by decide +kernel
theorem d_L_law_674 : decode code 674 = .ok (.iaload, 1) := by decide +kernel
theorem d_L_law_675 : decode code 675 = .ok (.aload_n 0, 1) := by decide +kernel
theorem d_L_law_676 : decode code 676 = .ok (.iload_n 3, 1) := by decide +kernel
theorem d_L_law_677 : decode code 677 = .ok (.iconst 5, 1) := by decide +kernel
theorem d_L_law_678 : decode code 678 = .ok (.iadd, 1) := by decide +kernel
theorem d_L_law_679 : decode code 679 = .ok (.iaload, 1) := by decide +kernel
theorem d_L_law_680 : decode code 680 = .ok (.invokevirtual 60, 3) := by decide +kernel
theorem d_L_law_683 : decode code 683 = .ok (.aload_n 2, 1) := by decide +kernel
theorem d_L_law_684 : decode code 684 = .ok (.aload_n 0, 1) := by decide +kernel
theorem d_L_law_685 : decode code 685 = .ok (.iload_n 3, 1) := by decide +kernel
theorem d_L_law_686 : decode code 686 = .ok (.iconst 1, 1) := by decide +kernel
theorem d_L_law_687 : decode code 687 = .ok (.iadd, 1) := by decide +kernel
theorem d_L_law_688 : decode code 688 = .ok (.iaload, 1) := by decide +kernel
theorem d_L_law_689 : decode code 689 = .ok (.aload_n 0, 1) := by decide +kernel
theorem d_L_law_690 : decode code 690 = .ok (.iload_n 3, 1) := by decide +kernel
theorem d_L_law_691 : decode code 691 = .ok (.iconst 2, 1) := by decide +kernel
theorem d_L_law_692 : decode code 692 = .ok (.iadd, 1) := by decide +kernel
theorem d_L_law_693 : decode code 693 = .ok (.iaload, 1) := by decide +kernel
theorem d_L_law_694 : decode code 694 = .ok (.i2l, 1) := by decide +kernel
theorem d_L_law_695 : decode code 695 = .ok (.bipush 32, 2) := by decide +kernel
theorem d_L_law_697 : decode code 697 = .ok (.lshl, 1) := by decide +kernel
theorem d_L_law_698 : decode code 698 = .ok (.aload_n 0, 1) := by decide +kernel
theorem d_L_law_699 : decode code 699 = .ok (.iload_n 3, 1) := by decide +kernel
theorem d_L_law_700 : decode code 700 = .ok (.iconst 3, 1) := by decide +kernel
theorem d_L_law_701 : decode code 701 = .ok (.iadd, 1) := by decide +kernel
theorem d_L_law_702 : decode code 702 = .ok (.iaload, 1) := by decide +kernel
theorem d_L_law_703 : decode code 703 = .ok (.i2l, 1) := by decide +kernel
theorem d_L_law_704 : decode code 704 = .ok (.ldc2_w 32, 3) := by decide +kernel
theorem d_L_law_707 : decode code 707 = .ok (.land, 1) := by decide +kernel
theorem d_L_law_708 : decode code 708 = .ok (.lor, 1) := by decide +kernel
theorem d_L_law_709 : decode code 709 = .ok (.aload_n 0, 1) := by decide +kernel
theorem d_L_law_710 : decode code 710 = .ok (.iload_n 3, 1) := by decide +kernel
theorem d_L_law_711 : decode code 711 = .ok (.iconst 4, 1) := by decide +kernel
theorem d_L_law_712 : decode code 712 = .ok (.iadd, 1) := by decide +kernel
theorem d_L_law_713 : decode code 713 = .ok (.iaload, 1) := by decide +kernel
theorem d_L_law_714 : decode code 714 = .ok (.aload_n 0, 1) := by decide +kernel
theorem d_L_law_715 : decode code 715 = .ok (.iload_n 3, 1) := by decide +kernel
theorem d_L_law_716 : decode code 716 = .ok (.iconst 5, 1) := by decide +kernel
theorem d_L_law_717 : decode code 717 = .ok (.iadd, 1) := by decide +kernel
theorem d_L_law_718 : decode code 718 = .ok (.iaload, 1) := by decide +kernel
theorem d_L_law_719 : decode code 719 = .ok (.invokevirtual 64, 3) := by decide +kernel
theorem d_L_law_722 : decode code 722 = .ok (.if_icmp .eq 1346, 3) := by decide +kernel
theorem d_L_law_725 : decode code 725 = .ok (.iconst 0, 1) := by decide +kernel
theorem d_L_law_726 : decode code 726 = .ok (.ireturn, 1) := by decide +kernel
theorem d_L_law_727 : decode code 727 = .ok (.aload_n 1, 1) := by decide +kernel
theorem d_L_law_728 : decode code 728 = .ok (.aload_n 0, 1) := by decide +kernel
theorem d_L_law_729 : decode code 729 = .ok (.iload_n 3, 1) := by decide +kernel
theorem d_L_law_730 : decode code 730 = .ok (.iconst 1, 1) := by decide +kernel
theorem d_L_law_731 : decode code 731 = .ok (.iadd, 1) := by decide +kernel
theorem d_L_law_732 : decode code 732 = .ok (.iaload, 1) := by decide +kernel
theorem d_L_law_733 : decode code 733 = .ok (.aload_n 0, 1) := by decide +kernel
theorem d_L_law_734 : decode code 734 = .ok (.iload_n 3, 1) := by decide +kernel
theorem d_L_law_735 : decode code 735 = .ok (.iconst 2, 1) := by decide +kernel
theorem d_L_law_736 : decode code 736 = .ok (.iadd, 1) := by decide +kernel
theorem d_L_law_737 : decode code 737 = .ok (.iaload, 1) := by decide +kernel
theorem d_L_law_738 : decode code 738 = .ok (.invokevirtual 65, 3) := by decide +kernel
theorem d_L_law_741 : decode code 741 = .ok (.aload_n 2, 1) := by decide +kernel
theorem d_L_law_742 : decode code 742 = .ok (.aload_n 0, 1) := by decide +kernel
theorem d_L_law_743 : decode code 743 = .ok (.iload_n 3, 1) := by decide +kernel
theorem d_L_law_744 : decode code 744 = .ok (.iconst 1, 1) := by decide +kernel
theorem d_L_law_745 : decode code 745 = .ok (.iadd, 1) := by decide +kernel
theorem d_L_law_746 : decode code 746 = .ok (.iaload, 1) := by decide +kernel
theorem d_L_law_747 : decode code 747 = .ok (.aload_n 0, 1) := by decide +kernel
theorem d_L_law_748 : decode code 748 = .ok (.iload_n 3, 1) := by decide +kernel
theorem d_L_law_749 : decode code 749 = .ok (.iconst 2, 1) := by decide +kernel
theorem d_L_law_750 : decode code 750 = .ok (.iadd, 1) := by decide +kernel
theorem d_L_law_751 : decode code 751 = .ok (.iaload, 1) := by decide +kernel
theorem d_L_law_752 : decode code 752 = .ok (.invokevirtual 69, 3) := by decide +kernel
theorem d_L_law_755 : decode code 755 = .ok (.if_icmp .eq 1313, 3) := by decide +kernel
theorem d_L_law_758 : decode code 758 = .ok (.iconst 0, 1) := by decide +kernel
theorem d_L_law_759 : decode code 759 = .ok (.ireturn, 1) := by decide +kernel
theorem d_L_law_760 : decode code 760 = .ok (.aload_n 1, 1) := by decide +kernel
theorem d_L_law_761 : decode code 761 = .ok (.aload_n 0, 1) := by decide +kernel
theorem d_L_law_762 : decode code 762 = .ok (.iload_n 3, 1) := by decide +kernel
theorem d_L_law_763 : decode code 763 = .ok (.iconst 1, 1) := by decide +kernel
theorem d_L_law_764 : decode code 764 = .ok (.iadd, 1) := by decide +kernel
theorem d_L_law_765 : decode code 765 = .ok (.iaload, 1) := by decide +kernel
theorem d_L_law_766 : decode code 766 = .ok (.aload_n 0, 1) := by decide +kernel
theorem d_L_law_767 : decode code 767 = .ok (.iload_n 3, 1) := by decide +kernel
theorem d_L_law_768 : decode code 768 = .ok (.iconst 2, 1) := by decide +kernel
theorem d_L_law_769 : decode code 769 = .ok (.iadd, 1) := by decide +kernel
theorem d_L_law_770 : decode code 770 = .ok (.iaload, 1) := by decide +kernel
theorem d_L_law_771 : decode code 771 = .ok (.aload_n 0, 1) := by decide +kernel
theorem d_L_law_772 : decode code 772 = .ok (.iload_n 3, 1) := by decide +kernel
theorem d_L_law_773 : decode code 773 = .ok (.iconst 3, 1) := by decide +kernel
theorem d_L_law_774 : decode code 774 = .ok (.iadd, 1) := by decide +kernel
theorem d_L_law_775 : decode code 775 = .ok (.iaload, 1) := by decide +kernel
theorem d_L_law_776 : decode code 776 = .ok (.aload_n 0, 1) := by decide +kernel
theorem d_L_law_777 : decode code 777 = .ok (.iload_n 3, 1) := by decide +kernel
theorem d_L_law_778 : decode code 778 = .ok (.iconst 4, 1) := by decide +kernel
theorem d_L_law_779 : decode code 779 = .ok (.iadd, 1) := by decide +kernel
theorem d_L_law_780 : decode code 780 = .ok (.iaload, 1) := by decide +kernel
theorem d_L_law_781 : decode code 781 = .ok (.invokevirtual 70, 3) := by decide +kernel
theorem d_L_law_784 : decode code 784 = .ok (.aload_n 2, 1) := by decide +kernel
theorem d_L_law_785 : decode code 785 = .ok (.aload_n 0, 1) := by decide +kernel
theorem d_L_law_786 : decode code 786 = .ok (.iload_n 3, 1) := by decide +kernel
theorem d_L_law_787 : decode code 787 = .ok (.iconst 1, 1) := by decide +kernel
theorem d_L_law_788 : decode code 788 = .ok (.iadd, 1) := by decide +kernel
theorem d_L_law_789 : decode code 789 = .ok (.iaload, 1) := by decide +kernel
theorem d_L_law_790 : decode code 790 = .ok (.aload_n 0, 1) := by decide +kernel
theorem d_L_law_791 : decode code 791 = .ok (.iload_n 3, 1) := by decide +kernel
theorem d_L_law_792 : decode code 792 = .ok (.iconst 2, 1) := by decide +kernel
theorem d_L_law_793 : decode code 793 = .ok (.iadd, 1) := by decide +kernel
theorem d_L_law_794 : decode code 794 = .ok (.iaload, 1) := by decide +kernel
theorem d_L_law_795 : decode code 795 = .ok (.aload_n 0, 1) := by decide +kernel
theorem d_L_law_796 : decode code 796 = .ok (.iload_n 3, 1) := by decide +kernel
theorem d_L_law_797 : decode code 797 = .ok (.iconst 3, 1) := by decide +kernel
theorem d_L_law_798 : decode code 798 = .ok (.iadd, 1) := by decide +kernel
theorem d_L_law_799 : decode code 799 = .ok (.iaload, 1) := by decide +kernel
theorem d_L_law_800 : decode code 800 = .ok (.aload_n 0, 1) := by decide +kernel
theorem d_L_law_801 : decode code 801 = .ok (.iload_n 3, 1) := by decide +kernel
theorem d_L_law_802 : decode code 802 = .ok (.iconst 4, 1) := by decide +kernel
theorem d_L_law_803 : decode code 803 = .ok (.iadd, 1) := by decide +kernel
theorem d_L_law_804 : decode code 804 = .ok (.iaload, 1) := by decide +kernel
theorem d_L_law_805 : decode code 805 = .ok (.invokevirtual 74, 3) := by decide +kernel
theorem d_L_law_808 : decode code 808 = .ok (.if_icmp .eq 1260, 3) := by decide +kernel
theorem d_L_law_811 : decode code 811 = .ok (.iconst 0, 1) := by decide +kernel
theorem d_L_law_812 : decode code 812 = .ok (.ireturn, 1) := by decide +kernel
theorem d_L_law_813 : decode code 813 = .ok (.aload_n 1, 1) := by decide +kernel
theorem d_L_law_814 : decode code 814 = .ok (.aload_n 0, 1) := by decide +kernel
theorem d_L_law_815 : decode code 815 = .ok (.iload_n 3, 1) := by decide +kernel
theorem d_L_law_816 : decode code 816 = .ok (.iconst 1, 1) := by decide +kernel
theorem d_L_law_817 : decode code 817 = .ok (.iadd, 1) := by decide +kernel
theorem d_L_law_818 : decode code 818 = .ok (.iaload, 1) := by decide +kernel
theorem d_L_law_819 : decode code 819 = .ok (.aload_n 0, 1) := by decide +kernel
theorem d_L_law_820 : decode code 820 = .ok (.iload_n 3, 1) := by decide +kernel
theorem d_L_law_821 : decode code 821 = .ok (.iconst 2, 1) := by decide +kernel
theorem d_L_law_822 : decode code 822 = .ok (.iadd, 1) := by decide +kernel
theorem d_L_law_823 : decode code 823 = .ok (.iaload, 1) := by decide +kernel
theorem d_L_law_824 : decode code 824 = .ok (.aload_n 0, 1) := by decide +kernel
theorem d_L_law_825 : decode code 825 = .ok (.iload_n 3, 1) := by decide +kernel
theorem d_L_law_826 : decode code 826 = .ok (.iconst 3, 1) := by decide +kernel
theorem d_L_law_827 : decode code 827 = .ok (.iadd, 1) := by decide +kernel
theorem d_L_law_828 : decode code 828 = .ok (.iaload, 1) := by decide +kernel
theorem d_L_law_829 : decode code 829 = .ok (.invokevirtual 75, 3) := by decide +kernel
theorem d_L_law_832 : decode code 832 = .ok (.aload_n 2, 1) := by decide +kernel
theorem d_L_law_833 : decode code 833 = .ok (.aload_n 0, 1) := by decide +kernel
theorem d_L_law_834 : decode code 834 = .ok (.iload_n 3, 1) := by decide +kernel
theorem d_L_law_835 : decode code 835 = .ok (.iconst 1, 1) := by decide +kernel
theorem d_L_law_836 : decode code 836 = .ok (.iadd, 1) := by decide +kernel
theorem d_L_law_837 : decode code 837 = .ok (.iaload, 1) := by decide +kernel
theorem d_L_law_838 : decode code 838 = .ok (.aload_n 0, 1) := by decide +kernel
theorem d_L_law_839 : decode code 839 = .ok (.iload_n 3, 1) := by decide +kernel
theorem d_L_law_840 : decode code 840 = .ok (.iconst 2, 1) := by decide +kernel
theorem d_L_law_841 : decode code 841 = .ok (.iadd, 1) := by decide +kernel
theorem d_L_law_842 : decode code 842 = .ok (.iaload, 1) := by decide +kernel
theorem d_L_law_843 : decode code 843 = .ok (.aload_n 0, 1) := by decide +kernel
theorem d_L_law_844 : decode code 844 = .ok (.iload_n 3, 1) := by decide +kernel
theorem d_L_law_845 : decode code 845 = .ok (.iconst 3, 1) := by decide +kernel
theorem d_L_law_846 : decode code 846 = .ok (.iadd, 1) := by decide +kernel
theorem d_L_law_847 : decode code 847 = .ok (.iaload, 1) := by decide +kernel
theorem d_L_law_848 : decode code 848 = .ok (.invokevirtual 78, 3) := by decide +kernel
theorem d_L_law_851 : decode code 851 = .ok (.if_icmp .eq 1217, 3) := by decide +kernel
theorem d_L_law_854 : decode code 854 = .ok (.iconst 0, 1) := by decide +kernel
theorem d_L_law_855 : decode code 855 = .ok (.ireturn, 1) := by decide +kernel
theorem d_L_law_856 : decode code 856 = .ok (.aload_n 1, 1) := by decide +kernel
theorem d_L_law_857 : decode code 857 = .ok (.aload_n 0, 1) := by decide +kernel
theorem d_L_law_858 : decode code 858 = .ok (.iload_n 3, 1) := by decide +kernel
theorem d_L_law_859 : decode code 859 = .ok (.iconst 1, 1) := by decide +kernel
theorem d_L_law_860 : decode code 860 = .ok (.iadd, 1) := by decide +kernel
theorem d_L_law_861 : decode code 861 = .ok (.iaload, 1) := by decide +kernel
theorem d_L_law_862 : decode code 862 = .ok (.aload_n 0, 1) := by decide +kernel
theorem d_L_law_863 : decode code 863 = .ok (.iload_n 3, 1) := by decide +kernel
theorem d_L_law_864 : decode code 864 = .ok (.iconst 2, 1) := by decide +kernel
theorem d_L_law_865 : decode code 865 = .ok (.iadd, 1) := by decide +kernel
theorem d_L_law_866 : decode code 866 = .ok (.iaload, 1) := by decide +kernel
theorem d_L_law_867 : decode code 867 = .ok (.aload_n 0, 1) := by decide +kernel
theorem d_L_law_868 : decode code 868 = .ok (.iload_n 3, 1) := by decide +kernel
theorem d_L_law_869 : decode code 869 = .ok (.iconst 3, 1) := by decide +kernel
theorem d_L_law_870 : decode code 870 = .ok (.iadd, 1) := by decide +kernel
theorem d_L_law_871 : decode code 871 = .ok (.iaload, 1) := by decide +kernel
theorem d_L_law_872 : decode code 872 = .ok (.invokevirtual 79, 3) := by decide +kernel
theorem d_L_law_875 : decode code 875 = .ok (.aload_n 2, 1) := by decide +kernel
theorem d_L_law_876 : decode code 876 = .ok (.aload_n 0, 1) := by decide +kernel
theorem d_L_law_877 : decode code 877 = .ok (.iload_n 3, 1) := by decide +kernel
theorem d_L_law_878 : decode code 878 = .ok (.iconst 1, 1) := by decide +kernel
theorem d_L_law_879 : decode code 879 = .ok (.iadd, 1) := by decide +kernel
theorem d_L_law_880 : decode code 880 = .ok (.iaload, 1) := by decide +kernel
theorem d_L_law_881 : decode code 881 = .ok (.aload_n 0, 1) := by decide +kernel
theorem d_L_law_882 : decode code 882 = .ok (.iload_n 3, 1) := by decide +kernel
theorem d_L_law_883 : decode code 883 = .ok (.iconst 2, 1) := by decide +kernel
theorem d_L_law_884 : decode code 884 = .ok (.iadd, 1) := by decide +kernel
theorem d_L_law_885 : decode code 885 = .ok (.iaload, 1) := by decide +kernel
theorem d_L_law_886 : decode code 886 = .ok (.aload_n 0, 1) := by decide +kernel
theorem d_L_law_887 : decode code 887 = .ok (.iload_n 3, 1) := by decide +kernel
theorem d_L_law_888 : decode code 888 = .ok (.iconst 3, 1) := by decide +kernel
theorem d_L_law_889 : decode code 889 = .ok (.iadd, 1) := by decide +kernel
theorem d_L_law_890 : decode code 890 = .ok (.iaload, 1) := by decide +kernel
theorem d_L_law_891 : decode code 891 = .ok (.invokevirtual 82, 3) := by decide +kernel
theorem d_L_law_894 : decode code 894 = .ok (.if_icmp .eq 1174, 3) := by decide +kernel
theorem d_L_law_897 : decode code 897 = .ok (.iconst 0, 1) := by decide +kernel
theorem d_L_law_898 : decode code 898 = .ok (.ireturn, 1) := by decide +kernel
theorem d_L_law_899 : decode code 899 = .ok (.aload_n 1, 1) := by decide +kernel
theorem d_L_law_900 : decode code 900 = .ok (.aload_n 0, 1) := by decide +kernel
theorem d_L_law_901 : decode code 901 = .ok (.iload_n 3, 1) := by decide +kernel
theorem d_L_law_902 : decode code 902 = .ok (.iconst 1, 1) := by decide +kernel
theorem d_L_law_903 : decode code 903 = .ok (.iadd, 1) := by decide +kernel
theorem d_L_law_904 : decode code 904 = .ok (.iaload, 1) := by decide +kernel
theorem d_L_law_905 : decode code 905 = .ok (.aload_n 0, 1) := by decide +kernel
theorem d_L_law_906 : decode code 906 = .ok (.iload_n 3, 1) := by decide +kernel
theorem d_L_law_907 : decode code 907 = .ok (.iconst 2, 1) := by decide +kernel
theorem d_L_law_908 : decode code 908 = .ok (.iadd, 1) := by decide +kernel
theorem d_L_law_909 : decode code 909 = .ok (.iaload, 1) := by decide +kernel
theorem d_L_law_910 : decode code 910 = .ok (.i2l, 1) := by decide +kernel
theorem d_L_law_911 : decode code 911 = .ok (.bipush 32, 2) := by decide +kernel
theorem d_L_law_913 : decode code 913 = .ok (.lshl, 1) := by decide +kernel
theorem d_L_law_914 : decode code 914 = .ok (.aload_n 0, 1) := by decide +kernel
theorem d_L_law_915 : decode code 915 = .ok (.iload_n 3, 1) := by decide +kernel
theorem d_L_law_916 : decode code 916 = .ok (.iconst 3, 1) := by decide +kernel
theorem d_L_law_917 : decode code 917 = .ok (.iadd, 1) := by decide +kernel
theorem d_L_law_918 : decode code 918 = .ok (.iaload, 1) := by decide +kernel
theorem d_L_law_919 : decode code 919 = .ok (.i2l, 1) := by decide +kernel
theorem d_L_law_920 : decode code 920 = .ok (.ldc2_w 32, 3) := by decide +kernel
theorem d_L_law_923 : decode code 923 = .ok (.land, 1) := by decide +kernel
theorem d_L_law_924 : decode code 924 = .ok (.lor, 1) := by decide +kernel
theorem d_L_law_925 : decode code 925 = .ok (.invokevirtual 83, 3) := by decide +kernel
theorem d_L_law_928 : decode code 928 = .ok (.aload_n 2, 1) := by decide +kernel
theorem d_L_law_929 : decode code 929 = .ok (.aload_n 0, 1) := by decide +kernel
theorem d_L_law_930 : decode code 930 = .ok (.iload_n 3, 1) := by decide +kernel
theorem d_L_law_931 : decode code 931 = .ok (.iconst 1, 1) := by decide +kernel
theorem d_L_law_932 : decode code 932 = .ok (.iadd, 1) := by decide +kernel
theorem d_L_law_933 : decode code 933 = .ok (.iaload, 1) := by decide +kernel
theorem d_L_law_934 : decode code 934 = .ok (.aload_n 0, 1) := by decide +kernel
theorem d_L_law_935 : decode code 935 = .ok (.iload_n 3, 1) := by decide +kernel
theorem d_L_law_936 : decode code 936 = .ok (.iconst 2, 1) := by decide +kernel
theorem d_L_law_937 : decode code 937 = .ok (.iadd, 1) := by decide +kernel
theorem d_L_law_938 : decode code 938 = .ok (.iaload, 1) := by decide +kernel
theorem d_L_law_939 : decode code 939 = .ok (.i2l, 1) := by decide +kernel
theorem d_L_law_940 : decode code 940 = .ok (.bipush 32, 2) := by decide +kernel
theorem d_L_law_942 : decode code 942 = .ok (.lshl, 1) := by decide +kernel
theorem d_L_law_943 : decode code 943 = .ok (.aload_n 0, 1) := by decide +kernel
theorem d_L_law_944 : decode code 944 = .ok (.iload_n 3, 1) := by decide +kernel
theorem d_L_law_945 : decode code 945 = .ok (.iconst 3, 1) := by decide +kernel
theorem d_L_law_946 : decode code 946 = .ok (.iadd, 1) := by decide +kernel
theorem d_L_law_947 : decode code 947 = .ok (.iaload, 1) := by decide +kernel
theorem d_L_law_948 : decode code 948 = .ok (.i2l, 1) := by decide +kernel
theorem d_L_law_949 : decode code 949 = .ok (.ldc2_w 32, 3) := by decide +kernel
theorem d_L_law_952 : decode code 952 = .ok (.land, 1) := by decide +kernel
theorem d_L_law_953 : decode code 953 = .ok (.lor, 1) := by decide +kernel
theorem d_L_law_954 : decode code 954 = .ok (.invokevirtual 86, 3) := by decide +kernel
theorem d_L_law_957 : decode code 957 = .ok (.if_icmp .eq 1111, 3) := by decide +kernel
theorem d_L_law_960 : decode code 960 = .ok (.iconst 0, 1) := by decide +kernel
theorem d_L_law_961 : decode code 961 = .ok (.ireturn, 1) := by decide +kernel
theorem d_L_law_962 : decode code 962 = .ok (.aload_n 1, 1) := by decide +kernel
theorem d_L_law_963 : decode code 963 = .ok (.aload_n 0, 1) := by decide +kernel
theorem d_L_law_964 : decode code 964 = .ok (.iload_n 3, 1) := by decide +kernel
theorem d_L_law_965 : decode code 965 = .ok (.iconst 1, 1) := by decide +kernel
theorem d_L_law_966 : decode code 966 = .ok (.iadd, 1) := by decide +kernel
theorem d_L_law_967 : decode code 967 = .ok (.iaload, 1) := by decide +kernel
theorem d_L_law_968 : decode code 968 = .ok (.invokevirtual 87, 3) := by decide +kernel
theorem d_L_law_971 : decode code 971 = .ok (.aload_n 2, 1) := by decide +kernel
theorem d_L_law_972 : decode code 972 = .ok (.aload_n 0, 1) := by decide +kernel
theorem d_L_law_973 : decode code 973 = .ok (.iload_n 3, 1) := by decide +kernel
theorem d_L_law_974 : decode code 974 = .ok (.iconst 1, 1) := by decide +kernel
theorem d_L_law_975 : decode code 975 = .ok (.iadd, 1) := by decide +kernel
theorem d_L_law_976 : decode code 976 = .ok (.iaload, 1) := by decide +kernel
theorem d_L_law_977 : decode code 977 = .ok (.invokevirtual 91, 3) := by decide +kernel
theorem d_L_law_980 : decode code 980 = .ok (.lcmp, 1) := by decide +kernel
theorem d_L_law_981 : decode code 981 = .ok (.ifCond .eq 1087, 3) := by decide +kernel
theorem d_L_law_984 : decode code 984 = .ok (.iconst 0, 1) := by decide +kernel
theorem d_L_law_985 : decode code 985 = .ok (.ireturn, 1) := by decide +kernel
theorem d_L_law_986 : decode code 986 = .ok (.aload_n 1, 1) := by decide +kernel
theorem d_L_law_987 : decode code 987 = .ok (.aload_n 0, 1) := by decide +kernel
theorem d_L_law_988 : decode code 988 = .ok (.iload_n 3, 1) := by decide +kernel
theorem d_L_law_989 : decode code 989 = .ok (.iconst 1, 1) := by decide +kernel
theorem d_L_law_990 : decode code 990 = .ok (.iadd, 1) := by decide +kernel
theorem d_L_law_991 : decode code 991 = .ok (.iaload, 1) := by decide +kernel
theorem d_L_law_992 : decode code 992 = .ok (.invokevirtual 92, 3) := by decide +kernel
theorem d_L_law_995 : decode code 995 = .ok (.aload_n 2, 1) := by decide +kernel
theorem d_L_law_996 : decode code 996 = .ok (.aload_n 0, 1) := by decide +kernel
theorem d_L_law_997 : decode code 997 = .ok (.iload_n 3, 1) := by decide +kernel
theorem d_L_law_998 : decode code 998 = .ok (.iconst 1, 1) := by decide +kernel
theorem d_L_law_999 : decode code 999 = .ok (.iadd, 1) := by decide +kernel
theorem d_L_law_1000 : decode code 1000 = .ok (.iaload, 1) := by decide +kernel
theorem d_L_law_1001 : decode code 1001 = .ok (.invokevirtual 95, 3) := by decide +kernel
theorem d_L_law_1004 : decode code 1004 = .ok (.lcmp, 1) := by decide +kernel
theorem d_L_law_1005 : decode code 1005 = .ok (.ifCond .eq 1063, 3) := by decide +kernel
theorem d_L_law_1008 : decode code 1008 = .ok (.iconst 0, 1) := by decide +kernel
theorem d_L_law_1009 : decode code 1009 = .ok (.ireturn, 1) := by decide +kernel
theorem d_L_law_1010 : decode code 1010 = .ok (.aload_n 1, 1) := by decide +kernel
theorem d_L_law_1011 : decode code 1011 = .ok (.invokevirtual 96, 3) := by decide +kernel
theorem d_L_law_1014 : decode code 1014 = .ok (.aload_n 2, 1) := by decide +kernel
theorem d_L_law_1015 : decode code 1015 = .ok (.invokevirtual 99, 3) := by decide +kernel
theorem d_L_law_1018 : decode code 1018 = .ok (.if_icmp .eq 1050, 3) := by decide +kernel
theorem d_L_law_1021 : decode code 1021 = .ok (.iconst 0, 1) := by decide +kernel
theorem d_L_law_1022 : decode code 1022 = .ok (.ireturn, 1) := by decide +kernel
theorem d_L_law_1023 : decode code 1023 = .ok (.aload_n 1, 1) := by decide +kernel
theorem d_L_law_1024 : decode code 1024 = .ok (.aload_n 0, 1) := by decide +kernel
theorem d_L_law_1025 : decode code 1025 = .ok (.iload_n 3, 1) := by decide +kernel
theorem d_L_law_1026 : decode code 1026 = .ok (.iconst 1, 1) := by decide +kernel
theorem d_L_law_1027 : decode code 1027 = .ok (.iadd, 1) := by decide +kernel
theorem d_L_law_1028 : decode code 1028 = .ok (.iaload, 1) := by decide +kernel
theorem d_L_law_1029 : decode code 1029 = .ok (.invokevirtual 100, 3) := by decide +kernel
theorem d_L_law_1032 : decode code 1032 = .ok (.aload_n 2, 1) := by decide +kernel
theorem d_L_law_1033 : decode code 1033 = .ok (.aload_n 0, 1) := by decide +kernel
theorem d_L_law_1034 : decode code 1034 = .ok (.iload_n 3, 1) := by decide +kernel
theorem d_L_law_1035 : decode code 1035 = .ok (.iconst 1, 1) := by decide +kernel
theorem d_L_law_1036 : decode code 1036 = .ok (.iadd, 1) := by decide +kernel
theorem d_L_law_1037 : decode code 1037 = .ok (.iaload, 1) := by decide +kernel
theorem d_L_law_1038 : decode code 1038 = .ok (.invokevirtual 103, 3) := by decide +kernel
theorem d_L_law_1041 : decode code 1041 = .ok (.if_icmp .eq 1027, 3) := by decide +kernel
theorem d_L_law_1044 : decode code 1044 = .ok (.iconst 0, 1) := by decide +kernel
theorem d_L_law_1045 : decode code 1045 = .ok (.ireturn, 1) := by decide +kernel
theorem d_L_law_1046 : decode code 1046 = .ok (.aload_n 1, 1) := by decide +kernel
theorem d_L_law_1047 : decode code 1047 = .ok (.aload_n 0, 1) := by decide +kernel
theorem d_L_law_1048 : decode code 1048 = .ok (.iload_n 3, 1) := by decide +kernel
theorem d_L_law_1049 : decode code 1049 = .ok (.iconst 1, 1) := by decide +kernel
theorem d_L_law_1050 : decode code 1050 = .ok (.iadd, 1) := by decide +kernel
theorem d_L_law_1051 : decode code 1051 = .ok (.iaload, 1) := by decide +kernel
theorem d_L_law_1052 : decode code 1052 = .ok (.invokevirtual 104, 3) := by decide +kernel
theorem d_L_law_1055 : decode code 1055 = .ok (.aload_n 2, 1) := by decide +kernel
theorem d_L_law_1056 : decode code 1056 = .ok (.aload_n 0, 1) := by decide +kernel
theorem d_L_law_1057 : decode code 1057 = .ok (.iload_n 3, 1) := by decide +kernel
theorem d_L_law_1058 : decode code 1058 = .ok (.iconst 1, 1) := by decide +kernel
theorem d_L_law_1059 : decode code 1059 = .ok (.iadd, 1) := by decide +kernel
theorem d_L_law_1060 : decode code 1060 = .ok (.iaload, 1) := by decide +kernel
theorem d_L_law_1061 : decode code 1061 = .ok (.invokevirtual 107, 3) := by decide +kernel
theorem d_L_law_1064 : decode code 1064 = .ok (.if_icmp .eq 1004, 3) := by decide +kernel
theorem d_L_law_1067 : decode code 1067 = .ok (.iconst 0, 1) := by decide +kernel
theorem d_L_law_1068 : decode code 1068 = .ok (.ireturn, 1) := by decide +kernel
theorem d_L_law_1069 : decode code 1069 = .ok (.aload_n 1, 1) := by decide +kernel
theorem d_L_law_1070 : decode code 1070 = .ok (.aload_n 0, 1) := by decide +kernel
theorem d_L_law_1071 : decode code 1071 = .ok (.iload_n 3, 1) := by decide +kernel
theorem d_L_law_1072 : decode code 1072 = .ok (.iconst 1, 1) := by decide +kernel
theorem d_L_law_1073 : decode code 1073 = .ok (.iadd, 1) := by decide +kernel
theorem d_L_law_1074 : decode code 1074 = .ok (.iaload, 1) := by decide +kernel
theorem d_L_law_1075 : decode code 1075 = .ok (.invokevirtual 108, 3) := by decide +kernel
theorem d_L_law_1078 : decode code 1078 = .ok (.aload_n 2, 1) := by decide +kernel
theorem d_L_law_1079 : decode code 1079 = .ok (.aload_n 0, 1) := by decide +kernel
theorem d_L_law_1080 : decode code 1080 = .ok (.iload_n 3, 1) := by decide +kernel
theorem d_L_law_1081 : decode code 1081 = .ok (.iconst 1, 1) := by decide +kernel
theorem d_L_law_1082 : decode code 1082 = .ok (.iadd, 1) := by decide +kernel
theorem d_L_law_1083 : decode code 1083 = .ok (.iaload, 1) := by decide +kernel
theorem d_L_law_1084 : decode code 1084 = .ok (.invokevirtual 111, 3) := by decide +kernel
theorem d_L_law_1087 : decode code 1087 = .ok (.lcmp, 1) := by decide +kernel
theorem d_L_law_1088 : decode code 1088 = .ok (.ifCond .eq 980, 3) := by decide +kernel
theorem d_L_law_1091 : decode code 1091 = .ok (.iconst 0, 1) := by decide +kernel
theorem d_L_law_1092 : decode code 1092 = .ok (.ireturn, 1) := by decide +kernel
theorem d_L_law_1093 : decode code 1093 = .ok (.aload_n 1, 1) := by decide +kernel
theorem d_L_law_1094 : decode code 1094 = .ok (.aload_n 0, 1) := by decide +kernel
theorem d_L_law_1095 : decode code 1095 = .ok (.iload_n 3, 1) := by decide +kernel
theorem d_L_law_1096 : decode code 1096 = .ok (.iconst 1, 1) := by decide +kernel
theorem d_L_law_1097 : decode code 1097 = .ok (.iadd, 1) := by decide +kernel
theorem d_L_law_1098 : decode code 1098 = .ok (.iaload, 1) := by decide +kernel
theorem d_L_law_1099 : decode code 1099 = .ok (.aload_n 0, 1) := by decide +kernel
theorem d_L_law_1100 : decode code 1100 = .ok (.iload_n 3, 1) := by decide +kernel
theorem d_L_law_1101 : decode code 1101 = .ok (.iconst 2, 1) := by decide +kernel
theorem d_L_law_1102 : decode code 1102 = .ok (.iadd, 1) := by decide +kernel
theorem d_L_law_1103 : decode code 1103 = .ok (.iaload, 1) := by decide +kernel
theorem d_L_law_1104 : decode code 1104 = .ok (.invokevirtual 112, 3) := by decide +kernel
theorem d_L_law_1107 : decode code 1107 = .ok (.aload_n 2, 1) := by decide +kernel
theorem d_L_law_1108 : decode code 1108 = .ok (.aload_n 0, 1) := by decide +kernel
theorem d_L_law_1109 : decode code 1109 = .ok (.iload_n 3, 1) := by decide +kernel
theorem d_L_law_1110 : decode code 1110 = .ok (.iconst 1, 1) := by decide +kernel
theorem d_L_law_1111 : decode code 1111 = .ok (.iadd, 1) := by decide +kernel
theorem d_L_law_1112 : decode code 1112 = .ok (.iaload, 1) := by decide +kernel
theorem d_L_law_1113 : decode code 1113 = .ok (.aload_n 0, 1) := by decide +kernel
theorem d_L_law_1114 : decode code 1114 = .ok (.iload_n 3, 1) := by decide +kernel
theorem d_L_law_1115 : decode code 1115 = .ok (.iconst 2, 1) := by decide +kernel
theorem d_L_law_1116 : decode code 1116 = .ok (.iadd, 1) := by decide +kernel
theorem d_L_law_1117 : decode code 1117 = .ok (.iaload, 1) := by decide +kernel
theorem d_L_law_1118 : decode code 1118 = .ok (.invokevirtual 115, 3) := by decide +kernel
theorem d_L_law_1121 : decode code 1121 = .ok (.if_icmp .eq 947, 3) := by decide +kernel
theorem d_L_law_1124 : decode code 1124 = .ok (.iconst 0, 1) := by decide +kernel
theorem d_L_law_1125 : decode code 1125 = .ok (.ireturn, 1) := by decide +kernel
theorem d_L_law_1126 : decode code 1126 = .ok (.aload_n 1, 1) := by decide +kernel
theorem d_L_law_1127 : decode code 1127 = .ok (.aload_n 0, 1) := by decide +kernel
theorem d_L_law_1128 : decode code 1128 = .ok (.iload_n 3, 1) := by decide +kernel
theorem d_L_law_1129 : decode code 1129 = .ok (.iconst 1, 1) := by decide +kernel
theorem d_L_law_1130 : decode code 1130 = .ok (.iadd, 1) := by decide +kernel
theorem d_L_law_1131 : decode code 1131 = .ok (.iaload, 1) := by decide +kernel
theorem d_L_law_1132 : decode code 1132 = .ok (.aload_n 0, 1) := by decide +kernel
theorem d_L_law_1133 : decode code 1133 = .ok (.iload_n 3, 1) := by decide +kernel
theorem d_L_law_1134 : decode code 1134 = .ok (.iconst 2, 1) := by decide +kernel
theorem d_L_law_1135 : decode code 1135 = .ok (.iadd, 1) := by decide +kernel
theorem d_L_law_1136 : decode code 1136 = .ok (.iaload, 1) := by decide +kernel
theorem d_L_law_1137 : decode code 1137 = .ok (.invokevirtual 116, 3) := by decide +kernel
theorem d_L_law_1140 : decode code 1140 = .ok (.aload_n 2, 1) := by decide +kernel
theorem d_L_law_1141 : decode code 1141 = .ok (.aload_n 0, 1) := by decide +kernel
theorem d_L_law_1142 : decode code 1142 = .ok (.iload_n 3, 1) := by decide +kernel
theorem d_L_law_1143 : decode code 1143 = .ok (.iconst 1, 1) := by decide +kernel
theorem d_L_law_1144 : decode code 1144 = .ok (.iadd, 1) := by decide +kernel
theorem d_L_law_1145 : decode code 1145 = .ok (.iaload, 1) := by decide +kernel
theorem d_L_law_1146 : decode code 1146 = .ok (.aload_n 0, 1) := by decide +kernel
theorem d_L_law_1147 : decode code 1147 = .ok (.iload_n 3, 1) := by decide +kernel
theorem d_L_law_1148 : decode code 1148 = .ok (.iconst 2, 1) := by decide +kernel
theorem d_L_law_1149 : decode code 1149 = .ok (.iadd, 1) := by decide +kernel
theorem d_L_law_1150 : decode code 1150 = .ok (.iaload, 1) := by decide +kernel
theorem d_L_law_1151 : decode code 1151 = .ok (.invokevirtual 120, 3) := by decide +kernel
theorem d_L_law_1154 : decode code 1154 = .ok (.lcmp, 1) := by decide +kernel
theorem d_L_law_1155 : decode code 1155 = .ok (.ifCond .eq 913, 3) := by decide +kernel
theorem d_L_law_1158 : decode code 1158 = .ok (.iconst 0, 1) := by decide +kernel
theorem d_L_law_1159 : decode code 1159 = .ok (.ireturn, 1) := by decide +kernel
theorem d_L_law_1160 : decode code 1160 = .ok (.aload_n 1, 1) := by decide +kernel
theorem d_L_law_1161 : decode code 1161 = .ok (.aload_n 0, 1) := by decide +kernel
theorem d_L_law_1162 : decode code 1162 = .ok (.iload_n 3, 1) := by decide +kernel
theorem d_L_law_1163 : decode code 1163 = .ok (.iconst 1, 1) := by decide +kernel
theorem d_L_law_1164 : decode code 1164 = .ok (.iadd, 1) := by decide +kernel
theorem d_L_law_1165 : decode code 1165 = .ok (.iaload, 1) := by decide +kernel
theorem d_L_law_1166 : decode code 1166 = .ok (.aload_n 0, 1) := by decide +kernel
theorem d_L_law_1167 : decode code 1167 = .ok (.iload_n 3, 1) := by decide +kernel
theorem d_L_law_1168 : decode code 1168 = .ok (.iconst 2, 1) := by decide +kernel
theorem d_L_law_1169 : decode code 1169 = .ok (.iadd, 1) := by decide +kernel
theorem d_L_law_1170 : decode code 1170 = .ok (.iaload, 1) := by decide +kernel
theorem d_L_law_1171 : decode code 1171 = .ok (.invokevirtual 121, 3) := by decide +kernel
theorem d_L_law_1174 : decode code 1174 = .ok (.aload_n 2, 1) := by decide +kernel
theorem d_L_law_1175 : decode code 1175 = .ok (.aload_n 0, 1) := by decide +kernel
theorem d_L_law_1176 : decode code 1176 = .ok (.iload_n 3, 1) := by decide +kernel
theorem d_L_law_1177 : decode code 1177 = .ok (.iconst 1, 1) := by decide +kernel
theorem d_L_law_1178 : decode code 1178 = .ok (.iadd, 1) := by decide +kernel
theorem d_L_law_1179 : decode code 1179 = .ok (.iaload, 1) := by decide +kernel
theorem d_L_law_1180 : decode code 1180 = .ok (.aload_n 0, 1) := by decide +kernel
theorem d_L_law_1181 : decode code 1181 = .ok (.iload_n 3, 1) := by decide +kernel
theorem d_L_law_1182 : decode code 1182 = .ok (.iconst 2, 1) := by decide +kernel
theorem d_L_law_1183 : decode code 1183 = .ok (.iadd, 1) := by decide +kernel
theorem d_L_law_1184 : decode code 1184 = .ok (.iaload, 1) := by decide +kernel
theorem d_L_law_1185 : decode code 1185 = .ok (.invokevirtual 124, 3) := by decide +kernel
theorem d_L_law_1188 : decode code 1188 = .ok (.if_icmp .eq 880, 3) := by decide +kernel
theorem d_L_law_1191 : decode code 1191 = .ok (.iconst 0, 1) := by decide +kernel
theorem d_L_law_1192 : decode code 1192 = .ok (.ireturn, 1) := by decide +kernel
theorem d_L_law_1193 : decode code 1193 = .ok (.aload_n 1, 1) := by decide +kernel
theorem d_L_law_1194 : decode code 1194 = .ok (.aload_n 0, 1) := by decide +kernel
theorem d_L_law_1195 : decode code 1195 = .ok (.iload_n 3, 1) := by decide +kernel
theorem d_L_law_1196 : decode code 1196 = .ok (.iconst 1, 1) := by decide +kernel
theorem d_L_law_1197 : decode code 1197 = .ok (.iadd, 1) := by decide +kernel
theorem d_L_law_1198 : decode code 1198 = .ok (.iaload, 1) := by decide +kernel
theorem d_L_law_1199 : decode code 1199 = .ok (.invokevirtual 125, 3) := by decide +kernel
theorem d_L_law_1202 : decode code 1202 = .ok (.aload_n 2, 1) := by decide +kernel
theorem d_L_law_1203 : decode code 1203 = .ok (.aload_n 0, 1) := by decide +kernel
theorem d_L_law_1204 : decode code 1204 = .ok (.iload_n 3, 1) := by decide +kernel
theorem d_L_law_1205 : decode code 1205 = .ok (.iconst 1, 1) := by decide +kernel
theorem d_L_law_1206 : decode code 1206 = .ok (.iadd, 1) := by decide +kernel
theorem d_L_law_1207 : decode code 1207 = .ok (.iaload, 1) := by decide +kernel
theorem d_L_law_1208 : decode code 1208 = .ok (.invokevirtual 128, 3) := by decide +kernel
theorem d_L_law_1211 : decode code 1211 = .ok (.lcmp, 1) := by decide +kernel
theorem d_L_law_1212 : decode code 1212 = .ok (.ifCond .eq 856, 3) := by decide +kernel
theorem d_L_law_1215 : decode code 1215 = .ok (.iconst 0, 1) := by decide +kernel
theorem d_L_law_1216 : decode code 1216 = .ok (.ireturn, 1) := by decide +kernel
theorem d_L_law_1217 : decode code 1217 = .ok (.aload_n 1, 1) := by decide +kernel
theorem d_L_law_1218 : decode code 1218 = .ok (.aload_n 0, 1) := by decide +kernel
theorem d_L_law_1219 : decode code 1219 = .ok (.iload_n 3, 1) := by decide +kernel
theorem d_L_law_1220 : decode code 1220 = .ok (.iconst 1, 1) := by decide +kernel
theorem d_L_law_1221 : decode code 1221 = .ok (.iadd, 1) := by decide +kernel
theorem d_L_law_1222 : decode code 1222 = .ok (.iaload, 1) := by decide +kernel
theorem d_L_law_1223 : decode code 1223 = .ok (.aload_n 0, 1) := by decide +kernel
theorem d_L_law_1224 : decode code 1224 = .ok (.iload_n 3, 1) := by decide +kernel
theorem d_L_law_1225 : decode code 1225 = .ok (.iconst 2, 1) := by decide +kernel
theorem d_L_law_1226 : decode code 1226 = .ok (.iadd, 1) := by decide +kernel
theorem d_L_law_1227 : decode code 1227 = .ok (.iaload, 1) := by decide +kernel
theorem d_L_law_1228 : decode code 1228 = .ok (.invokevirtual 129, 3) := by decide +kernel
theorem d_L_law_1231 : decode code 1231 = .ok (.aload_n 2, 1) := by decide +kernel
theorem d_L_law_1232 : decode code 1232 = .ok (.aload_n 0, 1) := by decide +kernel
theorem d_L_law_1233 : decode code 1233 = .ok (.iload_n 3, 1) := by decide +kernel
theorem d_L_law_1234 : decode code 1234 = .ok (.iconst 1, 1) := by decide +kernel
theorem d_L_law_1235 : decode code 1235 = .ok (.iadd, 1) := by decide +kernel
theorem d_L_law_1236 : decode code 1236 = .ok (.iaload, 1) := by decide +kernel
theorem d_L_law_1237 : decode code 1237 = .ok (.aload_n 0, 1) := by decide +kernel
theorem d_L_law_1238 : decode code 1238 = .ok (.iload_n 3, 1) := by decide +kernel
theorem d_L_law_1239 : decode code 1239 = .ok (.iconst 2, 1) := by decide +kernel
theorem d_L_law_1240 : decode code 1240 = .ok (.iadd, 1) := by decide +kernel
theorem d_L_law_1241 : decode code 1241 = .ok (.iaload, 1) := by decide +kernel
theorem d_L_law_1242 : decode code 1242 = .ok (.invokevirtual 132, 3) := by decide +kernel
theorem d_L_law_1245 : decode code 1245 = .ok (.if_icmp .eq 823, 3) := by decide +kernel
theorem d_L_law_1248 : decode code 1248 = .ok (.iconst 0, 1) := by decide +kernel
theorem d_L_law_1249 : decode code 1249 = .ok (.ireturn, 1) := by decide +kernel
theorem d_L_law_1250 : decode code 1250 = .ok (.aload_n 1, 1) := by decide +kernel
theorem d_L_law_1251 : decode code 1251 = .ok (.aload_n 0, 1) := by decide +kernel
theorem d_L_law_1252 : decode code 1252 = .ok (.iload_n 3, 1) := by decide +kernel
theorem d_L_law_1253 : decode code 1253 = .ok (.iconst 1, 1) := by decide +kernel
theorem d_L_law_1254 : decode code 1254 = .ok (.iadd, 1) := by decide +kernel
theorem d_L_law_1255 : decode code 1255 = .ok (.iaload, 1) := by decide +kernel
theorem d_L_law_1256 : decode code 1256 = .ok (.invokevirtual 133, 3) := by decide +kernel
theorem d_L_law_1259 : decode code 1259 = .ok (.aload_n 2, 1) := by decide +kernel
theorem d_L_law_1260 : decode code 1260 = .ok (.aload_n 0, 1) := by decide +kernel
theorem d_L_law_1261 : decode code 1261 = .ok (.iload_n 3, 1) := by decide +kernel
theorem d_L_law_1262 : decode code 1262 = .ok (.iconst 1, 1) := by decide +kernel
theorem d_L_law_1263 : decode code 1263 = .ok (.iadd, 1) := by decide +kernel
theorem d_L_law_1264 : decode code 1264 = .ok (.iaload, 1) := by decide +kernel
theorem d_L_law_1265 : decode code 1265 = .ok (.invokevirtual 136, 3) := by decide +kernel
theorem d_L_law_1268 : decode code 1268 = .ok (.if_icmp .eq 800, 3) := by decide +kernel
theorem d_L_law_1271 : decode code 1271 = .ok (.iconst 0, 1) := by decide +kernel
theorem d_L_law_1272 : decode code 1272 = .ok (.ireturn, 1) := by decide +kernel
theorem d_L_law_1273 : decode code 1273 = .ok (.aload_n 1, 1) := by decide +kernel
theorem d_L_law_1274 : decode code 1274 = .ok (.aload_n 0, 1) := by decide +kernel
theorem d_L_law_1275 : decode code 1275 = .ok (.iload_n 3, 1) := by decide +kernel
theorem d_L_law_1276 : decode code 1276 = .ok (.iconst 1, 1) := by decide +kernel
theorem d_L_law_1277 : decode code 1277 = .ok (.iadd, 1) := by decide +kernel
theorem d_L_law_1278 : decode code 1278 = .ok (.iaload, 1) := by decide +kernel
theorem d_L_law_1279 : decode code 1279 = .ok (.aload_n 0, 1) := by decide +kernel
theorem d_L_law_1280 : decode code 1280 = .ok (.iload_n 3, 1) := by decide +kernel
theorem d_L_law_1281 : decode code 1281 = .ok (.iconst 2, 1) := by decide +kernel
theorem d_L_law_1282 : decode code 1282 = .ok (.iadd, 1) := by decide +kernel
theorem d_L_law_1283 : decode code 1283 = .ok (.iaload, 1) := by decide +kernel
theorem d_L_law_1284 : decode code 1284 = .ok (.invokevirtual 137, 3) := by decide +kernel
theorem d_L_law_1287 : decode code 1287 = .ok (.aload_n 2, 1) := by decide +kernel
theorem d_L_law_1288 : decode code 1288 = .ok (.aload_n 0, 1) := by decide +kernel
theorem d_L_law_1289 : decode code 1289 = .ok (.iload_n 3, 1) := by decide +kernel
theorem d_L_law_1290 : decode code 1290 = .ok (.iconst 1, 1) := by decide +kernel
theorem d_L_law_1291 : decode code 1291 = .ok (.iadd, 1) := by decide +kernel
theorem d_L_law_1292 : decode code 1292 = .ok (.iaload, 1) := by decide +kernel
theorem d_L_law_1293 : decode code 1293 = .ok (.aload_n 0, 1) := by decide +kernel
theorem d_L_law_1294 : decode code 1294 = .ok (.iload_n 3, 1) := by decide +kernel
theorem d_L_law_1295 : decode code 1295 = .ok (.iconst 2, 1) := by decide +kernel
theorem d_L_law_1296 : decode code 1296 = .ok (.iadd, 1) := by decide +kernel
theorem d_L_law_1297 : decode code 1297 = .ok (.iaload, 1) := by decide +kernel
theorem d_L_law_1298 : decode code 1298 = .ok (.invokevirtual 140, 3) := by decide +kernel
theorem d_L_law_1301 : decode code 1301 = .ok (.if_icmp .eq 767, 3) := by decide +kernel
theorem d_L_law_1304 : decode code 1304 = .ok (.iconst 0, 1) := by decide +kernel
theorem d_L_law_1305 : decode code 1305 = .ok (.ireturn, 1) := by decide +kernel
theorem d_L_law_1306 : decode code 1306 = .ok (.aload_n 1, 1) := by decide +kernel
theorem d_L_law_1307 : decode code 1307 = .ok (.aload_n 0, 1) := by decide +kernel
theorem d_L_law_1308 : decode code 1308 = .ok (.iload_n 3, 1) := by decide +kernel
theorem d_L_law_1309 : decode code 1309 = .ok (.iconst 1, 1) := by decide +kernel
theorem d_L_law_1310 : decode code 1310 = .ok (.iadd, 1) := by decide +kernel
theorem d_L_law_1311 : decode code 1311 = .ok (.iaload, 1) := by decide +kernel
theorem d_L_law_1312 : decode code 1312 = .ok (.i2l, 1) := by decide +kernel
theorem d_L_law_1313 : decode code 1313 = .ok (.bipush 32, 2) := by decide +kernel
theorem d_L_law_1315 : decode code 1315 = .ok (.lshl, 1) := by decide +kernel
theorem d_L_law_1316 : decode code 1316 = .ok (.aload_n 0, 1) := by decide +kernel
theorem d_L_law_1317 : decode code 1317 = .ok (.iload_n 3, 1) := by decide +kernel
theorem d_L_law_1318 : decode code 1318 = .ok (.iconst 2, 1) := by decide +kernel
theorem d_L_law_1319 : decode code 1319 = .ok (.iadd, 1) := by decide +kernel
theorem d_L_law_1320 : decode code 1320 = .ok (.iaload, 1) := by decide +kernel
theorem d_L_law_1321 : decode code 1321 = .ok (.i2l, 1) := by decide +kernel
theorem d_L_law_1322 : decode code 1322 = .ok (.ldc2_w 32, 3) := by decide +kernel
theorem d_L_law_1325 : decode code 1325 = .ok (.land, 1) := by decide +kernel
theorem d_L_law_1326 : decode code 1326 = .ok (.lor, 1) := by decide +kernel
theorem d_L_law_1327 : decode code 1327 = .ok (.aload_n 0, 1) := by decide +kernel
theorem d_L_law_1328 : decode code 1328 = .ok (.iload_n 3, 1) := by decide +kernel
theorem d_L_law_1329 : decode code 1329 = .ok (.iconst 3, 1) := by decide +kernel
theorem d_L_law_1330 : decode code 1330 = .ok (.iadd, 1) := by decide +kernel
theorem d_L_law_1331 : decode code 1331 = .ok (.iaload, 1) := by decide +kernel
theorem d_L_law_1332 : decode code 1332 = .ok (.aload_n 0, 1) := by decide +kernel
theorem d_L_law_1333 : decode code 1333 = .ok (.iload_n 3, 1) := by decide +kernel
theorem d_L_law_1334 : decode code 1334 = .ok (.iconst 4, 1) := by decide +kernel
theorem d_L_law_1335 : decode code 1335 = .ok (.iadd, 1) := by decide +kernel
theorem d_L_law_1336 : decode code 1336 = .ok (.iaload, 1) := by decide +kernel
theorem d_L_law_1337 : decode code 1337 = .ok (.invokevirtual 141, 3) := by decide +kernel
theorem d_L_law_1340 : decode code 1340 = .ok (.aload_n 2, 1) := by decide +kernel
theorem d_L_law_1341 : decode code 1341 = .ok (.aload_n 0, 1) := by decide +kernel
theorem d_L_law_1342 : decode code 1342 = .ok (.iload_n 3, 1) := by decide +kernel
theorem d_L_law_1343 : decode code 1343 = .ok (.iconst 1, 1) := by decide +kernel
theorem d_L_law_1344 : decode code 1344 = .ok (.iadd, 1) := by decide +kernel
theorem d_L_law_1345 : decode code 1345 = .ok (.iaload, 1) := by decide +kernel
theorem d_L_law_1346 : decode code 1346 = .ok (.i2l, 1) := by decide +kernel
theorem d_L_law_1347 : decode code 1347 = .ok (.bipush 32, 2) := by decide +kernel
theorem d_L_law_1349 : decode code 1349 = .ok (.lshl, 1) := by decide +kernel
theorem d_L_law_1350 : decode code 1350 = .ok (.aload_n 0, 1) := by decide +kernel
theorem d_L_law_1351 : decode code 1351 = .ok (.iload_n 3, 1) := by decide +kernel
theorem d_L_law_1352 : decode code 1352 = .ok (.iconst 2, 1) := by decide +kernel
theorem d_L_law_1353 : decode code 1353 = .ok (.iadd, 1) := by decide +kernel
theorem d_L_law_1354 : decode code 1354 = .ok (.iaload, 1) := by decide +kernel
theorem d_L_law_1355 : decode code 1355 = .ok (.i2l, 1) := by decide +kernel
theorem d_L_law_1356 : decode code 1356 = .ok (.ldc2_w 32, 3) := by decide +kernel
theorem d_L_law_1359 : decode code 1359 = .ok (.land, 1) := by decide +kernel
theorem d_L_law_1360 : decode code 1360 = .ok (.lor, 1) := by decide +kernel
theorem d_L_law_1361 : decode code 1361 = .ok (.aload_n 0, 1) := by decide +kernel
theorem d_L_law_1362 : decode code 1362 = .ok (.iload_n 3, 1) := by decide +kernel
theorem d_L_law_1363 : decode code 1363 = .ok (.iconst 3, 1) := by decide +kernel
theorem d_L_law_1364 : decode code 1364 = .ok (.iadd, 1) := by decide +kernel
theorem d_L_law_1365 : decode code 1365 = .ok (.iaload, 1) := by decide +kernel
theorem d_L_law_1366 : decode code 1366 = .ok (.aload_n 0, 1) := by decide +kernel
theorem d_L_law_1367 : decode code 1367 = .ok (.iload_n 3, 1) := by decide +kernel
theorem d_L_law_1368 : decode code 1368 = .ok (.iconst 4, 1) := by decide +kernel
theorem d_L_law_1369 : decode code 1369 = .ok (.iadd, 1) := by decide +kernel
theorem d_L_law_1370 : decode code 1370 = .ok (.iaload, 1) := by decide +kernel
theorem d_L_law_1371 : decode code 1371 = .ok (.invokevirtual 145, 3) := by decide +kernel
theorem d_L_law_1374 : decode code 1374 = .ok (.lcmp, 1) := by decide +kernel
theorem d_L_law_1375 : decode code 1375 = .ok (.ifCond .eq 693, 3) := by decide +kernel
theorem d_L_law_1378 : decode code 1378 = .ok (.iconst 0, 1) := by decide +kernel
theorem d_L_law_1379 : decode code 1379 = .ok (.ireturn, 1) := by decide +kernel
theorem d_L_law_1380 : decode code 1380 = .ok (.aload_n 1, 1) := by decide +kernel
theorem d_L_law_1381 : decode code 1381 = .ok (.aload_n 0, 1) := by decide +kernel
theorem d_L_law_1382 : decode code 1382 = .ok (.iload_n 3, 1) := by decide +kernel
theorem d_L_law_1383 : decode code 1383 = .ok (.iconst 1, 1) := by decide +kernel
theorem d_L_law_1384 : decode code 1384 = .ok (.iadd, 1) := by decide +kernel
theorem d_L_law_1385 : decode code 1385 = .ok (.iaload, 1) := by decide +kernel
theorem d_L_law_1386 : decode code 1386 = .ok (.aload_n 0, 1) := by decide +kernel
theorem d_L_law_1387 : decode code 1387 = .ok (.iload_n 3, 1) := by decide +kernel
theorem d_L_law_1388 : decode code 1388 = .ok (.iconst 2, 1) := by decide +kernel
theorem d_L_law_1389 : decode code 1389 = .ok (.iadd, 1) := by decide +kernel
theorem d_L_law_1390 : decode code 1390 = .ok (.iaload, 1) := by decide +kernel
theorem d_L_law_1391 : decode code 1391 = .ok (.ifCond .eq 7, 3) := by decide +kernel
theorem d_L_law_1394 : decode code 1394 = .ok (.iconst 1, 1) := by decide +kernel
theorem d_L_law_1395 : decode code 1395 = .ok (.goto 4, 3) := by decide +kernel
theorem d_L_law_1398 : decode code 1398 = .ok (.iconst 0, 1) := by decide +kernel
theorem d_L_law_1399 : decode code 1399 = .ok (.aload_n 0, 1) := by decide +kernel
theorem d_L_law_1400 : decode code 1400 = .ok (.iload_n 3, 1) := by decide +kernel
theorem d_L_law_1401 : decode code 1401 = .ok (.iconst 3, 1) := by decide +kernel
theorem d_L_law_1402 : decode code 1402 = .ok (.iadd, 1) := by decide +kernel
theorem d_L_law_1403 : decode code 1403 = .ok (.iaload, 1) := by decide +kernel
theorem d_L_law_1404 : decode code 1404 = .ok (.invokevirtual 146, 3) := by decide +kernel
theorem d_L_law_1407 : decode code 1407 = .ok (.aload_n 2, 1) := by decide +kernel
theorem d_L_law_1408 : decode code 1408 = .ok (.aload_n 0, 1) := by decide +kernel
theorem d_L_law_1409 : decode code 1409 = .ok (.iload_n 3, 1) := by decide +kernel
theorem d_L_law_1410 : decode code 1410 = .ok (.iconst 1, 1) := by decide +kernel
theorem d_L_law_1411 : decode code 1411 = .ok (.iadd, 1) := by decide +kernel
theorem d_L_law_1412 : decode code 1412 = .ok (.iaload, 1) := by decide +kernel
theorem d_L_law_1413 : decode code 1413 = .ok (.aload_n 0, 1) := by decide +kernel
theorem d_L_law_1414 : decode code 1414 = .ok (.iload_n 3, 1) := by decide +kernel
theorem d_L_law_1415 : decode code 1415 = .ok (.iconst 2, 1) := by decide +kernel
theorem d_L_law_1416 : decode code 1416 = .ok (.iadd, 1) := by decide +kernel
theorem d_L_law_1417 : decode code 1417 = .ok (.iaload, 1) := by decide +kernel
theorem d_L_law_1418 : decode code 1418 = .ok (.ifCond .eq 7, 3) := by decide +kernel
theorem d_L_law_1421 : decode code 1421 = .ok (.iconst 1, 1) := by decide +kernel
theorem d_L_law_1422 : decode code 1422 = .ok (.goto 4, 3) := by decide +kernel
theorem d_L_law_1425 : decode code 1425 = .ok (.iconst 0, 1) := by decide +kernel
theorem d_L_law_1426 : decode code 1426 = .ok (.aload_n 0, 1) := by decide +kernel
theorem d_L_law_1427 : decode code 1427 = .ok (.iload_n 3, 1) := by decide +kernel
theorem d_L_law_1428 : decode code 1428 = .ok (.iconst 3, 1) := by decide +kernel
theorem d_L_law_1429 : decode code 1429 = .ok (.iadd, 1) := by decide +kernel
theorem d_L_law_1430 : decode code 1430 = .ok (.iaload, 1) := by decide +kernel
theorem d_L_law_1431 : decode code 1431 = .ok (.invokevirtual 150, 3) := by decide +kernel
theorem d_L_law_1434 : decode code 1434 = .ok (.if_icmp .eq 634, 3) := by decide +kernel
theorem d_L_law_1437 : decode code 1437 = .ok (.iconst 0, 1) := by decide +kernel
theorem d_L_law_1438 : decode code 1438 = .ok (.ireturn, 1) := by decide +kernel
theorem d_L_law_1439 : decode code 1439 = .ok (.aload_n 1, 1) := by decide +kernel
theorem d_L_law_1440 : decode code 1440 = .ok (.aload_n 0, 1) := by decide +kernel
theorem d_L_law_1441 : decode code 1441 = .ok (.iload_n 3, 1) := by decide +kernel
theorem d_L_law_1442 : decode code 1442 = .ok (.iconst 1, 1) := by decide +kernel
theorem d_L_law_1443 : decode code 1443 = .ok (.iadd, 1) := by decide +kernel
theorem d_L_law_1444 : decode code 1444 = .ok (.iaload, 1) := by decide +kernel
theorem d_L_law_1445 : decode code 1445 = .ok (.aload_n 0, 1) := by decide +kernel
theorem d_L_law_1446 : decode code 1446 = .ok (.iload_n 3, 1) := by decide +kernel
theorem d_L_law_1447 : decode code 1447 = .ok (.iconst 2, 1) := by decide +kernel
theorem d_L_law_1448 : decode code 1448 = .ok (.iadd, 1) := by decide +kernel
theorem d_L_law_1449 : decode code 1449 = .ok (.iaload, 1) := by decide +kernel
theorem d_L_law_1450 : decode code 1450 = .ok (.ifCond .eq 7, 3) := by decide +kernel
theorem d_L_law_1453 : decode code 1453 = .ok (.iconst 1, 1) := by decide +kernel
theorem d_L_law_1454 : decode code 1454 = .ok (.goto 4, 3) := by decide +kernel
theorem d_L_law_1457 : decode code 1457 = .ok (.iconst 0, 1) := by decide +kernel
theorem d_L_law_1458 : decode code 1458 = .ok (.invokevirtual 151, 3) := by decide +kernel
theorem d_L_law_1461 : decode code 1461 = .ok (.aload_n 2, 1) := by decide +kernel
theorem d_L_law_1462 : decode code 1462 = .ok (.aload_n 0, 1) := by decide +kernel
theorem d_L_law_1463 : decode code 1463 = .ok (.iload_n 3, 1) := by decide +kernel
theorem d_L_law_1464 : decode code 1464 = .ok (.iconst 1, 1) := by decide +kernel
theorem d_L_law_1465 : decode code 1465 = .ok (.iadd, 1) := by decide +kernel
theorem d_L_law_1466 : decode code 1466 = .ok (.iaload, 1) := by decide +kernel
theorem d_L_law_1467 : decode code 1467 = .ok (.aload_n 0, 1) := by decide +kernel
theorem d_L_law_1468 : decode code 1468 = .ok (.iload_n 3, 1) := by decide +kernel
theorem d_L_law_1469 : decode code 1469 = .ok (.iconst 2, 1) := by decide +kernel
theorem d_L_law_1470 : decode code 1470 = .ok (.iadd, 1) := by decide +kernel
theorem d_L_law_1471 : decode code 1471 = .ok (.iaload, 1) := by decide +kernel
theorem d_L_law_1472 : decode code 1472 = .ok (.ifCond .eq 7, 3) := by decide +kernel
theorem d_L_law_1475 : decode code 1475 = .ok (.iconst 1, 1) := by decide +kernel
theorem d_L_law_1476 : decode code 1476 = .ok (.goto 4, 3) := by decide +kernel
theorem d_L_law_1479 : decode code 1479 = .ok (.iconst 0, 1) := by decide +kernel
theorem d_L_law_1480 : decode code 1480 = .ok (.invokevirtual 155, 3) := by decide +kernel
theorem d_L_law_1483 : decode code 1483 = .ok (.lcmp, 1) := by decide +kernel
theorem d_L_law_1484 : decode code 1484 = .ok (.ifCond .eq 584, 3) := by decide +kernel
theorem d_L_law_1487 : decode code 1487 = .ok (.iconst 0, 1) := by decide +kernel
theorem d_L_law_1488 : decode code 1488 = .ok (.ireturn, 1) := by decide +kernel
theorem d_L_law_1489 : decode code 1489 = .ok (.aload_n 1, 1) := by decide +kernel
theorem d_L_law_1490 : decode code 1490 = .ok (.aload_n 0, 1) := by decide +kernel
theorem d_L_law_1491 : decode code 1491 = .ok (.iload_n 3, 1) := by decide +kernel
theorem d_L_law_1492 : decode code 1492 = .ok (.iconst 1, 1) := by decide +kernel
theorem d_L_law_1493 : decode code 1493 = .ok (.iadd, 1) := by decide +kernel
theorem d_L_law_1494 : decode code 1494 = .ok (.iaload, 1) := by decide +kernel
theorem d_L_law_1495 : decode code 1495 = .ok (.aload_n 0, 1) := by decide +kernel
theorem d_L_law_1496 : decode code 1496 = .ok (.iload_n 3, 1) := by decide +kernel
theorem d_L_law_1497 : decode code 1497 = .ok (.iconst 2, 1) := by decide +kernel
theorem d_L_law_1498 : decode code 1498 = .ok (.iadd, 1) := by decide +kernel
theorem d_L_law_1499 : decode code 1499 = .ok (.iaload, 1) := by decide +kernel
theorem d_L_law_1500 : decode code 1500 = .ok (.ifCond .eq 7, 3) := by decide +kernel
theorem d_L_law_1503 : decode code 1503 = .ok (.iconst 1, 1) := by decide +kernel
theorem d_L_law_1504 : decode code 1504 = .ok (.goto 4, 3) := by decide +kernel
theorem d_L_law_1507 : decode code 1507 = .ok (.iconst 0, 1) := by decide +kernel
theorem d_L_law_1508 : decode code 1508 = .ok (.invokevirtual 156, 3) := by decide +kernel
theorem d_L_law_1511 : decode code 1511 = .ok (.aload_n 2, 1) := by decide +kernel
theorem d_L_law_1512 : decode code 1512 = .ok (.aload_n 0, 1) := by decide +kernel
theorem d_L_law_1513 : decode code 1513 = .ok (.iload_n 3, 1) := by decide +kernel
theorem d_L_law_1514 : decode code 1514 = .ok (.iconst 1, 1) := by decide +kernel
theorem d_L_law_1515 : decode code 1515 = .ok (.iadd, 1) := by decide +kernel
theorem d_L_law_1516 : decode code 1516 = .ok (.iaload, 1) := by decide +kernel
theorem d_L_law_1517 : decode code 1517 = .ok (.aload_n 0, 1) := by decide +kernel
theorem d_L_law_1518 : decode code 1518 = .ok (.iload_n 3, 1) := by decide +kernel
theorem d_L_law_1519 : decode code 1519 = .ok (.iconst 2, 1) := by decide +kernel
theorem d_L_law_1520 : decode code 1520 = .ok (.iadd, 1) := by decide +kernel
theorem d_L_law_1521 : decode code 1521 = .ok (.iaload, 1) := by decide +kernel
theorem d_L_law_1522 : decode code 1522 = .ok (.ifCond .eq 7, 3) := by decide +kernel
theorem d_L_law_1525 : decode code 1525 = .ok (.iconst 1, 1) := by decide +kernel
theorem d_L_law_1526 : decode code 1526 = .ok (.goto 4, 3) := by decide +kernel
theorem d_L_law_1529 : decode code 1529 = .ok (.iconst 0, 1) := by decide +kernel
theorem d_L_law_1530 : decode code 1530 = .ok (.invokevirtual 159, 3) := by decide +kernel
theorem d_L_law_1533 : decode code 1533 = .ok (.lcmp, 1) := by decide +kernel
theorem d_L_law_1534 : decode code 1534 = .ok (.ifCond .eq 534, 3) := by decide +kernel
theorem d_L_law_1537 : decode code 1537 = .ok (.iconst 0, 1) := by decide +kernel
theorem d_L_law_1538 : decode code 1538 = .ok (.ireturn, 1) := by decide +kernel
theorem d_L_law_1539 : decode code 1539 = .ok (.aload_n 1, 1) := by decide +kernel
theorem d_L_law_1540 : decode code 1540 = .ok (.aload_n 0, 1) := by decide +kernel
theorem d_L_law_1541 : decode code 1541 = .ok (.iload_n 3, 1) := by decide +kernel
theorem d_L_law_1542 : decode code 1542 = .ok (.iconst 1, 1) := by decide +kernel
theorem d_L_law_1543 : decode code 1543 = .ok (.iadd, 1) := by decide +kernel
theorem d_L_law_1544 : decode code 1544 = .ok (.iaload, 1) := by decide +kernel
theorem d_L_law_1545 : decode code 1545 = .ok (.aload_n 0, 1) := by decide +kernel
theorem d_L_law_1546 : decode code 1546 = .ok (.iload_n 3, 1) := by decide +kernel
theorem d_L_law_1547 : decode code 1547 = .ok (.iconst 2, 1) := by decide +kernel
theorem d_L_law_1548 : decode code 1548 = .ok (.iadd, 1) := by decide +kernel
theorem d_L_law_1549 : decode code 1549 = .ok (.iaload, 1) := by decide +kernel
theorem d_L_law_1550 : decode code 1550 = .ok (.aload_n 0, 1) := by decide +kernel
theorem d_L_law_1551 : decode code 1551 = .ok (.iload_n 3, 1) := by decide +kernel
theorem d_L_law_1552 : decode code 1552 = .ok (.iconst 3, 1) := by decide +kernel
theorem d_L_law_1553 : decode code 1553 = .ok (.iadd, 1) := by decide +kernel
theorem d_L_law_1554 : decode code 1554 = .ok (.iaload, 1) := by decide +kernel
theorem d_L_law_1555 : decode code 1555 = .ok (.invokevirtual 160, 3) := by decide +kernel
theorem d_L_law_1558 : decode code 1558 = .ok (.aload_n 2, 1) := by decide +kernel
theorem d_L_law_1559 : decode code 1559 = .ok (.aload_n 0, 1) := by decide +kernel
theorem d_L_law_1560 : decode code 1560 = .ok (.iload_n 3, 1) := by decide +kernel
theorem d_L_law_1561 : decode code 1561 = .ok (.iconst 1, 1) := by decide +kernel
theorem d_L_law_1562 : decode code 1562 = .ok (.iadd, 1) := by decide +kernel
theorem d_L_law_1563 : decode code 1563 = .ok (.iaload, 1) := by decide +kernel
theorem d_L_law_1564 : decode code 1564 = .ok (.aload_n 0, 1) := by decide +kernel
theorem d_L_law_1565 : decode code 1565 = .ok (.iload_n 3, 1) := by decide +kernel
theorem d_L_law_1566 : decode code 1566 = .ok (.iconst 2, 1) := by decide +kernel
theorem d_L_law_1567 : decode code 1567 = .ok (.iadd, 1) := by decide +kernel
theorem d_L_law_1568 : decode code 1568 = .ok (.iaload, 1) := by decide +kernel
theorem d_L_law_1569 : decode code 1569 = .ok (.aload_n 0, 1) := by decide +kernel
theorem d_L_law_1570 : decode code 1570 = .ok (.iload_n 3, 1) := by decide +kernel
theorem d_L_law_1571 : decode code 1571 = .ok (.iconst 3, 1) := by decide +kernel
theorem d_L_law_1572 : decode code 1572 = .ok (.iadd, 1) := by decide +kernel
theorem d_L_law_1573 : decode code 1573 = .ok (.iaload, 1) := by decide +kernel
theorem d_L_law_1574 : decode code 1574 = .ok (.invokevirtual 163, 3) := by decide +kernel
theorem d_L_law_1577 : decode code 1577 = .ok (.if_icmp .eq 491, 3) := by decide +kernel
theorem d_L_law_1580 : decode code 1580 = .ok (.iconst 0, 1) := by decide +kernel
theorem d_L_law_1581 : decode code 1581 = .ok (.ireturn, 1) := by decide +kernel
theorem d_L_law_1582 : decode code 1582 = .ok (.aload_n 1, 1) := by decide +kernel
theorem d_L_law_1583 : decode code 1583 = .ok (.aload_n 0, 1) := by decide +kernel
theorem d_L_law_1584 : decode code 1584 = .ok (.iload_n 3, 1) := by decide +kernel
theorem d_L_law_1585 : decode code 1585 = .ok (.iconst 1, 1) := by decide +kernel
theorem d_L_law_1586 : decode code 1586 = .ok (.iadd, 1) := by decide +kernel
theorem d_L_law_1587 : decode code 1587 = .ok (.iaload, 1) := by decide +kernel
theorem d_L_law_1588 : decode code 1588 = .ok (.invokevirtual 164, 3) := by decide +kernel
theorem d_L_law_1591 : decode code 1591 = .ok (.aload_n 2, 1) := by decide +kernel
theorem d_L_law_1592 : decode code 1592 = .ok (.aload_n 0, 1) := by decide +kernel
theorem d_L_law_1593 : decode code 1593 = .ok (.iload_n 3, 1) := by decide +kernel
theorem d_L_law_1594 : decode code 1594 = .ok (.iconst 1, 1) := by decide +kernel
theorem d_L_law_1595 : decode code 1595 = .ok (.iadd, 1) := by decide +kernel
theorem d_L_law_1596 : decode code 1596 = .ok (.iaload, 1) := by decide +kernel
theorem d_L_law_1597 : decode code 1597 = .ok (.invokevirtual 167, 3) := by decide +kernel
theorem d_L_law_1600 : decode code 1600 = .ok (.if_icmp .eq 468, 3) := by decide +kernel
theorem d_L_law_1603 : decode code 1603 = .ok (.iconst 0, 1) := by decide +kernel
theorem d_L_law_1604 : decode code 1604 = .ok (.ireturn, 1) := by decide +kernel
theorem d_L_law_1605 : decode code 1605 = .ok (.aload_n 1, 1) := by decide +kernel
theorem d_L_law_1606 : decode code 1606 = .ok (.aload_n 0, 1) := by decide +kernel
theorem d_L_law_1607 : decode code 1607 = .ok (.iload_n 3, 1) := by decide +kernel
theorem d_L_law_1608 : decode code 1608 = .ok (.iconst 1, 1) := by decide +kernel
theorem d_L_law_1609 : decode code 1609 = .ok (.iadd, 1) := by decide +kernel
theorem d_L_law_1610 : decode code 1610 = .ok (.iaload, 1) := by decide +kernel
theorem d_L_law_1611 : decode code 1611 = .ok (.aload_n 0, 1) := by decide +kernel
theorem d_L_law_1612 : decode code 1612 = .ok (.iload_n 3, 1) := by decide +kernel
theorem d_L_law_1613 : decode code 1613 = .ok (.iconst 2, 1) := by decide +kernel
theorem d_L_law_1614 : decode code 1614 = .ok (.iadd, 1) := by decide +kernel
theorem d_L_law_1615 : decode code 1615 = .ok (.iaload, 1) := by decide +kernel
theorem d_L_law_1616 : decode code 1616 = .ok (.invokevirtual 168, 3) := by decide +kernel
theorem d_L_law_1619 : decode code 1619 = .ok (.aload_n 2, 1) := by decide +kernel
theorem d_L_law_1620 : decode code 1620 = .ok (.aload_n 0, 1) := by decide +kernel
theorem d_L_law_1621 : decode code 1621 = .ok (.iload_n 3, 1) := by decide +kernel
theorem d_L_law_1622 : decode code 1622 = .ok (.iconst 1, 1) := by decide +kernel
theorem d_L_law_1623 : decode code 1623 = .ok (.iadd, 1) := by decide +kernel
theorem d_L_law_1624 : decode code 1624 = .ok (.iaload, 1) := by decide +kernel
theorem d_L_law_1625 : decode code 1625 = .ok (.aload_n 0, 1) := by decide +kernel
theorem d_L_law_1626 : decode code 1626 = .ok (.iload_n 3, 1) := by decide +kernel
theorem d_L_law_1627 : decode code 1627 = .ok (.iconst 2, 1) := by decide +kernel
theorem d_L_law_1628 : decode code 1628 = .ok (.iadd, 1) := by decide +kernel
theorem d_L_law_1629 : decode code 1629 = .ok (.iaload, 1) := by decide +kernel
theorem d_L_law_1630 : decode code 1630 = .ok (.invokevirtual 171, 3) := by decide +kernel
theorem d_L_law_1633 : decode code 1633 = .ok (.lcmp, 1) := by decide +kernel
theorem d_L_law_1634 : decode code 1634 = .ok (.ifCond .eq 434, 3) := by decide +kernel
theorem d_L_law_1637 : decode code 1637 = .ok (.iconst 0, 1) := by decide +kernel
theorem d_L_law_1638 : decode code 1638 = .ok (.ireturn, 1) := by decide +kernel
theorem d_L_law_1639 : decode code 1639 = .ok (.aload_n 1, 1) := by decide +kernel
theorem d_L_law_1640 : decode code 1640 = .ok (.aload_n 0, 1) := by decide +kernel
theorem d_L_law_1641 : decode code 1641 = .ok (.iload_n 3, 1) := by decide +kernel
theorem d_L_law_1642 : decode code 1642 = .ok (.iconst 1, 1) := by decide +kernel
theorem d_L_law_1643 : decode code 1643 = .ok (.iadd, 1) := by decide +kernel
theorem d_L_law_1644 : decode code 1644 = .ok (.iaload, 1) := by decide +kernel
theorem d_L_law_1645 : decode code 1645 = .ok (.aload_n 0, 1) := by decide +kernel
theorem d_L_law_1646 : decode code 1646 = .ok (.iload_n 3, 1) := by decide +kernel
theorem d_L_law_1647 : decode code 1647 = .ok (.iconst 2, 1) := by decide +kernel
theorem d_L_law_1648 : decode code 1648 = .ok (.iadd, 1) := by decide +kernel
theorem d_L_law_1649 : decode code 1649 = .ok (.iaload, 1) := by decide +kernel
theorem d_L_law_1650 : decode code 1650 = .ok (.invokevirtual 172, 3) := by decide +kernel
theorem d_L_law_1653 : decode code 1653 = .ok (.aload_n 2, 1) := by decide +kernel
theorem d_L_law_1654 : decode code 1654 = .ok (.aload_n 0, 1) := by decide +kernel
theorem d_L_law_1655 : decode code 1655 = .ok (.iload_n 3, 1) := by decide +kernel
theorem d_L_law_1656 : decode code 1656 = .ok (.iconst 1, 1) := by decide +kernel
theorem d_L_law_1657 : decode code 1657 = .ok (.iadd, 1) := by decide +kernel
theorem d_L_law_1658 : decode code 1658 = .ok (.iaload, 1) := by decide +kernel
theorem d_L_law_1659 : decode code 1659 = .ok (.aload_n 0, 1) := by decide +kernel
theorem d_L_law_1660 : decode code 1660 = .ok (.iload_n 3, 1) := by decide +kernel
theorem d_L_law_1661 : decode code 1661 = .ok (.iconst 2, 1) := by decide +kernel
theorem d_L_law_1662 : decode code 1662 = .ok (.iadd, 1) := by decide +kernel
theorem d_L_law_1663 : decode code 1663 = .ok (.iaload, 1) := by decide +kernel
theorem d_L_law_1664 : decode code 1664 = .ok (.invokevirtual 175, 3) := by decide +kernel
theorem d_L_law_1667 : decode code 1667 = .ok (.if_icmp .eq 401, 3) := by decide +kernel
theorem d_L_law_1670 : decode code 1670 = .ok (.iconst 0, 1) := by decide +kernel
theorem d_L_law_1671 : decode code 1671 = .ok (.ireturn, 1) := by decide +kernel
theorem d_L_law_1672 : decode code 1672 = .ok (.aload_n 1, 1) := by decide +kernel
theorem d_L_law_1673 : decode code 1673 = .ok (.aload_n 0, 1) := by decide +kernel
theorem d_L_law_1674 : decode code 1674 = .ok (.iload_n 3, 1) := by decide +kernel
theorem d_L_law_1675 : decode code 1675 = .ok (.iconst 1, 1) := by decide +kernel
theorem d_L_law_1676 : decode code 1676 = .ok (.iadd, 1) := by decide +kernel
theorem d_L_law_1677 : decode code 1677 = .ok (.iaload, 1) := by decide +kernel
theorem d_L_law_1678 : decode code 1678 = .ok (.aload_n 0, 1) := by decide +kernel
theorem d_L_law_1679 : decode code 1679 = .ok (.iload_n 3, 1) := by decide +kernel
theorem d_L_law_1680 : decode code 1680 = .ok (.iconst 2, 1) := by decide +kernel
theorem d_L_law_1681 : decode code 1681 = .ok (.iadd, 1) := by decide +kernel
theorem d_L_law_1682 : decode code 1682 = .ok (.iaload, 1) := by decide +kernel
theorem d_L_law_1683 : decode code 1683 = .ok (.invokevirtual 176, 3) := by decide +kernel
theorem d_L_law_1686 : decode code 1686 = .ok (.aload_n 2, 1) := by decide +kernel
theorem d_L_law_1687 : decode code 1687 = .ok (.aload_n 0, 1) := by decide +kernel
theorem d_L_law_1688 : decode code 1688 = .ok (.iload_n 3, 1) := by decide +kernel
theorem d_L_law_1689 : decode code 1689 = .ok (.iconst 1, 1) := by decide +kernel
theorem d_L_law_1690 : decode code 1690 = .ok (.iadd, 1) := by decide +kernel
theorem d_L_law_1691 : decode code 1691 = .ok (.iaload, 1) := by decide +kernel
theorem d_L_law_1692 : decode code 1692 = .ok (.aload_n 0, 1) := by decide +kernel
theorem d_L_law_1693 : decode code 1693 = .ok (.iload_n 3, 1) := by decide +kernel
theorem d_L_law_1694 : decode code 1694 = .ok (.iconst 2, 1) := by decide +kernel
theorem d_L_law_1695 : decode code 1695 = .ok (.iadd, 1) := by decide +kernel
theorem d_L_law_1696 : decode code 1696 = .ok (.iaload, 1) := by decide +kernel
theorem d_L_law_1697 : decode code 1697 = .ok (.invokevirtual 179, 3) := by decide +kernel
theorem d_L_law_1700 : decode code 1700 = .ok (.if_icmp .eq 368, 3) := by decide +kernel
theorem d_L_law_1703 : decode code 1703 = .ok (.iconst 0, 1) := by decide +kernel
theorem d_L_law_1704 : decode code 1704 = .ok (.ireturn, 1) := by decide +kernel
theorem d_L_law_1705 : decode code 1705 = .ok (.aload_n 1, 1) := by decide +kernel
theorem d_L_law_1706 : decode code 1706 = .ok (.aload_n 0, 1) := by decide +kernel
theorem d_L_law_1707 : decode code 1707 = .ok (.iload_n 3, 1) := by decide +kernel
theorem d_L_law_1708 : decode code 1708 = .ok (.iconst 1, 1) := by decide +kernel
theorem d_L_law_1709 : decode code 1709 = .ok (.iadd, 1) := by decide +kernel
theorem d_L_law_1710 : decode code 1710 = .ok (.iaload, 1) := by decide +kernel
theorem d_L_law_1711 : decode code 1711 = .ok (.aload_n 0, 1) := by decide +kernel
theorem d_L_law_1712 : decode code 1712 = .ok (.iload_n 3, 1) := by decide +kernel
theorem d_L_law_1713 : decode code 1713 = .ok (.iconst 2, 1) := by decide +kernel
theorem d_L_law_1714 : decode code 1714 = .ok (.iadd, 1) := by decide +kernel
theorem d_L_law_1715 : decode code 1715 = .ok (.iaload, 1) := by decide +kernel
theorem d_L_law_1716 : decode code 1716 = .ok (.aload_n 0, 1) := by decide +kernel
theorem d_L_law_1717 : decode code 1717 = .ok (.iload_n 3, 1) := by decide +kernel
theorem d_L_law_1718 : decode code 1718 = .ok (.iconst 3, 1) := by decide +kernel
theorem d_L_law_1719 : decode code 1719 = .ok (.iadd, 1) := by decide +kernel
theorem d_L_law_1720 : decode code 1720 = .ok (.iaload, 1) := by decide +kernel
theorem d_L_law_1721 : decode code 1721 = .ok (.invokevirtual 180, 3) := by decide +kernel
theorem d_L_law_1724 : decode code 1724 = .ok (.aload_n 2, 1) := by decide +kernel
theorem d_L_law_1725 : decode code 1725 = .ok (.aload_n 0, 1) := by decide +kernel
theorem d_L_law_1726 : decode code 1726 = .ok (.iload_n 3, 1) := by decide +kernel
theorem d_L_law_1727 : decode code 1727 = .ok (.iconst 1, 1) := by decide +kernel
theorem d_L_law_1728 : decode code 1728 = .ok (.iadd, 1) := by decide +kernel
theorem d_L_law_1729 : decode code 1729 = .ok (.iaload, 1) := by decide +kernel
theorem d_L_law_1730 : decode code 1730 = .ok (.aload_n 0, 1) := by decide +kernel
theorem d_L_law_1731 : decode code 1731 = .ok (.iload_n 3, 1) := by decide +kernel
theorem d_L_law_1732 : decode code 1732 = .ok (.iconst 2, 1) := by decide +kernel
theorem d_L_law_1733 : decode code 1733 = .ok (.iadd, 1) := by decide +kernel
theorem d_L_law_1734 : decode code 1734 = .ok (.iaload, 1) := by decide +kernel
theorem d_L_law_1735 : decode code 1735 = .ok (.aload_n 0, 1) := by decide +kernel
theorem d_L_law_1736 : decode code 1736 = .ok (.iload_n 3, 1) := by decide +kernel
theorem d_L_law_1737 : decode code 1737 = .ok (.iconst 3, 1) := by decide +kernel
theorem d_L_law_1738 : decode code 1738 = .ok (.iadd, 1) := by decide +kernel
theorem d_L_law_1739 : decode code 1739 = .ok (.iaload, 1) := by decide +kernel
theorem d_L_law_1740 : decode code 1740 = .ok (.invokevirtual 184, 3) := by decide +kernel
theorem d_L_law_1743 : decode code 1743 = .ok (.lcmp, 1) := by decide +kernel
theorem d_L_law_1744 : decode code 1744 = .ok (.ifCond .eq 324, 3) := by decide +kernel
theorem d_L_law_1747 : decode code 1747 = .ok (.iconst 0, 1) := by decide +kernel
theorem d_L_law_1748 : decode code 1748 = .ok (.ireturn, 1) := by decide +kernel
theorem d_L_law_1749 : decode code 1749 = .ok (.aload_n 1, 1) := by decide +kernel
theorem d_L_law_1750 : decode code 1750 = .ok (.aload_n 0, 1) := by decide +kernel
theorem d_L_law_1751 : decode code 1751 = .ok (.iload_n 3, 1) := by decide +kernel
theorem d_L_law_1752 : decode code 1752 = .ok (.iconst 1, 1) := by decide +kernel
theorem d_L_law_1753 : decode code 1753 = .ok (.iadd, 1) := by decide +kernel
theorem d_L_law_1754 : decode code 1754 = .ok (.iaload, 1) := by decide +kernel
theorem d_L_law_1755 : decode code 1755 = .ok (.aload_n 0, 1) := by decide +kernel
theorem d_L_law_1756 : decode code 1756 = .ok (.iload_n 3, 1) := by decide +kernel
theorem d_L_law_1757 : decode code 1757 = .ok (.iconst 2, 1) := by decide +kernel
theorem d_L_law_1758 : decode code 1758 = .ok (.iadd, 1) := by decide +kernel
theorem d_L_law_1759 : decode code 1759 = .ok (.iaload, 1) := by decide +kernel
theorem d_L_law_1760 : decode code 1760 = .ok (.invokevirtual 185, 3) := by decide +kernel
theorem d_L_law_1763 : decode code 1763 = .ok (.aload_n 2, 1) := by decide +kernel
theorem d_L_law_1764 : decode code 1764 = .ok (.aload_n 0, 1) := by decide +kernel
theorem d_L_law_1765 : decode code 1765 = .ok (.iload_n 3, 1) := by decide +kernel
theorem d_L_law_1766 : decode code 1766 = .ok (.iconst 1, 1) := by decide +kernel
theorem d_L_law_1767 : decode code 1767 = .ok (.iadd, 1) := by decide +kernel
theorem d_L_law_1768 : decode code 1768 = .ok (.iaload, 1) := by decide +kernel
theorem d_L_law_1769 : decode code 1769 = .ok (.aload_n 0, 1) := by decide +kernel
theorem d_L_law_1770 : decode code 1770 = .ok (.iload_n 3, 1) := by decide +kernel
theorem d_L_law_1771 : decode code 1771 = .ok (.iconst 2, 1) := by decide +kernel
theorem d_L_law_1772 : decode code 1772 = .ok (.iadd, 1) := by decide +kernel
theorem d_L_law_1773 : decode code 1773 = .ok (.iaload, 1) := by decide +kernel
theorem d_L_law_1774 : decode code 1774 = .ok (.invokevirtual 188, 3) := by decide +kernel
theorem d_L_law_1777 : decode code 1777 = .ok (.if_icmp .eq 291, 3) := by decide +kernel
theorem d_L_law_1780 : decode code 1780 = .ok (.iconst 0, 1) := by decide +kernel
theorem d_L_law_1781 : decode code 1781 = .ok (.ireturn, 1) := by decide +kernel
theorem d_L_law_1782 : decode code 1782 = .ok (.aload_n 1, 1) := by decide +kernel
theorem d_L_law_1783 : decode code 1783 = .ok (.aload_n 0, 1) := by decide +kernel
theorem d_L_law_1784 : decode code 1784 = .ok (.iload_n 3, 1) := by decide +kernel
theorem d_L_law_1785 : decode code 1785 = .ok (.iconst 1, 1) := by decide +kernel
theorem d_L_law_1786 : decode code 1786 = .ok (.iadd, 1) := by decide +kernel
theorem d_L_law_1787 : decode code 1787 = .ok (.iaload, 1) := by decide +kernel
theorem d_L_law_1788 : decode code 1788 = .ok (.invokevirtual 189, 3) := by decide +kernel
theorem d_L_law_1791 : decode code 1791 = .ok (.aload_n 2, 1) := by decide +kernel
theorem d_L_law_1792 : decode code 1792 = .ok (.aload_n 0, 1) := by decide +kernel
theorem d_L_law_1793 : decode code 1793 = .ok (.iload_n 3, 1) := by decide +kernel
theorem d_L_law_1794 : decode code 1794 = .ok (.iconst 1, 1) := by decide +kernel
theorem d_L_law_1795 : decode code 1795 = .ok (.iadd, 1) := by decide +kernel
theorem d_L_law_1796 : decode code 1796 = .ok (.iaload, 1) := by decide +kernel
theorem d_L_law_1797 : decode code 1797 = .ok (.invokevirtual 192, 3) := by decide +kernel
theorem d_L_law_1800 : decode code 1800 = .ok (.lcmp, 1) := by decide +kernel
theorem d_L_law_1801 : decode code 1801 = .ok (.ifCond .eq 267, 3) := by decide +kernel
theorem d_L_law_1804 : decode code 1804 = .ok (.iconst 0, 1) := by decide +kernel
theorem d_L_law_1805 : decode code 1805 = .ok (.ireturn, 1) := by decide +kernel
theorem d_L_law_1806 : decode code 1806 = .ok (.aload_n 1, 1) := by decide +kernel
theorem d_L_law_1807 : decode code 1807 = .ok (.aload_n 0, 1) := by decide +kernel
theorem d_L_law_1808 : decode code 1808 = .ok (.iload_n 3, 1) := by decide +kernel
theorem d_L_law_1809 : decode code 1809 = .ok (.iconst 1, 1) := by decide +kernel
theorem d_L_law_1810 : decode code 1810 = .ok (.iadd, 1) := by decide +kernel
theorem d_L_law_1811 : decode code 1811 = .ok (.iaload, 1) := by decide +kernel
theorem d_L_law_1812 : decode code 1812 = .ok (.aload_n 0, 1) := by decide +kernel
theorem d_L_law_1813 : decode code 1813 = .ok (.iload_n 3, 1) := by decide +kernel
theorem d_L_law_1814 : decode code 1814 = .ok (.iconst 2, 1) := by decide +kernel
theorem d_L_law_1815 : decode code 1815 = .ok (.iadd, 1) := by decide +kernel
theorem d_L_law_1816 : decode code 1816 = .ok (.iaload, 1) := by decide +kernel
theorem d_L_law_1817 : decode code 1817 = .ok (.invokevirtual 193, 3) := by decide +kernel
theorem d_L_law_1820 : decode code 1820 = .ok (.aload_n 2, 1) := by decide +kernel
theorem d_L_law_1821 : decode code 1821 = .ok (.aload_n 0, 1) := by decide +kernel
theorem d_L_law_1822 : decode code 1822 = .ok (.iload_n 3, 1) := by decide +kernel
theorem d_L_law_1823 : decode code 1823 = .ok (.iconst 1, 1) := by decide +kernel
theorem d_L_law_1824 : decode code 1824 = .ok (.iadd, 1) := by decide +kernel
theorem d_L_law_1825 : decode code 1825 = .ok (.iaload, 1) := by decide +kernel
theorem d_L_law_1826 : decode code 1826 = .ok (.aload_n 0, 1) := by decide +kernel
theorem d_L_law_1827 : decode code 1827 = .ok (.iload_n 3, 1) := by decide +kernel
theorem d_L_law_1828 : decode code 1828 = .ok (.iconst 2, 1) := by decide +kernel
theorem d_L_law_1829 : decode code 1829 = .ok (.iadd, 1) := by decide +kernel
theorem d_L_law_1830 : decode code 1830 = .ok (.iaload, 1) := by decide +kernel
theorem d_L_law_1831 : decode code 1831 = .ok (.invokevirtual 196, 3) := by decide +kernel
theorem d_L_law_1834 : decode code 1834 = .ok (.if_icmp .eq 234, 3) := by decide +kernel
theorem d_L_law_1837 : decode code 1837 = .ok (.iconst 0, 1) := by decide +kernel
theorem d_L_law_1838 : decode code 1838 = .ok (.ireturn, 1) := by decide +kernel
theorem d_L_law_1839 : decode code 1839 = .ok (.aload_n 1, 1) := by decide +kernel
theorem d_L_law_1840 : decode code 1840 = .ok (.aload_n 0, 1) := by decide +kernel
theorem d_L_law_1841 : decode code 1841 = .ok (.iload_n 3, 1) := by decide +kernel
theorem d_L_law_1842 : decode code 1842 = .ok (.iconst 1, 1) := by decide +kernel
theorem d_L_law_1843 : decode code 1843 = .ok (.iadd, 1) := by decide +kernel
theorem d_L_law_1844 : decode code 1844 = .ok (.iaload, 1) := by decide +kernel
theorem d_L_law_1845 : decode code 1845 = .ok (.aload_n 0, 1) := by decide +kernel
theorem d_L_law_1846 : decode code 1846 = .ok (.iload_n 3, 1) := by decide +kernel
theorem d_L_law_1847 : decode code 1847 = .ok (.iconst 2, 1) := by decide +kernel
theorem d_L_law_1848 : decode code 1848 = .ok (.iadd, 1) := by decide +kernel
theorem d_L_law_1849 : decode code 1849 = .ok (.iaload, 1) := by decide +kernel
theorem d_L_law_1850 : decode code 1850 = .ok (.invokevirtual 197, 3) := by decide +kernel
theorem d_L_law_1853 : decode code 1853 = .ok (.aload_n 2, 1) := by decide +kernel
theorem d_L_law_1854 : decode code 1854 = .ok (.aload_n 0, 1) := by decide +kernel
theorem d_L_law_1855 : decode code 1855 = .ok (.iload_n 3, 1) := by decide +kernel
theorem d_L_law_1856 : decode code 1856 = .ok (.iconst 1, 1) := by decide +kernel
theorem d_L_law_1857 : decode code 1857 = .ok (.iadd, 1) := by decide +kernel
theorem d_L_law_1858 : decode code 1858 = .ok (.iaload, 1) := by decide +kernel
theorem d_L_law_1859 : decode code 1859 = .ok (.aload_n 0, 1) := by decide +kernel
theorem d_L_law_1860 : decode code 1860 = .ok (.iload_n 3, 1) := by decide +kernel
theorem d_L_law_1861 : decode code 1861 = .ok (.iconst 2, 1) := by decide +kernel
theorem d_L_law_1862 : decode code 1862 = .ok (.iadd, 1) := by decide +kernel
theorem d_L_law_1863 : decode code 1863 = .ok (.iaload, 1) := by decide +kernel
theorem d_L_law_1864 : decode code 1864 = .ok (.invokevirtual 200, 3) := by decide +kernel
theorem d_L_law_1867 : decode code 1867 = .ok (.if_icmp .eq 201, 3) := by decide +kernel
theorem d_L_law_1870 : decode code 1870 = .ok (.iconst 0, 1) := by decide +kernel
theorem d_L_law_1871 : decode code 1871 = .ok (.ireturn, 1) := by decide +kernel
theorem d_L_law_1872 : decode code 1872 = .ok (.aload_n 1, 1) := by decide +kernel
theorem d_L_law_1873 : decode code 1873 = .ok (.aload_n 0, 1) := by decide +kernel
theorem d_L_law_1874 : decode code 1874 = .ok (.iload_n 3, 1) := by decide +kernel
theorem d_L_law_1875 : decode code 1875 = .ok (.iconst 1, 1) := by decide +kernel
theorem d_L_law_1876 : decode code 1876 = .ok (.iadd, 1) := by decide +kernel
theorem d_L_law_1877 : decode code 1877 = .ok (.iaload, 1) := by decide +kernel
theorem d_L_law_1878 : decode code 1878 = .ok (.aload_n 0, 1) := by decide +kernel
theorem d_L_law_1879 : decode code 1879 = .ok (.iload_n 3, 1) := by decide +kernel
theorem d_L_law_1880 : decode code 1880 = .ok (.iconst 2, 1) := by decide +kernel
theorem d_L_law_1881 : decode code 1881 = .ok (.iadd, 1) := by decide +kernel
theorem d_L_law_1882 : decode code 1882 = .ok (.iaload, 1) := by decide +kernel
theorem d_L_law_1883 : decode code 1883 = .ok (.ifCond .eq 7, 3) := by decide +kernel
theorem d_L_law_1886 : decode code 1886 = .ok (.iconst 1, 1) := by decide +kernel
theorem d_L_law_1887 : decode code 1887 = .ok (.goto 4, 3) := by decide +kernel
theorem d_L_law_1890 : decode code 1890 = .ok (.iconst 0, 1) := by decide +kernel
theorem d_L_law_1891 : decode code 1891 = .ok (.invokevirtual 201, 3) := by decide +kernel
theorem d_L_law_1894 : decode code 1894 = .ok (.aload_n 2, 1) := by decide +kernel
theorem d_L_law_1895 : decode code 1895 = .ok (.aload_n 0, 1) := by decide +kernel
theorem d_L_law_1896 : decode code 1896 = .ok (.iload_n 3, 1) := by decide +kernel
theorem d_L_law_1897 : decode code 1897 = .ok (.iconst 1, 1) := by decide +kernel
theorem d_L_law_1898 : decode code 1898 = .ok (.iadd, 1) := by decide +kernel
theorem d_L_law_1899 : decode code 1899 = .ok (.iaload, 1) := by decide +kernel
theorem d_L_law_1900 : decode code 1900 = .ok (.aload_n 0, 1) := by decide +kernel
theorem d_L_law_1901 : decode code 1901 = .ok (.iload_n 3, 1) := by decide +kernel
theorem d_L_law_1902 : decode code 1902 = .ok (.iconst 2, 1) := by decide +kernel
theorem d_L_law_1903 : decode code 1903 = .ok (.iadd, 1) := by decide +kernel
theorem d_L_law_1904 : decode code 1904 = .ok (.iaload, 1) := by decide +kernel
theorem d_L_law_1905 : decode code 1905 = .ok (.ifCond .eq 7, 3) := by decide +kernel
theorem d_L_law_1908 : decode code 1908 = .ok (.iconst 1, 1) := by decide +kernel
theorem d_L_law_1909 : decode code 1909 = .ok (.goto 4, 3) := by decide +kernel
theorem d_L_law_1912 : decode code 1912 = .ok (.iconst 0, 1) := by decide +kernel
theorem d_L_law_1913 : decode code 1913 = .ok (.invokevirtual 204, 3) := by decide +kernel
theorem d_L_law_1916 : decode code 1916 = .ok (.lcmp, 1) := by decide +kernel
theorem d_L_law_1917 : decode code 1917 = .ok (.ifCond .eq 151, 3) := by decide +kernel
theorem d_L_law_1920 : decode code 1920 = .ok (.iconst 0, 1) := by decide +kernel
theorem d_L_law_1921 : decode code 1921 = .ok (.ireturn, 1) := by decide +kernel
theorem d_L_law_1922 : decode code 1922 = .ok (.aload_n 1, 1) := by decide +kernel
theorem d_L_law_1923 : decode code 1923 = .ok (.aload_n 0, 1) := by decide +kernel
theorem d_L_law_1924 : decode code 1924 = .ok (.iload_n 3, 1) := by decide +kernel
theorem d_L_law_1925 : decode code 1925 = .ok (.iconst 1, 1) := by decide +kernel
theorem d_L_law_1926 : decode code 1926 = .ok (.iadd, 1) := by decide +kernel
theorem d_L_law_1927 : decode code 1927 = .ok (.iaload, 1) := by decide +kernel
theorem d_L_law_1928 : decode code 1928 = .ok (.aload_n 0, 1) := by decide +kernel
theorem d_L_law_1929 : decode code 1929 = .ok (.iload_n 3, 1) := by decide +kernel
theorem d_L_law_1930 : decode code 1930 = .ok (.iconst 2, 1) := by decide +kernel
theorem d_L_law_1931 : decode code 1931 = .ok (.iadd, 1) := by decide +kernel
theorem d_L_law_1932 : decode code 1932 = .ok (.iaload, 1) := by decide +kernel
theorem d_L_law_1933 : decode code 1933 = .ok (.invokevirtual 205, 3) := by decide +kernel
theorem d_L_law_1936 : decode code 1936 = .ok (.aload_n 2, 1) := by decide +kernel
theorem d_L_law_1937 : decode code 1937 = .ok (.aload_n 0, 1) := by decide +kernel
theorem d_L_law_1938 : decode code 1938 = .ok (.iload_n 3, 1) := by decide +kernel
theorem d_L_law_1939 : decode code 1939 = .ok (.iconst 1, 1) := by decide +kernel
theorem d_L_law_1940 : decode code 1940 = .ok (.iadd, 1) := by decide +kernel
theorem d_L_law_1941 : decode code 1941 = .ok (.iaload, 1) := by decide +kernel
theorem d_L_law_1942 : decode code 1942 = .ok (.aload_n 0, 1) := by decide +kernel
theorem d_L_law_1943 : decode code 1943 = .ok (.iload_n 3, 1) := by decide +kernel
theorem d_L_law_1944 : decode code 1944 = .ok (.iconst 2, 1) := by decide +kernel
theorem d_L_law_1945 : decode code 1945 = .ok (.iadd, 1) := by decide +kernel
theorem d_L_law_1946 : decode code 1946 = .ok (.iaload, 1) := by decide +kernel
theorem d_L_law_1947 : decode code 1947 = .ok (.invokevirtual 208, 3) := by decide +kernel
theorem d_L_law_1950 : decode code 1950 = .ok (.lcmp, 1) := by decide +kernel
theorem d_L_law_1951 : decode code 1951 = .ok (.ifCond .eq 117, 3) := by decide +kernel
theorem d_L_law_1954 : decode code 1954 = .ok (.iconst 0, 1) := by decide +kernel
theorem d_L_law_1955 : decode code 1955 = .ok (.ireturn, 1) := by decide +kernel
theorem d_L_law_1956 : decode code 1956 = .ok (.aload_n 1, 1) := by decide +kernel
theorem d_L_law_1957 : decode code 1957 = .ok (.aload_n 0, 1) := by decide +kernel
theorem d_L_law_1958 : decode code 1958 = .ok (.iload_n 3, 1) := by decide +kernel
theorem d_L_law_1959 : decode code 1959 = .ok (.iconst 1, 1) := by decide +kernel
theorem d_L_law_1960 : decode code 1960 = .ok (.iadd, 1) := by decide +kernel
theorem d_L_law_1961 : decode code 1961 = .ok (.iaload, 1) := by decide +kernel
theorem d_L_law_1962 : decode code 1962 = .ok (.invokevirtual 209, 3) := by decide +kernel
theorem d_L_law_1965 : decode code 1965 = .ok (.aload_n 2, 1) := by decide +kernel
theorem d_L_law_1966 : decode code 1966 = .ok (.aload_n 0, 1) := by decide +kernel
theorem d_L_law_1967 : decode code 1967 = .ok (.iload_n 3, 1) := by decide +kernel
theorem d_L_law_1968 : decode code 1968 = .ok (.iconst 1, 1) := by decide +kernel
theorem d_L_law_1969 : decode code 1969 = .ok (.iadd, 1) := by decide +kernel
theorem d_L_law_1970 : decode code 1970 = .ok (.iaload, 1) := by decide +kernel
theorem d_L_law_1971 : decode code 1971 = .ok (.invokevirtual 212, 3) := by decide +kernel
theorem d_L_law_1974 : decode code 1974 = .ok (.if_icmp .eq 94, 3) := by decide +kernel
theorem d_L_law_1977 : decode code 1977 = .ok (.iconst 0, 1) := by decide +kernel
theorem d_L_law_1978 : decode code 1978 = .ok (.ireturn, 1) := by decide +kernel
theorem d_L_law_1979 : decode code 1979 = .ok (.aload_n 1, 1) := by decide +kernel
theorem d_L_law_1980 : decode code 1980 = .ok (.aload_n 0, 1) := by decide +kernel
theorem d_L_law_1981 : decode code 1981 = .ok (.iload_n 3, 1) := by decide +kernel
theorem d_L_law_1982 : decode code 1982 = .ok (.iconst 1, 1) := by decide +kernel
theorem d_L_law_1983 : decode code 1983 = .ok (.iadd, 1) := by decide +kernel
theorem d_L_law_1984 : decode code 1984 = .ok (.iaload, 1) := by decide +kernel
theorem d_L_law_1985 : decode code 1985 = .ok (.aload_n 0, 1) := by decide +kernel
theorem d_L_law_1986 : decode code 1986 = .ok (.iload_n 3, 1) := by decide +kernel
theorem d_L_law_1987 : decode code 1987 = .ok (.iconst 2, 1) := by decide +kernel
theorem d_L_law_1988 : decode code 1988 = .ok (.iadd, 1) := by decide +kernel
theorem d_L_law_1989 : decode code 1989 = .ok (.iaload, 1) := by decide +kernel
theorem d_L_law_1990 : decode code 1990 = .ok (.invokevirtual 213, 3) := by decide +kernel
theorem d_L_law_1993 : decode code 1993 = .ok (.aload_n 2, 1) := by decide +kernel
theorem d_L_law_1994 : decode code 1994 = .ok (.aload_n 0, 1) := by decide +kernel
theorem d_L_law_1995 : decode code 1995 = .ok (.iload_n 3, 1) := by decide +kernel
theorem d_L_law_1996 : decode code 1996 = .ok (.iconst 1, 1) := by decide +kernel
theorem d_L_law_1997 : decode code 1997 = .ok (.iadd, 1) := by decide +kernel
theorem d_L_law_1998 : decode code 1998 = .ok (.iaload, 1) := by decide +kernel
theorem d_L_law_1999 : decode code 1999 = .ok (.aload_n 0, 1) := by decide +kernel
theorem d_L_law_2000 : decode code 2000 = .ok (.iload_n 3, 1) := by decide +kernel
theorem d_L_law_2001 : decode code 2001 = .ok (.iconst 2, 1) := by decide +kernel
theorem d_L_law_2002 : decode code 2002 = .ok (.iadd, 1) := by decide +kernel
theorem d_L_law_2003 : decode code 2003 = .ok (.iaload, 1) := by decide +kernel
theorem d_L_law_2004 : decode code 2004 = .ok (.invokevirtual 216, 3) := by decide +kernel
theorem d_L_law_2007 : decode code 2007 = .ok (.if_icmp .eq 61, 3) := by decide +kernel
theorem d_L_law_2010 : decode code 2010 = .ok (.iconst 0, 1) := by decide +kernel
theorem d_L_law_2011 : decode code 2011 = .ok (.ireturn, 1) := by decide +kernel
theorem d_L_law_2012 : decode code 2012 = .ok (.aload_n 1, 1) := by decide +kernel
theorem d_L_law_2013 : decode code 2013 = .ok (.aload_n 0, 1) := by decide +kernel
theorem d_L_law_2014 : decode code 2014 = .ok (.iload_n 3, 1) := by decide +kernel
theorem d_L_law_2015 : decode code 2015 = .ok (.iconst 1, 1) := by decide +kernel
theorem d_L_law_2016 : decode code 2016 = .ok (.iadd, 1) := by decide +kernel
theorem d_L_law_2017 : decode code 2017 = .ok (.iaload, 1) := by decide +kernel
theorem d_L_law_2018 : decode code 2018 = .ok (.aload_n 0, 1) := by decide +kernel
theorem d_L_law_2019 : decode code 2019 = .ok (.iload_n 3, 1) := by decide +kernel
theorem d_L_law_2020 : decode code 2020 = .ok (.iconst 2, 1) := by decide +kernel
theorem d_L_law_2021 : decode code 2021 = .ok (.iadd, 1) := by decide +kernel
theorem d_L_law_2022 : decode code 2022 = .ok (.iaload, 1) := by decide +kernel
theorem d_L_law_2023 : decode code 2023 = .ok (.invokevirtual 217, 3) := by decide +kernel
theorem d_L_law_2026 : decode code 2026 = .ok (.aload_n 2, 1) := by decide +kernel
theorem d_L_law_2027 : decode code 2027 = .ok (.aload_n 0, 1) := by decide +kernel
theorem d_L_law_2028 : decode code 2028 = .ok (.iload_n 3, 1) := by decide +kernel
theorem d_L_law_2029 : decode code 2029 = .ok (.iconst 1, 1) := by decide +kernel
theorem d_L_law_2030 : decode code 2030 = .ok (.iadd, 1) := by decide +kernel
theorem d_L_law_2031 : decode code 2031 = .ok (.iaload, 1) := by decide +kernel
theorem d_L_law_2032 : decode code 2032 = .ok (.aload_n 0, 1) := by decide +kernel
theorem d_L_law_2033 : decode code 2033 = .ok (.iload_n 3, 1) := by decide +kernel
theorem d_L_law_2034 : decode code 2034 = .ok (.iconst 2, 1) := by decide +kernel
theorem d_L_law_2035 : decode code 2035 = .ok (.iadd, 1) := by decide +kernel
theorem d_L_law_2036 : decode code 2036 = .ok (.iaload, 1) := by decide +kernel
theorem d_L_law_2037 : decode code 2037 = .ok (.invokevirtual 220, 3) := by decide +kernel
theorem d_L_law_2040 : decode code 2040 = .ok (.if_icmp .eq 28, 3) := by decide +kernel
theorem d_L_law_2043 : decode code 2043 = .ok (.iconst 0, 1) := by decide +kernel
theorem d_L_law_2044 : decode code 2044 = .ok (.ireturn, 1) := by decide +kernel
theorem d_L_law_2045 : decode code 2045 = .ok (.aload_n 1, 1) := by decide +kernel
theorem d_L_law_2046 : decode code 2046 = .ok (.aload_n 0, 1) := by decide +kernel
theorem d_L_law_2047 : decode code 2047 = .ok (.iload_n 3, 1) := by decide +kernel
theorem d_L_law_2048 : decode code 2048 = .ok (.iconst 1, 1) := by decide +kernel
theorem d_L_law_2049 : decode code 2049 = .ok (.iadd, 1) := by decide +kernel
theorem d_L_law_2050 : decode code 2050 = .ok (.iaload, 1) := by decide +kernel
theorem d_L_law_2051 : decode code 2051 = .ok (.invokevirtual 221, 3) := by decide +kernel
theorem d_L_law_2054 : decode code 2054 = .ok (.aload_n 2, 1) := by decide +kernel
theorem d_L_law_2055 : decode code 2055 = .ok (.aload_n 0, 1) := by decide +kernel
theorem d_L_law_2056 : decode code 2056 = .ok (.iload_n 3, 1) := by decide +kernel
theorem d_L_law_2057 : decode code 2057 = .ok (.iconst 1, 1) := by decide +kernel
theorem d_L_law_2058 : decode code 2058 = .ok (.iadd, 1) := by decide +kernel
theorem d_L_law_2059 : decode code 2059 = .ok (.iaload, 1) := by decide +kernel
theorem d_L_law_2060 : decode code 2060 = .ok (.invokevirtual 224, 3) := by decide +kernel
theorem d_L_law_2063 : decode code 2063 = .ok (.if_icmp .eq 5, 3) := by decide +kernel
theorem d_L_law_2066 : decode code 2066 = .ok (.iconst 0, 1) := by decide +kernel
theorem d_L_law_2067 : decode code 2067 = .ok (.ireturn, 1) := by decide +kernel
theorem d_L_law_2068 : decode code 2068 = .ok (.iinc 3 6, 3) := by decide +kernel
theorem d_L_law_2071 : decode code 2071 = .ok (.goto (-2053), 3) := by decide +kernel
theorem d_L_law_2074 : decode code 2074 = .ok (.iconst 1, 1) := by decide +kernel
theorem d_L_law_2075 : decode code 2075 = .ok (.ireturn, 1) := by decide +kernel
def cf_L_law_B244 (b : Nat) (L : Nat) (xs : Nat → Int32) (K18 : Int32 → Wd → Prop) (P : Int32 → Wd → Prop) (x3 : Int32) (w : Wd) : Prop :=
  vp_in (x3 + (1 : Int32)) L ∧ vp_in (x3 + (2 : Int32)) L ∧ vp_in (x3 + (3 : Int32)) L ∧ vp_in (x3 + (4 : Int32)) L ∧ vp_in (x3 + (5 : Int32)) L ∧ cf_T_feed (xs (x3 + (1 : Int32)).toNatClampNeg) (xs (x3 + (2 : Int32)).toNatClampNeg) (xs (x3 + (3 : Int32)).toNatClampNeg) (xs (x3 + (4 : Int32)).toNatClampNeg) (xs (x3 + (5 : Int32)).toNatClampNeg) w (fun r1 w2 => vp_in (x3 + (1 : Int32)) L ∧ vp_in (x3 + (2 : Int32)) L ∧ vp_in (x3 + (3 : Int32)) L ∧ vp_in (x3 + (4 : Int32)) L ∧ vp_in (x3 + (5 : Int32)) L ∧ cf_M_feed (xs (x3 + (1 : Int32)).toNatClampNeg) (xs (x3 + (2 : Int32)).toNatClampNeg) (xs (x3 + (3 : Int32)).toNatClampNeg) (xs (x3 + (4 : Int32)).toNatClampNeg) (xs (x3 + (5 : Int32)).toNatClampNeg) w2 (fun r3 w4 => ((r1 = r3 → ∀ v5, v5 = x3 + (6 : Int32) → K18 v5 w4) ∧ (¬ r1 = r3 → P (0 : Int32) w4))))
def cf_L_law_B307 (b : Nat) (L : Nat) (xs : Nat → Int32) (K18 : Int32 → Wd → Prop) (P : Int32 → Wd → Prop) (x3 : Int32) (w : Wd) : Prop :=
  vp_in (x3 + (1 : Int32)) L ∧ cf_T_end (xs (x3 + (1 : Int32)).toNatClampNeg) w (fun r6 w7 => vp_in (x3 + (1 : Int32)) L ∧ cf_M_end (xs (x3 + (1 : Int32)).toNatClampNeg) w7 (fun r8 w9 => ((r6 = r8 → ∀ v10, v10 = x3 + (6 : Int32) → K18 v10 w9) ∧ (¬ r6 = r8 → P (0 : Int32) w9))))
def cf_L_law_B330 (b : Nat) (L : Nat) (xs : Nat → Int32) (K18 : Int32 → Wd → Prop) (P : Int32 → Wd → Prop) (x3 : Int32) (w : Wd) : Prop :=
  cf_T_run  w (fun r11 w12 => cf_M_run  w12 (fun r13 w14 => ((r11 = r13 → ∀ v15, v15 = x3 + (6 : Int32) → K18 v15 w14) ∧ (¬ r11 = r13 → P (0 : Int32) w14))))
def cf_L_law_B343 (b : Nat) (L : Nat) (xs : Nat → Int32) (K18 : Int32 → Wd → Prop) (P : Int32 → Wd → Prop) (x3 : Int32) (w : Wd) : Prop :=
  vp_in (x3 + (1 : Int32)) L ∧ cf_T_fault (xs (x3 + (1 : Int32)).toNatClampNeg) w (fun r16 => vp_in (x3 + (1 : Int32)) L ∧ cf_M_fault (xs (x3 + (1 : Int32)).toNatClampNeg) w (fun r17 => ((r16 = r17 → ∀ v18, v18 = x3 + (6 : Int32) → K18 v18 w) ∧ (¬ r16 = r17 → P (0 : Int32) w))))
def cf_L_law_B366 (b : Nat) (L : Nat) (xs : Nat → Int32) (K18 : Int32 → Wd → Prop) (P : Int32 → Wd → Prop) (x3 : Int32) (w : Wd) : Prop :=
  vp_in (x3 + (1 : Int32)) L ∧ vp_in (x3 + (2 : Int32)) L ∧ vp_in (x3 + (3 : Int32)) L ∧ cf_T_put (xs (x3 + (1 : Int32)).toNatClampNeg) ((lshl ((xs (x3 + (2 : Int32)).toNatClampNeg).toInt64) (32 : Int32)) ||| (((xs (x3 + (3 : Int32)).toNatClampNeg).toInt64) &&& (4294967295 : Int64))) w (fun r19 w20 => vp_in (x3 + (1 : Int32)) L ∧ vp_in (x3 + (2 : Int32)) L ∧ vp_in (x3 + (3 : Int32)) L ∧ cf_M_put (xs (x3 + (1 : Int32)).toNatClampNeg) ((lshl ((xs (x3 + (2 : Int32)).toNatClampNeg).toInt64) (32 : Int32)) ||| (((xs (x3 + (3 : Int32)).toNatClampNeg).toInt64) &&& (4294967295 : Int64))) w20 (fun r21 w22 => ((r19 = r21 → ∀ v23, v23 = x3 + (6 : Int32) → K18 v23 w22) ∧ (¬ r19 = r21 → P (0 : Int32) w22))))
def cf_L_law_B429 (b : Nat) (L : Nat) (xs : Nat → Int32) (K18 : Int32 → Wd → Prop) (P : Int32 → Wd → Prop) (x3 : Int32) (w : Wd) : Prop :=
  vp_in (x3 + (1 : Int32)) L ∧ vp_in (x3 + (2 : Int32)) L ∧ vp_in (x3 + (3 : Int32)) L ∧ cf_T_add (xs (x3 + (1 : Int32)).toNatClampNeg) (xs (x3 + (2 : Int32)).toNatClampNeg) (xs (x3 + (3 : Int32)).toNatClampNeg) w (fun r24 w25 => vp_in (x3 + (1 : Int32)) L ∧ vp_in (x3 + (2 : Int32)) L ∧ vp_in (x3 + (3 : Int32)) L ∧ cf_M_add (xs (x3 + (1 : Int32)).toNatClampNeg) (xs (x3 + (2 : Int32)).toNatClampNeg) (xs (x3 + (3 : Int32)).toNatClampNeg) w25 (fun r26 w27 => ((r24 = r26 → ∀ v28, v28 = x3 + (6 : Int32) → K18 v28 w27) ∧ (¬ r24 = r26 → P (0 : Int32) w27))))
def cf_L_law_B472 (b : Nat) (L : Nat) (xs : Nat → Int32) (K18 : Int32 → Wd → Prop) (P : Int32 → Wd → Prop) (x3 : Int32) (w : Wd) : Prop :=
  vp_in (x3 + (1 : Int32)) L ∧ vp_in (x3 + (2 : Int32)) L ∧ vp_in (x3 + (3 : Int32)) L ∧ cf_T_multiply (xs (x3 + (1 : Int32)).toNatClampNeg) (xs (x3 + (2 : Int32)).toNatClampNeg) (xs (x3 + (3 : Int32)).toNatClampNeg) w (fun r29 w30 => vp_in (x3 + (1 : Int32)) L ∧ vp_in (x3 + (2 : Int32)) L ∧ vp_in (x3 + (3 : Int32)) L ∧ cf_M_multiply (xs (x3 + (1 : Int32)).toNatClampNeg) (xs (x3 + (2 : Int32)).toNatClampNeg) (xs (x3 + (3 : Int32)).toNatClampNeg) w30 (fun r31 w32 => ((r29 = r31 → ∀ v33, v33 = x3 + (6 : Int32) → K18 v33 w32) ∧ (¬ r29 = r31 → P (0 : Int32) w32))))
def cf_L_law_B515 (b : Nat) (L : Nat) (xs : Nat → Int32) (K18 : Int32 → Wd → Prop) (P : Int32 → Wd → Prop) (x3 : Int32) (w : Wd) : Prop :=
  vp_in (x3 + (1 : Int32)) L ∧ vp_in (x3 + (2 : Int32)) L ∧ vp_in (x3 + (3 : Int32)) L ∧ cf_T_divide (xs (x3 + (1 : Int32)).toNatClampNeg) (xs (x3 + (2 : Int32)).toNatClampNeg) (xs (x3 + (3 : Int32)).toNatClampNeg) w (fun r34 w35 => vp_in (x3 + (1 : Int32)) L ∧ vp_in (x3 + (2 : Int32)) L ∧ vp_in (x3 + (3 : Int32)) L ∧ cf_M_divide (xs (x3 + (1 : Int32)).toNatClampNeg) (xs (x3 + (2 : Int32)).toNatClampNeg) (xs (x3 + (3 : Int32)).toNatClampNeg) w35 (fun r36 w37 => ((r34 = r36 → ∀ v38, v38 = x3 + (6 : Int32) → K18 v38 w37) ∧ (¬ r34 = r36 → P (0 : Int32) w37))))
def cf_L_law_B558 (b : Nat) (L : Nat) (xs : Nat → Int32) (K18 : Int32 → Wd → Prop) (P : Int32 → Wd → Prop) (x3 : Int32) (w : Wd) : Prop :=
  vp_in (x3 + (1 : Int32)) L ∧ vp_in (x3 + (2 : Int32)) L ∧ vp_in (x3 + (3 : Int32)) L ∧ cf_T_rest (xs (x3 + (1 : Int32)).toNatClampNeg) (xs (x3 + (2 : Int32)).toNatClampNeg) (xs (x3 + (3 : Int32)).toNatClampNeg) w (fun r39 w40 => vp_in (x3 + (1 : Int32)) L ∧ vp_in (x3 + (2 : Int32)) L ∧ vp_in (x3 + (3 : Int32)) L ∧ cf_M_rest (xs (x3 + (1 : Int32)).toNatClampNeg) (xs (x3 + (2 : Int32)).toNatClampNeg) (xs (x3 + (3 : Int32)).toNatClampNeg) w40 (fun r41 w42 => ((r39 = r41 → ∀ v43, v43 = x3 + (6 : Int32) → K18 v43 w42) ∧ (¬ r39 = r41 → P (0 : Int32) w42))))
def cf_L_law_B601 (b : Nat) (L : Nat) (xs : Nat → Int32) (K18 : Int32 → Wd → Prop) (P : Int32 → Wd → Prop) (x3 : Int32) (w : Wd) : Prop :=
  vp_in (x3 + (1 : Int32)) L ∧ vp_in (x3 + (2 : Int32)) L ∧ vp_in (x3 + (3 : Int32)) L ∧ cf_T_common (xs (x3 + (1 : Int32)).toNatClampNeg) (xs (x3 + (2 : Int32)).toNatClampNeg) (xs (x3 + (3 : Int32)).toNatClampNeg) w (fun r44 w45 => vp_in (x3 + (1 : Int32)) L ∧ vp_in (x3 + (2 : Int32)) L ∧ vp_in (x3 + (3 : Int32)) L ∧ cf_M_common (xs (x3 + (1 : Int32)).toNatClampNeg) (xs (x3 + (2 : Int32)).toNatClampNeg) (xs (x3 + (3 : Int32)).toNatClampNeg) w45 (fun r46 w47 => ((r44 = r46 → ∀ v48, v48 = x3 + (6 : Int32) → K18 v48 w47) ∧ (¬ r44 = r46 → P (0 : Int32) w47))))
def cf_L_law_B644 (b : Nat) (L : Nat) (xs : Nat → Int32) (K18 : Int32 → Wd → Prop) (P : Int32 → Wd → Prop) (x3 : Int32) (w : Wd) : Prop :=
  vp_in (x3 + (1 : Int32)) L ∧ vp_in (x3 + (2 : Int32)) L ∧ vp_in (x3 + (3 : Int32)) L ∧ vp_in (x3 + (4 : Int32)) L ∧ vp_in (x3 + (5 : Int32)) L ∧ cf_T_power (xs (x3 + (1 : Int32)).toNatClampNeg) ((lshl ((xs (x3 + (2 : Int32)).toNatClampNeg).toInt64) (32 : Int32)) ||| (((xs (x3 + (3 : Int32)).toNatClampNeg).toInt64) &&& (4294967295 : Int64))) (xs (x3 + (4 : Int32)).toNatClampNeg) (xs (x3 + (5 : Int32)).toNatClampNeg) w (fun r49 w50 => vp_in (x3 + (1 : Int32)) L ∧ vp_in (x3 + (2 : Int32)) L ∧ vp_in (x3 + (3 : Int32)) L ∧ vp_in (x3 + (4 : Int32)) L ∧ vp_in (x3 + (5 : Int32)) L ∧ cf_M_power (xs (x3 + (1 : Int32)).toNatClampNeg) ((lshl ((xs (x3 + (2 : Int32)).toNatClampNeg).toInt64) (32 : Int32)) ||| (((xs (x3 + (3 : Int32)).toNatClampNeg).toInt64) &&& (4294967295 : Int64))) (xs (x3 + (4 : Int32)).toNatClampNeg) (xs (x3 + (5 : Int32)).toNatClampNeg) w50 (fun r51 w52 => ((r49 = r51 → ∀ v53, v53 = x3 + (6 : Int32) → K18 v53 w52) ∧ (¬ r49 = r51 → P (0 : Int32) w52))))
def cf_L_law_B727 (b : Nat) (L : Nat) (xs : Nat → Int32) (K18 : Int32 → Wd → Prop) (P : Int32 → Wd → Prop) (x3 : Int32) (w : Wd) : Prop :=
  vp_in (x3 + (1 : Int32)) L ∧ vp_in (x3 + (2 : Int32)) L ∧ cf_T_moved (xs (x3 + (1 : Int32)).toNatClampNeg) (xs (x3 + (2 : Int32)).toNatClampNeg) w (fun r54 w55 => vp_in (x3 + (1 : Int32)) L ∧ vp_in (x3 + (2 : Int32)) L ∧ cf_M_moved (xs (x3 + (1 : Int32)).toNatClampNeg) (xs (x3 + (2 : Int32)).toNatClampNeg) w55 (fun r56 w57 => ((r54 = r56 → ∀ v58, v58 = x3 + (6 : Int32) → K18 v58 w57) ∧ (¬ r54 = r56 → P (0 : Int32) w57))))
def cf_L_law_B760 (b : Nat) (L : Nat) (xs : Nat → Int32) (K18 : Int32 → Wd → Prop) (P : Int32 → Wd → Prop) (x3 : Int32) (w : Wd) : Prop :=
  vp_in (x3 + (1 : Int32)) L ∧ vp_in (x3 + (2 : Int32)) L ∧ vp_in (x3 + (3 : Int32)) L ∧ vp_in (x3 + (4 : Int32)) L ∧ cf_T_inside (xs (x3 + (1 : Int32)).toNatClampNeg) (xs (x3 + (2 : Int32)).toNatClampNeg) (xs (x3 + (3 : Int32)).toNatClampNeg) (xs (x3 + (4 : Int32)).toNatClampNeg) w (fun r59 w60 => vp_in (x3 + (1 : Int32)) L ∧ vp_in (x3 + (2 : Int32)) L ∧ vp_in (x3 + (3 : Int32)) L ∧ vp_in (x3 + (4 : Int32)) L ∧ cf_M_inside (xs (x3 + (1 : Int32)).toNatClampNeg) (xs (x3 + (2 : Int32)).toNatClampNeg) (xs (x3 + (3 : Int32)).toNatClampNeg) (xs (x3 + (4 : Int32)).toNatClampNeg) w60 (fun r61 w62 => ((r59 = r61 → ∀ v63, v63 = x3 + (6 : Int32) → K18 v63 w62) ∧ (¬ r59 = r61 → P (0 : Int32) w62))))
def cf_L_law_B813 (b : Nat) (L : Nat) (xs : Nat → Int32) (K18 : Int32 → Wd → Prop) (P : Int32 → Wd → Prop) (x3 : Int32) (w : Wd) : Prop :=
  vp_in (x3 + (1 : Int32)) L ∧ vp_in (x3 + (2 : Int32)) L ∧ vp_in (x3 + (3 : Int32)) L ∧ cf_T_inverse (xs (x3 + (1 : Int32)).toNatClampNeg) (xs (x3 + (2 : Int32)).toNatClampNeg) (xs (x3 + (3 : Int32)).toNatClampNeg) w (fun r64 w65 => vp_in (x3 + (1 : Int32)) L ∧ vp_in (x3 + (2 : Int32)) L ∧ vp_in (x3 + (3 : Int32)) L ∧ cf_M_inverse (xs (x3 + (1 : Int32)).toNatClampNeg) (xs (x3 + (2 : Int32)).toNatClampNeg) (xs (x3 + (3 : Int32)).toNatClampNeg) w65 (fun r66 w67 => ((r64 = r66 → ∀ v68, v68 = x3 + (6 : Int32) → K18 v68 w67) ∧ (¬ r64 = r66 → P (0 : Int32) w67))))
def cf_L_law_B856 (b : Nat) (L : Nat) (xs : Nat → Int32) (K18 : Int32 → Wd → Prop) (P : Int32 → Wd → Prop) (x3 : Int32) (w : Wd) : Prop :=
  vp_in (x3 + (1 : Int32)) L ∧ vp_in (x3 + (2 : Int32)) L ∧ vp_in (x3 + (3 : Int32)) L ∧ cf_T_rise (xs (x3 + (1 : Int32)).toNatClampNeg) (xs (x3 + (2 : Int32)).toNatClampNeg) (xs (x3 + (3 : Int32)).toNatClampNeg) w (fun r69 w70 => vp_in (x3 + (1 : Int32)) L ∧ vp_in (x3 + (2 : Int32)) L ∧ vp_in (x3 + (3 : Int32)) L ∧ cf_M_rise (xs (x3 + (1 : Int32)).toNatClampNeg) (xs (x3 + (2 : Int32)).toNatClampNeg) (xs (x3 + (3 : Int32)).toNatClampNeg) w70 (fun r71 w72 => ((r69 = r71 → ∀ v73, v73 = x3 + (6 : Int32) → K18 v73 w72) ∧ (¬ r69 = r71 → P (0 : Int32) w72))))
def cf_L_law_B899 (b : Nat) (L : Nat) (xs : Nat → Int32) (K18 : Int32 → Wd → Prop) (P : Int32 → Wd → Prop) (x3 : Int32) (w : Wd) : Prop :=
  vp_in (x3 + (1 : Int32)) L ∧ vp_in (x3 + (2 : Int32)) L ∧ vp_in (x3 + (3 : Int32)) L ∧ cf_T_register (xs (x3 + (1 : Int32)).toNatClampNeg) ((lshl ((xs (x3 + (2 : Int32)).toNatClampNeg).toInt64) (32 : Int32)) ||| (((xs (x3 + (3 : Int32)).toNatClampNeg).toInt64) &&& (4294967295 : Int64))) w (fun r74 w75 => vp_in (x3 + (1 : Int32)) L ∧ vp_in (x3 + (2 : Int32)) L ∧ vp_in (x3 + (3 : Int32)) L ∧ cf_M_register (xs (x3 + (1 : Int32)).toNatClampNeg) ((lshl ((xs (x3 + (2 : Int32)).toNatClampNeg).toInt64) (32 : Int32)) ||| (((xs (x3 + (3 : Int32)).toNatClampNeg).toInt64) &&& (4294967295 : Int64))) w75 (fun r76 w77 => ((r74 = r76 → ∀ v78, v78 = x3 + (6 : Int32) → K18 v78 w77) ∧ (¬ r74 = r76 → P (0 : Int32) w77))))
def cf_L_law_B962 (b : Nat) (L : Nat) (xs : Nat → Int32) (K18 : Int32 → Wd → Prop) (P : Int32 → Wd → Prop) (x3 : Int32) (w : Wd) : Prop :=
  vp_in (x3 + (1 : Int32)) L ∧ cf_T_step (xs (x3 + (1 : Int32)).toNatClampNeg) w (fun r79 w80 => vp_in (x3 + (1 : Int32)) L ∧ cf_M_step (xs (x3 + (1 : Int32)).toNatClampNeg) w80 (fun r81 w82 => ((r79 = r81 → ∀ v83, v83 = x3 + (6 : Int32) → K18 v83 w82) ∧ (¬ r79 = r81 → P (0 : Int32) w82))))
def cf_L_law_B986 (b : Nat) (L : Nat) (xs : Nat → Int32) (K18 : Int32 → Wd → Prop) (P : Int32 → Wd → Prop) (x3 : Int32) (w : Wd) : Prop :=
  vp_in (x3 + (1 : Int32)) L ∧ cf_T_jump (xs (x3 + (1 : Int32)).toNatClampNeg) w (fun r84 w85 => vp_in (x3 + (1 : Int32)) L ∧ cf_M_jump (xs (x3 + (1 : Int32)).toNatClampNeg) w85 (fun r86 w87 => ((r84 = r86 → ∀ v88, v88 = x3 + (6 : Int32) → K18 v88 w87) ∧ (¬ r84 = r86 → P (0 : Int32) w87))))
def cf_L_law_B1010 (b : Nat) (L : Nat) (xs : Nat → Int32) (K18 : Int32 → Wd → Prop) (P : Int32 → Wd → Prop) (x3 : Int32) (w : Wd) : Prop :=
  cf_T_undo  w (fun r89 w90 => cf_M_undo  w90 (fun r91 w92 => ((r89 = r91 → ∀ v93, v93 = x3 + (6 : Int32) → K18 v93 w92) ∧ (¬ r89 = r91 → P (0 : Int32) w92))))
def cf_L_law_B1023 (b : Nat) (L : Nat) (xs : Nat → Int32) (K18 : Int32 → Wd → Prop) (P : Int32 → Wd → Prop) (x3 : Int32) (w : Wd) : Prop :=
  vp_in (x3 + (1 : Int32)) L ∧ cf_T_keep (xs (x3 + (1 : Int32)).toNatClampNeg) w (fun r94 w95 => vp_in (x3 + (1 : Int32)) L ∧ cf_M_keep (xs (x3 + (1 : Int32)).toNatClampNeg) w95 (fun r96 w97 => ((r94 = r96 → ∀ v98, v98 = x3 + (6 : Int32) → K18 v98 w97) ∧ (¬ r94 = r96 → P (0 : Int32) w97))))
def cf_L_law_B1046 (b : Nat) (L : Nat) (xs : Nat → Int32) (K18 : Int32 → Wd → Prop) (P : Int32 → Wd → Prop) (x3 : Int32) (w : Wd) : Prop :=
  vp_in (x3 + (1 : Int32)) L ∧ cf_T_back (xs (x3 + (1 : Int32)).toNatClampNeg) w (fun r99 w100 => vp_in (x3 + (1 : Int32)) L ∧ cf_M_back (xs (x3 + (1 : Int32)).toNatClampNeg) w100 (fun r101 w102 => ((r99 = r101 → ∀ v103, v103 = x3 + (6 : Int32) → K18 v103 w102) ∧ (¬ r99 = r101 → P (0 : Int32) w102))))
def cf_L_law_B1069 (b : Nat) (L : Nat) (xs : Nat → Int32) (K18 : Int32 → Wd → Prop) (P : Int32 → Wd → Prop) (x3 : Int32) (w : Wd) : Prop :=
  vp_in (x3 + (1 : Int32)) L ∧ cf_T_bits (xs (x3 + (1 : Int32)).toNatClampNeg) w (fun r104 => vp_in (x3 + (1 : Int32)) L ∧ cf_M_bits (xs (x3 + (1 : Int32)).toNatClampNeg) w (fun r105 => ((r104 = r105 → ∀ v106, v106 = x3 + (6 : Int32) → K18 v106 w) ∧ (¬ r104 = r105 → P (0 : Int32) w))))
def cf_L_law_B1093 (b : Nat) (L : Nat) (xs : Nat → Int32) (K18 : Int32 → Wd → Prop) (P : Int32 → Wd → Prop) (x3 : Int32) (w : Wd) : Prop :=
  vp_in (x3 + (1 : Int32)) L ∧ vp_in (x3 + (2 : Int32)) L ∧ cf_T_poly (xs (x3 + (1 : Int32)).toNatClampNeg) (xs (x3 + (2 : Int32)).toNatClampNeg) w (fun r107 w108 => vp_in (x3 + (1 : Int32)) L ∧ vp_in (x3 + (2 : Int32)) L ∧ cf_M_poly (xs (x3 + (1 : Int32)).toNatClampNeg) (xs (x3 + (2 : Int32)).toNatClampNeg) w108 (fun r109 w110 => ((r107 = r109 → ∀ v111, v111 = x3 + (6 : Int32) → K18 v111 w110) ∧ (¬ r107 = r109 → P (0 : Int32) w110))))
def cf_L_law_B1126 (b : Nat) (L : Nat) (xs : Nat → Int32) (K18 : Int32 → Wd → Prop) (P : Int32 → Wd → Prop) (x3 : Int32) (w : Wd) : Prop :=
  vp_in (x3 + (1 : Int32)) L ∧ vp_in (x3 + (2 : Int32)) L ∧ cf_T_factor (xs (x3 + (1 : Int32)).toNatClampNeg) (xs (x3 + (2 : Int32)).toNatClampNeg) w (fun r112 w113 => vp_in (x3 + (1 : Int32)) L ∧ vp_in (x3 + (2 : Int32)) L ∧ cf_M_factor (xs (x3 + (1 : Int32)).toNatClampNeg) (xs (x3 + (2 : Int32)).toNatClampNeg) w113 (fun r114 w115 => ((r112 = r114 → ∀ v116, v116 = x3 + (6 : Int32) → K18 v116 w115) ∧ (¬ r112 = r114 → P (0 : Int32) w115))))
def cf_L_law_B1160 (b : Nat) (L : Nat) (xs : Nat → Int32) (K18 : Int32 → Wd → Prop) (P : Int32 → Wd → Prop) (x3 : Int32) (w : Wd) : Prop :=
  vp_in (x3 + (1 : Int32)) L ∧ vp_in (x3 + (2 : Int32)) L ∧ cf_T_ofDegree (xs (x3 + (1 : Int32)).toNatClampNeg) (xs (x3 + (2 : Int32)).toNatClampNeg) w (fun r117 w118 => vp_in (x3 + (1 : Int32)) L ∧ vp_in (x3 + (2 : Int32)) L ∧ cf_M_ofDegree (xs (x3 + (1 : Int32)).toNatClampNeg) (xs (x3 + (2 : Int32)).toNatClampNeg) w118 (fun r119 w120 => ((r117 = r119 → ∀ v121, v121 = x3 + (6 : Int32) → K18 v121 w120) ∧ (¬ r117 = r119 → P (0 : Int32) w120))))
def cf_L_law_B1193 (b : Nat) (L : Nat) (xs : Nat → Int32) (K18 : Int32 → Wd → Prop) (P : Int32 → Wd → Prop) (x3 : Int32) (w : Wd) : Prop :=
  vp_in (x3 + (1 : Int32)) L ∧ cf_T_order (xs (x3 + (1 : Int32)).toNatClampNeg) w (fun r122 w123 => vp_in (x3 + (1 : Int32)) L ∧ cf_M_order (xs (x3 + (1 : Int32)).toNatClampNeg) w123 (fun r124 w125 => ((r122 = r124 → ∀ v126, v126 = x3 + (6 : Int32) → K18 v126 w125) ∧ (¬ r122 = r124 → P (0 : Int32) w125))))
def cf_L_law_B1217 (b : Nat) (L : Nat) (xs : Nat → Int32) (K18 : Int32 → Wd → Prop) (P : Int32 → Wd → Prop) (x3 : Int32) (w : Wd) : Prop :=
  vp_in (x3 + (1 : Int32)) L ∧ vp_in (x3 + (2 : Int32)) L ∧ cf_T_swan (xs (x3 + (1 : Int32)).toNatClampNeg) (xs (x3 + (2 : Int32)).toNatClampNeg) (fun r127 => vp_in (x3 + (1 : Int32)) L ∧ vp_in (x3 + (2 : Int32)) L ∧ cf_M_swan (xs (x3 + (1 : Int32)).toNatClampNeg) (xs (x3 + (2 : Int32)).toNatClampNeg) (fun r128 => ((r127 = r128 → ∀ v129, v129 = x3 + (6 : Int32) → K18 v129 w) ∧ (¬ r127 = r128 → P (0 : Int32) w))))
def cf_L_law_B1250 (b : Nat) (L : Nat) (xs : Nat → Int32) (K18 : Int32 → Wd → Prop) (P : Int32 → Wd → Prop) (x3 : Int32) (w : Wd) : Prop :=
  vp_in (x3 + (1 : Int32)) L ∧ cf_T_evens (xs (x3 + (1 : Int32)).toNatClampNeg) (fun r130 => vp_in (x3 + (1 : Int32)) L ∧ cf_M_evens (xs (x3 + (1 : Int32)).toNatClampNeg) (fun r131 => ((r130 = r131 → ∀ v132, v132 = x3 + (6 : Int32) → K18 v132 w) ∧ (¬ r130 = r131 → P (0 : Int32) w))))
def cf_L_law_B1273 (b : Nat) (L : Nat) (xs : Nat → Int32) (K18 : Int32 → Wd → Prop) (P : Int32 → Wd → Prop) (x3 : Int32) (w : Wd) : Prop :=
  vp_in (x3 + (1 : Int32)) L ∧ vp_in (x3 + (2 : Int32)) L ∧ cf_T_multiple (xs (x3 + (1 : Int32)).toNatClampNeg) (xs (x3 + (2 : Int32)).toNatClampNeg) w (fun r133 w134 => vp_in (x3 + (1 : Int32)) L ∧ vp_in (x3 + (2 : Int32)) L ∧ cf_M_multiple (xs (x3 + (1 : Int32)).toNatClampNeg) (xs (x3 + (2 : Int32)).toNatClampNeg) w134 (fun r135 w136 => ((r133 = r135 → ∀ v137, v137 = x3 + (6 : Int32) → K18 v137 w136) ∧ (¬ r133 = r135 → P (0 : Int32) w136))))
def cf_L_law_B1306 (b : Nat) (L : Nat) (xs : Nat → Int32) (K18 : Int32 → Wd → Prop) (P : Int32 → Wd → Prop) (x3 : Int32) (w : Wd) : Prop :=
  vp_in (x3 + (1 : Int32)) L ∧ vp_in (x3 + (2 : Int32)) L ∧ vp_in (x3 + (3 : Int32)) L ∧ vp_in (x3 + (4 : Int32)) L ∧ cf_T_shortest ((lshl ((xs (x3 + (1 : Int32)).toNatClampNeg).toInt64) (32 : Int32)) ||| (((xs (x3 + (2 : Int32)).toNatClampNeg).toInt64) &&& (4294967295 : Int64))) (xs (x3 + (3 : Int32)).toNatClampNeg) (xs (x3 + (4 : Int32)).toNatClampNeg) (fun r138 => vp_in (x3 + (1 : Int32)) L ∧ vp_in (x3 + (2 : Int32)) L ∧ vp_in (x3 + (3 : Int32)) L ∧ vp_in (x3 + (4 : Int32)) L ∧ cf_M_shortest ((lshl ((xs (x3 + (1 : Int32)).toNatClampNeg).toInt64) (32 : Int32)) ||| (((xs (x3 + (2 : Int32)).toNatClampNeg).toInt64) &&& (4294967295 : Int64))) (xs (x3 + (3 : Int32)).toNatClampNeg) (xs (x3 + (4 : Int32)).toNatClampNeg) w (fun r139 w140 => ((r138 = r139 → ∀ v141, v141 = x3 + (6 : Int32) → K18 v141 w140) ∧ (¬ r138 = r139 → P (0 : Int32) w140))))
def cf_L_law_B1399 (b : Nat) (L : Nat) (xs : Nat → Int32) (K18 : Int32 → Wd → Prop) (P : Int32 → Wd → Prop) (x3 : Int32) (s0 : Int32) (s1 : Int32) (w : Wd) : Prop :=
  vp_in (x3 + (3 : Int32)) L ∧ cf_T_trinomial s1 s0 (xs (x3 + (3 : Int32)).toNatClampNeg) w (fun r142 w143 => vp_in (x3 + (1 : Int32)) L ∧ vp_in (x3 + (2 : Int32)) L ∧ (((xs (x3 + (2 : Int32)).toNatClampNeg) = 0 → vp_in (x3 + (3 : Int32)) L ∧ cf_M_trinomial (xs (x3 + (1 : Int32)).toNatClampNeg) (0 : Int32) (xs (x3 + (3 : Int32)).toNatClampNeg) w143 (fun r144 w145 => ((r142 = r144 → ∀ v146, v146 = x3 + (6 : Int32) → K18 v146 w145) ∧ (¬ r142 = r144 → P (0 : Int32) w145)))) ∧ (¬ (xs (x3 + (2 : Int32)).toNatClampNeg) = 0 → vp_in (x3 + (3 : Int32)) L ∧ cf_M_trinomial (xs (x3 + (1 : Int32)).toNatClampNeg) (1 : Int32) (xs (x3 + (3 : Int32)).toNatClampNeg) w143 (fun r147 w148 => ((r142 = r147 → ∀ v149, v149 = x3 + (6 : Int32) → K18 v149 w148) ∧ (¬ r142 = r147 → P (0 : Int32) w148))))))
def cf_L_law_B1380 (b : Nat) (L : Nat) (xs : Nat → Int32) (K18 : Int32 → Wd → Prop) (P : Int32 → Wd → Prop) (x3 : Int32) (w : Wd) : Prop :=
  vp_in (x3 + (1 : Int32)) L ∧ vp_in (x3 + (2 : Int32)) L ∧ (((xs (x3 + (2 : Int32)).toNatClampNeg) = 0 → cf_L_law_B1399 b L xs K18 P x3 (0 : Int32) (xs (x3 + (1 : Int32)).toNatClampNeg) w) ∧ (¬ (xs (x3 + (2 : Int32)).toNatClampNeg) = 0 → cf_L_law_B1399 b L xs K18 P x3 (1 : Int32) (xs (x3 + (1 : Int32)).toNatClampNeg) w))
def cf_L_law_B1458 (b : Nat) (L : Nat) (xs : Nat → Int32) (K18 : Int32 → Wd → Prop) (P : Int32 → Wd → Prop) (x3 : Int32) (s0 : Int32) (s1 : Int32) (w : Wd) : Prop :=
  cf_T_least s1 s0 w (fun r150 w151 => vp_in (x3 + (1 : Int32)) L ∧ vp_in (x3 + (2 : Int32)) L ∧ (((xs (x3 + (2 : Int32)).toNatClampNeg) = 0 → cf_M_least (xs (x3 + (1 : Int32)).toNatClampNeg) (0 : Int32) w151 (fun r152 w153 => ((r150 = r152 → ∀ v154, v154 = x3 + (6 : Int32) → K18 v154 w153) ∧ (¬ r150 = r152 → P (0 : Int32) w153)))) ∧ (¬ (xs (x3 + (2 : Int32)).toNatClampNeg) = 0 → cf_M_least (xs (x3 + (1 : Int32)).toNatClampNeg) (1 : Int32) w151 (fun r155 w156 => ((r150 = r155 → ∀ v157, v157 = x3 + (6 : Int32) → K18 v157 w156) ∧ (¬ r150 = r155 → P (0 : Int32) w156))))))
def cf_L_law_B1439 (b : Nat) (L : Nat) (xs : Nat → Int32) (K18 : Int32 → Wd → Prop) (P : Int32 → Wd → Prop) (x3 : Int32) (w : Wd) : Prop :=
  vp_in (x3 + (1 : Int32)) L ∧ vp_in (x3 + (2 : Int32)) L ∧ (((xs (x3 + (2 : Int32)).toNatClampNeg) = 0 → cf_L_law_B1458 b L xs K18 P x3 (0 : Int32) (xs (x3 + (1 : Int32)).toNatClampNeg) w) ∧ (¬ (xs (x3 + (2 : Int32)).toNatClampNeg) = 0 → cf_L_law_B1458 b L xs K18 P x3 (1 : Int32) (xs (x3 + (1 : Int32)).toNatClampNeg) w))
def cf_L_law_B1508 (b : Nat) (L : Nat) (xs : Nat → Int32) (K18 : Int32 → Wd → Prop) (P : Int32 → Wd → Prop) (x3 : Int32) (s0 : Int32) (s1 : Int32) (w : Wd) : Prop :=
  cf_T_many s1 s0 w (fun r158 w159 => vp_in (x3 + (1 : Int32)) L ∧ vp_in (x3 + (2 : Int32)) L ∧ (((xs (x3 + (2 : Int32)).toNatClampNeg) = 0 → cf_M_many (xs (x3 + (1 : Int32)).toNatClampNeg) (0 : Int32) w159 (fun r160 w161 => ((r158 = r160 → ∀ v162, v162 = x3 + (6 : Int32) → K18 v162 w161) ∧ (¬ r158 = r160 → P (0 : Int32) w161)))) ∧ (¬ (xs (x3 + (2 : Int32)).toNatClampNeg) = 0 → cf_M_many (xs (x3 + (1 : Int32)).toNatClampNeg) (1 : Int32) w159 (fun r163 w164 => ((r158 = r163 → ∀ v165, v165 = x3 + (6 : Int32) → K18 v165 w164) ∧ (¬ r158 = r163 → P (0 : Int32) w164))))))
def cf_L_law_B1489 (b : Nat) (L : Nat) (xs : Nat → Int32) (K18 : Int32 → Wd → Prop) (P : Int32 → Wd → Prop) (x3 : Int32) (w : Wd) : Prop :=
  vp_in (x3 + (1 : Int32)) L ∧ vp_in (x3 + (2 : Int32)) L ∧ (((xs (x3 + (2 : Int32)).toNatClampNeg) = 0 → cf_L_law_B1508 b L xs K18 P x3 (0 : Int32) (xs (x3 + (1 : Int32)).toNatClampNeg) w) ∧ (¬ (xs (x3 + (2 : Int32)).toNatClampNeg) = 0 → cf_L_law_B1508 b L xs K18 P x3 (1 : Int32) (xs (x3 + (1 : Int32)).toNatClampNeg) w))
def cf_L_law_B1539 (b : Nat) (L : Nat) (xs : Nat → Int32) (K18 : Int32 → Wd → Prop) (P : Int32 → Wd → Prop) (x3 : Int32) (w : Wd) : Prop :=
  vp_in (x3 + (1 : Int32)) L ∧ vp_in (x3 + (2 : Int32)) L ∧ vp_in (x3 + (3 : Int32)) L ∧ cf_T_stays (xs (x3 + (1 : Int32)).toNatClampNeg) (xs (x3 + (2 : Int32)).toNatClampNeg) (xs (x3 + (3 : Int32)).toNatClampNeg) w (fun r166 w167 => vp_in (x3 + (1 : Int32)) L ∧ vp_in (x3 + (2 : Int32)) L ∧ vp_in (x3 + (3 : Int32)) L ∧ cf_M_stays (xs (x3 + (1 : Int32)).toNatClampNeg) (xs (x3 + (2 : Int32)).toNatClampNeg) (xs (x3 + (3 : Int32)).toNatClampNeg) w167 (fun r168 w169 => ((r166 = r168 → ∀ v170, v170 = x3 + (6 : Int32) → K18 v170 w169) ∧ (¬ r166 = r168 → P (0 : Int32) w169))))
def cf_L_law_B1582 (b : Nat) (L : Nat) (xs : Nat → Int32) (K18 : Int32 → Wd → Prop) (P : Int32 → Wd → Prop) (x3 : Int32) (w : Wd) : Prop :=
  vp_in (x3 + (1 : Int32)) L ∧ cf_T_bare (xs (x3 + (1 : Int32)).toNatClampNeg) w (fun r171 w172 => vp_in (x3 + (1 : Int32)) L ∧ cf_M_bare (xs (x3 + (1 : Int32)).toNatClampNeg) w172 (fun r173 w174 => ((r171 = r173 → ∀ v175, v175 = x3 + (6 : Int32) → K18 v175 w174) ∧ (¬ r171 = r173 → P (0 : Int32) w174))))
def cf_L_law_B1605 (b : Nat) (L : Nat) (xs : Nat → Int32) (K18 : Int32 → Wd → Prop) (P : Int32 → Wd → Prop) (x3 : Int32) (w : Wd) : Prop :=
  vp_in (x3 + (1 : Int32)) L ∧ vp_in (x3 + (2 : Int32)) L ∧ cf_T_minimal (xs (x3 + (1 : Int32)).toNatClampNeg) (xs (x3 + (2 : Int32)).toNatClampNeg) w (fun r176 w177 => vp_in (x3 + (1 : Int32)) L ∧ vp_in (x3 + (2 : Int32)) L ∧ cf_M_minimal (xs (x3 + (1 : Int32)).toNatClampNeg) (xs (x3 + (2 : Int32)).toNatClampNeg) w177 (fun r178 w179 => ((r176 = r178 → ∀ v180, v180 = x3 + (6 : Int32) → K18 v180 w179) ∧ (¬ r176 = r178 → P (0 : Int32) w179))))
def cf_L_law_B1639 (b : Nat) (L : Nat) (xs : Nat → Int32) (K18 : Int32 → Wd → Prop) (P : Int32 → Wd → Prop) (x3 : Int32) (w : Wd) : Prop :=
  vp_in (x3 + (1 : Int32)) L ∧ vp_in (x3 + (2 : Int32)) L ∧ cf_T_trace (xs (x3 + (1 : Int32)).toNatClampNeg) (xs (x3 + (2 : Int32)).toNatClampNeg) w (fun r181 => vp_in (x3 + (1 : Int32)) L ∧ vp_in (x3 + (2 : Int32)) L ∧ cf_M_trace (xs (x3 + (1 : Int32)).toNatClampNeg) (xs (x3 + (2 : Int32)).toNatClampNeg) w (fun r182 w183 => ((r181 = r182 → ∀ v184, v184 = x3 + (6 : Int32) → K18 v184 w183) ∧ (¬ r181 = r182 → P (0 : Int32) w183))))
def cf_L_law_B1672 (b : Nat) (L : Nat) (xs : Nat → Int32) (K18 : Int32 → Wd → Prop) (P : Int32 → Wd → Prop) (x3 : Int32) (w : Wd) : Prop :=
  vp_in (x3 + (1 : Int32)) L ∧ vp_in (x3 + (2 : Int32)) L ∧ cf_T_conjugates (xs (x3 + (1 : Int32)).toNatClampNeg) (xs (x3 + (2 : Int32)).toNatClampNeg) w (fun r185 => vp_in (x3 + (1 : Int32)) L ∧ vp_in (x3 + (2 : Int32)) L ∧ cf_M_conjugates (xs (x3 + (1 : Int32)).toNatClampNeg) (xs (x3 + (2 : Int32)).toNatClampNeg) w (fun r186 w187 => ((r185 = r186 → ∀ v188, v188 = x3 + (6 : Int32) → K18 v188 w187) ∧ (¬ r185 = r186 → P (0 : Int32) w187))))
def cf_L_law_B1705 (b : Nat) (L : Nat) (xs : Nat → Int32) (K18 : Int32 → Wd → Prop) (P : Int32 → Wd → Prop) (x3 : Int32) (w : Wd) : Prop :=
  vp_in (x3 + (1 : Int32)) L ∧ vp_in (x3 + (2 : Int32)) L ∧ vp_in (x3 + (3 : Int32)) L ∧ cf_T_log (xs (x3 + (1 : Int32)).toNatClampNeg) (xs (x3 + (2 : Int32)).toNatClampNeg) (xs (x3 + (3 : Int32)).toNatClampNeg) w (fun r189 w190 => vp_in (x3 + (1 : Int32)) L ∧ vp_in (x3 + (2 : Int32)) L ∧ vp_in (x3 + (3 : Int32)) L ∧ cf_M_log (xs (x3 + (1 : Int32)).toNatClampNeg) (xs (x3 + (2 : Int32)).toNatClampNeg) (xs (x3 + (3 : Int32)).toNatClampNeg) w190 (fun r191 w192 => ((r189 = r191 → ∀ v193, v193 = x3 + (6 : Int32) → K18 v193 w192) ∧ (¬ r189 = r191 → P (0 : Int32) w192))))
def cf_L_law_B1749 (b : Nat) (L : Nat) (xs : Nat → Int32) (K18 : Int32 → Wd → Prop) (P : Int32 → Wd → Prop) (x3 : Int32) (w : Wd) : Prop :=
  vp_in (x3 + (1 : Int32)) L ∧ vp_in (x3 + (2 : Int32)) L ∧ cf_T_roots (xs (x3 + (1 : Int32)).toNatClampNeg) (xs (x3 + (2 : Int32)).toNatClampNeg) w (fun r194 => vp_in (x3 + (1 : Int32)) L ∧ vp_in (x3 + (2 : Int32)) L ∧ cf_M_roots (xs (x3 + (1 : Int32)).toNatClampNeg) (xs (x3 + (2 : Int32)).toNatClampNeg) w (fun r195 w196 => ((r194 = r195 → ∀ v197, v197 = x3 + (6 : Int32) → K18 v197 w196) ∧ (¬ r194 = r195 → P (0 : Int32) w196))))
def cf_L_law_B1782 (b : Nat) (L : Nat) (xs : Nat → Int32) (K18 : Int32 → Wd → Prop) (P : Int32 → Wd → Prop) (x3 : Int32) (w : Wd) : Prop :=
  vp_in (x3 + (1 : Int32)) L ∧ cf_T_shift (xs (x3 + (1 : Int32)).toNatClampNeg) w (fun r198 w199 => vp_in (x3 + (1 : Int32)) L ∧ cf_M_shift (xs (x3 + (1 : Int32)).toNatClampNeg) w199 (fun r200 w201 => ((r198 = r200 → ∀ v202, v202 = x3 + (6 : Int32) → K18 v202 w201) ∧ (¬ r198 = r200 → P (0 : Int32) w201))))
def cf_L_law_B1806 (b : Nat) (L : Nat) (xs : Nat → Int32) (K18 : Int32 → Wd → Prop) (P : Int32 → Wd → Prop) (x3 : Int32) (w : Wd) : Prop :=
  vp_in (x3 + (1 : Int32)) L ∧ vp_in (x3 + (2 : Int32)) L ∧ cf_T_letter (xs (x3 + (1 : Int32)).toNatClampNeg) (xs (x3 + (2 : Int32)).toNatClampNeg) w (fun r203 w204 => vp_in (x3 + (1 : Int32)) L ∧ vp_in (x3 + (2 : Int32)) L ∧ cf_M_letter (xs (x3 + (1 : Int32)).toNatClampNeg) (xs (x3 + (2 : Int32)).toNatClampNeg) w204 (fun r205 w206 => ((r203 = r205 → ∀ v207, v207 = x3 + (6 : Int32) → K18 v207 w206) ∧ (¬ r203 = r205 → P (0 : Int32) w206))))
def cf_L_law_B1839 (b : Nat) (L : Nat) (xs : Nat → Int32) (K18 : Int32 → Wd → Prop) (P : Int32 → Wd → Prop) (x3 : Int32) (w : Wd) : Prop :=
  vp_in (x3 + (1 : Int32)) L ∧ vp_in (x3 + (2 : Int32)) L ∧ cf_T_spell (xs (x3 + (1 : Int32)).toNatClampNeg) (xs (x3 + (2 : Int32)).toNatClampNeg) w (fun r208 w209 => vp_in (x3 + (1 : Int32)) L ∧ vp_in (x3 + (2 : Int32)) L ∧ cf_M_spell (xs (x3 + (1 : Int32)).toNatClampNeg) (xs (x3 + (2 : Int32)).toNatClampNeg) w209 (fun r210 w211 => ((r208 = r210 → ∀ v212, v212 = x3 + (6 : Int32) → K18 v212 w211) ∧ (¬ r208 = r210 → P (0 : Int32) w211))))
def cf_L_law_B1891 (b : Nat) (L : Nat) (xs : Nat → Int32) (K18 : Int32 → Wd → Prop) (P : Int32 → Wd → Prop) (x3 : Int32) (s0 : Int32) (s1 : Int32) (w : Wd) : Prop :=
  cf_T_next s1 s0 w (fun r213 w214 => vp_in (x3 + (1 : Int32)) L ∧ vp_in (x3 + (2 : Int32)) L ∧ (((xs (x3 + (2 : Int32)).toNatClampNeg) = 0 → cf_M_next (xs (x3 + (1 : Int32)).toNatClampNeg) (0 : Int32) w214 (fun r215 w216 => ((r213 = r215 → ∀ v217, v217 = x3 + (6 : Int32) → K18 v217 w216) ∧ (¬ r213 = r215 → P (0 : Int32) w216)))) ∧ (¬ (xs (x3 + (2 : Int32)).toNatClampNeg) = 0 → cf_M_next (xs (x3 + (1 : Int32)).toNatClampNeg) (1 : Int32) w214 (fun r218 w219 => ((r213 = r218 → ∀ v220, v220 = x3 + (6 : Int32) → K18 v220 w219) ∧ (¬ r213 = r218 → P (0 : Int32) w219))))))
def cf_L_law_B1872 (b : Nat) (L : Nat) (xs : Nat → Int32) (K18 : Int32 → Wd → Prop) (P : Int32 → Wd → Prop) (x3 : Int32) (w : Wd) : Prop :=
  vp_in (x3 + (1 : Int32)) L ∧ vp_in (x3 + (2 : Int32)) L ∧ (((xs (x3 + (2 : Int32)).toNatClampNeg) = 0 → cf_L_law_B1891 b L xs K18 P x3 (0 : Int32) (xs (x3 + (1 : Int32)).toNatClampNeg) w) ∧ (¬ (xs (x3 + (2 : Int32)).toNatClampNeg) = 0 → cf_L_law_B1891 b L xs K18 P x3 (1 : Int32) (xs (x3 + (1 : Int32)).toNatClampNeg) w))
def cf_L_law_B1922 (b : Nat) (L : Nat) (xs : Nat → Int32) (K18 : Int32 → Wd → Prop) (P : Int32 → Wd → Prop) (x3 : Int32) (w : Wd) : Prop :=
  vp_in (x3 + (1 : Int32)) L ∧ vp_in (x3 + (2 : Int32)) L ∧ cf_T_divisor (xs (x3 + (1 : Int32)).toNatClampNeg) (xs (x3 + (2 : Int32)).toNatClampNeg) w (fun r221 w222 => vp_in (x3 + (1 : Int32)) L ∧ vp_in (x3 + (2 : Int32)) L ∧ cf_M_divisor (xs (x3 + (1 : Int32)).toNatClampNeg) (xs (x3 + (2 : Int32)).toNatClampNeg) w222 (fun r223 w224 => ((r221 = r223 → ∀ v225, v225 = x3 + (6 : Int32) → K18 v225 w224) ∧ (¬ r221 = r223 → P (0 : Int32) w224))))
def cf_L_law_B1956 (b : Nat) (L : Nat) (xs : Nat → Int32) (K18 : Int32 → Wd → Prop) (P : Int32 → Wd → Prop) (x3 : Int32) (w : Wd) : Prop :=
  vp_in (x3 + (1 : Int32)) L ∧ cf_T_couples (xs (x3 + (1 : Int32)).toNatClampNeg) w (fun r226 w227 => vp_in (x3 + (1 : Int32)) L ∧ cf_M_couples (xs (x3 + (1 : Int32)).toNatClampNeg) w227 (fun r228 w229 => ((r226 = r228 → ∀ v230, v230 = x3 + (6 : Int32) → K18 v230 w229) ∧ (¬ r226 = r228 → P (0 : Int32) w229))))
def cf_L_law_B1979 (b : Nat) (L : Nat) (xs : Nat → Int32) (K18 : Int32 → Wd → Prop) (P : Int32 → Wd → Prop) (x3 : Int32) (w : Wd) : Prop :=
  vp_in (x3 + (1 : Int32)) L ∧ vp_in (x3 + (2 : Int32)) L ∧ cf_T_mirror (xs (x3 + (1 : Int32)).toNatClampNeg) (xs (x3 + (2 : Int32)).toNatClampNeg) w (fun r231 => vp_in (x3 + (1 : Int32)) L ∧ vp_in (x3 + (2 : Int32)) L ∧ cf_M_mirror (xs (x3 + (1 : Int32)).toNatClampNeg) (xs (x3 + (2 : Int32)).toNatClampNeg) w (fun r232 => ((r231 = r232 → ∀ v233, v233 = x3 + (6 : Int32) → K18 v233 w) ∧ (¬ r231 = r232 → P (0 : Int32) w))))
def cf_L_law_B2012 (b : Nat) (L : Nat) (xs : Nat → Int32) (K18 : Int32 → Wd → Prop) (P : Int32 → Wd → Prop) (x3 : Int32) (w : Wd) : Prop :=
  vp_in (x3 + (1 : Int32)) L ∧ vp_in (x3 + (2 : Int32)) L ∧ cf_T_akin (xs (x3 + (1 : Int32)).toNatClampNeg) (xs (x3 + (2 : Int32)).toNatClampNeg) w (fun r234 w235 => vp_in (x3 + (1 : Int32)) L ∧ vp_in (x3 + (2 : Int32)) L ∧ cf_M_akin (xs (x3 + (1 : Int32)).toNatClampNeg) (xs (x3 + (2 : Int32)).toNatClampNeg) w235 (fun r236 w237 => ((r234 = r236 → ∀ v238, v238 = x3 + (6 : Int32) → K18 v238 w237) ∧ (¬ r234 = r236 → P (0 : Int32) w237))))
def cf_L_law_B2045 (b : Nat) (L : Nat) (xs : Nat → Int32) (K18 : Int32 → Wd → Prop) (P : Int32 → Wd → Prop) (x3 : Int32) (w : Wd) : Prop :=
  vp_in (x3 + (1 : Int32)) L ∧ cf_T_count (xs (x3 + (1 : Int32)).toNatClampNeg) w (fun r239 => vp_in (x3 + (1 : Int32)) L ∧ cf_M_count (xs (x3 + (1 : Int32)).toNatClampNeg) w (fun r240 w241 => ((r239 = r240 → ∀ v242, v242 = x3 + (6 : Int32) → K18 v242 w241) ∧ (¬ r239 = r240 → P (0 : Int32) w241))))
def cf_L_law_B18 (b : Nat) (L : Nat) (xs : Nat → Int32) (K18 : Int32 → Wd → Prop) (P : Int32 → Wd → Prop) (x3 : Int32) (w : Wd) : Prop :=
  ((((Int32.ofNat L) - (6 : Int32)) < x3 → P (1 : Int32) w) ∧ (¬ ((Int32.ofNat L) - (6 : Int32)) < x3 → vp_in x3 L ∧ ((((xs x3.toNatClampNeg) &&& (63 : Int32)) = 0 → cf_L_law_B244 b L xs K18 P x3 w) ∧ (((xs x3.toNatClampNeg) &&& (63 : Int32)) = 1 → cf_L_law_B307 b L xs K18 P x3 w) ∧ (((xs x3.toNatClampNeg) &&& (63 : Int32)) = 2 → cf_L_law_B330 b L xs K18 P x3 w) ∧ (((xs x3.toNatClampNeg) &&& (63 : Int32)) = 3 → cf_L_law_B343 b L xs K18 P x3 w) ∧ (((xs x3.toNatClampNeg) &&& (63 : Int32)) = 4 → cf_L_law_B366 b L xs K18 P x3 w) ∧ (((xs x3.toNatClampNeg) &&& (63 : Int32)) = 5 → cf_L_law_B429 b L xs K18 P x3 w) ∧ (((xs x3.toNatClampNeg) &&& (63 : Int32)) = 6 → cf_L_law_B472 b L xs K18 P x3 w) ∧ (((xs x3.toNatClampNeg) &&& (63 : Int32)) = 7 → cf_L_law_B515 b L xs K18 P x3 w) ∧ (((xs x3.toNatClampNeg) &&& (63 : Int32)) = 8 → cf_L_law_B558 b L xs K18 P x3 w) ∧ (((xs x3.toNatClampNeg) &&& (63 : Int32)) = 9 → cf_L_law_B601 b L xs K18 P x3 w) ∧ (((xs x3.toNatClampNeg) &&& (63 : Int32)) = 10 → cf_L_law_B644 b L xs K18 P x3 w) ∧ (((xs x3.toNatClampNeg) &&& (63 : Int32)) = 11 → cf_L_law_B727 b L xs K18 P x3 w) ∧ (((xs x3.toNatClampNeg) &&& (63 : Int32)) = 12 → cf_L_law_B760 b L xs K18 P x3 w) ∧ (((xs x3.toNatClampNeg) &&& (63 : Int32)) = 13 → cf_L_law_B813 b L xs K18 P x3 w) ∧ (((xs x3.toNatClampNeg) &&& (63 : Int32)) = 14 → cf_L_law_B856 b L xs K18 P x3 w) ∧ (((xs x3.toNatClampNeg) &&& (63 : Int32)) = 15 → cf_L_law_B899 b L xs K18 P x3 w) ∧ (((xs x3.toNatClampNeg) &&& (63 : Int32)) = 16 → cf_L_law_B962 b L xs K18 P x3 w) ∧ (((xs x3.toNatClampNeg) &&& (63 : Int32)) = 17 → cf_L_law_B986 b L xs K18 P x3 w) ∧ (((xs x3.toNatClampNeg) &&& (63 : Int32)) = 18 → cf_L_law_B1010 b L xs K18 P x3 w) ∧ (((xs x3.toNatClampNeg) &&& (63 : Int32)) = 19 → cf_L_law_B1023 b L xs K18 P x3 w) ∧ (((xs x3.toNatClampNeg) &&& (63 : Int32)) = 20 → cf_L_law_B1046 b L xs K18 P x3 w) ∧ (((xs x3.toNatClampNeg) &&& (63 : Int32)) = 21 → cf_L_law_B1069 b L xs K18 P x3 w) ∧ (((xs x3.toNatClampNeg) &&& (63 : Int32)) = 22 → cf_L_law_B1093 b L xs K18 P x3 w) ∧ (((xs x3.toNatClampNeg) &&& (63 : Int32)) = 23 → cf_L_law_B1126 b L xs K18 P x3 w) ∧ (((xs x3.toNatClampNeg) &&& (63 : Int32)) = 24 → cf_L_law_B1160 b L xs K18 P x3 w) ∧ (((xs x3.toNatClampNeg) &&& (63 : Int32)) = 25 → cf_L_law_B1193 b L xs K18 P x3 w) ∧ (((xs x3.toNatClampNeg) &&& (63 : Int32)) = 26 → cf_L_law_B1217 b L xs K18 P x3 w) ∧ (((xs x3.toNatClampNeg) &&& (63 : Int32)) = 27 → cf_L_law_B1250 b L xs K18 P x3 w) ∧ (((xs x3.toNatClampNeg) &&& (63 : Int32)) = 28 → cf_L_law_B1273 b L xs K18 P x3 w) ∧ (((xs x3.toNatClampNeg) &&& (63 : Int32)) = 29 → cf_L_law_B1306 b L xs K18 P x3 w) ∧ (((xs x3.toNatClampNeg) &&& (63 : Int32)) = 30 → cf_L_law_B1380 b L xs K18 P x3 w) ∧ (((xs x3.toNatClampNeg) &&& (63 : Int32)) = 31 → cf_L_law_B1439 b L xs K18 P x3 w) ∧ (((xs x3.toNatClampNeg) &&& (63 : Int32)) = 32 → cf_L_law_B1489 b L xs K18 P x3 w) ∧ (((xs x3.toNatClampNeg) &&& (63 : Int32)) = 33 → cf_L_law_B1539 b L xs K18 P x3 w) ∧ (((xs x3.toNatClampNeg) &&& (63 : Int32)) = 34 → cf_L_law_B1582 b L xs K18 P x3 w) ∧ (((xs x3.toNatClampNeg) &&& (63 : Int32)) = 35 → cf_L_law_B1605 b L xs K18 P x3 w) ∧ (((xs x3.toNatClampNeg) &&& (63 : Int32)) = 36 → cf_L_law_B1639 b L xs K18 P x3 w) ∧ (((xs x3.toNatClampNeg) &&& (63 : Int32)) = 37 → cf_L_law_B1672 b L xs K18 P x3 w) ∧ (((xs x3.toNatClampNeg) &&& (63 : Int32)) = 38 → cf_L_law_B1705 b L xs K18 P x3 w) ∧ (((xs x3.toNatClampNeg) &&& (63 : Int32)) = 39 → cf_L_law_B1749 b L xs K18 P x3 w) ∧ (((xs x3.toNatClampNeg) &&& (63 : Int32)) = 40 → cf_L_law_B1782 b L xs K18 P x3 w) ∧ (((xs x3.toNatClampNeg) &&& (63 : Int32)) = 41 → cf_L_law_B1806 b L xs K18 P x3 w) ∧ (((xs x3.toNatClampNeg) &&& (63 : Int32)) = 42 → cf_L_law_B1839 b L xs K18 P x3 w) ∧ (((xs x3.toNatClampNeg) &&& (63 : Int32)) = 43 → cf_L_law_B1872 b L xs K18 P x3 w) ∧ (((xs x3.toNatClampNeg) &&& (63 : Int32)) = 44 → cf_L_law_B1922 b L xs K18 P x3 w) ∧ (((xs x3.toNatClampNeg) &&& (63 : Int32)) = 45 → cf_L_law_B1956 b L xs K18 P x3 w) ∧ (((xs x3.toNatClampNeg) &&& (63 : Int32)) = 46 → cf_L_law_B1979 b L xs K18 P x3 w) ∧ (((xs x3.toNatClampNeg) &&& (63 : Int32)) = 47 → cf_L_law_B2012 b L xs K18 P x3 w) ∧ (((xs x3.toNatClampNeg) &&& (63 : Int32)) = 48 → cf_L_law_B2045 b L xs K18 P x3 w) ∧ ((((xs x3.toNatClampNeg) &&& (63 : Int32)).toInt < 0 ∨ 48 < ((xs x3.toNatClampNeg) &&& (63 : Int32)).toInt) → ∀ v243, v243 = x3 + (6 : Int32) → K18 v243 w))))
def cf_L_law_L18 (b : Nat) (L : Nat) (xs : Nat → Int32)  (P : Int32 → Wd → Prop) : Nat → Int32 → Wd → Prop
  | 0 => fun x3 w => False
  | n + 1 => fun x3 w => cf_L_law_B18 b L xs (cf_L_law_L18 b L xs P n) P x3 w
theorem cf_L_law_B244_ok {g : ayG} {d : Nat} (hd : 164 ≤ d) (b : Nat) (L : Nat) (xs : Nat → Int32)  (w : Wd) (K18 : Int32 → Wd → Prop) (P : Int32 → Wd → Prop) (Q : Option Value → Wd → Prop) (hQ : ∀ x w2, P x w2 → Q (some (.int x)) w2) (hK18 : ∀ (x3 : Int32) (w : Wd), (K18 x3 w → wp g (ay_Xs g b L xs) y_L_law code 4 ret d 18 [(0, .ref b), (1, .ref (g.1 + 0)), (2, .ref (g.1 + 30)), (3, .int x3)] [] w Q)) (x3 : Int32) (h : cf_L_law_B244 b L xs K18 P x3 w) : wp g (ay_Xs g b L xs) y_L_law code 4 ret d 244 [(0, .ref b), (1, .ref (g.1 + 0)), (2, .ref (g.1 + 30)), (3, .int x3)] [] w Q := by
  unfold cf_L_law_B244 at h
  refine am_aload_n d_L_law_244 1 rfl ?_
  refine am_aload_n d_L_law_245 0 rfl ?_
  refine am_iload_n d_L_law_246 3 rfl ?_
  refine am_iconst (v := 1) d_L_law_247 rfl ?_
  refine am_iadd d_L_law_248 ?_
  have hi249 := h.1
  have h := h.2
  refine am_sld d_L_law_249 hi249 ?_
  refine am_aload_n d_L_law_250 0 rfl ?_
  refine am_iload_n d_L_law_251 3 rfl ?_
  refine am_iconst (v := 2) d_L_law_252 rfl ?_
  refine am_iadd d_L_law_253 ?_
  have hi254 := h.1
  have h := h.2
  refine am_sld d_L_law_254 hi254 ?_
  refine am_aload_n d_L_law_255 0 rfl ?_
  refine am_iload_n d_L_law_256 3 rfl ?_
  refine am_iconst (v := 3) d_L_law_257 rfl ?_
  refine am_iadd d_L_law_258 ?_
  have hi259 := h.1
  have h := h.2
  refine am_sld d_L_law_259 hi259 ?_
  refine am_aload_n d_L_law_260 0 rfl ?_
  refine am_iload_n d_L_law_261 3 rfl ?_
  refine am_iconst (v := 4) d_L_law_262 rfl ?_
  refine am_iadd d_L_law_263 ?_
  have hi264 := h.1
  have h := h.2
  refine am_sld d_L_law_264 hi264 ?_
  refine am_aload_n d_L_law_265 0 rfl ?_
  refine am_iload_n d_L_law_266 3 rfl ?_
  refine am_iconst (v := 5) d_L_law_267 rfl ?_
  refine am_iadd d_L_law_268 ?_
  have hi269 := h.1
  have h := h.2
  refine am_sld d_L_law_269 hi269 ?_
  refine am_callV (C := "TriSplits") (d2 := d - 1) [.int (xs (x3 + (1 : Int32)).toNatClampNeg), .int (xs (x3 + (2 : Int32)).toNatClampNeg), .int (xs (x3 + (3 : Int32)).toNatClampNeg), .int (xs (x3 + (4 : Int32)).toNatClampNeg), .int (xs (x3 + (5 : Int32)).toNatClampNeg)] d_L_law_270 mi_T_feed wd_222 wd_223 wd_224 (by decide) (el_T (show ay_sh 0 = _ from rfl)) rfl rfl (by omega) rfl rfl (Nat.le_of_ble_eq_true rfl) ?_
  refine Call.post ?_ (cf_T_feed_ok (by omega) (xs (x3 + (1 : Int32)).toNatClampNeg) (xs (x3 + (2 : Int32)).toNatClampNeg) (xs (x3 + (3 : Int32)).toNatClampNeg) (xs (x3 + (4 : Int32)).toNatClampNeg) (xs (x3 + (5 : Int32)).toNatClampNeg)  w _ h)
  rintro _ w2 ⟨r1, rfl, h⟩
  show wp g (ay_Xs g b L xs) y_L_law code 4 ret d 273 [(0, .ref b), (1, .ref (g.1 + 0)), (2, .ref (g.1 + 30)), (3, .int x3)] [.int r1] w2 Q
  refine am_aload_n d_L_law_273 2 rfl ?_
  refine am_aload_n d_L_law_274 0 rfl ?_
  refine am_iload_n d_L_law_275 3 rfl ?_
  refine am_iconst (v := 1) d_L_law_276 rfl ?_
  refine am_iadd d_L_law_277 ?_
  have hi278 := h.1
  have h := h.2
  refine am_sld d_L_law_278 hi278 ?_
  refine am_aload_n d_L_law_279 0 rfl ?_
  refine am_iload_n d_L_law_280 3 rfl ?_
  refine am_iconst (v := 2) d_L_law_281 rfl ?_
  refine am_iadd d_L_law_282 ?_
  have hi283 := h.1
  have h := h.2
  refine am_sld d_L_law_283 hi283 ?_
  refine am_aload_n d_L_law_284 0 rfl ?_
  refine am_iload_n d_L_law_285 3 rfl ?_
  refine am_iconst (v := 3) d_L_law_286 rfl ?_
  refine am_iadd d_L_law_287 ?_
  have hi288 := h.1
  have h := h.2
  refine am_sld d_L_law_288 hi288 ?_
  refine am_aload_n d_L_law_289 0 rfl ?_
  refine am_iload_n d_L_law_290 3 rfl ?_
  refine am_iconst (v := 4) d_L_law_291 rfl ?_
  refine am_iadd d_L_law_292 ?_
  have hi293 := h.1
  have h := h.2
  refine am_sld d_L_law_293 hi293 ?_
  refine am_aload_n d_L_law_294 0 rfl ?_
  refine am_iload_n d_L_law_295 3 rfl ?_
  refine am_iconst (v := 5) d_L_law_296 rfl ?_
  refine am_iadd d_L_law_297 ?_
  have hi298 := h.1
  have h := h.2
  refine am_sld d_L_law_298 hi298 ?_
  refine am_callV (C := "TriSplitsModel") (d2 := d - 1) [.int (xs (x3 + (1 : Int32)).toNatClampNeg), .int (xs (x3 + (2 : Int32)).toNatClampNeg), .int (xs (x3 + (3 : Int32)).toNatClampNeg), .int (xs (x3 + (4 : Int32)).toNatClampNeg), .int (xs (x3 + (5 : Int32)).toNatClampNeg)] d_L_law_299 mi_M_feed wd_1540 wd_1541 wd_1542 (by decide) (el_M (show ay_sh 30 = _ from rfl)) rfl rfl (by omega) rfl rfl (Nat.le_of_ble_eq_true rfl) ?_
  refine Call.post ?_ (cf_M_feed_ok (by omega) (xs (x3 + (1 : Int32)).toNatClampNeg) (xs (x3 + (2 : Int32)).toNatClampNeg) (xs (x3 + (3 : Int32)).toNatClampNeg) (xs (x3 + (4 : Int32)).toNatClampNeg) (xs (x3 + (5 : Int32)).toNatClampNeg)  w2 _ h)
  rintro _ w4 ⟨r3, rfl, h⟩
  show wp g (ay_Xs g b L xs) y_L_law code 4 ret d 302 [(0, .ref b), (1, .ref (g.1 + 0)), (2, .ref (g.1 + 30)), (3, .int x3)] [.int r3, .int r1] w4 Q
  refine am_icmp_eq (tgt := 2068) d_L_law_302 (by decide) (fun c302 => ?_) (fun c302 => ?_)
  · have h := h.1 c302
    obtain ⟨v5, ev5⟩ : ∃ z : Int32, z = x3 + (6 : Int32) := ⟨_, rfl⟩
    have h := h v5 ev5
    refine am_iinc (v := v5) (l' := [(3, .int v5), (0, .ref b), (1, .ref (g.1 + 0)), (2, .ref (g.1 + 30))]) d_L_law_2068 3 rfl (by rw [ev5]; rfl) (by decide) rfl ?_
    refine am_goto (tgt := 18) d_L_law_2071 (by decide) ?_
    refine am_sub [1, 2, 3, 0] rfl ?_
    exact hK18 v5 w4 h
  · have h := h.2 c302
    refine am_iconst (v := 0) d_L_law_305 rfl ?_
    exact am_ireturn d_L_law_306 rfl rfl (hQ (0 : Int32) w4 h)
theorem cf_L_law_B307_ok {g : ayG} {d : Nat} (hd : 164 ≤ d) (b : Nat) (L : Nat) (xs : Nat → Int32)  (w : Wd) (K18 : Int32 → Wd → Prop) (P : Int32 → Wd → Prop) (Q : Option Value → Wd → Prop) (hQ : ∀ x w2, P x w2 → Q (some (.int x)) w2) (hK18 : ∀ (x3 : Int32) (w : Wd), (K18 x3 w → wp g (ay_Xs g b L xs) y_L_law code 4 ret d 18 [(0, .ref b), (1, .ref (g.1 + 0)), (2, .ref (g.1 + 30)), (3, .int x3)] [] w Q)) (x3 : Int32) (h : cf_L_law_B307 b L xs K18 P x3 w) : wp g (ay_Xs g b L xs) y_L_law code 4 ret d 307 [(0, .ref b), (1, .ref (g.1 + 0)), (2, .ref (g.1 + 30)), (3, .int x3)] [] w Q := by
  unfold cf_L_law_B307 at h
  refine am_aload_n d_L_law_307 1 rfl ?_
  refine am_aload_n d_L_law_308 0 rfl ?_
  refine am_iload_n d_L_law_309 3 rfl ?_
  refine am_iconst (v := 1) d_L_law_310 rfl ?_
  refine am_iadd d_L_law_311 ?_
  have hi312 := h.1
  have h := h.2
  refine am_sld d_L_law_312 hi312 ?_
  refine am_callV (C := "TriSplits") (d2 := d - 1) [.int (xs (x3 + (1 : Int32)).toNatClampNeg)] d_L_law_313 mi_T_end wd_242 wd_243 wd_244 (by decide) (el_T (show ay_sh 0 = _ from rfl)) rfl rfl (by omega) rfl rfl (Nat.le_of_ble_eq_true rfl) ?_
  refine Call.post ?_ (cf_T_end_ok (by omega) (xs (x3 + (1 : Int32)).toNatClampNeg)  w _ h)
  rintro _ w7 ⟨r6, rfl, h⟩
  show wp g (ay_Xs g b L xs) y_L_law code 4 ret d 316 [(0, .ref b), (1, .ref (g.1 + 0)), (2, .ref (g.1 + 30)), (3, .int x3)] [.int r6] w7 Q
  refine am_aload_n d_L_law_316 2 rfl ?_
  refine am_aload_n d_L_law_317 0 rfl ?_
  refine am_iload_n d_L_law_318 3 rfl ?_
  refine am_iconst (v := 1) d_L_law_319 rfl ?_
  refine am_iadd d_L_law_320 ?_
  have hi321 := h.1
  have h := h.2
  refine am_sld d_L_law_321 hi321 ?_
  refine am_callV (C := "TriSplitsModel") (d2 := d - 1) [.int (xs (x3 + (1 : Int32)).toNatClampNeg)] d_L_law_322 mi_M_end wd_1548 wd_1549 wd_1550 (by decide) (el_M (show ay_sh 30 = _ from rfl)) rfl rfl (by omega) rfl rfl (Nat.le_of_ble_eq_true rfl) ?_
  refine Call.post ?_ (cf_M_end_ok (by omega) (xs (x3 + (1 : Int32)).toNatClampNeg)  w7 _ h)
  rintro _ w9 ⟨r8, rfl, h⟩
  show wp g (ay_Xs g b L xs) y_L_law code 4 ret d 325 [(0, .ref b), (1, .ref (g.1 + 0)), (2, .ref (g.1 + 30)), (3, .int x3)] [.int r8, .int r6] w9 Q
  refine am_icmp_eq (tgt := 2068) d_L_law_325 (by decide) (fun c325 => ?_) (fun c325 => ?_)
  · have h := h.1 c325
    obtain ⟨v10, ev10⟩ : ∃ z : Int32, z = x3 + (6 : Int32) := ⟨_, rfl⟩
    have h := h v10 ev10
    refine am_iinc (v := v10) (l' := [(3, .int v10), (0, .ref b), (1, .ref (g.1 + 0)), (2, .ref (g.1 + 30))]) d_L_law_2068 3 rfl (by rw [ev10]; rfl) (by decide) rfl ?_
    refine am_goto (tgt := 18) d_L_law_2071 (by decide) ?_
    refine am_sub [1, 2, 3, 0] rfl ?_
    exact hK18 v10 w9 h
  · have h := h.2 c325
    refine am_iconst (v := 0) d_L_law_328 rfl ?_
    exact am_ireturn d_L_law_329 rfl rfl (hQ (0 : Int32) w9 h)
theorem cf_L_law_B330_ok {g : ayG} {d : Nat} (hd : 164 ≤ d) (b : Nat) (L : Nat) (xs : Nat → Int32)  (w : Wd) (K18 : Int32 → Wd → Prop) (P : Int32 → Wd → Prop) (Q : Option Value → Wd → Prop) (hQ : ∀ x w2, P x w2 → Q (some (.int x)) w2) (hK18 : ∀ (x3 : Int32) (w : Wd), (K18 x3 w → wp g (ay_Xs g b L xs) y_L_law code 4 ret d 18 [(0, .ref b), (1, .ref (g.1 + 0)), (2, .ref (g.1 + 30)), (3, .int x3)] [] w Q)) (x3 : Int32) (h : cf_L_law_B330 b L xs K18 P x3 w) : wp g (ay_Xs g b L xs) y_L_law code 4 ret d 330 [(0, .ref b), (1, .ref (g.1 + 0)), (2, .ref (g.1 + 30)), (3, .int x3)] [] w Q := by
  unfold cf_L_law_B330 at h
  refine am_aload_n d_L_law_330 1 rfl ?_
  refine am_callV (C := "TriSplits") (d2 := d - 1) [] d_L_law_331 mi_T_run wd_250 wd_251 wd_252 (by decide) (el_T (show ay_sh 0 = _ from rfl)) rfl rfl (by omega) rfl rfl (Nat.le_of_ble_eq_true rfl) ?_
  refine Call.post ?_ (cf_T_run_ok (by omega)   w _ h)
  rintro _ w12 ⟨r11, rfl, h⟩
  show wp g (ay_Xs g b L xs) y_L_law code 4 ret d 334 [(0, .ref b), (1, .ref (g.1 + 0)), (2, .ref (g.1 + 30)), (3, .int x3)] [.int r11] w12 Q
  refine am_aload_n d_L_law_334 2 rfl ?_
  refine am_callV (C := "TriSplitsModel") (d2 := d - 1) [] d_L_law_335 mi_M_run wd_1552 wd_1553 wd_1554 (by decide) (el_M (show ay_sh 30 = _ from rfl)) rfl rfl (by omega) rfl rfl (Nat.le_of_ble_eq_true rfl) ?_
  refine Call.post ?_ (cf_M_run_ok (by omega)   w12 _ h)
  rintro _ w14 ⟨r13, rfl, h⟩
  show wp g (ay_Xs g b L xs) y_L_law code 4 ret d 338 [(0, .ref b), (1, .ref (g.1 + 0)), (2, .ref (g.1 + 30)), (3, .int x3)] [.int r13, .int r11] w14 Q
  refine am_icmp_eq (tgt := 2068) d_L_law_338 (by decide) (fun c338 => ?_) (fun c338 => ?_)
  · have h := h.1 c338
    obtain ⟨v15, ev15⟩ : ∃ z : Int32, z = x3 + (6 : Int32) := ⟨_, rfl⟩
    have h := h v15 ev15
    refine am_iinc (v := v15) (l' := [(3, .int v15), (0, .ref b), (1, .ref (g.1 + 0)), (2, .ref (g.1 + 30))]) d_L_law_2068 3 rfl (by rw [ev15]; rfl) (by decide) rfl ?_
    refine am_goto (tgt := 18) d_L_law_2071 (by decide) ?_
    refine am_sub [1, 2, 3, 0] rfl ?_
    exact hK18 v15 w14 h
  · have h := h.2 c338
    refine am_iconst (v := 0) d_L_law_341 rfl ?_
    exact am_ireturn d_L_law_342 rfl rfl (hQ (0 : Int32) w14 h)
theorem cf_L_law_B343_ok {g : ayG} {d : Nat} (hd : 164 ≤ d) (b : Nat) (L : Nat) (xs : Nat → Int32)  (w : Wd) (K18 : Int32 → Wd → Prop) (P : Int32 → Wd → Prop) (Q : Option Value → Wd → Prop) (hQ : ∀ x w2, P x w2 → Q (some (.int x)) w2) (hK18 : ∀ (x3 : Int32) (w : Wd), (K18 x3 w → wp g (ay_Xs g b L xs) y_L_law code 4 ret d 18 [(0, .ref b), (1, .ref (g.1 + 0)), (2, .ref (g.1 + 30)), (3, .int x3)] [] w Q)) (x3 : Int32) (h : cf_L_law_B343 b L xs K18 P x3 w) : wp g (ay_Xs g b L xs) y_L_law code 4 ret d 343 [(0, .ref b), (1, .ref (g.1 + 0)), (2, .ref (g.1 + 30)), (3, .int x3)] [] w Q := by
  unfold cf_L_law_B343 at h
  refine am_aload_n d_L_law_343 1 rfl ?_
  refine am_aload_n d_L_law_344 0 rfl ?_
  refine am_iload_n d_L_law_345 3 rfl ?_
  refine am_iconst (v := 1) d_L_law_346 rfl ?_
  refine am_iadd d_L_law_347 ?_
  have hi348 := h.1
  have h := h.2
  refine am_sld d_L_law_348 hi348 ?_
  refine am_callV (C := "TriSplits") (d2 := d - 1) [.int (xs (x3 + (1 : Int32)).toNatClampNeg)] d_L_law_349 mi_T_fault wd_437 wd_438 wd_439 (by decide) (el_T (show ay_sh 0 = _ from rfl)) rfl rfl (by omega) rfl rfl (Nat.le_of_ble_eq_true rfl) ?_
  refine Call.post ?_ (cf_T_fault_ok (by omega) (xs (x3 + (1 : Int32)).toNatClampNeg)  w _ h)
  rintro _ _ ⟨r16, rfl, rfl, h⟩
  show wp g (ay_Xs g b L xs) y_L_law code 4 ret d 352 [(0, .ref b), (1, .ref (g.1 + 0)), (2, .ref (g.1 + 30)), (3, .int x3)] [.int r16] w Q
  refine am_aload_n d_L_law_352 2 rfl ?_
  refine am_aload_n d_L_law_353 0 rfl ?_
  refine am_iload_n d_L_law_354 3 rfl ?_
  refine am_iconst (v := 1) d_L_law_355 rfl ?_
  refine am_iadd d_L_law_356 ?_
  have hi357 := h.1
  have h := h.2
  refine am_sld d_L_law_357 hi357 ?_
  refine am_callV (C := "TriSplitsModel") (d2 := d - 1) [.int (xs (x3 + (1 : Int32)).toNatClampNeg)] d_L_law_358 mi_M_fault wd_1653 wd_1654 wd_1655 (by decide) (el_M (show ay_sh 30 = _ from rfl)) rfl rfl (by omega) rfl rfl (Nat.le_of_ble_eq_true rfl) ?_
  refine Call.post ?_ (cf_M_fault_ok (by omega) (xs (x3 + (1 : Int32)).toNatClampNeg)  w _ h)
  rintro _ _ ⟨r17, rfl, rfl, h⟩
  show wp g (ay_Xs g b L xs) y_L_law code 4 ret d 361 [(0, .ref b), (1, .ref (g.1 + 0)), (2, .ref (g.1 + 30)), (3, .int x3)] [.int r17, .int r16] w Q
  refine am_icmp_eq (tgt := 2068) d_L_law_361 (by decide) (fun c361 => ?_) (fun c361 => ?_)
  · have h := h.1 c361
    obtain ⟨v18, ev18⟩ : ∃ z : Int32, z = x3 + (6 : Int32) := ⟨_, rfl⟩
    have h := h v18 ev18
    refine am_iinc (v := v18) (l' := [(3, .int v18), (0, .ref b), (1, .ref (g.1 + 0)), (2, .ref (g.1 + 30))]) d_L_law_2068 3 rfl (by rw [ev18]; rfl) (by decide) rfl ?_
    refine am_goto (tgt := 18) d_L_law_2071 (by decide) ?_
    refine am_sub [1, 2, 3, 0] rfl ?_
    exact hK18 v18 w h
  · have h := h.2 c361
    refine am_iconst (v := 0) d_L_law_364 rfl ?_
    exact am_ireturn d_L_law_365 rfl rfl (hQ (0 : Int32) w h)
theorem cf_L_law_B366_ok {g : ayG} {d : Nat} (hd : 164 ≤ d) (b : Nat) (L : Nat) (xs : Nat → Int32)  (w : Wd) (K18 : Int32 → Wd → Prop) (P : Int32 → Wd → Prop) (Q : Option Value → Wd → Prop) (hQ : ∀ x w2, P x w2 → Q (some (.int x)) w2) (hK18 : ∀ (x3 : Int32) (w : Wd), (K18 x3 w → wp g (ay_Xs g b L xs) y_L_law code 4 ret d 18 [(0, .ref b), (1, .ref (g.1 + 0)), (2, .ref (g.1 + 30)), (3, .int x3)] [] w Q)) (x3 : Int32) (h : cf_L_law_B366 b L xs K18 P x3 w) : wp g (ay_Xs g b L xs) y_L_law code 4 ret d 366 [(0, .ref b), (1, .ref (g.1 + 0)), (2, .ref (g.1 + 30)), (3, .int x3)] [] w Q := by
  unfold cf_L_law_B366 at h
  refine am_aload_n d_L_law_366 1 rfl ?_
  refine am_aload_n d_L_law_367 0 rfl ?_
  refine am_iload_n d_L_law_368 3 rfl ?_
  refine am_iconst (v := 1) d_L_law_369 rfl ?_
  refine am_iadd d_L_law_370 ?_
  have hi371 := h.1
  have h := h.2
  refine am_sld d_L_law_371 hi371 ?_
  refine am_aload_n d_L_law_372 0 rfl ?_
  refine am_iload_n d_L_law_373 3 rfl ?_
  refine am_iconst (v := 2) d_L_law_374 rfl ?_
  refine am_iadd d_L_law_375 ?_
  have hi376 := h.1
  have h := h.2
  refine am_sld d_L_law_376 hi376 ?_
  refine am_i2l d_L_law_377 ?_
  refine am_bipush (v := 32) d_L_law_378 rfl ?_
  refine am_lshl d_L_law_380 ?_
  refine am_aload_n d_L_law_381 0 rfl ?_
  refine am_iload_n d_L_law_382 3 rfl ?_
  refine am_iconst (v := 3) d_L_law_383 rfl ?_
  refine am_iadd d_L_law_384 ?_
  have hi385 := h.1
  have h := h.2
  refine am_sld d_L_law_385 hi385 ?_
  refine am_i2l d_L_law_386 ?_
  refine am_ldc2 (v := 4294967295) d_L_law_387 wd_1681 ?_
  refine am_land d_L_law_390 ?_
  refine am_lor d_L_law_391 ?_
  refine am_callV (C := "TriSplits") (d2 := d - 1) [.int (xs (x3 + (1 : Int32)).toNatClampNeg), .long ((lshl ((xs (x3 + (2 : Int32)).toNatClampNeg).toInt64) (32 : Int32)) ||| (((xs (x3 + (3 : Int32)).toNatClampNeg).toInt64) &&& (4294967295 : Int64)))] d_L_law_392 mi_T_put wd_449 wd_450 wd_451 (by decide) (el_T (show ay_sh 0 = _ from rfl)) rfl rfl (by omega) rfl rfl (Nat.le_of_ble_eq_true rfl) ?_
  refine Call.post ?_ (cf_T_put_ok (by omega) (xs (x3 + (1 : Int32)).toNatClampNeg) ((lshl ((xs (x3 + (2 : Int32)).toNatClampNeg).toInt64) (32 : Int32)) ||| (((xs (x3 + (3 : Int32)).toNatClampNeg).toInt64) &&& (4294967295 : Int64)))  w _ h)
  rintro _ w20 ⟨r19, rfl, h⟩
  show wp g (ay_Xs g b L xs) y_L_law code 4 ret d 395 [(0, .ref b), (1, .ref (g.1 + 0)), (2, .ref (g.1 + 30)), (3, .int x3)] [.int r19] w20 Q
  refine am_aload_n d_L_law_395 2 rfl ?_
  refine am_aload_n d_L_law_396 0 rfl ?_
  refine am_iload_n d_L_law_397 3 rfl ?_
  refine am_iconst (v := 1) d_L_law_398 rfl ?_
  refine am_iadd d_L_law_399 ?_
  have hi400 := h.1
  have h := h.2
  refine am_sld d_L_law_400 hi400 ?_
  refine am_aload_n d_L_law_401 0 rfl ?_
  refine am_iload_n d_L_law_402 3 rfl ?_
  refine am_iconst (v := 2) d_L_law_403 rfl ?_
  refine am_iadd d_L_law_404 ?_
  have hi405 := h.1
  have h := h.2
  refine am_sld d_L_law_405 hi405 ?_
  refine am_i2l d_L_law_406 ?_
  refine am_bipush (v := 32) d_L_law_407 rfl ?_
  refine am_lshl d_L_law_409 ?_
  refine am_aload_n d_L_law_410 0 rfl ?_
  refine am_iload_n d_L_law_411 3 rfl ?_
  refine am_iconst (v := 3) d_L_law_412 rfl ?_
  refine am_iadd d_L_law_413 ?_
  have hi414 := h.1
  have h := h.2
  refine am_sld d_L_law_414 hi414 ?_
  refine am_i2l d_L_law_415 ?_
  refine am_ldc2 (v := 4294967295) d_L_law_416 wd_1681 ?_
  refine am_land d_L_law_419 ?_
  refine am_lor d_L_law_420 ?_
  refine am_callV (C := "TriSplitsModel") (d2 := d - 1) [.int (xs (x3 + (1 : Int32)).toNatClampNeg), .long ((lshl ((xs (x3 + (2 : Int32)).toNatClampNeg).toInt64) (32 : Int32)) ||| (((xs (x3 + (3 : Int32)).toNatClampNeg).toInt64) &&& (4294967295 : Int64)))] d_L_law_421 mi_M_put wd_1420 wd_1421 wd_1422 (by decide) (el_M (show ay_sh 30 = _ from rfl)) rfl rfl (by omega) rfl rfl (Nat.le_of_ble_eq_true rfl) ?_
  refine Call.post ?_ (cf_M_put_ok (by omega) (xs (x3 + (1 : Int32)).toNatClampNeg) ((lshl ((xs (x3 + (2 : Int32)).toNatClampNeg).toInt64) (32 : Int32)) ||| (((xs (x3 + (3 : Int32)).toNatClampNeg).toInt64) &&& (4294967295 : Int64)))  w20 _ h)
  rintro _ w22 ⟨r21, rfl, h⟩
  show wp g (ay_Xs g b L xs) y_L_law code 4 ret d 424 [(0, .ref b), (1, .ref (g.1 + 0)), (2, .ref (g.1 + 30)), (3, .int x3)] [.int r21, .int r19] w22 Q
  refine am_icmp_eq (tgt := 2068) d_L_law_424 (by decide) (fun c424 => ?_) (fun c424 => ?_)
  · have h := h.1 c424
    obtain ⟨v23, ev23⟩ : ∃ z : Int32, z = x3 + (6 : Int32) := ⟨_, rfl⟩
    have h := h v23 ev23
    refine am_iinc (v := v23) (l' := [(3, .int v23), (0, .ref b), (1, .ref (g.1 + 0)), (2, .ref (g.1 + 30))]) d_L_law_2068 3 rfl (by rw [ev23]; rfl) (by decide) rfl ?_
    refine am_goto (tgt := 18) d_L_law_2071 (by decide) ?_
    refine am_sub [1, 2, 3, 0] rfl ?_
    exact hK18 v23 w22 h
  · have h := h.2 c424
    refine am_iconst (v := 0) d_L_law_427 rfl ?_
    exact am_ireturn d_L_law_428 rfl rfl (hQ (0 : Int32) w22 h)
theorem cf_L_law_B429_ok {g : ayG} {d : Nat} (hd : 164 ≤ d) (b : Nat) (L : Nat) (xs : Nat → Int32)  (w : Wd) (K18 : Int32 → Wd → Prop) (P : Int32 → Wd → Prop) (Q : Option Value → Wd → Prop) (hQ : ∀ x w2, P x w2 → Q (some (.int x)) w2) (hK18 : ∀ (x3 : Int32) (w : Wd), (K18 x3 w → wp g (ay_Xs g b L xs) y_L_law code 4 ret d 18 [(0, .ref b), (1, .ref (g.1 + 0)), (2, .ref (g.1 + 30)), (3, .int x3)] [] w Q)) (x3 : Int32) (h : cf_L_law_B429 b L xs K18 P x3 w) : wp g (ay_Xs g b L xs) y_L_law code 4 ret d 429 [(0, .ref b), (1, .ref (g.1 + 0)), (2, .ref (g.1 + 30)), (3, .int x3)] [] w Q := by
  unfold cf_L_law_B429 at h
  refine am_aload_n d_L_law_429 1 rfl ?_
  refine am_aload_n d_L_law_430 0 rfl ?_
  refine am_iload_n d_L_law_431 3 rfl ?_
  refine am_iconst (v := 1) d_L_law_432 rfl ?_
  refine am_iadd d_L_law_433 ?_
  have hi434 := h.1
  have h := h.2
  refine am_sld d_L_law_434 hi434 ?_
  refine am_aload_n d_L_law_435 0 rfl ?_
  refine am_iload_n d_L_law_436 3 rfl ?_
  refine am_iconst (v := 2) d_L_law_437 rfl ?_
  refine am_iadd d_L_law_438 ?_
  have hi439 := h.1
  have h := h.2
  refine am_sld d_L_law_439 hi439 ?_
  refine am_aload_n d_L_law_440 0 rfl ?_
  refine am_iload_n d_L_law_441 3 rfl ?_
  refine am_iconst (v := 3) d_L_law_442 rfl ?_
  refine am_iadd d_L_law_443 ?_
  have hi444 := h.1
  have h := h.2
  refine am_sld d_L_law_444 hi444 ?_
  refine am_callV (C := "TriSplits") (d2 := d - 1) [.int (xs (x3 + (1 : Int32)).toNatClampNeg), .int (xs (x3 + (2 : Int32)).toNatClampNeg), .int (xs (x3 + (3 : Int32)).toNatClampNeg)] d_L_law_445 mi_T_add wd_461 wd_462 wd_463 (by decide) (el_T (show ay_sh 0 = _ from rfl)) rfl rfl (by omega) rfl rfl (Nat.le_of_ble_eq_true rfl) ?_
  refine Call.post ?_ (cf_T_add_ok (by omega) (xs (x3 + (1 : Int32)).toNatClampNeg) (xs (x3 + (2 : Int32)).toNatClampNeg) (xs (x3 + (3 : Int32)).toNatClampNeg)  w _ h)
  rintro _ w25 ⟨r24, rfl, h⟩
  show wp g (ay_Xs g b L xs) y_L_law code 4 ret d 448 [(0, .ref b), (1, .ref (g.1 + 0)), (2, .ref (g.1 + 30)), (3, .int x3)] [.int r24] w25 Q
  refine am_aload_n d_L_law_448 2 rfl ?_
  refine am_aload_n d_L_law_449 0 rfl ?_
  refine am_iload_n d_L_law_450 3 rfl ?_
  refine am_iconst (v := 1) d_L_law_451 rfl ?_
  refine am_iadd d_L_law_452 ?_
  have hi453 := h.1
  have h := h.2
  refine am_sld d_L_law_453 hi453 ?_
  refine am_aload_n d_L_law_454 0 rfl ?_
  refine am_iload_n d_L_law_455 3 rfl ?_
  refine am_iconst (v := 2) d_L_law_456 rfl ?_
  refine am_iadd d_L_law_457 ?_
  have hi458 := h.1
  have h := h.2
  refine am_sld d_L_law_458 hi458 ?_
  refine am_aload_n d_L_law_459 0 rfl ?_
  refine am_iload_n d_L_law_460 3 rfl ?_
  refine am_iconst (v := 3) d_L_law_461 rfl ?_
  refine am_iadd d_L_law_462 ?_
  have hi463 := h.1
  have h := h.2
  refine am_sld d_L_law_463 hi463 ?_
  refine am_callV (C := "TriSplitsModel") (d2 := d - 1) [.int (xs (x3 + (1 : Int32)).toNatClampNeg), .int (xs (x3 + (2 : Int32)).toNatClampNeg), .int (xs (x3 + (3 : Int32)).toNatClampNeg)] d_L_law_464 mi_M_add wd_1429 wd_1430 wd_1431 (by decide) (el_M (show ay_sh 30 = _ from rfl)) rfl rfl (by omega) rfl rfl (Nat.le_of_ble_eq_true rfl) ?_
  refine Call.post ?_ (cf_M_add_ok (by omega) (xs (x3 + (1 : Int32)).toNatClampNeg) (xs (x3 + (2 : Int32)).toNatClampNeg) (xs (x3 + (3 : Int32)).toNatClampNeg)  w25 _ h)
  rintro _ w27 ⟨r26, rfl, h⟩
  show wp g (ay_Xs g b L xs) y_L_law code 4 ret d 467 [(0, .ref b), (1, .ref (g.1 + 0)), (2, .ref (g.1 + 30)), (3, .int x3)] [.int r26, .int r24] w27 Q
  refine am_icmp_eq (tgt := 2068) d_L_law_467 (by decide) (fun c467 => ?_) (fun c467 => ?_)
  · have h := h.1 c467
    obtain ⟨v28, ev28⟩ : ∃ z : Int32, z = x3 + (6 : Int32) := ⟨_, rfl⟩
    have h := h v28 ev28
    refine am_iinc (v := v28) (l' := [(3, .int v28), (0, .ref b), (1, .ref (g.1 + 0)), (2, .ref (g.1 + 30))]) d_L_law_2068 3 rfl (by rw [ev28]; rfl) (by decide) rfl ?_
    refine am_goto (tgt := 18) d_L_law_2071 (by decide) ?_
    refine am_sub [1, 2, 3, 0] rfl ?_
    exact hK18 v28 w27 h
  · have h := h.2 c467
    refine am_iconst (v := 0) d_L_law_470 rfl ?_
    exact am_ireturn d_L_law_471 rfl rfl (hQ (0 : Int32) w27 h)
theorem cf_L_law_B472_ok {g : ayG} {d : Nat} (hd : 164 ≤ d) (b : Nat) (L : Nat) (xs : Nat → Int32)  (w : Wd) (K18 : Int32 → Wd → Prop) (P : Int32 → Wd → Prop) (Q : Option Value → Wd → Prop) (hQ : ∀ x w2, P x w2 → Q (some (.int x)) w2) (hK18 : ∀ (x3 : Int32) (w : Wd), (K18 x3 w → wp g (ay_Xs g b L xs) y_L_law code 4 ret d 18 [(0, .ref b), (1, .ref (g.1 + 0)), (2, .ref (g.1 + 30)), (3, .int x3)] [] w Q)) (x3 : Int32) (h : cf_L_law_B472 b L xs K18 P x3 w) : wp g (ay_Xs g b L xs) y_L_law code 4 ret d 472 [(0, .ref b), (1, .ref (g.1 + 0)), (2, .ref (g.1 + 30)), (3, .int x3)] [] w Q := by
  unfold cf_L_law_B472 at h
  refine am_aload_n d_L_law_472 1 rfl ?_
  refine am_aload_n d_L_law_473 0 rfl ?_
  refine am_iload_n d_L_law_474 3 rfl ?_
  refine am_iconst (v := 1) d_L_law_475 rfl ?_
  refine am_iadd d_L_law_476 ?_
  have hi477 := h.1
  have h := h.2
  refine am_sld d_L_law_477 hi477 ?_
  refine am_aload_n d_L_law_478 0 rfl ?_
  refine am_iload_n d_L_law_479 3 rfl ?_
  refine am_iconst (v := 2) d_L_law_480 rfl ?_
  refine am_iadd d_L_law_481 ?_
  have hi482 := h.1
  have h := h.2
  refine am_sld d_L_law_482 hi482 ?_
  refine am_aload_n d_L_law_483 0 rfl ?_
  refine am_iload_n d_L_law_484 3 rfl ?_
  refine am_iconst (v := 3) d_L_law_485 rfl ?_
  refine am_iadd d_L_law_486 ?_
  have hi487 := h.1
  have h := h.2
  refine am_sld d_L_law_487 hi487 ?_
  refine am_callV (C := "TriSplits") (d2 := d - 1) [.int (xs (x3 + (1 : Int32)).toNatClampNeg), .int (xs (x3 + (2 : Int32)).toNatClampNeg), .int (xs (x3 + (3 : Int32)).toNatClampNeg)] d_L_law_488 mi_T_multiply wd_469 wd_470 wd_471 (by decide) (el_T (show ay_sh 0 = _ from rfl)) rfl rfl (by omega) rfl rfl (Nat.le_of_ble_eq_true rfl) ?_
  refine Call.post ?_ (cf_T_multiply_ok (by omega) (xs (x3 + (1 : Int32)).toNatClampNeg) (xs (x3 + (2 : Int32)).toNatClampNeg) (xs (x3 + (3 : Int32)).toNatClampNeg)  w _ h)
  rintro _ w30 ⟨r29, rfl, h⟩
  show wp g (ay_Xs g b L xs) y_L_law code 4 ret d 491 [(0, .ref b), (1, .ref (g.1 + 0)), (2, .ref (g.1 + 30)), (3, .int x3)] [.int r29] w30 Q
  refine am_aload_n d_L_law_491 2 rfl ?_
  refine am_aload_n d_L_law_492 0 rfl ?_
  refine am_iload_n d_L_law_493 3 rfl ?_
  refine am_iconst (v := 1) d_L_law_494 rfl ?_
  refine am_iadd d_L_law_495 ?_
  have hi496 := h.1
  have h := h.2
  refine am_sld d_L_law_496 hi496 ?_
  refine am_aload_n d_L_law_497 0 rfl ?_
  refine am_iload_n d_L_law_498 3 rfl ?_
  refine am_iconst (v := 2) d_L_law_499 rfl ?_
  refine am_iadd d_L_law_500 ?_
  have hi501 := h.1
  have h := h.2
  refine am_sld d_L_law_501 hi501 ?_
  refine am_aload_n d_L_law_502 0 rfl ?_
  refine am_iload_n d_L_law_503 3 rfl ?_
  refine am_iconst (v := 3) d_L_law_504 rfl ?_
  refine am_iadd d_L_law_505 ?_
  have hi506 := h.1
  have h := h.2
  refine am_sld d_L_law_506 hi506 ?_
  refine am_callV (C := "TriSplitsModel") (d2 := d - 1) [.int (xs (x3 + (1 : Int32)).toNatClampNeg), .int (xs (x3 + (2 : Int32)).toNatClampNeg), .int (xs (x3 + (3 : Int32)).toNatClampNeg)] d_L_law_507 mi_M_multiply wd_1436 wd_1437 wd_1438 (by decide) (el_M (show ay_sh 30 = _ from rfl)) rfl rfl (by omega) rfl rfl (Nat.le_of_ble_eq_true rfl) ?_
  refine Call.post ?_ (cf_M_multiply_ok (by omega) (xs (x3 + (1 : Int32)).toNatClampNeg) (xs (x3 + (2 : Int32)).toNatClampNeg) (xs (x3 + (3 : Int32)).toNatClampNeg)  w30 _ h)
  rintro _ w32 ⟨r31, rfl, h⟩
  show wp g (ay_Xs g b L xs) y_L_law code 4 ret d 510 [(0, .ref b), (1, .ref (g.1 + 0)), (2, .ref (g.1 + 30)), (3, .int x3)] [.int r31, .int r29] w32 Q
  refine am_icmp_eq (tgt := 2068) d_L_law_510 (by decide) (fun c510 => ?_) (fun c510 => ?_)
  · have h := h.1 c510
    obtain ⟨v33, ev33⟩ : ∃ z : Int32, z = x3 + (6 : Int32) := ⟨_, rfl⟩
    have h := h v33 ev33
    refine am_iinc (v := v33) (l' := [(3, .int v33), (0, .ref b), (1, .ref (g.1 + 0)), (2, .ref (g.1 + 30))]) d_L_law_2068 3 rfl (by rw [ev33]; rfl) (by decide) rfl ?_
    refine am_goto (tgt := 18) d_L_law_2071 (by decide) ?_
    refine am_sub [1, 2, 3, 0] rfl ?_
    exact hK18 v33 w32 h
  · have h := h.2 c510
    refine am_iconst (v := 0) d_L_law_513 rfl ?_
    exact am_ireturn d_L_law_514 rfl rfl (hQ (0 : Int32) w32 h)
theorem cf_L_law_B515_ok {g : ayG} {d : Nat} (hd : 164 ≤ d) (b : Nat) (L : Nat) (xs : Nat → Int32)  (w : Wd) (K18 : Int32 → Wd → Prop) (P : Int32 → Wd → Prop) (Q : Option Value → Wd → Prop) (hQ : ∀ x w2, P x w2 → Q (some (.int x)) w2) (hK18 : ∀ (x3 : Int32) (w : Wd), (K18 x3 w → wp g (ay_Xs g b L xs) y_L_law code 4 ret d 18 [(0, .ref b), (1, .ref (g.1 + 0)), (2, .ref (g.1 + 30)), (3, .int x3)] [] w Q)) (x3 : Int32) (h : cf_L_law_B515 b L xs K18 P x3 w) : wp g (ay_Xs g b L xs) y_L_law code 4 ret d 515 [(0, .ref b), (1, .ref (g.1 + 0)), (2, .ref (g.1 + 30)), (3, .int x3)] [] w Q := by
  unfold cf_L_law_B515 at h
  refine am_aload_n d_L_law_515 1 rfl ?_
  refine am_aload_n d_L_law_516 0 rfl ?_
  refine am_iload_n d_L_law_517 3 rfl ?_
  refine am_iconst (v := 1) d_L_law_518 rfl ?_
  refine am_iadd d_L_law_519 ?_
  have hi520 := h.1
  have h := h.2
  refine am_sld d_L_law_520 hi520 ?_
  refine am_aload_n d_L_law_521 0 rfl ?_
  refine am_iload_n d_L_law_522 3 rfl ?_
  refine am_iconst (v := 2) d_L_law_523 rfl ?_
  refine am_iadd d_L_law_524 ?_
  have hi525 := h.1
  have h := h.2
  refine am_sld d_L_law_525 hi525 ?_
  refine am_aload_n d_L_law_526 0 rfl ?_
  refine am_iload_n d_L_law_527 3 rfl ?_
  refine am_iconst (v := 3) d_L_law_528 rfl ?_
  refine am_iadd d_L_law_529 ?_
  have hi530 := h.1
  have h := h.2
  refine am_sld d_L_law_530 hi530 ?_
  refine am_callV (C := "TriSplits") (d2 := d - 1) [.int (xs (x3 + (1 : Int32)).toNatClampNeg), .int (xs (x3 + (2 : Int32)).toNatClampNeg), .int (xs (x3 + (3 : Int32)).toNatClampNeg)] d_L_law_531 mi_T_divide wd_474 wd_475 wd_476 (by decide) (el_T (show ay_sh 0 = _ from rfl)) rfl rfl (by omega) rfl rfl (Nat.le_of_ble_eq_true rfl) ?_
  refine Call.post ?_ (cf_T_divide_ok (by omega) (xs (x3 + (1 : Int32)).toNatClampNeg) (xs (x3 + (2 : Int32)).toNatClampNeg) (xs (x3 + (3 : Int32)).toNatClampNeg)  w _ h)
  rintro _ w35 ⟨r34, rfl, h⟩
  show wp g (ay_Xs g b L xs) y_L_law code 4 ret d 534 [(0, .ref b), (1, .ref (g.1 + 0)), (2, .ref (g.1 + 30)), (3, .int x3)] [.int r34] w35 Q
  refine am_aload_n d_L_law_534 2 rfl ?_
  refine am_aload_n d_L_law_535 0 rfl ?_
  refine am_iload_n d_L_law_536 3 rfl ?_
  refine am_iconst (v := 1) d_L_law_537 rfl ?_
  refine am_iadd d_L_law_538 ?_
  have hi539 := h.1
  have h := h.2
  refine am_sld d_L_law_539 hi539 ?_
  refine am_aload_n d_L_law_540 0 rfl ?_
  refine am_iload_n d_L_law_541 3 rfl ?_
  refine am_iconst (v := 2) d_L_law_542 rfl ?_
  refine am_iadd d_L_law_543 ?_
  have hi544 := h.1
  have h := h.2
  refine am_sld d_L_law_544 hi544 ?_
  refine am_aload_n d_L_law_545 0 rfl ?_
  refine am_iload_n d_L_law_546 3 rfl ?_
  refine am_iconst (v := 3) d_L_law_547 rfl ?_
  refine am_iadd d_L_law_548 ?_
  have hi549 := h.1
  have h := h.2
  refine am_sld d_L_law_549 hi549 ?_
  refine am_callV (C := "TriSplitsModel") (d2 := d - 1) [.int (xs (x3 + (1 : Int32)).toNatClampNeg), .int (xs (x3 + (2 : Int32)).toNatClampNeg), .int (xs (x3 + (3 : Int32)).toNatClampNeg)] d_L_law_550 mi_M_divide wd_1440 wd_1441 wd_1442 (by decide) (el_M (show ay_sh 30 = _ from rfl)) rfl rfl (by omega) rfl rfl (Nat.le_of_ble_eq_true rfl) ?_
  refine Call.post ?_ (cf_M_divide_ok (by omega) (xs (x3 + (1 : Int32)).toNatClampNeg) (xs (x3 + (2 : Int32)).toNatClampNeg) (xs (x3 + (3 : Int32)).toNatClampNeg)  w35 _ h)
  rintro _ w37 ⟨r36, rfl, h⟩
  show wp g (ay_Xs g b L xs) y_L_law code 4 ret d 553 [(0, .ref b), (1, .ref (g.1 + 0)), (2, .ref (g.1 + 30)), (3, .int x3)] [.int r36, .int r34] w37 Q
  refine am_icmp_eq (tgt := 2068) d_L_law_553 (by decide) (fun c553 => ?_) (fun c553 => ?_)
  · have h := h.1 c553
    obtain ⟨v38, ev38⟩ : ∃ z : Int32, z = x3 + (6 : Int32) := ⟨_, rfl⟩
    have h := h v38 ev38
    refine am_iinc (v := v38) (l' := [(3, .int v38), (0, .ref b), (1, .ref (g.1 + 0)), (2, .ref (g.1 + 30))]) d_L_law_2068 3 rfl (by rw [ev38]; rfl) (by decide) rfl ?_
    refine am_goto (tgt := 18) d_L_law_2071 (by decide) ?_
    refine am_sub [1, 2, 3, 0] rfl ?_
    exact hK18 v38 w37 h
  · have h := h.2 c553
    refine am_iconst (v := 0) d_L_law_556 rfl ?_
    exact am_ireturn d_L_law_557 rfl rfl (hQ (0 : Int32) w37 h)
theorem cf_L_law_B558_ok {g : ayG} {d : Nat} (hd : 164 ≤ d) (b : Nat) (L : Nat) (xs : Nat → Int32)  (w : Wd) (K18 : Int32 → Wd → Prop) (P : Int32 → Wd → Prop) (Q : Option Value → Wd → Prop) (hQ : ∀ x w2, P x w2 → Q (some (.int x)) w2) (hK18 : ∀ (x3 : Int32) (w : Wd), (K18 x3 w → wp g (ay_Xs g b L xs) y_L_law code 4 ret d 18 [(0, .ref b), (1, .ref (g.1 + 0)), (2, .ref (g.1 + 30)), (3, .int x3)] [] w Q)) (x3 : Int32) (h : cf_L_law_B558 b L xs K18 P x3 w) : wp g (ay_Xs g b L xs) y_L_law code 4 ret d 558 [(0, .ref b), (1, .ref (g.1 + 0)), (2, .ref (g.1 + 30)), (3, .int x3)] [] w Q := by
  unfold cf_L_law_B558 at h
  refine am_aload_n d_L_law_558 1 rfl ?_
  refine am_aload_n d_L_law_559 0 rfl ?_
  refine am_iload_n d_L_law_560 3 rfl ?_
  refine am_iconst (v := 1) d_L_law_561 rfl ?_
  refine am_iadd d_L_law_562 ?_
  have hi563 := h.1
  have h := h.2
  refine am_sld d_L_law_563 hi563 ?_
  refine am_aload_n d_L_law_564 0 rfl ?_
  refine am_iload_n d_L_law_565 3 rfl ?_
  refine am_iconst (v := 2) d_L_law_566 rfl ?_
  refine am_iadd d_L_law_567 ?_
  have hi568 := h.1
  have h := h.2
  refine am_sld d_L_law_568 hi568 ?_
  refine am_aload_n d_L_law_569 0 rfl ?_
  refine am_iload_n d_L_law_570 3 rfl ?_
  refine am_iconst (v := 3) d_L_law_571 rfl ?_
  refine am_iadd d_L_law_572 ?_
  have hi573 := h.1
  have h := h.2
  refine am_sld d_L_law_573 hi573 ?_
  refine am_callV (C := "TriSplits") (d2 := d - 1) [.int (xs (x3 + (1 : Int32)).toNatClampNeg), .int (xs (x3 + (2 : Int32)).toNatClampNeg), .int (xs (x3 + (3 : Int32)).toNatClampNeg)] d_L_law_574 mi_T_rest wd_481 wd_482 wd_483 (by decide) (el_T (show ay_sh 0 = _ from rfl)) rfl rfl (by omega) rfl rfl (Nat.le_of_ble_eq_true rfl) ?_
  refine Call.post ?_ (cf_T_rest_ok (by omega) (xs (x3 + (1 : Int32)).toNatClampNeg) (xs (x3 + (2 : Int32)).toNatClampNeg) (xs (x3 + (3 : Int32)).toNatClampNeg)  w _ h)
  rintro _ w40 ⟨r39, rfl, h⟩
  show wp g (ay_Xs g b L xs) y_L_law code 4 ret d 577 [(0, .ref b), (1, .ref (g.1 + 0)), (2, .ref (g.1 + 30)), (3, .int x3)] [.int r39] w40 Q
  refine am_aload_n d_L_law_577 2 rfl ?_
  refine am_aload_n d_L_law_578 0 rfl ?_
  refine am_iload_n d_L_law_579 3 rfl ?_
  refine am_iconst (v := 1) d_L_law_580 rfl ?_
  refine am_iadd d_L_law_581 ?_
  have hi582 := h.1
  have h := h.2
  refine am_sld d_L_law_582 hi582 ?_
  refine am_aload_n d_L_law_583 0 rfl ?_
  refine am_iload_n d_L_law_584 3 rfl ?_
  refine am_iconst (v := 2) d_L_law_585 rfl ?_
  refine am_iadd d_L_law_586 ?_
  have hi587 := h.1
  have h := h.2
  refine am_sld d_L_law_587 hi587 ?_
  refine am_aload_n d_L_law_588 0 rfl ?_
  refine am_iload_n d_L_law_589 3 rfl ?_
  refine am_iconst (v := 3) d_L_law_590 rfl ?_
  refine am_iadd d_L_law_591 ?_
  have hi592 := h.1
  have h := h.2
  refine am_sld d_L_law_592 hi592 ?_
  refine am_callV (C := "TriSplitsModel") (d2 := d - 1) [.int (xs (x3 + (1 : Int32)).toNatClampNeg), .int (xs (x3 + (2 : Int32)).toNatClampNeg), .int (xs (x3 + (3 : Int32)).toNatClampNeg)] d_L_law_593 mi_M_rest wd_1444 wd_1445 wd_1446 (by decide) (el_M (show ay_sh 30 = _ from rfl)) rfl rfl (by omega) rfl rfl (Nat.le_of_ble_eq_true rfl) ?_
  refine Call.post ?_ (cf_M_rest_ok (by omega) (xs (x3 + (1 : Int32)).toNatClampNeg) (xs (x3 + (2 : Int32)).toNatClampNeg) (xs (x3 + (3 : Int32)).toNatClampNeg)  w40 _ h)
  rintro _ w42 ⟨r41, rfl, h⟩
  show wp g (ay_Xs g b L xs) y_L_law code 4 ret d 596 [(0, .ref b), (1, .ref (g.1 + 0)), (2, .ref (g.1 + 30)), (3, .int x3)] [.int r41, .int r39] w42 Q
  refine am_icmp_eq (tgt := 2068) d_L_law_596 (by decide) (fun c596 => ?_) (fun c596 => ?_)
  · have h := h.1 c596
    obtain ⟨v43, ev43⟩ : ∃ z : Int32, z = x3 + (6 : Int32) := ⟨_, rfl⟩
    have h := h v43 ev43
    refine am_iinc (v := v43) (l' := [(3, .int v43), (0, .ref b), (1, .ref (g.1 + 0)), (2, .ref (g.1 + 30))]) d_L_law_2068 3 rfl (by rw [ev43]; rfl) (by decide) rfl ?_
    refine am_goto (tgt := 18) d_L_law_2071 (by decide) ?_
    refine am_sub [1, 2, 3, 0] rfl ?_
    exact hK18 v43 w42 h
  · have h := h.2 c596
    refine am_iconst (v := 0) d_L_law_599 rfl ?_
    exact am_ireturn d_L_law_600 rfl rfl (hQ (0 : Int32) w42 h)
theorem cf_L_law_B601_ok {g : ayG} {d : Nat} (hd : 164 ≤ d) (b : Nat) (L : Nat) (xs : Nat → Int32)  (w : Wd) (K18 : Int32 → Wd → Prop) (P : Int32 → Wd → Prop) (Q : Option Value → Wd → Prop) (hQ : ∀ x w2, P x w2 → Q (some (.int x)) w2) (hK18 : ∀ (x3 : Int32) (w : Wd), (K18 x3 w → wp g (ay_Xs g b L xs) y_L_law code 4 ret d 18 [(0, .ref b), (1, .ref (g.1 + 0)), (2, .ref (g.1 + 30)), (3, .int x3)] [] w Q)) (x3 : Int32) (h : cf_L_law_B601 b L xs K18 P x3 w) : wp g (ay_Xs g b L xs) y_L_law code 4 ret d 601 [(0, .ref b), (1, .ref (g.1 + 0)), (2, .ref (g.1 + 30)), (3, .int x3)] [] w Q := by
  unfold cf_L_law_B601 at h
  refine am_aload_n d_L_law_601 1 rfl ?_
  refine am_aload_n d_L_law_602 0 rfl ?_
  refine am_iload_n d_L_law_603 3 rfl ?_
  refine am_iconst (v := 1) d_L_law_604 rfl ?_
  refine am_iadd d_L_law_605 ?_
  have hi606 := h.1
  have h := h.2
  refine am_sld d_L_law_606 hi606 ?_
  refine am_aload_n d_L_law_607 0 rfl ?_
  refine am_iload_n d_L_law_608 3 rfl ?_
  refine am_iconst (v := 2) d_L_law_609 rfl ?_
  refine am_iadd d_L_law_610 ?_
  have hi611 := h.1
  have h := h.2
  refine am_sld d_L_law_611 hi611 ?_
  refine am_aload_n d_L_law_612 0 rfl ?_
  refine am_iload_n d_L_law_613 3 rfl ?_
  refine am_iconst (v := 3) d_L_law_614 rfl ?_
  refine am_iadd d_L_law_615 ?_
  have hi616 := h.1
  have h := h.2
  refine am_sld d_L_law_616 hi616 ?_
  refine am_callV (C := "TriSplits") (d2 := d - 1) [.int (xs (x3 + (1 : Int32)).toNatClampNeg), .int (xs (x3 + (2 : Int32)).toNatClampNeg), .int (xs (x3 + (3 : Int32)).toNatClampNeg)] d_L_law_617 mi_T_common wd_488 wd_489 wd_490 (by decide) (el_T (show ay_sh 0 = _ from rfl)) rfl rfl (by omega) rfl rfl (Nat.le_of_ble_eq_true rfl) ?_
  refine Call.post ?_ (cf_T_common_ok (by omega) (xs (x3 + (1 : Int32)).toNatClampNeg) (xs (x3 + (2 : Int32)).toNatClampNeg) (xs (x3 + (3 : Int32)).toNatClampNeg)  w _ h)
  rintro _ w45 ⟨r44, rfl, h⟩
  show wp g (ay_Xs g b L xs) y_L_law code 4 ret d 620 [(0, .ref b), (1, .ref (g.1 + 0)), (2, .ref (g.1 + 30)), (3, .int x3)] [.int r44] w45 Q
  refine am_aload_n d_L_law_620 2 rfl ?_
  refine am_aload_n d_L_law_621 0 rfl ?_
  refine am_iload_n d_L_law_622 3 rfl ?_
  refine am_iconst (v := 1) d_L_law_623 rfl ?_
  refine am_iadd d_L_law_624 ?_
  have hi625 := h.1
  have h := h.2
  refine am_sld d_L_law_625 hi625 ?_
  refine am_aload_n d_L_law_626 0 rfl ?_
  refine am_iload_n d_L_law_627 3 rfl ?_
  refine am_iconst (v := 2) d_L_law_628 rfl ?_
  refine am_iadd d_L_law_629 ?_
  have hi630 := h.1
  have h := h.2
  refine am_sld d_L_law_630 hi630 ?_
  refine am_aload_n d_L_law_631 0 rfl ?_
  refine am_iload_n d_L_law_632 3 rfl ?_
  refine am_iconst (v := 3) d_L_law_633 rfl ?_
  refine am_iadd d_L_law_634 ?_
  have hi635 := h.1
  have h := h.2
  refine am_sld d_L_law_635 hi635 ?_
  refine am_callV (C := "TriSplitsModel") (d2 := d - 1) [.int (xs (x3 + (1 : Int32)).toNatClampNeg), .int (xs (x3 + (2 : Int32)).toNatClampNeg), .int (xs (x3 + (3 : Int32)).toNatClampNeg)] d_L_law_636 mi_M_common wd_1448 wd_1449 wd_1450 (by decide) (el_M (show ay_sh 30 = _ from rfl)) rfl rfl (by omega) rfl rfl (Nat.le_of_ble_eq_true rfl) ?_
  refine Call.post ?_ (cf_M_common_ok (by omega) (xs (x3 + (1 : Int32)).toNatClampNeg) (xs (x3 + (2 : Int32)).toNatClampNeg) (xs (x3 + (3 : Int32)).toNatClampNeg)  w45 _ h)
  rintro _ w47 ⟨r46, rfl, h⟩
  show wp g (ay_Xs g b L xs) y_L_law code 4 ret d 639 [(0, .ref b), (1, .ref (g.1 + 0)), (2, .ref (g.1 + 30)), (3, .int x3)] [.int r46, .int r44] w47 Q
  refine am_icmp_eq (tgt := 2068) d_L_law_639 (by decide) (fun c639 => ?_) (fun c639 => ?_)
  · have h := h.1 c639
    obtain ⟨v48, ev48⟩ : ∃ z : Int32, z = x3 + (6 : Int32) := ⟨_, rfl⟩
    have h := h v48 ev48
    refine am_iinc (v := v48) (l' := [(3, .int v48), (0, .ref b), (1, .ref (g.1 + 0)), (2, .ref (g.1 + 30))]) d_L_law_2068 3 rfl (by rw [ev48]; rfl) (by decide) rfl ?_
    refine am_goto (tgt := 18) d_L_law_2071 (by decide) ?_
    refine am_sub [1, 2, 3, 0] rfl ?_
    exact hK18 v48 w47 h
  · have h := h.2 c639
    refine am_iconst (v := 0) d_L_law_642 rfl ?_
    exact am_ireturn d_L_law_643 rfl rfl (hQ (0 : Int32) w47 h)
theorem cf_L_law_B644_ok {g : ayG} {d : Nat} (hd : 164 ≤ d) (b : Nat) (L : Nat) (xs : Nat → Int32)  (w : Wd) (K18 : Int32 → Wd → Prop) (P : Int32 → Wd → Prop) (Q : Option Value → Wd → Prop) (hQ : ∀ x w2, P x w2 → Q (some (.int x)) w2) (hK18 : ∀ (x3 : Int32) (w : Wd), (K18 x3 w → wp g (ay_Xs g b L xs) y_L_law code 4 ret d 18 [(0, .ref b), (1, .ref (g.1 + 0)), (2, .ref (g.1 + 30)), (3, .int x3)] [] w Q)) (x3 : Int32) (h : cf_L_law_B644 b L xs K18 P x3 w) : wp g (ay_Xs g b L xs) y_L_law code 4 ret d 644 [(0, .ref b), (1, .ref (g.1 + 0)), (2, .ref (g.1 + 30)), (3, .int x3)] [] w Q := by
  unfold cf_L_law_B644 at h
  refine am_aload_n d_L_law_644 1 rfl ?_
  refine am_aload_n d_L_law_645 0 rfl ?_
  refine am_iload_n d_L_law_646 3 rfl ?_
  refine am_iconst (v := 1) d_L_law_647 rfl ?_
  refine am_iadd d_L_law_648 ?_
  have hi649 := h.1
  have h := h.2
  refine am_sld d_L_law_649 hi649 ?_
  refine am_aload_n d_L_law_650 0 rfl ?_
  refine am_iload_n d_L_law_651 3 rfl ?_
  refine am_iconst (v := 2) d_L_law_652 rfl ?_
  refine am_iadd d_L_law_653 ?_
  have hi654 := h.1
  have h := h.2
  refine am_sld d_L_law_654 hi654 ?_
  refine am_i2l d_L_law_655 ?_
  refine am_bipush (v := 32) d_L_law_656 rfl ?_
  refine am_lshl d_L_law_658 ?_
  refine am_aload_n d_L_law_659 0 rfl ?_
  refine am_iload_n d_L_law_660 3 rfl ?_
  refine am_iconst (v := 3) d_L_law_661 rfl ?_
  refine am_iadd d_L_law_662 ?_
  have hi663 := h.1
  have h := h.2
  refine am_sld d_L_law_663 hi663 ?_
  refine am_i2l d_L_law_664 ?_
  refine am_ldc2 (v := 4294967295) d_L_law_665 wd_1681 ?_
  refine am_land d_L_law_668 ?_
  refine am_lor d_L_law_669 ?_
  refine am_aload_n d_L_law_670 0 rfl ?_
  refine am_iload_n d_L_law_671 3 rfl ?_
  refine am_iconst (v := 4) d_L_law_672 rfl ?_
  refine am_iadd d_L_law_673 ?_
  have hi674 := h.1
  have h := h.2
  refine am_sld d_L_law_674 hi674 ?_
  refine am_aload_n d_L_law_675 0 rfl ?_
  refine am_iload_n d_L_law_676 3 rfl ?_
  refine am_iconst (v := 5) d_L_law_677 rfl ?_
  refine am_iadd d_L_law_678 ?_
  have hi679 := h.1
  have h := h.2
  refine am_sld d_L_law_679 hi679 ?_
  refine am_callV (C := "TriSplits") (d2 := d - 1) [.int (xs (x3 + (1 : Int32)).toNatClampNeg), .long ((lshl ((xs (x3 + (2 : Int32)).toNatClampNeg).toInt64) (32 : Int32)) ||| (((xs (x3 + (3 : Int32)).toNatClampNeg).toInt64) &&& (4294967295 : Int64))), .int (xs (x3 + (4 : Int32)).toNatClampNeg), .int (xs (x3 + (5 : Int32)).toNatClampNeg)] d_L_law_680 mi_T_power wd_496 wd_497 wd_498 (by decide) (el_T (show ay_sh 0 = _ from rfl)) rfl rfl (by omega) rfl rfl (Nat.le_of_ble_eq_true rfl) ?_
  refine Call.post ?_ (cf_T_power_ok (by omega) (xs (x3 + (1 : Int32)).toNatClampNeg) ((lshl ((xs (x3 + (2 : Int32)).toNatClampNeg).toInt64) (32 : Int32)) ||| (((xs (x3 + (3 : Int32)).toNatClampNeg).toInt64) &&& (4294967295 : Int64))) (xs (x3 + (4 : Int32)).toNatClampNeg) (xs (x3 + (5 : Int32)).toNatClampNeg)  w _ h)
  rintro _ w50 ⟨r49, rfl, h⟩
  show wp g (ay_Xs g b L xs) y_L_law code 4 ret d 683 [(0, .ref b), (1, .ref (g.1 + 0)), (2, .ref (g.1 + 30)), (3, .int x3)] [.int r49] w50 Q
  refine am_aload_n d_L_law_683 2 rfl ?_
  refine am_aload_n d_L_law_684 0 rfl ?_
  refine am_iload_n d_L_law_685 3 rfl ?_
  refine am_iconst (v := 1) d_L_law_686 rfl ?_
  refine am_iadd d_L_law_687 ?_
  have hi688 := h.1
  have h := h.2
  refine am_sld d_L_law_688 hi688 ?_
  refine am_aload_n d_L_law_689 0 rfl ?_
  refine am_iload_n d_L_law_690 3 rfl ?_
  refine am_iconst (v := 2) d_L_law_691 rfl ?_
  refine am_iadd d_L_law_692 ?_
  have hi693 := h.1
  have h := h.2
  refine am_sld d_L_law_693 hi693 ?_
  refine am_i2l d_L_law_694 ?_
  refine am_bipush (v := 32) d_L_law_695 rfl ?_
  refine am_lshl d_L_law_697 ?_
  refine am_aload_n d_L_law_698 0 rfl ?_
  refine am_iload_n d_L_law_699 3 rfl ?_
  refine am_iconst (v := 3) d_L_law_700 rfl ?_
  refine am_iadd d_L_law_701 ?_
  have hi702 := h.1
  have h := h.2
  refine am_sld d_L_law_702 hi702 ?_
  refine am_i2l d_L_law_703 ?_
  refine am_ldc2 (v := 4294967295) d_L_law_704 wd_1681 ?_
  refine am_land d_L_law_707 ?_
  refine am_lor d_L_law_708 ?_
  refine am_aload_n d_L_law_709 0 rfl ?_
  refine am_iload_n d_L_law_710 3 rfl ?_
  refine am_iconst (v := 4) d_L_law_711 rfl ?_
  refine am_iadd d_L_law_712 ?_
  have hi713 := h.1
  have h := h.2
  refine am_sld d_L_law_713 hi713 ?_
  refine am_aload_n d_L_law_714 0 rfl ?_
  refine am_iload_n d_L_law_715 3 rfl ?_
  refine am_iconst (v := 5) d_L_law_716 rfl ?_
  refine am_iadd d_L_law_717 ?_
  have hi718 := h.1
  have h := h.2
  refine am_sld d_L_law_718 hi718 ?_
  refine am_callV (C := "TriSplitsModel") (d2 := d - 1) [.int (xs (x3 + (1 : Int32)).toNatClampNeg), .long ((lshl ((xs (x3 + (2 : Int32)).toNatClampNeg).toInt64) (32 : Int32)) ||| (((xs (x3 + (3 : Int32)).toNatClampNeg).toInt64) &&& (4294967295 : Int64))), .int (xs (x3 + (4 : Int32)).toNatClampNeg), .int (xs (x3 + (5 : Int32)).toNatClampNeg)] d_L_law_719 mi_M_power wd_1455 wd_1456 wd_1457 (by decide) (el_M (show ay_sh 30 = _ from rfl)) rfl rfl (by omega) rfl rfl (Nat.le_of_ble_eq_true rfl) ?_
  refine Call.post ?_ (cf_M_power_ok (by omega) (xs (x3 + (1 : Int32)).toNatClampNeg) ((lshl ((xs (x3 + (2 : Int32)).toNatClampNeg).toInt64) (32 : Int32)) ||| (((xs (x3 + (3 : Int32)).toNatClampNeg).toInt64) &&& (4294967295 : Int64))) (xs (x3 + (4 : Int32)).toNatClampNeg) (xs (x3 + (5 : Int32)).toNatClampNeg)  w50 _ h)
  rintro _ w52 ⟨r51, rfl, h⟩
  show wp g (ay_Xs g b L xs) y_L_law code 4 ret d 722 [(0, .ref b), (1, .ref (g.1 + 0)), (2, .ref (g.1 + 30)), (3, .int x3)] [.int r51, .int r49] w52 Q
  refine am_icmp_eq (tgt := 2068) d_L_law_722 (by decide) (fun c722 => ?_) (fun c722 => ?_)
  · have h := h.1 c722
    obtain ⟨v53, ev53⟩ : ∃ z : Int32, z = x3 + (6 : Int32) := ⟨_, rfl⟩
    have h := h v53 ev53
    refine am_iinc (v := v53) (l' := [(3, .int v53), (0, .ref b), (1, .ref (g.1 + 0)), (2, .ref (g.1 + 30))]) d_L_law_2068 3 rfl (by rw [ev53]; rfl) (by decide) rfl ?_
    refine am_goto (tgt := 18) d_L_law_2071 (by decide) ?_
    refine am_sub [1, 2, 3, 0] rfl ?_
    exact hK18 v53 w52 h
  · have h := h.2 c722
    refine am_iconst (v := 0) d_L_law_725 rfl ?_
    exact am_ireturn d_L_law_726 rfl rfl (hQ (0 : Int32) w52 h)
theorem cf_L_law_B727_ok {g : ayG} {d : Nat} (hd : 164 ≤ d) (b : Nat) (L : Nat) (xs : Nat → Int32)  (w : Wd) (K18 : Int32 → Wd → Prop) (P : Int32 → Wd → Prop) (Q : Option Value → Wd → Prop) (hQ : ∀ x w2, P x w2 → Q (some (.int x)) w2) (hK18 : ∀ (x3 : Int32) (w : Wd), (K18 x3 w → wp g (ay_Xs g b L xs) y_L_law code 4 ret d 18 [(0, .ref b), (1, .ref (g.1 + 0)), (2, .ref (g.1 + 30)), (3, .int x3)] [] w Q)) (x3 : Int32) (h : cf_L_law_B727 b L xs K18 P x3 w) : wp g (ay_Xs g b L xs) y_L_law code 4 ret d 727 [(0, .ref b), (1, .ref (g.1 + 0)), (2, .ref (g.1 + 30)), (3, .int x3)] [] w Q := by
  unfold cf_L_law_B727 at h
  refine am_aload_n d_L_law_727 1 rfl ?_
  refine am_aload_n d_L_law_728 0 rfl ?_
  refine am_iload_n d_L_law_729 3 rfl ?_
  refine am_iconst (v := 1) d_L_law_730 rfl ?_
  refine am_iadd d_L_law_731 ?_
  have hi732 := h.1
  have h := h.2
  refine am_sld d_L_law_732 hi732 ?_
  refine am_aload_n d_L_law_733 0 rfl ?_
  refine am_iload_n d_L_law_734 3 rfl ?_
  refine am_iconst (v := 2) d_L_law_735 rfl ?_
  refine am_iadd d_L_law_736 ?_
  have hi737 := h.1
  have h := h.2
  refine am_sld d_L_law_737 hi737 ?_
  refine am_callV (C := "TriSplits") (d2 := d - 1) [.int (xs (x3 + (1 : Int32)).toNatClampNeg), .int (xs (x3 + (2 : Int32)).toNatClampNeg)] d_L_law_738 mi_T_moved wd_515 wd_516 wd_517 (by decide) (el_T (show ay_sh 0 = _ from rfl)) rfl rfl (by omega) rfl rfl (Nat.le_of_ble_eq_true rfl) ?_
  refine Call.post ?_ (cf_T_moved_ok (by omega) (xs (x3 + (1 : Int32)).toNatClampNeg) (xs (x3 + (2 : Int32)).toNatClampNeg)  w _ h)
  rintro _ w55 ⟨r54, rfl, h⟩
  show wp g (ay_Xs g b L xs) y_L_law code 4 ret d 741 [(0, .ref b), (1, .ref (g.1 + 0)), (2, .ref (g.1 + 30)), (3, .int x3)] [.int r54] w55 Q
  refine am_aload_n d_L_law_741 2 rfl ?_
  refine am_aload_n d_L_law_742 0 rfl ?_
  refine am_iload_n d_L_law_743 3 rfl ?_
  refine am_iconst (v := 1) d_L_law_744 rfl ?_
  refine am_iadd d_L_law_745 ?_
  have hi746 := h.1
  have h := h.2
  refine am_sld d_L_law_746 hi746 ?_
  refine am_aload_n d_L_law_747 0 rfl ?_
  refine am_iload_n d_L_law_748 3 rfl ?_
  refine am_iconst (v := 2) d_L_law_749 rfl ?_
  refine am_iadd d_L_law_750 ?_
  have hi751 := h.1
  have h := h.2
  refine am_sld d_L_law_751 hi751 ?_
  refine am_callV (C := "TriSplitsModel") (d2 := d - 1) [.int (xs (x3 + (1 : Int32)).toNatClampNeg), .int (xs (x3 + (2 : Int32)).toNatClampNeg)] d_L_law_752 mi_M_moved wd_1459 wd_1460 wd_1461 (by decide) (el_M (show ay_sh 30 = _ from rfl)) rfl rfl (by omega) rfl rfl (Nat.le_of_ble_eq_true rfl) ?_
  refine Call.post ?_ (cf_M_moved_ok (by omega) (xs (x3 + (1 : Int32)).toNatClampNeg) (xs (x3 + (2 : Int32)).toNatClampNeg)  w55 _ h)
  rintro _ w57 ⟨r56, rfl, h⟩
  show wp g (ay_Xs g b L xs) y_L_law code 4 ret d 755 [(0, .ref b), (1, .ref (g.1 + 0)), (2, .ref (g.1 + 30)), (3, .int x3)] [.int r56, .int r54] w57 Q
  refine am_icmp_eq (tgt := 2068) d_L_law_755 (by decide) (fun c755 => ?_) (fun c755 => ?_)
  · have h := h.1 c755
    obtain ⟨v58, ev58⟩ : ∃ z : Int32, z = x3 + (6 : Int32) := ⟨_, rfl⟩
    have h := h v58 ev58
    refine am_iinc (v := v58) (l' := [(3, .int v58), (0, .ref b), (1, .ref (g.1 + 0)), (2, .ref (g.1 + 30))]) d_L_law_2068 3 rfl (by rw [ev58]; rfl) (by decide) rfl ?_
    refine am_goto (tgt := 18) d_L_law_2071 (by decide) ?_
    refine am_sub [1, 2, 3, 0] rfl ?_
    exact hK18 v58 w57 h
  · have h := h.2 c755
    refine am_iconst (v := 0) d_L_law_758 rfl ?_
    exact am_ireturn d_L_law_759 rfl rfl (hQ (0 : Int32) w57 h)
theorem cf_L_law_B760_ok {g : ayG} {d : Nat} (hd : 164 ≤ d) (b : Nat) (L : Nat) (xs : Nat → Int32)  (w : Wd) (K18 : Int32 → Wd → Prop) (P : Int32 → Wd → Prop) (Q : Option Value → Wd → Prop) (hQ : ∀ x w2, P x w2 → Q (some (.int x)) w2) (hK18 : ∀ (x3 : Int32) (w : Wd), (K18 x3 w → wp g (ay_Xs g b L xs) y_L_law code 4 ret d 18 [(0, .ref b), (1, .ref (g.1 + 0)), (2, .ref (g.1 + 30)), (3, .int x3)] [] w Q)) (x3 : Int32) (h : cf_L_law_B760 b L xs K18 P x3 w) : wp g (ay_Xs g b L xs) y_L_law code 4 ret d 760 [(0, .ref b), (1, .ref (g.1 + 0)), (2, .ref (g.1 + 30)), (3, .int x3)] [] w Q := by
  unfold cf_L_law_B760 at h
  refine am_aload_n d_L_law_760 1 rfl ?_
  refine am_aload_n d_L_law_761 0 rfl ?_
  refine am_iload_n d_L_law_762 3 rfl ?_
  refine am_iconst (v := 1) d_L_law_763 rfl ?_
  refine am_iadd d_L_law_764 ?_
  have hi765 := h.1
  have h := h.2
  refine am_sld d_L_law_765 hi765 ?_
  refine am_aload_n d_L_law_766 0 rfl ?_
  refine am_iload_n d_L_law_767 3 rfl ?_
  refine am_iconst (v := 2) d_L_law_768 rfl ?_
  refine am_iadd d_L_law_769 ?_
  have hi770 := h.1
  have h := h.2
  refine am_sld d_L_law_770 hi770 ?_
  refine am_aload_n d_L_law_771 0 rfl ?_
  refine am_iload_n d_L_law_772 3 rfl ?_
  refine am_iconst (v := 3) d_L_law_773 rfl ?_
  refine am_iadd d_L_law_774 ?_
  have hi775 := h.1
  have h := h.2
  refine am_sld d_L_law_775 hi775 ?_
  refine am_aload_n d_L_law_776 0 rfl ?_
  refine am_iload_n d_L_law_777 3 rfl ?_
  refine am_iconst (v := 4) d_L_law_778 rfl ?_
  refine am_iadd d_L_law_779 ?_
  have hi780 := h.1
  have h := h.2
  refine am_sld d_L_law_780 hi780 ?_
  refine am_callV (C := "TriSplits") (d2 := d - 1) [.int (xs (x3 + (1 : Int32)).toNatClampNeg), .int (xs (x3 + (2 : Int32)).toNatClampNeg), .int (xs (x3 + (3 : Int32)).toNatClampNeg), .int (xs (x3 + (4 : Int32)).toNatClampNeg)] d_L_law_781 mi_T_inside wd_522 wd_523 wd_524 (by decide) (el_T (show ay_sh 0 = _ from rfl)) rfl rfl (by omega) rfl rfl (Nat.le_of_ble_eq_true rfl) ?_
  refine Call.post ?_ (cf_T_inside_ok (by omega) (xs (x3 + (1 : Int32)).toNatClampNeg) (xs (x3 + (2 : Int32)).toNatClampNeg) (xs (x3 + (3 : Int32)).toNatClampNeg) (xs (x3 + (4 : Int32)).toNatClampNeg)  w _ h)
  rintro _ w60 ⟨r59, rfl, h⟩
  show wp g (ay_Xs g b L xs) y_L_law code 4 ret d 784 [(0, .ref b), (1, .ref (g.1 + 0)), (2, .ref (g.1 + 30)), (3, .int x3)] [.int r59] w60 Q
  refine am_aload_n d_L_law_784 2 rfl ?_
  refine am_aload_n d_L_law_785 0 rfl ?_
  refine am_iload_n d_L_law_786 3 rfl ?_
  refine am_iconst (v := 1) d_L_law_787 rfl ?_
  refine am_iadd d_L_law_788 ?_
  have hi789 := h.1
  have h := h.2
  refine am_sld d_L_law_789 hi789 ?_
  refine am_aload_n d_L_law_790 0 rfl ?_
  refine am_iload_n d_L_law_791 3 rfl ?_
  refine am_iconst (v := 2) d_L_law_792 rfl ?_
  refine am_iadd d_L_law_793 ?_
  have hi794 := h.1
  have h := h.2
  refine am_sld d_L_law_794 hi794 ?_
  refine am_aload_n d_L_law_795 0 rfl ?_
  refine am_iload_n d_L_law_796 3 rfl ?_
  refine am_iconst (v := 3) d_L_law_797 rfl ?_
  refine am_iadd d_L_law_798 ?_
  have hi799 := h.1
  have h := h.2
  refine am_sld d_L_law_799 hi799 ?_
  refine am_aload_n d_L_law_800 0 rfl ?_
  refine am_iload_n d_L_law_801 3 rfl ?_
  refine am_iconst (v := 4) d_L_law_802 rfl ?_
  refine am_iadd d_L_law_803 ?_
  have hi804 := h.1
  have h := h.2
  refine am_sld d_L_law_804 hi804 ?_
  refine am_callV (C := "TriSplitsModel") (d2 := d - 1) [.int (xs (x3 + (1 : Int32)).toNatClampNeg), .int (xs (x3 + (2 : Int32)).toNatClampNeg), .int (xs (x3 + (3 : Int32)).toNatClampNeg), .int (xs (x3 + (4 : Int32)).toNatClampNeg)] d_L_law_805 mi_M_inside wd_1466 wd_1467 wd_1468 (by decide) (el_M (show ay_sh 30 = _ from rfl)) rfl rfl (by omega) rfl rfl (Nat.le_of_ble_eq_true rfl) ?_
  refine Call.post ?_ (cf_M_inside_ok (by omega) (xs (x3 + (1 : Int32)).toNatClampNeg) (xs (x3 + (2 : Int32)).toNatClampNeg) (xs (x3 + (3 : Int32)).toNatClampNeg) (xs (x3 + (4 : Int32)).toNatClampNeg)  w60 _ h)
  rintro _ w62 ⟨r61, rfl, h⟩
  show wp g (ay_Xs g b L xs) y_L_law code 4 ret d 808 [(0, .ref b), (1, .ref (g.1 + 0)), (2, .ref (g.1 + 30)), (3, .int x3)] [.int r61, .int r59] w62 Q
  refine am_icmp_eq (tgt := 2068) d_L_law_808 (by decide) (fun c808 => ?_) (fun c808 => ?_)
  · have h := h.1 c808
    obtain ⟨v63, ev63⟩ : ∃ z : Int32, z = x3 + (6 : Int32) := ⟨_, rfl⟩
    have h := h v63 ev63
    refine am_iinc (v := v63) (l' := [(3, .int v63), (0, .ref b), (1, .ref (g.1 + 0)), (2, .ref (g.1 + 30))]) d_L_law_2068 3 rfl (by rw [ev63]; rfl) (by decide) rfl ?_
    refine am_goto (tgt := 18) d_L_law_2071 (by decide) ?_
    refine am_sub [1, 2, 3, 0] rfl ?_
    exact hK18 v63 w62 h
  · have h := h.2 c808
    refine am_iconst (v := 0) d_L_law_811 rfl ?_
    exact am_ireturn d_L_law_812 rfl rfl (hQ (0 : Int32) w62 h)
theorem cf_L_law_B813_ok {g : ayG} {d : Nat} (hd : 164 ≤ d) (b : Nat) (L : Nat) (xs : Nat → Int32)  (w : Wd) (K18 : Int32 → Wd → Prop) (P : Int32 → Wd → Prop) (Q : Option Value → Wd → Prop) (hQ : ∀ x w2, P x w2 → Q (some (.int x)) w2) (hK18 : ∀ (x3 : Int32) (w : Wd), (K18 x3 w → wp g (ay_Xs g b L xs) y_L_law code 4 ret d 18 [(0, .ref b), (1, .ref (g.1 + 0)), (2, .ref (g.1 + 30)), (3, .int x3)] [] w Q)) (x3 : Int32) (h : cf_L_law_B813 b L xs K18 P x3 w) : wp g (ay_Xs g b L xs) y_L_law code 4 ret d 813 [(0, .ref b), (1, .ref (g.1 + 0)), (2, .ref (g.1 + 30)), (3, .int x3)] [] w Q := by
  unfold cf_L_law_B813 at h
  refine am_aload_n d_L_law_813 1 rfl ?_
  refine am_aload_n d_L_law_814 0 rfl ?_
  refine am_iload_n d_L_law_815 3 rfl ?_
  refine am_iconst (v := 1) d_L_law_816 rfl ?_
  refine am_iadd d_L_law_817 ?_
  have hi818 := h.1
  have h := h.2
  refine am_sld d_L_law_818 hi818 ?_
  refine am_aload_n d_L_law_819 0 rfl ?_
  refine am_iload_n d_L_law_820 3 rfl ?_
  refine am_iconst (v := 2) d_L_law_821 rfl ?_
  refine am_iadd d_L_law_822 ?_
  have hi823 := h.1
  have h := h.2
  refine am_sld d_L_law_823 hi823 ?_
  refine am_aload_n d_L_law_824 0 rfl ?_
  refine am_iload_n d_L_law_825 3 rfl ?_
  refine am_iconst (v := 3) d_L_law_826 rfl ?_
  refine am_iadd d_L_law_827 ?_
  have hi828 := h.1
  have h := h.2
  refine am_sld d_L_law_828 hi828 ?_
  refine am_callV (C := "TriSplits") (d2 := d - 1) [.int (xs (x3 + (1 : Int32)).toNatClampNeg), .int (xs (x3 + (2 : Int32)).toNatClampNeg), .int (xs (x3 + (3 : Int32)).toNatClampNeg)] d_L_law_829 mi_T_inverse wd_532 wd_533 wd_534 (by decide) (el_T (show ay_sh 0 = _ from rfl)) rfl rfl (by omega) rfl rfl (Nat.le_of_ble_eq_true rfl) ?_
  refine Call.post ?_ (cf_T_inverse_ok (by omega) (xs (x3 + (1 : Int32)).toNatClampNeg) (xs (x3 + (2 : Int32)).toNatClampNeg) (xs (x3 + (3 : Int32)).toNatClampNeg)  w _ h)
  rintro _ w65 ⟨r64, rfl, h⟩
  show wp g (ay_Xs g b L xs) y_L_law code 4 ret d 832 [(0, .ref b), (1, .ref (g.1 + 0)), (2, .ref (g.1 + 30)), (3, .int x3)] [.int r64] w65 Q
  refine am_aload_n d_L_law_832 2 rfl ?_
  refine am_aload_n d_L_law_833 0 rfl ?_
  refine am_iload_n d_L_law_834 3 rfl ?_
  refine am_iconst (v := 1) d_L_law_835 rfl ?_
  refine am_iadd d_L_law_836 ?_
  have hi837 := h.1
  have h := h.2
  refine am_sld d_L_law_837 hi837 ?_
  refine am_aload_n d_L_law_838 0 rfl ?_
  refine am_iload_n d_L_law_839 3 rfl ?_
  refine am_iconst (v := 2) d_L_law_840 rfl ?_
  refine am_iadd d_L_law_841 ?_
  have hi842 := h.1
  have h := h.2
  refine am_sld d_L_law_842 hi842 ?_
  refine am_aload_n d_L_law_843 0 rfl ?_
  refine am_iload_n d_L_law_844 3 rfl ?_
  refine am_iconst (v := 3) d_L_law_845 rfl ?_
  refine am_iadd d_L_law_846 ?_
  have hi847 := h.1
  have h := h.2
  refine am_sld d_L_law_847 hi847 ?_
  refine am_callV (C := "TriSplitsModel") (d2 := d - 1) [.int (xs (x3 + (1 : Int32)).toNatClampNeg), .int (xs (x3 + (2 : Int32)).toNatClampNeg), .int (xs (x3 + (3 : Int32)).toNatClampNeg)] d_L_law_848 mi_M_inverse wd_1470 wd_1471 wd_1472 (by decide) (el_M (show ay_sh 30 = _ from rfl)) rfl rfl (by omega) rfl rfl (Nat.le_of_ble_eq_true rfl) ?_
  refine Call.post ?_ (cf_M_inverse_ok (by omega) (xs (x3 + (1 : Int32)).toNatClampNeg) (xs (x3 + (2 : Int32)).toNatClampNeg) (xs (x3 + (3 : Int32)).toNatClampNeg)  w65 _ h)
  rintro _ w67 ⟨r66, rfl, h⟩
  show wp g (ay_Xs g b L xs) y_L_law code 4 ret d 851 [(0, .ref b), (1, .ref (g.1 + 0)), (2, .ref (g.1 + 30)), (3, .int x3)] [.int r66, .int r64] w67 Q
  refine am_icmp_eq (tgt := 2068) d_L_law_851 (by decide) (fun c851 => ?_) (fun c851 => ?_)
  · have h := h.1 c851
    obtain ⟨v68, ev68⟩ : ∃ z : Int32, z = x3 + (6 : Int32) := ⟨_, rfl⟩
    have h := h v68 ev68
    refine am_iinc (v := v68) (l' := [(3, .int v68), (0, .ref b), (1, .ref (g.1 + 0)), (2, .ref (g.1 + 30))]) d_L_law_2068 3 rfl (by rw [ev68]; rfl) (by decide) rfl ?_
    refine am_goto (tgt := 18) d_L_law_2071 (by decide) ?_
    refine am_sub [1, 2, 3, 0] rfl ?_
    exact hK18 v68 w67 h
  · have h := h.2 c851
    refine am_iconst (v := 0) d_L_law_854 rfl ?_
    exact am_ireturn d_L_law_855 rfl rfl (hQ (0 : Int32) w67 h)
theorem cf_L_law_B856_ok {g : ayG} {d : Nat} (hd : 164 ≤ d) (b : Nat) (L : Nat) (xs : Nat → Int32)  (w : Wd) (K18 : Int32 → Wd → Prop) (P : Int32 → Wd → Prop) (Q : Option Value → Wd → Prop) (hQ : ∀ x w2, P x w2 → Q (some (.int x)) w2) (hK18 : ∀ (x3 : Int32) (w : Wd), (K18 x3 w → wp g (ay_Xs g b L xs) y_L_law code 4 ret d 18 [(0, .ref b), (1, .ref (g.1 + 0)), (2, .ref (g.1 + 30)), (3, .int x3)] [] w Q)) (x3 : Int32) (h : cf_L_law_B856 b L xs K18 P x3 w) : wp g (ay_Xs g b L xs) y_L_law code 4 ret d 856 [(0, .ref b), (1, .ref (g.1 + 0)), (2, .ref (g.1 + 30)), (3, .int x3)] [] w Q := by
  unfold cf_L_law_B856 at h
  refine am_aload_n d_L_law_856 1 rfl ?_
  refine am_aload_n d_L_law_857 0 rfl ?_
  refine am_iload_n d_L_law_858 3 rfl ?_
  refine am_iconst (v := 1) d_L_law_859 rfl ?_
  refine am_iadd d_L_law_860 ?_
  have hi861 := h.1
  have h := h.2
  refine am_sld d_L_law_861 hi861 ?_
  refine am_aload_n d_L_law_862 0 rfl ?_
  refine am_iload_n d_L_law_863 3 rfl ?_
  refine am_iconst (v := 2) d_L_law_864 rfl ?_
  refine am_iadd d_L_law_865 ?_
  have hi866 := h.1
  have h := h.2
  refine am_sld d_L_law_866 hi866 ?_
  refine am_aload_n d_L_law_867 0 rfl ?_
  refine am_iload_n d_L_law_868 3 rfl ?_
  refine am_iconst (v := 3) d_L_law_869 rfl ?_
  refine am_iadd d_L_law_870 ?_
  have hi871 := h.1
  have h := h.2
  refine am_sld d_L_law_871 hi871 ?_
  refine am_callV (C := "TriSplits") (d2 := d - 1) [.int (xs (x3 + (1 : Int32)).toNatClampNeg), .int (xs (x3 + (2 : Int32)).toNatClampNeg), .int (xs (x3 + (3 : Int32)).toNatClampNeg)] d_L_law_872 mi_T_rise wd_540 wd_541 wd_542 (by decide) (el_T (show ay_sh 0 = _ from rfl)) rfl rfl (by omega) rfl rfl (Nat.le_of_ble_eq_true rfl) ?_
  refine Call.post ?_ (cf_T_rise_ok (by omega) (xs (x3 + (1 : Int32)).toNatClampNeg) (xs (x3 + (2 : Int32)).toNatClampNeg) (xs (x3 + (3 : Int32)).toNatClampNeg)  w _ h)
  rintro _ w70 ⟨r69, rfl, h⟩
  show wp g (ay_Xs g b L xs) y_L_law code 4 ret d 875 [(0, .ref b), (1, .ref (g.1 + 0)), (2, .ref (g.1 + 30)), (3, .int x3)] [.int r69] w70 Q
  refine am_aload_n d_L_law_875 2 rfl ?_
  refine am_aload_n d_L_law_876 0 rfl ?_
  refine am_iload_n d_L_law_877 3 rfl ?_
  refine am_iconst (v := 1) d_L_law_878 rfl ?_
  refine am_iadd d_L_law_879 ?_
  have hi880 := h.1
  have h := h.2
  refine am_sld d_L_law_880 hi880 ?_
  refine am_aload_n d_L_law_881 0 rfl ?_
  refine am_iload_n d_L_law_882 3 rfl ?_
  refine am_iconst (v := 2) d_L_law_883 rfl ?_
  refine am_iadd d_L_law_884 ?_
  have hi885 := h.1
  have h := h.2
  refine am_sld d_L_law_885 hi885 ?_
  refine am_aload_n d_L_law_886 0 rfl ?_
  refine am_iload_n d_L_law_887 3 rfl ?_
  refine am_iconst (v := 3) d_L_law_888 rfl ?_
  refine am_iadd d_L_law_889 ?_
  have hi890 := h.1
  have h := h.2
  refine am_sld d_L_law_890 hi890 ?_
  refine am_callV (C := "TriSplitsModel") (d2 := d - 1) [.int (xs (x3 + (1 : Int32)).toNatClampNeg), .int (xs (x3 + (2 : Int32)).toNatClampNeg), .int (xs (x3 + (3 : Int32)).toNatClampNeg)] d_L_law_891 mi_M_rise wd_1477 wd_1478 wd_1479 (by decide) (el_M (show ay_sh 30 = _ from rfl)) rfl rfl (by omega) rfl rfl (Nat.le_of_ble_eq_true rfl) ?_
  refine Call.post ?_ (cf_M_rise_ok (by omega) (xs (x3 + (1 : Int32)).toNatClampNeg) (xs (x3 + (2 : Int32)).toNatClampNeg) (xs (x3 + (3 : Int32)).toNatClampNeg)  w70 _ h)
  rintro _ w72 ⟨r71, rfl, h⟩
  show wp g (ay_Xs g b L xs) y_L_law code 4 ret d 894 [(0, .ref b), (1, .ref (g.1 + 0)), (2, .ref (g.1 + 30)), (3, .int x3)] [.int r71, .int r69] w72 Q
  refine am_icmp_eq (tgt := 2068) d_L_law_894 (by decide) (fun c894 => ?_) (fun c894 => ?_)
  · have h := h.1 c894
    obtain ⟨v73, ev73⟩ : ∃ z : Int32, z = x3 + (6 : Int32) := ⟨_, rfl⟩
    have h := h v73 ev73
    refine am_iinc (v := v73) (l' := [(3, .int v73), (0, .ref b), (1, .ref (g.1 + 0)), (2, .ref (g.1 + 30))]) d_L_law_2068 3 rfl (by rw [ev73]; rfl) (by decide) rfl ?_
    refine am_goto (tgt := 18) d_L_law_2071 (by decide) ?_
    refine am_sub [1, 2, 3, 0] rfl ?_
    exact hK18 v73 w72 h
  · have h := h.2 c894
    refine am_iconst (v := 0) d_L_law_897 rfl ?_
    exact am_ireturn d_L_law_898 rfl rfl (hQ (0 : Int32) w72 h)
theorem cf_L_law_B899_ok {g : ayG} {d : Nat} (hd : 164 ≤ d) (b : Nat) (L : Nat) (xs : Nat → Int32)  (w : Wd) (K18 : Int32 → Wd → Prop) (P : Int32 → Wd → Prop) (Q : Option Value → Wd → Prop) (hQ : ∀ x w2, P x w2 → Q (some (.int x)) w2) (hK18 : ∀ (x3 : Int32) (w : Wd), (K18 x3 w → wp g (ay_Xs g b L xs) y_L_law code 4 ret d 18 [(0, .ref b), (1, .ref (g.1 + 0)), (2, .ref (g.1 + 30)), (3, .int x3)] [] w Q)) (x3 : Int32) (h : cf_L_law_B899 b L xs K18 P x3 w) : wp g (ay_Xs g b L xs) y_L_law code 4 ret d 899 [(0, .ref b), (1, .ref (g.1 + 0)), (2, .ref (g.1 + 30)), (3, .int x3)] [] w Q := by
  unfold cf_L_law_B899 at h
  refine am_aload_n d_L_law_899 1 rfl ?_
  refine am_aload_n d_L_law_900 0 rfl ?_
  refine am_iload_n d_L_law_901 3 rfl ?_
  refine am_iconst (v := 1) d_L_law_902 rfl ?_
  refine am_iadd d_L_law_903 ?_
  have hi904 := h.1
  have h := h.2
  refine am_sld d_L_law_904 hi904 ?_
  refine am_aload_n d_L_law_905 0 rfl ?_
  refine am_iload_n d_L_law_906 3 rfl ?_
  refine am_iconst (v := 2) d_L_law_907 rfl ?_
  refine am_iadd d_L_law_908 ?_
  have hi909 := h.1
  have h := h.2
  refine am_sld d_L_law_909 hi909 ?_
  refine am_i2l d_L_law_910 ?_
  refine am_bipush (v := 32) d_L_law_911 rfl ?_
  refine am_lshl d_L_law_913 ?_
  refine am_aload_n d_L_law_914 0 rfl ?_
  refine am_iload_n d_L_law_915 3 rfl ?_
  refine am_iconst (v := 3) d_L_law_916 rfl ?_
  refine am_iadd d_L_law_917 ?_
  have hi918 := h.1
  have h := h.2
  refine am_sld d_L_law_918 hi918 ?_
  refine am_i2l d_L_law_919 ?_
  refine am_ldc2 (v := 4294967295) d_L_law_920 wd_1681 ?_
  refine am_land d_L_law_923 ?_
  refine am_lor d_L_law_924 ?_
  refine am_callV (C := "TriSplits") (d2 := d - 1) [.int (xs (x3 + (1 : Int32)).toNatClampNeg), .long ((lshl ((xs (x3 + (2 : Int32)).toNatClampNeg).toInt64) (32 : Int32)) ||| (((xs (x3 + (3 : Int32)).toNatClampNeg).toInt64) &&& (4294967295 : Int64)))] d_L_law_925 mi_T_register wd_547 wd_548 wd_549 (by decide) (el_T (show ay_sh 0 = _ from rfl)) rfl rfl (by omega) rfl rfl (Nat.le_of_ble_eq_true rfl) ?_
  refine Call.post ?_ (cf_T_register_ok (by omega) (xs (x3 + (1 : Int32)).toNatClampNeg) ((lshl ((xs (x3 + (2 : Int32)).toNatClampNeg).toInt64) (32 : Int32)) ||| (((xs (x3 + (3 : Int32)).toNatClampNeg).toInt64) &&& (4294967295 : Int64)))  w _ h)
  rintro _ w75 ⟨r74, rfl, h⟩
  show wp g (ay_Xs g b L xs) y_L_law code 4 ret d 928 [(0, .ref b), (1, .ref (g.1 + 0)), (2, .ref (g.1 + 30)), (3, .int x3)] [.int r74] w75 Q
  refine am_aload_n d_L_law_928 2 rfl ?_
  refine am_aload_n d_L_law_929 0 rfl ?_
  refine am_iload_n d_L_law_930 3 rfl ?_
  refine am_iconst (v := 1) d_L_law_931 rfl ?_
  refine am_iadd d_L_law_932 ?_
  have hi933 := h.1
  have h := h.2
  refine am_sld d_L_law_933 hi933 ?_
  refine am_aload_n d_L_law_934 0 rfl ?_
  refine am_iload_n d_L_law_935 3 rfl ?_
  refine am_iconst (v := 2) d_L_law_936 rfl ?_
  refine am_iadd d_L_law_937 ?_
  have hi938 := h.1
  have h := h.2
  refine am_sld d_L_law_938 hi938 ?_
  refine am_i2l d_L_law_939 ?_
  refine am_bipush (v := 32) d_L_law_940 rfl ?_
  refine am_lshl d_L_law_942 ?_
  refine am_aload_n d_L_law_943 0 rfl ?_
  refine am_iload_n d_L_law_944 3 rfl ?_
  refine am_iconst (v := 3) d_L_law_945 rfl ?_
  refine am_iadd d_L_law_946 ?_
  have hi947 := h.1
  have h := h.2
  refine am_sld d_L_law_947 hi947 ?_
  refine am_i2l d_L_law_948 ?_
  refine am_ldc2 (v := 4294967295) d_L_law_949 wd_1681 ?_
  refine am_land d_L_law_952 ?_
  refine am_lor d_L_law_953 ?_
  refine am_callV (C := "TriSplitsModel") (d2 := d - 1) [.int (xs (x3 + (1 : Int32)).toNatClampNeg), .long ((lshl ((xs (x3 + (2 : Int32)).toNatClampNeg).toInt64) (32 : Int32)) ||| (((xs (x3 + (3 : Int32)).toNatClampNeg).toInt64) &&& (4294967295 : Int64)))] d_L_law_954 mi_M_register wd_1402 wd_1403 wd_1404 (by decide) (el_M (show ay_sh 30 = _ from rfl)) rfl rfl (by omega) rfl rfl (Nat.le_of_ble_eq_true rfl) ?_
  refine Call.post ?_ (cf_M_register_ok (by omega) (xs (x3 + (1 : Int32)).toNatClampNeg) ((lshl ((xs (x3 + (2 : Int32)).toNatClampNeg).toInt64) (32 : Int32)) ||| (((xs (x3 + (3 : Int32)).toNatClampNeg).toInt64) &&& (4294967295 : Int64)))  w75 _ h)
  rintro _ w77 ⟨r76, rfl, h⟩
  show wp g (ay_Xs g b L xs) y_L_law code 4 ret d 957 [(0, .ref b), (1, .ref (g.1 + 0)), (2, .ref (g.1 + 30)), (3, .int x3)] [.int r76, .int r74] w77 Q
  refine am_icmp_eq (tgt := 2068) d_L_law_957 (by decide) (fun c957 => ?_) (fun c957 => ?_)
  · have h := h.1 c957
    obtain ⟨v78, ev78⟩ : ∃ z : Int32, z = x3 + (6 : Int32) := ⟨_, rfl⟩
    have h := h v78 ev78
    refine am_iinc (v := v78) (l' := [(3, .int v78), (0, .ref b), (1, .ref (g.1 + 0)), (2, .ref (g.1 + 30))]) d_L_law_2068 3 rfl (by rw [ev78]; rfl) (by decide) rfl ?_
    refine am_goto (tgt := 18) d_L_law_2071 (by decide) ?_
    refine am_sub [1, 2, 3, 0] rfl ?_
    exact hK18 v78 w77 h
  · have h := h.2 c957
    refine am_iconst (v := 0) d_L_law_960 rfl ?_
    exact am_ireturn d_L_law_961 rfl rfl (hQ (0 : Int32) w77 h)
theorem cf_L_law_B962_ok {g : ayG} {d : Nat} (hd : 164 ≤ d) (b : Nat) (L : Nat) (xs : Nat → Int32)  (w : Wd) (K18 : Int32 → Wd → Prop) (P : Int32 → Wd → Prop) (Q : Option Value → Wd → Prop) (hQ : ∀ x w2, P x w2 → Q (some (.int x)) w2) (hK18 : ∀ (x3 : Int32) (w : Wd), (K18 x3 w → wp g (ay_Xs g b L xs) y_L_law code 4 ret d 18 [(0, .ref b), (1, .ref (g.1 + 0)), (2, .ref (g.1 + 30)), (3, .int x3)] [] w Q)) (x3 : Int32) (h : cf_L_law_B962 b L xs K18 P x3 w) : wp g (ay_Xs g b L xs) y_L_law code 4 ret d 962 [(0, .ref b), (1, .ref (g.1 + 0)), (2, .ref (g.1 + 30)), (3, .int x3)] [] w Q := by
  unfold cf_L_law_B962 at h
  refine am_aload_n d_L_law_962 1 rfl ?_
  refine am_aload_n d_L_law_963 0 rfl ?_
  refine am_iload_n d_L_law_964 3 rfl ?_
  refine am_iconst (v := 1) d_L_law_965 rfl ?_
  refine am_iadd d_L_law_966 ?_
  have hi967 := h.1
  have h := h.2
  refine am_sld d_L_law_967 hi967 ?_
  refine am_callV (C := "TriSplits") (d2 := d - 1) [.int (xs (x3 + (1 : Int32)).toNatClampNeg)] d_L_law_968 mi_T_step wd_556 wd_557 wd_558 (by decide) (el_T (show ay_sh 0 = _ from rfl)) rfl rfl (by omega) rfl rfl (Nat.le_of_ble_eq_true rfl) ?_
  refine Call.post ?_ (cf_T_step_ok (by omega) (xs (x3 + (1 : Int32)).toNatClampNeg)  w _ h)
  rintro _ w80 ⟨r79, rfl, h⟩
  show wp g (ay_Xs g b L xs) y_L_law code 4 ret d 971 [(0, .ref b), (1, .ref (g.1 + 0)), (2, .ref (g.1 + 30)), (3, .int x3)] [.long r79] w80 Q
  refine am_aload_n d_L_law_971 2 rfl ?_
  refine am_aload_n d_L_law_972 0 rfl ?_
  refine am_iload_n d_L_law_973 3 rfl ?_
  refine am_iconst (v := 1) d_L_law_974 rfl ?_
  refine am_iadd d_L_law_975 ?_
  have hi976 := h.1
  have h := h.2
  refine am_sld d_L_law_976 hi976 ?_
  refine am_callV (C := "TriSplitsModel") (d2 := d - 1) [.int (xs (x3 + (1 : Int32)).toNatClampNeg)] d_L_law_977 mi_M_step wd_1411 wd_1412 wd_1413 (by decide) (el_M (show ay_sh 30 = _ from rfl)) rfl rfl (by omega) rfl rfl (Nat.le_of_ble_eq_true rfl) ?_
  refine Call.post ?_ (cf_M_step_ok (by omega) (xs (x3 + (1 : Int32)).toNatClampNeg)  w80 _ h)
  rintro _ w82 ⟨r81, rfl, h⟩
  show wp g (ay_Xs g b L xs) y_L_law code 4 ret d 980 [(0, .ref b), (1, .ref (g.1 + 0)), (2, .ref (g.1 + 30)), (3, .int x3)] [.long r81, .long r79] w82 Q
  refine am_lif_eq (tgt := 2068) d_L_law_980 d_L_law_981 (by decide) (fun c980 => ?_) (fun c980 => ?_)
  · have h := h.1 c980
    obtain ⟨v83, ev83⟩ : ∃ z : Int32, z = x3 + (6 : Int32) := ⟨_, rfl⟩
    have h := h v83 ev83
    refine am_iinc (v := v83) (l' := [(3, .int v83), (0, .ref b), (1, .ref (g.1 + 0)), (2, .ref (g.1 + 30))]) d_L_law_2068 3 rfl (by rw [ev83]; rfl) (by decide) rfl ?_
    refine am_goto (tgt := 18) d_L_law_2071 (by decide) ?_
    refine am_sub [1, 2, 3, 0] rfl ?_
    exact hK18 v83 w82 h
  · have h := h.2 c980
    refine am_iconst (v := 0) d_L_law_984 rfl ?_
    exact am_ireturn d_L_law_985 rfl rfl (hQ (0 : Int32) w82 h)
theorem cf_L_law_B986_ok {g : ayG} {d : Nat} (hd : 164 ≤ d) (b : Nat) (L : Nat) (xs : Nat → Int32)  (w : Wd) (K18 : Int32 → Wd → Prop) (P : Int32 → Wd → Prop) (Q : Option Value → Wd → Prop) (hQ : ∀ x w2, P x w2 → Q (some (.int x)) w2) (hK18 : ∀ (x3 : Int32) (w : Wd), (K18 x3 w → wp g (ay_Xs g b L xs) y_L_law code 4 ret d 18 [(0, .ref b), (1, .ref (g.1 + 0)), (2, .ref (g.1 + 30)), (3, .int x3)] [] w Q)) (x3 : Int32) (h : cf_L_law_B986 b L xs K18 P x3 w) : wp g (ay_Xs g b L xs) y_L_law code 4 ret d 986 [(0, .ref b), (1, .ref (g.1 + 0)), (2, .ref (g.1 + 30)), (3, .int x3)] [] w Q := by
  unfold cf_L_law_B986 at h
  refine am_aload_n d_L_law_986 1 rfl ?_
  refine am_aload_n d_L_law_987 0 rfl ?_
  refine am_iload_n d_L_law_988 3 rfl ?_
  refine am_iconst (v := 1) d_L_law_989 rfl ?_
  refine am_iadd d_L_law_990 ?_
  have hi991 := h.1
  have h := h.2
  refine am_sld d_L_law_991 hi991 ?_
  refine am_callV (C := "TriSplits") (d2 := d - 1) [.int (xs (x3 + (1 : Int32)).toNatClampNeg)] d_L_law_992 mi_T_jump wd_591 wd_592 wd_593 (by decide) (el_T (show ay_sh 0 = _ from rfl)) rfl rfl (by omega) rfl rfl (Nat.le_of_ble_eq_true rfl) ?_
  refine Call.post ?_ (cf_T_jump_ok (by omega) (xs (x3 + (1 : Int32)).toNatClampNeg)  w _ h)
  rintro _ w85 ⟨r84, rfl, h⟩
  show wp g (ay_Xs g b L xs) y_L_law code 4 ret d 995 [(0, .ref b), (1, .ref (g.1 + 0)), (2, .ref (g.1 + 30)), (3, .int x3)] [.long r84] w85 Q
  refine am_aload_n d_L_law_995 2 rfl ?_
  refine am_aload_n d_L_law_996 0 rfl ?_
  refine am_iload_n d_L_law_997 3 rfl ?_
  refine am_iconst (v := 1) d_L_law_998 rfl ?_
  refine am_iadd d_L_law_999 ?_
  have hi1000 := h.1
  have h := h.2
  refine am_sld d_L_law_1000 hi1000 ?_
  refine am_callV (C := "TriSplitsModel") (d2 := d - 1) [.int (xs (x3 + (1 : Int32)).toNatClampNeg)] d_L_law_1001 mi_M_jump wd_1415 wd_1416 wd_1417 (by decide) (el_M (show ay_sh 30 = _ from rfl)) rfl rfl (by omega) rfl rfl (Nat.le_of_ble_eq_true rfl) ?_
  refine Call.post ?_ (cf_M_jump_ok (by omega) (xs (x3 + (1 : Int32)).toNatClampNeg)  w85 _ h)
  rintro _ w87 ⟨r86, rfl, h⟩
  show wp g (ay_Xs g b L xs) y_L_law code 4 ret d 1004 [(0, .ref b), (1, .ref (g.1 + 0)), (2, .ref (g.1 + 30)), (3, .int x3)] [.long r86, .long r84] w87 Q
  refine am_lif_eq (tgt := 2068) d_L_law_1004 d_L_law_1005 (by decide) (fun c1004 => ?_) (fun c1004 => ?_)
  · have h := h.1 c1004
    obtain ⟨v88, ev88⟩ : ∃ z : Int32, z = x3 + (6 : Int32) := ⟨_, rfl⟩
    have h := h v88 ev88
    refine am_iinc (v := v88) (l' := [(3, .int v88), (0, .ref b), (1, .ref (g.1 + 0)), (2, .ref (g.1 + 30))]) d_L_law_2068 3 rfl (by rw [ev88]; rfl) (by decide) rfl ?_
    refine am_goto (tgt := 18) d_L_law_2071 (by decide) ?_
    refine am_sub [1, 2, 3, 0] rfl ?_
    exact hK18 v88 w87 h
  · have h := h.2 c1004
    refine am_iconst (v := 0) d_L_law_1008 rfl ?_
    exact am_ireturn d_L_law_1009 rfl rfl (hQ (0 : Int32) w87 h)
theorem cf_L_law_B1010_ok {g : ayG} {d : Nat} (hd : 164 ≤ d) (b : Nat) (L : Nat) (xs : Nat → Int32)  (w : Wd) (K18 : Int32 → Wd → Prop) (P : Int32 → Wd → Prop) (Q : Option Value → Wd → Prop) (hQ : ∀ x w2, P x w2 → Q (some (.int x)) w2) (hK18 : ∀ (x3 : Int32) (w : Wd), (K18 x3 w → wp g (ay_Xs g b L xs) y_L_law code 4 ret d 18 [(0, .ref b), (1, .ref (g.1 + 0)), (2, .ref (g.1 + 30)), (3, .int x3)] [] w Q)) (x3 : Int32) (h : cf_L_law_B1010 b L xs K18 P x3 w) : wp g (ay_Xs g b L xs) y_L_law code 4 ret d 1010 [(0, .ref b), (1, .ref (g.1 + 0)), (2, .ref (g.1 + 30)), (3, .int x3)] [] w Q := by
  unfold cf_L_law_B1010 at h
  refine am_aload_n d_L_law_1010 1 rfl ?_
  refine am_callV (C := "TriSplits") (d2 := d - 1) [] d_L_law_1011 mi_T_undo wd_602 wd_603 wd_604 (by decide) (el_T (show ay_sh 0 = _ from rfl)) rfl rfl (by omega) rfl rfl (Nat.le_of_ble_eq_true rfl) ?_
  refine Call.post ?_ (cf_T_undo_ok (by omega)   w _ h)
  rintro _ w90 ⟨r89, rfl, h⟩
  show wp g (ay_Xs g b L xs) y_L_law code 4 ret d 1014 [(0, .ref b), (1, .ref (g.1 + 0)), (2, .ref (g.1 + 30)), (3, .int x3)] [.int r89] w90 Q
  refine am_aload_n d_L_law_1014 2 rfl ?_
  refine am_callV (C := "TriSplitsModel") (d2 := d - 1) [] d_L_law_1015 mi_M_undo wd_1484 wd_1485 wd_1486 (by decide) (el_M (show ay_sh 30 = _ from rfl)) rfl rfl (by omega) rfl rfl (Nat.le_of_ble_eq_true rfl) ?_
  refine Call.post ?_ (cf_M_undo_ok (by omega)   w90 _ h)
  rintro _ w92 ⟨r91, rfl, h⟩
  show wp g (ay_Xs g b L xs) y_L_law code 4 ret d 1018 [(0, .ref b), (1, .ref (g.1 + 0)), (2, .ref (g.1 + 30)), (3, .int x3)] [.int r91, .int r89] w92 Q
  refine am_icmp_eq (tgt := 2068) d_L_law_1018 (by decide) (fun c1018 => ?_) (fun c1018 => ?_)
  · have h := h.1 c1018
    obtain ⟨v93, ev93⟩ : ∃ z : Int32, z = x3 + (6 : Int32) := ⟨_, rfl⟩
    have h := h v93 ev93
    refine am_iinc (v := v93) (l' := [(3, .int v93), (0, .ref b), (1, .ref (g.1 + 0)), (2, .ref (g.1 + 30))]) d_L_law_2068 3 rfl (by rw [ev93]; rfl) (by decide) rfl ?_
    refine am_goto (tgt := 18) d_L_law_2071 (by decide) ?_
    refine am_sub [1, 2, 3, 0] rfl ?_
    exact hK18 v93 w92 h
  · have h := h.2 c1018
    refine am_iconst (v := 0) d_L_law_1021 rfl ?_
    exact am_ireturn d_L_law_1022 rfl rfl (hQ (0 : Int32) w92 h)
theorem cf_L_law_B1023_ok {g : ayG} {d : Nat} (hd : 164 ≤ d) (b : Nat) (L : Nat) (xs : Nat → Int32)  (w : Wd) (K18 : Int32 → Wd → Prop) (P : Int32 → Wd → Prop) (Q : Option Value → Wd → Prop) (hQ : ∀ x w2, P x w2 → Q (some (.int x)) w2) (hK18 : ∀ (x3 : Int32) (w : Wd), (K18 x3 w → wp g (ay_Xs g b L xs) y_L_law code 4 ret d 18 [(0, .ref b), (1, .ref (g.1 + 0)), (2, .ref (g.1 + 30)), (3, .int x3)] [] w Q)) (x3 : Int32) (h : cf_L_law_B1023 b L xs K18 P x3 w) : wp g (ay_Xs g b L xs) y_L_law code 4 ret d 1023 [(0, .ref b), (1, .ref (g.1 + 0)), (2, .ref (g.1 + 30)), (3, .int x3)] [] w Q := by
  unfold cf_L_law_B1023 at h
  refine am_aload_n d_L_law_1023 1 rfl ?_
  refine am_aload_n d_L_law_1024 0 rfl ?_
  refine am_iload_n d_L_law_1025 3 rfl ?_
  refine am_iconst (v := 1) d_L_law_1026 rfl ?_
  refine am_iadd d_L_law_1027 ?_
  have hi1028 := h.1
  have h := h.2
  refine am_sld d_L_law_1028 hi1028 ?_
  refine am_callV (C := "TriSplits") (d2 := d - 1) [.int (xs (x3 + (1 : Int32)).toNatClampNeg)] d_L_law_1029 mi_T_keep wd_614 wd_615 wd_616 (by decide) (el_T (show ay_sh 0 = _ from rfl)) rfl rfl (by omega) rfl rfl (Nat.le_of_ble_eq_true rfl) ?_
  refine Call.post ?_ (cf_T_keep_ok (by omega) (xs (x3 + (1 : Int32)).toNatClampNeg)  w _ h)
  rintro _ w95 ⟨r94, rfl, h⟩
  show wp g (ay_Xs g b L xs) y_L_law code 4 ret d 1032 [(0, .ref b), (1, .ref (g.1 + 0)), (2, .ref (g.1 + 30)), (3, .int x3)] [.int r94] w95 Q
  refine am_aload_n d_L_law_1032 2 rfl ?_
  refine am_aload_n d_L_law_1033 0 rfl ?_
  refine am_iload_n d_L_law_1034 3 rfl ?_
  refine am_iconst (v := 1) d_L_law_1035 rfl ?_
  refine am_iadd d_L_law_1036 ?_
  have hi1037 := h.1
  have h := h.2
  refine am_sld d_L_law_1037 hi1037 ?_
  refine am_callV (C := "TriSplitsModel") (d2 := d - 1) [.int (xs (x3 + (1 : Int32)).toNatClampNeg)] d_L_law_1038 mi_M_keep wd_1488 wd_1489 wd_1490 (by decide) (el_M (show ay_sh 30 = _ from rfl)) rfl rfl (by omega) rfl rfl (Nat.le_of_ble_eq_true rfl) ?_
  refine Call.post ?_ (cf_M_keep_ok (by omega) (xs (x3 + (1 : Int32)).toNatClampNeg)  w95 _ h)
  rintro _ w97 ⟨r96, rfl, h⟩
  show wp g (ay_Xs g b L xs) y_L_law code 4 ret d 1041 [(0, .ref b), (1, .ref (g.1 + 0)), (2, .ref (g.1 + 30)), (3, .int x3)] [.int r96, .int r94] w97 Q
  refine am_icmp_eq (tgt := 2068) d_L_law_1041 (by decide) (fun c1041 => ?_) (fun c1041 => ?_)
  · have h := h.1 c1041
    obtain ⟨v98, ev98⟩ : ∃ z : Int32, z = x3 + (6 : Int32) := ⟨_, rfl⟩
    have h := h v98 ev98
    refine am_iinc (v := v98) (l' := [(3, .int v98), (0, .ref b), (1, .ref (g.1 + 0)), (2, .ref (g.1 + 30))]) d_L_law_2068 3 rfl (by rw [ev98]; rfl) (by decide) rfl ?_
    refine am_goto (tgt := 18) d_L_law_2071 (by decide) ?_
    refine am_sub [1, 2, 3, 0] rfl ?_
    exact hK18 v98 w97 h
  · have h := h.2 c1041
    refine am_iconst (v := 0) d_L_law_1044 rfl ?_
    exact am_ireturn d_L_law_1045 rfl rfl (hQ (0 : Int32) w97 h)
theorem cf_L_law_B1046_ok {g : ayG} {d : Nat} (hd : 164 ≤ d) (b : Nat) (L : Nat) (xs : Nat → Int32)  (w : Wd) (K18 : Int32 → Wd → Prop) (P : Int32 → Wd → Prop) (Q : Option Value → Wd → Prop) (hQ : ∀ x w2, P x w2 → Q (some (.int x)) w2) (hK18 : ∀ (x3 : Int32) (w : Wd), (K18 x3 w → wp g (ay_Xs g b L xs) y_L_law code 4 ret d 18 [(0, .ref b), (1, .ref (g.1 + 0)), (2, .ref (g.1 + 30)), (3, .int x3)] [] w Q)) (x3 : Int32) (h : cf_L_law_B1046 b L xs K18 P x3 w) : wp g (ay_Xs g b L xs) y_L_law code 4 ret d 1046 [(0, .ref b), (1, .ref (g.1 + 0)), (2, .ref (g.1 + 30)), (3, .int x3)] [] w Q := by
  unfold cf_L_law_B1046 at h
  refine am_aload_n d_L_law_1046 1 rfl ?_
  refine am_aload_n d_L_law_1047 0 rfl ?_
  refine am_iload_n d_L_law_1048 3 rfl ?_
  refine am_iconst (v := 1) d_L_law_1049 rfl ?_
  refine am_iadd d_L_law_1050 ?_
  have hi1051 := h.1
  have h := h.2
  refine am_sld d_L_law_1051 hi1051 ?_
  refine am_callV (C := "TriSplits") (d2 := d - 1) [.int (xs (x3 + (1 : Int32)).toNatClampNeg)] d_L_law_1052 mi_T_back wd_625 wd_626 wd_627 (by decide) (el_T (show ay_sh 0 = _ from rfl)) rfl rfl (by omega) rfl rfl (Nat.le_of_ble_eq_true rfl) ?_
  refine Call.post ?_ (cf_T_back_ok (by omega) (xs (x3 + (1 : Int32)).toNatClampNeg)  w _ h)
  rintro _ w100 ⟨r99, rfl, h⟩
  show wp g (ay_Xs g b L xs) y_L_law code 4 ret d 1055 [(0, .ref b), (1, .ref (g.1 + 0)), (2, .ref (g.1 + 30)), (3, .int x3)] [.int r99] w100 Q
  refine am_aload_n d_L_law_1055 2 rfl ?_
  refine am_aload_n d_L_law_1056 0 rfl ?_
  refine am_iload_n d_L_law_1057 3 rfl ?_
  refine am_iconst (v := 1) d_L_law_1058 rfl ?_
  refine am_iadd d_L_law_1059 ?_
  have hi1060 := h.1
  have h := h.2
  refine am_sld d_L_law_1060 hi1060 ?_
  refine am_callV (C := "TriSplitsModel") (d2 := d - 1) [.int (xs (x3 + (1 : Int32)).toNatClampNeg)] d_L_law_1061 mi_M_back wd_1492 wd_1493 wd_1494 (by decide) (el_M (show ay_sh 30 = _ from rfl)) rfl rfl (by omega) rfl rfl (Nat.le_of_ble_eq_true rfl) ?_
  refine Call.post ?_ (cf_M_back_ok (by omega) (xs (x3 + (1 : Int32)).toNatClampNeg)  w100 _ h)
  rintro _ w102 ⟨r101, rfl, h⟩
  show wp g (ay_Xs g b L xs) y_L_law code 4 ret d 1064 [(0, .ref b), (1, .ref (g.1 + 0)), (2, .ref (g.1 + 30)), (3, .int x3)] [.int r101, .int r99] w102 Q
  refine am_icmp_eq (tgt := 2068) d_L_law_1064 (by decide) (fun c1064 => ?_) (fun c1064 => ?_)
  · have h := h.1 c1064
    obtain ⟨v103, ev103⟩ : ∃ z : Int32, z = x3 + (6 : Int32) := ⟨_, rfl⟩
    have h := h v103 ev103
    refine am_iinc (v := v103) (l' := [(3, .int v103), (0, .ref b), (1, .ref (g.1 + 0)), (2, .ref (g.1 + 30))]) d_L_law_2068 3 rfl (by rw [ev103]; rfl) (by decide) rfl ?_
    refine am_goto (tgt := 18) d_L_law_2071 (by decide) ?_
    refine am_sub [1, 2, 3, 0] rfl ?_
    exact hK18 v103 w102 h
  · have h := h.2 c1064
    refine am_iconst (v := 0) d_L_law_1067 rfl ?_
    exact am_ireturn d_L_law_1068 rfl rfl (hQ (0 : Int32) w102 h)
theorem cf_L_law_B1069_ok {g : ayG} {d : Nat} (hd : 164 ≤ d) (b : Nat) (L : Nat) (xs : Nat → Int32)  (w : Wd) (K18 : Int32 → Wd → Prop) (P : Int32 → Wd → Prop) (Q : Option Value → Wd → Prop) (hQ : ∀ x w2, P x w2 → Q (some (.int x)) w2) (hK18 : ∀ (x3 : Int32) (w : Wd), (K18 x3 w → wp g (ay_Xs g b L xs) y_L_law code 4 ret d 18 [(0, .ref b), (1, .ref (g.1 + 0)), (2, .ref (g.1 + 30)), (3, .int x3)] [] w Q)) (x3 : Int32) (h : cf_L_law_B1069 b L xs K18 P x3 w) : wp g (ay_Xs g b L xs) y_L_law code 4 ret d 1069 [(0, .ref b), (1, .ref (g.1 + 0)), (2, .ref (g.1 + 30)), (3, .int x3)] [] w Q := by
  unfold cf_L_law_B1069 at h
  refine am_aload_n d_L_law_1069 1 rfl ?_
  refine am_aload_n d_L_law_1070 0 rfl ?_
  refine am_iload_n d_L_law_1071 3 rfl ?_
  refine am_iconst (v := 1) d_L_law_1072 rfl ?_
  refine am_iadd d_L_law_1073 ?_
  have hi1074 := h.1
  have h := h.2
  refine am_sld d_L_law_1074 hi1074 ?_
  refine am_callV (C := "TriSplits") (d2 := d - 1) [.int (xs (x3 + (1 : Int32)).toNatClampNeg)] d_L_law_1075 mi_T_bits wd_634 wd_635 wd_636 (by decide) (el_T (show ay_sh 0 = _ from rfl)) rfl rfl (by omega) rfl rfl (Nat.le_of_ble_eq_true rfl) ?_
  refine Call.post ?_ (cf_T_bits_ok (by omega) (xs (x3 + (1 : Int32)).toNatClampNeg)  w _ h)
  rintro _ _ ⟨r104, rfl, rfl, h⟩
  show wp g (ay_Xs g b L xs) y_L_law code 4 ret d 1078 [(0, .ref b), (1, .ref (g.1 + 0)), (2, .ref (g.1 + 30)), (3, .int x3)] [.long r104] w Q
  refine am_aload_n d_L_law_1078 2 rfl ?_
  refine am_aload_n d_L_law_1079 0 rfl ?_
  refine am_iload_n d_L_law_1080 3 rfl ?_
  refine am_iconst (v := 1) d_L_law_1081 rfl ?_
  refine am_iadd d_L_law_1082 ?_
  have hi1083 := h.1
  have h := h.2
  refine am_sld d_L_law_1083 hi1083 ?_
  refine am_callV (C := "TriSplitsModel") (d2 := d - 1) [.int (xs (x3 + (1 : Int32)).toNatClampNeg)] d_L_law_1084 mi_M_bits wd_1184 wd_1185 wd_1186 (by decide) (el_M (show ay_sh 30 = _ from rfl)) rfl rfl (by omega) rfl rfl (Nat.le_of_ble_eq_true rfl) ?_
  refine Call.post ?_ (cf_M_bits_ok (by omega) (xs (x3 + (1 : Int32)).toNatClampNeg)  w _ h)
  rintro _ _ ⟨r105, rfl, rfl, h⟩
  show wp g (ay_Xs g b L xs) y_L_law code 4 ret d 1087 [(0, .ref b), (1, .ref (g.1 + 0)), (2, .ref (g.1 + 30)), (3, .int x3)] [.long r105, .long r104] w Q
  refine am_lif_eq (tgt := 2068) d_L_law_1087 d_L_law_1088 (by decide) (fun c1087 => ?_) (fun c1087 => ?_)
  · have h := h.1 c1087
    obtain ⟨v106, ev106⟩ : ∃ z : Int32, z = x3 + (6 : Int32) := ⟨_, rfl⟩
    have h := h v106 ev106
    refine am_iinc (v := v106) (l' := [(3, .int v106), (0, .ref b), (1, .ref (g.1 + 0)), (2, .ref (g.1 + 30))]) d_L_law_2068 3 rfl (by rw [ev106]; rfl) (by decide) rfl ?_
    refine am_goto (tgt := 18) d_L_law_2071 (by decide) ?_
    refine am_sub [1, 2, 3, 0] rfl ?_
    exact hK18 v106 w h
  · have h := h.2 c1087
    refine am_iconst (v := 0) d_L_law_1091 rfl ?_
    exact am_ireturn d_L_law_1092 rfl rfl (hQ (0 : Int32) w h)
theorem cf_L_law_B1093_ok {g : ayG} {d : Nat} (hd : 164 ≤ d) (b : Nat) (L : Nat) (xs : Nat → Int32)  (w : Wd) (K18 : Int32 → Wd → Prop) (P : Int32 → Wd → Prop) (Q : Option Value → Wd → Prop) (hQ : ∀ x w2, P x w2 → Q (some (.int x)) w2) (hK18 : ∀ (x3 : Int32) (w : Wd), (K18 x3 w → wp g (ay_Xs g b L xs) y_L_law code 4 ret d 18 [(0, .ref b), (1, .ref (g.1 + 0)), (2, .ref (g.1 + 30)), (3, .int x3)] [] w Q)) (x3 : Int32) (h : cf_L_law_B1093 b L xs K18 P x3 w) : wp g (ay_Xs g b L xs) y_L_law code 4 ret d 1093 [(0, .ref b), (1, .ref (g.1 + 0)), (2, .ref (g.1 + 30)), (3, .int x3)] [] w Q := by
  unfold cf_L_law_B1093 at h
  refine am_aload_n d_L_law_1093 1 rfl ?_
  refine am_aload_n d_L_law_1094 0 rfl ?_
  refine am_iload_n d_L_law_1095 3 rfl ?_
  refine am_iconst (v := 1) d_L_law_1096 rfl ?_
  refine am_iadd d_L_law_1097 ?_
  have hi1098 := h.1
  have h := h.2
  refine am_sld d_L_law_1098 hi1098 ?_
  refine am_aload_n d_L_law_1099 0 rfl ?_
  refine am_iload_n d_L_law_1100 3 rfl ?_
  refine am_iconst (v := 2) d_L_law_1101 rfl ?_
  refine am_iadd d_L_law_1102 ?_
  have hi1103 := h.1
  have h := h.2
  refine am_sld d_L_law_1103 hi1103 ?_
  refine am_callV (C := "TriSplits") (d2 := d - 1) [.int (xs (x3 + (1 : Int32)).toNatClampNeg), .int (xs (x3 + (2 : Int32)).toNatClampNeg)] d_L_law_1104 mi_T_poly wd_638 wd_639 wd_640 (by decide) (el_T (show ay_sh 0 = _ from rfl)) rfl rfl (by omega) rfl rfl (Nat.le_of_ble_eq_true rfl) ?_
  refine Call.post ?_ (cf_T_poly_ok (by omega) (xs (x3 + (1 : Int32)).toNatClampNeg) (xs (x3 + (2 : Int32)).toNatClampNeg)  w _ h)
  rintro _ w108 ⟨r107, rfl, h⟩
  show wp g (ay_Xs g b L xs) y_L_law code 4 ret d 1107 [(0, .ref b), (1, .ref (g.1 + 0)), (2, .ref (g.1 + 30)), (3, .int x3)] [.int r107] w108 Q
  refine am_aload_n d_L_law_1107 2 rfl ?_
  refine am_aload_n d_L_law_1108 0 rfl ?_
  refine am_iload_n d_L_law_1109 3 rfl ?_
  refine am_iconst (v := 1) d_L_law_1110 rfl ?_
  refine am_iadd d_L_law_1111 ?_
  have hi1112 := h.1
  have h := h.2
  refine am_sld d_L_law_1112 hi1112 ?_
  refine am_aload_n d_L_law_1113 0 rfl ?_
  refine am_iload_n d_L_law_1114 3 rfl ?_
  refine am_iconst (v := 2) d_L_law_1115 rfl ?_
  refine am_iadd d_L_law_1116 ?_
  have hi1117 := h.1
  have h := h.2
  refine am_sld d_L_law_1117 hi1117 ?_
  refine am_callV (C := "TriSplitsModel") (d2 := d - 1) [.int (xs (x3 + (1 : Int32)).toNatClampNeg), .int (xs (x3 + (2 : Int32)).toNatClampNeg)] d_L_law_1118 mi_M_poly wd_1195 wd_1196 wd_1197 (by decide) (el_M (show ay_sh 30 = _ from rfl)) rfl rfl (by omega) rfl rfl (Nat.le_of_ble_eq_true rfl) ?_
  refine Call.post ?_ (cf_M_poly_ok (by omega) (xs (x3 + (1 : Int32)).toNatClampNeg) (xs (x3 + (2 : Int32)).toNatClampNeg)  w108 _ h)
  rintro _ w110 ⟨r109, rfl, h⟩
  show wp g (ay_Xs g b L xs) y_L_law code 4 ret d 1121 [(0, .ref b), (1, .ref (g.1 + 0)), (2, .ref (g.1 + 30)), (3, .int x3)] [.int r109, .int r107] w110 Q
  refine am_icmp_eq (tgt := 2068) d_L_law_1121 (by decide) (fun c1121 => ?_) (fun c1121 => ?_)
  · have h := h.1 c1121
    obtain ⟨v111, ev111⟩ : ∃ z : Int32, z = x3 + (6 : Int32) := ⟨_, rfl⟩
    have h := h v111 ev111
    refine am_iinc (v := v111) (l' := [(3, .int v111), (0, .ref b), (1, .ref (g.1 + 0)), (2, .ref (g.1 + 30))]) d_L_law_2068 3 rfl (by rw [ev111]; rfl) (by decide) rfl ?_
    refine am_goto (tgt := 18) d_L_law_2071 (by decide) ?_
    refine am_sub [1, 2, 3, 0] rfl ?_
    exact hK18 v111 w110 h
  · have h := h.2 c1121
    refine am_iconst (v := 0) d_L_law_1124 rfl ?_
    exact am_ireturn d_L_law_1125 rfl rfl (hQ (0 : Int32) w110 h)
theorem cf_L_law_B1126_ok {g : ayG} {d : Nat} (hd : 164 ≤ d) (b : Nat) (L : Nat) (xs : Nat → Int32)  (w : Wd) (K18 : Int32 → Wd → Prop) (P : Int32 → Wd → Prop) (Q : Option Value → Wd → Prop) (hQ : ∀ x w2, P x w2 → Q (some (.int x)) w2) (hK18 : ∀ (x3 : Int32) (w : Wd), (K18 x3 w → wp g (ay_Xs g b L xs) y_L_law code 4 ret d 18 [(0, .ref b), (1, .ref (g.1 + 0)), (2, .ref (g.1 + 30)), (3, .int x3)] [] w Q)) (x3 : Int32) (h : cf_L_law_B1126 b L xs K18 P x3 w) : wp g (ay_Xs g b L xs) y_L_law code 4 ret d 1126 [(0, .ref b), (1, .ref (g.1 + 0)), (2, .ref (g.1 + 30)), (3, .int x3)] [] w Q := by
  unfold cf_L_law_B1126 at h
  refine am_aload_n d_L_law_1126 1 rfl ?_
  refine am_aload_n d_L_law_1127 0 rfl ?_
  refine am_iload_n d_L_law_1128 3 rfl ?_
  refine am_iconst (v := 1) d_L_law_1129 rfl ?_
  refine am_iadd d_L_law_1130 ?_
  have hi1131 := h.1
  have h := h.2
  refine am_sld d_L_law_1131 hi1131 ?_
  refine am_aload_n d_L_law_1132 0 rfl ?_
  refine am_iload_n d_L_law_1133 3 rfl ?_
  refine am_iconst (v := 2) d_L_law_1134 rfl ?_
  refine am_iadd d_L_law_1135 ?_
  have hi1136 := h.1
  have h := h.2
  refine am_sld d_L_law_1136 hi1136 ?_
  refine am_callV (C := "TriSplits") (d2 := d - 1) [.int (xs (x3 + (1 : Int32)).toNatClampNeg), .int (xs (x3 + (2 : Int32)).toNatClampNeg)] d_L_law_1137 mi_T_factor wd_724 wd_725 wd_726 (by decide) (el_T (show ay_sh 0 = _ from rfl)) rfl rfl (by omega) rfl rfl (Nat.le_of_ble_eq_true rfl) ?_
  refine Call.post ?_ (cf_T_factor_ok (by omega) (xs (x3 + (1 : Int32)).toNatClampNeg) (xs (x3 + (2 : Int32)).toNatClampNeg)  w _ h)
  rintro _ w113 ⟨r112, rfl, h⟩
  show wp g (ay_Xs g b L xs) y_L_law code 4 ret d 1140 [(0, .ref b), (1, .ref (g.1 + 0)), (2, .ref (g.1 + 30)), (3, .int x3)] [.long r112] w113 Q
  refine am_aload_n d_L_law_1140 2 rfl ?_
  refine am_aload_n d_L_law_1141 0 rfl ?_
  refine am_iload_n d_L_law_1142 3 rfl ?_
  refine am_iconst (v := 1) d_L_law_1143 rfl ?_
  refine am_iadd d_L_law_1144 ?_
  have hi1145 := h.1
  have h := h.2
  refine am_sld d_L_law_1145 hi1145 ?_
  refine am_aload_n d_L_law_1146 0 rfl ?_
  refine am_iload_n d_L_law_1147 3 rfl ?_
  refine am_iconst (v := 2) d_L_law_1148 rfl ?_
  refine am_iadd d_L_law_1149 ?_
  have hi1150 := h.1
  have h := h.2
  refine am_sld d_L_law_1150 hi1150 ?_
  refine am_callV (C := "TriSplitsModel") (d2 := d - 1) [.int (xs (x3 + (1 : Int32)).toNatClampNeg), .int (xs (x3 + (2 : Int32)).toNatClampNeg)] d_L_law_1151 mi_M_factor wd_1263 wd_1264 wd_1265 (by decide) (el_M (show ay_sh 30 = _ from rfl)) rfl rfl (by omega) rfl rfl (Nat.le_of_ble_eq_true rfl) ?_
  refine Call.post ?_ (cf_M_factor_ok (by omega) (xs (x3 + (1 : Int32)).toNatClampNeg) (xs (x3 + (2 : Int32)).toNatClampNeg)  w113 _ h)
  rintro _ w115 ⟨r114, rfl, h⟩
  show wp g (ay_Xs g b L xs) y_L_law code 4 ret d 1154 [(0, .ref b), (1, .ref (g.1 + 0)), (2, .ref (g.1 + 30)), (3, .int x3)] [.long r114, .long r112] w115 Q
  refine am_lif_eq (tgt := 2068) d_L_law_1154 d_L_law_1155 (by decide) (fun c1154 => ?_) (fun c1154 => ?_)
  · have h := h.1 c1154
    obtain ⟨v116, ev116⟩ : ∃ z : Int32, z = x3 + (6 : Int32) := ⟨_, rfl⟩
    have h := h v116 ev116
    refine am_iinc (v := v116) (l' := [(3, .int v116), (0, .ref b), (1, .ref (g.1 + 0)), (2, .ref (g.1 + 30))]) d_L_law_2068 3 rfl (by rw [ev116]; rfl) (by decide) rfl ?_
    refine am_goto (tgt := 18) d_L_law_2071 (by decide) ?_
    refine am_sub [1, 2, 3, 0] rfl ?_
    exact hK18 v116 w115 h
  · have h := h.2 c1154
    refine am_iconst (v := 0) d_L_law_1158 rfl ?_
    exact am_ireturn d_L_law_1159 rfl rfl (hQ (0 : Int32) w115 h)
theorem cf_L_law_B1160_ok {g : ayG} {d : Nat} (hd : 164 ≤ d) (b : Nat) (L : Nat) (xs : Nat → Int32)  (w : Wd) (K18 : Int32 → Wd → Prop) (P : Int32 → Wd → Prop) (Q : Option Value → Wd → Prop) (hQ : ∀ x w2, P x w2 → Q (some (.int x)) w2) (hK18 : ∀ (x3 : Int32) (w : Wd), (K18 x3 w → wp g (ay_Xs g b L xs) y_L_law code 4 ret d 18 [(0, .ref b), (1, .ref (g.1 + 0)), (2, .ref (g.1 + 30)), (3, .int x3)] [] w Q)) (x3 : Int32) (h : cf_L_law_B1160 b L xs K18 P x3 w) : wp g (ay_Xs g b L xs) y_L_law code 4 ret d 1160 [(0, .ref b), (1, .ref (g.1 + 0)), (2, .ref (g.1 + 30)), (3, .int x3)] [] w Q := by
  unfold cf_L_law_B1160 at h
  refine am_aload_n d_L_law_1160 1 rfl ?_
  refine am_aload_n d_L_law_1161 0 rfl ?_
  refine am_iload_n d_L_law_1162 3 rfl ?_
  refine am_iconst (v := 1) d_L_law_1163 rfl ?_
  refine am_iadd d_L_law_1164 ?_
  have hi1165 := h.1
  have h := h.2
  refine am_sld d_L_law_1165 hi1165 ?_
  refine am_aload_n d_L_law_1166 0 rfl ?_
  refine am_iload_n d_L_law_1167 3 rfl ?_
  refine am_iconst (v := 2) d_L_law_1168 rfl ?_
  refine am_iadd d_L_law_1169 ?_
  have hi1170 := h.1
  have h := h.2
  refine am_sld d_L_law_1170 hi1170 ?_
  refine am_callV (C := "TriSplits") (d2 := d - 1) [.int (xs (x3 + (1 : Int32)).toNatClampNeg), .int (xs (x3 + (2 : Int32)).toNatClampNeg)] d_L_law_1171 mi_T_ofDegree wd_736 wd_737 wd_738 (by decide) (el_T (show ay_sh 0 = _ from rfl)) rfl rfl (by omega) rfl rfl (Nat.le_of_ble_eq_true rfl) ?_
  refine Call.post ?_ (cf_T_ofDegree_ok (by omega) (xs (x3 + (1 : Int32)).toNatClampNeg) (xs (x3 + (2 : Int32)).toNatClampNeg)  w _ h)
  rintro _ w118 ⟨r117, rfl, h⟩
  show wp g (ay_Xs g b L xs) y_L_law code 4 ret d 1174 [(0, .ref b), (1, .ref (g.1 + 0)), (2, .ref (g.1 + 30)), (3, .int x3)] [.int r117] w118 Q
  refine am_aload_n d_L_law_1174 2 rfl ?_
  refine am_aload_n d_L_law_1175 0 rfl ?_
  refine am_iload_n d_L_law_1176 3 rfl ?_
  refine am_iconst (v := 1) d_L_law_1177 rfl ?_
  refine am_iadd d_L_law_1178 ?_
  have hi1179 := h.1
  have h := h.2
  refine am_sld d_L_law_1179 hi1179 ?_
  refine am_aload_n d_L_law_1180 0 rfl ?_
  refine am_iload_n d_L_law_1181 3 rfl ?_
  refine am_iconst (v := 2) d_L_law_1182 rfl ?_
  refine am_iadd d_L_law_1183 ?_
  have hi1184 := h.1
  have h := h.2
  refine am_sld d_L_law_1184 hi1184 ?_
  refine am_callV (C := "TriSplitsModel") (d2 := d - 1) [.int (xs (x3 + (1 : Int32)).toNatClampNeg), .int (xs (x3 + (2 : Int32)).toNatClampNeg)] d_L_law_1185 mi_M_ofDegree wd_1268 wd_1269 wd_1270 (by decide) (el_M (show ay_sh 30 = _ from rfl)) rfl rfl (by omega) rfl rfl (Nat.le_of_ble_eq_true rfl) ?_
  refine Call.post ?_ (cf_M_ofDegree_ok (by omega) (xs (x3 + (1 : Int32)).toNatClampNeg) (xs (x3 + (2 : Int32)).toNatClampNeg)  w118 _ h)
  rintro _ w120 ⟨r119, rfl, h⟩
  show wp g (ay_Xs g b L xs) y_L_law code 4 ret d 1188 [(0, .ref b), (1, .ref (g.1 + 0)), (2, .ref (g.1 + 30)), (3, .int x3)] [.int r119, .int r117] w120 Q
  refine am_icmp_eq (tgt := 2068) d_L_law_1188 (by decide) (fun c1188 => ?_) (fun c1188 => ?_)
  · have h := h.1 c1188
    obtain ⟨v121, ev121⟩ : ∃ z : Int32, z = x3 + (6 : Int32) := ⟨_, rfl⟩
    have h := h v121 ev121
    refine am_iinc (v := v121) (l' := [(3, .int v121), (0, .ref b), (1, .ref (g.1 + 0)), (2, .ref (g.1 + 30))]) d_L_law_2068 3 rfl (by rw [ev121]; rfl) (by decide) rfl ?_
    refine am_goto (tgt := 18) d_L_law_2071 (by decide) ?_
    refine am_sub [1, 2, 3, 0] rfl ?_
    exact hK18 v121 w120 h
  · have h := h.2 c1188
    refine am_iconst (v := 0) d_L_law_1191 rfl ?_
    exact am_ireturn d_L_law_1192 rfl rfl (hQ (0 : Int32) w120 h)
theorem cf_L_law_B1193_ok {g : ayG} {d : Nat} (hd : 164 ≤ d) (b : Nat) (L : Nat) (xs : Nat → Int32)  (w : Wd) (K18 : Int32 → Wd → Prop) (P : Int32 → Wd → Prop) (Q : Option Value → Wd → Prop) (hQ : ∀ x w2, P x w2 → Q (some (.int x)) w2) (hK18 : ∀ (x3 : Int32) (w : Wd), (K18 x3 w → wp g (ay_Xs g b L xs) y_L_law code 4 ret d 18 [(0, .ref b), (1, .ref (g.1 + 0)), (2, .ref (g.1 + 30)), (3, .int x3)] [] w Q)) (x3 : Int32) (h : cf_L_law_B1193 b L xs K18 P x3 w) : wp g (ay_Xs g b L xs) y_L_law code 4 ret d 1193 [(0, .ref b), (1, .ref (g.1 + 0)), (2, .ref (g.1 + 30)), (3, .int x3)] [] w Q := by
  unfold cf_L_law_B1193 at h
  refine am_aload_n d_L_law_1193 1 rfl ?_
  refine am_aload_n d_L_law_1194 0 rfl ?_
  refine am_iload_n d_L_law_1195 3 rfl ?_
  refine am_iconst (v := 1) d_L_law_1196 rfl ?_
  refine am_iadd d_L_law_1197 ?_
  have hi1198 := h.1
  have h := h.2
  refine am_sld d_L_law_1198 hi1198 ?_
  refine am_callV (C := "TriSplits") (d2 := d - 1) [.int (xs (x3 + (1 : Int32)).toNatClampNeg)] d_L_law_1199 mi_T_order wd_744 wd_745 wd_746 (by decide) (el_T (show ay_sh 0 = _ from rfl)) rfl rfl (by omega) rfl rfl (Nat.le_of_ble_eq_true rfl) ?_
  refine Call.post ?_ (cf_T_order_ok (by omega) (xs (x3 + (1 : Int32)).toNatClampNeg)  w _ h)
  rintro _ w123 ⟨r122, rfl, h⟩
  show wp g (ay_Xs g b L xs) y_L_law code 4 ret d 1202 [(0, .ref b), (1, .ref (g.1 + 0)), (2, .ref (g.1 + 30)), (3, .int x3)] [.long r122] w123 Q
  refine am_aload_n d_L_law_1202 2 rfl ?_
  refine am_aload_n d_L_law_1203 0 rfl ?_
  refine am_iload_n d_L_law_1204 3 rfl ?_
  refine am_iconst (v := 1) d_L_law_1205 rfl ?_
  refine am_iadd d_L_law_1206 ?_
  have hi1207 := h.1
  have h := h.2
  refine am_sld d_L_law_1207 hi1207 ?_
  refine am_callV (C := "TriSplitsModel") (d2 := d - 1) [.int (xs (x3 + (1 : Int32)).toNatClampNeg)] d_L_law_1208 mi_M_order wd_1273 wd_1274 wd_1275 (by decide) (el_M (show ay_sh 30 = _ from rfl)) rfl rfl (by omega) rfl rfl (Nat.le_of_ble_eq_true rfl) ?_
  refine Call.post ?_ (cf_M_order_ok (by omega) (xs (x3 + (1 : Int32)).toNatClampNeg)  w123 _ h)
  rintro _ w125 ⟨r124, rfl, h⟩
  show wp g (ay_Xs g b L xs) y_L_law code 4 ret d 1211 [(0, .ref b), (1, .ref (g.1 + 0)), (2, .ref (g.1 + 30)), (3, .int x3)] [.long r124, .long r122] w125 Q
  refine am_lif_eq (tgt := 2068) d_L_law_1211 d_L_law_1212 (by decide) (fun c1211 => ?_) (fun c1211 => ?_)
  · have h := h.1 c1211
    obtain ⟨v126, ev126⟩ : ∃ z : Int32, z = x3 + (6 : Int32) := ⟨_, rfl⟩
    have h := h v126 ev126
    refine am_iinc (v := v126) (l' := [(3, .int v126), (0, .ref b), (1, .ref (g.1 + 0)), (2, .ref (g.1 + 30))]) d_L_law_2068 3 rfl (by rw [ev126]; rfl) (by decide) rfl ?_
    refine am_goto (tgt := 18) d_L_law_2071 (by decide) ?_
    refine am_sub [1, 2, 3, 0] rfl ?_
    exact hK18 v126 w125 h
  · have h := h.2 c1211
    refine am_iconst (v := 0) d_L_law_1215 rfl ?_
    exact am_ireturn d_L_law_1216 rfl rfl (hQ (0 : Int32) w125 h)
theorem cf_L_law_B1217_ok {g : ayG} {d : Nat} (hd : 164 ≤ d) (b : Nat) (L : Nat) (xs : Nat → Int32)  (w : Wd) (K18 : Int32 → Wd → Prop) (P : Int32 → Wd → Prop) (Q : Option Value → Wd → Prop) (hQ : ∀ x w2, P x w2 → Q (some (.int x)) w2) (hK18 : ∀ (x3 : Int32) (w : Wd), (K18 x3 w → wp g (ay_Xs g b L xs) y_L_law code 4 ret d 18 [(0, .ref b), (1, .ref (g.1 + 0)), (2, .ref (g.1 + 30)), (3, .int x3)] [] w Q)) (x3 : Int32) (h : cf_L_law_B1217 b L xs K18 P x3 w) : wp g (ay_Xs g b L xs) y_L_law code 4 ret d 1217 [(0, .ref b), (1, .ref (g.1 + 0)), (2, .ref (g.1 + 30)), (3, .int x3)] [] w Q := by
  unfold cf_L_law_B1217 at h
  refine am_aload_n d_L_law_1217 1 rfl ?_
  refine am_aload_n d_L_law_1218 0 rfl ?_
  refine am_iload_n d_L_law_1219 3 rfl ?_
  refine am_iconst (v := 1) d_L_law_1220 rfl ?_
  refine am_iadd d_L_law_1221 ?_
  have hi1222 := h.1
  have h := h.2
  refine am_sld d_L_law_1222 hi1222 ?_
  refine am_aload_n d_L_law_1223 0 rfl ?_
  refine am_iload_n d_L_law_1224 3 rfl ?_
  refine am_iconst (v := 2) d_L_law_1225 rfl ?_
  refine am_iadd d_L_law_1226 ?_
  have hi1227 := h.1
  have h := h.2
  refine am_sld d_L_law_1227 hi1227 ?_
  refine am_callV (C := "TriSplits") (d2 := d - 1) [.int (xs (x3 + (1 : Int32)).toNatClampNeg), .int (xs (x3 + (2 : Int32)).toNatClampNeg)] d_L_law_1228 mi_T_swan wd_856 wd_857 wd_858 (by decide) (el_T (show ay_sh 0 = _ from rfl)) rfl rfl (by omega) rfl rfl (Nat.le_of_ble_eq_true rfl) ?_
  refine Call.post ?_ (cf_T_swan_ok (by omega) (xs (x3 + (1 : Int32)).toNatClampNeg) (xs (x3 + (2 : Int32)).toNatClampNeg)  w _ h)
  rintro _ _ ⟨r127, rfl, rfl, h⟩
  show wp g (ay_Xs g b L xs) y_L_law code 4 ret d 1231 [(0, .ref b), (1, .ref (g.1 + 0)), (2, .ref (g.1 + 30)), (3, .int x3)] [.int r127] w Q
  refine am_aload_n d_L_law_1231 2 rfl ?_
  refine am_aload_n d_L_law_1232 0 rfl ?_
  refine am_iload_n d_L_law_1233 3 rfl ?_
  refine am_iconst (v := 1) d_L_law_1234 rfl ?_
  refine am_iadd d_L_law_1235 ?_
  have hi1236 := h.1
  have h := h.2
  refine am_sld d_L_law_1236 hi1236 ?_
  refine am_aload_n d_L_law_1237 0 rfl ?_
  refine am_iload_n d_L_law_1238 3 rfl ?_
  refine am_iconst (v := 2) d_L_law_1239 rfl ?_
  refine am_iadd d_L_law_1240 ?_
  have hi1241 := h.1
  have h := h.2
  refine am_sld d_L_law_1241 hi1241 ?_
  refine am_callV (C := "TriSplitsModel") (d2 := d - 1) [.int (xs (x3 + (1 : Int32)).toNatClampNeg), .int (xs (x3 + (2 : Int32)).toNatClampNeg)] d_L_law_1242 mi_M_swan wd_1285 wd_1286 wd_1287 (by decide) (el_M (show ay_sh 30 = _ from rfl)) rfl rfl (by omega) rfl rfl (Nat.le_of_ble_eq_true rfl) ?_
  refine Call.post ?_ (cf_M_swan_ok (by omega) (xs (x3 + (1 : Int32)).toNatClampNeg) (xs (x3 + (2 : Int32)).toNatClampNeg)  w _ h)
  rintro _ _ ⟨r128, rfl, rfl, h⟩
  show wp g (ay_Xs g b L xs) y_L_law code 4 ret d 1245 [(0, .ref b), (1, .ref (g.1 + 0)), (2, .ref (g.1 + 30)), (3, .int x3)] [.int r128, .int r127] w Q
  refine am_icmp_eq (tgt := 2068) d_L_law_1245 (by decide) (fun c1245 => ?_) (fun c1245 => ?_)
  · have h := h.1 c1245
    obtain ⟨v129, ev129⟩ : ∃ z : Int32, z = x3 + (6 : Int32) := ⟨_, rfl⟩
    have h := h v129 ev129
    refine am_iinc (v := v129) (l' := [(3, .int v129), (0, .ref b), (1, .ref (g.1 + 0)), (2, .ref (g.1 + 30))]) d_L_law_2068 3 rfl (by rw [ev129]; rfl) (by decide) rfl ?_
    refine am_goto (tgt := 18) d_L_law_2071 (by decide) ?_
    refine am_sub [1, 2, 3, 0] rfl ?_
    exact hK18 v129 w h
  · have h := h.2 c1245
    refine am_iconst (v := 0) d_L_law_1248 rfl ?_
    exact am_ireturn d_L_law_1249 rfl rfl (hQ (0 : Int32) w h)
theorem cf_L_law_B1250_ok {g : ayG} {d : Nat} (hd : 164 ≤ d) (b : Nat) (L : Nat) (xs : Nat → Int32)  (w : Wd) (K18 : Int32 → Wd → Prop) (P : Int32 → Wd → Prop) (Q : Option Value → Wd → Prop) (hQ : ∀ x w2, P x w2 → Q (some (.int x)) w2) (hK18 : ∀ (x3 : Int32) (w : Wd), (K18 x3 w → wp g (ay_Xs g b L xs) y_L_law code 4 ret d 18 [(0, .ref b), (1, .ref (g.1 + 0)), (2, .ref (g.1 + 30)), (3, .int x3)] [] w Q)) (x3 : Int32) (h : cf_L_law_B1250 b L xs K18 P x3 w) : wp g (ay_Xs g b L xs) y_L_law code 4 ret d 1250 [(0, .ref b), (1, .ref (g.1 + 0)), (2, .ref (g.1 + 30)), (3, .int x3)] [] w Q := by
  unfold cf_L_law_B1250 at h
  refine am_aload_n d_L_law_1250 1 rfl ?_
  refine am_aload_n d_L_law_1251 0 rfl ?_
  refine am_iload_n d_L_law_1252 3 rfl ?_
  refine am_iconst (v := 1) d_L_law_1253 rfl ?_
  refine am_iadd d_L_law_1254 ?_
  have hi1255 := h.1
  have h := h.2
  refine am_sld d_L_law_1255 hi1255 ?_
  refine am_callV (C := "TriSplits") (d2 := d - 1) [.int (xs (x3 + (1 : Int32)).toNatClampNeg)] d_L_law_1256 mi_T_evens wd_872 wd_873 wd_874 (by decide) (el_T (show ay_sh 0 = _ from rfl)) rfl rfl (by omega) rfl rfl (Nat.le_of_ble_eq_true rfl) ?_
  refine Call.post ?_ (cf_T_evens_ok (by omega) (xs (x3 + (1 : Int32)).toNatClampNeg)  w _ h)
  rintro _ _ ⟨r130, rfl, rfl, h⟩
  show wp g (ay_Xs g b L xs) y_L_law code 4 ret d 1259 [(0, .ref b), (1, .ref (g.1 + 0)), (2, .ref (g.1 + 30)), (3, .int x3)] [.int r130] w Q
  refine am_aload_n d_L_law_1259 2 rfl ?_
  refine am_aload_n d_L_law_1260 0 rfl ?_
  refine am_iload_n d_L_law_1261 3 rfl ?_
  refine am_iconst (v := 1) d_L_law_1262 rfl ?_
  refine am_iadd d_L_law_1263 ?_
  have hi1264 := h.1
  have h := h.2
  refine am_sld d_L_law_1264 hi1264 ?_
  refine am_callV (C := "TriSplitsModel") (d2 := d - 1) [.int (xs (x3 + (1 : Int32)).toNatClampNeg)] d_L_law_1265 mi_M_evens wd_1293 wd_1294 wd_1295 (by decide) (el_M (show ay_sh 30 = _ from rfl)) rfl rfl (by omega) rfl rfl (Nat.le_of_ble_eq_true rfl) ?_
  refine Call.post ?_ (cf_M_evens_ok (by omega) (xs (x3 + (1 : Int32)).toNatClampNeg)  w _ h)
  rintro _ _ ⟨r131, rfl, rfl, h⟩
  show wp g (ay_Xs g b L xs) y_L_law code 4 ret d 1268 [(0, .ref b), (1, .ref (g.1 + 0)), (2, .ref (g.1 + 30)), (3, .int x3)] [.int r131, .int r130] w Q
  refine am_icmp_eq (tgt := 2068) d_L_law_1268 (by decide) (fun c1268 => ?_) (fun c1268 => ?_)
  · have h := h.1 c1268
    obtain ⟨v132, ev132⟩ : ∃ z : Int32, z = x3 + (6 : Int32) := ⟨_, rfl⟩
    have h := h v132 ev132
    refine am_iinc (v := v132) (l' := [(3, .int v132), (0, .ref b), (1, .ref (g.1 + 0)), (2, .ref (g.1 + 30))]) d_L_law_2068 3 rfl (by rw [ev132]; rfl) (by decide) rfl ?_
    refine am_goto (tgt := 18) d_L_law_2071 (by decide) ?_
    refine am_sub [1, 2, 3, 0] rfl ?_
    exact hK18 v132 w h
  · have h := h.2 c1268
    refine am_iconst (v := 0) d_L_law_1271 rfl ?_
    exact am_ireturn d_L_law_1272 rfl rfl (hQ (0 : Int32) w h)
theorem cf_L_law_B1273_ok {g : ayG} {d : Nat} (hd : 164 ≤ d) (b : Nat) (L : Nat) (xs : Nat → Int32)  (w : Wd) (K18 : Int32 → Wd → Prop) (P : Int32 → Wd → Prop) (Q : Option Value → Wd → Prop) (hQ : ∀ x w2, P x w2 → Q (some (.int x)) w2) (hK18 : ∀ (x3 : Int32) (w : Wd), (K18 x3 w → wp g (ay_Xs g b L xs) y_L_law code 4 ret d 18 [(0, .ref b), (1, .ref (g.1 + 0)), (2, .ref (g.1 + 30)), (3, .int x3)] [] w Q)) (x3 : Int32) (h : cf_L_law_B1273 b L xs K18 P x3 w) : wp g (ay_Xs g b L xs) y_L_law code 4 ret d 1273 [(0, .ref b), (1, .ref (g.1 + 0)), (2, .ref (g.1 + 30)), (3, .int x3)] [] w Q := by
  unfold cf_L_law_B1273 at h
  refine am_aload_n d_L_law_1273 1 rfl ?_
  refine am_aload_n d_L_law_1274 0 rfl ?_
  refine am_iload_n d_L_law_1275 3 rfl ?_
  refine am_iconst (v := 1) d_L_law_1276 rfl ?_
  refine am_iadd d_L_law_1277 ?_
  have hi1278 := h.1
  have h := h.2
  refine am_sld d_L_law_1278 hi1278 ?_
  refine am_aload_n d_L_law_1279 0 rfl ?_
  refine am_iload_n d_L_law_1280 3 rfl ?_
  refine am_iconst (v := 2) d_L_law_1281 rfl ?_
  refine am_iadd d_L_law_1282 ?_
  have hi1283 := h.1
  have h := h.2
  refine am_sld d_L_law_1283 hi1283 ?_
  refine am_callV (C := "TriSplits") (d2 := d - 1) [.int (xs (x3 + (1 : Int32)).toNatClampNeg), .int (xs (x3 + (2 : Int32)).toNatClampNeg)] d_L_law_1284 mi_T_multiple wd_880 wd_881 wd_882 (by decide) (el_T (show ay_sh 0 = _ from rfl)) rfl rfl (by omega) rfl rfl (Nat.le_of_ble_eq_true rfl) ?_
  refine Call.post ?_ (cf_T_multiple_ok (by omega) (xs (x3 + (1 : Int32)).toNatClampNeg) (xs (x3 + (2 : Int32)).toNatClampNeg)  w _ h)
  rintro _ w134 ⟨r133, rfl, h⟩
  show wp g (ay_Xs g b L xs) y_L_law code 4 ret d 1287 [(0, .ref b), (1, .ref (g.1 + 0)), (2, .ref (g.1 + 30)), (3, .int x3)] [.int r133] w134 Q
  refine am_aload_n d_L_law_1287 2 rfl ?_
  refine am_aload_n d_L_law_1288 0 rfl ?_
  refine am_iload_n d_L_law_1289 3 rfl ?_
  refine am_iconst (v := 1) d_L_law_1290 rfl ?_
  refine am_iadd d_L_law_1291 ?_
  have hi1292 := h.1
  have h := h.2
  refine am_sld d_L_law_1292 hi1292 ?_
  refine am_aload_n d_L_law_1293 0 rfl ?_
  refine am_iload_n d_L_law_1294 3 rfl ?_
  refine am_iconst (v := 2) d_L_law_1295 rfl ?_
  refine am_iadd d_L_law_1296 ?_
  have hi1297 := h.1
  have h := h.2
  refine am_sld d_L_law_1297 hi1297 ?_
  refine am_callV (C := "TriSplitsModel") (d2 := d - 1) [.int (xs (x3 + (1 : Int32)).toNatClampNeg), .int (xs (x3 + (2 : Int32)).toNatClampNeg)] d_L_law_1298 mi_M_multiple wd_1297 wd_1298 wd_1299 (by decide) (el_M (show ay_sh 30 = _ from rfl)) rfl rfl (by omega) rfl rfl (Nat.le_of_ble_eq_true rfl) ?_
  refine Call.post ?_ (cf_M_multiple_ok (by omega) (xs (x3 + (1 : Int32)).toNatClampNeg) (xs (x3 + (2 : Int32)).toNatClampNeg)  w134 _ h)
  rintro _ w136 ⟨r135, rfl, h⟩
  show wp g (ay_Xs g b L xs) y_L_law code 4 ret d 1301 [(0, .ref b), (1, .ref (g.1 + 0)), (2, .ref (g.1 + 30)), (3, .int x3)] [.int r135, .int r133] w136 Q
  refine am_icmp_eq (tgt := 2068) d_L_law_1301 (by decide) (fun c1301 => ?_) (fun c1301 => ?_)
  · have h := h.1 c1301
    obtain ⟨v137, ev137⟩ : ∃ z : Int32, z = x3 + (6 : Int32) := ⟨_, rfl⟩
    have h := h v137 ev137
    refine am_iinc (v := v137) (l' := [(3, .int v137), (0, .ref b), (1, .ref (g.1 + 0)), (2, .ref (g.1 + 30))]) d_L_law_2068 3 rfl (by rw [ev137]; rfl) (by decide) rfl ?_
    refine am_goto (tgt := 18) d_L_law_2071 (by decide) ?_
    refine am_sub [1, 2, 3, 0] rfl ?_
    exact hK18 v137 w136 h
  · have h := h.2 c1301
    refine am_iconst (v := 0) d_L_law_1304 rfl ?_
    exact am_ireturn d_L_law_1305 rfl rfl (hQ (0 : Int32) w136 h)
theorem cf_L_law_B1306_ok {g : ayG} {d : Nat} (hd : 164 ≤ d) (b : Nat) (L : Nat) (xs : Nat → Int32)  (w : Wd) (K18 : Int32 → Wd → Prop) (P : Int32 → Wd → Prop) (Q : Option Value → Wd → Prop) (hQ : ∀ x w2, P x w2 → Q (some (.int x)) w2) (hK18 : ∀ (x3 : Int32) (w : Wd), (K18 x3 w → wp g (ay_Xs g b L xs) y_L_law code 4 ret d 18 [(0, .ref b), (1, .ref (g.1 + 0)), (2, .ref (g.1 + 30)), (3, .int x3)] [] w Q)) (x3 : Int32) (h : cf_L_law_B1306 b L xs K18 P x3 w) : wp g (ay_Xs g b L xs) y_L_law code 4 ret d 1306 [(0, .ref b), (1, .ref (g.1 + 0)), (2, .ref (g.1 + 30)), (3, .int x3)] [] w Q := by
  unfold cf_L_law_B1306 at h
  refine am_aload_n d_L_law_1306 1 rfl ?_
  refine am_aload_n d_L_law_1307 0 rfl ?_
  refine am_iload_n d_L_law_1308 3 rfl ?_
  refine am_iconst (v := 1) d_L_law_1309 rfl ?_
  refine am_iadd d_L_law_1310 ?_
  have hi1311 := h.1
  have h := h.2
  refine am_sld d_L_law_1311 hi1311 ?_
  refine am_i2l d_L_law_1312 ?_
  refine am_bipush (v := 32) d_L_law_1313 rfl ?_
  refine am_lshl d_L_law_1315 ?_
  refine am_aload_n d_L_law_1316 0 rfl ?_
  refine am_iload_n d_L_law_1317 3 rfl ?_
  refine am_iconst (v := 2) d_L_law_1318 rfl ?_
  refine am_iadd d_L_law_1319 ?_
  have hi1320 := h.1
  have h := h.2
  refine am_sld d_L_law_1320 hi1320 ?_
  refine am_i2l d_L_law_1321 ?_
  refine am_ldc2 (v := 4294967295) d_L_law_1322 wd_1681 ?_
  refine am_land d_L_law_1325 ?_
  refine am_lor d_L_law_1326 ?_
  refine am_aload_n d_L_law_1327 0 rfl ?_
  refine am_iload_n d_L_law_1328 3 rfl ?_
  refine am_iconst (v := 3) d_L_law_1329 rfl ?_
  refine am_iadd d_L_law_1330 ?_
  have hi1331 := h.1
  have h := h.2
  refine am_sld d_L_law_1331 hi1331 ?_
  refine am_aload_n d_L_law_1332 0 rfl ?_
  refine am_iload_n d_L_law_1333 3 rfl ?_
  refine am_iconst (v := 4) d_L_law_1334 rfl ?_
  refine am_iadd d_L_law_1335 ?_
  have hi1336 := h.1
  have h := h.2
  refine am_sld d_L_law_1336 hi1336 ?_
  refine am_callV (C := "TriSplits") (d2 := d - 1) [.long ((lshl ((xs (x3 + (1 : Int32)).toNatClampNeg).toInt64) (32 : Int32)) ||| (((xs (x3 + (2 : Int32)).toNatClampNeg).toInt64) &&& (4294967295 : Int64))), .int (xs (x3 + (3 : Int32)).toNatClampNeg), .int (xs (x3 + (4 : Int32)).toNatClampNeg)] d_L_law_1337 mi_T_shortest wd_897 wd_898 wd_899 (by decide) (el_T (show ay_sh 0 = _ from rfl)) rfl rfl (by omega) rfl rfl (Nat.le_of_ble_eq_true rfl) ?_
  refine Call.post ?_ (cf_T_shortest_ok (by omega) ((lshl ((xs (x3 + (1 : Int32)).toNatClampNeg).toInt64) (32 : Int32)) ||| (((xs (x3 + (2 : Int32)).toNatClampNeg).toInt64) &&& (4294967295 : Int64))) (xs (x3 + (3 : Int32)).toNatClampNeg) (xs (x3 + (4 : Int32)).toNatClampNeg)  w _ h)
  rintro _ _ ⟨r138, rfl, rfl, h⟩
  show wp g (ay_Xs g b L xs) y_L_law code 4 ret d 1340 [(0, .ref b), (1, .ref (g.1 + 0)), (2, .ref (g.1 + 30)), (3, .int x3)] [.long r138] w Q
  refine am_aload_n d_L_law_1340 2 rfl ?_
  refine am_aload_n d_L_law_1341 0 rfl ?_
  refine am_iload_n d_L_law_1342 3 rfl ?_
  refine am_iconst (v := 1) d_L_law_1343 rfl ?_
  refine am_iadd d_L_law_1344 ?_
  have hi1345 := h.1
  have h := h.2
  refine am_sld d_L_law_1345 hi1345 ?_
  refine am_i2l d_L_law_1346 ?_
  refine am_bipush (v := 32) d_L_law_1347 rfl ?_
  refine am_lshl d_L_law_1349 ?_
  refine am_aload_n d_L_law_1350 0 rfl ?_
  refine am_iload_n d_L_law_1351 3 rfl ?_
  refine am_iconst (v := 2) d_L_law_1352 rfl ?_
  refine am_iadd d_L_law_1353 ?_
  have hi1354 := h.1
  have h := h.2
  refine am_sld d_L_law_1354 hi1354 ?_
  refine am_i2l d_L_law_1355 ?_
  refine am_ldc2 (v := 4294967295) d_L_law_1356 wd_1681 ?_
  refine am_land d_L_law_1359 ?_
  refine am_lor d_L_law_1360 ?_
  refine am_aload_n d_L_law_1361 0 rfl ?_
  refine am_iload_n d_L_law_1362 3 rfl ?_
  refine am_iconst (v := 3) d_L_law_1363 rfl ?_
  refine am_iadd d_L_law_1364 ?_
  have hi1365 := h.1
  have h := h.2
  refine am_sld d_L_law_1365 hi1365 ?_
  refine am_aload_n d_L_law_1366 0 rfl ?_
  refine am_iload_n d_L_law_1367 3 rfl ?_
  refine am_iconst (v := 4) d_L_law_1368 rfl ?_
  refine am_iadd d_L_law_1369 ?_
  have hi1370 := h.1
  have h := h.2
  refine am_sld d_L_law_1370 hi1370 ?_
  refine am_callV (C := "TriSplitsModel") (d2 := d - 1) [.long ((lshl ((xs (x3 + (1 : Int32)).toNatClampNeg).toInt64) (32 : Int32)) ||| (((xs (x3 + (2 : Int32)).toNatClampNeg).toInt64) &&& (4294967295 : Int64))), .int (xs (x3 + (3 : Int32)).toNatClampNeg), .int (xs (x3 + (4 : Int32)).toNatClampNeg)] d_L_law_1371 mi_M_shortest wd_1368 wd_1369 wd_1370 (by decide) (el_M (show ay_sh 30 = _ from rfl)) rfl rfl (by omega) rfl rfl (Nat.le_of_ble_eq_true rfl) ?_
  refine Call.post ?_ (cf_M_shortest_ok (by omega) ((lshl ((xs (x3 + (1 : Int32)).toNatClampNeg).toInt64) (32 : Int32)) ||| (((xs (x3 + (2 : Int32)).toNatClampNeg).toInt64) &&& (4294967295 : Int64))) (xs (x3 + (3 : Int32)).toNatClampNeg) (xs (x3 + (4 : Int32)).toNatClampNeg)  w _ h)
  rintro _ w140 ⟨r139, rfl, h⟩
  show wp g (ay_Xs g b L xs) y_L_law code 4 ret d 1374 [(0, .ref b), (1, .ref (g.1 + 0)), (2, .ref (g.1 + 30)), (3, .int x3)] [.long r139, .long r138] w140 Q
  refine am_lif_eq (tgt := 2068) d_L_law_1374 d_L_law_1375 (by decide) (fun c1374 => ?_) (fun c1374 => ?_)
  · have h := h.1 c1374
    obtain ⟨v141, ev141⟩ : ∃ z : Int32, z = x3 + (6 : Int32) := ⟨_, rfl⟩
    have h := h v141 ev141
    refine am_iinc (v := v141) (l' := [(3, .int v141), (0, .ref b), (1, .ref (g.1 + 0)), (2, .ref (g.1 + 30))]) d_L_law_2068 3 rfl (by rw [ev141]; rfl) (by decide) rfl ?_
    refine am_goto (tgt := 18) d_L_law_2071 (by decide) ?_
    refine am_sub [1, 2, 3, 0] rfl ?_
    exact hK18 v141 w140 h
  · have h := h.2 c1374
    refine am_iconst (v := 0) d_L_law_1378 rfl ?_
    exact am_ireturn d_L_law_1379 rfl rfl (hQ (0 : Int32) w140 h)
theorem cf_L_law_B1399_ok {g : ayG} {d : Nat} (hd : 164 ≤ d) (b : Nat) (L : Nat) (xs : Nat → Int32)  (w : Wd) (K18 : Int32 → Wd → Prop) (P : Int32 → Wd → Prop) (Q : Option Value → Wd → Prop) (hQ : ∀ x w2, P x w2 → Q (some (.int x)) w2) (hK18 : ∀ (x3 : Int32) (w : Wd), (K18 x3 w → wp g (ay_Xs g b L xs) y_L_law code 4 ret d 18 [(0, .ref b), (1, .ref (g.1 + 0)), (2, .ref (g.1 + 30)), (3, .int x3)] [] w Q)) (x3 : Int32) (s0 : Int32) (s1 : Int32) (h : cf_L_law_B1399 b L xs K18 P x3 s0 s1 w) : wp g (ay_Xs g b L xs) y_L_law code 4 ret d 1399 [(0, .ref b), (1, .ref (g.1 + 0)), (2, .ref (g.1 + 30)), (3, .int x3)] [.int s0, .int s1, .ref (g.1 + 0)] w Q := by
  unfold cf_L_law_B1399 at h
  refine am_aload_n d_L_law_1399 0 rfl ?_
  refine am_iload_n d_L_law_1400 3 rfl ?_
  refine am_iconst (v := 3) d_L_law_1401 rfl ?_
  refine am_iadd d_L_law_1402 ?_
  have hi1403 := h.1
  have h := h.2
  refine am_sld d_L_law_1403 hi1403 ?_
  refine am_callV (C := "TriSplits") (d2 := d - 1) [.int s1, .int s0, .int (xs (x3 + (3 : Int32)).toNatClampNeg)] d_L_law_1404 mi_T_trinomial wd_920 wd_921 wd_922 (by decide) (el_T (show ay_sh 0 = _ from rfl)) rfl rfl (by omega) rfl rfl (Nat.le_of_ble_eq_true rfl) ?_
  refine Call.post ?_ (cf_T_trinomial_ok (by omega) s1 s0 (xs (x3 + (3 : Int32)).toNatClampNeg)  w _ h)
  rintro _ w143 ⟨r142, rfl, h⟩
  show wp g (ay_Xs g b L xs) y_L_law code 4 ret d 1407 [(0, .ref b), (1, .ref (g.1 + 0)), (2, .ref (g.1 + 30)), (3, .int x3)] [.int r142] w143 Q
  refine am_aload_n d_L_law_1407 2 rfl ?_
  refine am_aload_n d_L_law_1408 0 rfl ?_
  refine am_iload_n d_L_law_1409 3 rfl ?_
  refine am_iconst (v := 1) d_L_law_1410 rfl ?_
  refine am_iadd d_L_law_1411 ?_
  have hi1412 := h.1
  have h := h.2
  refine am_sld d_L_law_1412 hi1412 ?_
  refine am_aload_n d_L_law_1413 0 rfl ?_
  refine am_iload_n d_L_law_1414 3 rfl ?_
  refine am_iconst (v := 2) d_L_law_1415 rfl ?_
  refine am_iadd d_L_law_1416 ?_
  have hi1417 := h.1
  have h := h.2
  refine am_sld d_L_law_1417 hi1417 ?_
  refine am_if_eq (tgt := 1425) d_L_law_1418 (by decide) (fun c1418 => ?_) (fun c1418 => ?_)
  · have h := h.1 c1418
    refine am_iconst (v := 0) d_L_law_1425 rfl ?_
    refine am_aload_n d_L_law_1426 0 rfl ?_
    refine am_iload_n d_L_law_1427 3 rfl ?_
    refine am_iconst (v := 3) d_L_law_1428 rfl ?_
    refine am_iadd d_L_law_1429 ?_
    have hi1430 := h.1
    have h := h.2
    refine am_sld d_L_law_1430 hi1430 ?_
    refine am_callV (C := "TriSplitsModel") (d2 := d - 1) [.int (xs (x3 + (1 : Int32)).toNatClampNeg), .int (0 : Int32), .int (xs (x3 + (3 : Int32)).toNatClampNeg)] d_L_law_1431 mi_M_trinomial wd_1301 wd_1302 wd_1303 (by decide) (el_M (show ay_sh 30 = _ from rfl)) rfl rfl (by omega) rfl rfl (Nat.le_of_ble_eq_true rfl) ?_
    refine Call.post ?_ (cf_M_trinomial_ok (by omega) (xs (x3 + (1 : Int32)).toNatClampNeg) (0 : Int32) (xs (x3 + (3 : Int32)).toNatClampNeg)  w143 _ h)
    rintro _ w145 ⟨r144, rfl, h⟩
    show wp g (ay_Xs g b L xs) y_L_law code 4 ret d 1434 [(0, .ref b), (1, .ref (g.1 + 0)), (2, .ref (g.1 + 30)), (3, .int x3)] [.int r144, .int r142] w145 Q
    refine am_icmp_eq (tgt := 2068) d_L_law_1434 (by decide) (fun c1434 => ?_) (fun c1434 => ?_)
    · have h := h.1 c1434
      obtain ⟨v146, ev146⟩ : ∃ z : Int32, z = x3 + (6 : Int32) := ⟨_, rfl⟩
      have h := h v146 ev146
      refine am_iinc (v := v146) (l' := [(3, .int v146), (0, .ref b), (1, .ref (g.1 + 0)), (2, .ref (g.1 + 30))]) d_L_law_2068 3 rfl (by rw [ev146]; rfl) (by decide) rfl ?_
      refine am_goto (tgt := 18) d_L_law_2071 (by decide) ?_
      refine am_sub [1, 2, 3, 0] rfl ?_
      exact hK18 v146 w145 h
    · have h := h.2 c1434
      refine am_iconst (v := 0) d_L_law_1437 rfl ?_
      exact am_ireturn d_L_law_1438 rfl rfl (hQ (0 : Int32) w145 h)
  · have h := h.2 c1418
    refine am_iconst (v := 1) d_L_law_1421 rfl ?_
    refine am_goto (tgt := 1426) d_L_law_1422 (by decide) ?_
    refine am_aload_n d_L_law_1426 0 rfl ?_
    refine am_iload_n d_L_law_1427 3 rfl ?_
    refine am_iconst (v := 3) d_L_law_1428 rfl ?_
    refine am_iadd d_L_law_1429 ?_
    have hi1430 := h.1
    have h := h.2
    refine am_sld d_L_law_1430 hi1430 ?_
    refine am_callV (C := "TriSplitsModel") (d2 := d - 1) [.int (xs (x3 + (1 : Int32)).toNatClampNeg), .int (1 : Int32), .int (xs (x3 + (3 : Int32)).toNatClampNeg)] d_L_law_1431 mi_M_trinomial wd_1301 wd_1302 wd_1303 (by decide) (el_M (show ay_sh 30 = _ from rfl)) rfl rfl (by omega) rfl rfl (Nat.le_of_ble_eq_true rfl) ?_
    refine Call.post ?_ (cf_M_trinomial_ok (by omega) (xs (x3 + (1 : Int32)).toNatClampNeg) (1 : Int32) (xs (x3 + (3 : Int32)).toNatClampNeg)  w143 _ h)
    rintro _ w148 ⟨r147, rfl, h⟩
    show wp g (ay_Xs g b L xs) y_L_law code 4 ret d 1434 [(0, .ref b), (1, .ref (g.1 + 0)), (2, .ref (g.1 + 30)), (3, .int x3)] [.int r147, .int r142] w148 Q
    refine am_icmp_eq (tgt := 2068) d_L_law_1434 (by decide) (fun c1434 => ?_) (fun c1434 => ?_)
    · have h := h.1 c1434
      obtain ⟨v149, ev149⟩ : ∃ z : Int32, z = x3 + (6 : Int32) := ⟨_, rfl⟩
      have h := h v149 ev149
      refine am_iinc (v := v149) (l' := [(3, .int v149), (0, .ref b), (1, .ref (g.1 + 0)), (2, .ref (g.1 + 30))]) d_L_law_2068 3 rfl (by rw [ev149]; rfl) (by decide) rfl ?_
      refine am_goto (tgt := 18) d_L_law_2071 (by decide) ?_
      refine am_sub [1, 2, 3, 0] rfl ?_
      exact hK18 v149 w148 h
    · have h := h.2 c1434
      refine am_iconst (v := 0) d_L_law_1437 rfl ?_
      exact am_ireturn d_L_law_1438 rfl rfl (hQ (0 : Int32) w148 h)
theorem cf_L_law_B1380_ok {g : ayG} {d : Nat} (hd : 164 ≤ d) (b : Nat) (L : Nat) (xs : Nat → Int32)  (w : Wd) (K18 : Int32 → Wd → Prop) (P : Int32 → Wd → Prop) (Q : Option Value → Wd → Prop) (hQ : ∀ x w2, P x w2 → Q (some (.int x)) w2) (hK18 : ∀ (x3 : Int32) (w : Wd), (K18 x3 w → wp g (ay_Xs g b L xs) y_L_law code 4 ret d 18 [(0, .ref b), (1, .ref (g.1 + 0)), (2, .ref (g.1 + 30)), (3, .int x3)] [] w Q)) (x3 : Int32) (h : cf_L_law_B1380 b L xs K18 P x3 w) : wp g (ay_Xs g b L xs) y_L_law code 4 ret d 1380 [(0, .ref b), (1, .ref (g.1 + 0)), (2, .ref (g.1 + 30)), (3, .int x3)] [] w Q := by
  unfold cf_L_law_B1380 at h
  refine am_aload_n d_L_law_1380 1 rfl ?_
  refine am_aload_n d_L_law_1381 0 rfl ?_
  refine am_iload_n d_L_law_1382 3 rfl ?_
  refine am_iconst (v := 1) d_L_law_1383 rfl ?_
  refine am_iadd d_L_law_1384 ?_
  have hi1385 := h.1
  have h := h.2
  refine am_sld d_L_law_1385 hi1385 ?_
  refine am_aload_n d_L_law_1386 0 rfl ?_
  refine am_iload_n d_L_law_1387 3 rfl ?_
  refine am_iconst (v := 2) d_L_law_1388 rfl ?_
  refine am_iadd d_L_law_1389 ?_
  have hi1390 := h.1
  have h := h.2
  refine am_sld d_L_law_1390 hi1390 ?_
  refine am_if_eq (tgt := 1398) d_L_law_1391 (by decide) (fun c1391 => ?_) (fun c1391 => ?_)
  · have h := h.1 c1391
    refine am_iconst (v := 0) d_L_law_1398 rfl ?_
    refine am_sub [0, 1, 2, 3] rfl ?_
    exact cf_L_law_B1399_ok (by omega) b L xs  w K18 P Q hQ hK18 x3 (0 : Int32) (xs (x3 + (1 : Int32)).toNatClampNeg) h
  · have h := h.2 c1391
    refine am_iconst (v := 1) d_L_law_1394 rfl ?_
    refine am_goto (tgt := 1399) d_L_law_1395 (by decide) ?_
    refine am_sub [0, 1, 2, 3] rfl ?_
    exact cf_L_law_B1399_ok (by omega) b L xs  w K18 P Q hQ hK18 x3 (1 : Int32) (xs (x3 + (1 : Int32)).toNatClampNeg) h
theorem cf_L_law_B1458_ok {g : ayG} {d : Nat} (hd : 164 ≤ d) (b : Nat) (L : Nat) (xs : Nat → Int32)  (w : Wd) (K18 : Int32 → Wd → Prop) (P : Int32 → Wd → Prop) (Q : Option Value → Wd → Prop) (hQ : ∀ x w2, P x w2 → Q (some (.int x)) w2) (hK18 : ∀ (x3 : Int32) (w : Wd), (K18 x3 w → wp g (ay_Xs g b L xs) y_L_law code 4 ret d 18 [(0, .ref b), (1, .ref (g.1 + 0)), (2, .ref (g.1 + 30)), (3, .int x3)] [] w Q)) (x3 : Int32) (s0 : Int32) (s1 : Int32) (h : cf_L_law_B1458 b L xs K18 P x3 s0 s1 w) : wp g (ay_Xs g b L xs) y_L_law code 4 ret d 1458 [(0, .ref b), (1, .ref (g.1 + 0)), (2, .ref (g.1 + 30)), (3, .int x3)] [.int s0, .int s1, .ref (g.1 + 0)] w Q := by
  unfold cf_L_law_B1458 at h
  refine am_callV (C := "TriSplits") (d2 := d - 1) [.int s1, .int s0] d_L_law_1458 mi_T_least wd_934 wd_935 wd_936 (by decide) (el_T (show ay_sh 0 = _ from rfl)) rfl rfl (by omega) rfl rfl (Nat.le_of_ble_eq_true rfl) ?_
  refine Call.post ?_ (cf_T_least_ok (by omega) s1 s0  w _ h)
  rintro _ w151 ⟨r150, rfl, h⟩
  show wp g (ay_Xs g b L xs) y_L_law code 4 ret d 1461 [(0, .ref b), (1, .ref (g.1 + 0)), (2, .ref (g.1 + 30)), (3, .int x3)] [.long r150] w151 Q
  refine am_aload_n d_L_law_1461 2 rfl ?_
  refine am_aload_n d_L_law_1462 0 rfl ?_
  refine am_iload_n d_L_law_1463 3 rfl ?_
  refine am_iconst (v := 1) d_L_law_1464 rfl ?_
  refine am_iadd d_L_law_1465 ?_
  have hi1466 := h.1
  have h := h.2
  refine am_sld d_L_law_1466 hi1466 ?_
  refine am_aload_n d_L_law_1467 0 rfl ?_
  refine am_iload_n d_L_law_1468 3 rfl ?_
  refine am_iconst (v := 2) d_L_law_1469 rfl ?_
  refine am_iadd d_L_law_1470 ?_
  have hi1471 := h.1
  have h := h.2
  refine am_sld d_L_law_1471 hi1471 ?_
  refine am_if_eq (tgt := 1479) d_L_law_1472 (by decide) (fun c1472 => ?_) (fun c1472 => ?_)
  · have h := h.1 c1472
    refine am_iconst (v := 0) d_L_law_1479 rfl ?_
    refine am_callV (C := "TriSplitsModel") (d2 := d - 1) [.int (xs (x3 + (1 : Int32)).toNatClampNeg), .int (0 : Int32)] d_L_law_1480 mi_M_least wd_1313 wd_1314 wd_1315 (by decide) (el_M (show ay_sh 30 = _ from rfl)) rfl rfl (by omega) rfl rfl (Nat.le_of_ble_eq_true rfl) ?_
    refine Call.post ?_ (cf_M_least_ok (by omega) (xs (x3 + (1 : Int32)).toNatClampNeg) (0 : Int32)  w151 _ h)
    rintro _ w153 ⟨r152, rfl, h⟩
    show wp g (ay_Xs g b L xs) y_L_law code 4 ret d 1483 [(0, .ref b), (1, .ref (g.1 + 0)), (2, .ref (g.1 + 30)), (3, .int x3)] [.long r152, .long r150] w153 Q
    refine am_lif_eq (tgt := 2068) d_L_law_1483 d_L_law_1484 (by decide) (fun c1483 => ?_) (fun c1483 => ?_)
    · have h := h.1 c1483
      obtain ⟨v154, ev154⟩ : ∃ z : Int32, z = x3 + (6 : Int32) := ⟨_, rfl⟩
      have h := h v154 ev154
      refine am_iinc (v := v154) (l' := [(3, .int v154), (0, .ref b), (1, .ref (g.1 + 0)), (2, .ref (g.1 + 30))]) d_L_law_2068 3 rfl (by rw [ev154]; rfl) (by decide) rfl ?_
      refine am_goto (tgt := 18) d_L_law_2071 (by decide) ?_
      refine am_sub [1, 2, 3, 0] rfl ?_
      exact hK18 v154 w153 h
    · have h := h.2 c1483
      refine am_iconst (v := 0) d_L_law_1487 rfl ?_
      exact am_ireturn d_L_law_1488 rfl rfl (hQ (0 : Int32) w153 h)
  · have h := h.2 c1472
    refine am_iconst (v := 1) d_L_law_1475 rfl ?_
    refine am_goto (tgt := 1480) d_L_law_1476 (by decide) ?_
    refine am_callV (C := "TriSplitsModel") (d2 := d - 1) [.int (xs (x3 + (1 : Int32)).toNatClampNeg), .int (1 : Int32)] d_L_law_1480 mi_M_least wd_1313 wd_1314 wd_1315 (by decide) (el_M (show ay_sh 30 = _ from rfl)) rfl rfl (by omega) rfl rfl (Nat.le_of_ble_eq_true rfl) ?_
    refine Call.post ?_ (cf_M_least_ok (by omega) (xs (x3 + (1 : Int32)).toNatClampNeg) (1 : Int32)  w151 _ h)
    rintro _ w156 ⟨r155, rfl, h⟩
    show wp g (ay_Xs g b L xs) y_L_law code 4 ret d 1483 [(0, .ref b), (1, .ref (g.1 + 0)), (2, .ref (g.1 + 30)), (3, .int x3)] [.long r155, .long r150] w156 Q
    refine am_lif_eq (tgt := 2068) d_L_law_1483 d_L_law_1484 (by decide) (fun c1483 => ?_) (fun c1483 => ?_)
    · have h := h.1 c1483
      obtain ⟨v157, ev157⟩ : ∃ z : Int32, z = x3 + (6 : Int32) := ⟨_, rfl⟩
      have h := h v157 ev157
      refine am_iinc (v := v157) (l' := [(3, .int v157), (0, .ref b), (1, .ref (g.1 + 0)), (2, .ref (g.1 + 30))]) d_L_law_2068 3 rfl (by rw [ev157]; rfl) (by decide) rfl ?_
      refine am_goto (tgt := 18) d_L_law_2071 (by decide) ?_
      refine am_sub [1, 2, 3, 0] rfl ?_
      exact hK18 v157 w156 h
    · have h := h.2 c1483
      refine am_iconst (v := 0) d_L_law_1487 rfl ?_
      exact am_ireturn d_L_law_1488 rfl rfl (hQ (0 : Int32) w156 h)
theorem cf_L_law_B1439_ok {g : ayG} {d : Nat} (hd : 164 ≤ d) (b : Nat) (L : Nat) (xs : Nat → Int32)  (w : Wd) (K18 : Int32 → Wd → Prop) (P : Int32 → Wd → Prop) (Q : Option Value → Wd → Prop) (hQ : ∀ x w2, P x w2 → Q (some (.int x)) w2) (hK18 : ∀ (x3 : Int32) (w : Wd), (K18 x3 w → wp g (ay_Xs g b L xs) y_L_law code 4 ret d 18 [(0, .ref b), (1, .ref (g.1 + 0)), (2, .ref (g.1 + 30)), (3, .int x3)] [] w Q)) (x3 : Int32) (h : cf_L_law_B1439 b L xs K18 P x3 w) : wp g (ay_Xs g b L xs) y_L_law code 4 ret d 1439 [(0, .ref b), (1, .ref (g.1 + 0)), (2, .ref (g.1 + 30)), (3, .int x3)] [] w Q := by
  unfold cf_L_law_B1439 at h
  refine am_aload_n d_L_law_1439 1 rfl ?_
  refine am_aload_n d_L_law_1440 0 rfl ?_
  refine am_iload_n d_L_law_1441 3 rfl ?_
  refine am_iconst (v := 1) d_L_law_1442 rfl ?_
  refine am_iadd d_L_law_1443 ?_
  have hi1444 := h.1
  have h := h.2
  refine am_sld d_L_law_1444 hi1444 ?_
  refine am_aload_n d_L_law_1445 0 rfl ?_
  refine am_iload_n d_L_law_1446 3 rfl ?_
  refine am_iconst (v := 2) d_L_law_1447 rfl ?_
  refine am_iadd d_L_law_1448 ?_
  have hi1449 := h.1
  have h := h.2
  refine am_sld d_L_law_1449 hi1449 ?_
  refine am_if_eq (tgt := 1457) d_L_law_1450 (by decide) (fun c1450 => ?_) (fun c1450 => ?_)
  · have h := h.1 c1450
    refine am_iconst (v := 0) d_L_law_1457 rfl ?_
    refine am_sub [0, 1, 2, 3] rfl ?_
    exact cf_L_law_B1458_ok (by omega) b L xs  w K18 P Q hQ hK18 x3 (0 : Int32) (xs (x3 + (1 : Int32)).toNatClampNeg) h
  · have h := h.2 c1450
    refine am_iconst (v := 1) d_L_law_1453 rfl ?_
    refine am_goto (tgt := 1458) d_L_law_1454 (by decide) ?_
    refine am_sub [0, 1, 2, 3] rfl ?_
    exact cf_L_law_B1458_ok (by omega) b L xs  w K18 P Q hQ hK18 x3 (1 : Int32) (xs (x3 + (1 : Int32)).toNatClampNeg) h
theorem cf_L_law_B1508_ok {g : ayG} {d : Nat} (hd : 164 ≤ d) (b : Nat) (L : Nat) (xs : Nat → Int32)  (w : Wd) (K18 : Int32 → Wd → Prop) (P : Int32 → Wd → Prop) (Q : Option Value → Wd → Prop) (hQ : ∀ x w2, P x w2 → Q (some (.int x)) w2) (hK18 : ∀ (x3 : Int32) (w : Wd), (K18 x3 w → wp g (ay_Xs g b L xs) y_L_law code 4 ret d 18 [(0, .ref b), (1, .ref (g.1 + 0)), (2, .ref (g.1 + 30)), (3, .int x3)] [] w Q)) (x3 : Int32) (s0 : Int32) (s1 : Int32) (h : cf_L_law_B1508 b L xs K18 P x3 s0 s1 w) : wp g (ay_Xs g b L xs) y_L_law code 4 ret d 1508 [(0, .ref b), (1, .ref (g.1 + 0)), (2, .ref (g.1 + 30)), (3, .int x3)] [.int s0, .int s1, .ref (g.1 + 0)] w Q := by
  unfold cf_L_law_B1508 at h
  refine am_callV (C := "TriSplits") (d2 := d - 1) [.int s1, .int s0] d_L_law_1508 mi_T_many wd_954 wd_955 wd_956 (by decide) (el_T (show ay_sh 0 = _ from rfl)) rfl rfl (by omega) rfl rfl (Nat.le_of_ble_eq_true rfl) ?_
  refine Call.post ?_ (cf_T_many_ok (by omega) s1 s0  w _ h)
  rintro _ w159 ⟨r158, rfl, h⟩
  show wp g (ay_Xs g b L xs) y_L_law code 4 ret d 1511 [(0, .ref b), (1, .ref (g.1 + 0)), (2, .ref (g.1 + 30)), (3, .int x3)] [.long r158] w159 Q
  refine am_aload_n d_L_law_1511 2 rfl ?_
  refine am_aload_n d_L_law_1512 0 rfl ?_
  refine am_iload_n d_L_law_1513 3 rfl ?_
  refine am_iconst (v := 1) d_L_law_1514 rfl ?_
  refine am_iadd d_L_law_1515 ?_
  have hi1516 := h.1
  have h := h.2
  refine am_sld d_L_law_1516 hi1516 ?_
  refine am_aload_n d_L_law_1517 0 rfl ?_
  refine am_iload_n d_L_law_1518 3 rfl ?_
  refine am_iconst (v := 2) d_L_law_1519 rfl ?_
  refine am_iadd d_L_law_1520 ?_
  have hi1521 := h.1
  have h := h.2
  refine am_sld d_L_law_1521 hi1521 ?_
  refine am_if_eq (tgt := 1529) d_L_law_1522 (by decide) (fun c1522 => ?_) (fun c1522 => ?_)
  · have h := h.1 c1522
    refine am_iconst (v := 0) d_L_law_1529 rfl ?_
    refine am_callV (C := "TriSplitsModel") (d2 := d - 1) [.int (xs (x3 + (1 : Int32)).toNatClampNeg), .int (0 : Int32)] d_L_law_1530 mi_M_many wd_1318 wd_1319 wd_1320 (by decide) (el_M (show ay_sh 30 = _ from rfl)) rfl rfl (by omega) rfl rfl (Nat.le_of_ble_eq_true rfl) ?_
    refine Call.post ?_ (cf_M_many_ok (by omega) (xs (x3 + (1 : Int32)).toNatClampNeg) (0 : Int32)  w159 _ h)
    rintro _ w161 ⟨r160, rfl, h⟩
    show wp g (ay_Xs g b L xs) y_L_law code 4 ret d 1533 [(0, .ref b), (1, .ref (g.1 + 0)), (2, .ref (g.1 + 30)), (3, .int x3)] [.long r160, .long r158] w161 Q
    refine am_lif_eq (tgt := 2068) d_L_law_1533 d_L_law_1534 (by decide) (fun c1533 => ?_) (fun c1533 => ?_)
    · have h := h.1 c1533
      obtain ⟨v162, ev162⟩ : ∃ z : Int32, z = x3 + (6 : Int32) := ⟨_, rfl⟩
      have h := h v162 ev162
      refine am_iinc (v := v162) (l' := [(3, .int v162), (0, .ref b), (1, .ref (g.1 + 0)), (2, .ref (g.1 + 30))]) d_L_law_2068 3 rfl (by rw [ev162]; rfl) (by decide) rfl ?_
      refine am_goto (tgt := 18) d_L_law_2071 (by decide) ?_
      refine am_sub [1, 2, 3, 0] rfl ?_
      exact hK18 v162 w161 h
    · have h := h.2 c1533
      refine am_iconst (v := 0) d_L_law_1537 rfl ?_
      exact am_ireturn d_L_law_1538 rfl rfl (hQ (0 : Int32) w161 h)
  · have h := h.2 c1522
    refine am_iconst (v := 1) d_L_law_1525 rfl ?_
    refine am_goto (tgt := 1530) d_L_law_1526 (by decide) ?_
    refine am_callV (C := "TriSplitsModel") (d2 := d - 1) [.int (xs (x3 + (1 : Int32)).toNatClampNeg), .int (1 : Int32)] d_L_law_1530 mi_M_many wd_1318 wd_1319 wd_1320 (by decide) (el_M (show ay_sh 30 = _ from rfl)) rfl rfl (by omega) rfl rfl (Nat.le_of_ble_eq_true rfl) ?_
    refine Call.post ?_ (cf_M_many_ok (by omega) (xs (x3 + (1 : Int32)).toNatClampNeg) (1 : Int32)  w159 _ h)
    rintro _ w164 ⟨r163, rfl, h⟩
    show wp g (ay_Xs g b L xs) y_L_law code 4 ret d 1533 [(0, .ref b), (1, .ref (g.1 + 0)), (2, .ref (g.1 + 30)), (3, .int x3)] [.long r163, .long r158] w164 Q
    refine am_lif_eq (tgt := 2068) d_L_law_1533 d_L_law_1534 (by decide) (fun c1533 => ?_) (fun c1533 => ?_)
    · have h := h.1 c1533
      obtain ⟨v165, ev165⟩ : ∃ z : Int32, z = x3 + (6 : Int32) := ⟨_, rfl⟩
      have h := h v165 ev165
      refine am_iinc (v := v165) (l' := [(3, .int v165), (0, .ref b), (1, .ref (g.1 + 0)), (2, .ref (g.1 + 30))]) d_L_law_2068 3 rfl (by rw [ev165]; rfl) (by decide) rfl ?_
      refine am_goto (tgt := 18) d_L_law_2071 (by decide) ?_
      refine am_sub [1, 2, 3, 0] rfl ?_
      exact hK18 v165 w164 h
    · have h := h.2 c1533
      refine am_iconst (v := 0) d_L_law_1537 rfl ?_
      exact am_ireturn d_L_law_1538 rfl rfl (hQ (0 : Int32) w164 h)
theorem cf_L_law_B1489_ok {g : ayG} {d : Nat} (hd : 164 ≤ d) (b : Nat) (L : Nat) (xs : Nat → Int32)  (w : Wd) (K18 : Int32 → Wd → Prop) (P : Int32 → Wd → Prop) (Q : Option Value → Wd → Prop) (hQ : ∀ x w2, P x w2 → Q (some (.int x)) w2) (hK18 : ∀ (x3 : Int32) (w : Wd), (K18 x3 w → wp g (ay_Xs g b L xs) y_L_law code 4 ret d 18 [(0, .ref b), (1, .ref (g.1 + 0)), (2, .ref (g.1 + 30)), (3, .int x3)] [] w Q)) (x3 : Int32) (h : cf_L_law_B1489 b L xs K18 P x3 w) : wp g (ay_Xs g b L xs) y_L_law code 4 ret d 1489 [(0, .ref b), (1, .ref (g.1 + 0)), (2, .ref (g.1 + 30)), (3, .int x3)] [] w Q := by
  unfold cf_L_law_B1489 at h
  refine am_aload_n d_L_law_1489 1 rfl ?_
  refine am_aload_n d_L_law_1490 0 rfl ?_
  refine am_iload_n d_L_law_1491 3 rfl ?_
  refine am_iconst (v := 1) d_L_law_1492 rfl ?_
  refine am_iadd d_L_law_1493 ?_
  have hi1494 := h.1
  have h := h.2
  refine am_sld d_L_law_1494 hi1494 ?_
  refine am_aload_n d_L_law_1495 0 rfl ?_
  refine am_iload_n d_L_law_1496 3 rfl ?_
  refine am_iconst (v := 2) d_L_law_1497 rfl ?_
  refine am_iadd d_L_law_1498 ?_
  have hi1499 := h.1
  have h := h.2
  refine am_sld d_L_law_1499 hi1499 ?_
  refine am_if_eq (tgt := 1507) d_L_law_1500 (by decide) (fun c1500 => ?_) (fun c1500 => ?_)
  · have h := h.1 c1500
    refine am_iconst (v := 0) d_L_law_1507 rfl ?_
    refine am_sub [0, 1, 2, 3] rfl ?_
    exact cf_L_law_B1508_ok (by omega) b L xs  w K18 P Q hQ hK18 x3 (0 : Int32) (xs (x3 + (1 : Int32)).toNatClampNeg) h
  · have h := h.2 c1500
    refine am_iconst (v := 1) d_L_law_1503 rfl ?_
    refine am_goto (tgt := 1508) d_L_law_1504 (by decide) ?_
    refine am_sub [0, 1, 2, 3] rfl ?_
    exact cf_L_law_B1508_ok (by omega) b L xs  w K18 P Q hQ hK18 x3 (1 : Int32) (xs (x3 + (1 : Int32)).toNatClampNeg) h
theorem cf_L_law_B1539_ok {g : ayG} {d : Nat} (hd : 164 ≤ d) (b : Nat) (L : Nat) (xs : Nat → Int32)  (w : Wd) (K18 : Int32 → Wd → Prop) (P : Int32 → Wd → Prop) (Q : Option Value → Wd → Prop) (hQ : ∀ x w2, P x w2 → Q (some (.int x)) w2) (hK18 : ∀ (x3 : Int32) (w : Wd), (K18 x3 w → wp g (ay_Xs g b L xs) y_L_law code 4 ret d 18 [(0, .ref b), (1, .ref (g.1 + 0)), (2, .ref (g.1 + 30)), (3, .int x3)] [] w Q)) (x3 : Int32) (h : cf_L_law_B1539 b L xs K18 P x3 w) : wp g (ay_Xs g b L xs) y_L_law code 4 ret d 1539 [(0, .ref b), (1, .ref (g.1 + 0)), (2, .ref (g.1 + 30)), (3, .int x3)] [] w Q := by
  unfold cf_L_law_B1539 at h
  refine am_aload_n d_L_law_1539 1 rfl ?_
  refine am_aload_n d_L_law_1540 0 rfl ?_
  refine am_iload_n d_L_law_1541 3 rfl ?_
  refine am_iconst (v := 1) d_L_law_1542 rfl ?_
  refine am_iadd d_L_law_1543 ?_
  have hi1544 := h.1
  have h := h.2
  refine am_sld d_L_law_1544 hi1544 ?_
  refine am_aload_n d_L_law_1545 0 rfl ?_
  refine am_iload_n d_L_law_1546 3 rfl ?_
  refine am_iconst (v := 2) d_L_law_1547 rfl ?_
  refine am_iadd d_L_law_1548 ?_
  have hi1549 := h.1
  have h := h.2
  refine am_sld d_L_law_1549 hi1549 ?_
  refine am_aload_n d_L_law_1550 0 rfl ?_
  refine am_iload_n d_L_law_1551 3 rfl ?_
  refine am_iconst (v := 3) d_L_law_1552 rfl ?_
  refine am_iadd d_L_law_1553 ?_
  have hi1554 := h.1
  have h := h.2
  refine am_sld d_L_law_1554 hi1554 ?_
  refine am_callV (C := "TriSplits") (d2 := d - 1) [.int (xs (x3 + (1 : Int32)).toNatClampNeg), .int (xs (x3 + (2 : Int32)).toNatClampNeg), .int (xs (x3 + (3 : Int32)).toNatClampNeg)] d_L_law_1555 mi_T_stays wd_968 wd_969 wd_970 (by decide) (el_T (show ay_sh 0 = _ from rfl)) rfl rfl (by omega) rfl rfl (Nat.le_of_ble_eq_true rfl) ?_
  refine Call.post ?_ (cf_T_stays_ok (by omega) (xs (x3 + (1 : Int32)).toNatClampNeg) (xs (x3 + (2 : Int32)).toNatClampNeg) (xs (x3 + (3 : Int32)).toNatClampNeg)  w _ h)
  rintro _ w167 ⟨r166, rfl, h⟩
  show wp g (ay_Xs g b L xs) y_L_law code 4 ret d 1558 [(0, .ref b), (1, .ref (g.1 + 0)), (2, .ref (g.1 + 30)), (3, .int x3)] [.int r166] w167 Q
  refine am_aload_n d_L_law_1558 2 rfl ?_
  refine am_aload_n d_L_law_1559 0 rfl ?_
  refine am_iload_n d_L_law_1560 3 rfl ?_
  refine am_iconst (v := 1) d_L_law_1561 rfl ?_
  refine am_iadd d_L_law_1562 ?_
  have hi1563 := h.1
  have h := h.2
  refine am_sld d_L_law_1563 hi1563 ?_
  refine am_aload_n d_L_law_1564 0 rfl ?_
  refine am_iload_n d_L_law_1565 3 rfl ?_
  refine am_iconst (v := 2) d_L_law_1566 rfl ?_
  refine am_iadd d_L_law_1567 ?_
  have hi1568 := h.1
  have h := h.2
  refine am_sld d_L_law_1568 hi1568 ?_
  refine am_aload_n d_L_law_1569 0 rfl ?_
  refine am_iload_n d_L_law_1570 3 rfl ?_
  refine am_iconst (v := 3) d_L_law_1571 rfl ?_
  refine am_iadd d_L_law_1572 ?_
  have hi1573 := h.1
  have h := h.2
  refine am_sld d_L_law_1573 hi1573 ?_
  refine am_callV (C := "TriSplitsModel") (d2 := d - 1) [.int (xs (x3 + (1 : Int32)).toNatClampNeg), .int (xs (x3 + (2 : Int32)).toNatClampNeg), .int (xs (x3 + (3 : Int32)).toNatClampNeg)] d_L_law_1574 mi_M_stays wd_1330 wd_1331 wd_1332 (by decide) (el_M (show ay_sh 30 = _ from rfl)) rfl rfl (by omega) rfl rfl (Nat.le_of_ble_eq_true rfl) ?_
  refine Call.post ?_ (cf_M_stays_ok (by omega) (xs (x3 + (1 : Int32)).toNatClampNeg) (xs (x3 + (2 : Int32)).toNatClampNeg) (xs (x3 + (3 : Int32)).toNatClampNeg)  w167 _ h)
  rintro _ w169 ⟨r168, rfl, h⟩
  show wp g (ay_Xs g b L xs) y_L_law code 4 ret d 1577 [(0, .ref b), (1, .ref (g.1 + 0)), (2, .ref (g.1 + 30)), (3, .int x3)] [.int r168, .int r166] w169 Q
  refine am_icmp_eq (tgt := 2068) d_L_law_1577 (by decide) (fun c1577 => ?_) (fun c1577 => ?_)
  · have h := h.1 c1577
    obtain ⟨v170, ev170⟩ : ∃ z : Int32, z = x3 + (6 : Int32) := ⟨_, rfl⟩
    have h := h v170 ev170
    refine am_iinc (v := v170) (l' := [(3, .int v170), (0, .ref b), (1, .ref (g.1 + 0)), (2, .ref (g.1 + 30))]) d_L_law_2068 3 rfl (by rw [ev170]; rfl) (by decide) rfl ?_
    refine am_goto (tgt := 18) d_L_law_2071 (by decide) ?_
    refine am_sub [1, 2, 3, 0] rfl ?_
    exact hK18 v170 w169 h
  · have h := h.2 c1577
    refine am_iconst (v := 0) d_L_law_1580 rfl ?_
    exact am_ireturn d_L_law_1581 rfl rfl (hQ (0 : Int32) w169 h)
theorem cf_L_law_B1582_ok {g : ayG} {d : Nat} (hd : 164 ≤ d) (b : Nat) (L : Nat) (xs : Nat → Int32)  (w : Wd) (K18 : Int32 → Wd → Prop) (P : Int32 → Wd → Prop) (Q : Option Value → Wd → Prop) (hQ : ∀ x w2, P x w2 → Q (some (.int x)) w2) (hK18 : ∀ (x3 : Int32) (w : Wd), (K18 x3 w → wp g (ay_Xs g b L xs) y_L_law code 4 ret d 18 [(0, .ref b), (1, .ref (g.1 + 0)), (2, .ref (g.1 + 30)), (3, .int x3)] [] w Q)) (x3 : Int32) (h : cf_L_law_B1582 b L xs K18 P x3 w) : wp g (ay_Xs g b L xs) y_L_law code 4 ret d 1582 [(0, .ref b), (1, .ref (g.1 + 0)), (2, .ref (g.1 + 30)), (3, .int x3)] [] w Q := by
  unfold cf_L_law_B1582 at h
  refine am_aload_n d_L_law_1582 1 rfl ?_
  refine am_aload_n d_L_law_1583 0 rfl ?_
  refine am_iload_n d_L_law_1584 3 rfl ?_
  refine am_iconst (v := 1) d_L_law_1585 rfl ?_
  refine am_iadd d_L_law_1586 ?_
  have hi1587 := h.1
  have h := h.2
  refine am_sld d_L_law_1587 hi1587 ?_
  refine am_callV (C := "TriSplits") (d2 := d - 1) [.int (xs (x3 + (1 : Int32)).toNatClampNeg)] d_L_law_1588 mi_T_bare wd_977 wd_978 wd_979 (by decide) (el_T (show ay_sh 0 = _ from rfl)) rfl rfl (by omega) rfl rfl (Nat.le_of_ble_eq_true rfl) ?_
  refine Call.post ?_ (cf_T_bare_ok (by omega) (xs (x3 + (1 : Int32)).toNatClampNeg)  w _ h)
  rintro _ w172 ⟨r171, rfl, h⟩
  show wp g (ay_Xs g b L xs) y_L_law code 4 ret d 1591 [(0, .ref b), (1, .ref (g.1 + 0)), (2, .ref (g.1 + 30)), (3, .int x3)] [.int r171] w172 Q
  refine am_aload_n d_L_law_1591 2 rfl ?_
  refine am_aload_n d_L_law_1592 0 rfl ?_
  refine am_iload_n d_L_law_1593 3 rfl ?_
  refine am_iconst (v := 1) d_L_law_1594 rfl ?_
  refine am_iadd d_L_law_1595 ?_
  have hi1596 := h.1
  have h := h.2
  refine am_sld d_L_law_1596 hi1596 ?_
  refine am_callV (C := "TriSplitsModel") (d2 := d - 1) [.int (xs (x3 + (1 : Int32)).toNatClampNeg)] d_L_law_1597 mi_M_bare wd_1335 wd_1336 wd_1337 (by decide) (el_M (show ay_sh 30 = _ from rfl)) rfl rfl (by omega) rfl rfl (Nat.le_of_ble_eq_true rfl) ?_
  refine Call.post ?_ (cf_M_bare_ok (by omega) (xs (x3 + (1 : Int32)).toNatClampNeg)  w172 _ h)
  rintro _ w174 ⟨r173, rfl, h⟩
  show wp g (ay_Xs g b L xs) y_L_law code 4 ret d 1600 [(0, .ref b), (1, .ref (g.1 + 0)), (2, .ref (g.1 + 30)), (3, .int x3)] [.int r173, .int r171] w174 Q
  refine am_icmp_eq (tgt := 2068) d_L_law_1600 (by decide) (fun c1600 => ?_) (fun c1600 => ?_)
  · have h := h.1 c1600
    obtain ⟨v175, ev175⟩ : ∃ z : Int32, z = x3 + (6 : Int32) := ⟨_, rfl⟩
    have h := h v175 ev175
    refine am_iinc (v := v175) (l' := [(3, .int v175), (0, .ref b), (1, .ref (g.1 + 0)), (2, .ref (g.1 + 30))]) d_L_law_2068 3 rfl (by rw [ev175]; rfl) (by decide) rfl ?_
    refine am_goto (tgt := 18) d_L_law_2071 (by decide) ?_
    refine am_sub [1, 2, 3, 0] rfl ?_
    exact hK18 v175 w174 h
  · have h := h.2 c1600
    refine am_iconst (v := 0) d_L_law_1603 rfl ?_
    exact am_ireturn d_L_law_1604 rfl rfl (hQ (0 : Int32) w174 h)
theorem cf_L_law_B1605_ok {g : ayG} {d : Nat} (hd : 164 ≤ d) (b : Nat) (L : Nat) (xs : Nat → Int32)  (w : Wd) (K18 : Int32 → Wd → Prop) (P : Int32 → Wd → Prop) (Q : Option Value → Wd → Prop) (hQ : ∀ x w2, P x w2 → Q (some (.int x)) w2) (hK18 : ∀ (x3 : Int32) (w : Wd), (K18 x3 w → wp g (ay_Xs g b L xs) y_L_law code 4 ret d 18 [(0, .ref b), (1, .ref (g.1 + 0)), (2, .ref (g.1 + 30)), (3, .int x3)] [] w Q)) (x3 : Int32) (h : cf_L_law_B1605 b L xs K18 P x3 w) : wp g (ay_Xs g b L xs) y_L_law code 4 ret d 1605 [(0, .ref b), (1, .ref (g.1 + 0)), (2, .ref (g.1 + 30)), (3, .int x3)] [] w Q := by
  unfold cf_L_law_B1605 at h
  refine am_aload_n d_L_law_1605 1 rfl ?_
  refine am_aload_n d_L_law_1606 0 rfl ?_
  refine am_iload_n d_L_law_1607 3 rfl ?_
  refine am_iconst (v := 1) d_L_law_1608 rfl ?_
  refine am_iadd d_L_law_1609 ?_
  have hi1610 := h.1
  have h := h.2
  refine am_sld d_L_law_1610 hi1610 ?_
  refine am_aload_n d_L_law_1611 0 rfl ?_
  refine am_iload_n d_L_law_1612 3 rfl ?_
  refine am_iconst (v := 2) d_L_law_1613 rfl ?_
  refine am_iadd d_L_law_1614 ?_
  have hi1615 := h.1
  have h := h.2
  refine am_sld d_L_law_1615 hi1615 ?_
  refine am_callV (C := "TriSplits") (d2 := d - 1) [.int (xs (x3 + (1 : Int32)).toNatClampNeg), .int (xs (x3 + (2 : Int32)).toNatClampNeg)] d_L_law_1616 mi_T_minimal wd_990 wd_991 wd_992 (by decide) (el_T (show ay_sh 0 = _ from rfl)) rfl rfl (by omega) rfl rfl (Nat.le_of_ble_eq_true rfl) ?_
  refine Call.post ?_ (cf_T_minimal_ok (by omega) (xs (x3 + (1 : Int32)).toNatClampNeg) (xs (x3 + (2 : Int32)).toNatClampNeg)  w _ h)
  rintro _ w177 ⟨r176, rfl, h⟩
  show wp g (ay_Xs g b L xs) y_L_law code 4 ret d 1619 [(0, .ref b), (1, .ref (g.1 + 0)), (2, .ref (g.1 + 30)), (3, .int x3)] [.long r176] w177 Q
  refine am_aload_n d_L_law_1619 2 rfl ?_
  refine am_aload_n d_L_law_1620 0 rfl ?_
  refine am_iload_n d_L_law_1621 3 rfl ?_
  refine am_iconst (v := 1) d_L_law_1622 rfl ?_
  refine am_iadd d_L_law_1623 ?_
  have hi1624 := h.1
  have h := h.2
  refine am_sld d_L_law_1624 hi1624 ?_
  refine am_aload_n d_L_law_1625 0 rfl ?_
  refine am_iload_n d_L_law_1626 3 rfl ?_
  refine am_iconst (v := 2) d_L_law_1627 rfl ?_
  refine am_iadd d_L_law_1628 ?_
  have hi1629 := h.1
  have h := h.2
  refine am_sld d_L_law_1629 hi1629 ?_
  refine am_callV (C := "TriSplitsModel") (d2 := d - 1) [.int (xs (x3 + (1 : Int32)).toNatClampNeg), .int (xs (x3 + (2 : Int32)).toNatClampNeg)] d_L_law_1630 mi_M_minimal wd_1340 wd_1341 wd_1342 (by decide) (el_M (show ay_sh 30 = _ from rfl)) rfl rfl (by omega) rfl rfl (Nat.le_of_ble_eq_true rfl) ?_
  refine Call.post ?_ (cf_M_minimal_ok (by omega) (xs (x3 + (1 : Int32)).toNatClampNeg) (xs (x3 + (2 : Int32)).toNatClampNeg)  w177 _ h)
  rintro _ w179 ⟨r178, rfl, h⟩
  show wp g (ay_Xs g b L xs) y_L_law code 4 ret d 1633 [(0, .ref b), (1, .ref (g.1 + 0)), (2, .ref (g.1 + 30)), (3, .int x3)] [.long r178, .long r176] w179 Q
  refine am_lif_eq (tgt := 2068) d_L_law_1633 d_L_law_1634 (by decide) (fun c1633 => ?_) (fun c1633 => ?_)
  · have h := h.1 c1633
    obtain ⟨v180, ev180⟩ : ∃ z : Int32, z = x3 + (6 : Int32) := ⟨_, rfl⟩
    have h := h v180 ev180
    refine am_iinc (v := v180) (l' := [(3, .int v180), (0, .ref b), (1, .ref (g.1 + 0)), (2, .ref (g.1 + 30))]) d_L_law_2068 3 rfl (by rw [ev180]; rfl) (by decide) rfl ?_
    refine am_goto (tgt := 18) d_L_law_2071 (by decide) ?_
    refine am_sub [1, 2, 3, 0] rfl ?_
    exact hK18 v180 w179 h
  · have h := h.2 c1633
    refine am_iconst (v := 0) d_L_law_1637 rfl ?_
    exact am_ireturn d_L_law_1638 rfl rfl (hQ (0 : Int32) w179 h)
theorem cf_L_law_B1639_ok {g : ayG} {d : Nat} (hd : 164 ≤ d) (b : Nat) (L : Nat) (xs : Nat → Int32)  (w : Wd) (K18 : Int32 → Wd → Prop) (P : Int32 → Wd → Prop) (Q : Option Value → Wd → Prop) (hQ : ∀ x w2, P x w2 → Q (some (.int x)) w2) (hK18 : ∀ (x3 : Int32) (w : Wd), (K18 x3 w → wp g (ay_Xs g b L xs) y_L_law code 4 ret d 18 [(0, .ref b), (1, .ref (g.1 + 0)), (2, .ref (g.1 + 30)), (3, .int x3)] [] w Q)) (x3 : Int32) (h : cf_L_law_B1639 b L xs K18 P x3 w) : wp g (ay_Xs g b L xs) y_L_law code 4 ret d 1639 [(0, .ref b), (1, .ref (g.1 + 0)), (2, .ref (g.1 + 30)), (3, .int x3)] [] w Q := by
  unfold cf_L_law_B1639 at h
  refine am_aload_n d_L_law_1639 1 rfl ?_
  refine am_aload_n d_L_law_1640 0 rfl ?_
  refine am_iload_n d_L_law_1641 3 rfl ?_
  refine am_iconst (v := 1) d_L_law_1642 rfl ?_
  refine am_iadd d_L_law_1643 ?_
  have hi1644 := h.1
  have h := h.2
  refine am_sld d_L_law_1644 hi1644 ?_
  refine am_aload_n d_L_law_1645 0 rfl ?_
  refine am_iload_n d_L_law_1646 3 rfl ?_
  refine am_iconst (v := 2) d_L_law_1647 rfl ?_
  refine am_iadd d_L_law_1648 ?_
  have hi1649 := h.1
  have h := h.2
  refine am_sld d_L_law_1649 hi1649 ?_
  refine am_callV (C := "TriSplits") (d2 := d - 1) [.int (xs (x3 + (1 : Int32)).toNatClampNeg), .int (xs (x3 + (2 : Int32)).toNatClampNeg)] d_L_law_1650 mi_T_trace wd_1008 wd_1009 wd_1010 (by decide) (el_T (show ay_sh 0 = _ from rfl)) rfl rfl (by omega) rfl rfl (Nat.le_of_ble_eq_true rfl) ?_
  refine Call.post ?_ (cf_T_trace_ok (by omega) (xs (x3 + (1 : Int32)).toNatClampNeg) (xs (x3 + (2 : Int32)).toNatClampNeg)  w _ h)
  rintro _ _ ⟨r181, rfl, rfl, h⟩
  show wp g (ay_Xs g b L xs) y_L_law code 4 ret d 1653 [(0, .ref b), (1, .ref (g.1 + 0)), (2, .ref (g.1 + 30)), (3, .int x3)] [.int r181] w Q
  refine am_aload_n d_L_law_1653 2 rfl ?_
  refine am_aload_n d_L_law_1654 0 rfl ?_
  refine am_iload_n d_L_law_1655 3 rfl ?_
  refine am_iconst (v := 1) d_L_law_1656 rfl ?_
  refine am_iadd d_L_law_1657 ?_
  have hi1658 := h.1
  have h := h.2
  refine am_sld d_L_law_1658 hi1658 ?_
  refine am_aload_n d_L_law_1659 0 rfl ?_
  refine am_iload_n d_L_law_1660 3 rfl ?_
  refine am_iconst (v := 2) d_L_law_1661 rfl ?_
  refine am_iadd d_L_law_1662 ?_
  have hi1663 := h.1
  have h := h.2
  refine am_sld d_L_law_1663 hi1663 ?_
  refine am_callV (C := "TriSplitsModel") (d2 := d - 1) [.int (xs (x3 + (1 : Int32)).toNatClampNeg), .int (xs (x3 + (2 : Int32)).toNatClampNeg)] d_L_law_1664 mi_M_trace wd_1348 wd_1349 wd_1350 (by decide) (el_M (show ay_sh 30 = _ from rfl)) rfl rfl (by omega) rfl rfl (Nat.le_of_ble_eq_true rfl) ?_
  refine Call.post ?_ (cf_M_trace_ok (by omega) (xs (x3 + (1 : Int32)).toNatClampNeg) (xs (x3 + (2 : Int32)).toNatClampNeg)  w _ h)
  rintro _ w183 ⟨r182, rfl, h⟩
  show wp g (ay_Xs g b L xs) y_L_law code 4 ret d 1667 [(0, .ref b), (1, .ref (g.1 + 0)), (2, .ref (g.1 + 30)), (3, .int x3)] [.int r182, .int r181] w183 Q
  refine am_icmp_eq (tgt := 2068) d_L_law_1667 (by decide) (fun c1667 => ?_) (fun c1667 => ?_)
  · have h := h.1 c1667
    obtain ⟨v184, ev184⟩ : ∃ z : Int32, z = x3 + (6 : Int32) := ⟨_, rfl⟩
    have h := h v184 ev184
    refine am_iinc (v := v184) (l' := [(3, .int v184), (0, .ref b), (1, .ref (g.1 + 0)), (2, .ref (g.1 + 30))]) d_L_law_2068 3 rfl (by rw [ev184]; rfl) (by decide) rfl ?_
    refine am_goto (tgt := 18) d_L_law_2071 (by decide) ?_
    refine am_sub [1, 2, 3, 0] rfl ?_
    exact hK18 v184 w183 h
  · have h := h.2 c1667
    refine am_iconst (v := 0) d_L_law_1670 rfl ?_
    exact am_ireturn d_L_law_1671 rfl rfl (hQ (0 : Int32) w183 h)
theorem cf_L_law_B1672_ok {g : ayG} {d : Nat} (hd : 164 ≤ d) (b : Nat) (L : Nat) (xs : Nat → Int32)  (w : Wd) (K18 : Int32 → Wd → Prop) (P : Int32 → Wd → Prop) (Q : Option Value → Wd → Prop) (hQ : ∀ x w2, P x w2 → Q (some (.int x)) w2) (hK18 : ∀ (x3 : Int32) (w : Wd), (K18 x3 w → wp g (ay_Xs g b L xs) y_L_law code 4 ret d 18 [(0, .ref b), (1, .ref (g.1 + 0)), (2, .ref (g.1 + 30)), (3, .int x3)] [] w Q)) (x3 : Int32) (h : cf_L_law_B1672 b L xs K18 P x3 w) : wp g (ay_Xs g b L xs) y_L_law code 4 ret d 1672 [(0, .ref b), (1, .ref (g.1 + 0)), (2, .ref (g.1 + 30)), (3, .int x3)] [] w Q := by
  unfold cf_L_law_B1672 at h
  refine am_aload_n d_L_law_1672 1 rfl ?_
  refine am_aload_n d_L_law_1673 0 rfl ?_
  refine am_iload_n d_L_law_1674 3 rfl ?_
  refine am_iconst (v := 1) d_L_law_1675 rfl ?_
  refine am_iadd d_L_law_1676 ?_
  have hi1677 := h.1
  have h := h.2
  refine am_sld d_L_law_1677 hi1677 ?_
  refine am_aload_n d_L_law_1678 0 rfl ?_
  refine am_iload_n d_L_law_1679 3 rfl ?_
  refine am_iconst (v := 2) d_L_law_1680 rfl ?_
  refine am_iadd d_L_law_1681 ?_
  have hi1682 := h.1
  have h := h.2
  refine am_sld d_L_law_1682 hi1682 ?_
  refine am_callV (C := "TriSplits") (d2 := d - 1) [.int (xs (x3 + (1 : Int32)).toNatClampNeg), .int (xs (x3 + (2 : Int32)).toNatClampNeg)] d_L_law_1683 mi_T_conjugates wd_1016 wd_1017 wd_1018 (by decide) (el_T (show ay_sh 0 = _ from rfl)) rfl rfl (by omega) rfl rfl (Nat.le_of_ble_eq_true rfl) ?_
  refine Call.post ?_ (cf_T_conjugates_ok (by omega) (xs (x3 + (1 : Int32)).toNatClampNeg) (xs (x3 + (2 : Int32)).toNatClampNeg)  w _ h)
  rintro _ _ ⟨r185, rfl, rfl, h⟩
  show wp g (ay_Xs g b L xs) y_L_law code 4 ret d 1686 [(0, .ref b), (1, .ref (g.1 + 0)), (2, .ref (g.1 + 30)), (3, .int x3)] [.int r185] w Q
  refine am_aload_n d_L_law_1686 2 rfl ?_
  refine am_aload_n d_L_law_1687 0 rfl ?_
  refine am_iload_n d_L_law_1688 3 rfl ?_
  refine am_iconst (v := 1) d_L_law_1689 rfl ?_
  refine am_iadd d_L_law_1690 ?_
  have hi1691 := h.1
  have h := h.2
  refine am_sld d_L_law_1691 hi1691 ?_
  refine am_aload_n d_L_law_1692 0 rfl ?_
  refine am_iload_n d_L_law_1693 3 rfl ?_
  refine am_iconst (v := 2) d_L_law_1694 rfl ?_
  refine am_iadd d_L_law_1695 ?_
  have hi1696 := h.1
  have h := h.2
  refine am_sld d_L_law_1696 hi1696 ?_
  refine am_callV (C := "TriSplitsModel") (d2 := d - 1) [.int (xs (x3 + (1 : Int32)).toNatClampNeg), .int (xs (x3 + (2 : Int32)).toNatClampNeg)] d_L_law_1697 mi_M_conjugates wd_1352 wd_1353 wd_1354 (by decide) (el_M (show ay_sh 30 = _ from rfl)) rfl rfl (by omega) rfl rfl (Nat.le_of_ble_eq_true rfl) ?_
  refine Call.post ?_ (cf_M_conjugates_ok (by omega) (xs (x3 + (1 : Int32)).toNatClampNeg) (xs (x3 + (2 : Int32)).toNatClampNeg)  w _ h)
  rintro _ w187 ⟨r186, rfl, h⟩
  show wp g (ay_Xs g b L xs) y_L_law code 4 ret d 1700 [(0, .ref b), (1, .ref (g.1 + 0)), (2, .ref (g.1 + 30)), (3, .int x3)] [.int r186, .int r185] w187 Q
  refine am_icmp_eq (tgt := 2068) d_L_law_1700 (by decide) (fun c1700 => ?_) (fun c1700 => ?_)
  · have h := h.1 c1700
    obtain ⟨v188, ev188⟩ : ∃ z : Int32, z = x3 + (6 : Int32) := ⟨_, rfl⟩
    have h := h v188 ev188
    refine am_iinc (v := v188) (l' := [(3, .int v188), (0, .ref b), (1, .ref (g.1 + 0)), (2, .ref (g.1 + 30))]) d_L_law_2068 3 rfl (by rw [ev188]; rfl) (by decide) rfl ?_
    refine am_goto (tgt := 18) d_L_law_2071 (by decide) ?_
    refine am_sub [1, 2, 3, 0] rfl ?_
    exact hK18 v188 w187 h
  · have h := h.2 c1700
    refine am_iconst (v := 0) d_L_law_1703 rfl ?_
    exact am_ireturn d_L_law_1704 rfl rfl (hQ (0 : Int32) w187 h)
theorem cf_L_law_B1705_ok {g : ayG} {d : Nat} (hd : 164 ≤ d) (b : Nat) (L : Nat) (xs : Nat → Int32)  (w : Wd) (K18 : Int32 → Wd → Prop) (P : Int32 → Wd → Prop) (Q : Option Value → Wd → Prop) (hQ : ∀ x w2, P x w2 → Q (some (.int x)) w2) (hK18 : ∀ (x3 : Int32) (w : Wd), (K18 x3 w → wp g (ay_Xs g b L xs) y_L_law code 4 ret d 18 [(0, .ref b), (1, .ref (g.1 + 0)), (2, .ref (g.1 + 30)), (3, .int x3)] [] w Q)) (x3 : Int32) (h : cf_L_law_B1705 b L xs K18 P x3 w) : wp g (ay_Xs g b L xs) y_L_law code 4 ret d 1705 [(0, .ref b), (1, .ref (g.1 + 0)), (2, .ref (g.1 + 30)), (3, .int x3)] [] w Q := by
  unfold cf_L_law_B1705 at h
  refine am_aload_n d_L_law_1705 1 rfl ?_
  refine am_aload_n d_L_law_1706 0 rfl ?_
  refine am_iload_n d_L_law_1707 3 rfl ?_
  refine am_iconst (v := 1) d_L_law_1708 rfl ?_
  refine am_iadd d_L_law_1709 ?_
  have hi1710 := h.1
  have h := h.2
  refine am_sld d_L_law_1710 hi1710 ?_
  refine am_aload_n d_L_law_1711 0 rfl ?_
  refine am_iload_n d_L_law_1712 3 rfl ?_
  refine am_iconst (v := 2) d_L_law_1713 rfl ?_
  refine am_iadd d_L_law_1714 ?_
  have hi1715 := h.1
  have h := h.2
  refine am_sld d_L_law_1715 hi1715 ?_
  refine am_aload_n d_L_law_1716 0 rfl ?_
  refine am_iload_n d_L_law_1717 3 rfl ?_
  refine am_iconst (v := 3) d_L_law_1718 rfl ?_
  refine am_iadd d_L_law_1719 ?_
  have hi1720 := h.1
  have h := h.2
  refine am_sld d_L_law_1720 hi1720 ?_
  refine am_callV (C := "TriSplits") (d2 := d - 1) [.int (xs (x3 + (1 : Int32)).toNatClampNeg), .int (xs (x3 + (2 : Int32)).toNatClampNeg), .int (xs (x3 + (3 : Int32)).toNatClampNeg)] d_L_law_1721 mi_T_log wd_1021 wd_1022 wd_1023 (by decide) (el_T (show ay_sh 0 = _ from rfl)) rfl rfl (by omega) rfl rfl (Nat.le_of_ble_eq_true rfl) ?_
  refine Call.post ?_ (cf_T_log_ok (by omega) (xs (x3 + (1 : Int32)).toNatClampNeg) (xs (x3 + (2 : Int32)).toNatClampNeg) (xs (x3 + (3 : Int32)).toNatClampNeg)  w _ h)
  rintro _ w190 ⟨r189, rfl, h⟩
  show wp g (ay_Xs g b L xs) y_L_law code 4 ret d 1724 [(0, .ref b), (1, .ref (g.1 + 0)), (2, .ref (g.1 + 30)), (3, .int x3)] [.long r189] w190 Q
  refine am_aload_n d_L_law_1724 2 rfl ?_
  refine am_aload_n d_L_law_1725 0 rfl ?_
  refine am_iload_n d_L_law_1726 3 rfl ?_
  refine am_iconst (v := 1) d_L_law_1727 rfl ?_
  refine am_iadd d_L_law_1728 ?_
  have hi1729 := h.1
  have h := h.2
  refine am_sld d_L_law_1729 hi1729 ?_
  refine am_aload_n d_L_law_1730 0 rfl ?_
  refine am_iload_n d_L_law_1731 3 rfl ?_
  refine am_iconst (v := 2) d_L_law_1732 rfl ?_
  refine am_iadd d_L_law_1733 ?_
  have hi1734 := h.1
  have h := h.2
  refine am_sld d_L_law_1734 hi1734 ?_
  refine am_aload_n d_L_law_1735 0 rfl ?_
  refine am_iload_n d_L_law_1736 3 rfl ?_
  refine am_iconst (v := 3) d_L_law_1737 rfl ?_
  refine am_iadd d_L_law_1738 ?_
  have hi1739 := h.1
  have h := h.2
  refine am_sld d_L_law_1739 hi1739 ?_
  refine am_callV (C := "TriSplitsModel") (d2 := d - 1) [.int (xs (x3 + (1 : Int32)).toNatClampNeg), .int (xs (x3 + (2 : Int32)).toNatClampNeg), .int (xs (x3 + (3 : Int32)).toNatClampNeg)] d_L_law_1740 mi_M_log wd_1356 wd_1357 wd_1358 (by decide) (el_M (show ay_sh 30 = _ from rfl)) rfl rfl (by omega) rfl rfl (Nat.le_of_ble_eq_true rfl) ?_
  refine Call.post ?_ (cf_M_log_ok (by omega) (xs (x3 + (1 : Int32)).toNatClampNeg) (xs (x3 + (2 : Int32)).toNatClampNeg) (xs (x3 + (3 : Int32)).toNatClampNeg)  w190 _ h)
  rintro _ w192 ⟨r191, rfl, h⟩
  show wp g (ay_Xs g b L xs) y_L_law code 4 ret d 1743 [(0, .ref b), (1, .ref (g.1 + 0)), (2, .ref (g.1 + 30)), (3, .int x3)] [.long r191, .long r189] w192 Q
  refine am_lif_eq (tgt := 2068) d_L_law_1743 d_L_law_1744 (by decide) (fun c1743 => ?_) (fun c1743 => ?_)
  · have h := h.1 c1743
    obtain ⟨v193, ev193⟩ : ∃ z : Int32, z = x3 + (6 : Int32) := ⟨_, rfl⟩
    have h := h v193 ev193
    refine am_iinc (v := v193) (l' := [(3, .int v193), (0, .ref b), (1, .ref (g.1 + 0)), (2, .ref (g.1 + 30))]) d_L_law_2068 3 rfl (by rw [ev193]; rfl) (by decide) rfl ?_
    refine am_goto (tgt := 18) d_L_law_2071 (by decide) ?_
    refine am_sub [1, 2, 3, 0] rfl ?_
    exact hK18 v193 w192 h
  · have h := h.2 c1743
    refine am_iconst (v := 0) d_L_law_1747 rfl ?_
    exact am_ireturn d_L_law_1748 rfl rfl (hQ (0 : Int32) w192 h)
theorem cf_L_law_B1749_ok {g : ayG} {d : Nat} (hd : 164 ≤ d) (b : Nat) (L : Nat) (xs : Nat → Int32)  (w : Wd) (K18 : Int32 → Wd → Prop) (P : Int32 → Wd → Prop) (Q : Option Value → Wd → Prop) (hQ : ∀ x w2, P x w2 → Q (some (.int x)) w2) (hK18 : ∀ (x3 : Int32) (w : Wd), (K18 x3 w → wp g (ay_Xs g b L xs) y_L_law code 4 ret d 18 [(0, .ref b), (1, .ref (g.1 + 0)), (2, .ref (g.1 + 30)), (3, .int x3)] [] w Q)) (x3 : Int32) (h : cf_L_law_B1749 b L xs K18 P x3 w) : wp g (ay_Xs g b L xs) y_L_law code 4 ret d 1749 [(0, .ref b), (1, .ref (g.1 + 0)), (2, .ref (g.1 + 30)), (3, .int x3)] [] w Q := by
  unfold cf_L_law_B1749 at h
  refine am_aload_n d_L_law_1749 1 rfl ?_
  refine am_aload_n d_L_law_1750 0 rfl ?_
  refine am_iload_n d_L_law_1751 3 rfl ?_
  refine am_iconst (v := 1) d_L_law_1752 rfl ?_
  refine am_iadd d_L_law_1753 ?_
  have hi1754 := h.1
  have h := h.2
  refine am_sld d_L_law_1754 hi1754 ?_
  refine am_aload_n d_L_law_1755 0 rfl ?_
  refine am_iload_n d_L_law_1756 3 rfl ?_
  refine am_iconst (v := 2) d_L_law_1757 rfl ?_
  refine am_iadd d_L_law_1758 ?_
  have hi1759 := h.1
  have h := h.2
  refine am_sld d_L_law_1759 hi1759 ?_
  refine am_callV (C := "TriSplits") (d2 := d - 1) [.int (xs (x3 + (1 : Int32)).toNatClampNeg), .int (xs (x3 + (2 : Int32)).toNatClampNeg)] d_L_law_1760 mi_T_roots wd_1037 wd_1038 wd_1039 (by decide) (el_T (show ay_sh 0 = _ from rfl)) rfl rfl (by omega) rfl rfl (Nat.le_of_ble_eq_true rfl) ?_
  refine Call.post ?_ (cf_T_roots_ok (by omega) (xs (x3 + (1 : Int32)).toNatClampNeg) (xs (x3 + (2 : Int32)).toNatClampNeg)  w _ h)
  rintro _ _ ⟨r194, rfl, rfl, h⟩
  show wp g (ay_Xs g b L xs) y_L_law code 4 ret d 1763 [(0, .ref b), (1, .ref (g.1 + 0)), (2, .ref (g.1 + 30)), (3, .int x3)] [.int r194] w Q
  refine am_aload_n d_L_law_1763 2 rfl ?_
  refine am_aload_n d_L_law_1764 0 rfl ?_
  refine am_iload_n d_L_law_1765 3 rfl ?_
  refine am_iconst (v := 1) d_L_law_1766 rfl ?_
  refine am_iadd d_L_law_1767 ?_
  have hi1768 := h.1
  have h := h.2
  refine am_sld d_L_law_1768 hi1768 ?_
  refine am_aload_n d_L_law_1769 0 rfl ?_
  refine am_iload_n d_L_law_1770 3 rfl ?_
  refine am_iconst (v := 2) d_L_law_1771 rfl ?_
  refine am_iadd d_L_law_1772 ?_
  have hi1773 := h.1
  have h := h.2
  refine am_sld d_L_law_1773 hi1773 ?_
  refine am_callV (C := "TriSplitsModel") (d2 := d - 1) [.int (xs (x3 + (1 : Int32)).toNatClampNeg), .int (xs (x3 + (2 : Int32)).toNatClampNeg)] d_L_law_1774 mi_M_roots wd_1361 wd_1362 wd_1363 (by decide) (el_M (show ay_sh 30 = _ from rfl)) rfl rfl (by omega) rfl rfl (Nat.le_of_ble_eq_true rfl) ?_
  refine Call.post ?_ (cf_M_roots_ok (by omega) (xs (x3 + (1 : Int32)).toNatClampNeg) (xs (x3 + (2 : Int32)).toNatClampNeg)  w _ h)
  rintro _ w196 ⟨r195, rfl, h⟩
  show wp g (ay_Xs g b L xs) y_L_law code 4 ret d 1777 [(0, .ref b), (1, .ref (g.1 + 0)), (2, .ref (g.1 + 30)), (3, .int x3)] [.int r195, .int r194] w196 Q
  refine am_icmp_eq (tgt := 2068) d_L_law_1777 (by decide) (fun c1777 => ?_) (fun c1777 => ?_)
  · have h := h.1 c1777
    obtain ⟨v197, ev197⟩ : ∃ z : Int32, z = x3 + (6 : Int32) := ⟨_, rfl⟩
    have h := h v197 ev197
    refine am_iinc (v := v197) (l' := [(3, .int v197), (0, .ref b), (1, .ref (g.1 + 0)), (2, .ref (g.1 + 30))]) d_L_law_2068 3 rfl (by rw [ev197]; rfl) (by decide) rfl ?_
    refine am_goto (tgt := 18) d_L_law_2071 (by decide) ?_
    refine am_sub [1, 2, 3, 0] rfl ?_
    exact hK18 v197 w196 h
  · have h := h.2 c1777
    refine am_iconst (v := 0) d_L_law_1780 rfl ?_
    exact am_ireturn d_L_law_1781 rfl rfl (hQ (0 : Int32) w196 h)
theorem cf_L_law_B1782_ok {g : ayG} {d : Nat} (hd : 164 ≤ d) (b : Nat) (L : Nat) (xs : Nat → Int32)  (w : Wd) (K18 : Int32 → Wd → Prop) (P : Int32 → Wd → Prop) (Q : Option Value → Wd → Prop) (hQ : ∀ x w2, P x w2 → Q (some (.int x)) w2) (hK18 : ∀ (x3 : Int32) (w : Wd), (K18 x3 w → wp g (ay_Xs g b L xs) y_L_law code 4 ret d 18 [(0, .ref b), (1, .ref (g.1 + 0)), (2, .ref (g.1 + 30)), (3, .int x3)] [] w Q)) (x3 : Int32) (h : cf_L_law_B1782 b L xs K18 P x3 w) : wp g (ay_Xs g b L xs) y_L_law code 4 ret d 1782 [(0, .ref b), (1, .ref (g.1 + 0)), (2, .ref (g.1 + 30)), (3, .int x3)] [] w Q := by
  unfold cf_L_law_B1782 at h
  refine am_aload_n d_L_law_1782 1 rfl ?_
  refine am_aload_n d_L_law_1783 0 rfl ?_
  refine am_iload_n d_L_law_1784 3 rfl ?_
  refine am_iconst (v := 1) d_L_law_1785 rfl ?_
  refine am_iadd d_L_law_1786 ?_
  have hi1787 := h.1
  have h := h.2
  refine am_sld d_L_law_1787 hi1787 ?_
  refine am_callV (C := "TriSplits") (d2 := d - 1) [.int (xs (x3 + (1 : Int32)).toNatClampNeg)] d_L_law_1788 mi_T_shift wd_907 wd_908 wd_909 (by decide) (el_T (show ay_sh 0 = _ from rfl)) rfl rfl (by omega) rfl rfl (Nat.le_of_ble_eq_true rfl) ?_
  refine Call.post ?_ (cf_T_shift_ok (by omega) (xs (x3 + (1 : Int32)).toNatClampNeg)  w _ h)
  rintro _ w199 ⟨r198, rfl, h⟩
  show wp g (ay_Xs g b L xs) y_L_law code 4 ret d 1791 [(0, .ref b), (1, .ref (g.1 + 0)), (2, .ref (g.1 + 30)), (3, .int x3)] [.long r198] w199 Q
  refine am_aload_n d_L_law_1791 2 rfl ?_
  refine am_aload_n d_L_law_1792 0 rfl ?_
  refine am_iload_n d_L_law_1793 3 rfl ?_
  refine am_iconst (v := 1) d_L_law_1794 rfl ?_
  refine am_iadd d_L_law_1795 ?_
  have hi1796 := h.1
  have h := h.2
  refine am_sld d_L_law_1796 hi1796 ?_
  refine am_callV (C := "TriSplitsModel") (d2 := d - 1) [.int (xs (x3 + (1 : Int32)).toNatClampNeg)] d_L_law_1797 mi_M_shift wd_1378 wd_1379 wd_1380 (by decide) (el_M (show ay_sh 30 = _ from rfl)) rfl rfl (by omega) rfl rfl (Nat.le_of_ble_eq_true rfl) ?_
  refine Call.post ?_ (cf_M_shift_ok (by omega) (xs (x3 + (1 : Int32)).toNatClampNeg)  w199 _ h)
  rintro _ w201 ⟨r200, rfl, h⟩
  show wp g (ay_Xs g b L xs) y_L_law code 4 ret d 1800 [(0, .ref b), (1, .ref (g.1 + 0)), (2, .ref (g.1 + 30)), (3, .int x3)] [.long r200, .long r198] w201 Q
  refine am_lif_eq (tgt := 2068) d_L_law_1800 d_L_law_1801 (by decide) (fun c1800 => ?_) (fun c1800 => ?_)
  · have h := h.1 c1800
    obtain ⟨v202, ev202⟩ : ∃ z : Int32, z = x3 + (6 : Int32) := ⟨_, rfl⟩
    have h := h v202 ev202
    refine am_iinc (v := v202) (l' := [(3, .int v202), (0, .ref b), (1, .ref (g.1 + 0)), (2, .ref (g.1 + 30))]) d_L_law_2068 3 rfl (by rw [ev202]; rfl) (by decide) rfl ?_
    refine am_goto (tgt := 18) d_L_law_2071 (by decide) ?_
    refine am_sub [1, 2, 3, 0] rfl ?_
    exact hK18 v202 w201 h
  · have h := h.2 c1800
    refine am_iconst (v := 0) d_L_law_1804 rfl ?_
    exact am_ireturn d_L_law_1805 rfl rfl (hQ (0 : Int32) w201 h)
theorem cf_L_law_B1806_ok {g : ayG} {d : Nat} (hd : 164 ≤ d) (b : Nat) (L : Nat) (xs : Nat → Int32)  (w : Wd) (K18 : Int32 → Wd → Prop) (P : Int32 → Wd → Prop) (Q : Option Value → Wd → Prop) (hQ : ∀ x w2, P x w2 → Q (some (.int x)) w2) (hK18 : ∀ (x3 : Int32) (w : Wd), (K18 x3 w → wp g (ay_Xs g b L xs) y_L_law code 4 ret d 18 [(0, .ref b), (1, .ref (g.1 + 0)), (2, .ref (g.1 + 30)), (3, .int x3)] [] w Q)) (x3 : Int32) (h : cf_L_law_B1806 b L xs K18 P x3 w) : wp g (ay_Xs g b L xs) y_L_law code 4 ret d 1806 [(0, .ref b), (1, .ref (g.1 + 0)), (2, .ref (g.1 + 30)), (3, .int x3)] [] w Q := by
  unfold cf_L_law_B1806 at h
  refine am_aload_n d_L_law_1806 1 rfl ?_
  refine am_aload_n d_L_law_1807 0 rfl ?_
  refine am_iload_n d_L_law_1808 3 rfl ?_
  refine am_iconst (v := 1) d_L_law_1809 rfl ?_
  refine am_iadd d_L_law_1810 ?_
  have hi1811 := h.1
  have h := h.2
  refine am_sld d_L_law_1811 hi1811 ?_
  refine am_aload_n d_L_law_1812 0 rfl ?_
  refine am_iload_n d_L_law_1813 3 rfl ?_
  refine am_iconst (v := 2) d_L_law_1814 rfl ?_
  refine am_iadd d_L_law_1815 ?_
  have hi1816 := h.1
  have h := h.2
  refine am_sld d_L_law_1816 hi1816 ?_
  refine am_callV (C := "TriSplits") (d2 := d - 1) [.int (xs (x3 + (1 : Int32)).toNatClampNeg), .int (xs (x3 + (2 : Int32)).toNatClampNeg)] d_L_law_1817 mi_T_letter wd_807 wd_808 wd_809 (by decide) (el_T (show ay_sh 0 = _ from rfl)) rfl rfl (by omega) rfl rfl (Nat.le_of_ble_eq_true rfl) ?_
  refine Call.post ?_ (cf_T_letter_ok (by omega) (xs (x3 + (1 : Int32)).toNatClampNeg) (xs (x3 + (2 : Int32)).toNatClampNeg)  w _ h)
  rintro _ w204 ⟨r203, rfl, h⟩
  show wp g (ay_Xs g b L xs) y_L_law code 4 ret d 1820 [(0, .ref b), (1, .ref (g.1 + 0)), (2, .ref (g.1 + 30)), (3, .int x3)] [.int r203] w204 Q
  refine am_aload_n d_L_law_1820 2 rfl ?_
  refine am_aload_n d_L_law_1821 0 rfl ?_
  refine am_iload_n d_L_law_1822 3 rfl ?_
  refine am_iconst (v := 1) d_L_law_1823 rfl ?_
  refine am_iadd d_L_law_1824 ?_
  have hi1825 := h.1
  have h := h.2
  refine am_sld d_L_law_1825 hi1825 ?_
  refine am_aload_n d_L_law_1826 0 rfl ?_
  refine am_iload_n d_L_law_1827 3 rfl ?_
  refine am_iconst (v := 2) d_L_law_1828 rfl ?_
  refine am_iadd d_L_law_1829 ?_
  have hi1830 := h.1
  have h := h.2
  refine am_sld d_L_law_1830 hi1830 ?_
  refine am_callV (C := "TriSplitsModel") (d2 := d - 1) [.int (xs (x3 + (1 : Int32)).toNatClampNeg), .int (xs (x3 + (2 : Int32)).toNatClampNeg)] d_L_law_1831 mi_M_letter wd_1496 wd_1497 wd_1498 (by decide) (el_M (show ay_sh 30 = _ from rfl)) rfl rfl (by omega) rfl rfl (Nat.le_of_ble_eq_true rfl) ?_
  refine Call.post ?_ (cf_M_letter_ok (by omega) (xs (x3 + (1 : Int32)).toNatClampNeg) (xs (x3 + (2 : Int32)).toNatClampNeg)  w204 _ h)
  rintro _ w206 ⟨r205, rfl, h⟩
  show wp g (ay_Xs g b L xs) y_L_law code 4 ret d 1834 [(0, .ref b), (1, .ref (g.1 + 0)), (2, .ref (g.1 + 30)), (3, .int x3)] [.int r205, .int r203] w206 Q
  refine am_icmp_eq (tgt := 2068) d_L_law_1834 (by decide) (fun c1834 => ?_) (fun c1834 => ?_)
  · have h := h.1 c1834
    obtain ⟨v207, ev207⟩ : ∃ z : Int32, z = x3 + (6 : Int32) := ⟨_, rfl⟩
    have h := h v207 ev207
    refine am_iinc (v := v207) (l' := [(3, .int v207), (0, .ref b), (1, .ref (g.1 + 0)), (2, .ref (g.1 + 30))]) d_L_law_2068 3 rfl (by rw [ev207]; rfl) (by decide) rfl ?_
    refine am_goto (tgt := 18) d_L_law_2071 (by decide) ?_
    refine am_sub [1, 2, 3, 0] rfl ?_
    exact hK18 v207 w206 h
  · have h := h.2 c1834
    refine am_iconst (v := 0) d_L_law_1837 rfl ?_
    exact am_ireturn d_L_law_1838 rfl rfl (hQ (0 : Int32) w206 h)
theorem cf_L_law_B1839_ok {g : ayG} {d : Nat} (hd : 164 ≤ d) (b : Nat) (L : Nat) (xs : Nat → Int32)  (w : Wd) (K18 : Int32 → Wd → Prop) (P : Int32 → Wd → Prop) (Q : Option Value → Wd → Prop) (hQ : ∀ x w2, P x w2 → Q (some (.int x)) w2) (hK18 : ∀ (x3 : Int32) (w : Wd), (K18 x3 w → wp g (ay_Xs g b L xs) y_L_law code 4 ret d 18 [(0, .ref b), (1, .ref (g.1 + 0)), (2, .ref (g.1 + 30)), (3, .int x3)] [] w Q)) (x3 : Int32) (h : cf_L_law_B1839 b L xs K18 P x3 w) : wp g (ay_Xs g b L xs) y_L_law code 4 ret d 1839 [(0, .ref b), (1, .ref (g.1 + 0)), (2, .ref (g.1 + 30)), (3, .int x3)] [] w Q := by
  unfold cf_L_law_B1839 at h
  refine am_aload_n d_L_law_1839 1 rfl ?_
  refine am_aload_n d_L_law_1840 0 rfl ?_
  refine am_iload_n d_L_law_1841 3 rfl ?_
  refine am_iconst (v := 1) d_L_law_1842 rfl ?_
  refine am_iadd d_L_law_1843 ?_
  have hi1844 := h.1
  have h := h.2
  refine am_sld d_L_law_1844 hi1844 ?_
  refine am_aload_n d_L_law_1845 0 rfl ?_
  refine am_iload_n d_L_law_1846 3 rfl ?_
  refine am_iconst (v := 2) d_L_law_1847 rfl ?_
  refine am_iadd d_L_law_1848 ?_
  have hi1849 := h.1
  have h := h.2
  refine am_sld d_L_law_1849 hi1849 ?_
  refine am_callV (C := "TriSplits") (d2 := d - 1) [.int (xs (x3 + (1 : Int32)).toNatClampNeg), .int (xs (x3 + (2 : Int32)).toNatClampNeg)] d_L_law_1850 mi_T_spell wd_844 wd_845 wd_846 (by decide) (el_T (show ay_sh 0 = _ from rfl)) rfl rfl (by omega) rfl rfl (Nat.le_of_ble_eq_true rfl) ?_
  refine Call.post ?_ (cf_T_spell_ok (by omega) (xs (x3 + (1 : Int32)).toNatClampNeg) (xs (x3 + (2 : Int32)).toNatClampNeg)  w _ h)
  rintro _ w209 ⟨r208, rfl, h⟩
  show wp g (ay_Xs g b L xs) y_L_law code 4 ret d 1853 [(0, .ref b), (1, .ref (g.1 + 0)), (2, .ref (g.1 + 30)), (3, .int x3)] [.int r208] w209 Q
  refine am_aload_n d_L_law_1853 2 rfl ?_
  refine am_aload_n d_L_law_1854 0 rfl ?_
  refine am_iload_n d_L_law_1855 3 rfl ?_
  refine am_iconst (v := 1) d_L_law_1856 rfl ?_
  refine am_iadd d_L_law_1857 ?_
  have hi1858 := h.1
  have h := h.2
  refine am_sld d_L_law_1858 hi1858 ?_
  refine am_aload_n d_L_law_1859 0 rfl ?_
  refine am_iload_n d_L_law_1860 3 rfl ?_
  refine am_iconst (v := 2) d_L_law_1861 rfl ?_
  refine am_iadd d_L_law_1862 ?_
  have hi1863 := h.1
  have h := h.2
  refine am_sld d_L_law_1863 hi1863 ?_
  refine am_callV (C := "TriSplitsModel") (d2 := d - 1) [.int (xs (x3 + (1 : Int32)).toNatClampNeg), .int (xs (x3 + (2 : Int32)).toNatClampNeg)] d_L_law_1864 mi_M_spell wd_1524 wd_1525 wd_1526 (by decide) (el_M (show ay_sh 30 = _ from rfl)) rfl rfl (by omega) rfl rfl (Nat.le_of_ble_eq_true rfl) ?_
  refine Call.post ?_ (cf_M_spell_ok (by omega) (xs (x3 + (1 : Int32)).toNatClampNeg) (xs (x3 + (2 : Int32)).toNatClampNeg)  w209 _ h)
  rintro _ w211 ⟨r210, rfl, h⟩
  show wp g (ay_Xs g b L xs) y_L_law code 4 ret d 1867 [(0, .ref b), (1, .ref (g.1 + 0)), (2, .ref (g.1 + 30)), (3, .int x3)] [.int r210, .int r208] w211 Q
  refine am_icmp_eq (tgt := 2068) d_L_law_1867 (by decide) (fun c1867 => ?_) (fun c1867 => ?_)
  · have h := h.1 c1867
    obtain ⟨v212, ev212⟩ : ∃ z : Int32, z = x3 + (6 : Int32) := ⟨_, rfl⟩
    have h := h v212 ev212
    refine am_iinc (v := v212) (l' := [(3, .int v212), (0, .ref b), (1, .ref (g.1 + 0)), (2, .ref (g.1 + 30))]) d_L_law_2068 3 rfl (by rw [ev212]; rfl) (by decide) rfl ?_
    refine am_goto (tgt := 18) d_L_law_2071 (by decide) ?_
    refine am_sub [1, 2, 3, 0] rfl ?_
    exact hK18 v212 w211 h
  · have h := h.2 c1867
    refine am_iconst (v := 0) d_L_law_1870 rfl ?_
    exact am_ireturn d_L_law_1871 rfl rfl (hQ (0 : Int32) w211 h)
theorem cf_L_law_B1891_ok {g : ayG} {d : Nat} (hd : 164 ≤ d) (b : Nat) (L : Nat) (xs : Nat → Int32)  (w : Wd) (K18 : Int32 → Wd → Prop) (P : Int32 → Wd → Prop) (Q : Option Value → Wd → Prop) (hQ : ∀ x w2, P x w2 → Q (some (.int x)) w2) (hK18 : ∀ (x3 : Int32) (w : Wd), (K18 x3 w → wp g (ay_Xs g b L xs) y_L_law code 4 ret d 18 [(0, .ref b), (1, .ref (g.1 + 0)), (2, .ref (g.1 + 30)), (3, .int x3)] [] w Q)) (x3 : Int32) (s0 : Int32) (s1 : Int32) (h : cf_L_law_B1891 b L xs K18 P x3 s0 s1 w) : wp g (ay_Xs g b L xs) y_L_law code 4 ret d 1891 [(0, .ref b), (1, .ref (g.1 + 0)), (2, .ref (g.1 + 30)), (3, .int x3)] [.int s0, .int s1, .ref (g.1 + 0)] w Q := by
  unfold cf_L_law_B1891 at h
  refine am_callV (C := "TriSplits") (d2 := d - 1) [.int s1, .int s0] d_L_law_1891 mi_T_next wd_981 wd_982 wd_983 (by decide) (el_T (show ay_sh 0 = _ from rfl)) rfl rfl (by omega) rfl rfl (Nat.le_of_ble_eq_true rfl) ?_
  refine Call.post ?_ (cf_T_next_ok (by omega) s1 s0  w _ h)
  rintro _ w214 ⟨r213, rfl, h⟩
  show wp g (ay_Xs g b L xs) y_L_law code 4 ret d 1894 [(0, .ref b), (1, .ref (g.1 + 0)), (2, .ref (g.1 + 30)), (3, .int x3)] [.long r213] w214 Q
  refine am_aload_n d_L_law_1894 2 rfl ?_
  refine am_aload_n d_L_law_1895 0 rfl ?_
  refine am_iload_n d_L_law_1896 3 rfl ?_
  refine am_iconst (v := 1) d_L_law_1897 rfl ?_
  refine am_iadd d_L_law_1898 ?_
  have hi1899 := h.1
  have h := h.2
  refine am_sld d_L_law_1899 hi1899 ?_
  refine am_aload_n d_L_law_1900 0 rfl ?_
  refine am_iload_n d_L_law_1901 3 rfl ?_
  refine am_iconst (v := 2) d_L_law_1902 rfl ?_
  refine am_iadd d_L_law_1903 ?_
  have hi1904 := h.1
  have h := h.2
  refine am_sld d_L_law_1904 hi1904 ?_
  refine am_if_eq (tgt := 1912) d_L_law_1905 (by decide) (fun c1905 => ?_) (fun c1905 => ?_)
  · have h := h.1 c1905
    refine am_iconst (v := 0) d_L_law_1912 rfl ?_
    refine am_callV (C := "TriSplitsModel") (d2 := d - 1) [.int (xs (x3 + (1 : Int32)).toNatClampNeg), .int (0 : Int32)] d_L_law_1913 mi_M_next wd_1657 wd_1658 wd_1659 (by decide) (el_M (show ay_sh 30 = _ from rfl)) rfl rfl (by omega) rfl rfl (Nat.le_of_ble_eq_true rfl) ?_
    refine Call.post ?_ (cf_M_next_ok (by omega) (xs (x3 + (1 : Int32)).toNatClampNeg) (0 : Int32)  w214 _ h)
    rintro _ w216 ⟨r215, rfl, h⟩
    show wp g (ay_Xs g b L xs) y_L_law code 4 ret d 1916 [(0, .ref b), (1, .ref (g.1 + 0)), (2, .ref (g.1 + 30)), (3, .int x3)] [.long r215, .long r213] w216 Q
    refine am_lif_eq (tgt := 2068) d_L_law_1916 d_L_law_1917 (by decide) (fun c1916 => ?_) (fun c1916 => ?_)
    · have h := h.1 c1916
      obtain ⟨v217, ev217⟩ : ∃ z : Int32, z = x3 + (6 : Int32) := ⟨_, rfl⟩
      have h := h v217 ev217
      refine am_iinc (v := v217) (l' := [(3, .int v217), (0, .ref b), (1, .ref (g.1 + 0)), (2, .ref (g.1 + 30))]) d_L_law_2068 3 rfl (by rw [ev217]; rfl) (by decide) rfl ?_
      refine am_goto (tgt := 18) d_L_law_2071 (by decide) ?_
      refine am_sub [1, 2, 3, 0] rfl ?_
      exact hK18 v217 w216 h
    · have h := h.2 c1916
      refine am_iconst (v := 0) d_L_law_1920 rfl ?_
      exact am_ireturn d_L_law_1921 rfl rfl (hQ (0 : Int32) w216 h)
  · have h := h.2 c1905
    refine am_iconst (v := 1) d_L_law_1908 rfl ?_
    refine am_goto (tgt := 1913) d_L_law_1909 (by decide) ?_
    refine am_callV (C := "TriSplitsModel") (d2 := d - 1) [.int (xs (x3 + (1 : Int32)).toNatClampNeg), .int (1 : Int32)] d_L_law_1913 mi_M_next wd_1657 wd_1658 wd_1659 (by decide) (el_M (show ay_sh 30 = _ from rfl)) rfl rfl (by omega) rfl rfl (Nat.le_of_ble_eq_true rfl) ?_
    refine Call.post ?_ (cf_M_next_ok (by omega) (xs (x3 + (1 : Int32)).toNatClampNeg) (1 : Int32)  w214 _ h)
    rintro _ w219 ⟨r218, rfl, h⟩
    show wp g (ay_Xs g b L xs) y_L_law code 4 ret d 1916 [(0, .ref b), (1, .ref (g.1 + 0)), (2, .ref (g.1 + 30)), (3, .int x3)] [.long r218, .long r213] w219 Q
    refine am_lif_eq (tgt := 2068) d_L_law_1916 d_L_law_1917 (by decide) (fun c1916 => ?_) (fun c1916 => ?_)
    · have h := h.1 c1916
      obtain ⟨v220, ev220⟩ : ∃ z : Int32, z = x3 + (6 : Int32) := ⟨_, rfl⟩
      have h := h v220 ev220
      refine am_iinc (v := v220) (l' := [(3, .int v220), (0, .ref b), (1, .ref (g.1 + 0)), (2, .ref (g.1 + 30))]) d_L_law_2068 3 rfl (by rw [ev220]; rfl) (by decide) rfl ?_
      refine am_goto (tgt := 18) d_L_law_2071 (by decide) ?_
      refine am_sub [1, 2, 3, 0] rfl ?_
      exact hK18 v220 w219 h
    · have h := h.2 c1916
      refine am_iconst (v := 0) d_L_law_1920 rfl ?_
      exact am_ireturn d_L_law_1921 rfl rfl (hQ (0 : Int32) w219 h)
theorem cf_L_law_B1872_ok {g : ayG} {d : Nat} (hd : 164 ≤ d) (b : Nat) (L : Nat) (xs : Nat → Int32)  (w : Wd) (K18 : Int32 → Wd → Prop) (P : Int32 → Wd → Prop) (Q : Option Value → Wd → Prop) (hQ : ∀ x w2, P x w2 → Q (some (.int x)) w2) (hK18 : ∀ (x3 : Int32) (w : Wd), (K18 x3 w → wp g (ay_Xs g b L xs) y_L_law code 4 ret d 18 [(0, .ref b), (1, .ref (g.1 + 0)), (2, .ref (g.1 + 30)), (3, .int x3)] [] w Q)) (x3 : Int32) (h : cf_L_law_B1872 b L xs K18 P x3 w) : wp g (ay_Xs g b L xs) y_L_law code 4 ret d 1872 [(0, .ref b), (1, .ref (g.1 + 0)), (2, .ref (g.1 + 30)), (3, .int x3)] [] w Q := by
  unfold cf_L_law_B1872 at h
  refine am_aload_n d_L_law_1872 1 rfl ?_
  refine am_aload_n d_L_law_1873 0 rfl ?_
  refine am_iload_n d_L_law_1874 3 rfl ?_
  refine am_iconst (v := 1) d_L_law_1875 rfl ?_
  refine am_iadd d_L_law_1876 ?_
  have hi1877 := h.1
  have h := h.2
  refine am_sld d_L_law_1877 hi1877 ?_
  refine am_aload_n d_L_law_1878 0 rfl ?_
  refine am_iload_n d_L_law_1879 3 rfl ?_
  refine am_iconst (v := 2) d_L_law_1880 rfl ?_
  refine am_iadd d_L_law_1881 ?_
  have hi1882 := h.1
  have h := h.2
  refine am_sld d_L_law_1882 hi1882 ?_
  refine am_if_eq (tgt := 1890) d_L_law_1883 (by decide) (fun c1883 => ?_) (fun c1883 => ?_)
  · have h := h.1 c1883
    refine am_iconst (v := 0) d_L_law_1890 rfl ?_
    refine am_sub [0, 1, 2, 3] rfl ?_
    exact cf_L_law_B1891_ok (by omega) b L xs  w K18 P Q hQ hK18 x3 (0 : Int32) (xs (x3 + (1 : Int32)).toNatClampNeg) h
  · have h := h.2 c1883
    refine am_iconst (v := 1) d_L_law_1886 rfl ?_
    refine am_goto (tgt := 1891) d_L_law_1887 (by decide) ?_
    refine am_sub [0, 1, 2, 3] rfl ?_
    exact cf_L_law_B1891_ok (by omega) b L xs  w K18 P Q hQ hK18 x3 (1 : Int32) (xs (x3 + (1 : Int32)).toNatClampNeg) h
theorem cf_L_law_B1922_ok {g : ayG} {d : Nat} (hd : 164 ≤ d) (b : Nat) (L : Nat) (xs : Nat → Int32)  (w : Wd) (K18 : Int32 → Wd → Prop) (P : Int32 → Wd → Prop) (Q : Option Value → Wd → Prop) (hQ : ∀ x w2, P x w2 → Q (some (.int x)) w2) (hK18 : ∀ (x3 : Int32) (w : Wd), (K18 x3 w → wp g (ay_Xs g b L xs) y_L_law code 4 ret d 18 [(0, .ref b), (1, .ref (g.1 + 0)), (2, .ref (g.1 + 30)), (3, .int x3)] [] w Q)) (x3 : Int32) (h : cf_L_law_B1922 b L xs K18 P x3 w) : wp g (ay_Xs g b L xs) y_L_law code 4 ret d 1922 [(0, .ref b), (1, .ref (g.1 + 0)), (2, .ref (g.1 + 30)), (3, .int x3)] [] w Q := by
  unfold cf_L_law_B1922 at h
  refine am_aload_n d_L_law_1922 1 rfl ?_
  refine am_aload_n d_L_law_1923 0 rfl ?_
  refine am_iload_n d_L_law_1924 3 rfl ?_
  refine am_iconst (v := 1) d_L_law_1925 rfl ?_
  refine am_iadd d_L_law_1926 ?_
  have hi1927 := h.1
  have h := h.2
  refine am_sld d_L_law_1927 hi1927 ?_
  refine am_aload_n d_L_law_1928 0 rfl ?_
  refine am_iload_n d_L_law_1929 3 rfl ?_
  refine am_iconst (v := 2) d_L_law_1930 rfl ?_
  refine am_iadd d_L_law_1931 ?_
  have hi1932 := h.1
  have h := h.2
  refine am_sld d_L_law_1932 hi1932 ?_
  refine am_callV (C := "TriSplits") (d2 := d - 1) [.int (xs (x3 + (1 : Int32)).toNatClampNeg), .int (xs (x3 + (2 : Int32)).toNatClampNeg)] d_L_law_1933 mi_T_divisor wd_766 wd_767 wd_768 (by decide) (el_T (show ay_sh 0 = _ from rfl)) rfl rfl (by omega) rfl rfl (Nat.le_of_ble_eq_true rfl) ?_
  refine Call.post ?_ (cf_T_divisor_ok (by omega) (xs (x3 + (1 : Int32)).toNatClampNeg) (xs (x3 + (2 : Int32)).toNatClampNeg)  w _ h)
  rintro _ w222 ⟨r221, rfl, h⟩
  show wp g (ay_Xs g b L xs) y_L_law code 4 ret d 1936 [(0, .ref b), (1, .ref (g.1 + 0)), (2, .ref (g.1 + 30)), (3, .int x3)] [.long r221] w222 Q
  refine am_aload_n d_L_law_1936 2 rfl ?_
  refine am_aload_n d_L_law_1937 0 rfl ?_
  refine am_iload_n d_L_law_1938 3 rfl ?_
  refine am_iconst (v := 1) d_L_law_1939 rfl ?_
  refine am_iadd d_L_law_1940 ?_
  have hi1941 := h.1
  have h := h.2
  refine am_sld d_L_law_1941 hi1941 ?_
  refine am_aload_n d_L_law_1942 0 rfl ?_
  refine am_iload_n d_L_law_1943 3 rfl ?_
  refine am_iconst (v := 2) d_L_law_1944 rfl ?_
  refine am_iadd d_L_law_1945 ?_
  have hi1946 := h.1
  have h := h.2
  refine am_sld d_L_law_1946 hi1946 ?_
  refine am_callV (C := "TriSplitsModel") (d2 := d - 1) [.int (xs (x3 + (1 : Int32)).toNatClampNeg), .int (xs (x3 + (2 : Int32)).toNatClampNeg)] d_L_law_1947 mi_M_divisor wd_1661 wd_1662 wd_1663 (by decide) (el_M (show ay_sh 30 = _ from rfl)) rfl rfl (by omega) rfl rfl (Nat.le_of_ble_eq_true rfl) ?_
  refine Call.post ?_ (cf_M_divisor_ok (by omega) (xs (x3 + (1 : Int32)).toNatClampNeg) (xs (x3 + (2 : Int32)).toNatClampNeg)  w222 _ h)
  rintro _ w224 ⟨r223, rfl, h⟩
  show wp g (ay_Xs g b L xs) y_L_law code 4 ret d 1950 [(0, .ref b), (1, .ref (g.1 + 0)), (2, .ref (g.1 + 30)), (3, .int x3)] [.long r223, .long r221] w224 Q
  refine am_lif_eq (tgt := 2068) d_L_law_1950 d_L_law_1951 (by decide) (fun c1950 => ?_) (fun c1950 => ?_)
  · have h := h.1 c1950
    obtain ⟨v225, ev225⟩ : ∃ z : Int32, z = x3 + (6 : Int32) := ⟨_, rfl⟩
    have h := h v225 ev225
    refine am_iinc (v := v225) (l' := [(3, .int v225), (0, .ref b), (1, .ref (g.1 + 0)), (2, .ref (g.1 + 30))]) d_L_law_2068 3 rfl (by rw [ev225]; rfl) (by decide) rfl ?_
    refine am_goto (tgt := 18) d_L_law_2071 (by decide) ?_
    refine am_sub [1, 2, 3, 0] rfl ?_
    exact hK18 v225 w224 h
  · have h := h.2 c1950
    refine am_iconst (v := 0) d_L_law_1954 rfl ?_
    exact am_ireturn d_L_law_1955 rfl rfl (hQ (0 : Int32) w224 h)
theorem cf_L_law_B1956_ok {g : ayG} {d : Nat} (hd : 164 ≤ d) (b : Nat) (L : Nat) (xs : Nat → Int32)  (w : Wd) (K18 : Int32 → Wd → Prop) (P : Int32 → Wd → Prop) (Q : Option Value → Wd → Prop) (hQ : ∀ x w2, P x w2 → Q (some (.int x)) w2) (hK18 : ∀ (x3 : Int32) (w : Wd), (K18 x3 w → wp g (ay_Xs g b L xs) y_L_law code 4 ret d 18 [(0, .ref b), (1, .ref (g.1 + 0)), (2, .ref (g.1 + 30)), (3, .int x3)] [] w Q)) (x3 : Int32) (h : cf_L_law_B1956 b L xs K18 P x3 w) : wp g (ay_Xs g b L xs) y_L_law code 4 ret d 1956 [(0, .ref b), (1, .ref (g.1 + 0)), (2, .ref (g.1 + 30)), (3, .int x3)] [] w Q := by
  unfold cf_L_law_B1956 at h
  refine am_aload_n d_L_law_1956 1 rfl ?_
  refine am_aload_n d_L_law_1957 0 rfl ?_
  refine am_iload_n d_L_law_1958 3 rfl ?_
  refine am_iconst (v := 1) d_L_law_1959 rfl ?_
  refine am_iadd d_L_law_1960 ?_
  have hi1961 := h.1
  have h := h.2
  refine am_sld d_L_law_1961 hi1961 ?_
  refine am_callV (C := "TriSplits") (d2 := d - 1) [.int (xs (x3 + (1 : Int32)).toNatClampNeg)] d_L_law_1962 mi_T_couples wd_790 wd_791 wd_792 (by decide) (el_T (show ay_sh 0 = _ from rfl)) rfl rfl (by omega) rfl rfl (Nat.le_of_ble_eq_true rfl) ?_
  refine Call.post ?_ (cf_T_couples_ok (by omega) (xs (x3 + (1 : Int32)).toNatClampNeg)  w _ h)
  rintro _ w227 ⟨r226, rfl, h⟩
  show wp g (ay_Xs g b L xs) y_L_law code 4 ret d 1965 [(0, .ref b), (1, .ref (g.1 + 0)), (2, .ref (g.1 + 30)), (3, .int x3)] [.int r226] w227 Q
  refine am_aload_n d_L_law_1965 2 rfl ?_
  refine am_aload_n d_L_law_1966 0 rfl ?_
  refine am_iload_n d_L_law_1967 3 rfl ?_
  refine am_iconst (v := 1) d_L_law_1968 rfl ?_
  refine am_iadd d_L_law_1969 ?_
  have hi1970 := h.1
  have h := h.2
  refine am_sld d_L_law_1970 hi1970 ?_
  refine am_callV (C := "TriSplitsModel") (d2 := d - 1) [.int (xs (x3 + (1 : Int32)).toNatClampNeg)] d_L_law_1971 mi_M_couples wd_1673 wd_1674 wd_1675 (by decide) (el_M (show ay_sh 30 = _ from rfl)) rfl rfl (by omega) rfl rfl (Nat.le_of_ble_eq_true rfl) ?_
  refine Call.post ?_ (cf_M_couples_ok (by omega) (xs (x3 + (1 : Int32)).toNatClampNeg)  w227 _ h)
  rintro _ w229 ⟨r228, rfl, h⟩
  show wp g (ay_Xs g b L xs) y_L_law code 4 ret d 1974 [(0, .ref b), (1, .ref (g.1 + 0)), (2, .ref (g.1 + 30)), (3, .int x3)] [.int r228, .int r226] w229 Q
  refine am_icmp_eq (tgt := 2068) d_L_law_1974 (by decide) (fun c1974 => ?_) (fun c1974 => ?_)
  · have h := h.1 c1974
    obtain ⟨v230, ev230⟩ : ∃ z : Int32, z = x3 + (6 : Int32) := ⟨_, rfl⟩
    have h := h v230 ev230
    refine am_iinc (v := v230) (l' := [(3, .int v230), (0, .ref b), (1, .ref (g.1 + 0)), (2, .ref (g.1 + 30))]) d_L_law_2068 3 rfl (by rw [ev230]; rfl) (by decide) rfl ?_
    refine am_goto (tgt := 18) d_L_law_2071 (by decide) ?_
    refine am_sub [1, 2, 3, 0] rfl ?_
    exact hK18 v230 w229 h
  · have h := h.2 c1974
    refine am_iconst (v := 0) d_L_law_1977 rfl ?_
    exact am_ireturn d_L_law_1978 rfl rfl (hQ (0 : Int32) w229 h)
theorem cf_L_law_B1979_ok {g : ayG} {d : Nat} (hd : 164 ≤ d) (b : Nat) (L : Nat) (xs : Nat → Int32)  (w : Wd) (K18 : Int32 → Wd → Prop) (P : Int32 → Wd → Prop) (Q : Option Value → Wd → Prop) (hQ : ∀ x w2, P x w2 → Q (some (.int x)) w2) (hK18 : ∀ (x3 : Int32) (w : Wd), (K18 x3 w → wp g (ay_Xs g b L xs) y_L_law code 4 ret d 18 [(0, .ref b), (1, .ref (g.1 + 0)), (2, .ref (g.1 + 30)), (3, .int x3)] [] w Q)) (x3 : Int32) (h : cf_L_law_B1979 b L xs K18 P x3 w) : wp g (ay_Xs g b L xs) y_L_law code 4 ret d 1979 [(0, .ref b), (1, .ref (g.1 + 0)), (2, .ref (g.1 + 30)), (3, .int x3)] [] w Q := by
  unfold cf_L_law_B1979 at h
  refine am_aload_n d_L_law_1979 1 rfl ?_
  refine am_aload_n d_L_law_1980 0 rfl ?_
  refine am_iload_n d_L_law_1981 3 rfl ?_
  refine am_iconst (v := 1) d_L_law_1982 rfl ?_
  refine am_iadd d_L_law_1983 ?_
  have hi1984 := h.1
  have h := h.2
  refine am_sld d_L_law_1984 hi1984 ?_
  refine am_aload_n d_L_law_1985 0 rfl ?_
  refine am_iload_n d_L_law_1986 3 rfl ?_
  refine am_iconst (v := 2) d_L_law_1987 rfl ?_
  refine am_iadd d_L_law_1988 ?_
  have hi1989 := h.1
  have h := h.2
  refine am_sld d_L_law_1989 hi1989 ?_
  refine am_callV (C := "TriSplits") (d2 := d - 1) [.int (xs (x3 + (1 : Int32)).toNatClampNeg), .int (xs (x3 + (2 : Int32)).toNatClampNeg)] d_L_law_1990 mi_T_mirror wd_794 wd_795 wd_796 (by decide) (el_T (show ay_sh 0 = _ from rfl)) rfl rfl (by omega) rfl rfl (Nat.le_of_ble_eq_true rfl) ?_
  refine Call.post ?_ (cf_T_mirror_ok (by omega) (xs (x3 + (1 : Int32)).toNatClampNeg) (xs (x3 + (2 : Int32)).toNatClampNeg)  w _ h)
  rintro _ _ ⟨r231, rfl, rfl, h⟩
  show wp g (ay_Xs g b L xs) y_L_law code 4 ret d 1993 [(0, .ref b), (1, .ref (g.1 + 0)), (2, .ref (g.1 + 30)), (3, .int x3)] [.int r231] w Q
  refine am_aload_n d_L_law_1993 2 rfl ?_
  refine am_aload_n d_L_law_1994 0 rfl ?_
  refine am_iload_n d_L_law_1995 3 rfl ?_
  refine am_iconst (v := 1) d_L_law_1996 rfl ?_
  refine am_iadd d_L_law_1997 ?_
  have hi1998 := h.1
  have h := h.2
  refine am_sld d_L_law_1998 hi1998 ?_
  refine am_aload_n d_L_law_1999 0 rfl ?_
  refine am_iload_n d_L_law_2000 3 rfl ?_
  refine am_iconst (v := 2) d_L_law_2001 rfl ?_
  refine am_iadd d_L_law_2002 ?_
  have hi2003 := h.1
  have h := h.2
  refine am_sld d_L_law_2003 hi2003 ?_
  refine am_callV (C := "TriSplitsModel") (d2 := d - 1) [.int (xs (x3 + (1 : Int32)).toNatClampNeg), .int (xs (x3 + (2 : Int32)).toNatClampNeg)] d_L_law_2004 mi_M_mirror wd_1677 wd_1678 wd_1679 (by decide) (el_M (show ay_sh 30 = _ from rfl)) rfl rfl (by omega) rfl rfl (Nat.le_of_ble_eq_true rfl) ?_
  refine Call.post ?_ (cf_M_mirror_ok (by omega) (xs (x3 + (1 : Int32)).toNatClampNeg) (xs (x3 + (2 : Int32)).toNatClampNeg)  w _ h)
  rintro _ _ ⟨r232, rfl, rfl, h⟩
  show wp g (ay_Xs g b L xs) y_L_law code 4 ret d 2007 [(0, .ref b), (1, .ref (g.1 + 0)), (2, .ref (g.1 + 30)), (3, .int x3)] [.int r232, .int r231] w Q
  refine am_icmp_eq (tgt := 2068) d_L_law_2007 (by decide) (fun c2007 => ?_) (fun c2007 => ?_)
  · have h := h.1 c2007
    obtain ⟨v233, ev233⟩ : ∃ z : Int32, z = x3 + (6 : Int32) := ⟨_, rfl⟩
    have h := h v233 ev233
    refine am_iinc (v := v233) (l' := [(3, .int v233), (0, .ref b), (1, .ref (g.1 + 0)), (2, .ref (g.1 + 30))]) d_L_law_2068 3 rfl (by rw [ev233]; rfl) (by decide) rfl ?_
    refine am_goto (tgt := 18) d_L_law_2071 (by decide) ?_
    refine am_sub [1, 2, 3, 0] rfl ?_
    exact hK18 v233 w h
  · have h := h.2 c2007
    refine am_iconst (v := 0) d_L_law_2010 rfl ?_
    exact am_ireturn d_L_law_2011 rfl rfl (hQ (0 : Int32) w h)
theorem cf_L_law_B2012_ok {g : ayG} {d : Nat} (hd : 164 ≤ d) (b : Nat) (L : Nat) (xs : Nat → Int32)  (w : Wd) (K18 : Int32 → Wd → Prop) (P : Int32 → Wd → Prop) (Q : Option Value → Wd → Prop) (hQ : ∀ x w2, P x w2 → Q (some (.int x)) w2) (hK18 : ∀ (x3 : Int32) (w : Wd), (K18 x3 w → wp g (ay_Xs g b L xs) y_L_law code 4 ret d 18 [(0, .ref b), (1, .ref (g.1 + 0)), (2, .ref (g.1 + 30)), (3, .int x3)] [] w Q)) (x3 : Int32) (h : cf_L_law_B2012 b L xs K18 P x3 w) : wp g (ay_Xs g b L xs) y_L_law code 4 ret d 2012 [(0, .ref b), (1, .ref (g.1 + 0)), (2, .ref (g.1 + 30)), (3, .int x3)] [] w Q := by
  unfold cf_L_law_B2012 at h
  refine am_aload_n d_L_law_2012 1 rfl ?_
  refine am_aload_n d_L_law_2013 0 rfl ?_
  refine am_iload_n d_L_law_2014 3 rfl ?_
  refine am_iconst (v := 1) d_L_law_2015 rfl ?_
  refine am_iadd d_L_law_2016 ?_
  have hi2017 := h.1
  have h := h.2
  refine am_sld d_L_law_2017 hi2017 ?_
  refine am_aload_n d_L_law_2018 0 rfl ?_
  refine am_iload_n d_L_law_2019 3 rfl ?_
  refine am_iconst (v := 2) d_L_law_2020 rfl ?_
  refine am_iadd d_L_law_2021 ?_
  have hi2022 := h.1
  have h := h.2
  refine am_sld d_L_law_2022 hi2022 ?_
  refine am_callV (C := "TriSplits") (d2 := d - 1) [.int (xs (x3 + (1 : Int32)).toNatClampNeg), .int (xs (x3 + (2 : Int32)).toNatClampNeg)] d_L_law_2023 mi_T_akin wd_799 wd_800 wd_801 (by decide) (el_T (show ay_sh 0 = _ from rfl)) rfl rfl (by omega) rfl rfl (Nat.le_of_ble_eq_true rfl) ?_
  refine Call.post ?_ (cf_T_akin_ok (by omega) (xs (x3 + (1 : Int32)).toNatClampNeg) (xs (x3 + (2 : Int32)).toNatClampNeg)  w _ h)
  rintro _ w235 ⟨r234, rfl, h⟩
  show wp g (ay_Xs g b L xs) y_L_law code 4 ret d 2026 [(0, .ref b), (1, .ref (g.1 + 0)), (2, .ref (g.1 + 30)), (3, .int x3)] [.int r234] w235 Q
  refine am_aload_n d_L_law_2026 2 rfl ?_
  refine am_aload_n d_L_law_2027 0 rfl ?_
  refine am_iload_n d_L_law_2028 3 rfl ?_
  refine am_iconst (v := 1) d_L_law_2029 rfl ?_
  refine am_iadd d_L_law_2030 ?_
  have hi2031 := h.1
  have h := h.2
  refine am_sld d_L_law_2031 hi2031 ?_
  refine am_aload_n d_L_law_2032 0 rfl ?_
  refine am_iload_n d_L_law_2033 3 rfl ?_
  refine am_iconst (v := 2) d_L_law_2034 rfl ?_
  refine am_iadd d_L_law_2035 ?_
  have hi2036 := h.1
  have h := h.2
  refine am_sld d_L_law_2036 hi2036 ?_
  refine am_callV (C := "TriSplitsModel") (d2 := d - 1) [.int (xs (x3 + (1 : Int32)).toNatClampNeg), .int (xs (x3 + (2 : Int32)).toNatClampNeg)] d_L_law_2037 mi_M_akin wd_1277 wd_1278 wd_1279 (by decide) (el_M (show ay_sh 30 = _ from rfl)) rfl rfl (by omega) rfl rfl (Nat.le_of_ble_eq_true rfl) ?_
  refine Call.post ?_ (cf_M_akin_ok (by omega) (xs (x3 + (1 : Int32)).toNatClampNeg) (xs (x3 + (2 : Int32)).toNatClampNeg)  w235 _ h)
  rintro _ w237 ⟨r236, rfl, h⟩
  show wp g (ay_Xs g b L xs) y_L_law code 4 ret d 2040 [(0, .ref b), (1, .ref (g.1 + 0)), (2, .ref (g.1 + 30)), (3, .int x3)] [.int r236, .int r234] w237 Q
  refine am_icmp_eq (tgt := 2068) d_L_law_2040 (by decide) (fun c2040 => ?_) (fun c2040 => ?_)
  · have h := h.1 c2040
    obtain ⟨v238, ev238⟩ : ∃ z : Int32, z = x3 + (6 : Int32) := ⟨_, rfl⟩
    have h := h v238 ev238
    refine am_iinc (v := v238) (l' := [(3, .int v238), (0, .ref b), (1, .ref (g.1 + 0)), (2, .ref (g.1 + 30))]) d_L_law_2068 3 rfl (by rw [ev238]; rfl) (by decide) rfl ?_
    refine am_goto (tgt := 18) d_L_law_2071 (by decide) ?_
    refine am_sub [1, 2, 3, 0] rfl ?_
    exact hK18 v238 w237 h
  · have h := h.2 c2040
    refine am_iconst (v := 0) d_L_law_2043 rfl ?_
    exact am_ireturn d_L_law_2044 rfl rfl (hQ (0 : Int32) w237 h)
theorem cf_L_law_B2045_ok {g : ayG} {d : Nat} (hd : 164 ≤ d) (b : Nat) (L : Nat) (xs : Nat → Int32)  (w : Wd) (K18 : Int32 → Wd → Prop) (P : Int32 → Wd → Prop) (Q : Option Value → Wd → Prop) (hQ : ∀ x w2, P x w2 → Q (some (.int x)) w2) (hK18 : ∀ (x3 : Int32) (w : Wd), (K18 x3 w → wp g (ay_Xs g b L xs) y_L_law code 4 ret d 18 [(0, .ref b), (1, .ref (g.1 + 0)), (2, .ref (g.1 + 30)), (3, .int x3)] [] w Q)) (x3 : Int32) (h : cf_L_law_B2045 b L xs K18 P x3 w) : wp g (ay_Xs g b L xs) y_L_law code 4 ret d 2045 [(0, .ref b), (1, .ref (g.1 + 0)), (2, .ref (g.1 + 30)), (3, .int x3)] [] w Q := by
  unfold cf_L_law_B2045 at h
  refine am_aload_n d_L_law_2045 1 rfl ?_
  refine am_aload_n d_L_law_2046 0 rfl ?_
  refine am_iload_n d_L_law_2047 3 rfl ?_
  refine am_iconst (v := 1) d_L_law_2048 rfl ?_
  refine am_iadd d_L_law_2049 ?_
  have hi2050 := h.1
  have h := h.2
  refine am_sld d_L_law_2050 hi2050 ?_
  refine am_callV (C := "TriSplits") (d2 := d - 1) [.int (xs (x3 + (1 : Int32)).toNatClampNeg)] d_L_law_2051 mi_T_count wd_1047 wd_1048 wd_1049 (by decide) (el_T (show ay_sh 0 = _ from rfl)) rfl rfl (by omega) rfl rfl (Nat.le_of_ble_eq_true rfl) ?_
  refine Call.post ?_ (cf_T_count_ok (by omega) (xs (x3 + (1 : Int32)).toNatClampNeg)  w _ h)
  rintro _ _ ⟨r239, rfl, rfl, h⟩
  show wp g (ay_Xs g b L xs) y_L_law code 4 ret d 2054 [(0, .ref b), (1, .ref (g.1 + 0)), (2, .ref (g.1 + 30)), (3, .int x3)] [.int r239] w Q
  refine am_aload_n d_L_law_2054 2 rfl ?_
  refine am_aload_n d_L_law_2055 0 rfl ?_
  refine am_iload_n d_L_law_2056 3 rfl ?_
  refine am_iconst (v := 1) d_L_law_2057 rfl ?_
  refine am_iadd d_L_law_2058 ?_
  have hi2059 := h.1
  have h := h.2
  refine am_sld d_L_law_2059 hi2059 ?_
  refine am_callV (C := "TriSplitsModel") (d2 := d - 1) [.int (xs (x3 + (1 : Int32)).toNatClampNeg)] d_L_law_2060 mi_M_count wd_1528 wd_1529 wd_1530 (by decide) (el_M (show ay_sh 30 = _ from rfl)) rfl rfl (by omega) rfl rfl (Nat.le_of_ble_eq_true rfl) ?_
  refine Call.post ?_ (cf_M_count_ok (by omega) (xs (x3 + (1 : Int32)).toNatClampNeg)  w _ h)
  rintro _ w241 ⟨r240, rfl, h⟩
  show wp g (ay_Xs g b L xs) y_L_law code 4 ret d 2063 [(0, .ref b), (1, .ref (g.1 + 0)), (2, .ref (g.1 + 30)), (3, .int x3)] [.int r240, .int r239] w241 Q
  refine am_icmp_eq (tgt := 2068) d_L_law_2063 (by decide) (fun c2063 => ?_) (fun c2063 => ?_)
  · have h := h.1 c2063
    obtain ⟨v242, ev242⟩ : ∃ z : Int32, z = x3 + (6 : Int32) := ⟨_, rfl⟩
    have h := h v242 ev242
    refine am_iinc (v := v242) (l' := [(3, .int v242), (0, .ref b), (1, .ref (g.1 + 0)), (2, .ref (g.1 + 30))]) d_L_law_2068 3 rfl (by rw [ev242]; rfl) (by decide) rfl ?_
    refine am_goto (tgt := 18) d_L_law_2071 (by decide) ?_
    refine am_sub [1, 2, 3, 0] rfl ?_
    exact hK18 v242 w241 h
  · have h := h.2 c2063
    refine am_iconst (v := 0) d_L_law_2066 rfl ?_
    exact am_ireturn d_L_law_2067 rfl rfl (hQ (0 : Int32) w241 h)
theorem cf_L_law_B18_ok {g : ayG} {d : Nat} (hd : 164 ≤ d) (b : Nat) (L : Nat) (xs : Nat → Int32)  (w : Wd) (K18 : Int32 → Wd → Prop) (P : Int32 → Wd → Prop) (Q : Option Value → Wd → Prop) (hQ : ∀ x w2, P x w2 → Q (some (.int x)) w2) (hK18 : ∀ (x3 : Int32) (w : Wd), (K18 x3 w → wp g (ay_Xs g b L xs) y_L_law code 4 ret d 18 [(0, .ref b), (1, .ref (g.1 + 0)), (2, .ref (g.1 + 30)), (3, .int x3)] [] w Q)) (x3 : Int32) (h : cf_L_law_B18 b L xs K18 P x3 w) : wp g (ay_Xs g b L xs) y_L_law code 4 ret d 18 [(0, .ref b), (1, .ref (g.1 + 0)), (2, .ref (g.1 + 30)), (3, .int x3)] [] w Q := by
  unfold cf_L_law_B18 at h
  refine am_iload_n d_L_law_18 3 rfl ?_
  refine am_aload_n d_L_law_19 0 rfl ?_
  refine am_slen d_L_law_20 ?_
  refine am_bipush (v := 6) d_L_law_21 rfl ?_
  refine am_isub d_L_law_23 ?_
  refine am_icmp_gt (tgt := 2074) d_L_law_24 (by decide) (fun c24 => ?_) (fun c24 => ?_)
  · have h := h.1 c24
    refine am_iconst (v := 1) d_L_law_2074 rfl ?_
    exact am_ireturn d_L_law_2075 rfl rfl (hQ (1 : Int32) w h)
  · have h := h.2 c24
    refine am_aload_n d_L_law_27 0 rfl ?_
    refine am_iload_n d_L_law_28 3 rfl ?_
    have hi29 := h.1
    have h := h.2
    refine am_sld d_L_law_29 hi29 ?_
    refine am_bipush (v := 63) d_L_law_30 rfl ?_
    refine am_iand d_L_law_32 ?_
    refine am_switch d_L_law_33 (by decide) (fun tgt ht hx => ?_) ⟨2068, by decide⟩ (fun i off ho hx => ?_)
    · have h := h.2.2.2.2.2.2.2.2.2.2.2.2.2.2.2.2.2.2.2.2.2.2.2.2.2.2.2.2.2.2.2.2.2.2.2.2.2.2.2.2.2.2.2.2.2.2.2.2.2 hx
      obtain rfl : tgt = 2068 := by omega
      obtain ⟨v243, ev243⟩ : ∃ z : Int32, z = x3 + (6 : Int32) := ⟨_, rfl⟩
      have h := h v243 ev243
      refine am_iinc (v := v243) (l' := [(3, .int v243), (0, .ref b), (1, .ref (g.1 + 0)), (2, .ref (g.1 + 30))]) d_L_law_2068 3 rfl (by rw [ev243]; rfl) (by decide) rfl ?_
      refine am_goto (tgt := 18) d_L_law_2071 (by decide) ?_
      refine am_sub [1, 2, 3, 0] rfl ?_
      exact hK18 v243 w h
    · have hi : i < 49 := (Array.getElem?_eq_some_iff.mp ho).1
      match i, hi, ho, hx with
      | 0, _, ho, hx =>
        refine ⟨244, ?_, ?_⟩
        · have e := Option.some.inj ho; rw [← e]; decide
        · have h := h.1 (Int32.toInt_inj.mp (by rw [hx]; decide))
          refine am_sub [0, 1, 2, 3] rfl ?_
          exact cf_L_law_B244_ok (by omega) b L xs  w K18 P Q hQ hK18 x3 h
      | 1, _, ho, hx =>
        refine ⟨307, ?_, ?_⟩
        · have e := Option.some.inj ho; rw [← e]; decide
        · have h := h.2.1 (Int32.toInt_inj.mp (by rw [hx]; decide))
          refine am_sub [0, 1, 2, 3] rfl ?_
          exact cf_L_law_B307_ok (by omega) b L xs  w K18 P Q hQ hK18 x3 h
      | 2, _, ho, hx =>
        refine ⟨330, ?_, ?_⟩
        · have e := Option.some.inj ho; rw [← e]; decide
        · have h := h.2.2.1 (Int32.toInt_inj.mp (by rw [hx]; decide))
          refine am_sub [0, 1, 2, 3] rfl ?_
          exact cf_L_law_B330_ok (by omega) b L xs  w K18 P Q hQ hK18 x3 h
      | 3, _, ho, hx =>
        refine ⟨343, ?_, ?_⟩
        · have e := Option.some.inj ho; rw [← e]; decide
        · have h := h.2.2.2.1 (Int32.toInt_inj.mp (by rw [hx]; decide))
          refine am_sub [0, 1, 2, 3] rfl ?_
          exact cf_L_law_B343_ok (by omega) b L xs  w K18 P Q hQ hK18 x3 h
      | 4, _, ho, hx =>
        refine ⟨366, ?_, ?_⟩
        · have e := Option.some.inj ho; rw [← e]; decide
        · have h := h.2.2.2.2.1 (Int32.toInt_inj.mp (by rw [hx]; decide))
          refine am_sub [0, 1, 2, 3] rfl ?_
          exact cf_L_law_B366_ok (by omega) b L xs  w K18 P Q hQ hK18 x3 h
      | 5, _, ho, hx =>
        refine ⟨429, ?_, ?_⟩
        · have e := Option.some.inj ho; rw [← e]; decide
        · have h := h.2.2.2.2.2.1 (Int32.toInt_inj.mp (by rw [hx]; decide))
          refine am_sub [0, 1, 2, 3] rfl ?_
          exact cf_L_law_B429_ok (by omega) b L xs  w K18 P Q hQ hK18 x3 h
      | 6, _, ho, hx =>
        refine ⟨472, ?_, ?_⟩
        · have e := Option.some.inj ho; rw [← e]; decide
        · have h := h.2.2.2.2.2.2.1 (Int32.toInt_inj.mp (by rw [hx]; decide))
          refine am_sub [0, 1, 2, 3] rfl ?_
          exact cf_L_law_B472_ok (by omega) b L xs  w K18 P Q hQ hK18 x3 h
      | 7, _, ho, hx =>
        refine ⟨515, ?_, ?_⟩
        · have e := Option.some.inj ho; rw [← e]; decide
        · have h := h.2.2.2.2.2.2.2.1 (Int32.toInt_inj.mp (by rw [hx]; decide))
          refine am_sub [0, 1, 2, 3] rfl ?_
          exact cf_L_law_B515_ok (by omega) b L xs  w K18 P Q hQ hK18 x3 h
      | 8, _, ho, hx =>
        refine ⟨558, ?_, ?_⟩
        · have e := Option.some.inj ho; rw [← e]; decide
        · have h := h.2.2.2.2.2.2.2.2.1 (Int32.toInt_inj.mp (by rw [hx]; decide))
          refine am_sub [0, 1, 2, 3] rfl ?_
          exact cf_L_law_B558_ok (by omega) b L xs  w K18 P Q hQ hK18 x3 h
      | 9, _, ho, hx =>
        refine ⟨601, ?_, ?_⟩
        · have e := Option.some.inj ho; rw [← e]; decide
        · have h := h.2.2.2.2.2.2.2.2.2.1 (Int32.toInt_inj.mp (by rw [hx]; decide))
          refine am_sub [0, 1, 2, 3] rfl ?_
          exact cf_L_law_B601_ok (by omega) b L xs  w K18 P Q hQ hK18 x3 h
      | 10, _, ho, hx =>
        refine ⟨644, ?_, ?_⟩
        · have e := Option.some.inj ho; rw [← e]; decide
        · have h := h.2.2.2.2.2.2.2.2.2.2.1 (Int32.toInt_inj.mp (by rw [hx]; decide))
          refine am_sub [0, 1, 2, 3] rfl ?_
          exact cf_L_law_B644_ok (by omega) b L xs  w K18 P Q hQ hK18 x3 h
      | 11, _, ho, hx =>
        refine ⟨727, ?_, ?_⟩
        · have e := Option.some.inj ho; rw [← e]; decide
        · have h := h.2.2.2.2.2.2.2.2.2.2.2.1 (Int32.toInt_inj.mp (by rw [hx]; decide))
          refine am_sub [0, 1, 2, 3] rfl ?_
          exact cf_L_law_B727_ok (by omega) b L xs  w K18 P Q hQ hK18 x3 h
      | 12, _, ho, hx =>
        refine ⟨760, ?_, ?_⟩
        · have e := Option.some.inj ho; rw [← e]; decide
        · have h := h.2.2.2.2.2.2.2.2.2.2.2.2.1 (Int32.toInt_inj.mp (by rw [hx]; decide))
          refine am_sub [0, 1, 2, 3] rfl ?_
          exact cf_L_law_B760_ok (by omega) b L xs  w K18 P Q hQ hK18 x3 h
      | 13, _, ho, hx =>
        refine ⟨813, ?_, ?_⟩
        · have e := Option.some.inj ho; rw [← e]; decide
        · have h := h.2.2.2.2.2.2.2.2.2.2.2.2.2.1 (Int32.toInt_inj.mp (by rw [hx]; decide))
          refine am_sub [0, 1, 2, 3] rfl ?_
          exact cf_L_law_B813_ok (by omega) b L xs  w K18 P Q hQ hK18 x3 h
      | 14, _, ho, hx =>
        refine ⟨856, ?_, ?_⟩
        · have e := Option.some.inj ho; rw [← e]; decide
        · have h := h.2.2.2.2.2.2.2.2.2.2.2.2.2.2.1 (Int32.toInt_inj.mp (by rw [hx]; decide))
          refine am_sub [0, 1, 2, 3] rfl ?_
          exact cf_L_law_B856_ok (by omega) b L xs  w K18 P Q hQ hK18 x3 h
      | 15, _, ho, hx =>
        refine ⟨899, ?_, ?_⟩
        · have e := Option.some.inj ho; rw [← e]; decide
        · have h := h.2.2.2.2.2.2.2.2.2.2.2.2.2.2.2.1 (Int32.toInt_inj.mp (by rw [hx]; decide))
          refine am_sub [0, 1, 2, 3] rfl ?_
          exact cf_L_law_B899_ok (by omega) b L xs  w K18 P Q hQ hK18 x3 h
      | 16, _, ho, hx =>
        refine ⟨962, ?_, ?_⟩
        · have e := Option.some.inj ho; rw [← e]; decide
        · have h := h.2.2.2.2.2.2.2.2.2.2.2.2.2.2.2.2.1 (Int32.toInt_inj.mp (by rw [hx]; decide))
          refine am_sub [0, 1, 2, 3] rfl ?_
          exact cf_L_law_B962_ok (by omega) b L xs  w K18 P Q hQ hK18 x3 h
      | 17, _, ho, hx =>
        refine ⟨986, ?_, ?_⟩
        · have e := Option.some.inj ho; rw [← e]; decide
        · have h := h.2.2.2.2.2.2.2.2.2.2.2.2.2.2.2.2.2.1 (Int32.toInt_inj.mp (by rw [hx]; decide))
          refine am_sub [0, 1, 2, 3] rfl ?_
          exact cf_L_law_B986_ok (by omega) b L xs  w K18 P Q hQ hK18 x3 h
      | 18, _, ho, hx =>
        refine ⟨1010, ?_, ?_⟩
        · have e := Option.some.inj ho; rw [← e]; decide
        · have h := h.2.2.2.2.2.2.2.2.2.2.2.2.2.2.2.2.2.2.1 (Int32.toInt_inj.mp (by rw [hx]; decide))
          refine am_sub [0, 1, 2, 3] rfl ?_
          exact cf_L_law_B1010_ok (by omega) b L xs  w K18 P Q hQ hK18 x3 h
      | 19, _, ho, hx =>
        refine ⟨1023, ?_, ?_⟩
        · have e := Option.some.inj ho; rw [← e]; decide
        · have h := h.2.2.2.2.2.2.2.2.2.2.2.2.2.2.2.2.2.2.2.1 (Int32.toInt_inj.mp (by rw [hx]; decide))
          refine am_sub [0, 1, 2, 3] rfl ?_
          exact cf_L_law_B1023_ok (by omega) b L xs  w K18 P Q hQ hK18 x3 h
      | 20, _, ho, hx =>
        refine ⟨1046, ?_, ?_⟩
        · have e := Option.some.inj ho; rw [← e]; decide
        · have h := h.2.2.2.2.2.2.2.2.2.2.2.2.2.2.2.2.2.2.2.2.1 (Int32.toInt_inj.mp (by rw [hx]; decide))
          refine am_sub [0, 1, 2, 3] rfl ?_
          exact cf_L_law_B1046_ok (by omega) b L xs  w K18 P Q hQ hK18 x3 h
      | 21, _, ho, hx =>
        refine ⟨1069, ?_, ?_⟩
        · have e := Option.some.inj ho; rw [← e]; decide
        · have h := h.2.2.2.2.2.2.2.2.2.2.2.2.2.2.2.2.2.2.2.2.2.1 (Int32.toInt_inj.mp (by rw [hx]; decide))
          refine am_sub [0, 1, 2, 3] rfl ?_
          exact cf_L_law_B1069_ok (by omega) b L xs  w K18 P Q hQ hK18 x3 h
      | 22, _, ho, hx =>
        refine ⟨1093, ?_, ?_⟩
        · have e := Option.some.inj ho; rw [← e]; decide
        · have h := h.2.2.2.2.2.2.2.2.2.2.2.2.2.2.2.2.2.2.2.2.2.2.1 (Int32.toInt_inj.mp (by rw [hx]; decide))
          refine am_sub [0, 1, 2, 3] rfl ?_
          exact cf_L_law_B1093_ok (by omega) b L xs  w K18 P Q hQ hK18 x3 h
      | 23, _, ho, hx =>
        refine ⟨1126, ?_, ?_⟩
        · have e := Option.some.inj ho; rw [← e]; decide
        · have h := h.2.2.2.2.2.2.2.2.2.2.2.2.2.2.2.2.2.2.2.2.2.2.2.1 (Int32.toInt_inj.mp (by rw [hx]; decide))
          refine am_sub [0, 1, 2, 3] rfl ?_
          exact cf_L_law_B1126_ok (by omega) b L xs  w K18 P Q hQ hK18 x3 h
      | 24, _, ho, hx =>
        refine ⟨1160, ?_, ?_⟩
        · have e := Option.some.inj ho; rw [← e]; decide
        · have h := h.2.2.2.2.2.2.2.2.2.2.2.2.2.2.2.2.2.2.2.2.2.2.2.2.1 (Int32.toInt_inj.mp (by rw [hx]; decide))
          refine am_sub [0, 1, 2, 3] rfl ?_
          exact cf_L_law_B1160_ok (by omega) b L xs  w K18 P Q hQ hK18 x3 h
      | 25, _, ho, hx =>
        refine ⟨1193, ?_, ?_⟩
        · have e := Option.some.inj ho; rw [← e]; decide
        · have h := h.2.2.2.2.2.2.2.2.2.2.2.2.2.2.2.2.2.2.2.2.2.2.2.2.2.1 (Int32.toInt_inj.mp (by rw [hx]; decide))
          refine am_sub [0, 1, 2, 3] rfl ?_
          exact cf_L_law_B1193_ok (by omega) b L xs  w K18 P Q hQ hK18 x3 h
      | 26, _, ho, hx =>
        refine ⟨1217, ?_, ?_⟩
        · have e := Option.some.inj ho; rw [← e]; decide
        · have h := h.2.2.2.2.2.2.2.2.2.2.2.2.2.2.2.2.2.2.2.2.2.2.2.2.2.2.1 (Int32.toInt_inj.mp (by rw [hx]; decide))
          refine am_sub [0, 1, 2, 3] rfl ?_
          exact cf_L_law_B1217_ok (by omega) b L xs  w K18 P Q hQ hK18 x3 h
      | 27, _, ho, hx =>
        refine ⟨1250, ?_, ?_⟩
        · have e := Option.some.inj ho; rw [← e]; decide
        · have h := h.2.2.2.2.2.2.2.2.2.2.2.2.2.2.2.2.2.2.2.2.2.2.2.2.2.2.2.1 (Int32.toInt_inj.mp (by rw [hx]; decide))
          refine am_sub [0, 1, 2, 3] rfl ?_
          exact cf_L_law_B1250_ok (by omega) b L xs  w K18 P Q hQ hK18 x3 h
      | 28, _, ho, hx =>
        refine ⟨1273, ?_, ?_⟩
        · have e := Option.some.inj ho; rw [← e]; decide
        · have h := h.2.2.2.2.2.2.2.2.2.2.2.2.2.2.2.2.2.2.2.2.2.2.2.2.2.2.2.2.1 (Int32.toInt_inj.mp (by rw [hx]; decide))
          refine am_sub [0, 1, 2, 3] rfl ?_
          exact cf_L_law_B1273_ok (by omega) b L xs  w K18 P Q hQ hK18 x3 h
      | 29, _, ho, hx =>
        refine ⟨1306, ?_, ?_⟩
        · have e := Option.some.inj ho; rw [← e]; decide
        · have h := h.2.2.2.2.2.2.2.2.2.2.2.2.2.2.2.2.2.2.2.2.2.2.2.2.2.2.2.2.2.1 (Int32.toInt_inj.mp (by rw [hx]; decide))
          refine am_sub [0, 1, 2, 3] rfl ?_
          exact cf_L_law_B1306_ok (by omega) b L xs  w K18 P Q hQ hK18 x3 h
      | 30, _, ho, hx =>
        refine ⟨1380, ?_, ?_⟩
        · have e := Option.some.inj ho; rw [← e]; decide
        · have h := h.2.2.2.2.2.2.2.2.2.2.2.2.2.2.2.2.2.2.2.2.2.2.2.2.2.2.2.2.2.2.1 (Int32.toInt_inj.mp (by rw [hx]; decide))
          refine am_sub [0, 1, 2, 3] rfl ?_
          exact cf_L_law_B1380_ok (by omega) b L xs  w K18 P Q hQ hK18 x3 h
      | 31, _, ho, hx =>
        refine ⟨1439, ?_, ?_⟩
        · have e := Option.some.inj ho; rw [← e]; decide
        · have h := h.2.2.2.2.2.2.2.2.2.2.2.2.2.2.2.2.2.2.2.2.2.2.2.2.2.2.2.2.2.2.2.1 (Int32.toInt_inj.mp (by rw [hx]; decide))
          refine am_sub [0, 1, 2, 3] rfl ?_
          exact cf_L_law_B1439_ok (by omega) b L xs  w K18 P Q hQ hK18 x3 h
      | 32, _, ho, hx =>
        refine ⟨1489, ?_, ?_⟩
        · have e := Option.some.inj ho; rw [← e]; decide
        · have h := h.2.2.2.2.2.2.2.2.2.2.2.2.2.2.2.2.2.2.2.2.2.2.2.2.2.2.2.2.2.2.2.2.1 (Int32.toInt_inj.mp (by rw [hx]; decide))
          refine am_sub [0, 1, 2, 3] rfl ?_
          exact cf_L_law_B1489_ok (by omega) b L xs  w K18 P Q hQ hK18 x3 h
      | 33, _, ho, hx =>
        refine ⟨1539, ?_, ?_⟩
        · have e := Option.some.inj ho; rw [← e]; decide
        · have h := h.2.2.2.2.2.2.2.2.2.2.2.2.2.2.2.2.2.2.2.2.2.2.2.2.2.2.2.2.2.2.2.2.2.1 (Int32.toInt_inj.mp (by rw [hx]; decide))
          refine am_sub [0, 1, 2, 3] rfl ?_
          exact cf_L_law_B1539_ok (by omega) b L xs  w K18 P Q hQ hK18 x3 h
      | 34, _, ho, hx =>
        refine ⟨1582, ?_, ?_⟩
        · have e := Option.some.inj ho; rw [← e]; decide
        · have h := h.2.2.2.2.2.2.2.2.2.2.2.2.2.2.2.2.2.2.2.2.2.2.2.2.2.2.2.2.2.2.2.2.2.2.1 (Int32.toInt_inj.mp (by rw [hx]; decide))
          refine am_sub [0, 1, 2, 3] rfl ?_
          exact cf_L_law_B1582_ok (by omega) b L xs  w K18 P Q hQ hK18 x3 h
      | 35, _, ho, hx =>
        refine ⟨1605, ?_, ?_⟩
        · have e := Option.some.inj ho; rw [← e]; decide
        · have h := h.2.2.2.2.2.2.2.2.2.2.2.2.2.2.2.2.2.2.2.2.2.2.2.2.2.2.2.2.2.2.2.2.2.2.2.1 (Int32.toInt_inj.mp (by rw [hx]; decide))
          refine am_sub [0, 1, 2, 3] rfl ?_
          exact cf_L_law_B1605_ok (by omega) b L xs  w K18 P Q hQ hK18 x3 h
      | 36, _, ho, hx =>
        refine ⟨1639, ?_, ?_⟩
        · have e := Option.some.inj ho; rw [← e]; decide
        · have h := h.2.2.2.2.2.2.2.2.2.2.2.2.2.2.2.2.2.2.2.2.2.2.2.2.2.2.2.2.2.2.2.2.2.2.2.2.1 (Int32.toInt_inj.mp (by rw [hx]; decide))
          refine am_sub [0, 1, 2, 3] rfl ?_
          exact cf_L_law_B1639_ok (by omega) b L xs  w K18 P Q hQ hK18 x3 h
      | 37, _, ho, hx =>
        refine ⟨1672, ?_, ?_⟩
        · have e := Option.some.inj ho; rw [← e]; decide
        · have h := h.2.2.2.2.2.2.2.2.2.2.2.2.2.2.2.2.2.2.2.2.2.2.2.2.2.2.2.2.2.2.2.2.2.2.2.2.2.1 (Int32.toInt_inj.mp (by rw [hx]; decide))
          refine am_sub [0, 1, 2, 3] rfl ?_
          exact cf_L_law_B1672_ok (by omega) b L xs  w K18 P Q hQ hK18 x3 h
      | 38, _, ho, hx =>
        refine ⟨1705, ?_, ?_⟩
        · have e := Option.some.inj ho; rw [← e]; decide
        · have h := h.2.2.2.2.2.2.2.2.2.2.2.2.2.2.2.2.2.2.2.2.2.2.2.2.2.2.2.2.2.2.2.2.2.2.2.2.2.2.1 (Int32.toInt_inj.mp (by rw [hx]; decide))
          refine am_sub [0, 1, 2, 3] rfl ?_
          exact cf_L_law_B1705_ok (by omega) b L xs  w K18 P Q hQ hK18 x3 h
      | 39, _, ho, hx =>
        refine ⟨1749, ?_, ?_⟩
        · have e := Option.some.inj ho; rw [← e]; decide
        · have h := h.2.2.2.2.2.2.2.2.2.2.2.2.2.2.2.2.2.2.2.2.2.2.2.2.2.2.2.2.2.2.2.2.2.2.2.2.2.2.2.1 (Int32.toInt_inj.mp (by rw [hx]; decide))
          refine am_sub [0, 1, 2, 3] rfl ?_
          exact cf_L_law_B1749_ok (by omega) b L xs  w K18 P Q hQ hK18 x3 h
      | 40, _, ho, hx =>
        refine ⟨1782, ?_, ?_⟩
        · have e := Option.some.inj ho; rw [← e]; decide
        · have h := h.2.2.2.2.2.2.2.2.2.2.2.2.2.2.2.2.2.2.2.2.2.2.2.2.2.2.2.2.2.2.2.2.2.2.2.2.2.2.2.2.1 (Int32.toInt_inj.mp (by rw [hx]; decide))
          refine am_sub [0, 1, 2, 3] rfl ?_
          exact cf_L_law_B1782_ok (by omega) b L xs  w K18 P Q hQ hK18 x3 h
      | 41, _, ho, hx =>
        refine ⟨1806, ?_, ?_⟩
        · have e := Option.some.inj ho; rw [← e]; decide
        · have h := h.2.2.2.2.2.2.2.2.2.2.2.2.2.2.2.2.2.2.2.2.2.2.2.2.2.2.2.2.2.2.2.2.2.2.2.2.2.2.2.2.2.1 (Int32.toInt_inj.mp (by rw [hx]; decide))
          refine am_sub [0, 1, 2, 3] rfl ?_
          exact cf_L_law_B1806_ok (by omega) b L xs  w K18 P Q hQ hK18 x3 h
      | 42, _, ho, hx =>
        refine ⟨1839, ?_, ?_⟩
        · have e := Option.some.inj ho; rw [← e]; decide
        · have h := h.2.2.2.2.2.2.2.2.2.2.2.2.2.2.2.2.2.2.2.2.2.2.2.2.2.2.2.2.2.2.2.2.2.2.2.2.2.2.2.2.2.2.1 (Int32.toInt_inj.mp (by rw [hx]; decide))
          refine am_sub [0, 1, 2, 3] rfl ?_
          exact cf_L_law_B1839_ok (by omega) b L xs  w K18 P Q hQ hK18 x3 h
      | 43, _, ho, hx =>
        refine ⟨1872, ?_, ?_⟩
        · have e := Option.some.inj ho; rw [← e]; decide
        · have h := h.2.2.2.2.2.2.2.2.2.2.2.2.2.2.2.2.2.2.2.2.2.2.2.2.2.2.2.2.2.2.2.2.2.2.2.2.2.2.2.2.2.2.2.1 (Int32.toInt_inj.mp (by rw [hx]; decide))
          refine am_sub [0, 1, 2, 3] rfl ?_
          exact cf_L_law_B1872_ok (by omega) b L xs  w K18 P Q hQ hK18 x3 h
      | 44, _, ho, hx =>
        refine ⟨1922, ?_, ?_⟩
        · have e := Option.some.inj ho; rw [← e]; decide
        · have h := h.2.2.2.2.2.2.2.2.2.2.2.2.2.2.2.2.2.2.2.2.2.2.2.2.2.2.2.2.2.2.2.2.2.2.2.2.2.2.2.2.2.2.2.2.1 (Int32.toInt_inj.mp (by rw [hx]; decide))
          refine am_sub [0, 1, 2, 3] rfl ?_
          exact cf_L_law_B1922_ok (by omega) b L xs  w K18 P Q hQ hK18 x3 h
      | 45, _, ho, hx =>
        refine ⟨1956, ?_, ?_⟩
        · have e := Option.some.inj ho; rw [← e]; decide
        · have h := h.2.2.2.2.2.2.2.2.2.2.2.2.2.2.2.2.2.2.2.2.2.2.2.2.2.2.2.2.2.2.2.2.2.2.2.2.2.2.2.2.2.2.2.2.2.1 (Int32.toInt_inj.mp (by rw [hx]; decide))
          refine am_sub [0, 1, 2, 3] rfl ?_
          exact cf_L_law_B1956_ok (by omega) b L xs  w K18 P Q hQ hK18 x3 h
      | 46, _, ho, hx =>
        refine ⟨1979, ?_, ?_⟩
        · have e := Option.some.inj ho; rw [← e]; decide
        · have h := h.2.2.2.2.2.2.2.2.2.2.2.2.2.2.2.2.2.2.2.2.2.2.2.2.2.2.2.2.2.2.2.2.2.2.2.2.2.2.2.2.2.2.2.2.2.2.1 (Int32.toInt_inj.mp (by rw [hx]; decide))
          refine am_sub [0, 1, 2, 3] rfl ?_
          exact cf_L_law_B1979_ok (by omega) b L xs  w K18 P Q hQ hK18 x3 h
      | 47, _, ho, hx =>
        refine ⟨2012, ?_, ?_⟩
        · have e := Option.some.inj ho; rw [← e]; decide
        · have h := h.2.2.2.2.2.2.2.2.2.2.2.2.2.2.2.2.2.2.2.2.2.2.2.2.2.2.2.2.2.2.2.2.2.2.2.2.2.2.2.2.2.2.2.2.2.2.2.1 (Int32.toInt_inj.mp (by rw [hx]; decide))
          refine am_sub [0, 1, 2, 3] rfl ?_
          exact cf_L_law_B2012_ok (by omega) b L xs  w K18 P Q hQ hK18 x3 h
      | 48, _, ho, hx =>
        refine ⟨2045, ?_, ?_⟩
        · have e := Option.some.inj ho; rw [← e]; decide
        · have h := h.2.2.2.2.2.2.2.2.2.2.2.2.2.2.2.2.2.2.2.2.2.2.2.2.2.2.2.2.2.2.2.2.2.2.2.2.2.2.2.2.2.2.2.2.2.2.2.2.1 (Int32.toInt_inj.mp (by rw [hx]; decide))
          refine am_sub [0, 1, 2, 3] rfl ?_
          exact cf_L_law_B2045_ok (by omega) b L xs  w K18 P Q hQ hK18 x3 h
      | n + 49, hi, _, _ => exact absurd hi (by omega)
theorem cf_L_law_L18_ok {g : ayG} {d : Nat} (hd : 164 ≤ d) (b : Nat) (L : Nat) (xs : Nat → Int32)   (P : Int32 → Wd → Prop) (Q : Option Value → Wd → Prop) (hQ : ∀ x w2, P x w2 → Q (some (.int x)) w2)  : ∀ (n : Nat) (x3 : Int32) (w : Wd) (h : cf_L_law_L18 b L xs P n x3 w), wp g (ay_Xs g b L xs) y_L_law code 4 ret d 18 [(0, .ref b), (1, .ref (g.1 + 0)), (2, .ref (g.1 + 30)), (3, .int x3)] [] w Q
  | 0, x3, w, h => False.elim h
  | n + 1, x3, w, h => cf_L_law_B18_ok hd b L xs  w (cf_L_law_L18 b L xs P n) P Q hQ (fun x3 w h => cf_L_law_L18_ok hd b L xs   P Q hQ  n x3 w h) x3 h
